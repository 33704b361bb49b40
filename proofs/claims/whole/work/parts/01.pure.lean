/-! rows of the kit to paste, then the pure picture -/
theorem pk_us {f : Nat → Int32} {k : Nat} {x : Int32} : upd f k x k = x := if_pos rfl
theorem pk_un {f : Nat → Int32} {k j : Nat} {x : Int32} (h : j ≠ k) : upd f k x j = f j := if_neg h
theorem pk_sub {a b : Nat} (h : b ≤ a) : nI a - nI b = nI (a - b) := by
  obtain ⟨c, rfl⟩ : ∃ c, a = c + b := ⟨a - b, by omega⟩
  rw [← nI_add, Int32.add_sub_cancel, Nat.add_sub_cancel]
theorem pk_m1 (n : Nat) : nI (n + 1) + (-1) = nI n := by
  rw [← nI_1, Int32.add_assoc, show (1 : Int32) + (-1) = 0 from rfl, Int32.add_zero]
theorem pk_mul (a b : Nat) : nI a * nI b = nI (a * b) := (Int32.ofNat_mul a b).symm
theorem pk_ix (x : Int32) {n : Nat} (hn : n < 2 ^ 31) : x < 0 ∨ nI n ≤ x ∨ ∃ j : Nat, j < n ∧ x = nI j := by
  by_cases h : x < 0
  · exact Or.inl h
  · obtain ⟨j, hj, rfl⟩ := nI_of h
    by_cases h2 : j < n
    · exact Or.inr (Or.inr ⟨j, h2, rfl⟩)
    · exact Or.inr (Or.inl (nI_le (by omega) hj))
theorem pk_le {x y : Int32} {A B : Prop} (a b : Nat) (f : a ≤ b → A) (g : b < a → B) (hx : x = nI a := by rfl) (hy : y = nI b := by rfl) (ha : a < 2 ^ 31 := by omega) (hb : b < 2 ^ 31 := by omega) : (x ≤ y → A) ∧ (¬ x ≤ y → B) := by
  subst hx hy
  rw [nI_leI ha hb]
  exact ⟨f, fun z => g (by omega)⟩
theorem pk_lt {x y : Int32} {A B : Prop} (a b : Nat) (f : a < b → A) (g : b ≤ a → B) (hx : x = nI a := by rfl) (hy : y = nI b := by rfl) (ha : a < 2 ^ 31 := by omega) (hb : b < 2 ^ 31 := by omega) : (x < y → A) ∧ (¬ x < y → B) := by
  subst hx hy
  rw [nI_ltI ha hb]
  exact ⟨f, fun z => g (by omega)⟩
theorem pk_eq {x y : Int32} {A B : Prop} (a b : Nat) (f : a = b → A) (g : a ≠ b → B) (hx : x = nI a := by rfl) (hy : y = nI b := by rfl) (ha : a < 2 ^ 31 := by omega) (hb : b < 2 ^ 31 := by omega) : (x = y → A) ∧ (¬ x = y → B) := by
  subst hx hy
  rw [nI_eq ha hb]
  exact ⟨f, g⟩
theorem pk_in {x : Int32} (n N : Nat) (h : n < N) (hx : x = nI n := by rfl) (hN : N < 2 ^ 31 := by omega) : vp_in x N := by
  subst hx
  exact vp_in_nI h hN
theorem pk_cl {x : Int32} (n : Nat) (hx : x = nI n := by rfl) (h : n < 2 ^ 31 := by omega) : x.toNatClampNeg = n := by
  subst hx
  exact nI_clamp h
theorem pk_tn {n : Nat} (h : n < 2 ^ 32) : (nI n).toBitVec.toNat = n := Nat.mod_eq_of_lt h
theorem pk_shr (a s : Int32) (k : Nat) (hs : (s.toBitVec.smod 32).toNat = k) : (a >>> s).toInt = a.toInt >>> k := by
  show (a.toBitVec.sshiftRight (s.toBitVec.smod 32).toNat).toInt = _
  rw [hs, BitVec.toInt_sshiftRight]
  rfl
theorem pk_shrN {n : Nat} (h : n < 2 ^ 31) (s : Int32) (k : Nat) (hs : (s.toBitVec.smod 32).toNat = k) : nI n >>> s = nI (n / 2 ^ k) := by
  apply Int32.toInt_inj.mp
  have h2 : n / 2 ^ k ≤ n := Nat.div_le_self _ _
  rw [pk_shr _ _ k hs, nI_toInt h, nI_toInt (by omega), Int.shiftRight_eq_div_pow]
  rfl
theorem pk_and (x : Int32) {m : Int32} (k : Nat) (hm : m.toBitVec.toNat = 2 ^ k - 1) : x &&& m = nI (x.toBitVec.toNat % 2 ^ k) := by
  apply Int32.toBitVec_inj.mp
  apply BitVec.eq_of_toNat_eq
  rw [Int32.toBitVec_and, BitVec.toNat_and, hm, Nat.and_two_pow_sub_one_eq_mod]
  show _ = (BitVec.ofNat 32 _).toNat
  rw [BitVec.toNat_ofNat]
  exact (Nat.mod_eq_of_lt (Nat.lt_of_le_of_lt (Nat.mod_le _ _) x.toBitVec.isLt)).symm
theorem pk_andN {n : Nat} (h : n < 2 ^ 32) {m : Int32} (k : Nat) (hm : m.toBitVec.toNat = 2 ^ k - 1) : nI n &&& m = nI (n % 2 ^ k) := by
  rw [pk_and _ k hm, pk_tn h]
/-! the pure picture: cells, sums, loops, the ghost stack, the table of values -/
abbrev wr_C : Type := Option (Int32 × Nat × Nat)
def wr_ei (a b : wr_C) : wr_C :=
  match a, b with
  | none, b => b
  | some a, none => some a
  | some (c, l, h), some (c', l', h') => some (c + c', if l' < l then l' else l, if h < h' then h' else h)
def wr_to (e : Nat) (a b : wr_C) : wr_C :=
  match a, b with
  | some (c, l, h), some (c', l', h') => some (c * c', l + l' + e, h + h' + e)
  | some _, none => none
  | none, _ => none
def wr_x0 : wr_C → Int32
  | none => 0
  | some (c, _, _) => c
def wr_x1 : wr_C → Int32
  | none => -4
  | some (_, l, _) => nI l
def wr_x2 : wr_C → Int32
  | none => -4
  | some (_, _, h) => nI h
def wr_y (m : Int32) : wr_C → Int32
  | none => if m = 0 then 0 else -1
  | some (c, l, h) => if m = 0 then c else if m = 1 then nI l else nI h
def wr_bd (B : Nat) : wr_C → Prop
  | none => True
  | some (_, l, h) => l ≤ B ∧ h ≤ B
def wr_su (f : Nat → wr_C) (a : Nat) : Nat → wr_C
  | 0 => none
  | n + 1 => wr_ei (wr_su f a n) (f (a + n))
theorem wr_su_s (f : Nat → wr_C) (a n : Nat) : wr_su f a (n + 1) = wr_ei (wr_su f a n) (f (a + n)) := rfl
theorem wr_ei_n (a : wr_C) : wr_ei a none = a := by cases a <;> rfl
theorem wr_n_ei (a : wr_C) : wr_ei none a = a := by cases a <;> rfl
theorem wr_to_n (e : Nat) (a : wr_C) : wr_to e a none = none := by cases a <;> rfl
theorem wr_n_to (e : Nat) (a : wr_C) : wr_to e none a = none := by cases a <;> rfl
theorem wr_bd_up {A B : Nat} {a : wr_C} (h : wr_bd A a) (hl : A ≤ B) : wr_bd B a := by
  match a, h with
  | none, _ => exact True.intro
  | some (c, l, k), h => exact ⟨Nat.le_trans h.1 hl, Nat.le_trans h.2 hl⟩
theorem wr_ei_bd {B : Nat} {a b : wr_C} (ha : wr_bd B a) (hb : wr_bd B b) : wr_bd B (wr_ei a b) := by
  match a, b, ha, hb with
  | none, b, _, hb => rw [wr_n_ei]; exact hb
  | some a, none, ha, _ => exact ha
  | some (c, l, h), some (c', l', h'), ha, hb =>
    obtain ⟨h1, h2⟩ := ha
    obtain ⟨h3, h4⟩ := hb
    show (if l' < l then l' else l) ≤ B ∧ (if h < h' then h' else h) ≤ B
    constructor <;> split <;> assumption
theorem wr_to_bd {A B D e : Nat} {a b : wr_C} (ha : wr_bd A a) (hb : wr_bd B b) (h : A + B + e ≤ D) : wr_bd D (wr_to e a b) := by
  match a, b, ha, hb with
  | none, b, _, _ => rw [wr_n_to]; exact True.intro
  | some a, none, _, _ => rw [wr_to_n]; exact True.intro
  | some (c, l, k), some (c', l', k'), ha, hb =>
    obtain ⟨h1, h2⟩ := ha
    obtain ⟨h3, h4⟩ := hb
    show l + l' + e ≤ D ∧ k + k' + e ≤ D
    constructor <;> omega
theorem wr_su_cg {f g : Nat → wr_C} {a : Nat} : ∀ n, (∀ k, a ≤ k → k < a + n → f k = g k) → wr_su f a n = wr_su g a n
  | 0, _ => rfl
  | n + 1, h => by
    rw [wr_su_s, wr_su_s, wr_su_cg n (fun k h1 h2 => h k h1 (by omega)), h (a + n) (by omega) (by omega)]
theorem wr_su_bd {f : Nat → wr_C} {a B : Nat} : ∀ n, (∀ k, a ≤ k → k < a + n → wr_bd B (f k)) → wr_bd B (wr_su f a n)
  | 0, _ => True.intro
  | n + 1, h => wr_ei_bd (wr_su_bd n (fun k h1 h2 => h k h1 (by omega))) (h (a + n) (by omega) (by omega))
def wr_lp (P : Nat → Nat → wr_C) (c : Nat) : Nat → Nat → Nat → wr_C
  | 0, i, j => if i = j then some (1, 0, 0) else none
  | d + 1, i, j => if i = j then some (1, 0, 0) else wr_su (fun k => wr_to c (P i k) (wr_lp P c d k j)) (i + 1) (j - i)
theorem wr_lp_0 (P : Nat → Nat → wr_C) (c i j : Nat) : wr_lp P c 0 i j = if i = j then some (1, 0, 0) else none := rfl
theorem wr_lp_s (P : Nat → Nat → wr_C) (c d i j : Nat) : wr_lp P c (d + 1) i j = if i = j then some (1, 0, 0) else wr_su (fun k => wr_to c (P i k) (wr_lp P c d k j)) (i + 1) (j - i) := rfl
theorem wr_lp_i (P : Nat → Nat → wr_C) (c d i : Nat) : wr_lp P c d i i = some (1, 0, 0) := by
  cases d with
  | zero => rw [wr_lp_0, if_pos rfl]
  | succ d => rw [wr_lp_s, if_pos rfl]
theorem wr_lp_st (P : Nat → Nat → wr_C) (c : Nat) : ∀ d d' i j, i ≤ j → j ≤ i + d → j ≤ i + d' → wr_lp P c d i j = wr_lp P c d' i j := by
  intro d
  induction d with
  | zero =>
    intro d' i j h1 h2 _
    have e : i = j := by omega
    subst e
    rw [wr_lp_i, wr_lp_i]
  | succ d ih =>
    intro d' i j h1 h2 h3
    by_cases e : i = j
    · subst e
      rw [wr_lp_i, wr_lp_i]
    · cases d' with
      | zero => omega
      | succ d' =>
        rw [wr_lp_s, wr_lp_s, if_neg e, if_neg e]
        exact wr_su_cg _ (fun k h4 h5 => by rw [ih d' k j (by omega) (by omega) (by omega)])
theorem wr_lp_eq (P : Nat → Nat → wr_C) (c i j : Nat) (h : i < j) : wr_lp P c (j - i) i j = wr_su (fun k => wr_to c (P i k) (wr_lp P c (j - k) k j)) (i + 1) (j - i) := by
  obtain ⟨d, hd⟩ : ∃ d, j = i + d + 1 := ⟨j - i - 1, by omega⟩
  rw [wr_lp_st P c (j - i) (d + 1) i j (by omega) (by omega) (by omega), wr_lp_s, if_neg (by omega)]
  exact wr_su_cg _ (fun k h4 h5 => by rw [wr_lp_st P c d (j - k) k j (by omega) (by omega) (by omega)])
theorem wr_lp_bd (P : Nat → Nat → wr_C) (c M : Nat) (hc : c ≤ 9) (hP : ∀ i k, i < k → wr_bd (M * (k - i)) (P i k)) : ∀ d i j, i ≤ j → wr_bd ((M + 9) * (j - i)) (wr_lp P c d i j) := by
  intro d
  induction d with
  | zero =>
    intro i j h
    rw [wr_lp_0]
    split
    · exact ⟨Nat.zero_le _, Nat.zero_le _⟩
    · exact True.intro
  | succ d ih =>
    intro i j h
    rw [wr_lp_s]
    split
    · exact ⟨Nat.zero_le _, Nat.zero_le _⟩
    · refine wr_su_bd _ (fun k h1 h2 => wr_to_bd (hP i k (by omega)) (ih k j (by omega)) ?_)
      have e1 : (M + 9) * (j - i) = (M + 9) * (k - i) + (M + 9) * (j - k) := by
        rw [← Nat.mul_add]
        congr 1
        omega
      have e2 : (M + 9) * (k - i) = M * (k - i) + 9 * (k - i) := Nat.add_mul _ _ _
      omega
def wr_tp (K : Nat → Int32) : Nat → Nat
  | 0 => 0
  | s + 1 => if K s < 3 then wr_tp K s + 1 else if K s < 5 then wr_tp K s - 1 else wr_tp K s
def wr_og (K : Nat → Int32) : Nat → Nat → Nat
  | 0, _ => 0
  | s + 1, t => if t + 1 = wr_tp K (s + 1) then s else wr_og K s t
theorem wr_tp_s (K : Nat → Int32) (s : Nat) : wr_tp K (s + 1) = if K s < 3 then wr_tp K s + 1 else if K s < 5 then wr_tp K s - 1 else wr_tp K s := rfl
theorem wr_og_s (K : Nat → Int32) (s t : Nat) : wr_og K (s + 1) t = if t + 1 = wr_tp K (s + 1) then s else wr_og K s t := rfl
theorem wr_og_lt (K : Nat → Int32) : ∀ s t, wr_og K (s + 1) t < s + 1
  | 0, t => by
    rw [wr_og_s]
    split
    · omega
    · show 0 < 0 + 1
      omega
  | s + 1, t => by
    have := wr_og_lt K s t
    rw [wr_og_s]
    split <;> omega
theorem wr_tp_le (K : Nat → Int32) : ∀ s, wr_tp K s ≤ s
  | 0 => Nat.le_refl 0
  | s + 1 => by
    have := wr_tp_le K s
    rw [wr_tp_s]
    split
    · omega
    · split <;> omega
theorem wr_tp_cg {K K' : Nat → Int32} : ∀ s, (∀ t, t < s → K t = K' t) → wr_tp K s = wr_tp K' s
  | 0, _ => rfl
  | s + 1, h => by
    rw [wr_tp_s, wr_tp_s, h s (by omega), wr_tp_cg s (fun t ht => h t (by omega))]
theorem wr_og_cg {K K' : Nat → Int32} : ∀ s, (∀ t, t < s → K t = K' t) → ∀ t, wr_og K s t = wr_og K' s t
  | 0, _, _ => rfl
  | s + 1, h, t => by
    rw [wr_og_s, wr_og_s, wr_tp_cg (s + 1) h, wr_og_cg s (fun t ht => h t (by omega)) t]
/-- one step of a program is as it should be: its cost, its kind, its operands -/
def wr_ok (K C L R : Nat → Int32) (s : Nat) : Prop :=
  (∃ c, c ≤ 9 ∧ C s = nI c ∧ (K s = 2 → c = 0)) ∧
  (K s = 0 ∨ K s = 1 ∨ K s = 2 ∨
    (K s = 3 ∧ 2 ≤ wr_tp K s ∧ L s = nI (wr_og K s (wr_tp K s - 2)) ∧ R s = nI (wr_og K s (wr_tp K s - 1))) ∨
    (K s = 4 ∧ 2 ≤ wr_tp K s ∧ L s = nI (wr_og K s (wr_tp K s - 2)) ∧ R s = nI (wr_og K s (wr_tp K s - 1))) ∨
    (K s = 5 ∧ 1 ≤ wr_tp K s ∧ L s = nI (wr_og K s (wr_tp K s - 1))))
theorem wr_ok_cg {K C L R K' C' L' R' : Nat → Int32} {s : Nat} (hK : ∀ t, t ≤ s → K' t = K t) (hC : C' s = C s) (hL : L' s = L s) (hR : R' s = R s) (h : wr_ok K C L R s) : wr_ok K' C' L' R' s := by
  unfold wr_ok at h ⊢
  rw [hK s (Nat.le_refl s), hC, hL, hR, wr_tp_cg s (fun t ht => hK t (by omega)), wr_og_cg s (fun t ht => hK t (by omega)), wr_og_cg s (fun t ht => hK t (by omega))]
  exact h
theorem wr_ok_pos {K C L R : Nat → Int32} {s : Nat} (h : wr_ok K C L R s) : 0 < s ∨ K s = 0 ∨ K s = 1 ∨ K s = 2 := by
  have e : 1 ≤ wr_tp K s → 0 < s := fun h => by
    have := wr_tp_le K s
    omega
  rcases h.2 with h | h | h | h | h | h
  · exact Or.inr (Or.inl h)
  · exact Or.inr (Or.inr (Or.inl h))
  · exact Or.inr (Or.inr (Or.inr h))
  · exact Or.inl (e (Nat.le_of_succ_le h.2.1))
  · exact Or.inl (e (Nat.le_of_succ_le h.2.1))
  · exact Or.inl (e h.2.1)
