section
/-! rows of the kit to paste, then the pure picture -/
theorem pk_us {f : Nat → Int32} {k : Nat} {x : Int32} : upd f k x k = x := if_pos rfl
theorem pk_un {f : Nat → Int32} {k j : Nat} {x : Int32} (h : j ≠ k) : upd f k x j = f j := if_neg h
theorem pk_sub {a b : Nat} (h : b ≤ a) : nI a - nI b = nI (a - b) := by
  obtain ⟨c, rfl⟩ : ∃ c, a = c + b := ⟨a - b, by omega⟩
  rw [← nI_add, Int32.add_sub_cancel, Nat.add_sub_cancel]
theorem pk_m1 (n : Nat) : nI (n + 1) + (-1) = nI n := by
  rw [← nI_1, Int32.add_assoc, show (1 : Int32) + (-1) = 0 from rfl, Int32.add_zero]
theorem pk_mul (a b : Nat) : nI a * nI b = nI (a * b) := (Int32.ofNat_mul a b).symm
theorem pk_ix (x : Int32) {n : Nat} (hn : n < 2 ^ 31) : x < 0 ∨ nI n ≤ x ∨ ∃ j : Nat, j < n ∧ x = nI j := by
  by_cases h : x < 0
  · exact Or.inl h
  · obtain ⟨j, hj, rfl⟩ := nI_of h
    by_cases h2 : j < n
    · exact Or.inr (Or.inr ⟨j, h2, rfl⟩)
    · exact Or.inr (Or.inl (nI_le (by omega) hj))
theorem pk_le {x y : Int32} {A B : Prop} (a b : Nat) (f : a ≤ b → A) (g : b < a → B) (hx : x = nI a := by rfl) (hy : y = nI b := by rfl) (ha : a < 2 ^ 31 := by omega) (hb : b < 2 ^ 31 := by omega) : (x ≤ y → A) ∧ (¬ x ≤ y → B) := by
  subst hx hy
  rw [nI_leI ha hb]
  exact ⟨f, fun z => g (by omega)⟩
theorem pk_lt {x y : Int32} {A B : Prop} (a b : Nat) (f : a < b → A) (g : b ≤ a → B) (hx : x = nI a := by rfl) (hy : y = nI b := by rfl) (ha : a < 2 ^ 31 := by omega) (hb : b < 2 ^ 31 := by omega) : (x < y → A) ∧ (¬ x < y → B) := by
  subst hx hy
  rw [nI_ltI ha hb]
  exact ⟨f, fun z => g (by omega)⟩
theorem pk_eq {x y : Int32} {A B : Prop} (a b : Nat) (f : a = b → A) (g : a ≠ b → B) (hx : x = nI a := by rfl) (hy : y = nI b := by rfl) (ha : a < 2 ^ 31 := by omega) (hb : b < 2 ^ 31 := by omega) : (x = y → A) ∧ (¬ x = y → B) := by
  subst hx hy
  rw [nI_eq ha hb]
  exact ⟨f, g⟩
theorem pk_in {x : Int32} (n N : Nat) (h : n < N) (hx : x = nI n := by rfl) (hN : N < 2 ^ 31 := by omega) : vp_in x N := by
  subst hx
  exact vp_in_nI h hN
theorem pk_cl {x : Int32} (n : Nat) (hx : x = nI n := by rfl) (h : n < 2 ^ 31 := by omega) : x.toNatClampNeg = n := by
  subst hx
  exact nI_clamp h
theorem pk_tn {n : Nat} (h : n < 2 ^ 32) : (nI n).toBitVec.toNat = n := Nat.mod_eq_of_lt h
theorem pk_shr (a s : Int32) (k : Nat) (hs : (s.toBitVec.smod 32).toNat = k) : (a >>> s).toInt = a.toInt >>> k := by
  show (a.toBitVec.sshiftRight (s.toBitVec.smod 32).toNat).toInt = _
  rw [hs, BitVec.toInt_sshiftRight]
  rfl
theorem pk_shrN {n : Nat} (h : n < 2 ^ 31) (s : Int32) (k : Nat) (hs : (s.toBitVec.smod 32).toNat = k) : nI n >>> s = nI (n / 2 ^ k) := by
  apply Int32.toInt_inj.mp
  have h2 : n / 2 ^ k ≤ n := Nat.div_le_self _ _
  rw [pk_shr _ _ k hs, nI_toInt h, nI_toInt (by omega), Int.shiftRight_eq_div_pow]
  rfl
theorem pk_and (x : Int32) {m : Int32} (k : Nat) (hm : m.toBitVec.toNat = 2 ^ k - 1) : x &&& m = nI (x.toBitVec.toNat % 2 ^ k) := by
  apply Int32.toBitVec_inj.mp
  apply BitVec.eq_of_toNat_eq
  rw [Int32.toBitVec_and, BitVec.toNat_and, hm, Nat.and_two_pow_sub_one_eq_mod]
  show _ = (BitVec.ofNat 32 _).toNat
  rw [BitVec.toNat_ofNat]
  exact (Nat.mod_eq_of_lt (Nat.lt_of_le_of_lt (Nat.mod_le _ _) x.toBitVec.isLt)).symm
theorem pk_andN {n : Nat} (h : n < 2 ^ 32) {m : Int32} (k : Nat) (hm : m.toBitVec.toNat = 2 ^ k - 1) : nI n &&& m = nI (n % 2 ^ k) := by
  rw [pk_and _ k hm, pk_tn h]
/-! the pure picture: cells, sums, loops, the ghost stack, the table of values -/
abbrev wr_C : Type := Option (Int32 × Nat × Nat)
def wr_ei (a b : wr_C) : wr_C :=
  match a, b with
  | none, b => b
  | some a, none => some a
  | some (c, l, h), some (c', l', h') => some (c + c', if l' < l then l' else l, if h < h' then h' else h)
def wr_to (e : Nat) (a b : wr_C) : wr_C :=
  match a, b with
  | some (c, l, h), some (c', l', h') => some (c * c', l + l' + e, h + h' + e)
  | some _, none => none
  | none, _ => none
def wr_x0 : wr_C → Int32
  | none => 0
  | some (c, _, _) => c
def wr_x1 : wr_C → Int32
  | none => -4
  | some (_, l, _) => nI l
def wr_x2 : wr_C → Int32
  | none => -4
  | some (_, _, h) => nI h
def wr_y (m : Int32) : wr_C → Int32
  | none => if m = 0 then 0 else -1
  | some (c, l, h) => if m = 0 then c else if m = 1 then nI l else nI h
def wr_bd (B : Nat) : wr_C → Prop
  | none => True
  | some (_, l, h) => l ≤ B ∧ h ≤ B
def wr_su (f : Nat → wr_C) (a : Nat) : Nat → wr_C
  | 0 => none
  | n + 1 => wr_ei (wr_su f a n) (f (a + n))
theorem wr_su_s (f : Nat → wr_C) (a n : Nat) : wr_su f a (n + 1) = wr_ei (wr_su f a n) (f (a + n)) := rfl
theorem wr_ei_n (a : wr_C) : wr_ei a none = a := by cases a <;> rfl
theorem wr_n_ei (a : wr_C) : wr_ei none a = a := by cases a <;> rfl
theorem wr_to_n (e : Nat) (a : wr_C) : wr_to e a none = none := by cases a <;> rfl
theorem wr_n_to (e : Nat) (a : wr_C) : wr_to e none a = none := by cases a <;> rfl
theorem wr_bd_up {A B : Nat} {a : wr_C} (h : wr_bd A a) (hl : A ≤ B) : wr_bd B a := by
  match a, h with
  | none, _ => exact True.intro
  | some (c, l, k), h => exact ⟨Nat.le_trans h.1 hl, Nat.le_trans h.2 hl⟩
theorem wr_ei_bd {B : Nat} {a b : wr_C} (ha : wr_bd B a) (hb : wr_bd B b) : wr_bd B (wr_ei a b) := by
  match a, b, ha, hb with
  | none, b, _, hb => rw [wr_n_ei]; exact hb
  | some a, none, ha, _ => exact ha
  | some (c, l, h), some (c', l', h'), ha, hb =>
    obtain ⟨h1, h2⟩ := ha
    obtain ⟨h3, h4⟩ := hb
    show (if l' < l then l' else l) ≤ B ∧ (if h < h' then h' else h) ≤ B
    constructor <;> split <;> assumption
theorem wr_to_bd {A B D e : Nat} {a b : wr_C} (ha : wr_bd A a) (hb : wr_bd B b) (h : A + B + e ≤ D) : wr_bd D (wr_to e a b) := by
  match a, b, ha, hb with
  | none, b, _, _ => rw [wr_n_to]; exact True.intro
  | some a, none, _, _ => rw [wr_to_n]; exact True.intro
  | some (c, l, k), some (c', l', k'), ha, hb =>
    obtain ⟨h1, h2⟩ := ha
    obtain ⟨h3, h4⟩ := hb
    show l + l' + e ≤ D ∧ k + k' + e ≤ D
    constructor <;> omega
theorem wr_su_cg {f g : Nat → wr_C} {a : Nat} : ∀ n, (∀ k, a ≤ k → k < a + n → f k = g k) → wr_su f a n = wr_su g a n
  | 0, _ => rfl
  | n + 1, h => by
    rw [wr_su_s, wr_su_s, wr_su_cg n (fun k h1 h2 => h k h1 (by omega)), h (a + n) (by omega) (by omega)]
theorem wr_su_bd {f : Nat → wr_C} {a B : Nat} : ∀ n, (∀ k, a ≤ k → k < a + n → wr_bd B (f k)) → wr_bd B (wr_su f a n)
  | 0, _ => True.intro
  | n + 1, h => wr_ei_bd (wr_su_bd n (fun k h1 h2 => h k h1 (by omega))) (h (a + n) (by omega) (by omega))
def wr_lp (P : Nat → Nat → wr_C) (c : Nat) : Nat → Nat → Nat → wr_C
  | 0, i, j => if i = j then some (1, 0, 0) else none
  | d + 1, i, j => if i = j then some (1, 0, 0) else wr_su (fun k => wr_to c (P i k) (wr_lp P c d k j)) (i + 1) (j - i)
theorem wr_lp_0 (P : Nat → Nat → wr_C) (c i j : Nat) : wr_lp P c 0 i j = if i = j then some (1, 0, 0) else none := rfl
theorem wr_lp_s (P : Nat → Nat → wr_C) (c d i j : Nat) : wr_lp P c (d + 1) i j = if i = j then some (1, 0, 0) else wr_su (fun k => wr_to c (P i k) (wr_lp P c d k j)) (i + 1) (j - i) := rfl
theorem wr_lp_i (P : Nat → Nat → wr_C) (c d i : Nat) : wr_lp P c d i i = some (1, 0, 0) := by
  cases d with
  | zero => rw [wr_lp_0, if_pos rfl]
  | succ d => rw [wr_lp_s, if_pos rfl]
theorem wr_lp_st (P : Nat → Nat → wr_C) (c : Nat) : ∀ d d' i j, i ≤ j → j ≤ i + d → j ≤ i + d' → wr_lp P c d i j = wr_lp P c d' i j := by
  intro d
  induction d with
  | zero =>
    intro d' i j h1 h2 _
    have e : i = j := by omega
    subst e
    rw [wr_lp_i, wr_lp_i]
  | succ d ih =>
    intro d' i j h1 h2 h3
    by_cases e : i = j
    · subst e
      rw [wr_lp_i, wr_lp_i]
    · cases d' with
      | zero => omega
      | succ d' =>
        rw [wr_lp_s, wr_lp_s, if_neg e, if_neg e]
        exact wr_su_cg _ (fun k h4 h5 => by rw [ih d' k j (by omega) (by omega) (by omega)])
theorem wr_lp_eq (P : Nat → Nat → wr_C) (c i j : Nat) (h : i < j) : wr_lp P c (j - i) i j = wr_su (fun k => wr_to c (P i k) (wr_lp P c (j - k) k j)) (i + 1) (j - i) := by
  obtain ⟨d, hd⟩ : ∃ d, j = i + d + 1 := ⟨j - i - 1, by omega⟩
  rw [wr_lp_st P c (j - i) (d + 1) i j (by omega) (by omega) (by omega), wr_lp_s, if_neg (by omega)]
  exact wr_su_cg _ (fun k h4 h5 => by rw [wr_lp_st P c d (j - k) k j (by omega) (by omega) (by omega)])
theorem wr_lp_bd (P : Nat → Nat → wr_C) (c M : Nat) (hc : c ≤ 9) (hP : ∀ i k, i < k → wr_bd (M * (k - i)) (P i k)) : ∀ d i j, i ≤ j → wr_bd ((M + 9) * (j - i)) (wr_lp P c d i j) := by
  intro d
  induction d with
  | zero =>
    intro i j h
    rw [wr_lp_0]
    split
    · exact ⟨Nat.zero_le _, Nat.zero_le _⟩
    · exact True.intro
  | succ d ih =>
    intro i j h
    rw [wr_lp_s]
    split
    · exact ⟨Nat.zero_le _, Nat.zero_le _⟩
    · refine wr_su_bd _ (fun k h1 h2 => wr_to_bd (hP i k (by omega)) (ih k j (by omega)) ?_)
      have e1 : (M + 9) * (j - i) = (M + 9) * (k - i) + (M + 9) * (j - k) := by
        rw [← Nat.mul_add]
        congr 1
        omega
      have e2 : (M + 9) * (k - i) = M * (k - i) + 9 * (k - i) := Nat.add_mul _ _ _
      omega
def wr_tp (K : Nat → Int32) : Nat → Nat
  | 0 => 0
  | s + 1 => if K s < 3 then wr_tp K s + 1 else if K s < 5 then wr_tp K s - 1 else wr_tp K s
def wr_og (K : Nat → Int32) : Nat → Nat → Nat
  | 0, _ => 0
  | s + 1, t => if t + 1 = wr_tp K (s + 1) then s else wr_og K s t
theorem wr_tp_s (K : Nat → Int32) (s : Nat) : wr_tp K (s + 1) = if K s < 3 then wr_tp K s + 1 else if K s < 5 then wr_tp K s - 1 else wr_tp K s := rfl
theorem wr_og_s (K : Nat → Int32) (s t : Nat) : wr_og K (s + 1) t = if t + 1 = wr_tp K (s + 1) then s else wr_og K s t := rfl
theorem wr_og_lt (K : Nat → Int32) : ∀ s t, wr_og K (s + 1) t < s + 1
  | 0, t => by
    rw [wr_og_s]
    split
    · omega
    · show 0 < 0 + 1
      omega
  | s + 1, t => by
    have := wr_og_lt K s t
    rw [wr_og_s]
    split <;> omega
theorem wr_tp_le (K : Nat → Int32) : ∀ s, wr_tp K s ≤ s
  | 0 => Nat.le_refl 0
  | s + 1 => by
    have := wr_tp_le K s
    rw [wr_tp_s]
    split
    · omega
    · split <;> omega
theorem wr_tp_cg {K K' : Nat → Int32} : ∀ s, (∀ t, t < s → K t = K' t) → wr_tp K s = wr_tp K' s
  | 0, _ => rfl
  | s + 1, h => by
    rw [wr_tp_s, wr_tp_s, h s (by omega), wr_tp_cg s (fun t ht => h t (by omega))]
theorem wr_og_cg {K K' : Nat → Int32} : ∀ s, (∀ t, t < s → K t = K' t) → ∀ t, wr_og K s t = wr_og K' s t
  | 0, _, _ => rfl
  | s + 1, h, t => by
    rw [wr_og_s, wr_og_s, wr_tp_cg (s + 1) h, wr_og_cg s (fun t ht => h t (by omega)) t]
/-- one step of a program is as it should be: its cost, its kind, its operands -/
def wr_ok (K C L R : Nat → Int32) (s : Nat) : Prop :=
  (∃ c, c ≤ 9 ∧ C s = nI c ∧ (K s = 2 → c = 0)) ∧
  (K s = 0 ∨ K s = 1 ∨ K s = 2 ∨
    (K s = 3 ∧ 2 ≤ wr_tp K s ∧ L s = nI (wr_og K s (wr_tp K s - 2)) ∧ R s = nI (wr_og K s (wr_tp K s - 1))) ∨
    (K s = 4 ∧ 2 ≤ wr_tp K s ∧ L s = nI (wr_og K s (wr_tp K s - 2)) ∧ R s = nI (wr_og K s (wr_tp K s - 1))) ∨
    (K s = 5 ∧ 1 ≤ wr_tp K s ∧ L s = nI (wr_og K s (wr_tp K s - 1))))
theorem wr_ok_cg {K C L R K' C' L' R' : Nat → Int32} {s : Nat} (hK : ∀ t, t ≤ s → K' t = K t) (hC : C' s = C s) (hL : L' s = L s) (hR : R' s = R s) (h : wr_ok K C L R s) : wr_ok K' C' L' R' s := by
  unfold wr_ok at h ⊢
  rw [hK s (Nat.le_refl s), hC, hL, hR, wr_tp_cg s (fun t ht => hK t (by omega)), wr_og_cg s (fun t ht => hK t (by omega)), wr_og_cg s (fun t ht => hK t (by omega))]
  exact h
theorem wr_ok_pos {K C L R : Nat → Int32} {s : Nat} (h : wr_ok K C L R s) : 0 < s ∨ K s = 0 ∨ K s = 1 ∨ K s = 2 := by
  have e : 1 ≤ wr_tp K s → 0 < s := fun h => by
    have := wr_tp_le K s
    omega
  rcases h.2 with h | h | h | h | h | h
  · exact Or.inr (Or.inl h)
  · exact Or.inr (Or.inr (Or.inl h))
  · exact Or.inr (Or.inr (Or.inr h))
  · exact Or.inl (e (Nat.le_of_succ_le h.2.1))
  · exact Or.inl (e (Nat.le_of_succ_le h.2.1))
  · exact Or.inl (e h.2.1)
end
section
def wr_nd (K Lt C tx : Nat → Int32) (T : Nat → Nat → Nat → wr_C) (s i j : Nat) : wr_C :=
  if K s = 0 then (if j = i + 1 ∧ tx i = Lt s then some (1, (C s).toNatClampNeg, (C s).toNatClampNeg) else none)
  else if K s = 1 then (if j = i + 1 then some (1, (C s).toNatClampNeg, (C s).toNatClampNeg) else none)
  else if K s = 2 then (if i = j then some (1, 0, 0) else none)
  else if K s = 3 then wr_su (fun k => wr_to 0 (T (wr_og K s (wr_tp K s - 2)) i k) (T (wr_og K s (wr_tp K s - 1)) k j)) i (j - i + 1)
  else if K s = 4 then wr_ei (T (wr_og K s (wr_tp K s - 2)) i j) (T (wr_og K s (wr_tp K s - 1)) i j)
  else wr_lp (T (wr_og K s (wr_tp K s - 1))) (C s).toNatClampNeg (j - i) i j
theorem wr_nd_cg {K Lt C tx : Nat → Int32} {T T' : Nat → Nat → Nat → wr_C} {s : Nat} (h : ∀ x, x < s → ∀ i j, T x i j = T' x i j) (hs : 0 < s ∨ K s = 0 ∨ K s = 1 ∨ K s = 2) (i j : Nat) : wr_nd K Lt C tx T s i j = wr_nd K Lt C tx T' s i j := by
  unfold wr_nd
  rcases hs with hs | hs | hs | hs
  · have q : ∀ t, wr_og K s t < s := fun t => by
      obtain ⟨s', rfl⟩ : ∃ s', s = s' + 1 := ⟨s - 1, by omega⟩
      exact wr_og_lt K s' t
    have e1 : T (wr_og K s (wr_tp K s - 1)) = T' (wr_og K s (wr_tp K s - 1)) := funext fun i => funext fun j => h _ (q _) i j
    have e2 : T (wr_og K s (wr_tp K s - 2)) = T' (wr_og K s (wr_tp K s - 2)) := funext fun i => funext fun j => h _ (q _) i j
    rw [e1, e2]
  · rw [if_pos hs, if_pos hs]
  · have n0 : ¬ K s = 0 := by rw [hs]; decide
    rw [if_neg n0, if_neg n0, if_pos hs, if_pos hs]
  · have n0 : ¬ K s = 0 := by rw [hs]; decide
    have n1 : ¬ K s = 1 := by rw [hs]; decide
    rw [if_neg n0, if_neg n0, if_neg n1, if_neg n1, if_pos hs, if_pos hs]
def wr_tb (K Lt C tx : Nat → Int32) : Nat → Nat → Nat → Nat → wr_C
  | 0, _, _, _ => none
  | m + 1, s, i, j => if s = m then wr_nd K Lt C tx (wr_tb K Lt C tx m) s i j else wr_tb K Lt C tx m s i j
def wr_V (K Lt C tx : Nat → Int32) (s i j : Nat) : wr_C := wr_tb K Lt C tx (s + 1) s i j
theorem wr_tb_s (K Lt C tx : Nat → Int32) (m s i j : Nat) : wr_tb K Lt C tx (m + 1) s i j = if s = m then wr_nd K Lt C tx (wr_tb K Lt C tx m) s i j else wr_tb K Lt C tx m s i j := rfl
theorem wr_tb_V (K Lt C tx : Nat → Int32) : ∀ m s i j, s < m → wr_tb K Lt C tx m s i j = wr_V K Lt C tx s i j
  | 0, s, i, j, h => absurd h (Nat.not_lt_zero s)
  | m + 1, s, i, j, h => by
    by_cases e : s = m
    · subst e
      rfl
    · rw [wr_tb_s, if_neg e]
      exact wr_tb_V K Lt C tx m s i j (by omega)
theorem wr_V_eq {K Lt C tx L R : Nat → Int32} {s : Nat} (h : wr_ok K C L R s) (i j : Nat) : wr_V K Lt C tx s i j = wr_nd K Lt C tx (wr_V K Lt C tx) s i j := by
  have e : wr_V K Lt C tx s i j = wr_nd K Lt C tx (wr_tb K Lt C tx s) s i j := by
    show wr_tb K Lt C tx (s + 1) s i j = _
    rw [wr_tb_s, if_pos rfl]
  rw [e]
  exact wr_nd_cg (fun x hx i j => wr_tb_V K Lt C tx s x i j hx) (wr_ok_pos h) i j
section
variable {K Lt C tx L R : Nat → Int32} {s : Nat}
theorem wr_V0 (h : wr_ok K C L R s) (i j : Nat) (k : K s = 0) : wr_V K Lt C tx s i j = if j = i + 1 ∧ tx i = Lt s then some (1, (C s).toNatClampNeg, (C s).toNatClampNeg) else none := by
  rw [wr_V_eq h]
  unfold wr_nd
  rw [if_pos k]
theorem wr_V1 (h : wr_ok K C L R s) (i j : Nat) (k : K s = 1) : wr_V K Lt C tx s i j = if j = i + 1 then some (1, (C s).toNatClampNeg, (C s).toNatClampNeg) else none := by
  rw [wr_V_eq h]
  unfold wr_nd
  rw [if_neg (by rw [k]; decide), if_pos k]
theorem wr_V2 (h : wr_ok K C L R s) (i j : Nat) (k : K s = 2) : wr_V K Lt C tx s i j = if i = j then some (1, 0, 0) else none := by
  rw [wr_V_eq h]
  unfold wr_nd
  rw [if_neg (by rw [k]; decide), if_neg (by rw [k]; decide), if_pos k]
theorem wr_V3 (h : wr_ok K C L R s) (i j : Nat) (k : K s = 3) : wr_V K Lt C tx s i j = wr_su (fun k => wr_to 0 (wr_V K Lt C tx (wr_og K s (wr_tp K s - 2)) i k) (wr_V K Lt C tx (wr_og K s (wr_tp K s - 1)) k j)) i (j - i + 1) := by
  rw [wr_V_eq h]
  unfold wr_nd
  rw [if_neg (by rw [k]; decide), if_neg (by rw [k]; decide), if_neg (by rw [k]; decide), if_pos k]
theorem wr_V4 (h : wr_ok K C L R s) (i j : Nat) (k : K s = 4) : wr_V K Lt C tx s i j = wr_ei (wr_V K Lt C tx (wr_og K s (wr_tp K s - 2)) i j) (wr_V K Lt C tx (wr_og K s (wr_tp K s - 1)) i j) := by
  rw [wr_V_eq h]
  unfold wr_nd
  rw [if_neg (by rw [k]; decide), if_neg (by rw [k]; decide), if_neg (by rw [k]; decide), if_neg (by rw [k]; decide), if_pos k]
theorem wr_V5' (h : wr_ok K C L R s) (i j : Nat) (k : K s = 5) : wr_V K Lt C tx s i j = wr_lp (wr_V K Lt C tx (wr_og K s (wr_tp K s - 1))) (C s).toNatClampNeg (j - i) i j := by
  rw [wr_V_eq h]
  unfold wr_nd
  rw [if_neg (by rw [k]; decide), if_neg (by rw [k]; decide), if_neg (by rw [k]; decide), if_neg (by rw [k]; decide), if_neg (by rw [k]; decide)]
theorem wr_V5i (h : wr_ok K C L R s) (i : Nat) (k : K s = 5) : wr_V K Lt C tx s i i = some (1, 0, 0) := by
  rw [wr_V5' h i i k, wr_lp_i]
theorem wr_V5 (h : wr_ok K C L R s) (i j : Nat) (hi : i < j) (k : K s = 5) : wr_V K Lt C tx s i j = wr_su (fun k => wr_to (C s).toNatClampNeg (wr_V K Lt C tx (wr_og K s (wr_tp K s - 1)) i k) (wr_V K Lt C tx s k j)) (i + 1) (j - i) := by
  rw [wr_V5' h i j k, wr_lp_eq _ _ _ _ hi]
  exact wr_su_cg _ (fun q h4 h5 => by rw [wr_V5' h q j k])
end
theorem wr_V_bd {K Lt C tx L R : Nat → Int32} {z : Nat} (ok : ∀ s, s < z → wr_ok K C L R s) : ∀ m s, s < m → s < z → ∀ i j, i ≤ j → wr_bd (9 * (s + 1) * (j - i)) (wr_V K Lt C tx s i j) := by
  intro m
  induction m with
  | zero => intro s h; exact absurd h (Nat.not_lt_zero s)
  | succ m ih =>
    intro s hm hz i j hij
    have hs := ok s hz
    obtain ⟨⟨c, hc, ec, -⟩, hk⟩ := hs
    have hs := ok s hz
    have cc : (C s).toNatClampNeg = c := by rw [ec]; exact nI_clamp (by omega)
    have le : ∀ x, x < s → ∀ i j, i ≤ j → wr_bd (9 * (s + 1) * (j - i)) (wr_V K Lt C tx x i j) := fun x hx i j h =>
      wr_bd_up (ih x (by omega) (by omega) i j h) (Nat.mul_le_mul_right _ (by omega))
    have og : 1 ≤ wr_tp K s → ∀ t, wr_og K s t < s := fun h t => by
      have h0 := wr_tp_le K s
      obtain ⟨s', rfl⟩ : ∃ s', s = s' + 1 := ⟨s - 1, by omega⟩
      exact wr_og_lt K s' t
    have one : j = i + 1 → c ≤ 9 * (s + 1) * (j - i) := fun e => by
      have e1 : j - i = 1 := by omega
      rw [e1]
      omega
    rcases hk with k | k | k | ⟨k, t, -, -⟩ | ⟨k, t, -, -⟩ | ⟨k, t, -⟩
    · rw [wr_V0 hs i j k, cc]
      split
      · rename_i e
        exact ⟨one e.1, one e.1⟩
      · exact True.intro
    · rw [wr_V1 hs i j k, cc]
      split
      · rename_i e
        exact ⟨one e, one e⟩
      · exact True.intro
    · rw [wr_V2 hs i j k]
      split
      · exact ⟨Nat.zero_le _, Nat.zero_le _⟩
      · exact True.intro
    · rw [wr_V3 hs i j k]
      refine wr_su_bd _ (fun q h1 h2 => wr_to_bd (le _ (og (by omega) _) i q h1) (le _ (og (by omega) _) q j (by omega)) ?_)
      rw [Nat.add_zero, ← Nat.mul_add]
      exact Nat.mul_le_mul_left _ (by omega)
    · rw [wr_V4 hs i j k]
      exact wr_ei_bd (le _ (og (by omega) _) i j hij) (le _ (og (by omega) _) i j hij)
    · rw [wr_V5' hs i j k, cc]
      have hx := og t (wr_tp K s - 1)
      refine wr_bd_up (wr_lp_bd _ c (9 * s) hc (fun i q h => wr_bd_up (ih _ (by omega) (by omega) i q (by omega)) (Nat.mul_le_mul_right _ (by omega))) (j - i) i j hij) ?_
      exact Nat.mul_le_mul_right _ (by omega)
theorem wr_V_b {K Lt C tx L R : Nat → Int32} {z : Nat} (ok : ∀ s, s < z → wr_ok K C L R s) (hz : z ≤ 20) {s i j : Nat} (hs : s < z) (hi : i ≤ j) (hj : j ≤ 8) : wr_bd 1440 (wr_V K Lt C tx s i j) := by
  refine wr_bd_up (wr_V_bd ok (s + 1) s (by omega) hs i j hi) ?_
  have h1 : 9 * (s + 1) * (j - i) ≤ 9 * (s + 1) * 8 := Nat.mul_le_mul_left _ (by omega)
  omega
/-- numbers of cells -/
theorem wr_cx (s i j : Nat) : (nI s * 9 + nI i) * 9 + nI j = nI (s * 81 + i * 9 + j) := by
  rw [show (9 : Int32) = nI 9 from rfl, pk_mul, nI_add, pk_mul, nI_add]
  exact congrArg nI (by omega)
theorem wr_cy (s i j : Nat) : nI s * 81 + nI i * 9 + nI j = nI (s * 81 + i * 9 + j) := by
  rw [show (9 : Int32) = nI 9 from rfl, show (81 : Int32) = nI 81 from rfl, pk_mul, pk_mul, nI_add, nI_add]
/-- what is filled before the cell (s, e - 1, j) -/
def wr_D (s e j s' i' j' : Nat) : Prop := s' < s ∨ (s' = s ∧ (e ≤ i' ∨ (i' + 1 = e ∧ j' < j)))
/-- the component's three tables hold the values of what is filled -/
def wr_X (V : Nat → Nat → Nat → wr_C) (n s e j : Nat) (a0 a1 a2 : Nat → Int32) : Prop :=
  ∀ s' i' j', i' ≤ j' → j' ≤ n → wr_D s e j s' i' j' → a0 (s' * 81 + i' * 9 + j') = wr_x0 (V s' i' j') ∧ a1 (s' * 81 + i' * 9 + j') = wr_x1 (V s' i' j') ∧ a2 (s' * 81 + i' * 9 + j') = wr_x2 (V s' i' j')
/-- the reference's one table -/
def wr_Y (V : Nat → Nat → Nat → wr_C) (m : Int32) (n s e j : Nat) (a : Nat → Int32) : Prop :=
  ∀ s' i' j', i' ≤ j' → j' ≤ n → wr_D s e j s' i' j' → a (s' * 81 + i' * 9 + j') = wr_y m (V s' i' j')
/-- a cell's three numbers -/
def wr_c (v : wr_C) (c : Nat) (a0 a1 a2 : Nat → Int32) : Prop := a0 c = wr_x0 v ∧ a1 c = wr_x1 v ∧ a2 c = wr_x2 v
/-- the arrays are as they were but at c -/
def wr_off (c : Nat) (a0 a1 a2 b0 b1 b2 : Nat → Int32) : Prop := ∀ k, k ≠ c → b0 k = a0 k ∧ b1 k = a1 k ∧ b2 k = a2 k
theorem wr_off_r (c : Nat) (a0 a1 a2 : Nat → Int32) : wr_off c a0 a1 a2 a0 a1 a2 := fun _ _ => ⟨rfl, rfl, rfl⟩
theorem wr_off_t {c : Nat} {a0 a1 a2 b0 b1 b2 d0 d1 d2 : Nat → Int32} (h : wr_off c a0 a1 a2 b0 b1 b2) (g : wr_off c b0 b1 b2 d0 d1 d2) : wr_off c a0 a1 a2 d0 d1 d2 := fun k hk =>
  ⟨((g k hk).1).trans (h k hk).1, ((g k hk).2.1).trans (h k hk).2.1, ((g k hk).2.2).trans (h k hk).2.2⟩
theorem wr_X_put {V : Nat → Nat → Nat → wr_C} {n s i j : Nat} {a0 a1 a2 b0 b1 b2 : Nat → Int32} (hn : n ≤ 8) (hi : i ≤ n) (hj : j ≤ n) (h : wr_X V n s (i + 1) j a0 a1 a2) (o : wr_off (s * 81 + i * 9 + j) a0 a1 a2 b0 b1 b2) (c : wr_c (V s i j) (s * 81 + i * 9 + j) b0 b1 b2) : wr_X V n s (i + 1) (j + 1) b0 b1 b2 := by
  intro s' i' j' h1 h2 d
  by_cases e : s' = s ∧ i' = i ∧ j' = j
  · obtain ⟨rfl, rfl, rfl⟩ := e
    exact c
  · have hk : s' * 81 + i' * 9 + j' ≠ s * 81 + i * 9 + j := by omega
    obtain ⟨o0, o1, o2⟩ := o _ hk
    rw [o0, o1, o2]
    refine h s' i' j' h1 h2 ?_
    unfold wr_D at d ⊢
    omega
theorem wr_Y_put {V : Nat → Nat → Nat → wr_C} {m : Int32} {n s i j : Nat} {a : Nat → Int32} {x : Int32} (hn : n ≤ 8) (hi : i ≤ n) (hj : j ≤ n) (h : wr_Y V m n s (i + 1) j a) (c : x = wr_y m (V s i j)) : wr_Y V m n s (i + 1) (j + 1) (upd a (s * 81 + i * 9 + j) x) := by
  intro s' i' j' h1 h2 d
  by_cases e : s' = s ∧ i' = i ∧ j' = j
  · obtain ⟨rfl, rfl, rfl⟩ := e
    rw [pk_us]
    exact c
  · have hk : s' * 81 + i' * 9 + j' ≠ s * 81 + i * 9 + j := by omega
    rw [pk_un hk]
    refine h s' i' j' h1 h2 ?_
    unfold wr_D at d ⊢
    omega
theorem wr_X_row {V : Nat → Nat → Nat → wr_C} {n s i : Nat} {a0 a1 a2 : Nat → Int32} (h : wr_X V n s (i + 1) (n + 1) a0 a1 a2) : wr_X V n s i 0 a0 a1 a2 := by
  intro s' i' j' h1 h2 d
  refine h s' i' j' h1 h2 ?_
  unfold wr_D at d ⊢
  omega
theorem wr_X_in {V : Nat → Nat → Nat → wr_C} {n s i : Nat} {a0 a1 a2 : Nat → Int32} (h : wr_X V n s (i + 1) 0 a0 a1 a2) : wr_X V n s (i + 1) i a0 a1 a2 := by
  intro s' i' j' h1 h2 d
  refine h s' i' j' h1 h2 ?_
  unfold wr_D at d ⊢
  omega
theorem wr_X_next {V : Nat → Nat → Nat → wr_C} {n s : Nat} {a0 a1 a2 : Nat → Int32} (h : wr_X V n s 0 0 a0 a1 a2) : wr_X V n (s + 1) (n + 1) 0 a0 a1 a2 := by
  intro s' i' j' h1 h2 d
  refine h s' i' j' h1 h2 ?_
  unfold wr_D at d ⊢
  omega
theorem wr_Y_row {V : Nat → Nat → Nat → wr_C} {m : Int32} {n s i : Nat} {a : Nat → Int32} (h : wr_Y V m n s (i + 1) (n + 1) a) : wr_Y V m n s i 0 a := by
  intro s' i' j' h1 h2 d
  refine h s' i' j' h1 h2 ?_
  unfold wr_D at d ⊢
  omega
theorem wr_Y_in {V : Nat → Nat → Nat → wr_C} {m : Int32} {n s i : Nat} {a : Nat → Int32} (h : wr_Y V m n s (i + 1) 0 a) : wr_Y V m n s (i + 1) i a := by
  intro s' i' j' h1 h2 d
  refine h s' i' j' h1 h2 ?_
  unfold wr_D at d ⊢
  omega
theorem wr_Y_next {V : Nat → Nat → Nat → wr_C} {m : Int32} {n s : Nat} {a : Nat → Int32} (h : wr_Y V m n s 0 0 a) : wr_Y V m n (s + 1) (n + 1) 0 a := by
  intro s' i' j' h1 h2 d
  refine h s' i' j' h1 h2 ?_
  unfold wr_D at d ⊢
  omega
/-! the numbers of a cell under the component's and the reference's operations -/
theorem wr_n4 {l : Nat} (h : l < 2 ^ 31) : ¬ nI l = -4 := fun e => by
  have h1 := nI_toInt h
  rw [e, show (-4 : Int32).toInt = -4 from by decide] at h1
  omega
theorem wr_nn {l : Nat} (h : l < 2 ^ 31) : ¬ nI l < 0 := nI_pos h
theorem wr_a0 (v : wr_C) (m : Int32) (l h : Nat) : wr_x0 v + m = wr_x0 (wr_ei v (some (m, l, h))) := by
  match v with
  | none => exact Int32.zero_add m
  | some (c, a, b) => rfl
theorem wr_a1t {v : wr_C} (m : Int32) (l h : Nat) (bv : wr_bd 100000 v) (e : wr_x1 v = -4) : nI l = wr_x1 (wr_ei v (some (m, l, h))) := by
  match v, bv, e with
  | none, _, _ => rfl
  | some (c, a, b), bv, e => exact absurd e (wr_n4 (Nat.lt_of_le_of_lt bv.1 (by decide)))
theorem wr_a1l {v : wr_C} (m : Int32) {l : Nat} (h : Nat) (bv : wr_bd 100000 v) (hl : l ≤ 100000) (e : ¬ wr_x1 v = -4) (g : nI l < wr_x1 v) : nI l = wr_x1 (wr_ei v (some (m, l, h))) := by
  match v, bv, e, g with
  | none, _, e, _ => exact absurd rfl e
  | some (c, a, b), bv, _, g =>
    have ha : a ≤ 100000 := bv.1
    have g' : l < a := (nI_ltI (by omega) (by omega)).mp g
    show nI l = nI (if l < a then l else a)
    rw [if_pos g']
theorem wr_a1g {v : wr_C} (m : Int32) {l : Nat} (h : Nat) (bv : wr_bd 100000 v) (hl : l ≤ 100000) (e : ¬ wr_x1 v = -4) (g : ¬ nI l < wr_x1 v) : wr_x1 v = wr_x1 (wr_ei v (some (m, l, h))) := by
  match v, bv, e, g with
  | none, _, e, _ => exact absurd rfl e
  | some (c, a, b), bv, _, g =>
    have ha : a ≤ 100000 := bv.1
    have g' : ¬ l < a := fun z => g ((nI_ltI (by omega) (by omega)).mpr z)
    show nI a = nI (if l < a then l else a)
    rw [if_neg g']
theorem wr_a2t {v : wr_C} (m : Int32) (l h : Nat) (bv : wr_bd 100000 v) (e : wr_x2 v = -4) : nI h = wr_x2 (wr_ei v (some (m, l, h))) := by
  match v, bv, e with
  | none, _, _ => rfl
  | some (c, a, b), bv, e => exact absurd e (wr_n4 (Nat.lt_of_le_of_lt bv.2 (by decide)))
theorem wr_a2l {v : wr_C} (m : Int32) (l : Nat) {h : Nat} (bv : wr_bd 100000 v) (hl : h ≤ 100000) (e : ¬ wr_x2 v = -4) (g : wr_x2 v < nI h) : nI h = wr_x2 (wr_ei v (some (m, l, h))) := by
  match v, bv, e, g with
  | none, _, e, _ => exact absurd rfl e
  | some (c, a, b), bv, _, g =>
    have ha : b ≤ 100000 := bv.2
    have g' : b < h := (nI_ltI (by omega) (by omega)).mp g
    show nI h = nI (if b < h then h else b)
    rw [if_pos g']
theorem wr_a2g {v : wr_C} (m : Int32) (l : Nat) {h : Nat} (bv : wr_bd 100000 v) (hl : h ≤ 100000) (e : ¬ wr_x2 v = -4) (g : ¬ wr_x2 v < nI h) : wr_x2 v = wr_x2 (wr_ei v (some (m, l, h))) := by
  match v, bv, e, g with
  | none, _, e, _ => exact absurd rfl e
  | some (c, a, b), bv, _, g =>
    have ha : b ≤ 100000 := bv.2
    have g' : ¬ b < h := fun z => g ((nI_ltI (by omega) (by omega)).mpr z)
    show nI b = nI (if b < h then h else b)
    rw [if_neg g']
theorem wr_x1n {v : wr_C} (bv : wr_bd 100000 v) (e : wr_x1 v = -4) : v = none := by
  match v, bv, e with
  | none, _, _ => rfl
  | some (c, a, b), bv, e => exact absurd e (wr_n4 (Nat.lt_of_le_of_lt bv.1 (by decide)))
theorem wr_x1s {v : wr_C} (e : ¬ wr_x1 v = -4) : ∃ c l h, v = some (c, l, h) := by
  match v, e with
  | none, e => exact absurd rfl e
  | some (c, a, b), _ => exact ⟨c, a, b, rfl⟩
/-- the reference's numbers -/
def wr_m (m : Int32) : Prop := m = 0 ∨ m = 1 ∨ m = 2
theorem wr_y0n : wr_y 0 none = 0 := rfl
theorem wr_yn {m : Int32} (h : ¬ m = 0) : wr_y m none = -1 := if_neg h
theorem wr_y0s (c : Int32) (l h : Nat) : wr_y 0 (some (c, l, h)) = c := rfl
theorem wr_y1s (c : Int32) (l h : Nat) : wr_y 1 (some (c, l, h)) = nI l := rfl
theorem wr_y2s (c : Int32) (l h : Nat) : wr_y 2 (some (c, l, h)) = nI h := rfl
theorem wr_y0a (a b : wr_C) : wr_y 0 a + wr_y 0 b = wr_y 0 (wr_ei a b) := by
  match a, b with
  | none, b => rw [wr_n_ei]; exact Int32.zero_add _
  | some a, none => rw [wr_ei_n]; exact Int32.add_zero _
  | some (c, l, h), some (c', l', h') => rfl
theorem wr_y0t (e : Nat) (a b : wr_C) : wr_y 0 a * wr_y 0 b = wr_y 0 (wr_to e a b) := by
  match a, b with
  | none, b => rw [wr_n_to]; exact Int32.zero_mul
  | some a, none => rw [wr_to_n]; exact Int32.mul_zero
  | some (c, l, h), some (c', l', h') => rfl
theorem wr_yneg {m : Int32} (hm : m = 1 ∨ m = 2) {a : wr_C} (b : wr_bd 100000 a) : wr_y m a < 0 ↔ a = none := by
  match a, b with
  | none, _ =>
    refine ⟨fun _ => rfl, fun _ => ?_⟩
    rcases hm with rfl | rfl <;> decide
  | some (c, l, h), b =>
    refine ⟨fun z => ?_, fun z => nomatch z⟩
    have b1 : l ≤ 100000 := b.1
    have b2 : h ≤ 100000 := b.2
    rcases hm with rfl | rfl
    · exact absurd z (nI_pos (n := l) (by omega))
    · exact absurd z (nI_pos (n := h) (by omega))
theorem wr_ys {a : wr_C} (h : ¬ a = none) : ∃ c l h, a = some (c, l, h) := by
  match a, h with
  | none, h => exact absurd rfl h
  | some (c, l, k), _ => exact ⟨c, l, k, rfl⟩
def wr_lo : wr_C → Option Nat
  | none => none
  | some (_, l, _) => some l
def wr_on (x : Int32) : Option Nat → Int32
  | none => x
  | some q => nI q
theorem wr_x1lo (v : wr_C) : wr_x1 v = wr_on (-4) (wr_lo v) := by
  match v with
  | none => rfl
  | some (c, l, h) => rfl
theorem wr_y1lo (v : wr_C) : wr_y 1 v = wr_on (-1) (wr_lo v) := by
  match v with
  | none => rfl
  | some (c, l, h) => rfl
/-- the draft -/
def wr_dr (K C L R S : Nat → Int32) (ds st lv : Nat) : Prop :=
  ds ≤ 20 ∧ lv ≤ 10 ∧ st ≤ 8 ∧ st = wr_tp K ds ∧ (∀ t, t < st → S t = nI (wr_og K ds t)) ∧ ∀ s, s < ds → wr_ok K C L R s
theorem wr_dr_0 (K C L R S : Nat → Int32) : wr_dr K C L R S 0 0 0 :=
  ⟨by omega, by omega, by omega, rfl, fun t h => absurd h (Nat.not_lt_zero t), fun s h => absurd h (Nat.not_lt_zero s)⟩
theorem wr_dr_s {K C L R S : Nat → Int32} {ds st lv : Nat} (h : wr_dr K C L R S ds st lv) (hd : ds < 20) {k c l r : Int32} {st' lv' : Nat} (h8 : st' ≤ 8) (h10 : lv' ≤ 10) (hst : st' ≤ st + 1) (htp : (if k < 3 then st + 1 else if k < 5 then st - 1 else st) = st')
    (hc : ∃ q, q ≤ 9 ∧ c = nI q ∧ (k = 2 → q = 0))
    (ho : k = 0 ∨ k = 1 ∨ k = 2 ∨ (k = 3 ∧ 2 ≤ st ∧ l = nI (wr_og K ds (st - 2)) ∧ r = nI (wr_og K ds (st - 1))) ∨ (k = 4 ∧ 2 ≤ st ∧ l = nI (wr_og K ds (st - 2)) ∧ r = nI (wr_og K ds (st - 1))) ∨ (k = 5 ∧ 1 ≤ st ∧ l = nI (wr_og K ds (st - 1)))) :
    wr_dr (upd K ds k) (upd C ds c) (upd L ds l) (upd R ds r) (upd S (st' - 1) (nI ds)) (ds + 1) st' lv' := by
  obtain ⟨h1, h2, h3, h4, h5, h6⟩ := h
  have kk : ∀ t, t < ds → upd K ds k t = K t := fun t ht => pk_un (by omega)
  have e1 : wr_tp (upd K ds k) ds = st := by rw [wr_tp_cg ds kk, h4]
  have e2 : wr_tp (upd K ds k) (ds + 1) = st' := by rw [wr_tp_s, pk_us, e1, htp]
  refine ⟨by omega, h10, h8, e2.symm, fun t ht => ?_, fun s hs => ?_⟩
  · rw [wr_og_s, e2]
    by_cases e : t + 1 = st'
    · rw [if_pos e, show st' - 1 = t from by omega, pk_us]
    · rw [if_neg e, pk_un (by omega), wr_og_cg ds kk]
      exact h5 t (by omega)
  · by_cases e : s = ds
    · subst e
      unfold wr_ok
      rw [pk_us, pk_us, pk_us, pk_us, e1, wr_og_cg s kk, wr_og_cg s kk]
      exact ⟨hc, ho⟩
    · exact wr_ok_cg (fun t ht => kk t (by omega)) (pk_un e) (pk_un e) (pk_un e) (h6 s (by omega))
/-- the expression in use -/
def wr_us (K C L R : Nat → Int32) (z : Nat) : Prop := 1 ≤ z ∧ z ≤ 20 ∧ ∀ s, s < z → wr_ok K C L R s
theorem wr_us_cg {K C L R K' C' L' R' : Nat → Int32} {z : Nat} (h1 : 1 ≤ z) (h2 : z ≤ 20) (hK : ∀ t, t < z → K' t = K t) (hC : ∀ t, t < z → C' t = C t) (hL : ∀ t, t < z → L' t = L t) (hR : ∀ t, t < z → R' t = R t) (h : ∀ s, s < z → wr_ok K C L R s) : wr_us K' C' L' R' z :=
  ⟨h1, h2, fun s hs => wr_ok_cg (fun t ht => hK t (by omega)) (hC s hs) (hL s hs) (hR s hs) (h s hs)⟩
end
section
/-! covering: the component's table of first pieces of the text against the reference's masks -/
/-- the price of a piece as the reference takes it -/
def wr_pc (p : Nat → Nat → Option Nat) (i j : Nat) : Option Nat :=
  if j = i + 1 then (match p i j with
    | none => some 12
    | some q => if 12 < q then some 12 else some q)
  else p i j
/-- one first piece: the best over the starts below e, from b on -/
def wr_bs (p : Nat → Nat → Option Nat) (f : Nat → Nat) (j b : Nat) : Nat → Nat
  | 0 => b
  | e + 1 => match p e j with
    | none => wr_bs p f j b e
    | some q => if f e + q < wr_bs p f j b e then f e + q else wr_bs p f j b e
/-- the table of first pieces below m -/
def wr_ct (p : Nat → Nat → Option Nat) : Nat → Nat → Nat
  | 0, _ => 0
  | m + 1, j => if j = m + 1 then wr_bs p (wr_ct p m) (m + 1) (wr_ct p m m + 12) (m + 1) else wr_ct p m j
def wr_cc (p : Nat → Nat → Option Nat) (j : Nat) : Nat := wr_ct p j j
theorem wr_bs_cg {p : Nat → Nat → Option Nat} {f g : Nat → Nat} {j b : Nat} : ∀ e, (∀ i, i < e → f i = g i) → wr_bs p f j b e = wr_bs p g j b e
  | 0, _ => rfl
  | e + 1, h => by
    simp only [wr_bs]
    rw [wr_bs_cg e (fun i hi => h i (by omega)), h e (by omega)]
theorem wr_ct_cc (p : Nat → Nat → Option Nat) : ∀ m j, j ≤ m → wr_ct p m j = wr_cc p j
  | 0, j, h => by
    have e : j = 0 := by omega
    subst e
    rfl
  | m + 1, j, h => by
    by_cases e : j = m + 1
    · subst e
      rfl
    · have e2 : wr_ct p (m + 1) j = wr_ct p m j := by
        show (if j = m + 1 then _ else _) = _
        rw [if_neg e]
      rw [e2]
      exact wr_ct_cc p m j (by omega)
theorem wr_cc_0 (p : Nat → Nat → Option Nat) : wr_cc p 0 = 0 := rfl
theorem wr_cc_s (p : Nat → Nat → Option Nat) (m : Nat) : wr_cc p (m + 1) = wr_bs p (wr_cc p) (m + 1) (wr_cc p m + 12) (m + 1) := by
  have e : wr_cc p (m + 1) = wr_bs p (wr_ct p m) (m + 1) (wr_ct p m m + 12) (m + 1) := by
    show (if m + 1 = m + 1 then _ else _) = _
    rw [if_pos rfl]
  rw [e]
  exact wr_bs_cg _ (fun i hi => wr_ct_cc p m i (by omega))
theorem wr_bs_le {p : Nat → Nat → Option Nat} {f : Nat → Nat} {j b : Nat} : ∀ e, wr_bs p f j b e ≤ b
  | 0 => Nat.le_refl _
  | e + 1 => by
    have := wr_bs_le (p := p) (f := f) (j := j) (b := b) e
    simp only [wr_bs]
    split
    · exact this
    · split <;> omega
theorem wr_bs_lo {p : Nat → Nat → Option Nat} {f : Nat → Nat} {j b : Nat} : ∀ e i q, i < e → p i j = some q → wr_bs p f j b e ≤ f i + q
  | 0, i, _, h, _ => absurd h (Nat.not_lt_zero i)
  | e + 1, i, q, h, hq => by
    by_cases ei : i = e
    · subst ei
      simp only [wr_bs, hq]
      split <;> omega
    · have := wr_bs_lo (p := p) (f := f) (j := j) (b := b) e i q (by omega) hq
      simp only [wr_bs]
      split
      · exact this
      · split <;> omega
theorem wr_bs_at {p : Nat → Nat → Option Nat} {f : Nat → Nat} {j b : Nat} : ∀ e, wr_bs p f j b e = b ∨ ∃ i q, i < e ∧ p i j = some q ∧ wr_bs p f j b e = f i + q
  | 0 => Or.inl rfl
  | e + 1 => by
    have ih := wr_bs_at (p := p) (f := f) (j := j) (b := b) e
    have ih' : wr_bs p f j b e = b ∨ ∃ i q, i < e + 1 ∧ p i j = some q ∧ wr_bs p f j b e = f i + q := by
      rcases ih with h | ⟨i, q, h1, h2, h3⟩
      · exact Or.inl h
      · exact Or.inr ⟨i, q, by omega, h2, h3⟩
    cases hq : p e j with
    | none =>
      simp only [wr_bs, hq]
      exact ih'
    | some q =>
      simp only [wr_bs, hq]
      split
      · exact Or.inr ⟨e, q, by omega, hq, rfl⟩
      · exact ih'
theorem wr_cc_le (p : Nat → Nat → Option Nat) : ∀ j, wr_cc p j ≤ 12 * j
  | 0 => Nat.le_refl _
  | m + 1 => by
    have h := wr_cc_le p m
    have h2 := wr_bs_le (p := p) (f := wr_cc p) (j := m + 1) (b := wr_cc p m + 12) (m + 1)
    rw [wr_cc_s]
    omega
/-- a piece is never cheaper than the table says -/
theorem wr_pc_lo {p : Nat → Nat → Option Nat} {i j q : Nat} (h : i < j) (hq : wr_pc p i j = some q) : wr_cc p j ≤ wr_cc p i + q := by
  obtain ⟨m, rfl⟩ : ∃ m, j = m + 1 := ⟨j - 1, by omega⟩
  have h2 := wr_bs_le (p := p) (f := wr_cc p) (j := m + 1) (b := wr_cc p m + 12) (m + 1)
  have h3 : ∀ r, p i (m + 1) = some r → wr_bs p (wr_cc p) (m + 1) (wr_cc p m + 12) (m + 1) ≤ wr_cc p i + r := fun r hr => wr_bs_lo (m + 1) i r h hr
  rw [wr_cc_s]
  unfold wr_pc at hq
  by_cases e : m + 1 = i + 1
  · rw [if_pos e] at hq
    have e' : m = i := by omega
    subst e'
    cases hp : p m (m + 1) with
    | none =>
      rw [hp] at hq
      dsimp only at hq
      cases hq
      exact h2
    | some r =>
      have h4 := h3 r hp
      rw [hp] at hq
      dsimp only at hq
      split at hq
      · cases hq
        exact h2
      · cases hq
        exact h4
  · rw [if_neg e] at hq
    exact h3 q hq
/-- the table's value is some piece's -/
theorem wr_pc_at (p : Nat → Nat → Option Nat) (m : Nat) : ∃ i q, i < m + 1 ∧ wr_pc p i (m + 1) = some q ∧ wr_cc p (m + 1) = wr_cc p i + q := by
  have lo : ∀ i q, i < m + 1 → wr_pc p i (m + 1) = some q → wr_cc p (m + 1) ≤ wr_cc p i + q := fun i q hi hq => wr_pc_lo hi hq
  have hs := wr_cc_s p m
  rcases wr_bs_at (p := p) (f := wr_cc p) (j := m + 1) (b := wr_cc p m + 12) (m + 1) with h | ⟨i, q, h1, h2, h3⟩
  · cases hp : p m (m + 1) with
    | none =>
      exact ⟨m, 12, by omega, by simp [wr_pc, hp], by omega⟩
    | some r =>
      by_cases hr : 12 < r
      · exact ⟨m, 12, by omega, by simp [wr_pc, hp, hr], by omega⟩
      · have e : wr_pc p m (m + 1) = some r := by simp [wr_pc, hp, hr]
        have := wr_bs_lo (p := p) (f := wr_cc p) (j := m + 1) (b := wr_cc p m + 12) (m + 1) m r (by omega) hp
        have := lo m r (by omega) e
        refine ⟨m, r, by omega, e, by omega⟩
  · by_cases e : m + 1 = i + 1
    · have e' : m = i := by omega
      subst e'
      by_cases hq : 12 < q
      · have := wr_bs_le (p := p) (f := wr_cc p) (j := m + 1) (b := wr_cc p m + 12) (m + 1)
        omega
      · exact ⟨m, q, by omega, by simp [wr_pc, h2, hq], by omega⟩
    · refine ⟨i, q, h1, ?_, by omega⟩
      unfold wr_pc
      rw [if_neg e]
      exact h2
/-- a walk over the places below k, cut where b says: the last start and the sum -/
def wr_wk (p : Nat → Nat → Option Nat) (b : Nat → Bool) : Nat → Option (Nat × Nat)
  | 0 => some (0, 0)
  | k + 1 => match wr_wk p b k with
    | none => none
    | some (st, sm) => if b k = true then (match wr_pc p st (k + 1) with
        | none => none
        | some c => some (k + 1, sm + c)) else some (st, sm)
theorem wr_wk_s (p : Nat → Nat → Option Nat) (b : Nat → Bool) (k : Nat) : wr_wk p b (k + 1) = match wr_wk p b k with
    | none => none
    | some (st, sm) => if b k = true then (match wr_pc p st (k + 1) with
        | none => none
        | some c => some (k + 1, sm + c)) else some (st, sm) := rfl
theorem wr_wk_cg {p : Nat → Nat → Option Nat} {b b' : Nat → Bool} : ∀ k, (∀ t, t < k → b t = b' t) → wr_wk p b k = wr_wk p b' k
  | 0, _ => rfl
  | k + 1, h => by
    rw [wr_wk_s, wr_wk_s, wr_wk_cg k (fun t ht => h t (by omega)), h k (by omega)]
theorem wr_wk_lo {p : Nat → Nat → Option Nat} {b : Nat → Bool} : ∀ k st sm, wr_wk p b k = some (st, sm) → st ≤ k ∧ wr_cc p st ≤ sm
  | 0, st, sm, h => by
    cases h
    exact ⟨Nat.le_refl _, Nat.le_refl _⟩
  | k + 1, st, sm, h => by
    rw [wr_wk_s] at h
    cases hw : wr_wk p b k with
    | none =>
      rw [hw] at h
      cases h
    | some z =>
      obtain ⟨st', sm'⟩ := z
      obtain ⟨i1, i2⟩ := wr_wk_lo k st' sm' hw
      rw [hw] at h
      dsimp only at h
      split at h
      · cases hc : wr_pc p st' (k + 1) with
        | none =>
          rw [hc] at h
          cases h
        | some c =>
          rw [hc] at h
          cases h
          have := wr_pc_lo (by omega) hc
          exact ⟨Nat.le_refl _, by omega⟩
      · cases h
        exact ⟨by omega, i2⟩
theorem wr_wk_end {p : Nat → Nat → Option Nat} {b : Nat → Bool} {k st sm : Nat} (hb : b k = true) (h : wr_wk p b (k + 1) = some (st, sm)) : st = k + 1 := by
  rw [wr_wk_s] at h
  cases hw : wr_wk p b k with
  | none =>
    rw [hw] at h
    cases h
  | some z =>
    obtain ⟨st', sm'⟩ := z
    rw [hw] at h
    dsimp only at h
    rw [if_pos hb] at h
    cases hc : wr_pc p st' (k + 1) with
    | none =>
      rw [hc] at h
      cases h
    | some c =>
      rw [hc] at h
      cases h
      rfl
/-- the table's value is reached by some cuts -/
theorem wr_wk_at (p : Nat → Nat → Option Nat) : ∀ m j, j ≤ m → ∃ b : Nat → Bool, wr_wk p b j = some (j, wr_cc p j)
  | 0, j, h => ⟨fun _ => true, by
      have e : j = 0 := by omega
      subst e
      rfl⟩
  | m + 1, j, h => by
    by_cases e : j ≤ m
    · exact wr_wk_at p m j e
    · have ej : j = m + 1 := by omega
      subst ej
      obtain ⟨i, q, h1, h2, h3⟩ := wr_pc_at p m
      obtain ⟨b, hb⟩ := wr_wk_at p m i (by omega)
      let b' : Nat → Bool := fun k => if k < i then b k else decide (k = m)
      have hi : wr_wk p b' i = some (i, wr_cc p i) := by
        rw [← hb]
        exact wr_wk_cg i (fun t ht => if_pos ht)
      have go : ∀ d, i + d ≤ m → wr_wk p b' (i + d) = some (i, wr_cc p i) := by
        intro d
        induction d with
        | zero => intro _; exact hi
        | succ d ih =>
          intro hd
          show wr_wk p b' ((i + d) + 1) = _
          rw [wr_wk_s, ih (by omega)]
          dsimp only
          rw [if_neg]
          have e1 : b' (i + d) = decide (i + d = m) := if_neg (by omega)
          rw [e1]
          simp
          omega
      refine ⟨b', ?_⟩
      have hm := go (m - i) (by omega)
      rw [show i + (m - i) = m from by omega] at hm
      rw [wr_wk_s, hm]
      dsimp only
      have e1 : b' m = true := by
        show (if m < i then b m else decide (m = m)) = true
        rw [if_neg (by omega)]
        simp
      rw [if_pos e1, h2]
      dsimp only
      rw [h3]
/-- a mask for the first n cuts -/
theorem wr_mask (b : Nat → Bool) : ∀ n, ∃ c, c < 2 ^ n ∧ ∀ k, k < n → (c / 2 ^ k % 2 = 1 ↔ b k = true)
  | 0 => ⟨0, by decide, fun k h => absurd h (Nat.not_lt_zero k)⟩
  | n + 1 => by
    obtain ⟨c, hc, h⟩ := wr_mask b n
    have hp : 2 ^ (n + 1) = 2 ^ n * 2 := Nat.pow_succ 2 n
    by_cases hb : b n = true
    · refine ⟨c + 2 ^ n, by omega, fun k hk => ?_⟩
      by_cases e : k = n
      · subst e
        rw [Nat.add_div_right _ (Nat.two_pow_pos k), Nat.div_eq_of_lt hc]
        simp [hb]
      · have hk' : k < n := by omega
        obtain ⟨d, rfl⟩ : ∃ d, n = k + d + 1 := ⟨n - k - 1, by omega⟩
        have e1 : 2 ^ (k + d + 1) = 2 ^ k * (2 * 2 ^ d) := by
          rw [Nat.pow_succ, Nat.pow_add, Nat.mul_assoc, Nat.mul_comm (2 ^ d) 2]
        rw [e1, Nat.add_mul_div_left _ _ (Nat.two_pow_pos k), ← h k hk']
        omega
    · refine ⟨c, by omega, fun k hk => ?_⟩
      by_cases e : k = n
      · subst e
        rw [Nat.div_eq_of_lt hc]
        simp [hb]
      · exact h k (by omega)
/-- the cuts of a mask, the last one forced -/
def wr_bit (n c k : Nat) : Bool := decide (k + 1 = n ∨ c / 2 ^ k % 2 = 1)
theorem wr_bit_t {n c k : Nat} (h : k + 1 = n ∨ c / 2 ^ k % 2 = 1) : wr_bit n c k = true := decide_eq_true h
theorem wr_bit_f {n c k : Nat} (h : ¬ (k + 1 = n ∨ c / 2 ^ k % 2 = 1)) : ¬ wr_bit n c k = true := fun z => h (of_decide_eq_true z)
def wr_sd : Option (Nat × Nat) → Option Nat
  | none => none
  | some (_, s) => some s
def wr_mc (p : Nat → Nat → Option Nat) (n c : Nat) : Option Nat := wr_sd (wr_wk p (wr_bit n c) n)
theorem wr_mc_lo {p : Nat → Nat → Option Nat} {n c v : Nat} (h : wr_mc p n c = some v) : wr_cc p n ≤ v := by
  unfold wr_mc at h
  cases n with
  | zero => exact Nat.zero_le v
  | succ n =>
    cases hw : wr_wk p (wr_bit (n + 1) c) (n + 1) with
    | none =>
      rw [hw] at h
      cases h
    | some z =>
      obtain ⟨st, sm⟩ := z
      have e := wr_wk_end (wr_bit_t (Or.inl rfl)) hw
      have l := (wr_wk_lo (n + 1) st sm hw).2
      rw [hw] at h
      cases h
      rw [← e]
      exact l
theorem wr_mc_at (p : Nat → Nat → Option Nat) {n : Nat} (h1 : 1 ≤ n) (h8 : n ≤ 8) : ∃ c, c < 128 ∧ wr_mc p n c = some (wr_cc p n) := by
  obtain ⟨m, rfl⟩ : ∃ m, n = m + 1 := ⟨n - 1, by omega⟩
  obtain ⟨b, hb⟩ := wr_wk_at p (m + 1) (m + 1) (Nat.le_refl _)
  have bm : b m = true := by
    by_cases z : b m = true
    · exact z
    · rw [wr_wk_s] at hb
      cases hw : wr_wk p b m with
      | none =>
        rw [hw] at hb
        cases hb
      | some y =>
        obtain ⟨st, sm⟩ := y
        have l := (wr_wk_lo m st sm hw).1
        rw [hw] at hb
        dsimp only at hb
        rw [if_neg z] at hb
        cases hb
        omega
  obtain ⟨c, hc, hk⟩ := wr_mask b m
  have hp : 2 ^ m ≤ 2 ^ 7 := Nat.pow_le_pow_right (by decide) (by omega)
  have hp' : (2 : Nat) ^ 7 = 128 := by decide
  refine ⟨c, by omega, ?_⟩
  have e : wr_wk p (wr_bit (m + 1) c) (m + 1) = wr_wk p b (m + 1) := by
    refine wr_wk_cg (m + 1) (fun t ht => ?_)
    by_cases et : t = m
    · subst et
      rw [bm]
      exact wr_bit_t (Or.inl rfl)
    · have hk' := hk t (by omega)
      by_cases z : b t = true
      · rw [z]
        exact wr_bit_t (Or.inr (hk'.mpr z))
      · have z' : b t = false := by simpa using z
        rw [z']
        refine decide_eq_false ?_
        intro y
        rcases y with y | y
        · omega
        · exact z (hk'.mp y)
  unfold wr_mc
  rw [e, hb]
  rfl
/-- prices are bounded -/
def wr_pb (p : Nat → Nat → Option Nat) (n : Nat) : Prop := ∀ i j q, i < j → j ≤ n → p i j = some q → q ≤ 1440
theorem wr_pc_bd {p : Nat → Nat → Option Nat} {n : Nat} (hp : wr_pb p n) {i j q : Nat} (h : i < j) (hj : j ≤ n) (hq : wr_pc p i j = some q) : q ≤ 1440 := by
  unfold wr_pc at hq
  split at hq
  · cases hr : p i j with
    | none =>
      rw [hr] at hq
      cases hq
      omega
    | some r =>
      have := hp i j r h hj hr
      rw [hr] at hq
      dsimp only at hq
      split at hq
      · cases hq
        omega
      · cases hq
        exact this
  · exact hp i j q h hj hq
theorem wr_wk_bd {p : Nat → Nat → Option Nat} {n : Nat} (hp : wr_pb p n) {b : Nat → Bool} : ∀ k st sm, k ≤ n → wr_wk p b k = some (st, sm) → sm ≤ 1440 * k
  | 0, st, sm, _, h => by
    cases h
    exact Nat.zero_le _
  | k + 1, st, sm, hk, h => by
    rw [wr_wk_s] at h
    cases hw : wr_wk p b k with
    | none =>
      rw [hw] at h
      cases h
    | some z =>
      obtain ⟨st', sm'⟩ := z
      have i2 := wr_wk_bd hp k st' sm' (by omega) hw
      have i1 := (wr_wk_lo k st' sm' hw).1
      rw [hw] at h
      dsimp only at h
      split at h
      · cases hc : wr_pc p st' (k + 1) with
        | none =>
          rw [hc] at h
          cases h
        | some c =>
          rw [hc] at h
          cases h
          have := wr_pc_bd hp (by omega) hk hc
          omega
      · cases h
        omega
theorem wr_mc_bd {p : Nat → Nat → Option Nat} {n c v : Nat} (hp : wr_pb p n) (h : wr_mc p n c = some v) : v ≤ 1440 * n := by
  unfold wr_mc at h
  cases hw : wr_wk p (wr_bit n c) n with
  | none =>
    rw [hw] at h
    cases h
  | some z =>
    obtain ⟨st, sm⟩ := z
    have := wr_wk_bd hp n st sm (Nat.le_refl _) hw
    rw [hw] at h
    cases h
    exact this
theorem wr_wk_none {p : Nat → Nat → Option Nat} {b : Nat → Bool} {k : Nat} (h : wr_wk p b k = none) : ∀ d, wr_wk p b (k + d) = none
  | 0 => h
  | d + 1 => by
    show wr_wk p b ((k + d) + 1) = none
    rw [wr_wk_s, wr_wk_none h d]
/-- what the reference's loop over the masks below c holds -/
def wr_bm (p : Nat → Nat → Option Nat) (n c B : Nat) : Prop := wr_cc p n ≤ B ∧ B ≤ 12 * n ∧ ∀ c', c' < c → ∀ v, wr_mc p n c' = some v → B ≤ v
theorem wr_bm_0 (p : Nat → Nat → Option Nat) (n : Nat) : wr_bm p n 0 (12 * n) := ⟨wr_cc_le p n, Nat.le_refl _, fun c' h => absurd h (Nat.not_lt_zero c')⟩
theorem wr_bm_n {p : Nat → Nat → Option Nat} {n c B : Nat} (h : wr_bm p n c B) (e : wr_mc p n c = none) : wr_bm p n (c + 1) B := by
  obtain ⟨h1, h2, h3⟩ := h
  refine ⟨h1, h2, fun c' hc v hv => ?_⟩
  by_cases ec : c' = c
  · subst ec
    rw [e] at hv
    cases hv
  · exact h3 c' (by omega) v hv
theorem wr_bm_l {p : Nat → Nat → Option Nat} {n c B w : Nat} (h : wr_bm p n c B) (e : wr_mc p n c = some w) (g : w < B) : wr_bm p n (c + 1) w := by
  obtain ⟨h1, h2, h3⟩ := h
  refine ⟨wr_mc_lo e, by omega, fun c' hc v hv => ?_⟩
  by_cases ec : c' = c
  · subst ec
    rw [e] at hv
    cases hv
    exact Nat.le_refl _
  · have := h3 c' (by omega) v hv
    omega
theorem wr_bm_g {p : Nat → Nat → Option Nat} {n c B w : Nat} (h : wr_bm p n c B) (e : wr_mc p n c = some w) (g : ¬ w < B) : wr_bm p n (c + 1) B := by
  obtain ⟨h1, h2, h3⟩ := h
  refine ⟨h1, h2, fun c' hc v hv => ?_⟩
  by_cases ec : c' = c
  · subst ec
    rw [e] at hv
    cases hv
    omega
  · exact h3 c' (by omega) v hv
theorem wr_bm_e {p : Nat → Nat → Option Nat} {n B : Nat} (h8 : n ≤ 8) (h : wr_bm p n 128 B) : B = wr_cc p n := by
  obtain ⟨h1, h2, h3⟩ := h
  by_cases e : n = 0
  · subst e
    have := wr_cc_0 p
    omega
  · obtain ⟨c, hc, hv⟩ := wr_mc_at p (n := n) (by omega) h8
    have := h3 c hc _ hv
    omega
theorem wr_shift : ∀ c, c < 128 → ∀ k, k < 8 → (((nI c >>> (nI k &&& 31)) &&& 1) = 1 ↔ c / 2 ^ k % 2 = 1) := by decide +kernel
end
section
/-! the component's walks over one window -/
theorem xa_co {post : Int32 → Prop} {a b c : Nat} {p : Int32} (hp : p = nI a) (h : post (nI (a * 81 + b * 9 + c))) : wpX_cellOf post p (nI b) (nI c) := by
  subst hp
  unfold wpX_cellOf
  rw [wr_cx]
  exact h
theorem wr_get {V : Nat → Nat → Nat → wr_C} {n s i j s' i' j' : Nat} {b0 b1 b2 c0 c1 c2 : Nat → Int32} (hn : n ≤ 8) (hi : i ≤ j) (hj : j ≤ n) (hX : wr_X V n s (i + 1) j b0 b1 b2) (o : wr_off (s * 81 + i * 9 + j) b0 b1 b2 c0 c1 c2) (h1 : i' ≤ j') (h2 : j' ≤ n) (hD : wr_D s (i + 1) j s' i' j') : wr_c (V s' i' j') (s' * 81 + i' * 9 + j') c0 c1 c2 := by
  have hk : s' * 81 + i' * 9 + j' ≠ s * 81 + i * 9 + j := by
    unfold wr_D at hD
    omega
  obtain ⟨o0, o1, o2⟩ := o _ hk
  obtain ⟨x0, x1, x2⟩ := hX s' i' j' h1 h2 hD
  exact ⟨o0.trans x0, o1.trans x1, o2.trans x2⟩
section
variable {post : SX → Prop} {ds dv st us tl : Int32} {dk dt dc dl dr sk uk ut uc ul ur tx cv : Nat → Int32}
theorem xa_addR {c0 c1 c2 : Nat → Int32} {c : Nat} {v : wr_C} {m : Int32} {l h : Nat} (hc : c < 1620) (hv : wr_c v c c0 c1 c2) (bv : wr_bd 100000 v) (hl : l ≤ 100000) (hh : h ≤ 100000) (K : ∀ d0 d1 d2, wr_off c c0 c1 c2 d0 d1 d2 → wr_c (wr_ei v (some (m, l, h))) c d0 d1 d2 → post (ds, dv, st, us, tl, dk, dt, dc, dl, dr, sk, uk, ut, uc, ul, ur, tx, d0, d1, d2, cv)) : wpX_addReadings post (ds, dv, st, us, tl, dk, dt, dc, dl, dr, sk, uk, ut, uc, ul, ur, tx, c0, c1, c2, cv) (nI c) m (nI l) (nI h) := by
  have e : (nI c).toNatClampNeg = c := nI_clamp (by omega)
  have w : vp_in (nI c) 1620 := vp_in_nI hc (by omega)
  obtain ⟨v0, v1, v2⟩ := hv
  have K38 : ∀ d0 d1 : Nat → Int32, (∀ k, k ≠ c → d0 k = c0 k ∧ d1 k = c1 k) → d0 c = wr_x0 (wr_ei v (some (m, l, h))) → d1 c = wr_x1 (wr_ei v (some (m, l, h))) → wX_addReadings_38 post (nI c) (nI h) ds dv st us tl dk dt dc dl dr sk uk ut uc ul ur tx d0 d1 c2 cv := by
    intro d0 d1 o e0 e1
    refine ⟨w, br_c (fun z => ⟨w, nm_r (e' := upd c2 c (nI h)) (by rw [e]) (K _ _ _ (fun k hk => ⟨(o k hk).1, (o k hk).2, pk_un hk⟩) ⟨e0, e1, ?_⟩)⟩) (fun z => ⟨w, br_c (fun y => K _ _ _ (fun k hk => ⟨(o k hk).1, (o k hk).2, rfl⟩) ⟨e0, e1, ?_⟩) (fun y => ⟨w, nm_r (e' := upd c2 c (nI h)) (by rw [e]) (K _ _ _ (fun k hk => ⟨(o k hk).1, (o k hk).2, pk_un hk⟩) ⟨e0, e1, ?_⟩)⟩)⟩)⟩
    · rw [e, v2] at z
      rw [pk_us]
      exact wr_a2t m l h bv z
    · rw [e, v2] at z y
      rw [v2]
      exact wr_a2g m l bv hh z (Int32.not_lt.mpr y)
    · rw [e, v2] at z y
      rw [pk_us]
      exact wr_a2l m l bv hh z (Int32.not_le.mp y)
  have K31 : ∀ d0 : Nat → Int32, (∀ k, k ≠ c → d0 k = c0 k) → d0 c = wr_x0 (wr_ei v (some (m, l, h))) → nI l = wr_x1 (wr_ei v (some (m, l, h))) → wX_addReadings_31 post (nI c) (nI l) (nI h) ds dv st us tl dk dt dc dl dr sk uk ut uc ul ur tx d0 c1 c2 cv := by
    intro d0 o e0 e1
    refine ⟨w, nm_r (e' := upd c1 c (nI l)) (by rw [e]) (K38 _ _ (fun k hk => ⟨o k hk, pk_un hk⟩) e0 ?_)⟩
    rw [pk_us]
    exact e1
  have o0 : ∀ k, k ≠ c → upd c0 c (c0 c + m) k = c0 k := fun k hk => pk_un hk
  have e0 : upd c0 c (c0 c + m) c = wr_x0 (wr_ei v (some (m, l, h))) := by
    rw [pk_us, v0]
    exact wr_a0 v m l h
  refine ⟨w, w, nm_r (e' := upd c0 c (c0 c + m)) (by rw [e]) ⟨w, br_c (fun z => K31 _ o0 e0 ?_) (fun z => ⟨w, br_c (fun y => K38 _ _ (fun k hk => ⟨o0 k hk, rfl⟩) e0 ?_) (fun y => K31 _ o0 e0 ?_)⟩)⟩⟩
  · rw [e, v1] at z
    exact wr_a1t m l h bv z
  · rw [e, v1] at z y
    rw [v1]
    exact wr_a1g m h bv hl z (Int32.not_lt.mpr y)
  · rw [e, v1] at z y
    exact wr_a1l m h bv hl z (Int32.not_le.mp y)
theorem xa_empty {c0 c1 c2 : Nat → Int32} {c i j : Nat} (hc : c < 1620) (hi : i ≤ 8) (hj : j ≤ 8) (hv : wr_c none c c0 c1 c2) (K : ∀ d0 d1 d2, wr_off c c0 c1 c2 d0 d1 d2 → wr_c (if i = j then some (1, 0, 0) else none) c d0 d1 d2 → post (ds, dv, st, us, tl, dk, dt, dc, dl, dr, sk, uk, ut, uc, ul, ur, tx, d0, d1, d2, cv)) : wpX_readEmpty post (ds, dv, st, us, tl, dk, dt, dc, dl, dr, sk, uk, ut, uc, ul, ur, tx, c0, c1, c2, cv) (nI c) (nI i) (nI j) := by
  refine pk_eq i j (fun z => ?_) (fun z => ?_)
  · rw [if_pos z] at K
    exact xa_addR (l := 0) (h := 0) (m := 1) hc hv True.intro (by omega) (by omega) (fun d0 d1 d2 o q => K d0 d1 d2 o q)
  · rw [if_neg z] at K
    exact K c0 c1 c2 (wr_off_r _ _ _ _) hv
theorem xa_pairs {c0 c1 c2 : Nat → Int32} {c a b e : Nat} {v A B : wr_C} {p3 : Int32} (hc : c < 1620) (ha : a < 1620) (hb : b < 1620) (he : e ≤ 9) (hp : p3 = nI e) (hv : wr_c v c c0 c1 c2) (hA : wr_c A a c0 c1 c2) (hB : wr_c B b c0 c1 c2) (bv : wr_bd 100000 v) (bA : wr_bd 1440 A) (bB : wr_bd 1440 B) (K : ∀ d0 d1 d2, wr_off c c0 c1 c2 d0 d1 d2 → wr_c (wr_ei v (wr_to e A B)) c d0 d1 d2 → post (ds, dv, st, us, tl, dk, dt, dc, dl, dr, sk, uk, ut, uc, ul, ur, tx, d0, d1, d2, cv)) : wpX_addPairs post (ds, dv, st, us, tl, dk, dt, dc, dl, dr, sk, uk, ut, uc, ul, ur, tx, c0, c1, c2, cv) (nI c) (nI a) (nI b) p3 := by
  subst hp
  have ea : (nI a).toNatClampNeg = a := nI_clamp (by omega)
  have wa : vp_in (nI a) 1620 := vp_in_nI ha (by omega)
  have eb : (nI b).toNatClampNeg = b := nI_clamp (by omega)
  have wb : vp_in (nI b) 1620 := vp_in_nI hb (by omega)
  obtain ⟨A0, A1, A2⟩ := hA
  obtain ⟨B0, B1, B2⟩ := hB
  refine ⟨wa, br_c (fun z => ?_) (fun z => ⟨wb, br_c (fun y => ?_) (fun y => ?_)⟩)⟩
  · rw [ea, A1] at z
    have z' := wr_x1n (wr_bd_up bA (by omega)) z
    subst z'
    rw [wr_n_to, wr_ei_n] at K
    exact K c0 c1 c2 (wr_off_r _ _ _ _) hv
  · rw [eb, B1] at y
    have y' := wr_x1n (wr_bd_up bB (by omega)) y
    subst y'
    rw [wr_to_n, wr_ei_n] at K
    exact K c0 c1 c2 (wr_off_r _ _ _ _) hv
  · rw [ea, A1] at z
    rw [eb, B1] at y
    obtain ⟨ca, la, ha', rfl⟩ := wr_x1s z
    obtain ⟨cb, lb, hb', rfl⟩ := wr_x1s y
    have b1 : la ≤ 1440 := bA.1
    have b2 : ha' ≤ 1440 := bA.2
    have b3 : lb ≤ 1440 := bB.1
    have b4 : hb' ≤ 1440 := bB.2
    have A1' : c1 a = nI la := A1
    have A2' : c2 a = nI ha' := A2
    have B1' : c1 b = nI lb := B1
    have B2' : c2 b = nI hb' := B2
    have A0' : c0 a = ca := A0
    have B0' : c0 b = cb := B0
    refine ⟨wa, wb, nm_r (e' := nI (la + lb + e)) (by rw [ea, eb, A1', B1', nI_add, nI_add]) ⟨wa, wb, nm_r (e' := nI (ha' + hb' + e)) (by rw [ea, eb, A2', B2', nI_add, nI_add]) ⟨wa, wb, ?_⟩⟩⟩
    rw [ea, eb, A0', B0']
    exact xa_addR hc hv bv (by omega) (by omega) (fun d0 d1 d2 o q => K d0 d1 d2 o q)
theorem xa_cell {c0 c1 c2 : Nat → Int32} {c a : Nat} {v A : wr_C} (hc : c < 1620) (ha : a < 1620) (hv : wr_c v c c0 c1 c2) (hA : wr_c A a c0 c1 c2) (bv : wr_bd 100000 v) (bA : wr_bd 1440 A) (K : ∀ d0 d1 d2, wr_off c c0 c1 c2 d0 d1 d2 → wr_c (wr_ei v A) c d0 d1 d2 → post (ds, dv, st, us, tl, dk, dt, dc, dl, dr, sk, uk, ut, uc, ul, ur, tx, d0, d1, d2, cv)) : wpX_addCell post (ds, dv, st, us, tl, dk, dt, dc, dl, dr, sk, uk, ut, uc, ul, ur, tx, c0, c1, c2, cv) (nI c) (nI a) := by
  have ea : (nI a).toNatClampNeg = a := nI_clamp (by omega)
  have wa : vp_in (nI a) 1620 := vp_in_nI ha (by omega)
  obtain ⟨A0, A1, A2⟩ := hA
  refine ⟨wa, br_c (fun z => ?_) (fun z => ⟨wa, wa, wa, ?_⟩)⟩
  · rw [ea, A1] at z
    have z' := wr_x1n (wr_bd_up bA (by omega)) z
    subst z'
    rw [wr_ei_n] at K
    exact K c0 c1 c2 (wr_off_r _ _ _ _) hv
  · rw [ea, A1] at z
    obtain ⟨ca, la, ha', rfl⟩ := wr_x1s z
    have b1 : la ≤ 1440 := bA.1
    have b2 : ha' ≤ 1440 := bA.2
    have A1' : c1 a = nI la := A1
    have A2' : c2 a = nI ha' := A2
    have A0' : c0 a = ca := A0
    rw [ea, A0', A1', A2']
    exact xa_addR hc hv bv (by omega) (by omega) (fun d0 d1 d2 o q => K d0 d1 d2 o q)
theorem xa_seq11 {V : Nat → Nat → Nat → wr_C} {n s i j x y : Nat} {b0 b1 b2 : Nat → Int32} (hn : n ≤ 8) (hi : i ≤ j) (hj : j ≤ n) (hs : s < 20) (hx : x < s) (hy : y < s) (eL : ul s = nI x) (eR : ur s = nI y) (hX : wr_X V n s (i + 1) j b0 b1 b2) (bV : ∀ s' i' j', s' ≤ s → i' ≤ j' → j' ≤ n → wr_bd 1440 (V s' i' j'))
    (K : ∀ d0 d1 d2, wr_off (s * 81 + i * 9 + j) b0 b1 b2 d0 d1 d2 → wr_c (wr_su (fun k => wr_to 0 (V x i k) (V y k j)) i (j - i + 1)) (s * 81 + i * 9 + j) d0 d1 d2 → post (ds, dv, st, us, tl, dk, dt, dc, dl, dr, sk, uk, ut, uc, ul, ur, tx, d0, d1, d2, cv)) :
    ∀ d k m c0 c1 c2, k + d = j + 1 → i ≤ k → d < m → wr_off (s * 81 + i * 9 + j) b0 b1 b2 c0 c1 c2 → wr_c (wr_su (fun k => wr_to 0 (V x i k) (V y k j)) i (k - i)) (s * 81 + i * 9 + j) c0 c1 c2 →
    wX_readSeq_11 post (nI s) (nI i) (nI j) (nI (s * 81 + i * 9 + j)) m (nI k) ds dv st us tl dk dt dc dl dr sk uk ut uc ul ur tx c0 c1 c2 cv := by
  intro d
  induction d with
  | zero =>
    intro k m c0 c1 c2 h1 h2 h3 o q
    obtain ⟨m, rfl⟩ : ∃ m', m = m' + 1 := ⟨m - 1, by omega⟩
    rw [wX_readSeq_11]
    rw [show k - i = j - i + 1 from by omega] at q
    exact br_t (nI_lt (by omega) (by omega)) (K c0 c1 c2 o q)
  | succ d ih =>
    intro k m c0 c1 c2 h1 h2 h3 o q
    obtain ⟨m, rfl⟩ : ∃ m', m = m' + 1 := ⟨m - 1, by omega⟩
    have es : (nI s).toNatClampNeg = s := nI_clamp (by omega)
    have ws : vp_in (nI s) 20 := vp_in_nI hs (by omega)
    rw [wX_readSeq_11]
    refine br_f (nI_nlt (by omega) (by omega)) ⟨ws, xa_co (a := x) (by rw [es]; exact eL) ⟨ws, xa_co (a := y) (by rw [es]; exact eR) ?_⟩⟩
    have bs : wr_bd 100000 (wr_su (fun k => wr_to 0 (V x i k) (V y k j)) i (k - i)) := wr_su_bd _ (fun t h4 h5 => wr_to_bd (bV x i t (by omega) h4 (by omega)) (bV y t j (by omega) (by omega) hj) (by omega))
    refine xa_pairs (e := 0) (by omega) (by omega) (by omega) (by omega) rfl q (wr_get hn hi hj hX o h2 (by omega) (Or.inl hx)) (wr_get hn hi hj hX o (by omega) hj (Or.inl hy)) bs (bV x i k (by omega) h2 (by omega)) (bV y k j (by omega) (by omega) hj) (fun d0 d1 d2 o' q' => ?_)
    refine nm_r (nI_1 k) (ih (k + 1) m d0 d1 d2 (by omega) (by omega) (by omega) (wr_off_t o o') ?_)
    rw [show k + 1 - i = (k - i) + 1 from by omega, wr_su_s, show i + (k - i) = k from by omega]
    exact q'
theorem xa_pc13 {V : Nat → Nat → Nat → wr_C} {n s i j x e : Nat} {b0 b1 b2 : Nat → Int32} (hn : n ≤ 8) (hi : i < j) (hj : j ≤ n) (hs : s < 20) (hx : x < s) (he : e ≤ 9) (eL : ul s = nI x) (eC : uc s = nI e) (hX : wr_X V n s (i + 1) j b0 b1 b2) (bV : ∀ s' i' j', s' ≤ s → i' ≤ j' → j' ≤ n → wr_bd 1440 (V s' i' j'))
    (K : ∀ d0 d1 d2, wr_off (s * 81 + i * 9 + j) b0 b1 b2 d0 d1 d2 → wr_c (wr_su (fun k => wr_to e (V x i k) (V s k j)) (i + 1) (j - i)) (s * 81 + i * 9 + j) d0 d1 d2 → post (ds, dv, st, us, tl, dk, dt, dc, dl, dr, sk, uk, ut, uc, ul, ur, tx, d0, d1, d2, cv)) :
    ∀ d k m c0 c1 c2, k + d = j + 1 → i + 1 ≤ k → d < m → wr_off (s * 81 + i * 9 + j) b0 b1 b2 c0 c1 c2 → wr_c (wr_su (fun k => wr_to e (V x i k) (V s k j)) (i + 1) (k - (i + 1))) (s * 81 + i * 9 + j) c0 c1 c2 →
    wX_readPieces_13 post (nI s) (nI i) (nI j) (nI (s * 81 + i * 9 + j)) m (nI k) ds dv st us tl dk dt dc dl dr sk uk ut uc ul ur tx c0 c1 c2 cv := by
  intro d
  induction d with
  | zero =>
    intro k m c0 c1 c2 h1 h2 h3 o q
    obtain ⟨m, rfl⟩ : ∃ m', m = m' + 1 := ⟨m - 1, by omega⟩
    rw [wX_readPieces_13]
    rw [show k - (i + 1) = j - i from by omega] at q
    exact br_t (nI_lt (by omega) (by omega)) (K c0 c1 c2 o q)
  | succ d ih =>
    intro k m c0 c1 c2 h1 h2 h3 o q
    obtain ⟨m, rfl⟩ : ∃ m', m = m' + 1 := ⟨m - 1, by omega⟩
    have es : (nI s).toNatClampNeg = s := nI_clamp (by omega)
    have ws : vp_in (nI s) 20 := vp_in_nI hs (by omega)
    rw [wX_readPieces_13]
    refine br_f (nI_nlt (by omega) (by omega)) ⟨ws, xa_co (a := x) (by rw [es]; exact eL) (xa_co (a := s) rfl ⟨ws, ?_⟩)⟩
    have bs : wr_bd 100000 (wr_su (fun k => wr_to e (V x i k) (V s k j)) (i + 1) (k - (i + 1))) := wr_su_bd _ (fun t h4 h5 => wr_to_bd (bV x i t (by omega) (by omega) (by omega)) (bV s t j (by omega) (by omega) hj) (by omega))
    refine xa_pairs (e := e) (by omega) (by omega) (by omega) he (by rw [es]; exact eC) q (wr_get hn (by omega) hj hX o (by omega) (by omega) (Or.inl hx)) (wr_get hn (by omega) hj hX o (by omega) hj (Or.inr ⟨rfl, Or.inl (by omega)⟩)) bs (bV x i k (by omega) (by omega) (by omega)) (bV s k j (by omega) (by omega) hj) (fun d0 d1 d2 o' q' => ?_)
    refine nm_r (nI_1 k) (ih (k + 1) m d0 d1 d2 (by omega) (by omega) (by omega) (wr_off_t o o') ?_)
    rw [show k + 1 - (i + 1) = (k - (i + 1)) + 1 from by omega, wr_su_s, show i + 1 + (k - (i + 1)) = k from by omega]
    exact q'
theorem xa_win {K' Lt C L R : Nat → Int32} {n s i j : Nat} {c0 c1 c2 : Nat → Int32} (eK : uk = K') (eT : ut = Lt) (eC : uc = C) (eL : ul = L) (eR : ur = R) (hn : n ≤ 8) (hi : i ≤ j) (hj : j ≤ n) (hs : s < 20) (ok : wr_ok K' C L R s) (bV : ∀ s' i' j', s' ≤ s → i' ≤ j' → j' ≤ n → wr_bd 1440 (wr_V K' Lt C tx s' i' j')) (hX : wr_X (wr_V K' Lt C tx) n s (i + 1) j c0 c1 c2)
    (K : ∀ d0 d1 d2, wr_off (s * 81 + i * 9 + j) c0 c1 c2 d0 d1 d2 → wr_c (wr_V K' Lt C tx s i j) (s * 81 + i * 9 + j) d0 d1 d2 → post (ds, dv, st, us, tl, dk, dt, dc, dl, dr, sk, uk, ut, uc, ul, ur, tx, d0, d1, d2, cv)) : wpX_readWindow post (ds, dv, st, us, tl, dk, dt, dc, dl, dr, sk, uk, ut, uc, ul, ur, tx, c0, c1, c2, cv) (nI s) (nI i) (nI j) := by
  subst eK eT eC eL eR
  have cc : s * 81 + i * 9 + j < 1620 := by omega
  have e : (nI (s * 81 + i * 9 + j)).toNatClampNeg = s * 81 + i * 9 + j := nI_clamp (by omega)
  have w : vp_in (nI (s * 81 + i * 9 + j)) 1620 := vp_in_nI cc (by omega)
  have es : (nI s).toNatClampNeg = s := nI_clamp (by omega)
  have ws : vp_in (nI s) 20 := vp_in_nI hs (by omega)
  have ei : (nI i).toNatClampNeg = i := nI_clamp (by omega)
  obtain ⟨⟨q, hq, eq, q2⟩, hk⟩ := id ok
  have ec : (uc s).toNatClampNeg = q := by rw [eq]; exact nI_clamp (by omega)
  have og : 1 ≤ wr_tp uk s → ∀ t, wr_og uk s t < s := fun h t => by
    have h0 := wr_tp_le uk s
    obtain ⟨s', rfl⟩ : ∃ s', s = s' + 1 := ⟨s - 1, by omega⟩
    exact wr_og_lt uk s' t
  have o1 : wr_off (s * 81 + i * 9 + j) c0 c1 c2 (upd c0 (s * 81 + i * 9 + j) 0) (upd c1 (s * 81 + i * 9 + j) (-4)) (upd c2 (s * 81 + i * 9 + j) (-4)) := fun k hk => ⟨pk_un hk, pk_un hk, pk_un hk⟩
  have q1 : wr_c none (s * 81 + i * 9 + j) (upd c0 (s * 81 + i * 9 + j) 0) (upd c1 (s * 81 + i * 9 + j) (-4)) (upd c2 (s * 81 + i * 9 + j) (-4)) := ⟨pk_us, pk_us, pk_us⟩
  have hX1 : wr_X (wr_V uk ut uc tx) n s (i + 1) j (upd c0 (s * 81 + i * 9 + j) 0) (upd c1 (s * 81 + i * 9 + j) (-4)) (upd c2 (s * 81 + i * 9 + j) (-4)) := fun s' i' j' h1 h2 hD => wr_get hn hi hj hX o1 h1 h2 hD
  unfold wpX_readWindow
  refine xa_co (a := s) rfl ⟨w, nm_r (e' := upd c0 (s * 81 + i * 9 + j) 0) (by rw [e]) ⟨w, nm_r (e' := upd c1 (s * 81 + i * 9 + j) (-4)) (by rw [e]) ⟨w, nm_r (e' := upd c2 (s * 81 + i * 9 + j) (-4)) (by rw [e]) ⟨ws, ?_⟩⟩⟩⟩
  generalize upd c0 (s * 81 + i * 9 + j) 0 = a0 at o1 q1 hX1 ⊢
  generalize upd c1 (s * 81 + i * 9 + j) (-4) = a1 at o1 q1 hX1 ⊢
  generalize upd c2 (s * 81 + i * 9 + j) (-4) = a2 at o1 q1 hX1 ⊢
  rcases hk with k | k | k | ⟨k, t, l, r⟩ | ⟨k, t, l, r⟩ | ⟨k, t, l⟩
  · rw [wr_V0 ok i j k, ec] at K
    refine nm_r (e' := 0) (by rw [es]; exact k) (br_f (by decide) (br_f (by decide) (br_t rfl (br_c (fun z => ?_) (fun z => ?_)))))
    · rw [nI_1, nI_eq (by omega) (by omega)] at z
      refine ⟨vp_in_nI (by omega) (by omega), ws, br_c (fun y => ⟨ws, ws, ?_⟩) (fun y => ?_)⟩
      · rw [ei, es] at y
        rw [if_pos ⟨z, y⟩] at K
        rw [es, eq]
        exact xa_addR cc q1 True.intro (by omega) (by omega) (fun d0 d1 d2 o q => K d0 d1 d2 (wr_off_t o1 o) q)
      · rw [ei, es] at y
        rw [if_neg (fun h => y h.2)] at K
        exact K _ _ _ o1 q1
    · rw [nI_1, nI_eq (by omega) (by omega)] at z
      rw [if_neg (fun h => z h.1)] at K
      exact K _ _ _ o1 q1
  · rw [wr_V1 ok i j k, ec] at K
    refine nm_r (e' := 1) (by rw [es]; exact k) (br_f (by decide) (br_f (by decide) (br_f (by decide) (br_t rfl (br_c (fun z => ⟨ws, ws, ?_⟩) (fun z => ?_))))))
    · rw [nI_1, nI_eq (by omega) (by omega)] at z
      rw [if_pos z] at K
      rw [es, eq]
      exact xa_addR cc q1 True.intro (by omega) (by omega) (fun d0 d1 d2 o q => K d0 d1 d2 (wr_off_t o1 o) q)
    · rw [nI_1, nI_eq (by omega) (by omega)] at z
      rw [if_neg z] at K
      exact K _ _ _ o1 q1
  · rw [wr_V2 ok i j k] at K
    refine nm_r (e' := 2) (by rw [es]; exact k) (br_f (by decide) (br_f (by decide) (br_f (by decide) (br_f (by decide) (br_t rfl ?_)))))
    exact xa_empty cc (by omega) (by omega) q1 (fun d0 d1 d2 o q => K d0 d1 d2 (wr_off_t o1 o) q)
  · rw [wr_V3 ok i j k] at K
    refine nm_r (e' := 3) (by rw [es]; exact k) (br_f (by decide) (br_f (by decide) (br_f (by decide) (br_f (by decide) (br_f (by decide) (br_t rfl ?_))))))
    unfold wpX_readSeq
    refine xa_co (a := s) rfl ⟨j + 2, ?_⟩
    refine xa_seq11 hn hi hj hs (og (by omega) _) (og (by omega) _) l r hX1 bV (fun d0 d1 d2 o q => K d0 d1 d2 (wr_off_t o1 o) q) (j + 1 - i) i (j + 2) a0 a1 a2 (by omega) (Nat.le_refl _) (by omega) (wr_off_r _ _ _ _) ?_
    rw [Nat.sub_self]
    exact q1
  · rw [wr_V4 ok i j k] at K
    refine nm_r (e' := 4) (by rw [es]; exact k) (br_f (by decide) (br_f (by decide) (br_f (by decide) (br_f (by decide) (br_f (by decide) (br_f (by decide) (br_t rfl ?_)))))))
    unfold wpX_readAlt
    have hx := og (by omega) (wr_tp uk s - 2)
    have hy := og (by omega) (wr_tp uk s - 1)
    refine xa_co (a := s) rfl ⟨ws, xa_co (a := wr_og uk s (wr_tp uk s - 2)) (by rw [es]; exact l) ⟨ws, xa_co (a := wr_og uk s (wr_tp uk s - 1)) (by rw [es]; exact r) ?_⟩⟩
    refine xa_cell cc (by omega) q1 (wr_get hn hi hj hX1 (wr_off_r _ _ _ _) hi hj (Or.inl hx)) True.intro (bV _ i j (by omega) hi hj) (fun d0 d1 d2 o q => ?_)
    rw [wr_n_ei] at q
    exact xa_cell cc (by omega) q (wr_get hn hi hj hX1 o hi hj (Or.inl hy)) (wr_bd_up (bV _ i j (by omega) hi hj) (by omega)) (bV _ i j (by omega) hi hj) (fun f0 f1 f2 o' q' => K f0 f1 f2 (wr_off_t o1 (wr_off_t o o')) q')
  · refine nm_r (e' := 5) (by rw [es]; exact k) (br_f (by decide) (br_f (by decide) (br_f (by decide) (br_f (by decide) (br_f (by decide) (br_f (by decide) (br_f (by decide) (br_t rfl ?_))))))))
    refine xa_empty cc (by omega) (by omega) q1 (fun d0 d1 d2 o q => ?_)
    unfold wpX_readPieces
    refine xa_co (a := s) rfl (nm_r (nI_1 i) ⟨j + 2, ?_⟩)
    by_cases z : i = j
    · subst z
      rw [wr_V5i ok i k] at K
      rw [if_pos rfl] at q
      rw [wX_readPieces_13]
      exact br_t (nI_lt (by omega) (by omega)) (K d0 d1 d2 (wr_off_t o1 o) q)
    · have hi' : i < j := by omega
      rw [wr_V5 ok i j hi' k, ec] at K
      rw [if_neg z] at q
      have hX2 : wr_X (wr_V uk ut uc tx) n s (i + 1) j d0 d1 d2 := fun s' i' j' h1 h2 hD => wr_get hn hi hj hX1 o h1 h2 hD
      refine xa_pc13 hn hi' hj hs (og t _) hq l eq hX2 bV (fun f0 f1 f2 o' q' => K f0 f1 f2 (wr_off_t o1 (wr_off_t o o')) q') (j - i) (i + 1) (j + 2) d0 d1 d2 (by omega) (Nat.le_refl _) (by omega) (wr_off_r _ _ _ _) ?_
      rw [Nat.sub_self]
      exact q
theorem xa_rt21 {J2 J15 : _} {K' Lt C L R : Nat → Int32} {n s i : Nat} (eK : uk = K') (eT : ut = Lt) (eC : uc = C) (eL : ul = L) (eR : ur = R) (eN : tl = nI n) (hn : n ≤ 8) (hi : i ≤ n) (hs : s < 20) (ok : wr_ok K' C L R s) (bV : ∀ s' i' j', s' ≤ s → i' ≤ j' → j' ≤ n → wr_bd 1440 (wr_V K' Lt C tx s' i' j'))
    (K : ∀ d0 d1 d2, wr_X (wr_V K' Lt C tx) n s (i + 1) (n + 1) d0 d1 d2 → J15 (nI i + (-1)) ds dv st us tl dk dt dc dl dr sk uk ut uc ul ur tx d0 d1 d2 cv) :
    ∀ d j m c0 c1 c2, j + d = n + 1 → i ≤ j → d < m → wr_X (wr_V K' Lt C tx) n s (i + 1) j c0 c1 c2 → wX_readText_21 post J2 J15 (nI s) (nI i) m (nI j) ds dv st us tl dk dt dc dl dr sk uk ut uc ul ur tx c0 c1 c2 cv := by
  intro d
  induction d with
  | zero =>
    intro j m c0 c1 c2 h1 h2 h3 hX
    obtain ⟨m, rfl⟩ : ∃ m', m = m' + 1 := ⟨m - 1, by omega⟩
    have ej : j = n + 1 := by omega
    subst ej
    subst eN
    rw [wX_readText_21]
    exact br_t (nI_lt (by omega) (by omega)) (nm_e (K c0 c1 c2 hX))
  | succ d ih =>
    intro j m c0 c1 c2 h1 h2 h3 hX
    obtain ⟨m, rfl⟩ : ∃ m', m = m' + 1 := ⟨m - 1, by omega⟩
    have nl : ¬ tl < nI j := by rw [eN]; exact nI_nlt (by omega) (by omega)
    rw [wX_readText_21]
    refine br_f nl (xa_win eK eT eC eL eR hn h2 (by omega) hs ok bV hX (fun d0 d1 d2 o q => ?_))
    exact nm_r (nI_1 j) (ih (j + 1) m d0 d1 d2 (by omega) (by omega) (by omega) (wr_X_put hn hi (by omega) hX o q))
theorem xa_rt15 {J2 : _} {K' Lt C L R : Nat → Int32} {n s : Nat} (eK : uk = K') (eT : ut = Lt) (eC : uc = C) (eL : ul = L) (eR : ur = R) (eN : tl = nI n) (hn : n ≤ 8) (hs : s < 20) (ok : wr_ok K' C L R s) (bV : ∀ s' i' j', s' ≤ s → i' ≤ j' → j' ≤ n → wr_bd 1440 (wr_V K' Lt C tx s' i' j'))
    (K : ∀ d0 d1 d2, wr_X (wr_V K' Lt C tx) n s 0 0 d0 d1 d2 → J2 (nI (s + 1)) ds dv st us tl dk dt dc dl dr sk uk ut uc ul ur tx d0 d1 d2 cv) :
    ∀ e m c0 c1 c2, e ≤ n + 1 → e < m → wr_X (wr_V K' Lt C tx) n s e 0 c0 c1 c2 → wX_readText_15 post J2 (nI s) m (nI e + (-1)) ds dv st us tl dk dt dc dl dr sk uk ut uc ul ur tx c0 c1 c2 cv := by
  intro e
  induction e with
  | zero =>
    intro m c0 c1 c2 h1 h2 hX
    obtain ⟨m, rfl⟩ : ∃ m', m = m' + 1 := ⟨m - 1, by omega⟩
    rw [wX_readText_15]
    exact br_t (by decide) (nm_r (nI_1 s) (K c0 c1 c2 hX))
  | succ e ih =>
    intro m c0 c1 c2 h1 h2 hX
    obtain ⟨m, rfl⟩ : ∃ m', m = m' + 1 := ⟨m - 1, by omega⟩
    rw [wX_readText_15, pk_m1]
    refine br_f (nI_pos (by omega)) ⟨n + 3, ?_⟩
    exact xa_rt21 eK eT eC eL eR eN hn (by omega) hs ok bV (fun d0 d1 d2 hY => ih m d0 d1 d2 (by omega) (by omega) (wr_X_row hY)) (n + 1 - e) e (n + 3) c0 c1 c2 (by omega) (Nat.le_refl _) (by omega) (wr_X_in hX)
theorem xa_rt2 {K' Lt C L R : Nat → Int32} {n z : Nat} (eK : uk = K') (eT : ut = Lt) (eC : uc = C) (eL : ul = L) (eR : ur = R) (eN : tl = nI n) (eZ : us = nI z) (hn : n ≤ 8) (hz : z ≤ 20) (ok : ∀ s, s < z → wr_ok K' C L R s)
    (K : ∀ d0 d1 d2, wr_X (wr_V K' Lt C tx) n z (n + 1) 0 d0 d1 d2 → post (ds, dv, st, us, tl, dk, dt, dc, dl, dr, sk, uk, ut, uc, ul, ur, tx, d0, d1, d2, cv)) :
    ∀ d s m c0 c1 c2, s + d = z → d < m → wr_X (wr_V K' Lt C tx) n s (n + 1) 0 c0 c1 c2 → wX_readText_2 post m (nI s) ds dv st us tl dk dt dc dl dr sk uk ut uc ul ur tx c0 c1 c2 cv := by
  intro d
  induction d with
  | zero =>
    intro s m c0 c1 c2 h1 h2 hX
    obtain ⟨m, rfl⟩ : ∃ m', m = m' + 1 := ⟨m - 1, by omega⟩
    have e : s = z := by omega
    subst e
    have nl : us ≤ nI s := by rw [eZ]; exact nI_le (by omega) (by omega)
    rw [wX_readText_2]
    exact br_t nl (K c0 c1 c2 hX)
  | succ d ih =>
    intro s m c0 c1 c2 h1 h2 hX
    obtain ⟨m, rfl⟩ : ∃ m', m = m' + 1 := ⟨m - 1, by omega⟩
    have nl : ¬ us ≤ nI s := by rw [eZ]; exact nI_ge (by omega) (by omega)
    rw [wX_readText_2]
    refine br_f nl ⟨n + 3, ?_⟩
    have e : tl = nI (n + 1) + (-1) := by rw [pk_m1]; exact eN
    have W := xa_rt15 (post := post) (ds := ds) (dv := dv) (st := st) (us := us) (dk := dk) (dt := dt) (dc := dc) (dl := dl) (dr := dr) (sk := sk) (cv := cv) (J2 := wX_readText_2 post m) eK eT eC eL eR eN hn (by omega) (ok s (by omega)) (fun s' i' j' h1 h2 h3 => wr_V_b ok hz (by omega) h2 (by omega)) (fun d0 d1 d2 hY => ih (s + 1) m d0 d1 d2 (by omega) (by omega) (wr_X_next hY)) (n + 1) (n + 3) c0 c1 c2 (Nat.le_refl _) (by omega) hX
    rw [← e] at W
    exact W
theorem xa_read {n z : Nat} {c0 c1 c2 : Nat → Int32} (hn : n ≤ 8) (hu : wr_us uk uc ul ur z)
    (K : ∀ d0 d1 d2, wr_X (wr_V uk ut uc tx) n z (n + 1) 0 d0 d1 d2 → post (ds, dv, st, (nI z), (nI n), dk, dt, dc, dl, dr, sk, uk, ut, uc, ul, ur, tx, d0, d1, d2, cv)) : wpX_readText post (ds, dv, st, (nI z), (nI n), dk, dt, dc, dl, dr, sk, uk, ut, uc, ul, ur, tx, c0, c1, c2, cv) :=
  ⟨z + 1, xa_rt2 rfl rfl rfl rfl rfl rfl rfl hn hu.2.1 hu.2.2 K z 0 (z + 1) c0 c1 c2 (Nat.zero_add z) (Nat.lt_succ_self z) (fun s' i' j' h1 h2 hD => by
    unfold wr_D at hD
    omega)⟩
end
end
section
/-! the reference's walks -/
theorem ya_s1 {a : Nat} (h : 1 ≤ a) : nI a - 1 = nI (a - 1) := pk_sub (b := 1) h
theorem ya_s2 {a : Nat} (h : 2 ≤ a) : nI a - 2 = nI (a - 2) := pk_sub (b := 2) h
section
variable {post : Int32 → Prop} {ys yd ya yz yn : Int32} {eo el ec po pl pc tx va op : Nat → Int32} {m : Int32}
theorem ya_either {a b : wr_C} (hm : wr_m m) (ba : wr_bd 100000 a) (bb : wr_bd 100000 b) (h : post (wr_y m (wr_ei a b))) : wpY_either post (ys, yd, ya, yz, yn, eo, el, ec, po, pl, pc, tx, va, op) m (wr_y m a) (wr_y m b) := by
  rcases hm with rfl | rfl | rfl
  · exact br_t rfl (by rw [wr_y0a]; exact h)
  · match a, b, ba, bb, h with
    | none, b, _, _, h =>
      rw [wr_n_ei] at h
      exact br_f (by decide) (br_t (by decide) (br_f (by decide) h))
    | some (c, l, k), none, ba, _, h =>
      have b1 : l ≤ 100000 := ba.1
      rw [wr_ei_n] at h
      exact br_f (by decide) (br_f (nI_pos (n := l) (by omega)) (br_f (by decide) (br_t (nI_pos' (n := l) (by omega)) h)))
    | some (c, l, k), some (c', l', k'), ba, bb, h =>
      have b1 : l ≤ 100000 := ba.1
      have b2 : l' ≤ 100000 := bb.1
      have h' : post (nI (if l' < l then l' else l)) := h
      refine br_f (by decide) (br_f (nI_pos (n := l) (by omega)) (br_t (nI_pos' (n := l') (by omega)) (br_t rfl (pk_le (x := nI l') (y := nI l) l' l (fun z => ?_) (fun z => ?_)))))
      · rw [show (if l' < l then l' else l) = l' from by split <;> omega] at h'
        exact h'
      · rw [show (if l' < l then l' else l) = l from by split <;> omega] at h'
        exact h'
  · match a, b, ba, bb, h with
    | none, b, _, _, h =>
      rw [wr_n_ei] at h
      exact br_f (by decide) (br_t (by decide) (br_f (by decide) h))
    | some (c, k, l), none, ba, _, h =>
      have b1 : l ≤ 100000 := ba.2
      rw [wr_ei_n] at h
      exact br_f (by decide) (br_f (nI_pos (n := l) (by omega)) (br_f (by decide) (br_t (nI_pos' (n := l) (by omega)) h)))
    | some (c, k, l), some (c', k', l'), ba, bb, h =>
      have b1 : l ≤ 100000 := ba.2
      have b2 : l' ≤ 100000 := bb.2
      have h' : post (nI (if l < l' then l' else l)) := h
      refine br_f (by decide) (br_f (nI_pos (n := l) (by omega)) (br_t (nI_pos' (n := l') (by omega)) (br_f (by decide) (pk_le (x := nI l) (y := nI l') l l' (fun z => ?_) (fun z => ?_)))))
      · rw [show (if l < l' then l' else l) = l' from by split <;> omega] at h'
        exact h'
      · rw [show (if l < l' then l' else l) = l from by split <;> omega] at h'
        exact h'
theorem ya_together {a b : wr_C} {e : Nat} {p3 : Int32} (hp : p3 = nI e) (hm : wr_m m) (ba : wr_bd 1440 a) (bb : wr_bd 1440 b) (h : post (wr_y m (wr_to e a b))) : wpY_together post (ys, yd, ya, yz, yn, eo, el, ec, po, pl, pc, tx, va, op) m (wr_y m a) (wr_y m b) p3 := by
  subst hp
  rcases hm with rfl | rfl | rfl
  · exact br_t rfl (by rw [wr_y0t e]; exact h)
  · match a, b, ba, bb, h with
    | none, b, _, _, h =>
      rw [wr_n_to] at h
      exact br_f (by decide) (br_t (by decide) h)
    | some (c, l, k), none, ba, _, h =>
      have b1 : l ≤ 1440 := ba.1
      rw [wr_to_n] at h
      exact br_f (by decide) (br_f (nI_pos (n := l) (by omega)) (br_f (by decide) h))
    | some (c, l, k), some (c', l', k'), ba, bb, h =>
      have b1 : l ≤ 1440 := ba.1
      have b2 : l' ≤ 1440 := bb.1
      have h' : post (nI l + nI l' + nI e) := by
        rw [nI_add, nI_add]
        exact h
      exact br_f (by decide) (br_f (nI_pos (n := l) (by omega)) (br_t (nI_pos' (n := l') (by omega)) h'))
  · match a, b, ba, bb, h with
    | none, b, _, _, h =>
      rw [wr_n_to] at h
      exact br_f (by decide) (br_t (by decide) h)
    | some (c, k, l), none, ba, _, h =>
      have b1 : l ≤ 1440 := ba.2
      rw [wr_to_n] at h
      exact br_f (by decide) (br_f (nI_pos (n := l) (by omega)) (br_f (by decide) h))
    | some (c, k, l), some (c', k', l'), ba, bb, h =>
      have b1 : l ≤ 1440 := ba.2
      have b2 : l' ≤ 1440 := bb.2
      have h' : post (nI l + nI l' + nI e) := by
        rw [nI_add, nI_add]
        exact h
      exact br_f (by decide) (br_f (nI_pos (n := l) (by omega)) (br_t (nI_pos' (n := l') (by omega)) h'))
theorem ya_one {c : Nat} {p1 : Int32} (hp : p1 = nI c) (hm : wr_m m) (h : post (wr_y m (some (1, c, c)))) : wpY_one post (ys, yd, ya, yz, yn, eo, el, ec, po, pl, pc, tx, va, op) m p1 := by
  subst hp
  rcases hm with rfl | rfl | rfl
  · exact br_t rfl h
  · exact br_f (by decide) h
  · exact br_f (by decide) h
theorem ya_62n {p : Int32} (h : post (wr_y m none)) : wY_atomValue_62 post m p 0 ys yd ya yz yn eo el ec po pl pc tx va op := by
  refine br_t rfl (br_c (fun z => ?_) (fun z => ?_))
  · rw [z] at h
    exact h
  · rw [wr_yn z] at h
    exact h
theorem ya_62s {s c : Nat} (hs : s < 20) (eC : pc s = nI c) (hm : wr_m m) (h : post (wr_y m (some (1, c, c)))) : wY_atomValue_62 post m (nI s) 1 ys yd ya yz yn eo el ec po pl pc tx va op := by
  refine br_f (by decide) ⟨vp_in_nI hs (by omega), ?_⟩
  exact ya_one (by rw [nI_clamp (by omega)]; exact eC) hm h
theorem ya_atom {L R : Nat → Int32} {s i j : Nat} (hs : s < 20) (hi : i ≤ j) (hj : j ≤ 8) (hm : wr_m m) (ok : wr_ok po pc L R s) (k : po s = 0 ∨ po s = 1 ∨ po s = 2) (h : post (wr_y m (wr_V po pl pc tx s i j))) : wpY_atomValue post (ys, yd, ya, yz, yn, eo, el, ec, po, pl, pc, tx, va, op) m (nI s) (nI i) (nI j) := by
  have es : (nI s).toNatClampNeg = s := nI_clamp (by omega)
  have ei : (nI i).toNatClampNeg = i := nI_clamp (by omega)
  have ws : vp_in (nI s) 20 := vp_in_nI hs (by omega)
  obtain ⟨⟨q, hq, eq, q2⟩, -⟩ := id ok
  have ec' : (pc s).toNatClampNeg = q := by rw [eq]; exact nI_clamp (by omega)
  rcases k with k | k | k
  · rw [wr_V0 ok i j k, ec'] at h
    have k' : po (nI s).toNatClampNeg = 0 := by rw [es]; exact k
    refine ⟨ws, br_f (by rw [k']; decide) (br_c (fun z => ?_) (fun z => ?_))⟩
    · rw [nI_1, nI_eq (by omega) (by omega)] at z
      refine ⟨ws, br_f (by rw [k']; decide) ⟨vp_in_nI (by omega) (by omega), ws, br_c (fun y => ?_) (fun y => ?_)⟩⟩
      · rw [ei, es] at y
        rw [if_pos ⟨z, y⟩] at h
        exact ya_62s hs eq hm h
      · rw [ei, es] at y
        rw [if_neg (fun h => y h.2)] at h
        exact ya_62n h
    · rw [nI_1, nI_eq (by omega) (by omega)] at z
      rw [if_neg (fun h => z h.1)] at h
      exact ya_62n h
  · rw [wr_V1 ok i j k, ec'] at h
    have k' : po (nI s).toNatClampNeg = 1 := by rw [es]; exact k
    refine ⟨ws, br_f (by rw [k']; decide) (br_c (fun z => ?_) (fun z => ?_))⟩
    · rw [nI_1, nI_eq (by omega) (by omega)] at z
      rw [if_pos z] at h
      exact ⟨ws, br_t k' (ya_62s hs eq hm h)⟩
    · rw [nI_1, nI_eq (by omega) (by omega)] at z
      rw [if_neg z] at h
      exact ya_62n h
  · rw [wr_V2 ok i j k] at h
    have k' : po (nI s).toNatClampNeg = 2 := by rw [es]; exact k
    have q0 : q = 0 := q2 k
    subst q0
    refine ⟨ws, br_t k' (pk_eq i j (fun z => ?_) (fun z => ?_))⟩
    · rw [if_pos z] at h
      exact ya_62s hs eq hm h
    · rw [if_neg z] at h
      exact ya_62n h
theorem ya_seq15 {V : Nat → Nat → Nat → wr_C} {n s i j x y : Nat} (hm : wr_m m) (hn : n ≤ 8) (hi : i ≤ j) (hj : j ≤ n) (hs : s < 20) (hx : x < s) (hy : y < s) (hY : wr_Y V m n s (i + 1) j va) (bV : ∀ s' i' j', s' ≤ s → i' ≤ j' → j' ≤ n → wr_bd 1440 (V s' i' j')) (h : post (wr_y m (wr_su (fun k => wr_to 0 (V x i k) (V y k j)) i (j - i + 1)))) :
    ∀ d k f, k + d = j + 1 → i ≤ k → d < f → wY_seqValue_15 post m (nI x) (nI y) (nI i) (nI j) ys yd ya yz yn eo el ec po pl pc tx va op f (wr_y m (wr_su (fun k => wr_to 0 (V x i k) (V y k j)) i (k - i))) (nI k) := by
  intro d
  induction d with
  | zero =>
    intro k f h1 h2 h3
    obtain ⟨f, rfl⟩ : ∃ f', f = f' + 1 := ⟨f - 1, by omega⟩
    rw [wY_seqValue_15, show k - i = j - i + 1 from by omega]
    exact br_t (nI_lt (by omega) (by omega)) h
  | succ d ih =>
    intro k f h1 h2 h3
    obtain ⟨f, rfl⟩ : ∃ f', f = f' + 1 := ⟨f - 1, by omega⟩
    rw [wY_seqValue_15]
    refine br_f (nI_nlt (by omega) (by omega)) ⟨by rw [wr_cy]; exact vp_in_nI (by omega) (by omega), by rw [wr_cy]; exact vp_in_nI (by omega) (by omega), ?_⟩
    rw [wr_cy, wr_cy, nI_clamp (by omega), nI_clamp (by omega), hY x i k h2 (by omega) (Or.inl hx), hY y k j (by omega) hj (Or.inl hy)]
    have b1 := bV x i k (by omega) h2 (by omega)
    have b2 := bV y k j (by omega) (by omega) hj
    have bs : wr_bd 100000 (wr_su (fun k => wr_to 0 (V x i k) (V y k j)) i (k - i)) := wr_su_bd _ (fun t h4 h5 => wr_to_bd (bV x i t (by omega) h4 (by omega)) (bV y t j (by omega) (by omega) hj) (by omega))
    refine ya_together (e := 0) rfl hm b1 b2 (ya_either hm bs (wr_to_bd b1 b2 (by omega)) (nm_r (nI_1 k) ?_))
    have W := ih (k + 1) f (by omega) (by omega) (by omega)
    rw [show k + 1 - i = (k - i) + 1 from by omega, wr_su_s, show i + (k - i) = k from by omega] at W
    exact W
theorem ya_lp31 {V : Nat → Nat → Nat → wr_C} {n s i j x e : Nat} (hm : wr_m m) (hn : n ≤ 8) (hi : i < j) (hj : j ≤ n) (hs : s < 20) (hx : x < s) (he : e ≤ 9) (eC : pc s = nI e) (hY : wr_Y V m n s (i + 1) j va) (bV : ∀ s' i' j', s' ≤ s → i' ≤ j' → j' ≤ n → wr_bd 1440 (V s' i' j')) (h : post (wr_y m (wr_su (fun k => wr_to e (V x i k) (V s k j)) (i + 1) (j - i)))) :
    ∀ d k f, k + d = j + 1 → i + 1 ≤ k → d < f → wY_loopValue_31 post m (nI s) (nI x) (nI i) (nI j) ys yd ya yz yn eo el ec po pl pc tx va op f (wr_y m (wr_su (fun k => wr_to e (V x i k) (V s k j)) (i + 1) (k - (i + 1)))) (nI k) := by
  intro d
  induction d with
  | zero =>
    intro k f h1 h2 h3
    obtain ⟨f, rfl⟩ : ∃ f', f = f' + 1 := ⟨f - 1, by omega⟩
    rw [wY_loopValue_31, show k - (i + 1) = j - i from by omega]
    exact br_t (nI_lt (by omega) (by omega)) h
  | succ d ih =>
    intro k f h1 h2 h3
    obtain ⟨f, rfl⟩ : ∃ f', f = f' + 1 := ⟨f - 1, by omega⟩
    rw [wY_loopValue_31]
    refine br_f (nI_nlt (by omega) (by omega)) ⟨by rw [wr_cy]; exact vp_in_nI (by omega) (by omega), by rw [wr_cy]; exact vp_in_nI (by omega) (by omega), vp_in_nI hs (by omega), ?_⟩
    rw [wr_cy, wr_cy, nI_clamp (n := x * 81 + i * 9 + k) (by omega), nI_clamp (n := s * 81 + k * 9 + j) (by omega), hY x i k (by omega) (by omega) (Or.inl hx), hY s k j (by omega) hj (Or.inr ⟨rfl, Or.inl (by omega)⟩)]
    have b1 := bV x i k (by omega) (by omega) (by omega)
    have b2 := bV s k j (by omega) (by omega) hj
    have bs : wr_bd 100000 (wr_su (fun k => wr_to e (V x i k) (V s k j)) (i + 1) (k - (i + 1))) := wr_su_bd _ (fun t h4 h5 => wr_to_bd (bV x i t (by omega) (by omega) (by omega)) (bV s t j (by omega) (by omega) hj) (by omega))
    refine ya_together (e := e) (by rw [nI_clamp (by omega)]; exact eC) hm b1 b2 (ya_either hm bs (wr_to_bd b1 b2 (by omega)) (nm_r (nI_1 k) ?_))
    have W := ih (k + 1) f (by omega) (by omega) (by omega)
    rw [show k + 1 - (i + 1) = (k - (i + 1)) + 1 from by omega, wr_su_s, show i + 1 + (k - (i + 1)) = k from by omega] at W
    exact W
theorem ya_node {L R : Nat → Int32} {n s i j t : Nat} (hm : wr_m m) (hn : n ≤ 8) (hi : i ≤ j) (hj : j ≤ n) (hs : s < 20) (ok : wr_ok po pc L R s) (ht : t = wr_tp po s) (ho : ∀ q, q < t → op q = nI (wr_og po s q)) (bV : ∀ s' i' j', s' ≤ s → i' ≤ j' → j' ≤ n → wr_bd 1440 (wr_V po pl pc tx s' i' j')) (hY : wr_Y (wr_V po pl pc tx) m n s (i + 1) j va) (h : post (wr_y m (wr_V po pl pc tx s i j))) : wpY_nodeValue post (ys, yd, ya, yz, yn, eo, el, ec, po, pl, pc, tx, va, op) m (nI s) (nI t) (nI i) (nI j) := by
  have es : (nI s).toNatClampNeg = s := nI_clamp (by omega)
  have ws : vp_in (nI s) 20 := vp_in_nI hs (by omega)
  have tl := wr_tp_le po s
  obtain ⟨⟨q, hq, eq, q2⟩, hk⟩ := id ok
  have ec' : (pc s).toNatClampNeg = q := by rw [eq]; exact nI_clamp (by omega)
  have og : 1 ≤ wr_tp po s → ∀ t, wr_og po s t < s := fun h t => by
    obtain ⟨s', rfl⟩ : ∃ s', s = s' + 1 := ⟨s - 1, by omega⟩
    exact wr_og_lt po s' t
  have p1 : 1 ≤ t → vp_in (nI t - 1) 20 ∧ op (nI t - 1).toNatClampNeg = nI (wr_og po s (wr_tp po s - 1)) := fun h => by
    rw [ya_s1 h, nI_clamp (by omega), ← ht]
    exact ⟨vp_in_nI (by omega) (by omega), ho _ (by omega)⟩
  have p2 : 2 ≤ t → vp_in (nI t - 2) 20 ∧ op (nI t - 2).toNatClampNeg = nI (wr_og po s (wr_tp po s - 2)) := fun h => by
    rw [ya_s2 h, nI_clamp (by omega), ← ht]
    exact ⟨vp_in_nI (by omega) (by omega), ho _ (by omega)⟩
  have y0 : wr_y m none = if m = 0 then 0 else -1 := rfl
  rcases hk with k | k | k | ⟨k, t2, -, -⟩ | ⟨k, t2, -, -⟩ | ⟨k, t2, -⟩
  · have k' : po (nI s).toNatClampNeg = 0 := by rw [es]; exact k
    exact ⟨ws, br_f (by rw [k']; decide) (ya_atom hs hi (by omega) hm ok (Or.inl k) h)⟩
  · have k' : po (nI s).toNatClampNeg = 1 := by rw [es]; exact k
    exact ⟨ws, br_f (by rw [k']; decide) (ya_atom hs hi (by omega) hm ok (Or.inr (Or.inl k)) h)⟩
  · have k' : po (nI s).toNatClampNeg = 2 := by rw [es]; exact k
    exact ⟨ws, br_f (by rw [k']; decide) (ya_atom hs hi (by omega) hm ok (Or.inr (Or.inr k)) h)⟩
  · have k' : po (nI s).toNatClampNeg = 3 := by rw [es]; exact k
    rw [wr_V3 ok i j k] at h
    refine ⟨ws, br_t (by rw [k']; decide) ⟨(p1 (by omega)).1, nm_r (p1 (by omega)).2 ⟨ws, br_f (by rw [k']; decide) ⟨(p2 (by omega)).1, nm_r (p2 (by omega)).2 ⟨ws, br_t k' ?_⟩⟩⟩⟩⟩
    have W := ya_seq15 (ys := ys) (yd := yd) (ya := ya) (yz := yz) (yn := yn) (eo := eo) (el := el) (ec := ec) (po := po) (pl := pl) (pc := pc) (tx := tx) (op := op) hm hn hi hj hs (og (by omega) _) (og (by omega) _) hY bV h (j + 1 - i) i (j + 2) (by omega) (Nat.le_refl _) (by omega)
    rw [Nat.sub_self] at W
    refine br_c (fun z => ⟨j + 2, ?_⟩) (fun z => ⟨j + 2, ?_⟩)
    · subst z
      exact W
    · have e : wr_y m (wr_su (fun k => wr_to 0 (wr_V po pl pc tx (wr_og po s (wr_tp po s - 2)) i k) (wr_V po pl pc tx (wr_og po s (wr_tp po s - 1)) k j)) i 0) = -1 := if_neg z
      rw [e] at W
      exact W
  · have k' : po (nI s).toNatClampNeg = 4 := by rw [es]; exact k
    rw [wr_V4 ok i j k] at h
    have hx := og (by omega) (wr_tp po s - 2)
    have hy := og (by omega) (wr_tp po s - 1)
    refine ⟨ws, br_t (by rw [k']; decide) ⟨(p1 (by omega)).1, nm_r (p1 (by omega)).2 ⟨ws, br_f (by rw [k']; decide) ⟨(p2 (by omega)).1, nm_r (p2 (by omega)).2 ⟨ws, br_f (by rw [k']; decide) ⟨by rw [wr_cy]; exact vp_in_nI (by omega) (by omega), by rw [wr_cy]; exact vp_in_nI (by omega) (by omega), ?_⟩⟩⟩⟩⟩⟩
    rw [wr_cy, wr_cy, nI_clamp (by omega), nI_clamp (by omega), hY _ i j hi hj (Or.inl hx), hY _ i j hi hj (Or.inl hy)]
    exact ya_either hm (wr_bd_up (bV _ i j (by omega) hi hj) (by omega)) (wr_bd_up (bV _ i j (by omega) hi hj) (by omega)) h
  · have k' : po (nI s).toNatClampNeg = 5 := by rw [es]; exact k
    refine ⟨ws, br_t (by rw [k']; decide) ⟨(p1 (by omega)).1, nm_r (p1 (by omega)).2 ⟨ws, br_t k' (pk_eq i j (fun z => ?_) (fun z => ?_))⟩⟩⟩
    · subst z
      rw [wr_V5i ok i k] at h
      exact ya_one (c := 0) rfl hm h
    · have hi' : i < j := by omega
      rw [wr_V5 ok i j hi' k, ec'] at h
      have W := ya_lp31 (ys := ys) (yd := yd) (ya := ya) (yz := yz) (yn := yn) (eo := eo) (el := el) (ec := ec) (po := po) (pl := pl) (pc := pc) (tx := tx) (op := op) hm hn hi' hj hs (og t2 _) hq eq hY bV h (j - i) (i + 1) (j + 2) (by omega) (Nat.le_refl _) (by omega)
      rw [Nat.sub_self] at W
      refine br_c (fun z => nm_r (nI_1 i) ⟨j + 2, ?_⟩) (fun z => nm_r (nI_1 i) ⟨j + 2, ?_⟩)
      · subst z
        exact W
      · have e : wr_y m (wr_su (fun k => wr_to q (wr_V po pl pc tx (wr_og po s (wr_tp po s - 1)) i k) (wr_V po pl pc tx s k j)) (i + 1) 0) = -1 := if_neg z
        rw [e] at W
        exact W
end
end
section
/-! the reference's table -/
section
variable {post : SY → Prop} {ys yd ya yz yn : Int32} {eo el ec po pl pc tx : Nat → Int32} {m : Int32}
theorem ya_fill15 {J6 : _} {L R op : Nat → Int32} {n s i t : Nat} (eN : yn = nI n) (hm : wr_m m) (hn : n ≤ 8) (hi : i ≤ n) (hs : s < 20) (ok : wr_ok po pc L R s) (ht : t = wr_tp po s) (ho : ∀ q, q < t → op q = nI (wr_og po s q)) (bV : ∀ s' i' j', s' ≤ s → i' ≤ j' → j' ≤ n → wr_bd 1440 (wr_V po pl pc tx s' i' j'))
    (K : ∀ va, wr_Y (wr_V po pl pc tx) m n s (i + 1) (n + 1) va → J6 (nI i + (-1)) eo el ec po pl pc tx va op) :
    ∀ d j f va, j + d = n + 1 → i ≤ j → d < f → wr_Y (wr_V po pl pc tx) m n s (i + 1) j va → wY_fill_15 post J6 m (nI s) (nI t) (nI i) ys yd ya yz yn f (nI j) eo el ec po pl pc tx va op := by
  intro d
  induction d with
  | zero =>
    intro j f va h1 h2 h3 hY
    obtain ⟨f, rfl⟩ : ∃ f', f = f' + 1 := ⟨f - 1, by omega⟩
    have ej : j = n + 1 := by omega
    subst ej
    subst eN
    rw [wY_fill_15]
    exact br_t (nI_lt (by omega) (by omega)) (nm_e (K va hY))
  | succ d ih =>
    intro j f va h1 h2 h3 hY
    obtain ⟨f, rfl⟩ : ∃ f', f = f' + 1 := ⟨f - 1, by omega⟩
    have nl : ¬ yn < nI j := by rw [eN]; exact nI_nlt (by omega) (by omega)
    rw [wY_fill_15]
    refine br_f nl (ya_node hm hn h2 (by omega) hs ok ht ho bV hY ⟨by rw [wr_cy]; exact vp_in_nI (by omega) (by omega), nm_r (e' := upd va (s * 81 + i * 9 + j) (wr_y m (wr_V po pl pc tx s i j))) (by rw [wr_cy, nI_clamp (by omega)]) (nm_r (nI_1 j) ?_)⟩)
    exact ih (j + 1) f _ (by omega) (by omega) (by omega) (wr_Y_put hn hi (by omega) hY rfl)
theorem ya_fill6 {L R op : Nat → Int32} {n s t : Nat} (eN : yn = nI n) (hm : wr_m m) (hn : n ≤ 8) (hs : s < 20) (ok : wr_ok po pc L R s) (ht : t = wr_tp po s) (ho : ∀ q, q < t → op q = nI (wr_og po s q)) (bV : ∀ s' i' j', s' ≤ s → i' ≤ j' → j' ≤ n → wr_bd 1440 (wr_V po pl pc tx s' i' j'))
    (K : ∀ va, wr_Y (wr_V po pl pc tx) m n s 0 0 va → post (ys, yd, ya, yz, yn, eo, el, ec, po, pl, pc, tx, va, op)) :
    ∀ e f va, e ≤ n + 1 → e < f → wr_Y (wr_V po pl pc tx) m n s e 0 va → wY_fill_6 post m (nI s) (nI t) ys yd ya yz yn f (nI e + (-1)) eo el ec po pl pc tx va op := by
  intro e
  induction e with
  | zero =>
    intro f va h1 h2 hY
    obtain ⟨f, rfl⟩ : ∃ f', f = f' + 1 := ⟨f - 1, by omega⟩
    rw [wY_fill_6]
    exact br_t (by decide) (K va hY)
  | succ e ih =>
    intro f va h1 h2 hY
    obtain ⟨f, rfl⟩ : ∃ f', f = f' + 1 := ⟨f - 1, by omega⟩
    rw [wY_fill_6, pk_m1]
    refine br_f (nI_pos (by omega)) ⟨n + 3, ?_⟩
    exact ya_fill15 eN hm hn (by omega) hs ok ht ho bV (fun va hZ => ih f va (by omega) (by omega) (wr_Y_row hZ)) (n + 1 - e) e (n + 3) va (by omega) (Nat.le_refl _) (by omega) (wr_Y_in hY)
theorem ya_fill {L R op va : Nat → Int32} {n s t : Nat} (eN : yn = nI n) (hm : wr_m m) (hn : n ≤ 8) (hs : s < 20) (ok : wr_ok po pc L R s) (ht : t = wr_tp po s) (ho : ∀ q, q < t → op q = nI (wr_og po s q)) (bV : ∀ s' i' j', s' ≤ s → i' ≤ j' → j' ≤ n → wr_bd 1440 (wr_V po pl pc tx s' i' j')) (hY : wr_Y (wr_V po pl pc tx) m n s (n + 1) 0 va)
    (K : ∀ va, wr_Y (wr_V po pl pc tx) m n s 0 0 va → post (ys, yd, ya, yz, yn, eo, el, ec, po, pl, pc, tx, va, op)) : wpY_fill post (ys, yd, ya, yz, yn, eo, el, ec, po, pl, pc, tx, va, op) m (nI s) (nI t) := by
  have e : yn = nI (n + 1) + (-1) := by rw [pk_m1]; exact eN
  have W := ya_fill6 (ys := ys) (yd := yd) (ya := ya) (yz := yz) (eo := eo) (el := el) (ec := ec) eN hm hn hs ok ht ho bV K (n + 1) (n + 3) va (Nat.le_refl _) (by omega) hY
  rw [← e] at W
  exact ⟨n + 3, W⟩
theorem ya_52 {J4 : _} {op va : Nat → Int32} {s t : Nat} {z : Int32} (ez : z = nI t) (h1 : 1 ≤ t) (h2 : t ≤ 20) (h : J4 (nI t) (nI (s + 1)) ys yd ya yz yn eo el ec po pl pc tx va (upd op (t - 1) (nI s))) : wY_read_52 post J4 m (nI s) z ys yd ya yz yn eo el ec po pl pc tx va op := by
  subst ez
  refine ⟨by rw [ya_s1 h1]; exact vp_in_nI (by omega) (by omega), nm_r (e' := upd op (t - 1) (nI s)) (by rw [ya_s1 h1, nI_clamp (by omega)]) (nm_r (nI_1 s) h)⟩
theorem wr_og_up {K : Nat → Int32} {s t' : Nat} {op : Nat → Int32} (ho : ∀ q, q < wr_tp K s → op q = nI (wr_og K s q)) (ht : wr_tp K (s + 1) = t') (hl : t' ≤ wr_tp K s + 1) : ∀ q, q < wr_tp K (s + 1) → upd op (t' - 1) (nI s) q = nI (wr_og K (s + 1) q) := by
  intro q hq
  rw [wr_og_s, ht]
  by_cases e : q + 1 = t'
  · rw [if_pos e, show t' - 1 = q from by omega, pk_us]
  · rw [if_neg e, pk_un (by omega)]
    exact ho q (by omega)
theorem ya_read4 {L R : Nat → Int32} {n z : Nat} (eN : yn = nI n) (eZ : yz = nI z) (hm : wr_m m) (hn : n ≤ 8) (hz : z ≤ 20) (ok : ∀ s, s < z → wr_ok po pc L R s)
    (K : ∀ va op, wr_Y (wr_V po pl pc tx) m n z (n + 1) 0 va → post (ys, yd, ya, yz, yn, eo, el, ec, po, pl, pc, tx, va, op)) :
    ∀ d s f va op, s + d = z → d < f → wr_Y (wr_V po pl pc tx) m n s (n + 1) 0 va → (∀ q, q < wr_tp po s → op q = nI (wr_og po s q)) → wY_read_4 post m f (nI (wr_tp po s)) (nI s) ys yd ya yz yn eo el ec po pl pc tx va op := by
  intro d
  induction d with
  | zero =>
    intro s f va op h1 h2 hY ho
    obtain ⟨f, rfl⟩ : ∃ f', f = f' + 1 := ⟨f - 1, by omega⟩
    have e : s = z := by omega
    subst e
    have nl : yz ≤ nI s := by rw [eZ]; exact nI_le (by omega) (by omega)
    rw [wY_read_4]
    exact br_t nl (K va op hY)
  | succ d ih =>
    intro s f va op h1 h2 hY ho
    obtain ⟨f, rfl⟩ : ∃ f', f = f' + 1 := ⟨f - 1, by omega⟩
    have nl : ¬ yz ≤ nI s := by rw [eZ]; exact nI_ge (by omega) (by omega)
    have es : (nI s).toNatClampNeg = s := nI_clamp (by omega)
    have ws : vp_in (nI s) 20 := vp_in_nI (by omega) (by omega)
    have tl := wr_tp_le po s
    have hs := ok s (by omega)
    rw [wY_read_4]
    refine br_f nl (ya_fill eN hm hn (by omega) hs rfl ho (fun s' i' j' h1 h2 h3 => wr_V_b ok hz (by omega) h2 (by omega)) hY (fun va' hZ => ⟨ws, ?_⟩))
    have up : ∀ t', wr_tp po (s + 1) = t' → t' ≤ wr_tp po s + 1 → wY_read_4 post m f (nI t') (nI (s + 1)) ys yd ya yz yn eo el ec po pl pc tx va' (upd op (t' - 1) (nI s)) := fun t' h3 h4 => by
      have W := ih (s + 1) f va' (upd op (t' - 1) (nI s)) (by omega) (by omega) (wr_Y_next hZ) (wr_og_up ho h3 h4)
      rw [h3] at W
      exact W
    have tp := wr_tp_s po s
    rcases hs.2 with k | k | k | ⟨k, t2, -, -⟩ | ⟨k, t2, -, -⟩ | ⟨k, t2, -⟩
    · have k' : po (nI s).toNatClampNeg = 0 := by rw [es]; exact k
      rw [k, if_pos (by decide)] at tp
      exact br_f (by rw [k']; decide) (ya_52 (nI_1 _) (by omega) (by omega) (up _ tp (by omega)))
    · have k' : po (nI s).toNatClampNeg = 1 := by rw [es]; exact k
      rw [k, if_pos (by decide)] at tp
      exact br_f (by rw [k']; decide) (ya_52 (nI_1 _) (by omega) (by omega) (up _ tp (by omega)))
    · have k' : po (nI s).toNatClampNeg = 2 := by rw [es]; exact k
      rw [k, if_pos (by decide)] at tp
      exact br_f (by rw [k']; decide) (ya_52 (nI_1 _) (by omega) (by omega) (up _ tp (by omega)))
    · have k' : po (nI s).toNatClampNeg = 3 := by rw [es]; exact k
      rw [k, if_neg (by decide), if_pos (by decide)] at tp
      exact br_t (by rw [k']; decide) ⟨ws, br_f (by rw [k']; decide) (ya_52 (ya_s1 (by omega)) (by omega) (by omega) (up _ tp (by omega)))⟩
    · have k' : po (nI s).toNatClampNeg = 4 := by rw [es]; exact k
      rw [k, if_neg (by decide), if_pos (by decide)] at tp
      exact br_t (by rw [k']; decide) ⟨ws, br_f (by rw [k']; decide) (ya_52 (ya_s1 (by omega)) (by omega) (by omega) (up _ tp (by omega)))⟩
    · have k' : po (nI s).toNatClampNeg = 5 := by rw [es]; exact k
      rw [k, if_neg (by decide), if_neg (by decide)] at tp
      exact br_t (by rw [k']; decide) ⟨ws, br_t (by rw [k']; decide) (ya_52 rfl (by omega) (by omega) (up _ tp (by omega)))⟩
theorem ya_read {L R va op : Nat → Int32} {n z : Nat} (hm : wr_m m) (hn : n ≤ 8) (hu : wr_us po pc L R z)
    (K : ∀ va op, wr_Y (wr_V po pl pc tx) m n z (n + 1) 0 va → post (ys, yd, ya, (nI z), (nI n), eo, el, ec, po, pl, pc, tx, va, op)) : wpY_read post (ys, yd, ya, (nI z), (nI n), eo, el, ec, po, pl, pc, tx, va, op) m :=
  ⟨z + 1, ya_read4 rfl rfl hm hn hu.2.1 hu.2.2 K z 0 (z + 1) va op (Nat.zero_add z) (Nat.lt_succ_self z) (fun s' i' j' h1 h2 hD => by
    unfold wr_D at hD
    omega) (fun q hq => absurd hq (Nat.not_lt_zero q))⟩
end
section
variable {post : Int32 → Prop} {ds dv st tl ys yd ya : Int32} {dk dt dc dl dr sk uk ut uc ul ur tx c0 c1 c2 cv eo el ec po pl pc va op : Nat → Int32} {m yn : Int32} {n z i j : Nat}
theorem xa_ans (h1 : 1 ≤ z) (h : post (nI ((z - 1) * 81 + i * 9 + j))) : wpX_answerCell post (ds, dv, st, (nI z), tl, dk, dt, dc, dl, dr, sk, uk, ut, uc, ul, ur, tx, c0, c1, c2, cv) (nI i) (nI j) := by
  unfold wpX_answerCell
  exact xa_co (ya_s1 h1) h
theorem ya_whole {V : Nat → Nat → Nat → wr_C} (h1 : 1 ≤ z) (h2 : z ≤ 20) (hn : n ≤ 8) (hi : i ≤ j) (hj : j ≤ n) (hY : wr_Y V m n z (n + 1) 0 va) (h : post (wr_y m (V (z - 1) i j))) : wpY_whole post (ys, yd, ya, (nI z), yn, eo, el, ec, po, pl, pc, tx, va, op) (nI i) (nI j) := by
  have e : (nI z - 1) * 81 + nI i * 9 + nI j = nI ((z - 1) * 81 + i * 9 + j) := by rw [ya_s1 h1, wr_cy]
  refine ⟨by rw [e]; exact vp_in_nI (by omega) (by omega), ?_⟩
  rw [e, nI_clamp (by omega), hY (z - 1) i j hi hj (Or.inl (by omega))]
  exact h
end
end
section
/-! the relation, and the methods that build and type -/
def i_Rel (_ : Nat) (u : SX) (v : SY) : Prop := ∃ (dk dt dc dl dr sk uk ut uc ul ur tx c0 c1 c2 cv va op : Nat → Int32) (ds st lv z n : Nat), u = ((nI ds), (nI lv), (nI st), (nI z), (nI n), dk, dt, dc, dl, dr, sk, uk, ut, uc, ul, ur, tx, c0, c1, c2, cv) ∧ v = ((nI ds), (nI st), (nI lv), (nI z), (nI n), dk, dt, dc, uk, ut, uc, tx, va, op) ∧ wr_dr dk dc dl dr sk ds st lv ∧ wr_us uk uc ul ur z ∧ n ≤ 8
theorem i_up {k : Nat} {u : SX} {v : SY} (h : i_Rel k u v) : i_Rel (k + 3) u v := h
theorem i_vc0 : wpX_init (fun u => wpY_init (fun v => i_Rel 0 u v)) := by
  refine nm_e (nm_e ?_)
  refine ⟨_, _, _, fun _ => 0, fun _ => 0, fun _ => 0, _, _, _, fun _ => 0, fun _ => 0, _, _, _, _, _, _, _, 0, 0, 0, 1, 0, rfl, rfl, wr_dr_0 _ _ _ _ _, ⟨by omega, by omega, fun s hs => ?_⟩, by omega⟩
  have e : s = 0 := by omega
  subst e
  exact ⟨⟨0, by omega, rfl, fun _ => rfl⟩, Or.inr (Or.inr (Or.inl pk_us))⟩
section
variable {post : Int32 → Prop} {p : Int32}
theorem xb_let0 (h : p < 0 ∨ 2 < p) (k : post 0) : wpX_isLetter post p := by
  by_cases a : p < 0
  · exact br_t a k
  · exact br_f a (br_t (h.resolve_left a) k)
theorem xb_let1 (h1 : ¬ p < 0) (h2 : ¬ 2 < p) (k : post 1) : wpX_isLetter post p := br_f h1 (br_f h2 k)
theorem xb_cost0 (h : p < 0 ∨ 9 < p) (k : post 0) : wpX_isCost post p := by
  by_cases a : p < 0
  · exact br_t a k
  · exact br_f a (br_t (h.resolve_left a) k)
theorem xb_cost1 (h1 : ¬ p < 0) (h2 : ¬ 9 < p) (k : post 1) : wpX_isCost post p := br_f h1 (br_f h2 k)
end
section
variable {dv us tl : Int32} {dk dt dc dl dr sk uk ut uc ul ur tx c0 c1 c2 cv : Nat → Int32} {d s l : Nat}
theorem xb_rp0 {post : Int32 → Prop} (h : 20 ≤ d ∨ 8 ≤ s) (hd : d ≤ 20) (hs : s ≤ 8) (k : post 0) : wpX_hasRoomToPush post ((nI d), dv, (nI s), us, tl, dk, dt, dc, dl, dr, sk, uk, ut, uc, ul, ur, tx, c0, c1, c2, cv) :=
  pk_le 20 d (fun _ => k) (fun z => pk_le 8 s (fun _ => k) (fun y => absurd h (by omega)))
theorem xb_rp1 {post : Int32 → Prop} (hd : d < 20) (hs : s < 8) (k : post 1) : wpX_hasRoomToPush post ((nI d), dv, (nI s), us, tl, dk, dt, dc, dl, dr, sk, uk, ut, uc, ul, ur, tx, c0, c1, c2, cv) :=
  pk_le 20 d (fun z => absurd z (by omega)) (fun z => pk_le 8 s (fun z => absurd z (by omega)) (fun y => k))
theorem xb_rl0 {post : Int32 → Prop} (h : 20 ≤ d ∨ 8 ≤ s ∨ 10 ≤ l) (hd : d ≤ 20) (hs : s ≤ 8) (hl : l ≤ 10) (k : post 0) : wpX_hasRoomForLeaf post ((nI d), (nI l), (nI s), us, tl, dk, dt, dc, dl, dr, sk, uk, ut, uc, ul, ur, tx, c0, c1, c2, cv) := by
  unfold wpX_hasRoomForLeaf
  by_cases a : 20 ≤ d ∨ 8 ≤ s
  · exact xb_rp0 a hd hs (br_t rfl k)
  · exact xb_rp1 (by omega) (by omega) (br_f (by decide) (pk_le 10 l (fun _ => k) (fun y => absurd h (by omega))))
theorem xb_rl1 {post : Int32 → Prop} (hd : d < 20) (hs : s < 8) (hl : l < 10) (k : post 1) : wpX_hasRoomForLeaf post ((nI d), (nI l), (nI s), us, tl, dk, dt, dc, dl, dr, sk, uk, ut, uc, ul, ur, tx, c0, c1, c2, cv) := by
  unfold wpX_hasRoomForLeaf
  exact xb_rp1 hd hs (br_f (by decide) (pk_le 10 l (fun z => absurd z (by omega)) (fun y => k)))
theorem xb_add {post : SX → Prop} {st k a b c e : Int32} (hd : d < 20) (h : post ((nI (d + 1)), dv, st, us, tl, (upd dk d k), (upd dt d a), (upd dc d b), (upd dl d c), (upd dr d e), sk, uk, ut, uc, ul, ur, tx, c0, c1, c2, cv)) : wpX_addStep post ((nI d), dv, st, us, tl, dk, dt, dc, dl, dr, sk, uk, ut, uc, ul, ur, tx, c0, c1, c2, cv) k a b c e := by
  have e' : (nI d).toNatClampNeg = d := nI_clamp (by omega)
  have w : vp_in (nI d) 20 := vp_in_nI hd (by omega)
  exact ⟨w, nm_r (e' := upd dk d k) (by rw [e']) ⟨w, nm_r (e' := upd dt d a) (by rw [e']) ⟨w, nm_r (e' := upd dc d b) (by rw [e']) ⟨w, nm_r (e' := upd dl d c) (by rw [e']) ⟨w, nm_r (e' := upd dr d e) (by rw [e']) (nm_r (nI_1 d) h)⟩⟩⟩⟩⟩
theorem xb_push {post : Int32 → SX → Prop} (hs : s < 8) (h : post (nI (s + 1)) ((nI (d + 1)), dv, (nI (s + 1)), us, tl, dk, dt, dc, dl, dr, (upd sk s (nI d)), uk, ut, uc, ul, ur, tx, c0, c1, c2, cv)) : wpX_push post ((nI (d + 1)), dv, (nI s), us, tl, dk, dt, dc, dl, dr, sk, uk, ut, uc, ul, ur, tx, c0, c1, c2, cv) := by
  have e' : (nI s).toNatClampNeg = s := nI_clamp (by omega)
  have w : vp_in (nI s) 8 := vp_in_nI hs (by omega)
  exact ⟨w, nm_r (e' := upd sk s (nI d)) (by rw [e', nI_pred]) (nm_r (nI_1 s) h)⟩
theorem xb_leaf {post : Int32 → SX → Prop} {k a b : Int32} (hd : d < 20) (hs : s < 8) (h : post (nI (s + 1)) ((nI (d + 1)), (nI (l + 1)), (nI (s + 1)), us, tl, (upd dk d k), (upd dt d a), (upd dc d b), (upd dl d 0), (upd dr d 0), (upd sk s (nI d)), uk, ut, uc, ul, ur, tx, c0, c1, c2, cv)) : wpX_pushLeaf post ((nI d), (nI l), (nI s), us, tl, dk, dt, dc, dl, dr, sk, uk, ut, uc, ul, ur, tx, c0, c1, c2, cv) k a b := by
  unfold wpX_pushLeaf
  exact nm_r (nI_1 l) (xb_add hd (xb_push hs h))
theorem xb_joint {post : Int32 → SX → Prop} {k : Int32} {t : Nat} (hd : d < 20) (hs : t + 2 ≤ 8) (h : post (nI (t + 1)) ((nI (d + 1)), dv, (nI (t + 1)), us, tl, (upd dk d k), (upd dt d 0), (upd dc d 0), (upd dl d (sk t)), (upd dr d (sk (t + 1))), (upd sk t (nI d)), uk, ut, uc, ul, ur, tx, c0, c1, c2, cv)) : wpX_joinTopTwo post ((nI d), dv, (nI (t + 2)), us, tl, dk, dt, dc, dl, dr, sk, uk, ut, uc, ul, ur, tx, c0, c1, c2, cv) k := by
  have e2 : nI (t + 2) - 2 = nI t := ya_s2 (a := t + 2) (by omega)
  have e1 : nI (t + 2) - 1 = nI (t + 1) := nI_pred (t + 1)
  refine pk_lt d 20 (fun _ => pk_le 2 (t + 2) (fun _ => ⟨by rw [e2]; exact vp_in_nI (by omega) (by omega), by rw [e1]; exact vp_in_nI (by omega) (by omega), ?_⟩) (fun z => absurd z (by omega))) (fun z => absurd z (by omega))
  rw [e2, e1, nI_clamp (n := t) (by omega), nI_clamp (n := t + 1) (by omega)]
  exact xb_add hd (nm_r e2 (xb_push (by omega) h))
theorem xb_loop {post : Int32 → SX → Prop} {k : Int32} {t : Nat} (h1 : ¬ k < 0) (h2 : ¬ 9 < k) (hd : d < 20) (hs : t + 1 ≤ 8) (h : post (nI (t + 1)) ((nI (d + 1)), dv, (nI (t + 1)), us, tl, (upd dk d 5), (upd dt d 0), (upd dc d k), (upd dl d (sk t)), (upd dr d 0), (upd sk t (nI d)), uk, ut, uc, ul, ur, tx, c0, c1, c2, cv)) : wpX_loop post ((nI d), dv, (nI (t + 1)), us, tl, dk, dt, dc, dl, dr, sk, uk, ut, uc, ul, ur, tx, c0, c1, c2, cv) k := by
  have e1 : nI (t + 1) - 1 = nI t := nI_pred t
  unfold wpX_loop
  refine xb_cost1 h1 h2 (br_f (by decide) (pk_lt d 20 (fun _ => pk_le 1 (t + 1) (fun _ => ⟨by rw [e1]; exact vp_in_nI (by omega) (by omega), ?_⟩) (fun z => absurd z (by omega))) (fun z => absurd z (by omega))))
  rw [e1, nI_clamp (n := t) (by omega)]
  exact xb_add hd (nm_r e1 (xb_push (by omega) h))
end
section
variable {ya yz yn : Int32} {eo el ec po pl pc tx va op : Nat → Int32} {d s : Nat}
theorem yb_note {post : Int32 → SY → Prop} {yd k a b c : Int32} (hd : d < 20) (hc : yd + c = nI s) (h : post (nI s) ((nI (d + 1)), (nI s), ya, yz, yn, (upd eo d k), (upd el d a), (upd ec d b), po, pl, pc, tx, va, op)) : wpY_note post ((nI d), yd, ya, yz, yn, eo, el, ec, po, pl, pc, tx, va, op) k a b c := by
  have e' : (nI d).toNatClampNeg = d := nI_clamp (by omega)
  have w : vp_in (nI d) 20 := vp_in_nI hd (by omega)
  exact ⟨w, nm_r (e' := upd eo d k) (by rw [e']) ⟨w, nm_r (e' := upd el d a) (by rw [e']) ⟨w, nm_r (e' := upd ec d b) (by rw [e']) (nm_r (nI_1 d) (nm_r hc h))⟩⟩⟩
theorem yb_atom {post : Int32 → SY → Prop} {l : Nat} {k a b : Int32} (hd : d < 20) (hs : s < 8) (hl : l < 10) (h : post (nI (s + 1)) ((nI (d + 1)), (nI (s + 1)), (nI (l + 1)), yz, yn, (upd eo d k), (upd el d a), (upd ec d b), po, pl, pc, tx, va, op)) : wpY_atom post ((nI d), (nI s), (nI l), yz, yn, eo, el, ec, po, pl, pc, tx, va, op) k a b :=
  pk_eq d 20 (fun z => absurd z (by omega)) (fun _ => pk_eq s 8 (fun z => absurd z (by omega)) (fun _ => pk_eq l 10 (fun z => absurd z (by omega)) (fun _ => nm_r (nI_1 l) (yb_note hd (nI_1 s) h))))
theorem yb_atom0 {post : Int32 → SY → Prop} {l : Nat} {k a b : Int32} (hd : d ≤ 20) (hs : s ≤ 8) (hl : l ≤ 10) (q : 20 ≤ d ∨ 8 ≤ s ∨ 10 ≤ l) (h : post (-2) ((nI d), (nI s), (nI l), yz, yn, eo, el, ec, po, pl, pc, tx, va, op)) : wpY_atom post ((nI d), (nI s), (nI l), yz, yn, eo, el, ec, po, pl, pc, tx, va, op) k a b :=
  pk_eq d 20 (fun _ => h) (fun _ => pk_eq s 8 (fun _ => h) (fun _ => pk_eq l 10 (fun _ => h) (fun _ => absurd q (by omega))))
end
theorem xb_nat9 {p : Int32} (h1 : ¬ p < 0) (h2 : ¬ 9 < p) : ∃ q, q ≤ 9 ∧ p = nI q := by
  obtain ⟨j, hj, rfl⟩ := nI_of h1
  refine ⟨j, ?_, rfl⟩
  have : ¬ nI 9 < nI j := h2
  rw [nI_ltI (by omega) (by omega)] at this
  omega
theorem i_vc_letter {k : Nat} {u : SX} {v : SY} (I : i_Rel k u v) (hk : k + 3 ≤ 1536) (v1 : Int32) (v2 : Int32) : wpX_letter (fun r u' => wpY_letter (fun r' v' => r' = r ∧ i_Rel (k + 3) u' v') v v1 v2) u v1 v2 := by
  have J := I
  obtain ⟨dk, dt, dc, dl, dr, sk, uk, ut, uc, ul, ur, tx, c0, c1, c2, cv, va, op, d, s, l, z, n, rfl, rfl, hd, hu, hn⟩ := I
  obtain ⟨h1, h2, h3, -⟩ := id hd
  unfold wpX_letter
  by_cases a0 : v1 < 0
  · exact xb_let0 (Or.inl a0) (br_t rfl (br_t a0 ⟨rfl, J⟩))
  · by_cases a1 : 2 < v1
    · exact xb_let0 (Or.inr a1) (br_t rfl (br_f a0 (br_t a1 ⟨rfl, J⟩)))
    · refine xb_let1 a0 a1 (br_f (by decide) ?_)
      by_cases b0 : v2 < 0
      · exact xb_cost0 (Or.inl b0) (br_t rfl (br_f a0 (br_f a1 (br_t b0 ⟨rfl, J⟩))))
      · by_cases b1 : 9 < v2
        · exact xb_cost0 (Or.inr b1) (br_t rfl (br_f a0 (br_f a1 (br_f b0 (br_f (Int32.not_le.mpr b1) ⟨rfl, J⟩)))))
        · refine xb_cost1 b0 b1 (br_f (by decide) ?_)
          by_cases g : 20 ≤ d ∨ 8 ≤ s ∨ 10 ≤ l
          · exact xb_rl0 g h1 h3 h2 (br_t rfl (br_f a0 (br_f a1 (br_f b0 (br_t (Int32.not_lt.mp b1) (yb_atom0 h1 h3 h2 g ⟨rfl, J⟩))))))
          · obtain ⟨q, hq, eq⟩ := xb_nat9 b0 b1
            refine xb_rl1 (by omega) (by omega) (by omega) (br_f (by decide) (xb_leaf (by omega) (by omega) (br_f a0 (br_f a1 (br_f b0 (br_t (Int32.not_lt.mp b1) (yb_atom (by omega) (by omega) (by omega) ⟨rfl, ?_⟩)))))))
            exact ⟨_, _, _, _, _, _, _, _, _, _, _, _, _, _, _, _, _, _, d + 1, s + 1, l + 1, z, n, rfl, rfl, wr_dr_s hd (by omega) (by omega) (by omega) (by omega) rfl ⟨q, hq, eq, fun z => absurd z (by decide)⟩ (Or.inl rfl), hu, hn⟩
theorem i_vc_any {k : Nat} {u : SX} {v : SY} (I : i_Rel k u v) (hk : k + 3 ≤ 1536) (v1 : Int32) : wpX_any (fun r u' => wpY_any (fun r' v' => r' = r ∧ i_Rel (k + 3) u' v') v v1) u v1 := by
  have J := I
  obtain ⟨dk, dt, dc, dl, dr, sk, uk, ut, uc, ul, ur, tx, c0, c1, c2, cv, va, op, d, s, l, z, n, rfl, rfl, hd, hu, hn⟩ := I
  obtain ⟨h1, h2, h3, -⟩ := id hd
  unfold wpX_any
  by_cases b0 : v1 < 0
  · exact xb_cost0 (Or.inl b0) (br_t rfl (br_t b0 ⟨rfl, J⟩))
  · by_cases b1 : 9 < v1
    · exact xb_cost0 (Or.inr b1) (br_t rfl (br_f b0 (br_f (Int32.not_le.mpr b1) ⟨rfl, J⟩)))
    · refine xb_cost1 b0 b1 (br_f (by decide) ?_)
      by_cases g : 20 ≤ d ∨ 8 ≤ s ∨ 10 ≤ l
      · exact xb_rl0 g h1 h3 h2 (br_t rfl (br_f b0 (br_t (Int32.not_lt.mp b1) (yb_atom0 h1 h3 h2 g ⟨rfl, J⟩))))
      · obtain ⟨q, hq, eq⟩ := xb_nat9 b0 b1
        refine xb_rl1 (by omega) (by omega) (by omega) (br_f (by decide) (xb_leaf (by omega) (by omega) (br_f b0 (br_t (Int32.not_lt.mp b1) (yb_atom (by omega) (by omega) (by omega) ⟨rfl, ?_⟩)))))
        exact ⟨_, _, _, _, _, _, _, _, _, _, _, _, _, _, _, _, _, _, d + 1, s + 1, l + 1, z, n, rfl, rfl, wr_dr_s hd (by omega) (by omega) (by omega) (by omega) rfl ⟨q, hq, eq, fun z => absurd z (by decide)⟩ (Or.inr (Or.inl rfl)), hu, hn⟩
theorem i_vc_unit {k : Nat} {u : SX} {v : SY} (I : i_Rel k u v) (hk : k + 3 ≤ 1536) : wpX_unit (fun r u' => wpY_unit (fun r' v' => r' = r ∧ i_Rel (k + 3) u' v') v) u := by
  have J := I
  obtain ⟨dk, dt, dc, dl, dr, sk, uk, ut, uc, ul, ur, tx, c0, c1, c2, cv, va, op, d, s, l, z, n, rfl, rfl, hd, hu, hn⟩ := I
  obtain ⟨h1, h2, h3, -⟩ := id hd
  unfold wpX_unit
  by_cases g : 20 ≤ d ∨ 8 ≤ s
  · exact xb_rp0 g h1 h3 (br_t rfl (pk_eq d 20 (fun _ => ⟨rfl, J⟩) (fun _ => pk_eq s 8 (fun _ => ⟨rfl, J⟩) (fun _ => absurd g (by omega)))))
  · refine xb_rp1 (by omega) (by omega) (br_f (by decide) (xb_add (by omega) (xb_push (by omega) (pk_eq d 20 (fun z => absurd z (by omega)) (fun _ => pk_eq s 8 (fun z => absurd z (by omega)) (fun _ => yb_note (by omega) (nI_1 s) ⟨rfl, ?_⟩))))))
    exact ⟨_, _, _, _, _, _, _, _, _, _, _, _, _, _, _, _, _, _, d + 1, s + 1, l, z, n, rfl, rfl, wr_dr_s hd (by omega) (by omega) (by omega) (by omega) rfl ⟨0, by omega, rfl, fun _ => rfl⟩ (Or.inr (Or.inr (Or.inl rfl))), hu, hn⟩
theorem xb_pair {k : Nat} {u : SX} {v : SY} (I : i_Rel k u v) (q : Int32) (hq : q = 3 ∨ q = 4) : wpX_joinTopTwo (fun r u' => wpY_pair (fun r' v' => r' = r ∧ i_Rel (k + 3) u' v') v q) u q := by
  have J := I
  obtain ⟨dk, dt, dc, dl, dr, sk, uk, ut, uc, ul, ur, tx, c0, c1, c2, cv, va, op, d, s, l, z, n, rfl, rfl, hd, hu, hn⟩ := I
  obtain ⟨h1, h2, h3, h4, h5, -⟩ := id hd
  by_cases g : 20 ≤ d
  · exact pk_lt d 20 (fun z => absurd z (by omega)) (fun _ => pk_eq d 20 (fun _ => ⟨rfl, J⟩) (fun z => absurd z (by omega)))
  · by_cases g2 : s < 2
    · exact pk_lt d 20 (fun _ => pk_le 2 s (fun z => absurd z (by omega)) (fun _ => pk_eq d 20 (fun z => absurd z (by omega)) (fun _ => pk_le 2 s (fun z => absurd z (by omega)) (fun _ => ⟨rfl, J⟩)))) (fun z => absurd z (by omega))
    · obtain ⟨t, rfl⟩ : ∃ t, s = t + 2 := ⟨s - 2, by omega⟩
      refine xb_joint (by omega) h3 (pk_eq d 20 (fun z => absurd z (by omega)) (fun _ => pk_le 2 (t + 2) (fun _ => yb_note (by omega) (pk_m1 (t + 1)) ⟨rfl, ?_⟩) (fun z => absurd z (by omega))))
      refine ⟨_, _, _, _, _, _, _, _, _, _, _, _, _, _, _, _, _, _, d + 1, t + 1, l, z, n, rfl, rfl, wr_dr_s hd (by omega) (by omega) (by omega) (by omega) ?_ ⟨0, by omega, rfl, fun _ => rfl⟩ ?_, hu, hn⟩
      · rcases hq with rfl | rfl <;> rfl
      · rcases hq with rfl | rfl
        · exact Or.inr (Or.inr (Or.inr (Or.inl ⟨rfl, by omega, h5 t (by omega), h5 (t + 1) (by omega)⟩)))
        · exact Or.inr (Or.inr (Or.inr (Or.inr (Or.inl ⟨rfl, by omega, h5 t (by omega), h5 (t + 1) (by omega)⟩))))
theorem i_vc_seq {k : Nat} {u : SX} {v : SY} (I : i_Rel k u v) (hk : k + 3 ≤ 1536) : wpX_seq (fun r u' => wpY_seq (fun r' v' => r' = r ∧ i_Rel (k + 3) u' v') v) u := by
  have W := xb_pair I 3 (Or.inl rfl)
  exact W
theorem i_vc_alt {k : Nat} {u : SX} {v : SY} (I : i_Rel k u v) (hk : k + 3 ≤ 1536) : wpX_alt (fun r u' => wpY_alt (fun r' v' => r' = r ∧ i_Rel (k + 3) u' v') v) u := by
  have W := xb_pair I 4 (Or.inr rfl)
  exact W
theorem i_vc_loop {k : Nat} {u : SX} {v : SY} (I : i_Rel k u v) (hk : k + 3 ≤ 1536) (v1 : Int32) : wpX_loop (fun r u' => wpY_loop (fun r' v' => r' = r ∧ i_Rel (k + 3) u' v') v v1) u v1 := by
  have J := I
  obtain ⟨dk, dt, dc, dl, dr, sk, uk, ut, uc, ul, ur, tx, c0, c1, c2, cv, va, op, d, s, l, z, n, rfl, rfl, hd, hu, hn⟩ := I
  obtain ⟨h1, h2, h3, h4, h5, -⟩ := id hd
  by_cases b0 : v1 < 0
  · unfold wpX_loop
    exact xb_cost0 (Or.inl b0) (br_t rfl (br_t b0 ⟨rfl, J⟩))
  · by_cases b1 : 9 < v1
    · unfold wpX_loop
      exact xb_cost0 (Or.inr b1) (br_t rfl (br_f b0 (br_f (Int32.not_le.mpr b1) ⟨rfl, J⟩)))
    · have b2 := Int32.not_lt.mp b1
      by_cases g : 20 ≤ d
      · unfold wpX_loop
        exact xb_cost1 b0 b1 (br_f (by decide) (pk_lt d 20 (fun z => absurd z (by omega)) (fun _ => br_f b0 (br_t b2 (pk_eq d 20 (fun _ => ⟨rfl, J⟩) (fun z => absurd z (by omega)))))))
      · by_cases g2 : s < 1
        · unfold wpX_loop
          exact xb_cost1 b0 b1 (br_f (by decide) (pk_lt d 20 (fun _ => pk_le 1 s (fun z => absurd z (by omega)) (fun _ => br_f b0 (br_t b2 (pk_eq d 20 (fun z => absurd z (by omega)) (fun _ => pk_eq s 0 (fun _ => ⟨rfl, J⟩) (fun z => absurd z (by omega))))))) (fun z => absurd z (by omega))))
        · obtain ⟨t, rfl⟩ : ∃ t, s = t + 1 := ⟨s - 1, by omega⟩
          obtain ⟨q, hq, eq⟩ := xb_nat9 b0 b1
          refine xb_loop b0 b1 (by omega) h3 (br_f b0 (br_t b2 (pk_eq d 20 (fun z => absurd z (by omega)) (fun _ => pk_eq (t + 1) 0 (fun z => absurd z (by omega)) (fun _ => yb_note (by omega) (Int32.add_zero _) ⟨rfl, ?_⟩)))))
          exact ⟨_, _, _, _, _, _, _, _, _, _, _, _, _, _, _, _, _, _, d + 1, t + 1, l, z, n, rfl, rfl, wr_dr_s hd (by omega) (by omega) (by omega) (by omega) rfl ⟨q, hq, eq, fun z => absurd z (by decide)⟩ (Or.inr (Or.inr (Or.inr (Or.inr (Or.inr ⟨rfl, by omega, h5 t (by omega)⟩))))), hu, hn⟩
theorem i_vc_steps {k : Nat} {u : SX} {v : SY} (I : i_Rel k u v) (hk : k + 3 ≤ 1536) : wpX_steps (fun r => wpY_steps (fun r' => r' = r ∧ i_Rel (k + 3) u v) v) u := by
  have J := I
  obtain ⟨dk, dt, dc, dl, dr, sk, uk, ut, uc, ul, ur, tx, c0, c1, c2, cv, va, op, d, s, l, z, n, rfl, rfl, hd, hu, hn⟩ := I
  exact ⟨rfl, J⟩
theorem i_vc_depth {k : Nat} {u : SX} {v : SY} (I : i_Rel k u v) (hk : k + 3 ≤ 1536) : wpX_depth (fun r => wpY_depth (fun r' => r' = r ∧ i_Rel (k + 3) u v) v) u := by
  have J := I
  obtain ⟨dk, dt, dc, dl, dr, sk, uk, ut, uc, ul, ur, tx, c0, c1, c2, cv, va, op, d, s, l, z, n, rfl, rfl, hd, hu, hn⟩ := I
  exact ⟨rfl, J⟩
theorem i_vc_length {k : Nat} {u : SX} {v : SY} (I : i_Rel k u v) (hk : k + 3 ≤ 1536) : wpX_length (fun r => wpY_length (fun r' => r' = r ∧ i_Rel (k + 3) u v) v) u := by
  have J := I
  obtain ⟨dk, dt, dc, dl, dr, sk, uk, ut, uc, ul, ur, tx, c0, c1, c2, cv, va, op, d, s, l, z, n, rfl, rfl, hd, hu, hn⟩ := I
  exact ⟨rfl, J⟩
theorem i_vc_discard {k : Nat} {u : SX} {v : SY} (I : i_Rel k u v) (hk : k + 3 ≤ 1536) : wpX_discard (fun u' => wpY_discard (fun v' => i_Rel (k + 3) u' v') v) u := by
  obtain ⟨dk, dt, dc, dl, dr, sk, uk, ut, uc, ul, ur, tx, c0, c1, c2, cv, va, op, d, s, l, z, n, rfl, rfl, hd, hu, hn⟩ := I
  exact ⟨dk, dt, dc, dl, dr, sk, uk, ut, uc, ul, ur, tx, c0, c1, c2, cv, va, op, 0, 0, 0, z, n, rfl, rfl, wr_dr_0 _ _ _ _ _, hu, hn⟩
end
section
/-! define, type, put, shift -/
def wr_cp (a b : Nat → Int32) : Nat → (Nat → Int32)
  | 0 => a
  | s + 1 => upd (wr_cp a b s) s (b s)
theorem wr_cp_at (a b : Nat → Int32) : ∀ s t, t < s → wr_cp a b s t = b t
  | 0, t, h => absurd h (Nat.not_lt_zero t)
  | s + 1, t, h => by
    show upd (wr_cp a b s) s (b s) t = b t
    by_cases e : t = s
    · subst e
      exact pk_us
    · rw [pk_un e]
      exact wr_cp_at a b s t (by omega)
theorem xb_def {post : Int32 → SX → Prop} {dv st us tl : Int32} {dk dt dc dl dr sk uk ut uc ul ur tx c0 c1 c2 cv : Nat → Int32} {D : Nat} (hD : D ≤ 20)
    (K : post 0 (0, 0, 0, (nI D), tl, dk, dt, dc, dl, dr, sk, (wr_cp uk dk D), (wr_cp ut dt D), (wr_cp uc dc D), (wr_cp ul dl D), (wr_cp ur dr D), tx, c0, c1, c2, cv)) :
    ∀ d s f, s + d = D → d < f → wX_define_13 post (nI D) dv st us tl f (nI s) dk dt dc dl dr sk (wr_cp uk dk s) (wr_cp ut dt s) (wr_cp uc dc s) (wr_cp ul dl s) (wr_cp ur dr s) tx c0 c1 c2 cv := by
  intro d
  induction d with
  | zero =>
    intro s f h1 h2
    obtain ⟨f, rfl⟩ : ∃ f', f = f' + 1 := ⟨f - 1, by omega⟩
    have e : s = D := by omega
    subst e
    rw [wX_define_13]
    exact br_t (nI_le (by omega) (by omega)) K
  | succ d ih =>
    intro s f h1 h2
    obtain ⟨f, rfl⟩ : ∃ f', f = f' + 1 := ⟨f - 1, by omega⟩
    have e : (nI s).toNatClampNeg = s := nI_clamp (by omega)
    have w : vp_in (nI s) 20 := vp_in_nI (by omega) (by omega)
    rw [wX_define_13]
    exact br_f (nI_ge (by omega) (by omega)) ⟨w, w, nm_r (e' := wr_cp uk dk (s + 1)) (by rw [e]; rfl) ⟨w, w, nm_r (e' := wr_cp ut dt (s + 1)) (by rw [e]; rfl) ⟨w, w, nm_r (e' := wr_cp uc dc (s + 1)) (by rw [e]; rfl) ⟨w, w, nm_r (e' := wr_cp ul dl (s + 1)) (by rw [e]; rfl) ⟨w, w, nm_r (e' := wr_cp ur dr (s + 1)) (by rw [e]; rfl) (nm_r (nI_1 s) (ih (s + 1) f (by omega) (by omega)))⟩⟩⟩⟩⟩
theorem yb_def {post : Int32 → SY → Prop} {yd ya yz yn : Int32} {eo el ec po pl pc tx va op : Nat → Int32} {D : Nat} (hD : D ≤ 20)
    (K : post 0 (0, 0, 0, (nI D), yn, eo, el, ec, (wr_cp po eo D), (wr_cp pl el D), (wr_cp pc ec D), tx, va, op)) :
    ∀ d s f, s + d = D → d < f → wY_define_13 post (nI D) yd ya yz yn f (nI s) eo el ec (wr_cp po eo s) (wr_cp pl el s) (wr_cp pc ec s) tx va op := by
  intro d
  induction d with
  | zero =>
    intro s f h1 h2
    obtain ⟨f, rfl⟩ : ∃ f', f = f' + 1 := ⟨f - 1, by omega⟩
    have e : s = D := by omega
    subst e
    rw [wY_define_13]
    exact br_t (nI_le (by omega) (by omega)) K
  | succ d ih =>
    intro s f h1 h2
    obtain ⟨f, rfl⟩ : ∃ f', f = f' + 1 := ⟨f - 1, by omega⟩
    have e : (nI s).toNatClampNeg = s := nI_clamp (by omega)
    have w : vp_in (nI s) 20 := vp_in_nI (by omega) (by omega)
    rw [wY_define_13]
    exact br_f (nI_ge (by omega) (by omega)) ⟨w, w, nm_r (e' := wr_cp po eo (s + 1)) (by rw [e]; rfl) ⟨w, w, nm_r (e' := wr_cp pl el (s + 1)) (by rw [e]; rfl) ⟨w, w, nm_r (e' := wr_cp pc ec (s + 1)) (by rw [e]; rfl) (nm_r (nI_1 s) (ih (s + 1) f (by omega) (by omega)))⟩⟩⟩
theorem i_vc_define {k : Nat} {u : SX} {v : SY} (I : i_Rel k u v) (hk : k + 3 ≤ 1536) : wpX_define (fun r u' => wpY_define (fun r' v' => r' = r ∧ i_Rel (k + 3) u' v') v) u := by
  have J := I
  obtain ⟨dk, dt, dc, dl, dr, sk, uk, ut, uc, ul, ur, tx, c0, c1, c2, cv, va, op, d, s, l, z, n, rfl, rfl, hd, hu, hn⟩ := I
  obtain ⟨h1, h2, h3, h4, h5, h6⟩ := id hd
  refine pk_eq s 1 (fun e => ⟨d + 1, ?_⟩) (fun e => pk_eq s 1 (fun e' => absurd e' e) (fun _ => ⟨rfl, J⟩))
  have tl := wr_tp_le dk d
  refine xb_def h1 ?_ d 0 (d + 1) (Nat.zero_add d) (by omega)
  refine pk_eq s 1 (fun e => ⟨d + 1, ?_⟩) (fun e' => absurd e e')
  refine yb_def h1 ⟨rfl, ?_⟩ d 0 (d + 1) (Nat.zero_add d) (by omega)
  exact ⟨dk, dt, dc, dl, dr, sk, wr_cp uk dk d, wr_cp ut dt d, wr_cp uc dc d, wr_cp ul dl d, wr_cp ur dr d, tx, c0, c1, c2, cv, va, op, 0, 0, 0, d, n, rfl, rfl, wr_dr_0 _ _ _ _ _, wr_us_cg (by omega) h1 (wr_cp_at _ _ d) (wr_cp_at _ _ d) (wr_cp_at _ _ d) (wr_cp_at _ _ d) h6, hn⟩
theorem i_vc_type {k : Nat} {u : SX} {v : SY} (I : i_Rel k u v) (hk : k + 3 ≤ 1536) (v1 : Int32) : wpX_type (fun r u' => wpY_type (fun r' v' => r' = r ∧ i_Rel (k + 3) u' v') v v1) u v1 := by
  have J := I
  obtain ⟨dk, dt, dc, dl, dr, sk, uk, ut, uc, ul, ur, tx, c0, c1, c2, cv, va, op, d, s, l, z, n, rfl, rfl, hd, hu, hn⟩ := I
  unfold wpX_type
  by_cases a0 : v1 < 0
  · exact xb_let0 (Or.inl a0) (br_t rfl (br_t a0 ⟨rfl, J⟩))
  · by_cases a1 : 2 < v1
    · exact xb_let0 (Or.inr a1) (br_t rfl (br_f a0 (br_f (Int32.not_le.mpr a1) ⟨rfl, J⟩)))
    · have a2 := Int32.not_lt.mp a1
      refine xb_let1 a0 a1 (br_f (by decide) (pk_lt n 8 (fun g => ?_) (fun g => br_f a0 (br_t a2 (pk_eq n 8 (fun _ => ⟨rfl, J⟩) (fun z => absurd z (by omega)))))))
      have e : (nI n).toNatClampNeg = n := nI_clamp (by omega)
      have w : vp_in (nI n) 8 := vp_in_nI g (by omega)
      refine ⟨w, nm_r (e' := upd tx n v1) (by rw [e]) (nm_r (nI_1 n) (br_f a0 (br_t a2 (pk_eq n 8 (fun z => absurd z (by omega)) (fun _ => ⟨w, nm_r (e' := upd tx n v1) (by rw [e]) (nm_r (nI_1 n) ⟨rfl, ?_⟩)⟩)))))⟩
      exact ⟨dk, dt, dc, dl, dr, sk, uk, ut, uc, ul, ur, upd tx n v1, c0, c1, c2, cv, va, op, d, s, l, z, n + 1, rfl, rfl, hd, hu, by omega⟩
theorem i_vc_put {k : Nat} {u : SX} {v : SY} (I : i_Rel k u v) (hk : k + 3 ≤ 1536) (v1 : Int32) (v2 : Int32) : wpX_put (fun r u' => wpY_put (fun r' v' => r' = r ∧ i_Rel (k + 3) u' v') v v1 v2) u v1 v2 := by
  have J := I
  obtain ⟨dk, dt, dc, dl, dr, sk, uk, ut, uc, ul, ur, tx, c0, c1, c2, cv, va, op, d, s, l, z, n, rfl, rfl, hd, hu, hn⟩ := I
  by_cases b0 : v1 < 0
  · exact br_t b0 (br_t b0 ⟨rfl, J⟩)
  · by_cases b1 : nI n ≤ v1
    · exact br_f b0 (br_t b1 (br_f b0 (br_t b1 ⟨rfl, J⟩)))
    · refine br_f b0 (br_f b1 ?_)
      by_cases a0 : v2 < 0
      · exact xb_let0 (Or.inl a0) (br_t rfl (br_f b0 (br_f b1 (br_t a0 ⟨rfl, J⟩))))
      · by_cases a1 : 2 < v2
        · exact xb_let0 (Or.inr a1) (br_t rfl (br_f b0 (br_f b1 (br_f a0 (br_f (Int32.not_le.mpr a1) ⟨rfl, J⟩)))))
        · have a2 := Int32.not_lt.mp a1
          obtain ⟨j, hj, rfl⟩ := nI_of b0
          have b2 : j < n := by
            rw [nI_leI (by omega) (by omega)] at b1
            omega
          have e : (nI j).toNatClampNeg = j := nI_clamp (by omega)
          have w : vp_in (nI j) 8 := vp_in_nI (by omega) (by omega)
          refine xb_let1 a0 a1 (br_f (by decide) ⟨w, nm_r (e' := tx j) (by rw [e]) ⟨w, nm_r (e' := upd tx j v2) (by rw [e]) (br_f b0 (br_f b1 (br_f a0 (br_t a2 ⟨w, nm_r (e' := tx j) (by rw [e]) ⟨w, nm_r (e' := upd tx j v2) (by rw [e]) ⟨rfl, ?_⟩⟩⟩))))⟩⟩)
          exact ⟨dk, dt, dc, dl, dr, sk, uk, ut, uc, ul, ur, upd tx j v2, c0, c1, c2, cv, va, op, d, s, l, z, n, rfl, rfl, hd, hu, hn⟩
def wr_sf (a : Nat → Int32) : Nat → (Nat → Int32)
  | 0 => a
  | s + 1 => upd (wr_sf a s) s (wr_sf a s (s + 1))
theorem xb_sh {post : Int32 → SX → Prop} {ds dv st us x1 : Int32} {dk dt dc dl dr sk uk ut uc ul ur tx c0 c1 c2 cv : Nat → Int32} {n : Nat} (hn : n + 1 ≤ 8)
    (K : post x1 (ds, dv, st, us, (nI n), dk, dt, dc, dl, dr, sk, uk, ut, uc, ul, ur, (wr_sf tx n), c0, c1, c2, cv)) :
    ∀ d s f, s + d = n → d < f → wX_shift_20 post x1 ds dv st us (nI (n + 1)) f (nI (s + 1)) dk dt dc dl dr sk uk ut uc ul ur (wr_sf tx s) c0 c1 c2 cv := by
  intro d
  induction d with
  | zero =>
    intro s f h1 h2
    obtain ⟨f, rfl⟩ : ∃ f', f = f' + 1 := ⟨f - 1, by omega⟩
    have e : s = n := by omega
    subst e
    rw [wX_shift_20]
    exact br_t (nI_le (by omega) (by omega)) (nm_r (nI_pred s) K)
  | succ d ih =>
    intro s f h1 h2
    obtain ⟨f, rfl⟩ : ∃ f', f = f' + 1 := ⟨f - 1, by omega⟩
    have e : (nI (s + 1)).toNatClampNeg = s + 1 := nI_clamp (by omega)
    have w : vp_in (nI (s + 1)) 8 := vp_in_nI (by omega) (by omega)
    rw [wX_shift_20]
    exact br_f (nI_ge (by omega) (by omega)) ⟨w, by rw [nI_pred]; exact vp_in_nI (by omega) (by omega), nm_r (e' := wr_sf tx (s + 1)) (by rw [nI_pred, e, nI_clamp (by omega)]; rfl) (nm_r (nI_1 (s + 1)) (ih (s + 1) f (by omega) (by omega)))⟩
theorem yb_sh {post : Int32 → SY → Prop} {ys yd ya yz x1 : Int32} {eo el ec po pl pc tx va op : Nat → Int32} {n : Nat} (hn : n + 1 ≤ 8)
    (K : post x1 (ys, yd, ya, yz, (nI n), eo, el, ec, po, pl, pc, (wr_sf tx n), va, op)) :
    ∀ d s f, s + d = n → d < f → wY_shift_19 post x1 ys yd ya yz (nI (n + 1)) f (nI (s + 1)) eo el ec po pl pc (wr_sf tx s) va op := by
  intro d
  induction d with
  | zero =>
    intro s f h1 h2
    obtain ⟨f, rfl⟩ : ∃ f', f = f' + 1 := ⟨f - 1, by omega⟩
    have e : s = n := by omega
    subst e
    rw [wY_shift_19]
    exact br_t (nI_le (by omega) (by omega)) (nm_r (nI_pred s) K)
  | succ d ih =>
    intro s f h1 h2
    obtain ⟨f, rfl⟩ : ∃ f', f = f' + 1 := ⟨f - 1, by omega⟩
    have e : (nI (s + 1)).toNatClampNeg = s + 1 := nI_clamp (by omega)
    have w : vp_in (nI (s + 1)) 8 := vp_in_nI (by omega) (by omega)
    rw [wY_shift_19]
    exact br_f (nI_ge (by omega) (by omega)) ⟨w, by rw [nI_pred]; exact vp_in_nI (by omega) (by omega), nm_r (e' := wr_sf tx (s + 1)) (by rw [nI_pred, e, nI_clamp (by omega)]; rfl) (nm_r (nI_1 (s + 1)) (ih (s + 1) f (by omega) (by omega)))⟩
theorem i_vc_shift {k : Nat} {u : SX} {v : SY} (I : i_Rel k u v) (hk : k + 3 ≤ 1536) : wpX_shift (fun r u' => wpY_shift (fun r' v' => r' = r ∧ i_Rel (k + 3) u' v') v) u := by
  have J := I
  obtain ⟨dk, dt, dc, dl, dr, sk, uk, ut, uc, ul, ur, tx, c0, c1, c2, cv, va, op, d, s, l, z, n, rfl, rfl, hd, hu, hn⟩ := I
  by_cases g : n = 0
  · exact pk_le 1 n (fun z => absurd z (by omega)) (fun _ => pk_eq n 0 (fun _ => ⟨rfl, J⟩) (fun z => absurd g z))
  · obtain ⟨n, rfl⟩ : ∃ n', n = n' + 1 := ⟨n - 1, by omega⟩
    refine pk_le 1 (n + 1) (fun _ => nm_e ⟨n + 1, ?_⟩) (fun z => absurd z (by omega))
    refine xb_sh hn ?_ n 0 (n + 1) (Nat.zero_add n) (by omega)
    refine pk_eq (n + 1) 0 (fun z => absurd z (by omega)) (fun _ => nm_e ⟨n + 1, ?_⟩)
    refine yb_sh hn ⟨rfl, ?_⟩ n 0 (n + 1) (Nat.zero_add n) (by omega)
    exact ⟨dk, dt, dc, dl, dr, sk, uk, ut, uc, ul, ur, wr_sf tx n, c0, c1, c2, cv, va, op, d, s, l, z, n, rfl, rfl, hd, hu, by omega⟩
end
section
/-! the questions -/
theorem wr_x0y (v : wr_C) : wr_x0 v = wr_y 0 v := by
  match v with
  | none => rfl
  | some (c, l, h) => rfl
section
variable {post : Int32 → Prop} {ds dv st us ys yd ya yz p0 p1 : Int32} {dk dt dc dl dr sk uk ut uc ul ur tx c0 c1 c2 cv eo el ec po pl pc va op : Nat → Int32} {n : Nat}
theorem xc_win0 (h : p0 < 0 ∨ p1 < p0 ∨ nI n < p1) (k : post 0) : wpX_isWindow post (ds, dv, st, us, (nI n), dk, dt, dc, dl, dr, sk, uk, ut, uc, ul, ur, tx, c0, c1, c2, cv) p0 p1 := by
  by_cases a : p0 < 0
  · exact br_t a k
  · by_cases b : p1 < p0
    · exact br_f a (br_t b k)
    · exact br_f a (br_f b (br_t ((h.resolve_left a).resolve_left b) k))
theorem xc_win1 {i j : Nat} (hi : i ≤ j) (hj : j ≤ n) (hn : n ≤ 8) (k : post 1) : wpX_isWindow post (ds, dv, st, us, (nI n), dk, dt, dc, dl, dr, sk, uk, ut, uc, ul, ur, tx, c0, c1, c2, cv) (nI i) (nI j) :=
  br_f (nI_pos (by omega)) (br_f (nI_nlt (by omega) (by omega)) (br_f (nI_nlt (by omega) (by omega)) k))
theorem yc_win0 (h : p0 < 0 ∨ p1 < p0 ∨ nI n < p1) (k : post 0) : wpY_window post (ys, yd, ya, yz, (nI n), eo, el, ec, po, pl, pc, tx, va, op) p0 p1 := by
  by_cases a : p0 < 0
  · exact br_t a k
  · by_cases b : p1 < p0
    · exact br_f a (br_t b k)
    · exact br_f a (br_f b (br_t ((h.resolve_left a).resolve_left b) k))
theorem yc_win1 {i j : Nat} (hi : i ≤ j) (hj : j ≤ n) (hn : n ≤ 8) (k : post 1) : wpY_window post (ys, yd, ya, yz, (nI n), eo, el, ec, po, pl, pc, tx, va, op) (nI i) (nI j) :=
  br_f (nI_pos (by omega)) (br_f (nI_nlt (by omega) (by omega)) (br_f (nI_nlt (by omega) (by omega)) k))
end
theorem xc_ij {p0 p1 : Int32} {n : Nat} (hn : n ≤ 8) (h : ¬ (p0 < 0 ∨ p1 < p0 ∨ nI n < p1)) : ∃ i j, i ≤ j ∧ j ≤ n ∧ p0 = nI i ∧ p1 = nI j := by
  have a : ¬ p0 < 0 := fun z => h (Or.inl z)
  have b : ¬ p1 < p0 := fun z => h (Or.inr (Or.inl z))
  have c : ¬ nI n < p1 := fun z => h (Or.inr (Or.inr z))
  obtain ⟨i, hi, rfl⟩ := nI_of a
  have a' : ¬ p1 < 0 := fun z => b (Int32.lt_of_lt_of_le z (nI_pos' hi))
  obtain ⟨j, hj, rfl⟩ := nI_of a'
  rw [nI_ltI (by omega) (by omega)] at b c
  exact ⟨i, j, by omega, by omega, rfl, rfl⟩
theorem i_vc_ways {k : Nat} {u : SX} {v : SY} (I : i_Rel k u v) (hk : k + 3 ≤ 1536) (v1 : Int32) (v2 : Int32) : wpX_ways (fun r u' => wpY_ways (fun r' v' => r' = r ∧ i_Rel (k + 3) u' v') v v1 v2) u v1 v2 := by
  have J := I
  obtain ⟨dk, dt, dc, dl, dr, sk, uk, ut, uc, ul, ur, tx, c0, c1, c2, cv, va, op, d, s, l, z, n, rfl, rfl, hd, hu, hn⟩ := I
  obtain ⟨u1, u2, u3⟩ := id hu
  unfold wpX_ways
  by_cases g : v1 < 0 ∨ v2 < v1 ∨ nI n < v2
  · exact xc_win0 g (br_t rfl (by unfold wpY_ways; exact yc_win0 g (br_t rfl ⟨rfl, J⟩)))
  · obtain ⟨i, j, hi, hj, rfl, rfl⟩ := xc_ij hn g
    refine xc_win1 hi hj hn (br_f (by decide) (xa_read hn hu (fun d0 d1 d2 hX => xa_ans u1 ⟨vp_in_nI (by omega) (by omega), ?_⟩)))
    unfold wpY_ways
    refine yc_win1 hi hj hn (br_f (by decide) (ya_read (Or.inl rfl) hn hu (fun va' op' hY => ya_whole u1 u2 hn hi hj hY ⟨?_, ?_⟩)))
    · rw [nI_clamp (by omega), (hX (z - 1) i j hi hj (Or.inl (by omega))).1, wr_x0y]
    · exact ⟨dk, dt, dc, dl, dr, sk, uk, ut, uc, ul, ur, tx, d0, d1, d2, cv, va', op', d, s, l, z, n, rfl, rfl, hd, hu, hn⟩
theorem i_vc_least {k : Nat} {u : SX} {v : SY} (I : i_Rel k u v) (hk : k + 3 ≤ 1536) (v1 : Int32) (v2 : Int32) : wpX_least (fun r u' => wpY_least (fun r' v' => r' = r ∧ i_Rel (k + 3) u' v') v v1 v2) u v1 v2 := by
  have J := I
  obtain ⟨dk, dt, dc, dl, dr, sk, uk, ut, uc, ul, ur, tx, c0, c1, c2, cv, va, op, d, s, l, z, n, rfl, rfl, hd, hu, hn⟩ := I
  obtain ⟨u1, u2, u3⟩ := id hu
  unfold wpX_least
  by_cases g : v1 < 0 ∨ v2 < v1 ∨ nI n < v2
  · exact xc_win0 g (br_t rfl (by unfold wpY_least wpY_cost; exact yc_win0 g (br_t rfl ⟨rfl, J⟩)))
  · obtain ⟨i, j, hi, hj, rfl, rfl⟩ := xc_ij hn g
    refine xc_win1 hi hj hn (br_f (by decide) (xa_read hn hu (fun d0 d1 d2 hX => xa_ans u1 ⟨vp_in_nI (by omega) (by omega), ?_⟩)))
    unfold wpY_least wpY_cost
    rw [nI_clamp (by omega), (hX (z - 1) i j hi hj (Or.inl (by omega))).2.1]
    have b := wr_V_b (Lt := ut) (tx := tx) u3 u2 (s := z - 1) (by omega) hi (by omega)
    refine yc_win1 hi hj hn (br_f (by decide) (ya_read (Or.inr (Or.inl rfl)) hn hu (fun va' op' hY => ya_whole u1 u2 hn hi hj hY ?_)))
    have R : i_Rel (k + 3) ((nI d), (nI l), (nI s), (nI z), (nI n), dk, dt, dc, dl, dr, sk, uk, ut, uc, ul, ur, tx, d0, d1, d2, cv) ((nI d), (nI s), (nI l), (nI z), (nI n), dk, dt, dc, uk, ut, uc, tx, va', op') := ⟨dk, dt, dc, dl, dr, sk, uk, ut, uc, ul, ur, tx, d0, d1, d2, cv, va', op', d, s, l, z, n, rfl, rfl, hd, hu, hn⟩
    cases hv : wr_V uk ut uc tx (z - 1) i j with
    | none => exact br_f (by decide) ⟨rfl, R⟩
    | some q =>
      obtain ⟨c, a, e⟩ := q
      rw [hv] at b
      have b1 : a ≤ 1440 := b.1
      exact br_t (nI_pos' (n := a) (by omega)) ⟨rfl, R⟩
theorem i_vc_most {k : Nat} {u : SX} {v : SY} (I : i_Rel k u v) (hk : k + 3 ≤ 1536) (v1 : Int32) (v2 : Int32) : wpX_most (fun r u' => wpY_most (fun r' v' => r' = r ∧ i_Rel (k + 3) u' v') v v1 v2) u v1 v2 := by
  have J := I
  obtain ⟨dk, dt, dc, dl, dr, sk, uk, ut, uc, ul, ur, tx, c0, c1, c2, cv, va, op, d, s, l, z, n, rfl, rfl, hd, hu, hn⟩ := I
  obtain ⟨u1, u2, u3⟩ := id hu
  unfold wpX_most
  by_cases g : v1 < 0 ∨ v2 < v1 ∨ nI n < v2
  · exact xc_win0 g (br_t rfl (by unfold wpY_most wpY_cost; exact yc_win0 g (br_t rfl ⟨rfl, J⟩)))
  · obtain ⟨i, j, hi, hj, rfl, rfl⟩ := xc_ij hn g
    refine xc_win1 hi hj hn (br_f (by decide) (xa_read hn hu (fun d0 d1 d2 hX => xa_ans u1 ⟨vp_in_nI (by omega) (by omega), ?_⟩)))
    unfold wpY_most wpY_cost
    rw [nI_clamp (by omega), (hX (z - 1) i j hi hj (Or.inl (by omega))).2.2]
    have b := wr_V_b (Lt := ut) (tx := tx) u3 u2 (s := z - 1) (by omega) hi (by omega)
    refine yc_win1 hi hj hn (br_f (by decide) (ya_read (Or.inr (Or.inr rfl)) hn hu (fun va' op' hY => ya_whole u1 u2 hn hi hj hY ?_)))
    have R : i_Rel (k + 3) ((nI d), (nI l), (nI s), (nI z), (nI n), dk, dt, dc, dl, dr, sk, uk, ut, uc, ul, ur, tx, d0, d1, d2, cv) ((nI d), (nI s), (nI l), (nI z), (nI n), dk, dt, dc, uk, ut, uc, tx, va', op') := ⟨dk, dt, dc, dl, dr, sk, uk, ut, uc, ul, ur, tx, d0, d1, d2, cv, va', op', d, s, l, z, n, rfl, rfl, hd, hu, hn⟩
    cases hv : wr_V uk ut uc tx (z - 1) i j with
    | none => exact br_f (by decide) ⟨rfl, R⟩
    | some q =>
      obtain ⟨c, e, a⟩ := q
      rw [hv] at b
      have b1 : a ≤ 1440 := b.2
      exact br_t (nI_pos' (n := a) (by omega)) ⟨rfl, R⟩
/-- sums over the windows of a start, and over all starts -/
def wr_rw (g : Nat → Nat → Int32 → Int32) (i : Nat) : Nat → Nat → Int32 → Int32
  | 0, _, a => a
  | d + 1, j, a => wr_rw g i d (j + 1) (g i j a)
def wr_al (g : Nat → Nat → Int32 → Int32) (n : Nat) : Nat → Nat → Int32 → Int32
  | 0, _, a => a
  | d + 1, i, a => wr_al g n d (i + 1) (wr_rw g i (n + 1 - i) i a)
def wr_gw (V : Nat → Nat → wr_C) (i j : Nat) (a : Int32) : Int32 :=
  match V i j with
  | none => a
  | some _ => a + 1
def wr_ga (V : Nat → Nat → wr_C) (i j : Nat) (a : Int32) : Int32 := a + wr_x0 (V i j)
/-- the longest: the last j below i + d whose window has a reading -/
def wr_lg (V : Nat → Nat → wr_C) (i : Nat) : Nat → Int32
  | 0 => -4
  | d + 1 => match V i (i + d) with
    | none => wr_lg V i d
    | some _ => nI (i + d)
section
variable {ds dv st us tl : Int32} {dk dt dc dl dr sk uk ut uc ul ur tx c0 c1 c2 cv : Nat → Int32} {V : Nat → Nat → Nat → wr_C} {n z : Nat} {post : Int32 → SX → Prop}
theorem xd_w18 {J8 : Int32 → Int32 → Prop} {i : Nat} (eZ : us = nI z) (eN : tl = nI n) (h1 : 1 ≤ z) (h2 : z ≤ 20) (hn : n ≤ 8) (hi : i ≤ n) (bV : ∀ i j, i ≤ j → j ≤ n → wr_bd 1440 (V (z - 1) i j)) (hX : wr_X V n z (n + 1) 0 c0 c1 c2) :
    ∀ d j f a, j + d = n + 1 → i ≤ j → d < f → J8 (wr_rw (wr_gw (V (z - 1))) i d j a) (nI (i + 1)) → wX_windows_18 post J8 (nI i) ds dv st us tl dk dt dc dl dr sk uk ut uc ul ur tx c0 c1 c2 cv f a (nI j) := by
  subst eZ eN
  intro d
  induction d with
  | zero =>
    intro j f a e hij hf h
    obtain ⟨f, rfl⟩ : ∃ f', f = f' + 1 := ⟨f - 1, by omega⟩
    rw [wX_windows_18]
    exact br_t (nI_lt (by omega) (by omega)) (nm_r (nI_1 i) h)
  | succ d ih =>
    intro j f a e hij hf h
    obtain ⟨f, rfl⟩ : ∃ f', f = f' + 1 := ⟨f - 1, by omega⟩
    rw [wX_windows_18]
    have hx := (hX (z - 1) i j hij (by omega) (Or.inl (by omega))).2.1
    refine br_f (nI_nlt (by omega) (by omega)) (xa_ans h1 ⟨vp_in_nI (by omega) (by omega), ?_⟩)
    rw [nI_clamp (by omega), hx]
    have h' : J8 (wr_rw (wr_gw (V (z - 1))) i d (j + 1) (wr_gw (V (z - 1)) i j a)) (nI (i + 1)) := h
    have b := bV i j hij (by omega)
    unfold wr_gw at h'
    cases hv : V (z - 1) i j with
    | none =>
      rw [hv] at h'
      exact br_t rfl (nm_r (nI_1 j) (ih (j + 1) f a (by omega) (by omega) (by omega) h'))
    | some q =>
      obtain ⟨c, l, e⟩ := q
      rw [hv] at h' b
      have b1 : l ≤ 1440 := b.1
      exact br_f (wr_n4 (l := l) (by omega)) (nm_e (nm_r (nI_1 j) (ih (j + 1) f (a + 1) (by omega) (by omega) (by omega) h')))
theorem xd_w8 (eZ : us = nI z) (eN : tl = nI n) (h1 : 1 ≤ z) (h2 : z ≤ 20) (hn : n ≤ 8) (bV : ∀ i j, i ≤ j → j ≤ n → wr_bd 1440 (V (z - 1) i j)) (hX : wr_X V n z (n + 1) 0 c0 c1 c2) :
    ∀ d i f a, i + d = n + 1 → d < f → post (wr_al (wr_gw (V (z - 1))) n d i a) (ds, dv, st, us, tl, dk, dt, dc, dl, dr, sk, uk, ut, uc, ul, ur, tx, c0, c1, c2, cv) → wX_windows_8 post ds dv st us tl dk dt dc dl dr sk uk ut uc ul ur tx c0 c1 c2 cv f a (nI i) := by
  intro d
  induction d with
  | zero =>
    intro i f a e hf h
    obtain ⟨f, rfl⟩ : ∃ f', f = f' + 1 := ⟨f - 1, by omega⟩
    have nl : tl < nI i := by rw [eN]; exact nI_lt (by omega) (by omega)
    rw [wX_windows_8]
    exact br_t nl h
  | succ d ih =>
    intro i f a e hf h
    obtain ⟨f, rfl⟩ : ∃ f', f = f' + 1 := ⟨f - 1, by omega⟩
    have nl : ¬ tl < nI i := by rw [eN]; exact nI_nlt (by omega) (by omega)
    rw [wX_windows_8]
    exact br_f nl ⟨n + 3, xd_w18 eZ eN h1 h2 hn (by omega) bV hX (n + 1 - i) i (n + 3) a (by omega) (Nat.le_refl _) (by omega) (ih (i + 1) f _ (by omega) (by omega) h)⟩
theorem xd_a18 {J8 : Int32 → Int32 → Prop} {i : Nat} (eZ : us = nI z) (eN : tl = nI n) (h1 : 1 ≤ z) (h2 : z ≤ 20) (hn : n ≤ 8) (hi : i ≤ n) (hX : wr_X V n z (n + 1) 0 c0 c1 c2) :
    ∀ d j f a, j + d = n + 1 → i ≤ j → d < f → J8 (wr_rw (wr_ga (V (z - 1))) i d j a) (nI (i + 1)) → wX_allWays_18 post J8 (nI i) ds dv st us tl dk dt dc dl dr sk uk ut uc ul ur tx c0 c1 c2 cv f a (nI j) := by
  subst eZ eN
  intro d
  induction d with
  | zero =>
    intro j f a e hij hf h
    obtain ⟨f, rfl⟩ : ∃ f', f = f' + 1 := ⟨f - 1, by omega⟩
    rw [wX_allWays_18]
    exact br_t (nI_lt (by omega) (by omega)) (nm_r (nI_1 i) h)
  | succ d ih =>
    intro j f a e hij hf h
    obtain ⟨f, rfl⟩ : ∃ f', f = f' + 1 := ⟨f - 1, by omega⟩
    rw [wX_allWays_18]
    have hx := (hX (z - 1) i j hij (by omega) (Or.inl (by omega))).1
    refine br_f (nI_nlt (by omega) (by omega)) (xa_ans h1 ⟨vp_in_nI (by omega) (by omega), ?_⟩)
    rw [nI_clamp (by omega), hx]
    exact nm_e (nm_r (nI_1 j) (ih (j + 1) f _ (by omega) (by omega) (by omega) h))
theorem xd_a8 (eZ : us = nI z) (eN : tl = nI n) (h1 : 1 ≤ z) (h2 : z ≤ 20) (hn : n ≤ 8) (hX : wr_X V n z (n + 1) 0 c0 c1 c2) :
    ∀ d i f a, i + d = n + 1 → d < f → post (wr_al (wr_ga (V (z - 1))) n d i a) (ds, dv, st, us, tl, dk, dt, dc, dl, dr, sk, uk, ut, uc, ul, ur, tx, c0, c1, c2, cv) → wX_allWays_8 post ds dv st us tl dk dt dc dl dr sk uk ut uc ul ur tx c0 c1 c2 cv f a (nI i) := by
  intro d
  induction d with
  | zero =>
    intro i f a e hf h
    obtain ⟨f, rfl⟩ : ∃ f', f = f' + 1 := ⟨f - 1, by omega⟩
    have nl : tl < nI i := by rw [eN]; exact nI_lt (by omega) (by omega)
    rw [wX_allWays_8]
    exact br_t nl h
  | succ d ih =>
    intro i f a e hf h
    obtain ⟨f, rfl⟩ : ∃ f', f = f' + 1 := ⟨f - 1, by omega⟩
    have nl : ¬ tl < nI i := by rw [eN]; exact nI_nlt (by omega) (by omega)
    rw [wX_allWays_8]
    exact br_f nl ⟨n + 3, xd_a18 eZ eN h1 h2 hn (by omega) hX (n + 1 - i) i (n + 3) a (by omega) (Nat.le_refl _) (by omega) (ih (i + 1) f _ (by omega) (by omega) h)⟩
theorem wr_dn {i : Nat} (h : i ≤ 100) : nI i + (-1) < nI i := by
  cases i with
  | zero => decide
  | succ i =>
    rw [pk_m1]
    exact nI_lt (by omega) (by omega)
theorem xd_l23 {i : Nat} (eZ : us = nI z) (h1 : 1 ≤ z) (h2 : z ≤ 20) (hn : n ≤ 8) (bV : ∀ i j, i ≤ j → j ≤ n → wr_bd 1440 (V (z - 1) i j)) (hX : wr_X V n z (n + 1) 0 c0 c1 c2) :
    ∀ d f, i + d ≤ n + 1 → d < f → post (wr_lg (V (z - 1)) i d) (ds, dv, st, us, tl, dk, dt, dc, dl, dr, sk, uk, ut, uc, ul, ur, tx, c0, c1, c2, cv) → wX_longest_23 post (nI i) ds dv st us tl dk dt dc dl dr sk uk ut uc ul ur tx c0 c1 c2 cv f (nI (i + d) + (-1)) := by
  subst eZ
  intro d
  induction d with
  | zero =>
    intro f e hf h
    obtain ⟨f, rfl⟩ : ∃ f', f = f' + 1 := ⟨f - 1, by omega⟩
    rw [wX_longest_23]
    exact br_t (wr_dn (by omega)) h
  | succ d ih =>
    intro f e hf h
    obtain ⟨f, rfl⟩ : ∃ f', f = f' + 1 := ⟨f - 1, by omega⟩
    rw [wX_longest_23, show i + (d + 1) = (i + d) + 1 from rfl, pk_m1]
    have hx := (hX (z - 1) i (i + d) (by omega) (by omega) (Or.inl (by omega))).2.1
    refine br_f (nI_nlt (by omega) (by omega)) (xa_ans h1 ⟨vp_in_nI (by omega) (by omega), ?_⟩)
    rw [nI_clamp (n := (z - 1) * 81 + i * 9 + (i + d)) (by omega), hx]
    have b := bV i (i + d) (by omega) (by omega)
    unfold wr_lg at h
    cases hv : V (z - 1) i (i + d) with
    | none =>
      rw [hv] at h
      exact br_t rfl (nm_e (ih f (by omega) (by omega) h))
    | some q =>
      obtain ⟨c, l, e⟩ := q
      rw [hv] at h b
      have b1 : l ≤ 1440 := b.1
      exact br_f (wr_n4 (l := l) (by omega)) h
end
section
variable {ys yd ya yz yn : Int32} {eo el ec po pl pc tx va op : Nat → Int32} {V : Nat → Nat → Nat → wr_C} {n z : Nat} {post : Int32 → SY → Prop}
theorem yd_w19 {J9 : Int32 → Int32 → Prop} {i : Nat} (eZ : yz = nI z) (eN : yn = nI n) (h1 : 1 ≤ z) (h2 : z ≤ 20) (hn : n ≤ 8) (hi : i ≤ n) (bV : ∀ i j, i ≤ j → j ≤ n → wr_bd 1440 (V (z - 1) i j)) (hY : wr_Y V 1 n z (n + 1) 0 va) :
    ∀ d j f a, j + d = n + 1 → i ≤ j → d < f → J9 (wr_rw (wr_gw (V (z - 1))) i d j a) (nI (i + 1)) → wY_windows_19 post J9 (nI i) ys yd ya yz yn eo el ec po pl pc tx va op f a (nI j) := by
  subst eZ eN
  intro d
  induction d with
  | zero =>
    intro j f a e hij hf h
    obtain ⟨f, rfl⟩ : ∃ f', f = f' + 1 := ⟨f - 1, by omega⟩
    rw [wY_windows_19]
    exact br_t (nI_lt (by omega) (by omega)) (nm_r (nI_1 i) h)
  | succ d ih =>
    intro j f a e hij hf h
    obtain ⟨f, rfl⟩ : ∃ f', f = f' + 1 := ⟨f - 1, by omega⟩
    rw [wY_windows_19]
    refine br_f (nI_nlt (by omega) (by omega)) (ya_whole h1 h2 hn hij (by omega) hY ?_)
    have h' : J9 (wr_rw (wr_gw (V (z - 1))) i d (j + 1) (wr_gw (V (z - 1)) i j a)) (nI (i + 1)) := h
    have b := bV i j hij (by omega)
    unfold wr_gw at h'
    cases hv : V (z - 1) i j with
    | none =>
      rw [hv] at h'
      exact br_t (by decide) (nm_r (nI_1 j) (ih (j + 1) f a (by omega) (by omega) (by omega) h'))
    | some q =>
      obtain ⟨c, l, e⟩ := q
      rw [hv] at h' b
      have b1 : l ≤ 1440 := b.1
      exact br_f (nI_pos (n := l) (by omega)) (nm_e (nm_r (nI_1 j) (ih (j + 1) f (a + 1) (by omega) (by omega) (by omega) h')))
theorem yd_w9 (eZ : yz = nI z) (eN : yn = nI n) (h1 : 1 ≤ z) (h2 : z ≤ 20) (hn : n ≤ 8) (bV : ∀ i j, i ≤ j → j ≤ n → wr_bd 1440 (V (z - 1) i j)) (hY : wr_Y V 1 n z (n + 1) 0 va) :
    ∀ d i f a, i + d = n + 1 → d < f → post (wr_al (wr_gw (V (z - 1))) n d i a) (ys, yd, ya, yz, yn, eo, el, ec, po, pl, pc, tx, va, op) → wY_windows_9 post ys yd ya yz yn eo el ec po pl pc tx va op f a (nI i) := by
  intro d
  induction d with
  | zero =>
    intro i f a e hf h
    obtain ⟨f, rfl⟩ : ∃ f', f = f' + 1 := ⟨f - 1, by omega⟩
    have nl : yn < nI i := by rw [eN]; exact nI_lt (by omega) (by omega)
    rw [wY_windows_9]
    exact br_t nl h
  | succ d ih =>
    intro i f a e hf h
    obtain ⟨f, rfl⟩ : ∃ f', f = f' + 1 := ⟨f - 1, by omega⟩
    have nl : ¬ yn < nI i := by rw [eN]; exact nI_nlt (by omega) (by omega)
    rw [wY_windows_9]
    exact br_f nl ⟨n + 3, yd_w19 eZ eN h1 h2 hn (by omega) bV hY (n + 1 - i) i (n + 3) a (by omega) (Nat.le_refl _) (by omega) (ih (i + 1) f _ (by omega) (by omega) h)⟩
theorem yd_a19 {J9 : Int32 → Int32 → Prop} {i : Nat} (eZ : yz = nI z) (eN : yn = nI n) (h1 : 1 ≤ z) (h2 : z ≤ 20) (hn : n ≤ 8) (hi : i ≤ n) (hY : wr_Y V 0 n z (n + 1) 0 va) :
    ∀ d j f a, j + d = n + 1 → i ≤ j → d < f → J9 (wr_rw (wr_ga (V (z - 1))) i d j a) (nI (i + 1)) → wY_allWays_19 post J9 (nI i) ys yd ya yz yn eo el ec po pl pc tx va op f a (nI j) := by
  subst eZ eN
  intro d
  induction d with
  | zero =>
    intro j f a e hij hf h
    obtain ⟨f, rfl⟩ : ∃ f', f = f' + 1 := ⟨f - 1, by omega⟩
    rw [wY_allWays_19]
    exact br_t (nI_lt (by omega) (by omega)) (nm_r (nI_1 i) h)
  | succ d ih =>
    intro j f a e hij hf h
    obtain ⟨f, rfl⟩ : ∃ f', f = f' + 1 := ⟨f - 1, by omega⟩
    rw [wY_allWays_19]
    refine br_f (nI_nlt (by omega) (by omega)) (ya_whole h1 h2 hn hij (by omega) hY ?_)
    rw [← wr_x0y]
    exact nm_e (nm_r (nI_1 j) (ih (j + 1) f _ (by omega) (by omega) (by omega) h))
theorem yd_a9 (eZ : yz = nI z) (eN : yn = nI n) (h1 : 1 ≤ z) (h2 : z ≤ 20) (hn : n ≤ 8) (hY : wr_Y V 0 n z (n + 1) 0 va) :
    ∀ d i f a, i + d = n + 1 → d < f → post (wr_al (wr_ga (V (z - 1))) n d i a) (ys, yd, ya, yz, yn, eo, el, ec, po, pl, pc, tx, va, op) → wY_allWays_9 post ys yd ya yz yn eo el ec po pl pc tx va op f a (nI i) := by
  intro d
  induction d with
  | zero =>
    intro i f a e hf h
    obtain ⟨f, rfl⟩ : ∃ f', f = f' + 1 := ⟨f - 1, by omega⟩
    have nl : yn < nI i := by rw [eN]; exact nI_lt (by omega) (by omega)
    rw [wY_allWays_9]
    exact br_t nl h
  | succ d ih =>
    intro i f a e hf h
    obtain ⟨f, rfl⟩ : ∃ f', f = f' + 1 := ⟨f - 1, by omega⟩
    have nl : ¬ yn < nI i := by rw [eN]; exact nI_nlt (by omega) (by omega)
    rw [wY_allWays_9]
    exact br_f nl ⟨n + 3, yd_a19 eZ eN h1 h2 hn (by omega) hY (n + 1 - i) i (n + 3) a (by omega) (Nat.le_refl _) (by omega) (ih (i + 1) f _ (by omega) (by omega) h)⟩
theorem yd_l24 {i : Nat} (eZ : yz = nI z) (h1 : 1 ≤ z) (h2 : z ≤ 20) (hn : n ≤ 8) (bV : ∀ i j, i ≤ j → j ≤ n → wr_bd 1440 (V (z - 1) i j)) (hY : wr_Y V 1 n z (n + 1) 0 va) :
    ∀ d f, i + d ≤ n + 1 → d < f → post (wr_lg (V (z - 1)) i d) (ys, yd, ya, yz, yn, eo, el, ec, po, pl, pc, tx, va, op) → wY_longest_24 post (nI i) ys yd ya yz yn eo el ec po pl pc tx va op f (nI (i + d) + (-1)) := by
  subst eZ
  intro d
  induction d with
  | zero =>
    intro f e hf h
    obtain ⟨f, rfl⟩ : ∃ f', f = f' + 1 := ⟨f - 1, by omega⟩
    rw [wY_longest_24]
    exact br_t (wr_dn (by omega)) h
  | succ d ih =>
    intro f e hf h
    obtain ⟨f, rfl⟩ : ∃ f', f = f' + 1 := ⟨f - 1, by omega⟩
    rw [wY_longest_24, show i + (d + 1) = (i + d) + 1 from rfl, pk_m1]
    refine br_f (nI_nlt (by omega) (by omega)) (ya_whole h1 h2 hn (by omega) (by omega) hY ?_)
    have b := bV i (i + d) (by omega) (by omega)
    unfold wr_lg at h
    cases hv : V (z - 1) i (i + d) with
    | none =>
      rw [hv] at h
      exact br_t (by decide) (nm_e (ih f (by omega) (by omega) h))
    | some q =>
      obtain ⟨c, l, e⟩ := q
      rw [hv] at h b
      have b1 : l ≤ 1440 := b.1
      exact br_f (nI_pos (n := l) (by omega)) h
end
theorem i_vc_windows {k : Nat} {u : SX} {v : SY} (I : i_Rel k u v) (hk : k + 3 ≤ 1536) : wpX_windows (fun r u' => wpY_windows (fun r' v' => r' = r ∧ i_Rel (k + 3) u' v') v) u := by
  obtain ⟨dk, dt, dc, dl, dr, sk, uk, ut, uc, ul, ur, tx, c0, c1, c2, cv, va, op, d, s, l, z, n, rfl, rfl, hd, hu, hn⟩ := I
  obtain ⟨u1, u2, u3⟩ := id hu
  have bV : ∀ i j, i ≤ j → j ≤ n → wr_bd 1440 (wr_V uk ut uc tx (z - 1) i j) := fun i j hi hj => wr_V_b u3 u2 (by omega) hi (by omega)
  unfold wpX_windows
  refine xa_read hn hu (fun d0 d1 d2 hX => ⟨n + 2, xd_w8 rfl rfl u1 u2 hn bV hX (n + 1) 0 (n + 2) 0 (by omega) (by omega) ?_⟩)
  unfold wpY_windows
  refine ya_read (Or.inr (Or.inl rfl)) hn hu (fun va' op' hY => ⟨n + 2, yd_w9 rfl rfl u1 u2 hn bV hY (n + 1) 0 (n + 2) 0 (by omega) (by omega) ⟨rfl, ?_⟩⟩)
  exact ⟨dk, dt, dc, dl, dr, sk, uk, ut, uc, ul, ur, tx, d0, d1, d2, cv, va', op', d, s, l, z, n, rfl, rfl, hd, hu, hn⟩
theorem i_vc_allWays {k : Nat} {u : SX} {v : SY} (I : i_Rel k u v) (hk : k + 3 ≤ 1536) : wpX_allWays (fun r u' => wpY_allWays (fun r' v' => r' = r ∧ i_Rel (k + 3) u' v') v) u := by
  obtain ⟨dk, dt, dc, dl, dr, sk, uk, ut, uc, ul, ur, tx, c0, c1, c2, cv, va, op, d, s, l, z, n, rfl, rfl, hd, hu, hn⟩ := I
  obtain ⟨u1, u2, u3⟩ := id hu
  unfold wpX_allWays
  refine xa_read hn hu (fun d0 d1 d2 hX => ⟨n + 2, xd_a8 rfl rfl u1 u2 hn hX (n + 1) 0 (n + 2) 0 (by omega) (by omega) ?_⟩)
  unfold wpY_allWays
  refine ya_read (Or.inl rfl) hn hu (fun va' op' hY => ⟨n + 2, yd_a9 rfl rfl u1 u2 hn hY (n + 1) 0 (n + 2) 0 (by omega) (by omega) ⟨rfl, ?_⟩⟩)
  exact ⟨dk, dt, dc, dl, dr, sk, uk, ut, uc, ul, ur, tx, d0, d1, d2, cv, va', op', d, s, l, z, n, rfl, rfl, hd, hu, hn⟩
theorem i_vc_longest {k : Nat} {u : SX} {v : SY} (I : i_Rel k u v) (hk : k + 3 ≤ 1536) (v1 : Int32) : wpX_longest (fun r u' => wpY_longest (fun r' v' => r' = r ∧ i_Rel (k + 3) u' v') v v1) u v1 := by
  have J := I
  obtain ⟨dk, dt, dc, dl, dr, sk, uk, ut, uc, ul, ur, tx, c0, c1, c2, cv, va, op, d, s, l, z, n, rfl, rfl, hd, hu, hn⟩ := I
  obtain ⟨u1, u2, u3⟩ := id hu
  have bV : ∀ i j, i ≤ j → j ≤ n → wr_bd 1440 (wr_V uk ut uc tx (z - 1) i j) := fun i j hi hj => wr_V_b u3 u2 (by omega) hi (by omega)
  by_cases a : v1 < 0
  · exact br_t a (br_t a ⟨rfl, J⟩)
  · by_cases b : v1 ≤ nI n
    · obtain ⟨i, hi, rfl⟩ := nI_of a
      have hin : i ≤ n := (nI_leI (by omega) (by omega)).mp b
      have e : nI (i + (n + 1 - i)) + (-1) = nI n := by
        rw [show i + (n + 1 - i) = n + 1 from by omega, pk_m1]
      refine br_f a (br_t b (xa_read hn hu (fun d0 d1 d2 hX => ⟨n + 2, ?_⟩)))
      have R : ∀ va' op', i_Rel (k + 3) ((nI d), (nI l), (nI s), (nI z), (nI n), dk, dt, dc, dl, dr, sk, uk, ut, uc, ul, ur, tx, d0, d1, d2, cv) ((nI d), (nI s), (nI l), (nI z), (nI n), dk, dt, dc, uk, ut, uc, tx, va', op') := fun va' op' => ⟨dk, dt, dc, dl, dr, sk, uk, ut, uc, ul, ur, tx, d0, d1, d2, cv, va', op', d, s, l, z, n, rfl, rfl, hd, hu, hn⟩
      have W := xd_l23 (i := i) (post := fun r u' => wpY_longest (fun r' v' => r' = r ∧ i_Rel (k + 3) u' v') ((nI d), (nI s), (nI l), (nI z), (nI n), dk, dt, dc, uk, ut, uc, tx, va, op) (nI i)) (ds := nI d) (dv := nI l) (st := nI s) (tl := nI n) (dk := dk) (dt := dt) (dc := dc) (dl := dl) (dr := dr) (sk := sk) (uk := uk) (ut := ut) (uc := uc) (ul := ul) (ur := ur) (tx := tx) (cv := cv) rfl u1 u2 hn bV hX (n + 1 - i) (n + 2) (by omega) (by omega) ?_
      · rw [e] at W
        exact W
      · refine br_f a (br_t b (ya_read (Or.inr (Or.inl rfl)) hn hu (fun va' op' hY => ⟨n + 2, ?_⟩)))
        have W := yd_l24 (i := i) (post := fun r' v' => r' = wr_lg (wr_V uk ut uc tx (z - 1)) i (n + 1 - i) ∧ i_Rel (k + 3) ((nI d), (nI l), (nI s), (nI z), (nI n), dk, dt, dc, dl, dr, sk, uk, ut, uc, ul, ur, tx, d0, d1, d2, cv) v') (ys := nI d) (yd := nI s) (ya := nI l) (yn := nI n) (eo := dk) (el := dt) (ec := dc) (po := uk) (pl := ut) (pc := uc) (tx := tx) (op := op') rfl u1 u2 hn bV hY (n + 1 - i) (n + 2) (by omega) (by omega) ⟨rfl, R va' op'⟩
        rw [e] at W
        exact W
    · exact br_f a (br_f b (br_f a (br_f b ⟨rfl, J⟩)))
end
section
/-! cover -/
def wr_p (V : Nat → Nat → wr_C) (i j : Nat) : Option Nat := wr_lo (V i j)
theorem wr_p_b {V : Nat → Nat → wr_C} {n : Nat} (bV : ∀ i j, i ≤ j → j ≤ n → wr_bd 1440 (V i j)) : wr_pb (wr_p V) n := by
  intro i j q hi hj h
  have b := bV i j (by omega) hj
  unfold wr_p at h
  cases hv : V i j with
  | none =>
    rw [hv] at h
    cases h
  | some y =>
    obtain ⟨c, l, e⟩ := y
    rw [hv] at h b
    cases h
    exact b.1
theorem wr_bs_n {p : Nat → Nat → Option Nat} {f : Nat → Nat} {j b e : Nat} (h : p e j = none) : wr_bs p f j b (e + 1) = wr_bs p f j b e := by simp only [wr_bs, h]
theorem wr_bs_s {p : Nat → Nat → Option Nat} {f : Nat → Nat} {j b e q : Nat} (h : p e j = some q) : wr_bs p f j b (e + 1) = if f e + q < wr_bs p f j b e then f e + q else wr_bs p f j b e := by simp only [wr_bs, h]
section
variable {ds dv st us tl : Int32} {dk dt dc dl dr sk uk ut uc ul ur tx c0 c1 c2 cv : Nat → Int32} {V : Nat → Nat → Nat → wr_C} {n z : Nat}
theorem xe_up14 {post : Int32 → Prop} {j b : Nat} (eZ : us = nI z) (h1 : 1 ≤ z) (h2 : z ≤ 20) (hn : n ≤ 8) (hj : j ≤ n) (hb : b ≤ 200) (bV : ∀ i j, i ≤ j → j ≤ n → wr_bd 1440 (V (z - 1) i j)) (hX : wr_X V n z (n + 1) 0 c0 c1 c2) (hc : ∀ t, t < j → cv t = nI (wr_cc (wr_p (V (z - 1))) t)) (K : post (nI (wr_bs (wr_p (V (z - 1))) (wr_cc (wr_p (V (z - 1)))) j b j))) :
    ∀ d e f, e + d = j → d < f → wX_cheapestCoverUpTo_14 post (nI j) ds dv st us tl dk dt dc dl dr sk uk ut uc ul ur tx c0 c1 c2 cv f (nI (wr_bs (wr_p (V (z - 1))) (wr_cc (wr_p (V (z - 1)))) j b e)) (nI e) := by
  subst eZ
  intro d
  induction d with
  | zero =>
    intro e f he hf
    obtain ⟨f, rfl⟩ : ∃ f', f = f' + 1 := ⟨f - 1, by omega⟩
    have ee : e = j := by omega
    subst ee
    rw [wX_cheapestCoverUpTo_14]
    exact br_t (nI_le (by omega) (by omega)) K
  | succ d ih =>
    intro e f he hf
    obtain ⟨f, rfl⟩ : ∃ f', f = f' + 1 := ⟨f - 1, by omega⟩
    have W := ih (e + 1) f (by omega) (by omega)
    have hx := (hX (z - 1) e j (by omega) hj (Or.inl (by omega))).2.1
    have bs := wr_bs_le (p := wr_p (V (z - 1))) (f := wr_cc (wr_p (V (z - 1)))) (j := j) (b := b) e
    have bc := wr_cc_le (wr_p (V (z - 1))) e
    have ee : (nI e).toNatClampNeg = e := nI_clamp (by omega)
    have we : vp_in (nI e) 9 := vp_in_nI (by omega) (by omega)
    rw [wX_cheapestCoverUpTo_14]
    refine br_f (nI_ge (by omega) (by omega)) (xa_ans h1 ⟨vp_in_nI (by omega) (by omega), nm_r (e' := wr_on (-4) (wr_p (V (z - 1)) e j)) (by rw [nI_clamp (by omega), hx, wr_x1lo]; rfl) ?_⟩)
    cases hp : wr_p (V (z - 1)) e j with
    | none =>
      rw [wr_bs_n hp] at W
      exact br_t rfl (nm_r (nI_1 e) W)
    | some q =>
      have hq := wr_p_b bV e j q (by omega) hj hp
      rw [wr_bs_s hp] at W
      refine br_f (wr_n4 (l := q) (by omega)) ⟨we, ?_⟩
      rw [ee, hc e (by omega)]
      show ((_ ≤ nI _ + nI q → _) ∧ (¬ (_ ≤ nI _ + nI q) → _))
      rw [nI_add]
      refine pk_le (wr_bs (wr_p (V (z - 1))) (wr_cc (wr_p (V (z - 1)))) j b e) (wr_cc (wr_p (V (z - 1))) e + q) (fun g => ?_) (fun g => ⟨we, nm_r (e' := nI (wr_cc (wr_p (V (z - 1))) e + q)) (nI_add _ _) (nm_r (nI_1 e) ?_)⟩)
      · rw [if_neg (by omega)] at W
        exact nm_r (nI_1 e) W
      · rw [if_pos g] at W
        exact W
theorem xe_up {post : Int32 → Prop} {j : Nat} (eZ : us = nI z) (h1 : 1 ≤ z) (h2 : z ≤ 20) (hn : n ≤ 8) (hj : j + 1 ≤ n) (bV : ∀ i j, i ≤ j → j ≤ n → wr_bd 1440 (V (z - 1) i j)) (hX : wr_X V n z (n + 1) 0 c0 c1 c2) (hc : ∀ t, t < j + 1 → cv t = nI (wr_cc (wr_p (V (z - 1))) t)) (K : post (nI (wr_cc (wr_p (V (z - 1))) (j + 1)))) : wpX_cheapestCoverUpTo post (ds, dv, st, us, tl, dk, dt, dc, dl, dr, sk, uk, ut, uc, ul, ur, tx, c0, c1, c2, cv) (nI (j + 1)) := by
  have bc := wr_cc_le (wr_p (V (z - 1))) j
  rw [wr_cc_s] at K
  refine ⟨by rw [nI_pred]; exact vp_in_nI (by omega) (by omega), nm_r (e' := nI (wr_cc (wr_p (V (z - 1))) j + 12)) (by rw [nI_pred, nI_clamp (by omega), hc j (by omega)]; exact nI_add _ 12) ⟨j + 2, ?_⟩⟩
  exact xe_up14 (b := wr_cc (wr_p (V (z - 1))) j + 12) eZ h1 h2 hn hj (by omega) bV hX hc K (j + 1) 0 (j + 2) (by omega) (by omega)
theorem xe_cov {post : Int32 → SX → Prop} (eZ : us = nI z) (eN : tl = nI n) (h1 : 1 ≤ z) (h2 : z ≤ 20) (hn : n ≤ 8) (bV : ∀ i j, i ≤ j → j ≤ n → wr_bd 1440 (V (z - 1) i j)) (hX : wr_X V n z (n + 1) 0 c0 c1 c2) (K : ∀ cv, post (nI (wr_cc (wr_p (V (z - 1))) n)) (ds, dv, st, us, tl, dk, dt, dc, dl, dr, sk, uk, ut, uc, ul, ur, tx, c0, c1, c2, cv)) :
    ∀ d j f cv, j + d = n → d < f → (∀ t, t < j + 1 → cv t = nI (wr_cc (wr_p (V (z - 1))) t)) → wX_cover_13 post ds dv st us tl f (nI (j + 1)) dk dt dc dl dr sk uk ut uc ul ur tx c0 c1 c2 cv := by
  intro d
  induction d with
  | zero =>
    intro j f cv hj hf hc
    obtain ⟨f, rfl⟩ : ∃ f', f = f' + 1 := ⟨f - 1, by omega⟩
    have ej : j = n := by omega
    subst ej
    have nl : tl < nI (j + 1) := by rw [eN]; exact nI_lt (by omega) (by omega)
    have w : vp_in tl 9 := by rw [eN]; exact vp_in_nI (by omega) (by omega)
    have e : cv tl.toNatClampNeg = nI (wr_cc (wr_p (V (z - 1))) j) := by rw [eN, nI_clamp (by omega)]; exact hc j (by omega)
    rw [wX_cover_13]
    refine br_t nl ⟨w, ?_⟩
    rw [e]
    exact K cv
  | succ d ih =>
    intro j f cv hj hf hc
    obtain ⟨f, rfl⟩ : ∃ f', f = f' + 1 := ⟨f - 1, by omega⟩
    have nl : ¬ tl < nI (j + 1) := by rw [eN]; exact nI_nlt (by omega) (by omega)
    rw [wX_cover_13]
    refine br_f nl (xe_up eZ h1 h2 hn (by omega) bV hX hc ⟨vp_in_nI (by omega) (by omega), nm_r (e' := upd cv (j + 1) (nI (wr_cc (wr_p (V (z - 1))) (j + 1)))) (by rw [nI_clamp (by omega)]) (nm_r (nI_1 (j + 1)) (ih (j + 1) f _ (by omega) (by omega) (fun t ht => ?_)))⟩)
    by_cases e : t = j + 1
    · subst e
      exact pk_us
    · rw [pk_un e]
      exact hc t (by omega)
end
section
variable {ys yd ya yz yn : Int32} {eo el ec po pl pc tx va op : Nat → Int32} {V : Nat → Nat → Nat → wr_C} {n z : Nat}
theorem ye_pc {post : Int32 → Prop} {i j : Nat} (eZ : yz = nI z) (h1 : 1 ≤ z) (h2 : z ≤ 20) (hn : n ≤ 8) (hi : i < j) (hj : j ≤ n) (bV : ∀ i j, i ≤ j → j ≤ n → wr_bd 1440 (V (z - 1) i j)) (hY : wr_Y V 1 n z (n + 1) 0 va) (K : post (wr_on (-1) (wr_pc (wr_p (V (z - 1))) i j))) : wpY_pieceCost post (ys, yd, ya, yz, yn, eo, el, ec, po, pl, pc, tx, va, op) (nI i) (nI j) := by
  subst eZ
  unfold wpY_pieceCost
  refine ya_whole h1 h2 hn (by omega) hj hY ?_
  rw [nI_1, wr_y1lo]
  have hb : ∀ q, wr_p (V (z - 1)) i j = some q → q ≤ 1440 := fun q hq => wr_p_b bV i j q hi hj hq
  have e : wr_lo (V (z - 1) i j) = wr_p (V (z - 1)) i j := rfl
  rw [e]
  unfold wr_pc at K
  refine pk_eq j (i + 1) (fun g => ?_) (fun g => ?_)
  · rw [if_pos g] at K
    cases hp : wr_p (V (z - 1)) i j with
    | none =>
      rw [hp] at K
      exact br_t (by decide) K
    | some q =>
      have b := hb q hp
      rw [hp] at K
      dsimp only at K
      refine br_f (nI_pos (n := q) (by omega)) (pk_le (x := nI q) q 12 (fun g => ?_) (fun g => ?_))
      · rw [if_neg (by omega)] at K
        exact K
      · rw [if_pos g] at K
        exact K
  · rw [if_neg g] at K
    exact K
theorem ye_37 {post : Int32 → Prop} {J7 : Int32 → Int32 → Int32 → Prop} {x1 : Int32} {st sm k : Nat} (eZ : yz = nI z) (h1 : 1 ≤ z) (h2 : z ≤ 20) (hn : n ≤ 8) (hi : st ≤ k) (hj : k + 1 ≤ n) (bV : ∀ i j, i ≤ j → j ≤ n → wr_bd 1440 (V (z - 1) i j)) (hY : wr_Y V 1 n z (n + 1) 0 va) (K0 : wr_pc (wr_p (V (z - 1))) st (k + 1) = none → post (-1)) (K1 : ∀ c, wr_pc (wr_p (V (z - 1))) st (k + 1) = some c → J7 (nI (sm + c)) (nI (k + 1)) (nI (k + 1))) : wY_coverCost_37 post J7 x1 (nI sm) (nI st) (nI k) ys yd ya yz yn eo el ec po pl pc tx va op := by
  unfold wY_coverCost_37
  rw [nI_1]
  refine ye_pc eZ h1 h2 hn (by omega) hj bV hY ?_
  cases hp : wr_pc (wr_p (V (z - 1))) st (k + 1) with
  | none => exact br_f (by decide) (K0 hp)
  | some c =>
    have b := wr_pc_bd (wr_p_b bV) (by omega) hj hp
    exact br_t (nI_pos' (n := c) (by omega)) (nm_r (nI_add sm c) (nm_e (nm_e (K1 c hp))))
theorem ye_cc7 {post : Int32 → Prop} {c : Nat} (eZ : yz = nI z) (eN : yn = nI n) (h1 : 1 ≤ z) (h2 : z ≤ 20) (hn : n ≤ 8) (hc : c < 128) (bV : ∀ i j, i ≤ j → j ≤ n → wr_bd 1440 (V (z - 1) i j)) (hY : wr_Y V 1 n z (n + 1) 0 va) (K : post (wr_on (-1) (wr_mc (wr_p (V (z - 1))) n c))) :
    ∀ d k f st sm, k + d = n → d < f → wr_wk (wr_p (V (z - 1))) (wr_bit n c) k = some (st, sm) → wY_coverCost_7 post (nI c) ys yd ya yz yn eo el ec po pl pc tx va op f (nI sm) (nI st) (nI k) := by
  intro d
  induction d with
  | zero =>
    intro k f st sm hk hf hw
    obtain ⟨f, rfl⟩ : ∃ f', f = f' + 1 := ⟨f - 1, by omega⟩
    have ek : k = n := by omega
    subst ek
    have nl : yn ≤ nI k := by rw [eN]; exact nI_le (by omega) (by omega)
    rw [wY_coverCost_7]
    refine br_t nl ?_
    unfold wr_mc at K
    rw [hw] at K
    exact K
  | succ d ih =>
    intro k f st sm hk hf hw
    obtain ⟨f, rfl⟩ : ∃ f', f = f' + 1 := ⟨f - 1, by omega⟩
    have nl : ¬ yn ≤ nI k := by rw [eN]; exact nI_ge (by omega) (by omega)
    have l := (wr_wk_lo k st sm hw).1
    have ws := wr_wk_s (wr_p (V (z - 1))) (wr_bit n c) k
    rw [hw] at ws
    dsimp only at ws
    have cut : wr_bit n c k = true → wY_coverCost_37 post (wY_coverCost_7 post (nI c) ys yd ya yz yn eo el ec po pl pc tx va op f) (nI c) (nI sm) (nI st) (nI k) ys yd ya yz yn eo el ec po pl pc tx va op := fun hb => by
      rw [if_pos hb] at ws
      refine ye_37 eZ h1 h2 hn l (by omega) bV hY (fun hp => ?_) (fun q hp => ?_)
      · rw [hp] at ws
        have W := wr_wk_none ws d
        rw [show k + 1 + d = n from by omega] at W
        unfold wr_mc at K
        rw [W] at K
        exact K
      · rw [hp] at ws
        exact ih (k + 1) f (k + 1) (sm + q) (by omega) (by omega) ws
    have en : yn - 1 = nI (n - 1) := by rw [eN]; exact ya_s1 (by omega)
    rw [wY_coverCost_7]
    refine br_f nl (br_c (fun g => ?_) (fun g => br_c (fun y => ?_) (fun y => ?_)))
    · rw [en, nI_eq (by omega) (by omega)] at g
      exact cut (wr_bit_t (Or.inl (by omega)))
    · rw [wr_shift c hc k (by omega)] at y
      exact cut (wr_bit_t (Or.inr y))
    · rw [en, nI_eq (by omega) (by omega)] at g
      rw [wr_shift c hc k (by omega)] at y
      have nb : ¬ wr_bit n c k = true := wr_bit_f (fun h => h.elim (fun h => g (by omega)) y)
      rw [if_neg nb] at ws
      exact nm_r (nI_1 k) (ih (k + 1) f st sm (by omega) (by omega) ws)
theorem ye_cov {post : Int32 → SY → Prop} (eZ : yz = nI z) (eN : yn = nI n) (h1 : 1 ≤ z) (h2 : z ≤ 20) (hn : n ≤ 8) (bV : ∀ i j, i ≤ j → j ≤ n → wr_bd 1440 (V (z - 1) i j)) (hY : wr_Y V 1 n z (n + 1) 0 va) (K : post (nI (wr_cc (wr_p (V (z - 1))) n)) (ys, yd, ya, yz, yn, eo, el, ec, po, pl, pc, tx, va, op)) :
    ∀ d c f B, c + d = 128 → d < f → wr_bm (wr_p (V (z - 1))) n c B → wY_cover_15 post ys yd ya yz yn eo el ec po pl pc tx va op f (nI B) (nI c) := by
  intro d
  induction d with
  | zero =>
    intro c f B hc hf hb
    obtain ⟨f, rfl⟩ : ∃ f', f = f' + 1 := ⟨f - 1, by omega⟩
    have ec' : c = 128 := by omega
    subst ec'
    rw [wY_cover_15]
    refine br_t (nI_le (a := 128) (b := 128) (by omega) (by omega)) ?_
    rw [wr_bm_e hn hb]
    exact K
  | succ d ih =>
    intro c f B hc hf hb
    obtain ⟨f, rfl⟩ : ∃ f', f = f' + 1 := ⟨f - 1, by omega⟩
    have hB : B ≤ 12 * n := hb.2.1
    rw [wY_cover_15]
    refine br_f (nI_ge (b := 128) (by omega) (by omega)) ⟨n + 1, ?_⟩
    refine ye_cc7 eZ eN h1 h2 hn (by omega) bV hY ?_ n 0 (n + 1) 0 0 (Nat.zero_add n) (by omega) rfl
    cases hm : wr_mc (wr_p (V (z - 1))) n c with
    | none => exact br_t (by decide) (nm_r (nI_1 c) (ih (c + 1) f B (by omega) (by omega) (wr_bm_n hb hm)))
    | some w =>
      have bw := wr_mc_bd (wr_p_b bV) hm
      refine br_f (nI_pos (n := w) (by omega)) (pk_le (y := nI w) B w (fun g => ?_) (fun g => ?_))
      · exact nm_r (nI_1 c) (ih (c + 1) f B (by omega) (by omega) (wr_bm_g hb hm (by omega)))
      · exact nm_r (nI_1 c) (ih (c + 1) f w (by omega) (by omega) (wr_bm_l hb hm g))
end
theorem i_vc_cover {k : Nat} {u : SX} {v : SY} (I : i_Rel k u v) (hk : k + 3 ≤ 1536) : wpX_cover (fun r u' => wpY_cover (fun r' v' => r' = r ∧ i_Rel (k + 3) u' v') v) u := by
  obtain ⟨dk, dt, dc, dl, dr, sk, uk, ut, uc, ul, ur, tx, c0, c1, c2, cv, va, op, d, s, l, z, n, rfl, rfl, hd, hu, hn⟩ := I
  obtain ⟨u1, u2, u3⟩ := id hu
  have bV : ∀ i j, i ≤ j → j ≤ n → wr_bd 1440 (wr_V uk ut uc tx (z - 1) i j) := fun i j hi hj => wr_V_b u3 u2 (by omega) hi (by omega)
  unfold wpX_cover
  refine xa_read hn hu (fun d0 d1 d2 hX => nm_e ⟨n + 1, ?_⟩)
  refine xe_cov rfl rfl u1 u2 hn bV hX (fun cv' => ?_) n 0 (n + 1) (upd cv 0 0) (Nat.zero_add n) (by omega) (fun t ht => ?_)
  · unfold wpY_cover
    refine ya_read (Or.inr (Or.inl rfl)) hn hu (fun va' op' hY => nm_r (e' := nI (12 * n)) (pk_mul 12 n) ⟨129, ?_⟩)
    refine ye_cov rfl rfl u1 u2 hn bV hY ⟨rfl, ?_⟩ 128 0 129 (12 * n) (by omega) (by omega) (wr_bm_0 _ n)
    exact ⟨dk, dt, dc, dl, dr, sk, uk, ut, uc, ul, ur, tx, d0, d1, d2, cv', va', op', d, s, l, z, n, rfl, rfl, hd, hu, hn⟩
  · have e : t = 0 := by omega
    subst e
    exact pk_us
end
