def wr_nd (K Lt C tx : Nat → Int32) (T : Nat → Nat → Nat → wr_C) (s i j : Nat) : wr_C :=
  if K s = 0 then (if j = i + 1 ∧ tx i = Lt s then some (1, (C s).toNatClampNeg, (C s).toNatClampNeg) else none)
  else if K s = 1 then (if j = i + 1 then some (1, (C s).toNatClampNeg, (C s).toNatClampNeg) else none)
  else if K s = 2 then (if i = j then some (1, 0, 0) else none)
  else if K s = 3 then wr_su (fun k => wr_to 0 (T (wr_og K s (wr_tp K s - 2)) i k) (T (wr_og K s (wr_tp K s - 1)) k j)) i (j - i + 1)
  else if K s = 4 then wr_ei (T (wr_og K s (wr_tp K s - 2)) i j) (T (wr_og K s (wr_tp K s - 1)) i j)
  else wr_lp (T (wr_og K s (wr_tp K s - 1))) (C s).toNatClampNeg (j - i) i j
theorem wr_nd_cg {K Lt C tx : Nat → Int32} {T T' : Nat → Nat → Nat → wr_C} {s : Nat} (h : ∀ x, x < s → ∀ i j, T x i j = T' x i j) (hs : 0 < s ∨ K s = 0 ∨ K s = 1 ∨ K s = 2) (i j : Nat) : wr_nd K Lt C tx T s i j = wr_nd K Lt C tx T' s i j := by
  unfold wr_nd
  rcases hs with hs | hs | hs | hs
  · have q : ∀ t, wr_og K s t < s := fun t => by
      obtain ⟨s', rfl⟩ : ∃ s', s = s' + 1 := ⟨s - 1, by omega⟩
      exact wr_og_lt K s' t
    have e1 : T (wr_og K s (wr_tp K s - 1)) = T' (wr_og K s (wr_tp K s - 1)) := funext fun i => funext fun j => h _ (q _) i j
    have e2 : T (wr_og K s (wr_tp K s - 2)) = T' (wr_og K s (wr_tp K s - 2)) := funext fun i => funext fun j => h _ (q _) i j
    rw [e1, e2]
  · rw [if_pos hs, if_pos hs]
  · have n0 : ¬ K s = 0 := by rw [hs]; decide
    rw [if_neg n0, if_neg n0, if_pos hs, if_pos hs]
  · have n0 : ¬ K s = 0 := by rw [hs]; decide
    have n1 : ¬ K s = 1 := by rw [hs]; decide
    rw [if_neg n0, if_neg n0, if_neg n1, if_neg n1, if_pos hs, if_pos hs]
def wr_tb (K Lt C tx : Nat → Int32) : Nat → Nat → Nat → Nat → wr_C
  | 0, _, _, _ => none
  | m + 1, s, i, j => if s = m then wr_nd K Lt C tx (wr_tb K Lt C tx m) s i j else wr_tb K Lt C tx m s i j
def wr_V (K Lt C tx : Nat → Int32) (s i j : Nat) : wr_C := wr_tb K Lt C tx (s + 1) s i j
theorem wr_tb_s (K Lt C tx : Nat → Int32) (m s i j : Nat) : wr_tb K Lt C tx (m + 1) s i j = if s = m then wr_nd K Lt C tx (wr_tb K Lt C tx m) s i j else wr_tb K Lt C tx m s i j := rfl
theorem wr_tb_V (K Lt C tx : Nat → Int32) : ∀ m s i j, s < m → wr_tb K Lt C tx m s i j = wr_V K Lt C tx s i j
  | 0, s, i, j, h => absurd h (Nat.not_lt_zero s)
  | m + 1, s, i, j, h => by
    by_cases e : s = m
    · subst e
      rfl
    · rw [wr_tb_s, if_neg e]
      exact wr_tb_V K Lt C tx m s i j (by omega)
theorem wr_V_eq {K Lt C tx L R : Nat → Int32} {s : Nat} (h : wr_ok K C L R s) (i j : Nat) : wr_V K Lt C tx s i j = wr_nd K Lt C tx (wr_V K Lt C tx) s i j := by
  have e : wr_V K Lt C tx s i j = wr_nd K Lt C tx (wr_tb K Lt C tx s) s i j := by
    show wr_tb K Lt C tx (s + 1) s i j = _
    rw [wr_tb_s, if_pos rfl]
  rw [e]
  exact wr_nd_cg (fun x hx i j => wr_tb_V K Lt C tx s x i j hx) (wr_ok_pos h) i j
section
variable {K Lt C tx L R : Nat → Int32} {s : Nat}
theorem wr_V0 (h : wr_ok K C L R s) (i j : Nat) (k : K s = 0) : wr_V K Lt C tx s i j = if j = i + 1 ∧ tx i = Lt s then some (1, (C s).toNatClampNeg, (C s).toNatClampNeg) else none := by
  rw [wr_V_eq h]
  unfold wr_nd
  rw [if_pos k]
theorem wr_V1 (h : wr_ok K C L R s) (i j : Nat) (k : K s = 1) : wr_V K Lt C tx s i j = if j = i + 1 then some (1, (C s).toNatClampNeg, (C s).toNatClampNeg) else none := by
  rw [wr_V_eq h]
  unfold wr_nd
  rw [if_neg (by rw [k]; decide), if_pos k]
theorem wr_V2 (h : wr_ok K C L R s) (i j : Nat) (k : K s = 2) : wr_V K Lt C tx s i j = if i = j then some (1, 0, 0) else none := by
  rw [wr_V_eq h]
  unfold wr_nd
  rw [if_neg (by rw [k]; decide), if_neg (by rw [k]; decide), if_pos k]
theorem wr_V3 (h : wr_ok K C L R s) (i j : Nat) (k : K s = 3) : wr_V K Lt C tx s i j = wr_su (fun k => wr_to 0 (wr_V K Lt C tx (wr_og K s (wr_tp K s - 2)) i k) (wr_V K Lt C tx (wr_og K s (wr_tp K s - 1)) k j)) i (j - i + 1) := by
  rw [wr_V_eq h]
  unfold wr_nd
  rw [if_neg (by rw [k]; decide), if_neg (by rw [k]; decide), if_neg (by rw [k]; decide), if_pos k]
theorem wr_V4 (h : wr_ok K C L R s) (i j : Nat) (k : K s = 4) : wr_V K Lt C tx s i j = wr_ei (wr_V K Lt C tx (wr_og K s (wr_tp K s - 2)) i j) (wr_V K Lt C tx (wr_og K s (wr_tp K s - 1)) i j) := by
  rw [wr_V_eq h]
  unfold wr_nd
  rw [if_neg (by rw [k]; decide), if_neg (by rw [k]; decide), if_neg (by rw [k]; decide), if_neg (by rw [k]; decide), if_pos k]
theorem wr_V5' (h : wr_ok K C L R s) (i j : Nat) (k : K s = 5) : wr_V K Lt C tx s i j = wr_lp (wr_V K Lt C tx (wr_og K s (wr_tp K s - 1))) (C s).toNatClampNeg (j - i) i j := by
  rw [wr_V_eq h]
  unfold wr_nd
  rw [if_neg (by rw [k]; decide), if_neg (by rw [k]; decide), if_neg (by rw [k]; decide), if_neg (by rw [k]; decide), if_neg (by rw [k]; decide)]
theorem wr_V5i (h : wr_ok K C L R s) (i : Nat) (k : K s = 5) : wr_V K Lt C tx s i i = some (1, 0, 0) := by
  rw [wr_V5' h i i k, wr_lp_i]
theorem wr_V5 (h : wr_ok K C L R s) (i j : Nat) (hi : i < j) (k : K s = 5) : wr_V K Lt C tx s i j = wr_su (fun k => wr_to (C s).toNatClampNeg (wr_V K Lt C tx (wr_og K s (wr_tp K s - 1)) i k) (wr_V K Lt C tx s k j)) (i + 1) (j - i) := by
  rw [wr_V5' h i j k, wr_lp_eq _ _ _ _ hi]
  exact wr_su_cg _ (fun q h4 h5 => by rw [wr_V5' h q j k])
end
theorem wr_V_bd {K Lt C tx L R : Nat → Int32} {z : Nat} (ok : ∀ s, s < z → wr_ok K C L R s) : ∀ m s, s < m → s < z → ∀ i j, i ≤ j → wr_bd (9 * (s + 1) * (j - i)) (wr_V K Lt C tx s i j) := by
  intro m
  induction m with
  | zero => intro s h; exact absurd h (Nat.not_lt_zero s)
  | succ m ih =>
    intro s hm hz i j hij
    have hs := ok s hz
    obtain ⟨⟨c, hc, ec, -⟩, hk⟩ := hs
    have hs := ok s hz
    have cc : (C s).toNatClampNeg = c := by rw [ec]; exact nI_clamp (by omega)
    have le : ∀ x, x < s → ∀ i j, i ≤ j → wr_bd (9 * (s + 1) * (j - i)) (wr_V K Lt C tx x i j) := fun x hx i j h =>
      wr_bd_up (ih x (by omega) (by omega) i j h) (Nat.mul_le_mul_right _ (by omega))
    have og : 1 ≤ wr_tp K s → ∀ t, wr_og K s t < s := fun h t => by
      have h0 := wr_tp_le K s
      obtain ⟨s', rfl⟩ : ∃ s', s = s' + 1 := ⟨s - 1, by omega⟩
      exact wr_og_lt K s' t
    have one : j = i + 1 → c ≤ 9 * (s + 1) * (j - i) := fun e => by
      have e1 : j - i = 1 := by omega
      rw [e1]
      omega
    rcases hk with k | k | k | ⟨k, t, -, -⟩ | ⟨k, t, -, -⟩ | ⟨k, t, -⟩
    · rw [wr_V0 hs i j k, cc]
      split
      · rename_i e
        exact ⟨one e.1, one e.1⟩
      · exact True.intro
    · rw [wr_V1 hs i j k, cc]
      split
      · rename_i e
        exact ⟨one e, one e⟩
      · exact True.intro
    · rw [wr_V2 hs i j k]
      split
      · exact ⟨Nat.zero_le _, Nat.zero_le _⟩
      · exact True.intro
    · rw [wr_V3 hs i j k]
      refine wr_su_bd _ (fun q h1 h2 => wr_to_bd (le _ (og (by omega) _) i q h1) (le _ (og (by omega) _) q j (by omega)) ?_)
      rw [Nat.add_zero, ← Nat.mul_add]
      exact Nat.mul_le_mul_left _ (by omega)
    · rw [wr_V4 hs i j k]
      exact wr_ei_bd (le _ (og (by omega) _) i j hij) (le _ (og (by omega) _) i j hij)
    · rw [wr_V5' hs i j k, cc]
      have hx := og t (wr_tp K s - 1)
      refine wr_bd_up (wr_lp_bd _ c (9 * s) hc (fun i q h => wr_bd_up (ih _ (by omega) (by omega) i q (by omega)) (Nat.mul_le_mul_right _ (by omega))) (j - i) i j hij) ?_
      exact Nat.mul_le_mul_right _ (by omega)
theorem wr_V_b {K Lt C tx L R : Nat → Int32} {z : Nat} (ok : ∀ s, s < z → wr_ok K C L R s) (hz : z ≤ 20) {s i j : Nat} (hs : s < z) (hi : i ≤ j) (hj : j ≤ 8) : wr_bd 1440 (wr_V K Lt C tx s i j) := by
  refine wr_bd_up (wr_V_bd ok (s + 1) s (by omega) hs i j hi) ?_
  have h1 : 9 * (s + 1) * (j - i) ≤ 9 * (s + 1) * 8 := Nat.mul_le_mul_left _ (by omega)
  omega
/-- numbers of cells -/
theorem wr_cx (s i j : Nat) : (nI s * 9 + nI i) * 9 + nI j = nI (s * 81 + i * 9 + j) := by
  rw [show (9 : Int32) = nI 9 from rfl, pk_mul, nI_add, pk_mul, nI_add]
  exact congrArg nI (by omega)
theorem wr_cy (s i j : Nat) : nI s * 81 + nI i * 9 + nI j = nI (s * 81 + i * 9 + j) := by
  rw [show (9 : Int32) = nI 9 from rfl, show (81 : Int32) = nI 81 from rfl, pk_mul, pk_mul, nI_add, nI_add]
/-- what is filled before the cell (s, e - 1, j) -/
def wr_D (s e j s' i' j' : Nat) : Prop := s' < s ∨ (s' = s ∧ (e ≤ i' ∨ (i' + 1 = e ∧ j' < j)))
/-- the component's three tables hold the values of what is filled -/
def wr_X (V : Nat → Nat → Nat → wr_C) (n s e j : Nat) (a0 a1 a2 : Nat → Int32) : Prop :=
  ∀ s' i' j', i' ≤ j' → j' ≤ n → wr_D s e j s' i' j' → a0 (s' * 81 + i' * 9 + j') = wr_x0 (V s' i' j') ∧ a1 (s' * 81 + i' * 9 + j') = wr_x1 (V s' i' j') ∧ a2 (s' * 81 + i' * 9 + j') = wr_x2 (V s' i' j')
/-- the reference's one table -/
def wr_Y (V : Nat → Nat → Nat → wr_C) (m : Int32) (n s e j : Nat) (a : Nat → Int32) : Prop :=
  ∀ s' i' j', i' ≤ j' → j' ≤ n → wr_D s e j s' i' j' → a (s' * 81 + i' * 9 + j') = wr_y m (V s' i' j')
/-- a cell's three numbers -/
def wr_c (v : wr_C) (c : Nat) (a0 a1 a2 : Nat → Int32) : Prop := a0 c = wr_x0 v ∧ a1 c = wr_x1 v ∧ a2 c = wr_x2 v
/-- the arrays are as they were but at c -/
def wr_off (c : Nat) (a0 a1 a2 b0 b1 b2 : Nat → Int32) : Prop := ∀ k, k ≠ c → b0 k = a0 k ∧ b1 k = a1 k ∧ b2 k = a2 k
theorem wr_off_r (c : Nat) (a0 a1 a2 : Nat → Int32) : wr_off c a0 a1 a2 a0 a1 a2 := fun _ _ => ⟨rfl, rfl, rfl⟩
theorem wr_off_t {c : Nat} {a0 a1 a2 b0 b1 b2 d0 d1 d2 : Nat → Int32} (h : wr_off c a0 a1 a2 b0 b1 b2) (g : wr_off c b0 b1 b2 d0 d1 d2) : wr_off c a0 a1 a2 d0 d1 d2 := fun k hk =>
  ⟨((g k hk).1).trans (h k hk).1, ((g k hk).2.1).trans (h k hk).2.1, ((g k hk).2.2).trans (h k hk).2.2⟩
theorem wr_X_put {V : Nat → Nat → Nat → wr_C} {n s i j : Nat} {a0 a1 a2 b0 b1 b2 : Nat → Int32} (hn : n ≤ 8) (hi : i ≤ n) (hj : j ≤ n) (h : wr_X V n s (i + 1) j a0 a1 a2) (o : wr_off (s * 81 + i * 9 + j) a0 a1 a2 b0 b1 b2) (c : wr_c (V s i j) (s * 81 + i * 9 + j) b0 b1 b2) : wr_X V n s (i + 1) (j + 1) b0 b1 b2 := by
  intro s' i' j' h1 h2 d
  by_cases e : s' = s ∧ i' = i ∧ j' = j
  · obtain ⟨rfl, rfl, rfl⟩ := e
    exact c
  · have hk : s' * 81 + i' * 9 + j' ≠ s * 81 + i * 9 + j := by omega
    obtain ⟨o0, o1, o2⟩ := o _ hk
    rw [o0, o1, o2]
    refine h s' i' j' h1 h2 ?_
    unfold wr_D at d ⊢
    omega
theorem wr_Y_put {V : Nat → Nat → Nat → wr_C} {m : Int32} {n s i j : Nat} {a : Nat → Int32} {x : Int32} (hn : n ≤ 8) (hi : i ≤ n) (hj : j ≤ n) (h : wr_Y V m n s (i + 1) j a) (c : x = wr_y m (V s i j)) : wr_Y V m n s (i + 1) (j + 1) (upd a (s * 81 + i * 9 + j) x) := by
  intro s' i' j' h1 h2 d
  by_cases e : s' = s ∧ i' = i ∧ j' = j
  · obtain ⟨rfl, rfl, rfl⟩ := e
    rw [pk_us]
    exact c
  · have hk : s' * 81 + i' * 9 + j' ≠ s * 81 + i * 9 + j := by omega
    rw [pk_un hk]
    refine h s' i' j' h1 h2 ?_
    unfold wr_D at d ⊢
    omega
theorem wr_X_row {V : Nat → Nat → Nat → wr_C} {n s i : Nat} {a0 a1 a2 : Nat → Int32} (h : wr_X V n s (i + 1) (n + 1) a0 a1 a2) : wr_X V n s i 0 a0 a1 a2 := by
  intro s' i' j' h1 h2 d
  refine h s' i' j' h1 h2 ?_
  unfold wr_D at d ⊢
  omega
theorem wr_X_in {V : Nat → Nat → Nat → wr_C} {n s i : Nat} {a0 a1 a2 : Nat → Int32} (h : wr_X V n s (i + 1) 0 a0 a1 a2) : wr_X V n s (i + 1) i a0 a1 a2 := by
  intro s' i' j' h1 h2 d
  refine h s' i' j' h1 h2 ?_
  unfold wr_D at d ⊢
  omega
theorem wr_X_next {V : Nat → Nat → Nat → wr_C} {n s : Nat} {a0 a1 a2 : Nat → Int32} (h : wr_X V n s 0 0 a0 a1 a2) : wr_X V n (s + 1) (n + 1) 0 a0 a1 a2 := by
  intro s' i' j' h1 h2 d
  refine h s' i' j' h1 h2 ?_
  unfold wr_D at d ⊢
  omega
theorem wr_Y_row {V : Nat → Nat → Nat → wr_C} {m : Int32} {n s i : Nat} {a : Nat → Int32} (h : wr_Y V m n s (i + 1) (n + 1) a) : wr_Y V m n s i 0 a := by
  intro s' i' j' h1 h2 d
  refine h s' i' j' h1 h2 ?_
  unfold wr_D at d ⊢
  omega
theorem wr_Y_in {V : Nat → Nat → Nat → wr_C} {m : Int32} {n s i : Nat} {a : Nat → Int32} (h : wr_Y V m n s (i + 1) 0 a) : wr_Y V m n s (i + 1) i a := by
  intro s' i' j' h1 h2 d
  refine h s' i' j' h1 h2 ?_
  unfold wr_D at d ⊢
  omega
theorem wr_Y_next {V : Nat → Nat → Nat → wr_C} {m : Int32} {n s : Nat} {a : Nat → Int32} (h : wr_Y V m n s 0 0 a) : wr_Y V m n (s + 1) (n + 1) 0 a := by
  intro s' i' j' h1 h2 d
  refine h s' i' j' h1 h2 ?_
  unfold wr_D at d ⊢
  omega
/-! the numbers of a cell under the component's and the reference's operations -/
theorem wr_n4 {l : Nat} (h : l < 2 ^ 31) : ¬ nI l = -4 := fun e => by
  have h1 := nI_toInt h
  rw [e, show (-4 : Int32).toInt = -4 from by decide] at h1
  omega
theorem wr_nn {l : Nat} (h : l < 2 ^ 31) : ¬ nI l < 0 := nI_pos h
theorem wr_a0 (v : wr_C) (m : Int32) (l h : Nat) : wr_x0 v + m = wr_x0 (wr_ei v (some (m, l, h))) := by
  match v with
  | none => exact Int32.zero_add m
  | some (c, a, b) => rfl
theorem wr_a1t {v : wr_C} (m : Int32) (l h : Nat) (bv : wr_bd 100000 v) (e : wr_x1 v = -4) : nI l = wr_x1 (wr_ei v (some (m, l, h))) := by
  match v, bv, e with
  | none, _, _ => rfl
  | some (c, a, b), bv, e => exact absurd e (wr_n4 (Nat.lt_of_le_of_lt bv.1 (by decide)))
theorem wr_a1l {v : wr_C} (m : Int32) {l : Nat} (h : Nat) (bv : wr_bd 100000 v) (hl : l ≤ 100000) (e : ¬ wr_x1 v = -4) (g : nI l < wr_x1 v) : nI l = wr_x1 (wr_ei v (some (m, l, h))) := by
  match v, bv, e, g with
  | none, _, e, _ => exact absurd rfl e
  | some (c, a, b), bv, _, g =>
    have ha : a ≤ 100000 := bv.1
    have g' : l < a := (nI_ltI (by omega) (by omega)).mp g
    show nI l = nI (if l < a then l else a)
    rw [if_pos g']
theorem wr_a1g {v : wr_C} (m : Int32) {l : Nat} (h : Nat) (bv : wr_bd 100000 v) (hl : l ≤ 100000) (e : ¬ wr_x1 v = -4) (g : ¬ nI l < wr_x1 v) : wr_x1 v = wr_x1 (wr_ei v (some (m, l, h))) := by
  match v, bv, e, g with
  | none, _, e, _ => exact absurd rfl e
  | some (c, a, b), bv, _, g =>
    have ha : a ≤ 100000 := bv.1
    have g' : ¬ l < a := fun z => g ((nI_ltI (by omega) (by omega)).mpr z)
    show nI a = nI (if l < a then l else a)
    rw [if_neg g']
theorem wr_a2t {v : wr_C} (m : Int32) (l h : Nat) (bv : wr_bd 100000 v) (e : wr_x2 v = -4) : nI h = wr_x2 (wr_ei v (some (m, l, h))) := by
  match v, bv, e with
  | none, _, _ => rfl
  | some (c, a, b), bv, e => exact absurd e (wr_n4 (Nat.lt_of_le_of_lt bv.2 (by decide)))
theorem wr_a2l {v : wr_C} (m : Int32) (l : Nat) {h : Nat} (bv : wr_bd 100000 v) (hl : h ≤ 100000) (e : ¬ wr_x2 v = -4) (g : wr_x2 v < nI h) : nI h = wr_x2 (wr_ei v (some (m, l, h))) := by
  match v, bv, e, g with
  | none, _, e, _ => exact absurd rfl e
  | some (c, a, b), bv, _, g =>
    have ha : b ≤ 100000 := bv.2
    have g' : b < h := (nI_ltI (by omega) (by omega)).mp g
    show nI h = nI (if b < h then h else b)
    rw [if_pos g']
theorem wr_a2g {v : wr_C} (m : Int32) (l : Nat) {h : Nat} (bv : wr_bd 100000 v) (hl : h ≤ 100000) (e : ¬ wr_x2 v = -4) (g : ¬ wr_x2 v < nI h) : wr_x2 v = wr_x2 (wr_ei v (some (m, l, h))) := by
  match v, bv, e, g with
  | none, _, e, _ => exact absurd rfl e
  | some (c, a, b), bv, _, g =>
    have ha : b ≤ 100000 := bv.2
    have g' : ¬ b < h := fun z => g ((nI_ltI (by omega) (by omega)).mpr z)
    show nI b = nI (if b < h then h else b)
    rw [if_neg g']
theorem wr_x1n {v : wr_C} (bv : wr_bd 100000 v) (e : wr_x1 v = -4) : v = none := by
  match v, bv, e with
  | none, _, _ => rfl
  | some (c, a, b), bv, e => exact absurd e (wr_n4 (Nat.lt_of_le_of_lt bv.1 (by decide)))
theorem wr_x1s {v : wr_C} (e : ¬ wr_x1 v = -4) : ∃ c l h, v = some (c, l, h) := by
  match v, e with
  | none, e => exact absurd rfl e
  | some (c, a, b), _ => exact ⟨c, a, b, rfl⟩
/-- the reference's numbers -/
def wr_m (m : Int32) : Prop := m = 0 ∨ m = 1 ∨ m = 2
theorem wr_y0n : wr_y 0 none = 0 := rfl
theorem wr_yn {m : Int32} (h : ¬ m = 0) : wr_y m none = -1 := if_neg h
theorem wr_y0s (c : Int32) (l h : Nat) : wr_y 0 (some (c, l, h)) = c := rfl
theorem wr_y1s (c : Int32) (l h : Nat) : wr_y 1 (some (c, l, h)) = nI l := rfl
theorem wr_y2s (c : Int32) (l h : Nat) : wr_y 2 (some (c, l, h)) = nI h := rfl
theorem wr_y0a (a b : wr_C) : wr_y 0 a + wr_y 0 b = wr_y 0 (wr_ei a b) := by
  match a, b with
  | none, b => rw [wr_n_ei]; exact Int32.zero_add _
  | some a, none => rw [wr_ei_n]; exact Int32.add_zero _
  | some (c, l, h), some (c', l', h') => rfl
theorem wr_y0t (e : Nat) (a b : wr_C) : wr_y 0 a * wr_y 0 b = wr_y 0 (wr_to e a b) := by
  match a, b with
  | none, b => rw [wr_n_to]; exact Int32.zero_mul
  | some a, none => rw [wr_to_n]; exact Int32.mul_zero
  | some (c, l, h), some (c', l', h') => rfl
theorem wr_yneg {m : Int32} (hm : m = 1 ∨ m = 2) {a : wr_C} (b : wr_bd 100000 a) : wr_y m a < 0 ↔ a = none := by
  match a, b with
  | none, _ =>
    refine ⟨fun _ => rfl, fun _ => ?_⟩
    rcases hm with rfl | rfl <;> decide
  | some (c, l, h), b =>
    refine ⟨fun z => ?_, fun z => nomatch z⟩
    have b1 : l ≤ 100000 := b.1
    have b2 : h ≤ 100000 := b.2
    rcases hm with rfl | rfl
    · exact absurd z (nI_pos (n := l) (by omega))
    · exact absurd z (nI_pos (n := h) (by omega))
theorem wr_ys {a : wr_C} (h : ¬ a = none) : ∃ c l h, a = some (c, l, h) := by
  match a, h with
  | none, h => exact absurd rfl h
  | some (c, l, k), _ => exact ⟨c, l, k, rfl⟩
def wr_lo : wr_C → Option Nat
  | none => none
  | some (_, l, _) => some l
def wr_on (x : Int32) : Option Nat → Int32
  | none => x
  | some q => nI q
theorem wr_x1lo (v : wr_C) : wr_x1 v = wr_on (-4) (wr_lo v) := by
  match v with
  | none => rfl
  | some (c, l, h) => rfl
theorem wr_y1lo (v : wr_C) : wr_y 1 v = wr_on (-1) (wr_lo v) := by
  match v with
  | none => rfl
  | some (c, l, h) => rfl
/-- the draft -/
def wr_dr (K C L R S : Nat → Int32) (ds st lv : Nat) : Prop :=
  ds ≤ 20 ∧ lv ≤ 10 ∧ st ≤ 8 ∧ st = wr_tp K ds ∧ (∀ t, t < st → S t = nI (wr_og K ds t)) ∧ ∀ s, s < ds → wr_ok K C L R s
theorem wr_dr_0 (K C L R S : Nat → Int32) : wr_dr K C L R S 0 0 0 :=
  ⟨by omega, by omega, by omega, rfl, fun t h => absurd h (Nat.not_lt_zero t), fun s h => absurd h (Nat.not_lt_zero s)⟩
theorem wr_dr_s {K C L R S : Nat → Int32} {ds st lv : Nat} (h : wr_dr K C L R S ds st lv) (hd : ds < 20) {k c l r : Int32} {st' lv' : Nat} (h8 : st' ≤ 8) (h10 : lv' ≤ 10) (hst : st' ≤ st + 1) (htp : (if k < 3 then st + 1 else if k < 5 then st - 1 else st) = st')
    (hc : ∃ q, q ≤ 9 ∧ c = nI q ∧ (k = 2 → q = 0))
    (ho : k = 0 ∨ k = 1 ∨ k = 2 ∨ (k = 3 ∧ 2 ≤ st ∧ l = nI (wr_og K ds (st - 2)) ∧ r = nI (wr_og K ds (st - 1))) ∨ (k = 4 ∧ 2 ≤ st ∧ l = nI (wr_og K ds (st - 2)) ∧ r = nI (wr_og K ds (st - 1))) ∨ (k = 5 ∧ 1 ≤ st ∧ l = nI (wr_og K ds (st - 1)))) :
    wr_dr (upd K ds k) (upd C ds c) (upd L ds l) (upd R ds r) (upd S (st' - 1) (nI ds)) (ds + 1) st' lv' := by
  obtain ⟨h1, h2, h3, h4, h5, h6⟩ := h
  have kk : ∀ t, t < ds → upd K ds k t = K t := fun t ht => pk_un (by omega)
  have e1 : wr_tp (upd K ds k) ds = st := by rw [wr_tp_cg ds kk, h4]
  have e2 : wr_tp (upd K ds k) (ds + 1) = st' := by rw [wr_tp_s, pk_us, e1, htp]
  refine ⟨by omega, h10, h8, e2.symm, fun t ht => ?_, fun s hs => ?_⟩
  · rw [wr_og_s, e2]
    by_cases e : t + 1 = st'
    · rw [if_pos e, show st' - 1 = t from by omega, pk_us]
    · rw [if_neg e, pk_un (by omega), wr_og_cg ds kk]
      exact h5 t (by omega)
  · by_cases e : s = ds
    · subst e
      unfold wr_ok
      rw [pk_us, pk_us, pk_us, pk_us, e1, wr_og_cg s kk, wr_og_cg s kk]
      exact ⟨hc, ho⟩
    · exact wr_ok_cg (fun t ht => kk t (by omega)) (pk_un e) (pk_un e) (pk_un e) (h6 s (by omega))
/-- the expression in use -/
def wr_us (K C L R : Nat → Int32) (z : Nat) : Prop := 1 ≤ z ∧ z ≤ 20 ∧ ∀ s, s < z → wr_ok K C L R s
theorem wr_us_cg {K C L R K' C' L' R' : Nat → Int32} {z : Nat} (h1 : 1 ≤ z) (h2 : z ≤ 20) (hK : ∀ t, t < z → K' t = K t) (hC : ∀ t, t < z → C' t = C t) (hL : ∀ t, t < z → L' t = L t) (hR : ∀ t, t < z → R' t = R t) (h : ∀ s, s < z → wr_ok K C L R s) : wr_us K' C' L' R' z :=
  ⟨h1, h2, fun s hs => wr_ok_cg (fun t ht => hK t (by omega)) (hC s hs) (hL s hs) (hR s hs) (h s hs)⟩
