/-! covering: the component's table of first pieces of the text against the reference's masks -/
/-- the price of a piece as the reference takes it -/
def wr_pc (p : Nat → Nat → Option Nat) (i j : Nat) : Option Nat :=
  if j = i + 1 then (match p i j with
    | none => some 12
    | some q => if 12 < q then some 12 else some q)
  else p i j
/-- one first piece: the best over the starts below e, from b on -/
def wr_bs (p : Nat → Nat → Option Nat) (f : Nat → Nat) (j b : Nat) : Nat → Nat
  | 0 => b
  | e + 1 => match p e j with
    | none => wr_bs p f j b e
    | some q => if f e + q < wr_bs p f j b e then f e + q else wr_bs p f j b e
/-- the table of first pieces below m -/
def wr_ct (p : Nat → Nat → Option Nat) : Nat → Nat → Nat
  | 0, _ => 0
  | m + 1, j => if j = m + 1 then wr_bs p (wr_ct p m) (m + 1) (wr_ct p m m + 12) (m + 1) else wr_ct p m j
def wr_cc (p : Nat → Nat → Option Nat) (j : Nat) : Nat := wr_ct p j j
theorem wr_bs_cg {p : Nat → Nat → Option Nat} {f g : Nat → Nat} {j b : Nat} : ∀ e, (∀ i, i < e → f i = g i) → wr_bs p f j b e = wr_bs p g j b e
  | 0, _ => rfl
  | e + 1, h => by
    simp only [wr_bs]
    rw [wr_bs_cg e (fun i hi => h i (by omega)), h e (by omega)]
theorem wr_ct_cc (p : Nat → Nat → Option Nat) : ∀ m j, j ≤ m → wr_ct p m j = wr_cc p j
  | 0, j, h => by
    have e : j = 0 := by omega
    subst e
    rfl
  | m + 1, j, h => by
    by_cases e : j = m + 1
    · subst e
      rfl
    · have e2 : wr_ct p (m + 1) j = wr_ct p m j := by
        show (if j = m + 1 then _ else _) = _
        rw [if_neg e]
      rw [e2]
      exact wr_ct_cc p m j (by omega)
theorem wr_cc_0 (p : Nat → Nat → Option Nat) : wr_cc p 0 = 0 := rfl
theorem wr_cc_s (p : Nat → Nat → Option Nat) (m : Nat) : wr_cc p (m + 1) = wr_bs p (wr_cc p) (m + 1) (wr_cc p m + 12) (m + 1) := by
  have e : wr_cc p (m + 1) = wr_bs p (wr_ct p m) (m + 1) (wr_ct p m m + 12) (m + 1) := by
    show (if m + 1 = m + 1 then _ else _) = _
    rw [if_pos rfl]
  rw [e]
  exact wr_bs_cg _ (fun i hi => wr_ct_cc p m i (by omega))
theorem wr_bs_le {p : Nat → Nat → Option Nat} {f : Nat → Nat} {j b : Nat} : ∀ e, wr_bs p f j b e ≤ b
  | 0 => Nat.le_refl _
  | e + 1 => by
    have := wr_bs_le (p := p) (f := f) (j := j) (b := b) e
    simp only [wr_bs]
    split
    · exact this
    · split <;> omega
theorem wr_bs_lo {p : Nat → Nat → Option Nat} {f : Nat → Nat} {j b : Nat} : ∀ e i q, i < e → p i j = some q → wr_bs p f j b e ≤ f i + q
  | 0, i, _, h, _ => absurd h (Nat.not_lt_zero i)
  | e + 1, i, q, h, hq => by
    by_cases ei : i = e
    · subst ei
      simp only [wr_bs, hq]
      split <;> omega
    · have := wr_bs_lo (p := p) (f := f) (j := j) (b := b) e i q (by omega) hq
      simp only [wr_bs]
      split
      · exact this
      · split <;> omega
theorem wr_bs_at {p : Nat → Nat → Option Nat} {f : Nat → Nat} {j b : Nat} : ∀ e, wr_bs p f j b e = b ∨ ∃ i q, i < e ∧ p i j = some q ∧ wr_bs p f j b e = f i + q
  | 0 => Or.inl rfl
  | e + 1 => by
    have ih := wr_bs_at (p := p) (f := f) (j := j) (b := b) e
    have ih' : wr_bs p f j b e = b ∨ ∃ i q, i < e + 1 ∧ p i j = some q ∧ wr_bs p f j b e = f i + q := by
      rcases ih with h | ⟨i, q, h1, h2, h3⟩
      · exact Or.inl h
      · exact Or.inr ⟨i, q, by omega, h2, h3⟩
    cases hq : p e j with
    | none =>
      simp only [wr_bs, hq]
      exact ih'
    | some q =>
      simp only [wr_bs, hq]
      split
      · exact Or.inr ⟨e, q, by omega, hq, rfl⟩
      · exact ih'
theorem wr_cc_le (p : Nat → Nat → Option Nat) : ∀ j, wr_cc p j ≤ 12 * j
  | 0 => Nat.le_refl _
  | m + 1 => by
    have h := wr_cc_le p m
    have h2 := wr_bs_le (p := p) (f := wr_cc p) (j := m + 1) (b := wr_cc p m + 12) (m + 1)
    rw [wr_cc_s]
    omega
/-- a piece is never cheaper than the table says -/
theorem wr_pc_lo {p : Nat → Nat → Option Nat} {i j q : Nat} (h : i < j) (hq : wr_pc p i j = some q) : wr_cc p j ≤ wr_cc p i + q := by
  obtain ⟨m, rfl⟩ : ∃ m, j = m + 1 := ⟨j - 1, by omega⟩
  have h2 := wr_bs_le (p := p) (f := wr_cc p) (j := m + 1) (b := wr_cc p m + 12) (m + 1)
  have h3 : ∀ r, p i (m + 1) = some r → wr_bs p (wr_cc p) (m + 1) (wr_cc p m + 12) (m + 1) ≤ wr_cc p i + r := fun r hr => wr_bs_lo (m + 1) i r h hr
  rw [wr_cc_s]
  unfold wr_pc at hq
  by_cases e : m + 1 = i + 1
  · rw [if_pos e] at hq
    have e' : m = i := by omega
    subst e'
    cases hp : p m (m + 1) with
    | none =>
      rw [hp] at hq
      dsimp only at hq
      cases hq
      exact h2
    | some r =>
      have h4 := h3 r hp
      rw [hp] at hq
      dsimp only at hq
      split at hq
      · cases hq
        exact h2
      · cases hq
        exact h4
  · rw [if_neg e] at hq
    exact h3 q hq
/-- the table's value is some piece's -/
theorem wr_pc_at (p : Nat → Nat → Option Nat) (m : Nat) : ∃ i q, i < m + 1 ∧ wr_pc p i (m + 1) = some q ∧ wr_cc p (m + 1) = wr_cc p i + q := by
  have lo : ∀ i q, i < m + 1 → wr_pc p i (m + 1) = some q → wr_cc p (m + 1) ≤ wr_cc p i + q := fun i q hi hq => wr_pc_lo hi hq
  have hs := wr_cc_s p m
  rcases wr_bs_at (p := p) (f := wr_cc p) (j := m + 1) (b := wr_cc p m + 12) (m + 1) with h | ⟨i, q, h1, h2, h3⟩
  · cases hp : p m (m + 1) with
    | none =>
      exact ⟨m, 12, by omega, by simp [wr_pc, hp], by omega⟩
    | some r =>
      by_cases hr : 12 < r
      · exact ⟨m, 12, by omega, by simp [wr_pc, hp, hr], by omega⟩
      · have e : wr_pc p m (m + 1) = some r := by simp [wr_pc, hp, hr]
        have := wr_bs_lo (p := p) (f := wr_cc p) (j := m + 1) (b := wr_cc p m + 12) (m + 1) m r (by omega) hp
        have := lo m r (by omega) e
        refine ⟨m, r, by omega, e, by omega⟩
  · by_cases e : m + 1 = i + 1
    · have e' : m = i := by omega
      subst e'
      by_cases hq : 12 < q
      · have := wr_bs_le (p := p) (f := wr_cc p) (j := m + 1) (b := wr_cc p m + 12) (m + 1)
        omega
      · exact ⟨m, q, by omega, by simp [wr_pc, h2, hq], by omega⟩
    · refine ⟨i, q, h1, ?_, by omega⟩
      unfold wr_pc
      rw [if_neg e]
      exact h2
/-- a walk over the places below k, cut where b says: the last start and the sum -/
def wr_wk (p : Nat → Nat → Option Nat) (b : Nat → Bool) : Nat → Option (Nat × Nat)
  | 0 => some (0, 0)
  | k + 1 => match wr_wk p b k with
    | none => none
    | some (st, sm) => if b k = true then (match wr_pc p st (k + 1) with
        | none => none
        | some c => some (k + 1, sm + c)) else some (st, sm)
theorem wr_wk_s (p : Nat → Nat → Option Nat) (b : Nat → Bool) (k : Nat) : wr_wk p b (k + 1) = match wr_wk p b k with
    | none => none
    | some (st, sm) => if b k = true then (match wr_pc p st (k + 1) with
        | none => none
        | some c => some (k + 1, sm + c)) else some (st, sm) := rfl
theorem wr_wk_cg {p : Nat → Nat → Option Nat} {b b' : Nat → Bool} : ∀ k, (∀ t, t < k → b t = b' t) → wr_wk p b k = wr_wk p b' k
  | 0, _ => rfl
  | k + 1, h => by
    rw [wr_wk_s, wr_wk_s, wr_wk_cg k (fun t ht => h t (by omega)), h k (by omega)]
theorem wr_wk_lo {p : Nat → Nat → Option Nat} {b : Nat → Bool} : ∀ k st sm, wr_wk p b k = some (st, sm) → st ≤ k ∧ wr_cc p st ≤ sm
  | 0, st, sm, h => by
    cases h
    exact ⟨Nat.le_refl _, Nat.le_refl _⟩
  | k + 1, st, sm, h => by
    rw [wr_wk_s] at h
    cases hw : wr_wk p b k with
    | none =>
      rw [hw] at h
      cases h
    | some z =>
      obtain ⟨st', sm'⟩ := z
      obtain ⟨i1, i2⟩ := wr_wk_lo k st' sm' hw
      rw [hw] at h
      dsimp only at h
      split at h
      · cases hc : wr_pc p st' (k + 1) with
        | none =>
          rw [hc] at h
          cases h
        | some c =>
          rw [hc] at h
          cases h
          have := wr_pc_lo (by omega) hc
          exact ⟨Nat.le_refl _, by omega⟩
      · cases h
        exact ⟨by omega, i2⟩
theorem wr_wk_end {p : Nat → Nat → Option Nat} {b : Nat → Bool} {k st sm : Nat} (hb : b k = true) (h : wr_wk p b (k + 1) = some (st, sm)) : st = k + 1 := by
  rw [wr_wk_s] at h
  cases hw : wr_wk p b k with
  | none =>
    rw [hw] at h
    cases h
  | some z =>
    obtain ⟨st', sm'⟩ := z
    rw [hw] at h
    dsimp only at h
    rw [if_pos hb] at h
    cases hc : wr_pc p st' (k + 1) with
    | none =>
      rw [hc] at h
      cases h
    | some c =>
      rw [hc] at h
      cases h
      rfl
/-- the table's value is reached by some cuts -/
theorem wr_wk_at (p : Nat → Nat → Option Nat) : ∀ m j, j ≤ m → ∃ b : Nat → Bool, wr_wk p b j = some (j, wr_cc p j)
  | 0, j, h => ⟨fun _ => true, by
      have e : j = 0 := by omega
      subst e
      rfl⟩
  | m + 1, j, h => by
    by_cases e : j ≤ m
    · exact wr_wk_at p m j e
    · have ej : j = m + 1 := by omega
      subst ej
      obtain ⟨i, q, h1, h2, h3⟩ := wr_pc_at p m
      obtain ⟨b, hb⟩ := wr_wk_at p m i (by omega)
      let b' : Nat → Bool := fun k => if k < i then b k else decide (k = m)
      have hi : wr_wk p b' i = some (i, wr_cc p i) := by
        rw [← hb]
        exact wr_wk_cg i (fun t ht => if_pos ht)
      have go : ∀ d, i + d ≤ m → wr_wk p b' (i + d) = some (i, wr_cc p i) := by
        intro d
        induction d with
        | zero => intro _; exact hi
        | succ d ih =>
          intro hd
          show wr_wk p b' ((i + d) + 1) = _
          rw [wr_wk_s, ih (by omega)]
          dsimp only
          rw [if_neg]
          have e1 : b' (i + d) = decide (i + d = m) := if_neg (by omega)
          rw [e1]
          simp
          omega
      refine ⟨b', ?_⟩
      have hm := go (m - i) (by omega)
      rw [show i + (m - i) = m from by omega] at hm
      rw [wr_wk_s, hm]
      dsimp only
      have e1 : b' m = true := by
        show (if m < i then b m else decide (m = m)) = true
        rw [if_neg (by omega)]
        simp
      rw [if_pos e1, h2]
      dsimp only
      rw [h3]
/-- a mask for the first n cuts -/
theorem wr_mask (b : Nat → Bool) : ∀ n, ∃ c, c < 2 ^ n ∧ ∀ k, k < n → (c / 2 ^ k % 2 = 1 ↔ b k = true)
  | 0 => ⟨0, by decide, fun k h => absurd h (Nat.not_lt_zero k)⟩
  | n + 1 => by
    obtain ⟨c, hc, h⟩ := wr_mask b n
    have hp : 2 ^ (n + 1) = 2 ^ n * 2 := Nat.pow_succ 2 n
    by_cases hb : b n = true
    · refine ⟨c + 2 ^ n, by omega, fun k hk => ?_⟩
      by_cases e : k = n
      · subst e
        rw [Nat.add_div_right _ (Nat.two_pow_pos k), Nat.div_eq_of_lt hc]
        simp [hb]
      · have hk' : k < n := by omega
        obtain ⟨d, rfl⟩ : ∃ d, n = k + d + 1 := ⟨n - k - 1, by omega⟩
        have e1 : 2 ^ (k + d + 1) = 2 ^ k * (2 * 2 ^ d) := by
          rw [Nat.pow_succ, Nat.pow_add, Nat.mul_assoc, Nat.mul_comm (2 ^ d) 2]
        rw [e1, Nat.add_mul_div_left _ _ (Nat.two_pow_pos k), ← h k hk']
        omega
    · refine ⟨c, by omega, fun k hk => ?_⟩
      by_cases e : k = n
      · subst e
        rw [Nat.div_eq_of_lt hc]
        simp [hb]
      · exact h k (by omega)
/-- the cuts of a mask, the last one forced -/
def wr_bit (n c k : Nat) : Bool := decide (k + 1 = n ∨ c / 2 ^ k % 2 = 1)
theorem wr_bit_t {n c k : Nat} (h : k + 1 = n ∨ c / 2 ^ k % 2 = 1) : wr_bit n c k = true := decide_eq_true h
theorem wr_bit_f {n c k : Nat} (h : ¬ (k + 1 = n ∨ c / 2 ^ k % 2 = 1)) : ¬ wr_bit n c k = true := fun z => h (of_decide_eq_true z)
def wr_sd : Option (Nat × Nat) → Option Nat
  | none => none
  | some (_, s) => some s
def wr_mc (p : Nat → Nat → Option Nat) (n c : Nat) : Option Nat := wr_sd (wr_wk p (wr_bit n c) n)
theorem wr_mc_lo {p : Nat → Nat → Option Nat} {n c v : Nat} (h : wr_mc p n c = some v) : wr_cc p n ≤ v := by
  unfold wr_mc at h
  cases n with
  | zero => exact Nat.zero_le v
  | succ n =>
    cases hw : wr_wk p (wr_bit (n + 1) c) (n + 1) with
    | none =>
      rw [hw] at h
      cases h
    | some z =>
      obtain ⟨st, sm⟩ := z
      have e := wr_wk_end (wr_bit_t (Or.inl rfl)) hw
      have l := (wr_wk_lo (n + 1) st sm hw).2
      rw [hw] at h
      cases h
      rw [← e]
      exact l
theorem wr_mc_at (p : Nat → Nat → Option Nat) {n : Nat} (h1 : 1 ≤ n) (h8 : n ≤ 8) : ∃ c, c < 128 ∧ wr_mc p n c = some (wr_cc p n) := by
  obtain ⟨m, rfl⟩ : ∃ m, n = m + 1 := ⟨n - 1, by omega⟩
  obtain ⟨b, hb⟩ := wr_wk_at p (m + 1) (m + 1) (Nat.le_refl _)
  have bm : b m = true := by
    by_cases z : b m = true
    · exact z
    · rw [wr_wk_s] at hb
      cases hw : wr_wk p b m with
      | none =>
        rw [hw] at hb
        cases hb
      | some y =>
        obtain ⟨st, sm⟩ := y
        have l := (wr_wk_lo m st sm hw).1
        rw [hw] at hb
        dsimp only at hb
        rw [if_neg z] at hb
        cases hb
        omega
  obtain ⟨c, hc, hk⟩ := wr_mask b m
  have hp : 2 ^ m ≤ 2 ^ 7 := Nat.pow_le_pow_right (by decide) (by omega)
  have hp' : (2 : Nat) ^ 7 = 128 := by decide
  refine ⟨c, by omega, ?_⟩
  have e : wr_wk p (wr_bit (m + 1) c) (m + 1) = wr_wk p b (m + 1) := by
    refine wr_wk_cg (m + 1) (fun t ht => ?_)
    by_cases et : t = m
    · subst et
      rw [bm]
      exact wr_bit_t (Or.inl rfl)
    · have hk' := hk t (by omega)
      by_cases z : b t = true
      · rw [z]
        exact wr_bit_t (Or.inr (hk'.mpr z))
      · have z' : b t = false := by simpa using z
        rw [z']
        refine decide_eq_false ?_
        intro y
        rcases y with y | y
        · omega
        · exact z (hk'.mp y)
  unfold wr_mc
  rw [e, hb]
  rfl
/-- prices are bounded -/
def wr_pb (p : Nat → Nat → Option Nat) (n : Nat) : Prop := ∀ i j q, i < j → j ≤ n → p i j = some q → q ≤ 1440
theorem wr_pc_bd {p : Nat → Nat → Option Nat} {n : Nat} (hp : wr_pb p n) {i j q : Nat} (h : i < j) (hj : j ≤ n) (hq : wr_pc p i j = some q) : q ≤ 1440 := by
  unfold wr_pc at hq
  split at hq
  · cases hr : p i j with
    | none =>
      rw [hr] at hq
      cases hq
      omega
    | some r =>
      have := hp i j r h hj hr
      rw [hr] at hq
      dsimp only at hq
      split at hq
      · cases hq
        omega
      · cases hq
        exact this
  · exact hp i j q h hj hq
theorem wr_wk_bd {p : Nat → Nat → Option Nat} {n : Nat} (hp : wr_pb p n) {b : Nat → Bool} : ∀ k st sm, k ≤ n → wr_wk p b k = some (st, sm) → sm ≤ 1440 * k
  | 0, st, sm, _, h => by
    cases h
    exact Nat.zero_le _
  | k + 1, st, sm, hk, h => by
    rw [wr_wk_s] at h
    cases hw : wr_wk p b k with
    | none =>
      rw [hw] at h
      cases h
    | some z =>
      obtain ⟨st', sm'⟩ := z
      have i2 := wr_wk_bd hp k st' sm' (by omega) hw
      have i1 := (wr_wk_lo k st' sm' hw).1
      rw [hw] at h
      dsimp only at h
      split at h
      · cases hc : wr_pc p st' (k + 1) with
        | none =>
          rw [hc] at h
          cases h
        | some c =>
          rw [hc] at h
          cases h
          have := wr_pc_bd hp (by omega) hk hc
          omega
      · cases h
        omega
theorem wr_mc_bd {p : Nat → Nat → Option Nat} {n c v : Nat} (hp : wr_pb p n) (h : wr_mc p n c = some v) : v ≤ 1440 * n := by
  unfold wr_mc at h
  cases hw : wr_wk p (wr_bit n c) n with
  | none =>
    rw [hw] at h
    cases h
  | some z =>
    obtain ⟨st, sm⟩ := z
    have := wr_wk_bd hp n st sm (Nat.le_refl _) hw
    rw [hw] at h
    cases h
    exact this
theorem wr_wk_none {p : Nat → Nat → Option Nat} {b : Nat → Bool} {k : Nat} (h : wr_wk p b k = none) : ∀ d, wr_wk p b (k + d) = none
  | 0 => h
  | d + 1 => by
    show wr_wk p b ((k + d) + 1) = none
    rw [wr_wk_s, wr_wk_none h d]
/-- what the reference's loop over the masks below c holds -/
def wr_bm (p : Nat → Nat → Option Nat) (n c B : Nat) : Prop := wr_cc p n ≤ B ∧ B ≤ 12 * n ∧ ∀ c', c' < c → ∀ v, wr_mc p n c' = some v → B ≤ v
theorem wr_bm_0 (p : Nat → Nat → Option Nat) (n : Nat) : wr_bm p n 0 (12 * n) := ⟨wr_cc_le p n, Nat.le_refl _, fun c' h => absurd h (Nat.not_lt_zero c')⟩
theorem wr_bm_n {p : Nat → Nat → Option Nat} {n c B : Nat} (h : wr_bm p n c B) (e : wr_mc p n c = none) : wr_bm p n (c + 1) B := by
  obtain ⟨h1, h2, h3⟩ := h
  refine ⟨h1, h2, fun c' hc v hv => ?_⟩
  by_cases ec : c' = c
  · subst ec
    rw [e] at hv
    cases hv
  · exact h3 c' (by omega) v hv
theorem wr_bm_l {p : Nat → Nat → Option Nat} {n c B w : Nat} (h : wr_bm p n c B) (e : wr_mc p n c = some w) (g : w < B) : wr_bm p n (c + 1) w := by
  obtain ⟨h1, h2, h3⟩ := h
  refine ⟨wr_mc_lo e, by omega, fun c' hc v hv => ?_⟩
  by_cases ec : c' = c
  · subst ec
    rw [e] at hv
    cases hv
    exact Nat.le_refl _
  · have := h3 c' (by omega) v hv
    omega
theorem wr_bm_g {p : Nat → Nat → Option Nat} {n c B w : Nat} (h : wr_bm p n c B) (e : wr_mc p n c = some w) (g : ¬ w < B) : wr_bm p n (c + 1) B := by
  obtain ⟨h1, h2, h3⟩ := h
  refine ⟨h1, h2, fun c' hc v hv => ?_⟩
  by_cases ec : c' = c
  · subst ec
    rw [e] at hv
    cases hv
    omega
  · exact h3 c' (by omega) v hv
theorem wr_bm_e {p : Nat → Nat → Option Nat} {n B : Nat} (h8 : n ≤ 8) (h : wr_bm p n 128 B) : B = wr_cc p n := by
  obtain ⟨h1, h2, h3⟩ := h
  by_cases e : n = 0
  · subst e
    have := wr_cc_0 p
    omega
  · obtain ⟨c, hc, hv⟩ := wr_mc_at p (n := n) (by omega) h8
    have := h3 c hc _ hv
    omega
theorem wr_shift : ∀ c, c < 128 → ∀ k, k < 8 → (((nI c >>> (nI k &&& 31)) &&& 1) = 1 ↔ c / 2 ^ k % 2 = 1) := by decide +kernel
