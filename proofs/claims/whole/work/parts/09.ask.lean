/-! the questions -/
theorem wr_x0y (v : wr_C) : wr_x0 v = wr_y 0 v := by
  match v with
  | none => rfl
  | some (c, l, h) => rfl
section
variable {post : Int32 → Prop} {ds dv st us ys yd ya yz p0 p1 : Int32} {dk dt dc dl dr sk uk ut uc ul ur tx c0 c1 c2 cv eo el ec po pl pc va op : Nat → Int32} {n : Nat}
theorem xc_win0 (h : p0 < 0 ∨ p1 < p0 ∨ nI n < p1) (k : post 0) : wpX_isWindow post (ds, dv, st, us, (nI n), dk, dt, dc, dl, dr, sk, uk, ut, uc, ul, ur, tx, c0, c1, c2, cv) p0 p1 := by
  by_cases a : p0 < 0
  · exact br_t a k
  · by_cases b : p1 < p0
    · exact br_f a (br_t b k)
    · exact br_f a (br_f b (br_t ((h.resolve_left a).resolve_left b) k))
theorem xc_win1 {i j : Nat} (hi : i ≤ j) (hj : j ≤ n) (hn : n ≤ 8) (k : post 1) : wpX_isWindow post (ds, dv, st, us, (nI n), dk, dt, dc, dl, dr, sk, uk, ut, uc, ul, ur, tx, c0, c1, c2, cv) (nI i) (nI j) :=
  br_f (nI_pos (by omega)) (br_f (nI_nlt (by omega) (by omega)) (br_f (nI_nlt (by omega) (by omega)) k))
theorem yc_win0 (h : p0 < 0 ∨ p1 < p0 ∨ nI n < p1) (k : post 0) : wpY_window post (ys, yd, ya, yz, (nI n), eo, el, ec, po, pl, pc, tx, va, op) p0 p1 := by
  by_cases a : p0 < 0
  · exact br_t a k
  · by_cases b : p1 < p0
    · exact br_f a (br_t b k)
    · exact br_f a (br_f b (br_t ((h.resolve_left a).resolve_left b) k))
theorem yc_win1 {i j : Nat} (hi : i ≤ j) (hj : j ≤ n) (hn : n ≤ 8) (k : post 1) : wpY_window post (ys, yd, ya, yz, (nI n), eo, el, ec, po, pl, pc, tx, va, op) (nI i) (nI j) :=
  br_f (nI_pos (by omega)) (br_f (nI_nlt (by omega) (by omega)) (br_f (nI_nlt (by omega) (by omega)) k))
end
theorem xc_ij {p0 p1 : Int32} {n : Nat} (hn : n ≤ 8) (h : ¬ (p0 < 0 ∨ p1 < p0 ∨ nI n < p1)) : ∃ i j, i ≤ j ∧ j ≤ n ∧ p0 = nI i ∧ p1 = nI j := by
  have a : ¬ p0 < 0 := fun z => h (Or.inl z)
  have b : ¬ p1 < p0 := fun z => h (Or.inr (Or.inl z))
  have c : ¬ nI n < p1 := fun z => h (Or.inr (Or.inr z))
  obtain ⟨i, hi, rfl⟩ := nI_of a
  have a' : ¬ p1 < 0 := fun z => b (Int32.lt_of_lt_of_le z (nI_pos' hi))
  obtain ⟨j, hj, rfl⟩ := nI_of a'
  rw [nI_ltI (by omega) (by omega)] at b c
  exact ⟨i, j, by omega, by omega, rfl, rfl⟩
theorem i_vc_ways {k : Nat} {u : SX} {v : SY} (I : i_Rel k u v) (hk : k + 3 ≤ 1536) (v1 : Int32) (v2 : Int32) : wpX_ways (fun r u' => wpY_ways (fun r' v' => r' = r ∧ i_Rel (k + 3) u' v') v v1 v2) u v1 v2 := by
  have J := I
  obtain ⟨dk, dt, dc, dl, dr, sk, uk, ut, uc, ul, ur, tx, c0, c1, c2, cv, va, op, d, s, l, z, n, rfl, rfl, hd, hu, hn⟩ := I
  obtain ⟨u1, u2, u3⟩ := id hu
  unfold wpX_ways
  by_cases g : v1 < 0 ∨ v2 < v1 ∨ nI n < v2
  · exact xc_win0 g (br_t rfl (by unfold wpY_ways; exact yc_win0 g (br_t rfl ⟨rfl, J⟩)))
  · obtain ⟨i, j, hi, hj, rfl, rfl⟩ := xc_ij hn g
    refine xc_win1 hi hj hn (br_f (by decide) (xa_read hn hu (fun d0 d1 d2 hX => xa_ans u1 ⟨vp_in_nI (by omega) (by omega), ?_⟩)))
    unfold wpY_ways
    refine yc_win1 hi hj hn (br_f (by decide) (ya_read (Or.inl rfl) hn hu (fun va' op' hY => ya_whole u1 u2 hn hi hj hY ⟨?_, ?_⟩)))
    · rw [nI_clamp (by omega), (hX (z - 1) i j hi hj (Or.inl (by omega))).1, wr_x0y]
    · exact ⟨dk, dt, dc, dl, dr, sk, uk, ut, uc, ul, ur, tx, d0, d1, d2, cv, va', op', d, s, l, z, n, rfl, rfl, hd, hu, hn⟩
theorem i_vc_least {k : Nat} {u : SX} {v : SY} (I : i_Rel k u v) (hk : k + 3 ≤ 1536) (v1 : Int32) (v2 : Int32) : wpX_least (fun r u' => wpY_least (fun r' v' => r' = r ∧ i_Rel (k + 3) u' v') v v1 v2) u v1 v2 := by
  have J := I
  obtain ⟨dk, dt, dc, dl, dr, sk, uk, ut, uc, ul, ur, tx, c0, c1, c2, cv, va, op, d, s, l, z, n, rfl, rfl, hd, hu, hn⟩ := I
  obtain ⟨u1, u2, u3⟩ := id hu
  unfold wpX_least
  by_cases g : v1 < 0 ∨ v2 < v1 ∨ nI n < v2
  · exact xc_win0 g (br_t rfl (by unfold wpY_least wpY_cost; exact yc_win0 g (br_t rfl ⟨rfl, J⟩)))
  · obtain ⟨i, j, hi, hj, rfl, rfl⟩ := xc_ij hn g
    refine xc_win1 hi hj hn (br_f (by decide) (xa_read hn hu (fun d0 d1 d2 hX => xa_ans u1 ⟨vp_in_nI (by omega) (by omega), ?_⟩)))
    unfold wpY_least wpY_cost
    rw [nI_clamp (by omega), (hX (z - 1) i j hi hj (Or.inl (by omega))).2.1]
    have b := wr_V_b (Lt := ut) (tx := tx) u3 u2 (s := z - 1) (by omega) hi (by omega)
    refine yc_win1 hi hj hn (br_f (by decide) (ya_read (Or.inr (Or.inl rfl)) hn hu (fun va' op' hY => ya_whole u1 u2 hn hi hj hY ?_)))
    have R : i_Rel (k + 3) ((nI d), (nI l), (nI s), (nI z), (nI n), dk, dt, dc, dl, dr, sk, uk, ut, uc, ul, ur, tx, d0, d1, d2, cv) ((nI d), (nI s), (nI l), (nI z), (nI n), dk, dt, dc, uk, ut, uc, tx, va', op') := ⟨dk, dt, dc, dl, dr, sk, uk, ut, uc, ul, ur, tx, d0, d1, d2, cv, va', op', d, s, l, z, n, rfl, rfl, hd, hu, hn⟩
    cases hv : wr_V uk ut uc tx (z - 1) i j with
    | none => exact br_f (by decide) ⟨rfl, R⟩
    | some q =>
      obtain ⟨c, a, e⟩ := q
      rw [hv] at b
      have b1 : a ≤ 1440 := b.1
      exact br_t (nI_pos' (n := a) (by omega)) ⟨rfl, R⟩
theorem i_vc_most {k : Nat} {u : SX} {v : SY} (I : i_Rel k u v) (hk : k + 3 ≤ 1536) (v1 : Int32) (v2 : Int32) : wpX_most (fun r u' => wpY_most (fun r' v' => r' = r ∧ i_Rel (k + 3) u' v') v v1 v2) u v1 v2 := by
  have J := I
  obtain ⟨dk, dt, dc, dl, dr, sk, uk, ut, uc, ul, ur, tx, c0, c1, c2, cv, va, op, d, s, l, z, n, rfl, rfl, hd, hu, hn⟩ := I
  obtain ⟨u1, u2, u3⟩ := id hu
  unfold wpX_most
  by_cases g : v1 < 0 ∨ v2 < v1 ∨ nI n < v2
  · exact xc_win0 g (br_t rfl (by unfold wpY_most wpY_cost; exact yc_win0 g (br_t rfl ⟨rfl, J⟩)))
  · obtain ⟨i, j, hi, hj, rfl, rfl⟩ := xc_ij hn g
    refine xc_win1 hi hj hn (br_f (by decide) (xa_read hn hu (fun d0 d1 d2 hX => xa_ans u1 ⟨vp_in_nI (by omega) (by omega), ?_⟩)))
    unfold wpY_most wpY_cost
    rw [nI_clamp (by omega), (hX (z - 1) i j hi hj (Or.inl (by omega))).2.2]
    have b := wr_V_b (Lt := ut) (tx := tx) u3 u2 (s := z - 1) (by omega) hi (by omega)
    refine yc_win1 hi hj hn (br_f (by decide) (ya_read (Or.inr (Or.inr rfl)) hn hu (fun va' op' hY => ya_whole u1 u2 hn hi hj hY ?_)))
    have R : i_Rel (k + 3) ((nI d), (nI l), (nI s), (nI z), (nI n), dk, dt, dc, dl, dr, sk, uk, ut, uc, ul, ur, tx, d0, d1, d2, cv) ((nI d), (nI s), (nI l), (nI z), (nI n), dk, dt, dc, uk, ut, uc, tx, va', op') := ⟨dk, dt, dc, dl, dr, sk, uk, ut, uc, ul, ur, tx, d0, d1, d2, cv, va', op', d, s, l, z, n, rfl, rfl, hd, hu, hn⟩
    cases hv : wr_V uk ut uc tx (z - 1) i j with
    | none => exact br_f (by decide) ⟨rfl, R⟩
    | some q =>
      obtain ⟨c, e, a⟩ := q
      rw [hv] at b
      have b1 : a ≤ 1440 := b.2
      exact br_t (nI_pos' (n := a) (by omega)) ⟨rfl, R⟩
/-- sums over the windows of a start, and over all starts -/
def wr_rw (g : Nat → Nat → Int32 → Int32) (i : Nat) : Nat → Nat → Int32 → Int32
  | 0, _, a => a
  | d + 1, j, a => wr_rw g i d (j + 1) (g i j a)
def wr_al (g : Nat → Nat → Int32 → Int32) (n : Nat) : Nat → Nat → Int32 → Int32
  | 0, _, a => a
  | d + 1, i, a => wr_al g n d (i + 1) (wr_rw g i (n + 1 - i) i a)
def wr_gw (V : Nat → Nat → wr_C) (i j : Nat) (a : Int32) : Int32 :=
  match V i j with
  | none => a
  | some _ => a + 1
def wr_ga (V : Nat → Nat → wr_C) (i j : Nat) (a : Int32) : Int32 := a + wr_x0 (V i j)
/-- the longest: the last j below i + d whose window has a reading -/
def wr_lg (V : Nat → Nat → wr_C) (i : Nat) : Nat → Int32
  | 0 => -4
  | d + 1 => match V i (i + d) with
    | none => wr_lg V i d
    | some _ => nI (i + d)
section
variable {ds dv st us tl : Int32} {dk dt dc dl dr sk uk ut uc ul ur tx c0 c1 c2 cv : Nat → Int32} {V : Nat → Nat → Nat → wr_C} {n z : Nat} {post : Int32 → SX → Prop}
theorem xd_w18 {J8 : Int32 → Int32 → Prop} {i : Nat} (eZ : us = nI z) (eN : tl = nI n) (h1 : 1 ≤ z) (h2 : z ≤ 20) (hn : n ≤ 8) (hi : i ≤ n) (bV : ∀ i j, i ≤ j → j ≤ n → wr_bd 1440 (V (z - 1) i j)) (hX : wr_X V n z (n + 1) 0 c0 c1 c2) :
    ∀ d j f a, j + d = n + 1 → i ≤ j → d < f → J8 (wr_rw (wr_gw (V (z - 1))) i d j a) (nI (i + 1)) → wX_windows_18 post J8 (nI i) ds dv st us tl dk dt dc dl dr sk uk ut uc ul ur tx c0 c1 c2 cv f a (nI j) := by
  subst eZ eN
  intro d
  induction d with
  | zero =>
    intro j f a e hij hf h
    obtain ⟨f, rfl⟩ : ∃ f', f = f' + 1 := ⟨f - 1, by omega⟩
    rw [wX_windows_18]
    exact br_t (nI_lt (by omega) (by omega)) (nm_r (nI_1 i) h)
  | succ d ih =>
    intro j f a e hij hf h
    obtain ⟨f, rfl⟩ : ∃ f', f = f' + 1 := ⟨f - 1, by omega⟩
    rw [wX_windows_18]
    have hx := (hX (z - 1) i j hij (by omega) (Or.inl (by omega))).2.1
    refine br_f (nI_nlt (by omega) (by omega)) (xa_ans h1 ⟨vp_in_nI (by omega) (by omega), ?_⟩)
    rw [nI_clamp (by omega), hx]
    have h' : J8 (wr_rw (wr_gw (V (z - 1))) i d (j + 1) (wr_gw (V (z - 1)) i j a)) (nI (i + 1)) := h
    have b := bV i j hij (by omega)
    unfold wr_gw at h'
    cases hv : V (z - 1) i j with
    | none =>
      rw [hv] at h'
      exact br_t rfl (nm_r (nI_1 j) (ih (j + 1) f a (by omega) (by omega) (by omega) h'))
    | some q =>
      obtain ⟨c, l, e⟩ := q
      rw [hv] at h' b
      have b1 : l ≤ 1440 := b.1
      exact br_f (wr_n4 (l := l) (by omega)) (nm_e (nm_r (nI_1 j) (ih (j + 1) f (a + 1) (by omega) (by omega) (by omega) h')))
theorem xd_w8 (eZ : us = nI z) (eN : tl = nI n) (h1 : 1 ≤ z) (h2 : z ≤ 20) (hn : n ≤ 8) (bV : ∀ i j, i ≤ j → j ≤ n → wr_bd 1440 (V (z - 1) i j)) (hX : wr_X V n z (n + 1) 0 c0 c1 c2) :
    ∀ d i f a, i + d = n + 1 → d < f → post (wr_al (wr_gw (V (z - 1))) n d i a) (ds, dv, st, us, tl, dk, dt, dc, dl, dr, sk, uk, ut, uc, ul, ur, tx, c0, c1, c2, cv) → wX_windows_8 post ds dv st us tl dk dt dc dl dr sk uk ut uc ul ur tx c0 c1 c2 cv f a (nI i) := by
  intro d
  induction d with
  | zero =>
    intro i f a e hf h
    obtain ⟨f, rfl⟩ : ∃ f', f = f' + 1 := ⟨f - 1, by omega⟩
    have nl : tl < nI i := by rw [eN]; exact nI_lt (by omega) (by omega)
    rw [wX_windows_8]
    exact br_t nl h
  | succ d ih =>
    intro i f a e hf h
    obtain ⟨f, rfl⟩ : ∃ f', f = f' + 1 := ⟨f - 1, by omega⟩
    have nl : ¬ tl < nI i := by rw [eN]; exact nI_nlt (by omega) (by omega)
    rw [wX_windows_8]
    exact br_f nl ⟨n + 3, xd_w18 eZ eN h1 h2 hn (by omega) bV hX (n + 1 - i) i (n + 3) a (by omega) (Nat.le_refl _) (by omega) (ih (i + 1) f _ (by omega) (by omega) h)⟩
theorem xd_a18 {J8 : Int32 → Int32 → Prop} {i : Nat} (eZ : us = nI z) (eN : tl = nI n) (h1 : 1 ≤ z) (h2 : z ≤ 20) (hn : n ≤ 8) (hi : i ≤ n) (hX : wr_X V n z (n + 1) 0 c0 c1 c2) :
    ∀ d j f a, j + d = n + 1 → i ≤ j → d < f → J8 (wr_rw (wr_ga (V (z - 1))) i d j a) (nI (i + 1)) → wX_allWays_18 post J8 (nI i) ds dv st us tl dk dt dc dl dr sk uk ut uc ul ur tx c0 c1 c2 cv f a (nI j) := by
  subst eZ eN
  intro d
  induction d with
  | zero =>
    intro j f a e hij hf h
    obtain ⟨f, rfl⟩ : ∃ f', f = f' + 1 := ⟨f - 1, by omega⟩
    rw [wX_allWays_18]
    exact br_t (nI_lt (by omega) (by omega)) (nm_r (nI_1 i) h)
  | succ d ih =>
    intro j f a e hij hf h
    obtain ⟨f, rfl⟩ : ∃ f', f = f' + 1 := ⟨f - 1, by omega⟩
    rw [wX_allWays_18]
    have hx := (hX (z - 1) i j hij (by omega) (Or.inl (by omega))).1
    refine br_f (nI_nlt (by omega) (by omega)) (xa_ans h1 ⟨vp_in_nI (by omega) (by omega), ?_⟩)
    rw [nI_clamp (by omega), hx]
    exact nm_e (nm_r (nI_1 j) (ih (j + 1) f _ (by omega) (by omega) (by omega) h))
theorem xd_a8 (eZ : us = nI z) (eN : tl = nI n) (h1 : 1 ≤ z) (h2 : z ≤ 20) (hn : n ≤ 8) (hX : wr_X V n z (n + 1) 0 c0 c1 c2) :
    ∀ d i f a, i + d = n + 1 → d < f → post (wr_al (wr_ga (V (z - 1))) n d i a) (ds, dv, st, us, tl, dk, dt, dc, dl, dr, sk, uk, ut, uc, ul, ur, tx, c0, c1, c2, cv) → wX_allWays_8 post ds dv st us tl dk dt dc dl dr sk uk ut uc ul ur tx c0 c1 c2 cv f a (nI i) := by
  intro d
  induction d with
  | zero =>
    intro i f a e hf h
    obtain ⟨f, rfl⟩ : ∃ f', f = f' + 1 := ⟨f - 1, by omega⟩
    have nl : tl < nI i := by rw [eN]; exact nI_lt (by omega) (by omega)
    rw [wX_allWays_8]
    exact br_t nl h
  | succ d ih =>
    intro i f a e hf h
    obtain ⟨f, rfl⟩ : ∃ f', f = f' + 1 := ⟨f - 1, by omega⟩
    have nl : ¬ tl < nI i := by rw [eN]; exact nI_nlt (by omega) (by omega)
    rw [wX_allWays_8]
    exact br_f nl ⟨n + 3, xd_a18 eZ eN h1 h2 hn (by omega) hX (n + 1 - i) i (n + 3) a (by omega) (Nat.le_refl _) (by omega) (ih (i + 1) f _ (by omega) (by omega) h)⟩
theorem wr_dn {i : Nat} (h : i ≤ 100) : nI i + (-1) < nI i := by
  cases i with
  | zero => decide
  | succ i =>
    rw [pk_m1]
    exact nI_lt (by omega) (by omega)
theorem xd_l23 {i : Nat} (eZ : us = nI z) (h1 : 1 ≤ z) (h2 : z ≤ 20) (hn : n ≤ 8) (bV : ∀ i j, i ≤ j → j ≤ n → wr_bd 1440 (V (z - 1) i j)) (hX : wr_X V n z (n + 1) 0 c0 c1 c2) :
    ∀ d f, i + d ≤ n + 1 → d < f → post (wr_lg (V (z - 1)) i d) (ds, dv, st, us, tl, dk, dt, dc, dl, dr, sk, uk, ut, uc, ul, ur, tx, c0, c1, c2, cv) → wX_longest_23 post (nI i) ds dv st us tl dk dt dc dl dr sk uk ut uc ul ur tx c0 c1 c2 cv f (nI (i + d) + (-1)) := by
  subst eZ
  intro d
  induction d with
  | zero =>
    intro f e hf h
    obtain ⟨f, rfl⟩ : ∃ f', f = f' + 1 := ⟨f - 1, by omega⟩
    rw [wX_longest_23]
    exact br_t (wr_dn (by omega)) h
  | succ d ih =>
    intro f e hf h
    obtain ⟨f, rfl⟩ : ∃ f', f = f' + 1 := ⟨f - 1, by omega⟩
    rw [wX_longest_23, show i + (d + 1) = (i + d) + 1 from rfl, pk_m1]
    have hx := (hX (z - 1) i (i + d) (by omega) (by omega) (Or.inl (by omega))).2.1
    refine br_f (nI_nlt (by omega) (by omega)) (xa_ans h1 ⟨vp_in_nI (by omega) (by omega), ?_⟩)
    rw [nI_clamp (n := (z - 1) * 81 + i * 9 + (i + d)) (by omega), hx]
    have b := bV i (i + d) (by omega) (by omega)
    unfold wr_lg at h
    cases hv : V (z - 1) i (i + d) with
    | none =>
      rw [hv] at h
      exact br_t rfl (nm_e (ih f (by omega) (by omega) h))
    | some q =>
      obtain ⟨c, l, e⟩ := q
      rw [hv] at h b
      have b1 : l ≤ 1440 := b.1
      exact br_f (wr_n4 (l := l) (by omega)) h
end
section
variable {ys yd ya yz yn : Int32} {eo el ec po pl pc tx va op : Nat → Int32} {V : Nat → Nat → Nat → wr_C} {n z : Nat} {post : Int32 → SY → Prop}
theorem yd_w19 {J9 : Int32 → Int32 → Prop} {i : Nat} (eZ : yz = nI z) (eN : yn = nI n) (h1 : 1 ≤ z) (h2 : z ≤ 20) (hn : n ≤ 8) (hi : i ≤ n) (bV : ∀ i j, i ≤ j → j ≤ n → wr_bd 1440 (V (z - 1) i j)) (hY : wr_Y V 1 n z (n + 1) 0 va) :
    ∀ d j f a, j + d = n + 1 → i ≤ j → d < f → J9 (wr_rw (wr_gw (V (z - 1))) i d j a) (nI (i + 1)) → wY_windows_19 post J9 (nI i) ys yd ya yz yn eo el ec po pl pc tx va op f a (nI j) := by
  subst eZ eN
  intro d
  induction d with
  | zero =>
    intro j f a e hij hf h
    obtain ⟨f, rfl⟩ : ∃ f', f = f' + 1 := ⟨f - 1, by omega⟩
    rw [wY_windows_19]
    exact br_t (nI_lt (by omega) (by omega)) (nm_r (nI_1 i) h)
  | succ d ih =>
    intro j f a e hij hf h
    obtain ⟨f, rfl⟩ : ∃ f', f = f' + 1 := ⟨f - 1, by omega⟩
    rw [wY_windows_19]
    refine br_f (nI_nlt (by omega) (by omega)) (ya_whole h1 h2 hn hij (by omega) hY ?_)
    have h' : J9 (wr_rw (wr_gw (V (z - 1))) i d (j + 1) (wr_gw (V (z - 1)) i j a)) (nI (i + 1)) := h
    have b := bV i j hij (by omega)
    unfold wr_gw at h'
    cases hv : V (z - 1) i j with
    | none =>
      rw [hv] at h'
      exact br_t (by decide) (nm_r (nI_1 j) (ih (j + 1) f a (by omega) (by omega) (by omega) h'))
    | some q =>
      obtain ⟨c, l, e⟩ := q
      rw [hv] at h' b
      have b1 : l ≤ 1440 := b.1
      exact br_f (nI_pos (n := l) (by omega)) (nm_e (nm_r (nI_1 j) (ih (j + 1) f (a + 1) (by omega) (by omega) (by omega) h')))
theorem yd_w9 (eZ : yz = nI z) (eN : yn = nI n) (h1 : 1 ≤ z) (h2 : z ≤ 20) (hn : n ≤ 8) (bV : ∀ i j, i ≤ j → j ≤ n → wr_bd 1440 (V (z - 1) i j)) (hY : wr_Y V 1 n z (n + 1) 0 va) :
    ∀ d i f a, i + d = n + 1 → d < f → post (wr_al (wr_gw (V (z - 1))) n d i a) (ys, yd, ya, yz, yn, eo, el, ec, po, pl, pc, tx, va, op) → wY_windows_9 post ys yd ya yz yn eo el ec po pl pc tx va op f a (nI i) := by
  intro d
  induction d with
  | zero =>
    intro i f a e hf h
    obtain ⟨f, rfl⟩ : ∃ f', f = f' + 1 := ⟨f - 1, by omega⟩
    have nl : yn < nI i := by rw [eN]; exact nI_lt (by omega) (by omega)
    rw [wY_windows_9]
    exact br_t nl h
  | succ d ih =>
    intro i f a e hf h
    obtain ⟨f, rfl⟩ : ∃ f', f = f' + 1 := ⟨f - 1, by omega⟩
    have nl : ¬ yn < nI i := by rw [eN]; exact nI_nlt (by omega) (by omega)
    rw [wY_windows_9]
    exact br_f nl ⟨n + 3, yd_w19 eZ eN h1 h2 hn (by omega) bV hY (n + 1 - i) i (n + 3) a (by omega) (Nat.le_refl _) (by omega) (ih (i + 1) f _ (by omega) (by omega) h)⟩
theorem yd_a19 {J9 : Int32 → Int32 → Prop} {i : Nat} (eZ : yz = nI z) (eN : yn = nI n) (h1 : 1 ≤ z) (h2 : z ≤ 20) (hn : n ≤ 8) (hi : i ≤ n) (hY : wr_Y V 0 n z (n + 1) 0 va) :
    ∀ d j f a, j + d = n + 1 → i ≤ j → d < f → J9 (wr_rw (wr_ga (V (z - 1))) i d j a) (nI (i + 1)) → wY_allWays_19 post J9 (nI i) ys yd ya yz yn eo el ec po pl pc tx va op f a (nI j) := by
  subst eZ eN
  intro d
  induction d with
  | zero =>
    intro j f a e hij hf h
    obtain ⟨f, rfl⟩ : ∃ f', f = f' + 1 := ⟨f - 1, by omega⟩
    rw [wY_allWays_19]
    exact br_t (nI_lt (by omega) (by omega)) (nm_r (nI_1 i) h)
  | succ d ih =>
    intro j f a e hij hf h
    obtain ⟨f, rfl⟩ : ∃ f', f = f' + 1 := ⟨f - 1, by omega⟩
    rw [wY_allWays_19]
    refine br_f (nI_nlt (by omega) (by omega)) (ya_whole h1 h2 hn hij (by omega) hY ?_)
    rw [← wr_x0y]
    exact nm_e (nm_r (nI_1 j) (ih (j + 1) f _ (by omega) (by omega) (by omega) h))
theorem yd_a9 (eZ : yz = nI z) (eN : yn = nI n) (h1 : 1 ≤ z) (h2 : z ≤ 20) (hn : n ≤ 8) (hY : wr_Y V 0 n z (n + 1) 0 va) :
    ∀ d i f a, i + d = n + 1 → d < f → post (wr_al (wr_ga (V (z - 1))) n d i a) (ys, yd, ya, yz, yn, eo, el, ec, po, pl, pc, tx, va, op) → wY_allWays_9 post ys yd ya yz yn eo el ec po pl pc tx va op f a (nI i) := by
  intro d
  induction d with
  | zero =>
    intro i f a e hf h
    obtain ⟨f, rfl⟩ : ∃ f', f = f' + 1 := ⟨f - 1, by omega⟩
    have nl : yn < nI i := by rw [eN]; exact nI_lt (by omega) (by omega)
    rw [wY_allWays_9]
    exact br_t nl h
  | succ d ih =>
    intro i f a e hf h
    obtain ⟨f, rfl⟩ : ∃ f', f = f' + 1 := ⟨f - 1, by omega⟩
    have nl : ¬ yn < nI i := by rw [eN]; exact nI_nlt (by omega) (by omega)
    rw [wY_allWays_9]
    exact br_f nl ⟨n + 3, yd_a19 eZ eN h1 h2 hn (by omega) hY (n + 1 - i) i (n + 3) a (by omega) (Nat.le_refl _) (by omega) (ih (i + 1) f _ (by omega) (by omega) h)⟩
theorem yd_l24 {i : Nat} (eZ : yz = nI z) (h1 : 1 ≤ z) (h2 : z ≤ 20) (hn : n ≤ 8) (bV : ∀ i j, i ≤ j → j ≤ n → wr_bd 1440 (V (z - 1) i j)) (hY : wr_Y V 1 n z (n + 1) 0 va) :
    ∀ d f, i + d ≤ n + 1 → d < f → post (wr_lg (V (z - 1)) i d) (ys, yd, ya, yz, yn, eo, el, ec, po, pl, pc, tx, va, op) → wY_longest_24 post (nI i) ys yd ya yz yn eo el ec po pl pc tx va op f (nI (i + d) + (-1)) := by
  subst eZ
  intro d
  induction d with
  | zero =>
    intro f e hf h
    obtain ⟨f, rfl⟩ : ∃ f', f = f' + 1 := ⟨f - 1, by omega⟩
    rw [wY_longest_24]
    exact br_t (wr_dn (by omega)) h
  | succ d ih =>
    intro f e hf h
    obtain ⟨f, rfl⟩ : ∃ f', f = f' + 1 := ⟨f - 1, by omega⟩
    rw [wY_longest_24, show i + (d + 1) = (i + d) + 1 from rfl, pk_m1]
    refine br_f (nI_nlt (by omega) (by omega)) (ya_whole h1 h2 hn (by omega) (by omega) hY ?_)
    have b := bV i (i + d) (by omega) (by omega)
    unfold wr_lg at h
    cases hv : V (z - 1) i (i + d) with
    | none =>
      rw [hv] at h
      exact br_t (by decide) (nm_e (ih f (by omega) (by omega) h))
    | some q =>
      obtain ⟨c, l, e⟩ := q
      rw [hv] at h b
      have b1 : l ≤ 1440 := b.1
      exact br_f (nI_pos (n := l) (by omega)) h
end
theorem i_vc_windows {k : Nat} {u : SX} {v : SY} (I : i_Rel k u v) (hk : k + 3 ≤ 1536) : wpX_windows (fun r u' => wpY_windows (fun r' v' => r' = r ∧ i_Rel (k + 3) u' v') v) u := by
  obtain ⟨dk, dt, dc, dl, dr, sk, uk, ut, uc, ul, ur, tx, c0, c1, c2, cv, va, op, d, s, l, z, n, rfl, rfl, hd, hu, hn⟩ := I
  obtain ⟨u1, u2, u3⟩ := id hu
  have bV : ∀ i j, i ≤ j → j ≤ n → wr_bd 1440 (wr_V uk ut uc tx (z - 1) i j) := fun i j hi hj => wr_V_b u3 u2 (by omega) hi (by omega)
  unfold wpX_windows
  refine xa_read hn hu (fun d0 d1 d2 hX => ⟨n + 2, xd_w8 rfl rfl u1 u2 hn bV hX (n + 1) 0 (n + 2) 0 (by omega) (by omega) ?_⟩)
  unfold wpY_windows
  refine ya_read (Or.inr (Or.inl rfl)) hn hu (fun va' op' hY => ⟨n + 2, yd_w9 rfl rfl u1 u2 hn bV hY (n + 1) 0 (n + 2) 0 (by omega) (by omega) ⟨rfl, ?_⟩⟩)
  exact ⟨dk, dt, dc, dl, dr, sk, uk, ut, uc, ul, ur, tx, d0, d1, d2, cv, va', op', d, s, l, z, n, rfl, rfl, hd, hu, hn⟩
theorem i_vc_allWays {k : Nat} {u : SX} {v : SY} (I : i_Rel k u v) (hk : k + 3 ≤ 1536) : wpX_allWays (fun r u' => wpY_allWays (fun r' v' => r' = r ∧ i_Rel (k + 3) u' v') v) u := by
  obtain ⟨dk, dt, dc, dl, dr, sk, uk, ut, uc, ul, ur, tx, c0, c1, c2, cv, va, op, d, s, l, z, n, rfl, rfl, hd, hu, hn⟩ := I
  obtain ⟨u1, u2, u3⟩ := id hu
  unfold wpX_allWays
  refine xa_read hn hu (fun d0 d1 d2 hX => ⟨n + 2, xd_a8 rfl rfl u1 u2 hn hX (n + 1) 0 (n + 2) 0 (by omega) (by omega) ?_⟩)
  unfold wpY_allWays
  refine ya_read (Or.inl rfl) hn hu (fun va' op' hY => ⟨n + 2, yd_a9 rfl rfl u1 u2 hn hY (n + 1) 0 (n + 2) 0 (by omega) (by omega) ⟨rfl, ?_⟩⟩)
  exact ⟨dk, dt, dc, dl, dr, sk, uk, ut, uc, ul, ur, tx, d0, d1, d2, cv, va', op', d, s, l, z, n, rfl, rfl, hd, hu, hn⟩
theorem i_vc_longest {k : Nat} {u : SX} {v : SY} (I : i_Rel k u v) (hk : k + 3 ≤ 1536) (v1 : Int32) : wpX_longest (fun r u' => wpY_longest (fun r' v' => r' = r ∧ i_Rel (k + 3) u' v') v v1) u v1 := by
  have J := I
  obtain ⟨dk, dt, dc, dl, dr, sk, uk, ut, uc, ul, ur, tx, c0, c1, c2, cv, va, op, d, s, l, z, n, rfl, rfl, hd, hu, hn⟩ := I
  obtain ⟨u1, u2, u3⟩ := id hu
  have bV : ∀ i j, i ≤ j → j ≤ n → wr_bd 1440 (wr_V uk ut uc tx (z - 1) i j) := fun i j hi hj => wr_V_b u3 u2 (by omega) hi (by omega)
  by_cases a : v1 < 0
  · exact br_t a (br_t a ⟨rfl, J⟩)
  · by_cases b : v1 ≤ nI n
    · obtain ⟨i, hi, rfl⟩ := nI_of a
      have hin : i ≤ n := (nI_leI (by omega) (by omega)).mp b
      have e : nI (i + (n + 1 - i)) + (-1) = nI n := by
        rw [show i + (n + 1 - i) = n + 1 from by omega, pk_m1]
      refine br_f a (br_t b (xa_read hn hu (fun d0 d1 d2 hX => ⟨n + 2, ?_⟩)))
      have R : ∀ va' op', i_Rel (k + 3) ((nI d), (nI l), (nI s), (nI z), (nI n), dk, dt, dc, dl, dr, sk, uk, ut, uc, ul, ur, tx, d0, d1, d2, cv) ((nI d), (nI s), (nI l), (nI z), (nI n), dk, dt, dc, uk, ut, uc, tx, va', op') := fun va' op' => ⟨dk, dt, dc, dl, dr, sk, uk, ut, uc, ul, ur, tx, d0, d1, d2, cv, va', op', d, s, l, z, n, rfl, rfl, hd, hu, hn⟩
      have W := xd_l23 (i := i) (post := fun r u' => wpY_longest (fun r' v' => r' = r ∧ i_Rel (k + 3) u' v') ((nI d), (nI s), (nI l), (nI z), (nI n), dk, dt, dc, uk, ut, uc, tx, va, op) (nI i)) (ds := nI d) (dv := nI l) (st := nI s) (tl := nI n) (dk := dk) (dt := dt) (dc := dc) (dl := dl) (dr := dr) (sk := sk) (uk := uk) (ut := ut) (uc := uc) (ul := ul) (ur := ur) (tx := tx) (cv := cv) rfl u1 u2 hn bV hX (n + 1 - i) (n + 2) (by omega) (by omega) ?_
      · rw [e] at W
        exact W
      · refine br_f a (br_t b (ya_read (Or.inr (Or.inl rfl)) hn hu (fun va' op' hY => ⟨n + 2, ?_⟩)))
        have W := yd_l24 (i := i) (post := fun r' v' => r' = wr_lg (wr_V uk ut uc tx (z - 1)) i (n + 1 - i) ∧ i_Rel (k + 3) ((nI d), (nI l), (nI s), (nI z), (nI n), dk, dt, dc, dl, dr, sk, uk, ut, uc, ul, ur, tx, d0, d1, d2, cv) v') (ys := nI d) (yd := nI s) (ya := nI l) (yn := nI n) (eo := dk) (el := dt) (ec := dc) (po := uk) (pl := ut) (pc := uc) (tx := tx) (op := op') rfl u1 u2 hn bV hY (n + 1 - i) (n + 2) (by omega) (by omega) ⟨rfl, R va' op'⟩
        rw [e] at W
        exact W
    · exact br_f a (br_f b (br_f a (br_f b ⟨rfl, J⟩)))
