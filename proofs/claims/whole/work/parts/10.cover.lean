/-! cover -/
def wr_p (V : Nat → Nat → wr_C) (i j : Nat) : Option Nat := wr_lo (V i j)
theorem wr_p_b {V : Nat → Nat → wr_C} {n : Nat} (bV : ∀ i j, i ≤ j → j ≤ n → wr_bd 1440 (V i j)) : wr_pb (wr_p V) n := by
  intro i j q hi hj h
  have b := bV i j (by omega) hj
  unfold wr_p at h
  cases hv : V i j with
  | none =>
    rw [hv] at h
    cases h
  | some y =>
    obtain ⟨c, l, e⟩ := y
    rw [hv] at h b
    cases h
    exact b.1
theorem wr_bs_n {p : Nat → Nat → Option Nat} {f : Nat → Nat} {j b e : Nat} (h : p e j = none) : wr_bs p f j b (e + 1) = wr_bs p f j b e := by simp only [wr_bs, h]
theorem wr_bs_s {p : Nat → Nat → Option Nat} {f : Nat → Nat} {j b e q : Nat} (h : p e j = some q) : wr_bs p f j b (e + 1) = if f e + q < wr_bs p f j b e then f e + q else wr_bs p f j b e := by simp only [wr_bs, h]
section
variable {ds dv st us tl : Int32} {dk dt dc dl dr sk uk ut uc ul ur tx c0 c1 c2 cv : Nat → Int32} {V : Nat → Nat → Nat → wr_C} {n z : Nat}
theorem xe_up14 {post : Int32 → Prop} {j b : Nat} (eZ : us = nI z) (h1 : 1 ≤ z) (h2 : z ≤ 20) (hn : n ≤ 8) (hj : j ≤ n) (hb : b ≤ 200) (bV : ∀ i j, i ≤ j → j ≤ n → wr_bd 1440 (V (z - 1) i j)) (hX : wr_X V n z (n + 1) 0 c0 c1 c2) (hc : ∀ t, t < j → cv t = nI (wr_cc (wr_p (V (z - 1))) t)) (K : post (nI (wr_bs (wr_p (V (z - 1))) (wr_cc (wr_p (V (z - 1)))) j b j))) :
    ∀ d e f, e + d = j → d < f → wX_cheapestCoverUpTo_14 post (nI j) ds dv st us tl dk dt dc dl dr sk uk ut uc ul ur tx c0 c1 c2 cv f (nI (wr_bs (wr_p (V (z - 1))) (wr_cc (wr_p (V (z - 1)))) j b e)) (nI e) := by
  subst eZ
  intro d
  induction d with
  | zero =>
    intro e f he hf
    obtain ⟨f, rfl⟩ : ∃ f', f = f' + 1 := ⟨f - 1, by omega⟩
    have ee : e = j := by omega
    subst ee
    rw [wX_cheapestCoverUpTo_14]
    exact br_t (nI_le (by omega) (by omega)) K
  | succ d ih =>
    intro e f he hf
    obtain ⟨f, rfl⟩ : ∃ f', f = f' + 1 := ⟨f - 1, by omega⟩
    have W := ih (e + 1) f (by omega) (by omega)
    have hx := (hX (z - 1) e j (by omega) hj (Or.inl (by omega))).2.1
    have bs := wr_bs_le (p := wr_p (V (z - 1))) (f := wr_cc (wr_p (V (z - 1)))) (j := j) (b := b) e
    have bc := wr_cc_le (wr_p (V (z - 1))) e
    have ee : (nI e).toNatClampNeg = e := nI_clamp (by omega)
    have we : vp_in (nI e) 9 := vp_in_nI (by omega) (by omega)
    rw [wX_cheapestCoverUpTo_14]
    refine br_f (nI_ge (by omega) (by omega)) (xa_ans h1 ⟨vp_in_nI (by omega) (by omega), nm_r (e' := wr_on (-4) (wr_p (V (z - 1)) e j)) (by rw [nI_clamp (by omega), hx, wr_x1lo]; rfl) ?_⟩)
    cases hp : wr_p (V (z - 1)) e j with
    | none =>
      rw [wr_bs_n hp] at W
      exact br_t rfl (nm_r (nI_1 e) W)
    | some q =>
      have hq := wr_p_b bV e j q (by omega) hj hp
      rw [wr_bs_s hp] at W
      refine br_f (wr_n4 (l := q) (by omega)) ⟨we, ?_⟩
      rw [ee, hc e (by omega)]
      show ((_ ≤ nI _ + nI q → _) ∧ (¬ (_ ≤ nI _ + nI q) → _))
      rw [nI_add]
      refine pk_le (wr_bs (wr_p (V (z - 1))) (wr_cc (wr_p (V (z - 1)))) j b e) (wr_cc (wr_p (V (z - 1))) e + q) (fun g => ?_) (fun g => ⟨we, nm_r (e' := nI (wr_cc (wr_p (V (z - 1))) e + q)) (nI_add _ _) (nm_r (nI_1 e) ?_)⟩)
      · rw [if_neg (by omega)] at W
        exact nm_r (nI_1 e) W
      · rw [if_pos g] at W
        exact W
theorem xe_up {post : Int32 → Prop} {j : Nat} (eZ : us = nI z) (h1 : 1 ≤ z) (h2 : z ≤ 20) (hn : n ≤ 8) (hj : j + 1 ≤ n) (bV : ∀ i j, i ≤ j → j ≤ n → wr_bd 1440 (V (z - 1) i j)) (hX : wr_X V n z (n + 1) 0 c0 c1 c2) (hc : ∀ t, t < j + 1 → cv t = nI (wr_cc (wr_p (V (z - 1))) t)) (K : post (nI (wr_cc (wr_p (V (z - 1))) (j + 1)))) : wpX_cheapestCoverUpTo post (ds, dv, st, us, tl, dk, dt, dc, dl, dr, sk, uk, ut, uc, ul, ur, tx, c0, c1, c2, cv) (nI (j + 1)) := by
  have bc := wr_cc_le (wr_p (V (z - 1))) j
  rw [wr_cc_s] at K
  refine ⟨by rw [nI_pred]; exact vp_in_nI (by omega) (by omega), nm_r (e' := nI (wr_cc (wr_p (V (z - 1))) j + 12)) (by rw [nI_pred, nI_clamp (by omega), hc j (by omega)]; exact nI_add _ 12) ⟨j + 2, ?_⟩⟩
  exact xe_up14 (b := wr_cc (wr_p (V (z - 1))) j + 12) eZ h1 h2 hn hj (by omega) bV hX hc K (j + 1) 0 (j + 2) (by omega) (by omega)
theorem xe_cov {post : Int32 → SX → Prop} (eZ : us = nI z) (eN : tl = nI n) (h1 : 1 ≤ z) (h2 : z ≤ 20) (hn : n ≤ 8) (bV : ∀ i j, i ≤ j → j ≤ n → wr_bd 1440 (V (z - 1) i j)) (hX : wr_X V n z (n + 1) 0 c0 c1 c2) (K : ∀ cv, post (nI (wr_cc (wr_p (V (z - 1))) n)) (ds, dv, st, us, tl, dk, dt, dc, dl, dr, sk, uk, ut, uc, ul, ur, tx, c0, c1, c2, cv)) :
    ∀ d j f cv, j + d = n → d < f → (∀ t, t < j + 1 → cv t = nI (wr_cc (wr_p (V (z - 1))) t)) → wX_cover_13 post ds dv st us tl f (nI (j + 1)) dk dt dc dl dr sk uk ut uc ul ur tx c0 c1 c2 cv := by
  intro d
  induction d with
  | zero =>
    intro j f cv hj hf hc
    obtain ⟨f, rfl⟩ : ∃ f', f = f' + 1 := ⟨f - 1, by omega⟩
    have ej : j = n := by omega
    subst ej
    have nl : tl < nI (j + 1) := by rw [eN]; exact nI_lt (by omega) (by omega)
    have w : vp_in tl 9 := by rw [eN]; exact vp_in_nI (by omega) (by omega)
    have e : cv tl.toNatClampNeg = nI (wr_cc (wr_p (V (z - 1))) j) := by rw [eN, nI_clamp (by omega)]; exact hc j (by omega)
    rw [wX_cover_13]
    refine br_t nl ⟨w, ?_⟩
    rw [e]
    exact K cv
  | succ d ih =>
    intro j f cv hj hf hc
    obtain ⟨f, rfl⟩ : ∃ f', f = f' + 1 := ⟨f - 1, by omega⟩
    have nl : ¬ tl < nI (j + 1) := by rw [eN]; exact nI_nlt (by omega) (by omega)
    rw [wX_cover_13]
    refine br_f nl (xe_up eZ h1 h2 hn (by omega) bV hX hc ⟨vp_in_nI (by omega) (by omega), nm_r (e' := upd cv (j + 1) (nI (wr_cc (wr_p (V (z - 1))) (j + 1)))) (by rw [nI_clamp (by omega)]) (nm_r (nI_1 (j + 1)) (ih (j + 1) f _ (by omega) (by omega) (fun t ht => ?_)))⟩)
    by_cases e : t = j + 1
    · subst e
      exact pk_us
    · rw [pk_un e]
      exact hc t (by omega)
end
section
variable {ys yd ya yz yn : Int32} {eo el ec po pl pc tx va op : Nat → Int32} {V : Nat → Nat → Nat → wr_C} {n z : Nat}
theorem ye_pc {post : Int32 → Prop} {i j : Nat} (eZ : yz = nI z) (h1 : 1 ≤ z) (h2 : z ≤ 20) (hn : n ≤ 8) (hi : i < j) (hj : j ≤ n) (bV : ∀ i j, i ≤ j → j ≤ n → wr_bd 1440 (V (z - 1) i j)) (hY : wr_Y V 1 n z (n + 1) 0 va) (K : post (wr_on (-1) (wr_pc (wr_p (V (z - 1))) i j))) : wpY_pieceCost post (ys, yd, ya, yz, yn, eo, el, ec, po, pl, pc, tx, va, op) (nI i) (nI j) := by
  subst eZ
  unfold wpY_pieceCost
  refine ya_whole h1 h2 hn (by omega) hj hY ?_
  rw [nI_1, wr_y1lo]
  have hb : ∀ q, wr_p (V (z - 1)) i j = some q → q ≤ 1440 := fun q hq => wr_p_b bV i j q hi hj hq
  have e : wr_lo (V (z - 1) i j) = wr_p (V (z - 1)) i j := rfl
  rw [e]
  unfold wr_pc at K
  refine pk_eq j (i + 1) (fun g => ?_) (fun g => ?_)
  · rw [if_pos g] at K
    cases hp : wr_p (V (z - 1)) i j with
    | none =>
      rw [hp] at K
      exact br_t (by decide) K
    | some q =>
      have b := hb q hp
      rw [hp] at K
      dsimp only at K
      refine br_f (nI_pos (n := q) (by omega)) (pk_le (x := nI q) q 12 (fun g => ?_) (fun g => ?_))
      · rw [if_neg (by omega)] at K
        exact K
      · rw [if_pos g] at K
        exact K
  · rw [if_neg g] at K
    exact K
theorem ye_37 {post : Int32 → Prop} {J7 : Int32 → Int32 → Int32 → Prop} {x1 : Int32} {st sm k : Nat} (eZ : yz = nI z) (h1 : 1 ≤ z) (h2 : z ≤ 20) (hn : n ≤ 8) (hi : st ≤ k) (hj : k + 1 ≤ n) (bV : ∀ i j, i ≤ j → j ≤ n → wr_bd 1440 (V (z - 1) i j)) (hY : wr_Y V 1 n z (n + 1) 0 va) (K0 : wr_pc (wr_p (V (z - 1))) st (k + 1) = none → post (-1)) (K1 : ∀ c, wr_pc (wr_p (V (z - 1))) st (k + 1) = some c → J7 (nI (sm + c)) (nI (k + 1)) (nI (k + 1))) : wY_coverCost_37 post J7 x1 (nI sm) (nI st) (nI k) ys yd ya yz yn eo el ec po pl pc tx va op := by
  unfold wY_coverCost_37
  rw [nI_1]
  refine ye_pc eZ h1 h2 hn (by omega) hj bV hY ?_
  cases hp : wr_pc (wr_p (V (z - 1))) st (k + 1) with
  | none => exact br_f (by decide) (K0 hp)
  | some c =>
    have b := wr_pc_bd (wr_p_b bV) (by omega) hj hp
    exact br_t (nI_pos' (n := c) (by omega)) (nm_r (nI_add sm c) (nm_e (nm_e (K1 c hp))))
theorem ye_cc7 {post : Int32 → Prop} {c : Nat} (eZ : yz = nI z) (eN : yn = nI n) (h1 : 1 ≤ z) (h2 : z ≤ 20) (hn : n ≤ 8) (hc : c < 128) (bV : ∀ i j, i ≤ j → j ≤ n → wr_bd 1440 (V (z - 1) i j)) (hY : wr_Y V 1 n z (n + 1) 0 va) (K : post (wr_on (-1) (wr_mc (wr_p (V (z - 1))) n c))) :
    ∀ d k f st sm, k + d = n → d < f → wr_wk (wr_p (V (z - 1))) (wr_bit n c) k = some (st, sm) → wY_coverCost_7 post (nI c) ys yd ya yz yn eo el ec po pl pc tx va op f (nI sm) (nI st) (nI k) := by
  intro d
  induction d with
  | zero =>
    intro k f st sm hk hf hw
    obtain ⟨f, rfl⟩ : ∃ f', f = f' + 1 := ⟨f - 1, by omega⟩
    have ek : k = n := by omega
    subst ek
    have nl : yn ≤ nI k := by rw [eN]; exact nI_le (by omega) (by omega)
    rw [wY_coverCost_7]
    refine br_t nl ?_
    unfold wr_mc at K
    rw [hw] at K
    exact K
  | succ d ih =>
    intro k f st sm hk hf hw
    obtain ⟨f, rfl⟩ : ∃ f', f = f' + 1 := ⟨f - 1, by omega⟩
    have nl : ¬ yn ≤ nI k := by rw [eN]; exact nI_ge (by omega) (by omega)
    have l := (wr_wk_lo k st sm hw).1
    have ws := wr_wk_s (wr_p (V (z - 1))) (wr_bit n c) k
    rw [hw] at ws
    dsimp only at ws
    have cut : wr_bit n c k = true → wY_coverCost_37 post (wY_coverCost_7 post (nI c) ys yd ya yz yn eo el ec po pl pc tx va op f) (nI c) (nI sm) (nI st) (nI k) ys yd ya yz yn eo el ec po pl pc tx va op := fun hb => by
      rw [if_pos hb] at ws
      refine ye_37 eZ h1 h2 hn l (by omega) bV hY (fun hp => ?_) (fun q hp => ?_)
      · rw [hp] at ws
        have W := wr_wk_none ws d
        rw [show k + 1 + d = n from by omega] at W
        unfold wr_mc at K
        rw [W] at K
        exact K
      · rw [hp] at ws
        exact ih (k + 1) f (k + 1) (sm + q) (by omega) (by omega) ws
    have en : yn - 1 = nI (n - 1) := by rw [eN]; exact ya_s1 (by omega)
    rw [wY_coverCost_7]
    refine br_f nl (br_c (fun g => ?_) (fun g => br_c (fun y => ?_) (fun y => ?_)))
    · rw [en, nI_eq (by omega) (by omega)] at g
      exact cut (wr_bit_t (Or.inl (by omega)))
    · rw [wr_shift c hc k (by omega)] at y
      exact cut (wr_bit_t (Or.inr y))
    · rw [en, nI_eq (by omega) (by omega)] at g
      rw [wr_shift c hc k (by omega)] at y
      have nb : ¬ wr_bit n c k = true := wr_bit_f (fun h => h.elim (fun h => g (by omega)) y)
      rw [if_neg nb] at ws
      exact nm_r (nI_1 k) (ih (k + 1) f st sm (by omega) (by omega) ws)
theorem ye_cov {post : Int32 → SY → Prop} (eZ : yz = nI z) (eN : yn = nI n) (h1 : 1 ≤ z) (h2 : z ≤ 20) (hn : n ≤ 8) (bV : ∀ i j, i ≤ j → j ≤ n → wr_bd 1440 (V (z - 1) i j)) (hY : wr_Y V 1 n z (n + 1) 0 va) (K : post (nI (wr_cc (wr_p (V (z - 1))) n)) (ys, yd, ya, yz, yn, eo, el, ec, po, pl, pc, tx, va, op)) :
    ∀ d c f B, c + d = 128 → d < f → wr_bm (wr_p (V (z - 1))) n c B → wY_cover_15 post ys yd ya yz yn eo el ec po pl pc tx va op f (nI B) (nI c) := by
  intro d
  induction d with
  | zero =>
    intro c f B hc hf hb
    obtain ⟨f, rfl⟩ : ∃ f', f = f' + 1 := ⟨f - 1, by omega⟩
    have ec' : c = 128 := by omega
    subst ec'
    rw [wY_cover_15]
    refine br_t (nI_le (a := 128) (b := 128) (by omega) (by omega)) ?_
    rw [wr_bm_e hn hb]
    exact K
  | succ d ih =>
    intro c f B hc hf hb
    obtain ⟨f, rfl⟩ : ∃ f', f = f' + 1 := ⟨f - 1, by omega⟩
    have hB : B ≤ 12 * n := hb.2.1
    rw [wY_cover_15]
    refine br_f (nI_ge (b := 128) (by omega) (by omega)) ⟨n + 1, ?_⟩
    refine ye_cc7 eZ eN h1 h2 hn (by omega) bV hY ?_ n 0 (n + 1) 0 0 (Nat.zero_add n) (by omega) rfl
    cases hm : wr_mc (wr_p (V (z - 1))) n c with
    | none => exact br_t (by decide) (nm_r (nI_1 c) (ih (c + 1) f B (by omega) (by omega) (wr_bm_n hb hm)))
    | some w =>
      have bw := wr_mc_bd (wr_p_b bV) hm
      refine br_f (nI_pos (n := w) (by omega)) (pk_le (y := nI w) B w (fun g => ?_) (fun g => ?_))
      · exact nm_r (nI_1 c) (ih (c + 1) f B (by omega) (by omega) (wr_bm_g hb hm (by omega)))
      · exact nm_r (nI_1 c) (ih (c + 1) f w (by omega) (by omega) (wr_bm_l hb hm g))
end
theorem i_vc_cover {k : Nat} {u : SX} {v : SY} (I : i_Rel k u v) (hk : k + 3 ≤ 1536) : wpX_cover (fun r u' => wpY_cover (fun r' v' => r' = r ∧ i_Rel (k + 3) u' v') v) u := by
  obtain ⟨dk, dt, dc, dl, dr, sk, uk, ut, uc, ul, ur, tx, c0, c1, c2, cv, va, op, d, s, l, z, n, rfl, rfl, hd, hu, hn⟩ := I
  obtain ⟨u1, u2, u3⟩ := id hu
  have bV : ∀ i j, i ≤ j → j ≤ n → wr_bd 1440 (wr_V uk ut uc tx (z - 1) i j) := fun i j hi hj => wr_V_b u3 u2 (by omega) hi (by omega)
  unfold wpX_cover
  refine xa_read hn hu (fun d0 d1 d2 hX => nm_e ⟨n + 1, ?_⟩)
  refine xe_cov rfl rfl u1 u2 hn bV hX (fun cv' => ?_) n 0 (n + 1) (upd cv 0 0) (Nat.zero_add n) (by omega) (fun t ht => ?_)
  · unfold wpY_cover
    refine ya_read (Or.inr (Or.inl rfl)) hn hu (fun va' op' hY => nm_r (e' := nI (12 * n)) (pk_mul 12 n) ⟨129, ?_⟩)
    refine ye_cov rfl rfl u1 u2 hn bV hY ⟨rfl, ?_⟩ 128 0 129 (12 * n) (by omega) (by omega) (wr_bm_0 _ n)
    exact ⟨dk, dt, dc, dl, dr, sk, uk, ut, uc, ul, ur, tx, d0, d1, d2, cv', va', op', d, s, l, z, n, rfl, rfl, hd, hu, hn⟩
  · have e : t = 0 := by omega
    subst e
    exact pk_us
