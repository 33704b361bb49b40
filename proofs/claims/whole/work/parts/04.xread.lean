/-! the component's walks over one window -/
theorem xa_co {post : Int32 → Prop} {a b c : Nat} {p : Int32} (hp : p = nI a) (h : post (nI (a * 81 + b * 9 + c))) : wpX_cellOf post p (nI b) (nI c) := by
  subst hp
  unfold wpX_cellOf
  rw [wr_cx]
  exact h
theorem wr_get {V : Nat → Nat → Nat → wr_C} {n s i j s' i' j' : Nat} {b0 b1 b2 c0 c1 c2 : Nat → Int32} (hn : n ≤ 8) (hi : i ≤ j) (hj : j ≤ n) (hX : wr_X V n s (i + 1) j b0 b1 b2) (o : wr_off (s * 81 + i * 9 + j) b0 b1 b2 c0 c1 c2) (h1 : i' ≤ j') (h2 : j' ≤ n) (hD : wr_D s (i + 1) j s' i' j') : wr_c (V s' i' j') (s' * 81 + i' * 9 + j') c0 c1 c2 := by
  have hk : s' * 81 + i' * 9 + j' ≠ s * 81 + i * 9 + j := by
    unfold wr_D at hD
    omega
  obtain ⟨o0, o1, o2⟩ := o _ hk
  obtain ⟨x0, x1, x2⟩ := hX s' i' j' h1 h2 hD
  exact ⟨o0.trans x0, o1.trans x1, o2.trans x2⟩
section
variable {post : SX → Prop} {ds dv st us tl : Int32} {dk dt dc dl dr sk uk ut uc ul ur tx cv : Nat → Int32}
theorem xa_addR {c0 c1 c2 : Nat → Int32} {c : Nat} {v : wr_C} {m : Int32} {l h : Nat} (hc : c < 1620) (hv : wr_c v c c0 c1 c2) (bv : wr_bd 100000 v) (hl : l ≤ 100000) (hh : h ≤ 100000) (K : ∀ d0 d1 d2, wr_off c c0 c1 c2 d0 d1 d2 → wr_c (wr_ei v (some (m, l, h))) c d0 d1 d2 → post (ds, dv, st, us, tl, dk, dt, dc, dl, dr, sk, uk, ut, uc, ul, ur, tx, d0, d1, d2, cv)) : wpX_addReadings post (ds, dv, st, us, tl, dk, dt, dc, dl, dr, sk, uk, ut, uc, ul, ur, tx, c0, c1, c2, cv) (nI c) m (nI l) (nI h) := by
  have e : (nI c).toNatClampNeg = c := nI_clamp (by omega)
  have w : vp_in (nI c) 1620 := vp_in_nI hc (by omega)
  obtain ⟨v0, v1, v2⟩ := hv
  have K38 : ∀ d0 d1 : Nat → Int32, (∀ k, k ≠ c → d0 k = c0 k ∧ d1 k = c1 k) → d0 c = wr_x0 (wr_ei v (some (m, l, h))) → d1 c = wr_x1 (wr_ei v (some (m, l, h))) → wX_addReadings_38 post (nI c) (nI h) ds dv st us tl dk dt dc dl dr sk uk ut uc ul ur tx d0 d1 c2 cv := by
    intro d0 d1 o e0 e1
    refine ⟨w, br_c (fun z => ⟨w, nm_r (e' := upd c2 c (nI h)) (by rw [e]) (K _ _ _ (fun k hk => ⟨(o k hk).1, (o k hk).2, pk_un hk⟩) ⟨e0, e1, ?_⟩)⟩) (fun z => ⟨w, br_c (fun y => K _ _ _ (fun k hk => ⟨(o k hk).1, (o k hk).2, rfl⟩) ⟨e0, e1, ?_⟩) (fun y => ⟨w, nm_r (e' := upd c2 c (nI h)) (by rw [e]) (K _ _ _ (fun k hk => ⟨(o k hk).1, (o k hk).2, pk_un hk⟩) ⟨e0, e1, ?_⟩)⟩)⟩)⟩
    · rw [e, v2] at z
      rw [pk_us]
      exact wr_a2t m l h bv z
    · rw [e, v2] at z y
      rw [v2]
      exact wr_a2g m l bv hh z (Int32.not_lt.mpr y)
    · rw [e, v2] at z y
      rw [pk_us]
      exact wr_a2l m l bv hh z (Int32.not_le.mp y)
  have K31 : ∀ d0 : Nat → Int32, (∀ k, k ≠ c → d0 k = c0 k) → d0 c = wr_x0 (wr_ei v (some (m, l, h))) → nI l = wr_x1 (wr_ei v (some (m, l, h))) → wX_addReadings_31 post (nI c) (nI l) (nI h) ds dv st us tl dk dt dc dl dr sk uk ut uc ul ur tx d0 c1 c2 cv := by
    intro d0 o e0 e1
    refine ⟨w, nm_r (e' := upd c1 c (nI l)) (by rw [e]) (K38 _ _ (fun k hk => ⟨o k hk, pk_un hk⟩) e0 ?_)⟩
    rw [pk_us]
    exact e1
  have o0 : ∀ k, k ≠ c → upd c0 c (c0 c + m) k = c0 k := fun k hk => pk_un hk
  have e0 : upd c0 c (c0 c + m) c = wr_x0 (wr_ei v (some (m, l, h))) := by
    rw [pk_us, v0]
    exact wr_a0 v m l h
  refine ⟨w, w, nm_r (e' := upd c0 c (c0 c + m)) (by rw [e]) ⟨w, br_c (fun z => K31 _ o0 e0 ?_) (fun z => ⟨w, br_c (fun y => K38 _ _ (fun k hk => ⟨o0 k hk, rfl⟩) e0 ?_) (fun y => K31 _ o0 e0 ?_)⟩)⟩⟩
  · rw [e, v1] at z
    exact wr_a1t m l h bv z
  · rw [e, v1] at z y
    rw [v1]
    exact wr_a1g m h bv hl z (Int32.not_lt.mpr y)
  · rw [e, v1] at z y
    exact wr_a1l m h bv hl z (Int32.not_le.mp y)
theorem xa_empty {c0 c1 c2 : Nat → Int32} {c i j : Nat} (hc : c < 1620) (hi : i ≤ 8) (hj : j ≤ 8) (hv : wr_c none c c0 c1 c2) (K : ∀ d0 d1 d2, wr_off c c0 c1 c2 d0 d1 d2 → wr_c (if i = j then some (1, 0, 0) else none) c d0 d1 d2 → post (ds, dv, st, us, tl, dk, dt, dc, dl, dr, sk, uk, ut, uc, ul, ur, tx, d0, d1, d2, cv)) : wpX_readEmpty post (ds, dv, st, us, tl, dk, dt, dc, dl, dr, sk, uk, ut, uc, ul, ur, tx, c0, c1, c2, cv) (nI c) (nI i) (nI j) := by
  refine pk_eq i j (fun z => ?_) (fun z => ?_)
  · rw [if_pos z] at K
    exact xa_addR (l := 0) (h := 0) (m := 1) hc hv True.intro (by omega) (by omega) (fun d0 d1 d2 o q => K d0 d1 d2 o q)
  · rw [if_neg z] at K
    exact K c0 c1 c2 (wr_off_r _ _ _ _) hv
theorem xa_pairs {c0 c1 c2 : Nat → Int32} {c a b e : Nat} {v A B : wr_C} {p3 : Int32} (hc : c < 1620) (ha : a < 1620) (hb : b < 1620) (he : e ≤ 9) (hp : p3 = nI e) (hv : wr_c v c c0 c1 c2) (hA : wr_c A a c0 c1 c2) (hB : wr_c B b c0 c1 c2) (bv : wr_bd 100000 v) (bA : wr_bd 1440 A) (bB : wr_bd 1440 B) (K : ∀ d0 d1 d2, wr_off c c0 c1 c2 d0 d1 d2 → wr_c (wr_ei v (wr_to e A B)) c d0 d1 d2 → post (ds, dv, st, us, tl, dk, dt, dc, dl, dr, sk, uk, ut, uc, ul, ur, tx, d0, d1, d2, cv)) : wpX_addPairs post (ds, dv, st, us, tl, dk, dt, dc, dl, dr, sk, uk, ut, uc, ul, ur, tx, c0, c1, c2, cv) (nI c) (nI a) (nI b) p3 := by
  subst hp
  have ea : (nI a).toNatClampNeg = a := nI_clamp (by omega)
  have wa : vp_in (nI a) 1620 := vp_in_nI ha (by omega)
  have eb : (nI b).toNatClampNeg = b := nI_clamp (by omega)
  have wb : vp_in (nI b) 1620 := vp_in_nI hb (by omega)
  obtain ⟨A0, A1, A2⟩ := hA
  obtain ⟨B0, B1, B2⟩ := hB
  refine ⟨wa, br_c (fun z => ?_) (fun z => ⟨wb, br_c (fun y => ?_) (fun y => ?_)⟩)⟩
  · rw [ea, A1] at z
    have z' := wr_x1n (wr_bd_up bA (by omega)) z
    subst z'
    rw [wr_n_to, wr_ei_n] at K
    exact K c0 c1 c2 (wr_off_r _ _ _ _) hv
  · rw [eb, B1] at y
    have y' := wr_x1n (wr_bd_up bB (by omega)) y
    subst y'
    rw [wr_to_n, wr_ei_n] at K
    exact K c0 c1 c2 (wr_off_r _ _ _ _) hv
  · rw [ea, A1] at z
    rw [eb, B1] at y
    obtain ⟨ca, la, ha', rfl⟩ := wr_x1s z
    obtain ⟨cb, lb, hb', rfl⟩ := wr_x1s y
    have b1 : la ≤ 1440 := bA.1
    have b2 : ha' ≤ 1440 := bA.2
    have b3 : lb ≤ 1440 := bB.1
    have b4 : hb' ≤ 1440 := bB.2
    have A1' : c1 a = nI la := A1
    have A2' : c2 a = nI ha' := A2
    have B1' : c1 b = nI lb := B1
    have B2' : c2 b = nI hb' := B2
    have A0' : c0 a = ca := A0
    have B0' : c0 b = cb := B0
    refine ⟨wa, wb, nm_r (e' := nI (la + lb + e)) (by rw [ea, eb, A1', B1', nI_add, nI_add]) ⟨wa, wb, nm_r (e' := nI (ha' + hb' + e)) (by rw [ea, eb, A2', B2', nI_add, nI_add]) ⟨wa, wb, ?_⟩⟩⟩
    rw [ea, eb, A0', B0']
    exact xa_addR hc hv bv (by omega) (by omega) (fun d0 d1 d2 o q => K d0 d1 d2 o q)
theorem xa_cell {c0 c1 c2 : Nat → Int32} {c a : Nat} {v A : wr_C} (hc : c < 1620) (ha : a < 1620) (hv : wr_c v c c0 c1 c2) (hA : wr_c A a c0 c1 c2) (bv : wr_bd 100000 v) (bA : wr_bd 1440 A) (K : ∀ d0 d1 d2, wr_off c c0 c1 c2 d0 d1 d2 → wr_c (wr_ei v A) c d0 d1 d2 → post (ds, dv, st, us, tl, dk, dt, dc, dl, dr, sk, uk, ut, uc, ul, ur, tx, d0, d1, d2, cv)) : wpX_addCell post (ds, dv, st, us, tl, dk, dt, dc, dl, dr, sk, uk, ut, uc, ul, ur, tx, c0, c1, c2, cv) (nI c) (nI a) := by
  have ea : (nI a).toNatClampNeg = a := nI_clamp (by omega)
  have wa : vp_in (nI a) 1620 := vp_in_nI ha (by omega)
  obtain ⟨A0, A1, A2⟩ := hA
  refine ⟨wa, br_c (fun z => ?_) (fun z => ⟨wa, wa, wa, ?_⟩)⟩
  · rw [ea, A1] at z
    have z' := wr_x1n (wr_bd_up bA (by omega)) z
    subst z'
    rw [wr_ei_n] at K
    exact K c0 c1 c2 (wr_off_r _ _ _ _) hv
  · rw [ea, A1] at z
    obtain ⟨ca, la, ha', rfl⟩ := wr_x1s z
    have b1 : la ≤ 1440 := bA.1
    have b2 : ha' ≤ 1440 := bA.2
    have A1' : c1 a = nI la := A1
    have A2' : c2 a = nI ha' := A2
    have A0' : c0 a = ca := A0
    rw [ea, A0', A1', A2']
    exact xa_addR hc hv bv (by omega) (by omega) (fun d0 d1 d2 o q => K d0 d1 d2 o q)
theorem xa_seq11 {V : Nat → Nat → Nat → wr_C} {n s i j x y : Nat} {b0 b1 b2 : Nat → Int32} (hn : n ≤ 8) (hi : i ≤ j) (hj : j ≤ n) (hs : s < 20) (hx : x < s) (hy : y < s) (eL : ul s = nI x) (eR : ur s = nI y) (hX : wr_X V n s (i + 1) j b0 b1 b2) (bV : ∀ s' i' j', s' ≤ s → i' ≤ j' → j' ≤ n → wr_bd 1440 (V s' i' j'))
    (K : ∀ d0 d1 d2, wr_off (s * 81 + i * 9 + j) b0 b1 b2 d0 d1 d2 → wr_c (wr_su (fun k => wr_to 0 (V x i k) (V y k j)) i (j - i + 1)) (s * 81 + i * 9 + j) d0 d1 d2 → post (ds, dv, st, us, tl, dk, dt, dc, dl, dr, sk, uk, ut, uc, ul, ur, tx, d0, d1, d2, cv)) :
    ∀ d k m c0 c1 c2, k + d = j + 1 → i ≤ k → d < m → wr_off (s * 81 + i * 9 + j) b0 b1 b2 c0 c1 c2 → wr_c (wr_su (fun k => wr_to 0 (V x i k) (V y k j)) i (k - i)) (s * 81 + i * 9 + j) c0 c1 c2 →
    wX_readSeq_11 post (nI s) (nI i) (nI j) (nI (s * 81 + i * 9 + j)) m (nI k) ds dv st us tl dk dt dc dl dr sk uk ut uc ul ur tx c0 c1 c2 cv := by
  intro d
  induction d with
  | zero =>
    intro k m c0 c1 c2 h1 h2 h3 o q
    obtain ⟨m, rfl⟩ : ∃ m', m = m' + 1 := ⟨m - 1, by omega⟩
    rw [wX_readSeq_11]
    rw [show k - i = j - i + 1 from by omega] at q
    exact br_t (nI_lt (by omega) (by omega)) (K c0 c1 c2 o q)
  | succ d ih =>
    intro k m c0 c1 c2 h1 h2 h3 o q
    obtain ⟨m, rfl⟩ : ∃ m', m = m' + 1 := ⟨m - 1, by omega⟩
    have es : (nI s).toNatClampNeg = s := nI_clamp (by omega)
    have ws : vp_in (nI s) 20 := vp_in_nI hs (by omega)
    rw [wX_readSeq_11]
    refine br_f (nI_nlt (by omega) (by omega)) ⟨ws, xa_co (a := x) (by rw [es]; exact eL) ⟨ws, xa_co (a := y) (by rw [es]; exact eR) ?_⟩⟩
    have bs : wr_bd 100000 (wr_su (fun k => wr_to 0 (V x i k) (V y k j)) i (k - i)) := wr_su_bd _ (fun t h4 h5 => wr_to_bd (bV x i t (by omega) h4 (by omega)) (bV y t j (by omega) (by omega) hj) (by omega))
    refine xa_pairs (e := 0) (by omega) (by omega) (by omega) (by omega) rfl q (wr_get hn hi hj hX o h2 (by omega) (Or.inl hx)) (wr_get hn hi hj hX o (by omega) hj (Or.inl hy)) bs (bV x i k (by omega) h2 (by omega)) (bV y k j (by omega) (by omega) hj) (fun d0 d1 d2 o' q' => ?_)
    refine nm_r (nI_1 k) (ih (k + 1) m d0 d1 d2 (by omega) (by omega) (by omega) (wr_off_t o o') ?_)
    rw [show k + 1 - i = (k - i) + 1 from by omega, wr_su_s, show i + (k - i) = k from by omega]
    exact q'
theorem xa_pc13 {V : Nat → Nat → Nat → wr_C} {n s i j x e : Nat} {b0 b1 b2 : Nat → Int32} (hn : n ≤ 8) (hi : i < j) (hj : j ≤ n) (hs : s < 20) (hx : x < s) (he : e ≤ 9) (eL : ul s = nI x) (eC : uc s = nI e) (hX : wr_X V n s (i + 1) j b0 b1 b2) (bV : ∀ s' i' j', s' ≤ s → i' ≤ j' → j' ≤ n → wr_bd 1440 (V s' i' j'))
    (K : ∀ d0 d1 d2, wr_off (s * 81 + i * 9 + j) b0 b1 b2 d0 d1 d2 → wr_c (wr_su (fun k => wr_to e (V x i k) (V s k j)) (i + 1) (j - i)) (s * 81 + i * 9 + j) d0 d1 d2 → post (ds, dv, st, us, tl, dk, dt, dc, dl, dr, sk, uk, ut, uc, ul, ur, tx, d0, d1, d2, cv)) :
    ∀ d k m c0 c1 c2, k + d = j + 1 → i + 1 ≤ k → d < m → wr_off (s * 81 + i * 9 + j) b0 b1 b2 c0 c1 c2 → wr_c (wr_su (fun k => wr_to e (V x i k) (V s k j)) (i + 1) (k - (i + 1))) (s * 81 + i * 9 + j) c0 c1 c2 →
    wX_readPieces_13 post (nI s) (nI i) (nI j) (nI (s * 81 + i * 9 + j)) m (nI k) ds dv st us tl dk dt dc dl dr sk uk ut uc ul ur tx c0 c1 c2 cv := by
  intro d
  induction d with
  | zero =>
    intro k m c0 c1 c2 h1 h2 h3 o q
    obtain ⟨m, rfl⟩ : ∃ m', m = m' + 1 := ⟨m - 1, by omega⟩
    rw [wX_readPieces_13]
    rw [show k - (i + 1) = j - i from by omega] at q
    exact br_t (nI_lt (by omega) (by omega)) (K c0 c1 c2 o q)
  | succ d ih =>
    intro k m c0 c1 c2 h1 h2 h3 o q
    obtain ⟨m, rfl⟩ : ∃ m', m = m' + 1 := ⟨m - 1, by omega⟩
    have es : (nI s).toNatClampNeg = s := nI_clamp (by omega)
    have ws : vp_in (nI s) 20 := vp_in_nI hs (by omega)
    rw [wX_readPieces_13]
    refine br_f (nI_nlt (by omega) (by omega)) ⟨ws, xa_co (a := x) (by rw [es]; exact eL) (xa_co (a := s) rfl ⟨ws, ?_⟩)⟩
    have bs : wr_bd 100000 (wr_su (fun k => wr_to e (V x i k) (V s k j)) (i + 1) (k - (i + 1))) := wr_su_bd _ (fun t h4 h5 => wr_to_bd (bV x i t (by omega) (by omega) (by omega)) (bV s t j (by omega) (by omega) hj) (by omega))
    refine xa_pairs (e := e) (by omega) (by omega) (by omega) he (by rw [es]; exact eC) q (wr_get hn (by omega) hj hX o (by omega) (by omega) (Or.inl hx)) (wr_get hn (by omega) hj hX o (by omega) hj (Or.inr ⟨rfl, Or.inl (by omega)⟩)) bs (bV x i k (by omega) (by omega) (by omega)) (bV s k j (by omega) (by omega) hj) (fun d0 d1 d2 o' q' => ?_)
    refine nm_r (nI_1 k) (ih (k + 1) m d0 d1 d2 (by omega) (by omega) (by omega) (wr_off_t o o') ?_)
    rw [show k + 1 - (i + 1) = (k - (i + 1)) + 1 from by omega, wr_su_s, show i + 1 + (k - (i + 1)) = k from by omega]
    exact q'
theorem xa_win {K' Lt C L R : Nat → Int32} {n s i j : Nat} {c0 c1 c2 : Nat → Int32} (eK : uk = K') (eT : ut = Lt) (eC : uc = C) (eL : ul = L) (eR : ur = R) (hn : n ≤ 8) (hi : i ≤ j) (hj : j ≤ n) (hs : s < 20) (ok : wr_ok K' C L R s) (bV : ∀ s' i' j', s' ≤ s → i' ≤ j' → j' ≤ n → wr_bd 1440 (wr_V K' Lt C tx s' i' j')) (hX : wr_X (wr_V K' Lt C tx) n s (i + 1) j c0 c1 c2)
    (K : ∀ d0 d1 d2, wr_off (s * 81 + i * 9 + j) c0 c1 c2 d0 d1 d2 → wr_c (wr_V K' Lt C tx s i j) (s * 81 + i * 9 + j) d0 d1 d2 → post (ds, dv, st, us, tl, dk, dt, dc, dl, dr, sk, uk, ut, uc, ul, ur, tx, d0, d1, d2, cv)) : wpX_readWindow post (ds, dv, st, us, tl, dk, dt, dc, dl, dr, sk, uk, ut, uc, ul, ur, tx, c0, c1, c2, cv) (nI s) (nI i) (nI j) := by
  subst eK eT eC eL eR
  have cc : s * 81 + i * 9 + j < 1620 := by omega
  have e : (nI (s * 81 + i * 9 + j)).toNatClampNeg = s * 81 + i * 9 + j := nI_clamp (by omega)
  have w : vp_in (nI (s * 81 + i * 9 + j)) 1620 := vp_in_nI cc (by omega)
  have es : (nI s).toNatClampNeg = s := nI_clamp (by omega)
  have ws : vp_in (nI s) 20 := vp_in_nI hs (by omega)
  have ei : (nI i).toNatClampNeg = i := nI_clamp (by omega)
  obtain ⟨⟨q, hq, eq, q2⟩, hk⟩ := id ok
  have ec : (uc s).toNatClampNeg = q := by rw [eq]; exact nI_clamp (by omega)
  have og : 1 ≤ wr_tp uk s → ∀ t, wr_og uk s t < s := fun h t => by
    have h0 := wr_tp_le uk s
    obtain ⟨s', rfl⟩ : ∃ s', s = s' + 1 := ⟨s - 1, by omega⟩
    exact wr_og_lt uk s' t
  have o1 : wr_off (s * 81 + i * 9 + j) c0 c1 c2 (upd c0 (s * 81 + i * 9 + j) 0) (upd c1 (s * 81 + i * 9 + j) (-4)) (upd c2 (s * 81 + i * 9 + j) (-4)) := fun k hk => ⟨pk_un hk, pk_un hk, pk_un hk⟩
  have q1 : wr_c none (s * 81 + i * 9 + j) (upd c0 (s * 81 + i * 9 + j) 0) (upd c1 (s * 81 + i * 9 + j) (-4)) (upd c2 (s * 81 + i * 9 + j) (-4)) := ⟨pk_us, pk_us, pk_us⟩
  have hX1 : wr_X (wr_V uk ut uc tx) n s (i + 1) j (upd c0 (s * 81 + i * 9 + j) 0) (upd c1 (s * 81 + i * 9 + j) (-4)) (upd c2 (s * 81 + i * 9 + j) (-4)) := fun s' i' j' h1 h2 hD => wr_get hn hi hj hX o1 h1 h2 hD
  unfold wpX_readWindow
  refine xa_co (a := s) rfl ⟨w, nm_r (e' := upd c0 (s * 81 + i * 9 + j) 0) (by rw [e]) ⟨w, nm_r (e' := upd c1 (s * 81 + i * 9 + j) (-4)) (by rw [e]) ⟨w, nm_r (e' := upd c2 (s * 81 + i * 9 + j) (-4)) (by rw [e]) ⟨ws, ?_⟩⟩⟩⟩
  generalize upd c0 (s * 81 + i * 9 + j) 0 = a0 at o1 q1 hX1 ⊢
  generalize upd c1 (s * 81 + i * 9 + j) (-4) = a1 at o1 q1 hX1 ⊢
  generalize upd c2 (s * 81 + i * 9 + j) (-4) = a2 at o1 q1 hX1 ⊢
  rcases hk with k | k | k | ⟨k, t, l, r⟩ | ⟨k, t, l, r⟩ | ⟨k, t, l⟩
  · rw [wr_V0 ok i j k, ec] at K
    refine nm_r (e' := 0) (by rw [es]; exact k) (br_f (by decide) (br_f (by decide) (br_t rfl (br_c (fun z => ?_) (fun z => ?_)))))
    · rw [nI_1, nI_eq (by omega) (by omega)] at z
      refine ⟨vp_in_nI (by omega) (by omega), ws, br_c (fun y => ⟨ws, ws, ?_⟩) (fun y => ?_)⟩
      · rw [ei, es] at y
        rw [if_pos ⟨z, y⟩] at K
        rw [es, eq]
        exact xa_addR cc q1 True.intro (by omega) (by omega) (fun d0 d1 d2 o q => K d0 d1 d2 (wr_off_t o1 o) q)
      · rw [ei, es] at y
        rw [if_neg (fun h => y h.2)] at K
        exact K _ _ _ o1 q1
    · rw [nI_1, nI_eq (by omega) (by omega)] at z
      rw [if_neg (fun h => z h.1)] at K
      exact K _ _ _ o1 q1
  · rw [wr_V1 ok i j k, ec] at K
    refine nm_r (e' := 1) (by rw [es]; exact k) (br_f (by decide) (br_f (by decide) (br_f (by decide) (br_t rfl (br_c (fun z => ⟨ws, ws, ?_⟩) (fun z => ?_))))))
    · rw [nI_1, nI_eq (by omega) (by omega)] at z
      rw [if_pos z] at K
      rw [es, eq]
      exact xa_addR cc q1 True.intro (by omega) (by omega) (fun d0 d1 d2 o q => K d0 d1 d2 (wr_off_t o1 o) q)
    · rw [nI_1, nI_eq (by omega) (by omega)] at z
      rw [if_neg z] at K
      exact K _ _ _ o1 q1
  · rw [wr_V2 ok i j k] at K
    refine nm_r (e' := 2) (by rw [es]; exact k) (br_f (by decide) (br_f (by decide) (br_f (by decide) (br_f (by decide) (br_t rfl ?_)))))
    exact xa_empty cc (by omega) (by omega) q1 (fun d0 d1 d2 o q => K d0 d1 d2 (wr_off_t o1 o) q)
  · rw [wr_V3 ok i j k] at K
    refine nm_r (e' := 3) (by rw [es]; exact k) (br_f (by decide) (br_f (by decide) (br_f (by decide) (br_f (by decide) (br_f (by decide) (br_t rfl ?_))))))
    unfold wpX_readSeq
    refine xa_co (a := s) rfl ⟨j + 2, ?_⟩
    refine xa_seq11 hn hi hj hs (og (by omega) _) (og (by omega) _) l r hX1 bV (fun d0 d1 d2 o q => K d0 d1 d2 (wr_off_t o1 o) q) (j + 1 - i) i (j + 2) a0 a1 a2 (by omega) (Nat.le_refl _) (by omega) (wr_off_r _ _ _ _) ?_
    rw [Nat.sub_self]
    exact q1
  · rw [wr_V4 ok i j k] at K
    refine nm_r (e' := 4) (by rw [es]; exact k) (br_f (by decide) (br_f (by decide) (br_f (by decide) (br_f (by decide) (br_f (by decide) (br_f (by decide) (br_t rfl ?_)))))))
    unfold wpX_readAlt
    have hx := og (by omega) (wr_tp uk s - 2)
    have hy := og (by omega) (wr_tp uk s - 1)
    refine xa_co (a := s) rfl ⟨ws, xa_co (a := wr_og uk s (wr_tp uk s - 2)) (by rw [es]; exact l) ⟨ws, xa_co (a := wr_og uk s (wr_tp uk s - 1)) (by rw [es]; exact r) ?_⟩⟩
    refine xa_cell cc (by omega) q1 (wr_get hn hi hj hX1 (wr_off_r _ _ _ _) hi hj (Or.inl hx)) True.intro (bV _ i j (by omega) hi hj) (fun d0 d1 d2 o q => ?_)
    rw [wr_n_ei] at q
    exact xa_cell cc (by omega) q (wr_get hn hi hj hX1 o hi hj (Or.inl hy)) (wr_bd_up (bV _ i j (by omega) hi hj) (by omega)) (bV _ i j (by omega) hi hj) (fun f0 f1 f2 o' q' => K f0 f1 f2 (wr_off_t o1 (wr_off_t o o')) q')
  · refine nm_r (e' := 5) (by rw [es]; exact k) (br_f (by decide) (br_f (by decide) (br_f (by decide) (br_f (by decide) (br_f (by decide) (br_f (by decide) (br_f (by decide) (br_t rfl ?_))))))))
    refine xa_empty cc (by omega) (by omega) q1 (fun d0 d1 d2 o q => ?_)
    unfold wpX_readPieces
    refine xa_co (a := s) rfl (nm_r (nI_1 i) ⟨j + 2, ?_⟩)
    by_cases z : i = j
    · subst z
      rw [wr_V5i ok i k] at K
      rw [if_pos rfl] at q
      rw [wX_readPieces_13]
      exact br_t (nI_lt (by omega) (by omega)) (K d0 d1 d2 (wr_off_t o1 o) q)
    · have hi' : i < j := by omega
      rw [wr_V5 ok i j hi' k, ec] at K
      rw [if_neg z] at q
      have hX2 : wr_X (wr_V uk ut uc tx) n s (i + 1) j d0 d1 d2 := fun s' i' j' h1 h2 hD => wr_get hn hi hj hX1 o h1 h2 hD
      refine xa_pc13 hn hi' hj hs (og t _) hq l eq hX2 bV (fun f0 f1 f2 o' q' => K f0 f1 f2 (wr_off_t o1 (wr_off_t o o')) q') (j - i) (i + 1) (j + 2) d0 d1 d2 (by omega) (Nat.le_refl _) (by omega) (wr_off_r _ _ _ _) ?_
      rw [Nat.sub_self]
      exact q
theorem xa_rt21 {J2 J15 : _} {K' Lt C L R : Nat → Int32} {n s i : Nat} (eK : uk = K') (eT : ut = Lt) (eC : uc = C) (eL : ul = L) (eR : ur = R) (eN : tl = nI n) (hn : n ≤ 8) (hi : i ≤ n) (hs : s < 20) (ok : wr_ok K' C L R s) (bV : ∀ s' i' j', s' ≤ s → i' ≤ j' → j' ≤ n → wr_bd 1440 (wr_V K' Lt C tx s' i' j'))
    (K : ∀ d0 d1 d2, wr_X (wr_V K' Lt C tx) n s (i + 1) (n + 1) d0 d1 d2 → J15 (nI i + (-1)) ds dv st us tl dk dt dc dl dr sk uk ut uc ul ur tx d0 d1 d2 cv) :
    ∀ d j m c0 c1 c2, j + d = n + 1 → i ≤ j → d < m → wr_X (wr_V K' Lt C tx) n s (i + 1) j c0 c1 c2 → wX_readText_21 post J2 J15 (nI s) (nI i) m (nI j) ds dv st us tl dk dt dc dl dr sk uk ut uc ul ur tx c0 c1 c2 cv := by
  intro d
  induction d with
  | zero =>
    intro j m c0 c1 c2 h1 h2 h3 hX
    obtain ⟨m, rfl⟩ : ∃ m', m = m' + 1 := ⟨m - 1, by omega⟩
    have ej : j = n + 1 := by omega
    subst ej
    subst eN
    rw [wX_readText_21]
    exact br_t (nI_lt (by omega) (by omega)) (nm_e (K c0 c1 c2 hX))
  | succ d ih =>
    intro j m c0 c1 c2 h1 h2 h3 hX
    obtain ⟨m, rfl⟩ : ∃ m', m = m' + 1 := ⟨m - 1, by omega⟩
    have nl : ¬ tl < nI j := by rw [eN]; exact nI_nlt (by omega) (by omega)
    rw [wX_readText_21]
    refine br_f nl (xa_win eK eT eC eL eR hn h2 (by omega) hs ok bV hX (fun d0 d1 d2 o q => ?_))
    exact nm_r (nI_1 j) (ih (j + 1) m d0 d1 d2 (by omega) (by omega) (by omega) (wr_X_put hn hi (by omega) hX o q))
theorem xa_rt15 {J2 : _} {K' Lt C L R : Nat → Int32} {n s : Nat} (eK : uk = K') (eT : ut = Lt) (eC : uc = C) (eL : ul = L) (eR : ur = R) (eN : tl = nI n) (hn : n ≤ 8) (hs : s < 20) (ok : wr_ok K' C L R s) (bV : ∀ s' i' j', s' ≤ s → i' ≤ j' → j' ≤ n → wr_bd 1440 (wr_V K' Lt C tx s' i' j'))
    (K : ∀ d0 d1 d2, wr_X (wr_V K' Lt C tx) n s 0 0 d0 d1 d2 → J2 (nI (s + 1)) ds dv st us tl dk dt dc dl dr sk uk ut uc ul ur tx d0 d1 d2 cv) :
    ∀ e m c0 c1 c2, e ≤ n + 1 → e < m → wr_X (wr_V K' Lt C tx) n s e 0 c0 c1 c2 → wX_readText_15 post J2 (nI s) m (nI e + (-1)) ds dv st us tl dk dt dc dl dr sk uk ut uc ul ur tx c0 c1 c2 cv := by
  intro e
  induction e with
  | zero =>
    intro m c0 c1 c2 h1 h2 hX
    obtain ⟨m, rfl⟩ : ∃ m', m = m' + 1 := ⟨m - 1, by omega⟩
    rw [wX_readText_15]
    exact br_t (by decide) (nm_r (nI_1 s) (K c0 c1 c2 hX))
  | succ e ih =>
    intro m c0 c1 c2 h1 h2 hX
    obtain ⟨m, rfl⟩ : ∃ m', m = m' + 1 := ⟨m - 1, by omega⟩
    rw [wX_readText_15, pk_m1]
    refine br_f (nI_pos (by omega)) ⟨n + 3, ?_⟩
    exact xa_rt21 eK eT eC eL eR eN hn (by omega) hs ok bV (fun d0 d1 d2 hY => ih m d0 d1 d2 (by omega) (by omega) (wr_X_row hY)) (n + 1 - e) e (n + 3) c0 c1 c2 (by omega) (Nat.le_refl _) (by omega) (wr_X_in hX)
theorem xa_rt2 {K' Lt C L R : Nat → Int32} {n z : Nat} (eK : uk = K') (eT : ut = Lt) (eC : uc = C) (eL : ul = L) (eR : ur = R) (eN : tl = nI n) (eZ : us = nI z) (hn : n ≤ 8) (hz : z ≤ 20) (ok : ∀ s, s < z → wr_ok K' C L R s)
    (K : ∀ d0 d1 d2, wr_X (wr_V K' Lt C tx) n z (n + 1) 0 d0 d1 d2 → post (ds, dv, st, us, tl, dk, dt, dc, dl, dr, sk, uk, ut, uc, ul, ur, tx, d0, d1, d2, cv)) :
    ∀ d s m c0 c1 c2, s + d = z → d < m → wr_X (wr_V K' Lt C tx) n s (n + 1) 0 c0 c1 c2 → wX_readText_2 post m (nI s) ds dv st us tl dk dt dc dl dr sk uk ut uc ul ur tx c0 c1 c2 cv := by
  intro d
  induction d with
  | zero =>
    intro s m c0 c1 c2 h1 h2 hX
    obtain ⟨m, rfl⟩ : ∃ m', m = m' + 1 := ⟨m - 1, by omega⟩
    have e : s = z := by omega
    subst e
    have nl : us ≤ nI s := by rw [eZ]; exact nI_le (by omega) (by omega)
    rw [wX_readText_2]
    exact br_t nl (K c0 c1 c2 hX)
  | succ d ih =>
    intro s m c0 c1 c2 h1 h2 hX
    obtain ⟨m, rfl⟩ : ∃ m', m = m' + 1 := ⟨m - 1, by omega⟩
    have nl : ¬ us ≤ nI s := by rw [eZ]; exact nI_ge (by omega) (by omega)
    rw [wX_readText_2]
    refine br_f nl ⟨n + 3, ?_⟩
    have e : tl = nI (n + 1) + (-1) := by rw [pk_m1]; exact eN
    have W := xa_rt15 (post := post) (ds := ds) (dv := dv) (st := st) (us := us) (dk := dk) (dt := dt) (dc := dc) (dl := dl) (dr := dr) (sk := sk) (cv := cv) (J2 := wX_readText_2 post m) eK eT eC eL eR eN hn (by omega) (ok s (by omega)) (fun s' i' j' h1 h2 h3 => wr_V_b ok hz (by omega) h2 (by omega)) (fun d0 d1 d2 hY => ih (s + 1) m d0 d1 d2 (by omega) (by omega) (wr_X_next hY)) (n + 1) (n + 3) c0 c1 c2 (Nat.le_refl _) (by omega) hX
    rw [← e] at W
    exact W
theorem xa_read {n z : Nat} {c0 c1 c2 : Nat → Int32} (hn : n ≤ 8) (hu : wr_us uk uc ul ur z)
    (K : ∀ d0 d1 d2, wr_X (wr_V uk ut uc tx) n z (n + 1) 0 d0 d1 d2 → post (ds, dv, st, (nI z), (nI n), dk, dt, dc, dl, dr, sk, uk, ut, uc, ul, ur, tx, d0, d1, d2, cv)) : wpX_readText post (ds, dv, st, (nI z), (nI n), dk, dt, dc, dl, dr, sk, uk, ut, uc, ul, ur, tx, c0, c1, c2, cv) :=
  ⟨z + 1, xa_rt2 rfl rfl rfl rfl rfl rfl rfl hn hu.2.1 hu.2.2 K z 0 (z + 1) c0 c1 c2 (Nat.zero_add z) (Nat.lt_succ_self z) (fun s' i' j' h1 h2 hD => by
    unfold wr_D at hD
    omega)⟩
end
