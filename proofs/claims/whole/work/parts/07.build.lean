/-! the relation, and the methods that build and type -/
def i_Rel (_ : Nat) (u : SX) (v : SY) : Prop := ∃ (dk dt dc dl dr sk uk ut uc ul ur tx c0 c1 c2 cv va op : Nat → Int32) (ds st lv z n : Nat), u = ((nI ds), (nI lv), (nI st), (nI z), (nI n), dk, dt, dc, dl, dr, sk, uk, ut, uc, ul, ur, tx, c0, c1, c2, cv) ∧ v = ((nI ds), (nI st), (nI lv), (nI z), (nI n), dk, dt, dc, uk, ut, uc, tx, va, op) ∧ wr_dr dk dc dl dr sk ds st lv ∧ wr_us uk uc ul ur z ∧ n ≤ 8
theorem i_up {k : Nat} {u : SX} {v : SY} (h : i_Rel k u v) : i_Rel (k + 3) u v := h
theorem i_vc0 : wpX_init (fun u => wpY_init (fun v => i_Rel 0 u v)) := by
  refine nm_e (nm_e ?_)
  refine ⟨_, _, _, fun _ => 0, fun _ => 0, fun _ => 0, _, _, _, fun _ => 0, fun _ => 0, _, _, _, _, _, _, _, 0, 0, 0, 1, 0, rfl, rfl, wr_dr_0 _ _ _ _ _, ⟨by omega, by omega, fun s hs => ?_⟩, by omega⟩
  have e : s = 0 := by omega
  subst e
  exact ⟨⟨0, by omega, rfl, fun _ => rfl⟩, Or.inr (Or.inr (Or.inl pk_us))⟩
section
variable {post : Int32 → Prop} {p : Int32}
theorem xb_let0 (h : p < 0 ∨ 2 < p) (k : post 0) : wpX_isLetter post p := by
  by_cases a : p < 0
  · exact br_t a k
  · exact br_f a (br_t (h.resolve_left a) k)
theorem xb_let1 (h1 : ¬ p < 0) (h2 : ¬ 2 < p) (k : post 1) : wpX_isLetter post p := br_f h1 (br_f h2 k)
theorem xb_cost0 (h : p < 0 ∨ 9 < p) (k : post 0) : wpX_isCost post p := by
  by_cases a : p < 0
  · exact br_t a k
  · exact br_f a (br_t (h.resolve_left a) k)
theorem xb_cost1 (h1 : ¬ p < 0) (h2 : ¬ 9 < p) (k : post 1) : wpX_isCost post p := br_f h1 (br_f h2 k)
end
section
variable {dv us tl : Int32} {dk dt dc dl dr sk uk ut uc ul ur tx c0 c1 c2 cv : Nat → Int32} {d s l : Nat}
theorem xb_rp0 {post : Int32 → Prop} (h : 20 ≤ d ∨ 8 ≤ s) (hd : d ≤ 20) (hs : s ≤ 8) (k : post 0) : wpX_hasRoomToPush post ((nI d), dv, (nI s), us, tl, dk, dt, dc, dl, dr, sk, uk, ut, uc, ul, ur, tx, c0, c1, c2, cv) :=
  pk_le 20 d (fun _ => k) (fun z => pk_le 8 s (fun _ => k) (fun y => absurd h (by omega)))
theorem xb_rp1 {post : Int32 → Prop} (hd : d < 20) (hs : s < 8) (k : post 1) : wpX_hasRoomToPush post ((nI d), dv, (nI s), us, tl, dk, dt, dc, dl, dr, sk, uk, ut, uc, ul, ur, tx, c0, c1, c2, cv) :=
  pk_le 20 d (fun z => absurd z (by omega)) (fun z => pk_le 8 s (fun z => absurd z (by omega)) (fun y => k))
theorem xb_rl0 {post : Int32 → Prop} (h : 20 ≤ d ∨ 8 ≤ s ∨ 10 ≤ l) (hd : d ≤ 20) (hs : s ≤ 8) (hl : l ≤ 10) (k : post 0) : wpX_hasRoomForLeaf post ((nI d), (nI l), (nI s), us, tl, dk, dt, dc, dl, dr, sk, uk, ut, uc, ul, ur, tx, c0, c1, c2, cv) := by
  unfold wpX_hasRoomForLeaf
  by_cases a : 20 ≤ d ∨ 8 ≤ s
  · exact xb_rp0 a hd hs (br_t rfl k)
  · exact xb_rp1 (by omega) (by omega) (br_f (by decide) (pk_le 10 l (fun _ => k) (fun y => absurd h (by omega))))
theorem xb_rl1 {post : Int32 → Prop} (hd : d < 20) (hs : s < 8) (hl : l < 10) (k : post 1) : wpX_hasRoomForLeaf post ((nI d), (nI l), (nI s), us, tl, dk, dt, dc, dl, dr, sk, uk, ut, uc, ul, ur, tx, c0, c1, c2, cv) := by
  unfold wpX_hasRoomForLeaf
  exact xb_rp1 hd hs (br_f (by decide) (pk_le 10 l (fun z => absurd z (by omega)) (fun y => k)))
theorem xb_add {post : SX → Prop} {st k a b c e : Int32} (hd : d < 20) (h : post ((nI (d + 1)), dv, st, us, tl, (upd dk d k), (upd dt d a), (upd dc d b), (upd dl d c), (upd dr d e), sk, uk, ut, uc, ul, ur, tx, c0, c1, c2, cv)) : wpX_addStep post ((nI d), dv, st, us, tl, dk, dt, dc, dl, dr, sk, uk, ut, uc, ul, ur, tx, c0, c1, c2, cv) k a b c e := by
  have e' : (nI d).toNatClampNeg = d := nI_clamp (by omega)
  have w : vp_in (nI d) 20 := vp_in_nI hd (by omega)
  exact ⟨w, nm_r (e' := upd dk d k) (by rw [e']) ⟨w, nm_r (e' := upd dt d a) (by rw [e']) ⟨w, nm_r (e' := upd dc d b) (by rw [e']) ⟨w, nm_r (e' := upd dl d c) (by rw [e']) ⟨w, nm_r (e' := upd dr d e) (by rw [e']) (nm_r (nI_1 d) h)⟩⟩⟩⟩⟩
theorem xb_push {post : Int32 → SX → Prop} (hs : s < 8) (h : post (nI (s + 1)) ((nI (d + 1)), dv, (nI (s + 1)), us, tl, dk, dt, dc, dl, dr, (upd sk s (nI d)), uk, ut, uc, ul, ur, tx, c0, c1, c2, cv)) : wpX_push post ((nI (d + 1)), dv, (nI s), us, tl, dk, dt, dc, dl, dr, sk, uk, ut, uc, ul, ur, tx, c0, c1, c2, cv) := by
  have e' : (nI s).toNatClampNeg = s := nI_clamp (by omega)
  have w : vp_in (nI s) 8 := vp_in_nI hs (by omega)
  exact ⟨w, nm_r (e' := upd sk s (nI d)) (by rw [e', nI_pred]) (nm_r (nI_1 s) h)⟩
theorem xb_leaf {post : Int32 → SX → Prop} {k a b : Int32} (hd : d < 20) (hs : s < 8) (h : post (nI (s + 1)) ((nI (d + 1)), (nI (l + 1)), (nI (s + 1)), us, tl, (upd dk d k), (upd dt d a), (upd dc d b), (upd dl d 0), (upd dr d 0), (upd sk s (nI d)), uk, ut, uc, ul, ur, tx, c0, c1, c2, cv)) : wpX_pushLeaf post ((nI d), (nI l), (nI s), us, tl, dk, dt, dc, dl, dr, sk, uk, ut, uc, ul, ur, tx, c0, c1, c2, cv) k a b := by
  unfold wpX_pushLeaf
  exact nm_r (nI_1 l) (xb_add hd (xb_push hs h))
theorem xb_joint {post : Int32 → SX → Prop} {k : Int32} {t : Nat} (hd : d < 20) (hs : t + 2 ≤ 8) (h : post (nI (t + 1)) ((nI (d + 1)), dv, (nI (t + 1)), us, tl, (upd dk d k), (upd dt d 0), (upd dc d 0), (upd dl d (sk t)), (upd dr d (sk (t + 1))), (upd sk t (nI d)), uk, ut, uc, ul, ur, tx, c0, c1, c2, cv)) : wpX_joinTopTwo post ((nI d), dv, (nI (t + 2)), us, tl, dk, dt, dc, dl, dr, sk, uk, ut, uc, ul, ur, tx, c0, c1, c2, cv) k := by
  have e2 : nI (t + 2) - 2 = nI t := ya_s2 (a := t + 2) (by omega)
  have e1 : nI (t + 2) - 1 = nI (t + 1) := nI_pred (t + 1)
  refine pk_lt d 20 (fun _ => pk_le 2 (t + 2) (fun _ => ⟨by rw [e2]; exact vp_in_nI (by omega) (by omega), by rw [e1]; exact vp_in_nI (by omega) (by omega), ?_⟩) (fun z => absurd z (by omega))) (fun z => absurd z (by omega))
  rw [e2, e1, nI_clamp (n := t) (by omega), nI_clamp (n := t + 1) (by omega)]
  exact xb_add hd (nm_r e2 (xb_push (by omega) h))
theorem xb_loop {post : Int32 → SX → Prop} {k : Int32} {t : Nat} (h1 : ¬ k < 0) (h2 : ¬ 9 < k) (hd : d < 20) (hs : t + 1 ≤ 8) (h : post (nI (t + 1)) ((nI (d + 1)), dv, (nI (t + 1)), us, tl, (upd dk d 5), (upd dt d 0), (upd dc d k), (upd dl d (sk t)), (upd dr d 0), (upd sk t (nI d)), uk, ut, uc, ul, ur, tx, c0, c1, c2, cv)) : wpX_loop post ((nI d), dv, (nI (t + 1)), us, tl, dk, dt, dc, dl, dr, sk, uk, ut, uc, ul, ur, tx, c0, c1, c2, cv) k := by
  have e1 : nI (t + 1) - 1 = nI t := nI_pred t
  unfold wpX_loop
  refine xb_cost1 h1 h2 (br_f (by decide) (pk_lt d 20 (fun _ => pk_le 1 (t + 1) (fun _ => ⟨by rw [e1]; exact vp_in_nI (by omega) (by omega), ?_⟩) (fun z => absurd z (by omega))) (fun z => absurd z (by omega))))
  rw [e1, nI_clamp (n := t) (by omega)]
  exact xb_add hd (nm_r e1 (xb_push (by omega) h))
end
section
variable {ya yz yn : Int32} {eo el ec po pl pc tx va op : Nat → Int32} {d s : Nat}
theorem yb_note {post : Int32 → SY → Prop} {yd k a b c : Int32} (hd : d < 20) (hc : yd + c = nI s) (h : post (nI s) ((nI (d + 1)), (nI s), ya, yz, yn, (upd eo d k), (upd el d a), (upd ec d b), po, pl, pc, tx, va, op)) : wpY_note post ((nI d), yd, ya, yz, yn, eo, el, ec, po, pl, pc, tx, va, op) k a b c := by
  have e' : (nI d).toNatClampNeg = d := nI_clamp (by omega)
  have w : vp_in (nI d) 20 := vp_in_nI hd (by omega)
  exact ⟨w, nm_r (e' := upd eo d k) (by rw [e']) ⟨w, nm_r (e' := upd el d a) (by rw [e']) ⟨w, nm_r (e' := upd ec d b) (by rw [e']) (nm_r (nI_1 d) (nm_r hc h))⟩⟩⟩
theorem yb_atom {post : Int32 → SY → Prop} {l : Nat} {k a b : Int32} (hd : d < 20) (hs : s < 8) (hl : l < 10) (h : post (nI (s + 1)) ((nI (d + 1)), (nI (s + 1)), (nI (l + 1)), yz, yn, (upd eo d k), (upd el d a), (upd ec d b), po, pl, pc, tx, va, op)) : wpY_atom post ((nI d), (nI s), (nI l), yz, yn, eo, el, ec, po, pl, pc, tx, va, op) k a b :=
  pk_eq d 20 (fun z => absurd z (by omega)) (fun _ => pk_eq s 8 (fun z => absurd z (by omega)) (fun _ => pk_eq l 10 (fun z => absurd z (by omega)) (fun _ => nm_r (nI_1 l) (yb_note hd (nI_1 s) h))))
theorem yb_atom0 {post : Int32 → SY → Prop} {l : Nat} {k a b : Int32} (hd : d ≤ 20) (hs : s ≤ 8) (hl : l ≤ 10) (q : 20 ≤ d ∨ 8 ≤ s ∨ 10 ≤ l) (h : post (-2) ((nI d), (nI s), (nI l), yz, yn, eo, el, ec, po, pl, pc, tx, va, op)) : wpY_atom post ((nI d), (nI s), (nI l), yz, yn, eo, el, ec, po, pl, pc, tx, va, op) k a b :=
  pk_eq d 20 (fun _ => h) (fun _ => pk_eq s 8 (fun _ => h) (fun _ => pk_eq l 10 (fun _ => h) (fun _ => absurd q (by omega))))
end
theorem xb_nat9 {p : Int32} (h1 : ¬ p < 0) (h2 : ¬ 9 < p) : ∃ q, q ≤ 9 ∧ p = nI q := by
  obtain ⟨j, hj, rfl⟩ := nI_of h1
  refine ⟨j, ?_, rfl⟩
  have : ¬ nI 9 < nI j := h2
  rw [nI_ltI (by omega) (by omega)] at this
  omega
theorem i_vc_letter {k : Nat} {u : SX} {v : SY} (I : i_Rel k u v) (hk : k + 3 ≤ 1536) (v1 : Int32) (v2 : Int32) : wpX_letter (fun r u' => wpY_letter (fun r' v' => r' = r ∧ i_Rel (k + 3) u' v') v v1 v2) u v1 v2 := by
  have J := I
  obtain ⟨dk, dt, dc, dl, dr, sk, uk, ut, uc, ul, ur, tx, c0, c1, c2, cv, va, op, d, s, l, z, n, rfl, rfl, hd, hu, hn⟩ := I
  obtain ⟨h1, h2, h3, -⟩ := id hd
  unfold wpX_letter
  by_cases a0 : v1 < 0
  · exact xb_let0 (Or.inl a0) (br_t rfl (br_t a0 ⟨rfl, J⟩))
  · by_cases a1 : 2 < v1
    · exact xb_let0 (Or.inr a1) (br_t rfl (br_f a0 (br_t a1 ⟨rfl, J⟩)))
    · refine xb_let1 a0 a1 (br_f (by decide) ?_)
      by_cases b0 : v2 < 0
      · exact xb_cost0 (Or.inl b0) (br_t rfl (br_f a0 (br_f a1 (br_t b0 ⟨rfl, J⟩))))
      · by_cases b1 : 9 < v2
        · exact xb_cost0 (Or.inr b1) (br_t rfl (br_f a0 (br_f a1 (br_f b0 (br_f (Int32.not_le.mpr b1) ⟨rfl, J⟩)))))
        · refine xb_cost1 b0 b1 (br_f (by decide) ?_)
          by_cases g : 20 ≤ d ∨ 8 ≤ s ∨ 10 ≤ l
          · exact xb_rl0 g h1 h3 h2 (br_t rfl (br_f a0 (br_f a1 (br_f b0 (br_t (Int32.not_lt.mp b1) (yb_atom0 h1 h3 h2 g ⟨rfl, J⟩))))))
          · obtain ⟨q, hq, eq⟩ := xb_nat9 b0 b1
            refine xb_rl1 (by omega) (by omega) (by omega) (br_f (by decide) (xb_leaf (by omega) (by omega) (br_f a0 (br_f a1 (br_f b0 (br_t (Int32.not_lt.mp b1) (yb_atom (by omega) (by omega) (by omega) ⟨rfl, ?_⟩)))))))
            exact ⟨_, _, _, _, _, _, _, _, _, _, _, _, _, _, _, _, _, _, d + 1, s + 1, l + 1, z, n, rfl, rfl, wr_dr_s hd (by omega) (by omega) (by omega) (by omega) rfl ⟨q, hq, eq, fun z => absurd z (by decide)⟩ (Or.inl rfl), hu, hn⟩
theorem i_vc_any {k : Nat} {u : SX} {v : SY} (I : i_Rel k u v) (hk : k + 3 ≤ 1536) (v1 : Int32) : wpX_any (fun r u' => wpY_any (fun r' v' => r' = r ∧ i_Rel (k + 3) u' v') v v1) u v1 := by
  have J := I
  obtain ⟨dk, dt, dc, dl, dr, sk, uk, ut, uc, ul, ur, tx, c0, c1, c2, cv, va, op, d, s, l, z, n, rfl, rfl, hd, hu, hn⟩ := I
  obtain ⟨h1, h2, h3, -⟩ := id hd
  unfold wpX_any
  by_cases b0 : v1 < 0
  · exact xb_cost0 (Or.inl b0) (br_t rfl (br_t b0 ⟨rfl, J⟩))
  · by_cases b1 : 9 < v1
    · exact xb_cost0 (Or.inr b1) (br_t rfl (br_f b0 (br_f (Int32.not_le.mpr b1) ⟨rfl, J⟩)))
    · refine xb_cost1 b0 b1 (br_f (by decide) ?_)
      by_cases g : 20 ≤ d ∨ 8 ≤ s ∨ 10 ≤ l
      · exact xb_rl0 g h1 h3 h2 (br_t rfl (br_f b0 (br_t (Int32.not_lt.mp b1) (yb_atom0 h1 h3 h2 g ⟨rfl, J⟩))))
      · obtain ⟨q, hq, eq⟩ := xb_nat9 b0 b1
        refine xb_rl1 (by omega) (by omega) (by omega) (br_f (by decide) (xb_leaf (by omega) (by omega) (br_f b0 (br_t (Int32.not_lt.mp b1) (yb_atom (by omega) (by omega) (by omega) ⟨rfl, ?_⟩)))))
        exact ⟨_, _, _, _, _, _, _, _, _, _, _, _, _, _, _, _, _, _, d + 1, s + 1, l + 1, z, n, rfl, rfl, wr_dr_s hd (by omega) (by omega) (by omega) (by omega) rfl ⟨q, hq, eq, fun z => absurd z (by decide)⟩ (Or.inr (Or.inl rfl)), hu, hn⟩
theorem i_vc_unit {k : Nat} {u : SX} {v : SY} (I : i_Rel k u v) (hk : k + 3 ≤ 1536) : wpX_unit (fun r u' => wpY_unit (fun r' v' => r' = r ∧ i_Rel (k + 3) u' v') v) u := by
  have J := I
  obtain ⟨dk, dt, dc, dl, dr, sk, uk, ut, uc, ul, ur, tx, c0, c1, c2, cv, va, op, d, s, l, z, n, rfl, rfl, hd, hu, hn⟩ := I
  obtain ⟨h1, h2, h3, -⟩ := id hd
  unfold wpX_unit
  by_cases g : 20 ≤ d ∨ 8 ≤ s
  · exact xb_rp0 g h1 h3 (br_t rfl (pk_eq d 20 (fun _ => ⟨rfl, J⟩) (fun _ => pk_eq s 8 (fun _ => ⟨rfl, J⟩) (fun _ => absurd g (by omega)))))
  · refine xb_rp1 (by omega) (by omega) (br_f (by decide) (xb_add (by omega) (xb_push (by omega) (pk_eq d 20 (fun z => absurd z (by omega)) (fun _ => pk_eq s 8 (fun z => absurd z (by omega)) (fun _ => yb_note (by omega) (nI_1 s) ⟨rfl, ?_⟩))))))
    exact ⟨_, _, _, _, _, _, _, _, _, _, _, _, _, _, _, _, _, _, d + 1, s + 1, l, z, n, rfl, rfl, wr_dr_s hd (by omega) (by omega) (by omega) (by omega) rfl ⟨0, by omega, rfl, fun _ => rfl⟩ (Or.inr (Or.inr (Or.inl rfl))), hu, hn⟩
theorem xb_pair {k : Nat} {u : SX} {v : SY} (I : i_Rel k u v) (q : Int32) (hq : q = 3 ∨ q = 4) : wpX_joinTopTwo (fun r u' => wpY_pair (fun r' v' => r' = r ∧ i_Rel (k + 3) u' v') v q) u q := by
  have J := I
  obtain ⟨dk, dt, dc, dl, dr, sk, uk, ut, uc, ul, ur, tx, c0, c1, c2, cv, va, op, d, s, l, z, n, rfl, rfl, hd, hu, hn⟩ := I
  obtain ⟨h1, h2, h3, h4, h5, -⟩ := id hd
  by_cases g : 20 ≤ d
  · exact pk_lt d 20 (fun z => absurd z (by omega)) (fun _ => pk_eq d 20 (fun _ => ⟨rfl, J⟩) (fun z => absurd z (by omega)))
  · by_cases g2 : s < 2
    · exact pk_lt d 20 (fun _ => pk_le 2 s (fun z => absurd z (by omega)) (fun _ => pk_eq d 20 (fun z => absurd z (by omega)) (fun _ => pk_le 2 s (fun z => absurd z (by omega)) (fun _ => ⟨rfl, J⟩)))) (fun z => absurd z (by omega))
    · obtain ⟨t, rfl⟩ : ∃ t, s = t + 2 := ⟨s - 2, by omega⟩
      refine xb_joint (by omega) h3 (pk_eq d 20 (fun z => absurd z (by omega)) (fun _ => pk_le 2 (t + 2) (fun _ => yb_note (by omega) (pk_m1 (t + 1)) ⟨rfl, ?_⟩) (fun z => absurd z (by omega))))
      refine ⟨_, _, _, _, _, _, _, _, _, _, _, _, _, _, _, _, _, _, d + 1, t + 1, l, z, n, rfl, rfl, wr_dr_s hd (by omega) (by omega) (by omega) (by omega) ?_ ⟨0, by omega, rfl, fun _ => rfl⟩ ?_, hu, hn⟩
      · rcases hq with rfl | rfl <;> rfl
      · rcases hq with rfl | rfl
        · exact Or.inr (Or.inr (Or.inr (Or.inl ⟨rfl, by omega, h5 t (by omega), h5 (t + 1) (by omega)⟩)))
        · exact Or.inr (Or.inr (Or.inr (Or.inr (Or.inl ⟨rfl, by omega, h5 t (by omega), h5 (t + 1) (by omega)⟩))))
theorem i_vc_seq {k : Nat} {u : SX} {v : SY} (I : i_Rel k u v) (hk : k + 3 ≤ 1536) : wpX_seq (fun r u' => wpY_seq (fun r' v' => r' = r ∧ i_Rel (k + 3) u' v') v) u := by
  have W := xb_pair I 3 (Or.inl rfl)
  exact W
theorem i_vc_alt {k : Nat} {u : SX} {v : SY} (I : i_Rel k u v) (hk : k + 3 ≤ 1536) : wpX_alt (fun r u' => wpY_alt (fun r' v' => r' = r ∧ i_Rel (k + 3) u' v') v) u := by
  have W := xb_pair I 4 (Or.inr rfl)
  exact W
theorem i_vc_loop {k : Nat} {u : SX} {v : SY} (I : i_Rel k u v) (hk : k + 3 ≤ 1536) (v1 : Int32) : wpX_loop (fun r u' => wpY_loop (fun r' v' => r' = r ∧ i_Rel (k + 3) u' v') v v1) u v1 := by
  have J := I
  obtain ⟨dk, dt, dc, dl, dr, sk, uk, ut, uc, ul, ur, tx, c0, c1, c2, cv, va, op, d, s, l, z, n, rfl, rfl, hd, hu, hn⟩ := I
  obtain ⟨h1, h2, h3, h4, h5, -⟩ := id hd
  by_cases b0 : v1 < 0
  · unfold wpX_loop
    exact xb_cost0 (Or.inl b0) (br_t rfl (br_t b0 ⟨rfl, J⟩))
  · by_cases b1 : 9 < v1
    · unfold wpX_loop
      exact xb_cost0 (Or.inr b1) (br_t rfl (br_f b0 (br_f (Int32.not_le.mpr b1) ⟨rfl, J⟩)))
    · have b2 := Int32.not_lt.mp b1
      by_cases g : 20 ≤ d
      · unfold wpX_loop
        exact xb_cost1 b0 b1 (br_f (by decide) (pk_lt d 20 (fun z => absurd z (by omega)) (fun _ => br_f b0 (br_t b2 (pk_eq d 20 (fun _ => ⟨rfl, J⟩) (fun z => absurd z (by omega)))))))
      · by_cases g2 : s < 1
        · unfold wpX_loop
          exact xb_cost1 b0 b1 (br_f (by decide) (pk_lt d 20 (fun _ => pk_le 1 s (fun z => absurd z (by omega)) (fun _ => br_f b0 (br_t b2 (pk_eq d 20 (fun z => absurd z (by omega)) (fun _ => pk_eq s 0 (fun _ => ⟨rfl, J⟩) (fun z => absurd z (by omega))))))) (fun z => absurd z (by omega))))
        · obtain ⟨t, rfl⟩ : ∃ t, s = t + 1 := ⟨s - 1, by omega⟩
          obtain ⟨q, hq, eq⟩ := xb_nat9 b0 b1
          refine xb_loop b0 b1 (by omega) h3 (br_f b0 (br_t b2 (pk_eq d 20 (fun z => absurd z (by omega)) (fun _ => pk_eq (t + 1) 0 (fun z => absurd z (by omega)) (fun _ => yb_note (by omega) (Int32.add_zero _) ⟨rfl, ?_⟩)))))
          exact ⟨_, _, _, _, _, _, _, _, _, _, _, _, _, _, _, _, _, _, d + 1, t + 1, l, z, n, rfl, rfl, wr_dr_s hd (by omega) (by omega) (by omega) (by omega) rfl ⟨q, hq, eq, fun z => absurd z (by decide)⟩ (Or.inr (Or.inr (Or.inr (Or.inr (Or.inr ⟨rfl, by omega, h5 t (by omega)⟩))))), hu, hn⟩
theorem i_vc_steps {k : Nat} {u : SX} {v : SY} (I : i_Rel k u v) (hk : k + 3 ≤ 1536) : wpX_steps (fun r => wpY_steps (fun r' => r' = r ∧ i_Rel (k + 3) u v) v) u := by
  have J := I
  obtain ⟨dk, dt, dc, dl, dr, sk, uk, ut, uc, ul, ur, tx, c0, c1, c2, cv, va, op, d, s, l, z, n, rfl, rfl, hd, hu, hn⟩ := I
  exact ⟨rfl, J⟩
theorem i_vc_depth {k : Nat} {u : SX} {v : SY} (I : i_Rel k u v) (hk : k + 3 ≤ 1536) : wpX_depth (fun r => wpY_depth (fun r' => r' = r ∧ i_Rel (k + 3) u v) v) u := by
  have J := I
  obtain ⟨dk, dt, dc, dl, dr, sk, uk, ut, uc, ul, ur, tx, c0, c1, c2, cv, va, op, d, s, l, z, n, rfl, rfl, hd, hu, hn⟩ := I
  exact ⟨rfl, J⟩
theorem i_vc_length {k : Nat} {u : SX} {v : SY} (I : i_Rel k u v) (hk : k + 3 ≤ 1536) : wpX_length (fun r => wpY_length (fun r' => r' = r ∧ i_Rel (k + 3) u v) v) u := by
  have J := I
  obtain ⟨dk, dt, dc, dl, dr, sk, uk, ut, uc, ul, ur, tx, c0, c1, c2, cv, va, op, d, s, l, z, n, rfl, rfl, hd, hu, hn⟩ := I
  exact ⟨rfl, J⟩
theorem i_vc_discard {k : Nat} {u : SX} {v : SY} (I : i_Rel k u v) (hk : k + 3 ≤ 1536) : wpX_discard (fun u' => wpY_discard (fun v' => i_Rel (k + 3) u' v') v) u := by
  obtain ⟨dk, dt, dc, dl, dr, sk, uk, ut, uc, ul, ur, tx, c0, c1, c2, cv, va, op, d, s, l, z, n, rfl, rfl, hd, hu, hn⟩ := I
  exact ⟨dk, dt, dc, dl, dr, sk, uk, ut, uc, ul, ur, tx, c0, c1, c2, cv, va, op, 0, 0, 0, z, n, rfl, rfl, wr_dr_0 _ _ _ _ _, hu, hn⟩
