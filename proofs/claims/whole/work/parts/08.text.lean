/-! define, type, put, shift -/
def wr_cp (a b : Nat → Int32) : Nat → (Nat → Int32)
  | 0 => a
  | s + 1 => upd (wr_cp a b s) s (b s)
theorem wr_cp_at (a b : Nat → Int32) : ∀ s t, t < s → wr_cp a b s t = b t
  | 0, t, h => absurd h (Nat.not_lt_zero t)
  | s + 1, t, h => by
    show upd (wr_cp a b s) s (b s) t = b t
    by_cases e : t = s
    · subst e
      exact pk_us
    · rw [pk_un e]
      exact wr_cp_at a b s t (by omega)
theorem xb_def {post : Int32 → SX → Prop} {dv st us tl : Int32} {dk dt dc dl dr sk uk ut uc ul ur tx c0 c1 c2 cv : Nat → Int32} {D : Nat} (hD : D ≤ 20)
    (K : post 0 (0, 0, 0, (nI D), tl, dk, dt, dc, dl, dr, sk, (wr_cp uk dk D), (wr_cp ut dt D), (wr_cp uc dc D), (wr_cp ul dl D), (wr_cp ur dr D), tx, c0, c1, c2, cv)) :
    ∀ d s f, s + d = D → d < f → wX_define_13 post (nI D) dv st us tl f (nI s) dk dt dc dl dr sk (wr_cp uk dk s) (wr_cp ut dt s) (wr_cp uc dc s) (wr_cp ul dl s) (wr_cp ur dr s) tx c0 c1 c2 cv := by
  intro d
  induction d with
  | zero =>
    intro s f h1 h2
    obtain ⟨f, rfl⟩ : ∃ f', f = f' + 1 := ⟨f - 1, by omega⟩
    have e : s = D := by omega
    subst e
    rw [wX_define_13]
    exact br_t (nI_le (by omega) (by omega)) K
  | succ d ih =>
    intro s f h1 h2
    obtain ⟨f, rfl⟩ : ∃ f', f = f' + 1 := ⟨f - 1, by omega⟩
    have e : (nI s).toNatClampNeg = s := nI_clamp (by omega)
    have w : vp_in (nI s) 20 := vp_in_nI (by omega) (by omega)
    rw [wX_define_13]
    exact br_f (nI_ge (by omega) (by omega)) ⟨w, w, nm_r (e' := wr_cp uk dk (s + 1)) (by rw [e]; rfl) ⟨w, w, nm_r (e' := wr_cp ut dt (s + 1)) (by rw [e]; rfl) ⟨w, w, nm_r (e' := wr_cp uc dc (s + 1)) (by rw [e]; rfl) ⟨w, w, nm_r (e' := wr_cp ul dl (s + 1)) (by rw [e]; rfl) ⟨w, w, nm_r (e' := wr_cp ur dr (s + 1)) (by rw [e]; rfl) (nm_r (nI_1 s) (ih (s + 1) f (by omega) (by omega)))⟩⟩⟩⟩⟩
theorem yb_def {post : Int32 → SY → Prop} {yd ya yz yn : Int32} {eo el ec po pl pc tx va op : Nat → Int32} {D : Nat} (hD : D ≤ 20)
    (K : post 0 (0, 0, 0, (nI D), yn, eo, el, ec, (wr_cp po eo D), (wr_cp pl el D), (wr_cp pc ec D), tx, va, op)) :
    ∀ d s f, s + d = D → d < f → wY_define_13 post (nI D) yd ya yz yn f (nI s) eo el ec (wr_cp po eo s) (wr_cp pl el s) (wr_cp pc ec s) tx va op := by
  intro d
  induction d with
  | zero =>
    intro s f h1 h2
    obtain ⟨f, rfl⟩ : ∃ f', f = f' + 1 := ⟨f - 1, by omega⟩
    have e : s = D := by omega
    subst e
    rw [wY_define_13]
    exact br_t (nI_le (by omega) (by omega)) K
  | succ d ih =>
    intro s f h1 h2
    obtain ⟨f, rfl⟩ : ∃ f', f = f' + 1 := ⟨f - 1, by omega⟩
    have e : (nI s).toNatClampNeg = s := nI_clamp (by omega)
    have w : vp_in (nI s) 20 := vp_in_nI (by omega) (by omega)
    rw [wY_define_13]
    exact br_f (nI_ge (by omega) (by omega)) ⟨w, w, nm_r (e' := wr_cp po eo (s + 1)) (by rw [e]; rfl) ⟨w, w, nm_r (e' := wr_cp pl el (s + 1)) (by rw [e]; rfl) ⟨w, w, nm_r (e' := wr_cp pc ec (s + 1)) (by rw [e]; rfl) (nm_r (nI_1 s) (ih (s + 1) f (by omega) (by omega)))⟩⟩⟩
theorem i_vc_define {k : Nat} {u : SX} {v : SY} (I : i_Rel k u v) (hk : k + 3 ≤ 1536) : wpX_define (fun r u' => wpY_define (fun r' v' => r' = r ∧ i_Rel (k + 3) u' v') v) u := by
  have J := I
  obtain ⟨dk, dt, dc, dl, dr, sk, uk, ut, uc, ul, ur, tx, c0, c1, c2, cv, va, op, d, s, l, z, n, rfl, rfl, hd, hu, hn⟩ := I
  obtain ⟨h1, h2, h3, h4, h5, h6⟩ := id hd
  refine pk_eq s 1 (fun e => ⟨d + 1, ?_⟩) (fun e => pk_eq s 1 (fun e' => absurd e' e) (fun _ => ⟨rfl, J⟩))
  have tl := wr_tp_le dk d
  refine xb_def h1 ?_ d 0 (d + 1) (Nat.zero_add d) (by omega)
  refine pk_eq s 1 (fun e => ⟨d + 1, ?_⟩) (fun e' => absurd e e')
  refine yb_def h1 ⟨rfl, ?_⟩ d 0 (d + 1) (Nat.zero_add d) (by omega)
  exact ⟨dk, dt, dc, dl, dr, sk, wr_cp uk dk d, wr_cp ut dt d, wr_cp uc dc d, wr_cp ul dl d, wr_cp ur dr d, tx, c0, c1, c2, cv, va, op, 0, 0, 0, d, n, rfl, rfl, wr_dr_0 _ _ _ _ _, wr_us_cg (by omega) h1 (wr_cp_at _ _ d) (wr_cp_at _ _ d) (wr_cp_at _ _ d) (wr_cp_at _ _ d) h6, hn⟩
theorem i_vc_type {k : Nat} {u : SX} {v : SY} (I : i_Rel k u v) (hk : k + 3 ≤ 1536) (v1 : Int32) : wpX_type (fun r u' => wpY_type (fun r' v' => r' = r ∧ i_Rel (k + 3) u' v') v v1) u v1 := by
  have J := I
  obtain ⟨dk, dt, dc, dl, dr, sk, uk, ut, uc, ul, ur, tx, c0, c1, c2, cv, va, op, d, s, l, z, n, rfl, rfl, hd, hu, hn⟩ := I
  unfold wpX_type
  by_cases a0 : v1 < 0
  · exact xb_let0 (Or.inl a0) (br_t rfl (br_t a0 ⟨rfl, J⟩))
  · by_cases a1 : 2 < v1
    · exact xb_let0 (Or.inr a1) (br_t rfl (br_f a0 (br_f (Int32.not_le.mpr a1) ⟨rfl, J⟩)))
    · have a2 := Int32.not_lt.mp a1
      refine xb_let1 a0 a1 (br_f (by decide) (pk_lt n 8 (fun g => ?_) (fun g => br_f a0 (br_t a2 (pk_eq n 8 (fun _ => ⟨rfl, J⟩) (fun z => absurd z (by omega)))))))
      have e : (nI n).toNatClampNeg = n := nI_clamp (by omega)
      have w : vp_in (nI n) 8 := vp_in_nI g (by omega)
      refine ⟨w, nm_r (e' := upd tx n v1) (by rw [e]) (nm_r (nI_1 n) (br_f a0 (br_t a2 (pk_eq n 8 (fun z => absurd z (by omega)) (fun _ => ⟨w, nm_r (e' := upd tx n v1) (by rw [e]) (nm_r (nI_1 n) ⟨rfl, ?_⟩)⟩)))))⟩
      exact ⟨dk, dt, dc, dl, dr, sk, uk, ut, uc, ul, ur, upd tx n v1, c0, c1, c2, cv, va, op, d, s, l, z, n + 1, rfl, rfl, hd, hu, by omega⟩
theorem i_vc_put {k : Nat} {u : SX} {v : SY} (I : i_Rel k u v) (hk : k + 3 ≤ 1536) (v1 : Int32) (v2 : Int32) : wpX_put (fun r u' => wpY_put (fun r' v' => r' = r ∧ i_Rel (k + 3) u' v') v v1 v2) u v1 v2 := by
  have J := I
  obtain ⟨dk, dt, dc, dl, dr, sk, uk, ut, uc, ul, ur, tx, c0, c1, c2, cv, va, op, d, s, l, z, n, rfl, rfl, hd, hu, hn⟩ := I
  by_cases b0 : v1 < 0
  · exact br_t b0 (br_t b0 ⟨rfl, J⟩)
  · by_cases b1 : nI n ≤ v1
    · exact br_f b0 (br_t b1 (br_f b0 (br_t b1 ⟨rfl, J⟩)))
    · refine br_f b0 (br_f b1 ?_)
      by_cases a0 : v2 < 0
      · exact xb_let0 (Or.inl a0) (br_t rfl (br_f b0 (br_f b1 (br_t a0 ⟨rfl, J⟩))))
      · by_cases a1 : 2 < v2
        · exact xb_let0 (Or.inr a1) (br_t rfl (br_f b0 (br_f b1 (br_f a0 (br_f (Int32.not_le.mpr a1) ⟨rfl, J⟩)))))
        · have a2 := Int32.not_lt.mp a1
          obtain ⟨j, hj, rfl⟩ := nI_of b0
          have b2 : j < n := by
            rw [nI_leI (by omega) (by omega)] at b1
            omega
          have e : (nI j).toNatClampNeg = j := nI_clamp (by omega)
          have w : vp_in (nI j) 8 := vp_in_nI (by omega) (by omega)
          refine xb_let1 a0 a1 (br_f (by decide) ⟨w, nm_r (e' := tx j) (by rw [e]) ⟨w, nm_r (e' := upd tx j v2) (by rw [e]) (br_f b0 (br_f b1 (br_f a0 (br_t a2 ⟨w, nm_r (e' := tx j) (by rw [e]) ⟨w, nm_r (e' := upd tx j v2) (by rw [e]) ⟨rfl, ?_⟩⟩⟩))))⟩⟩)
          exact ⟨dk, dt, dc, dl, dr, sk, uk, ut, uc, ul, ur, upd tx j v2, c0, c1, c2, cv, va, op, d, s, l, z, n, rfl, rfl, hd, hu, hn⟩
def wr_sf (a : Nat → Int32) : Nat → (Nat → Int32)
  | 0 => a
  | s + 1 => upd (wr_sf a s) s (wr_sf a s (s + 1))
theorem xb_sh {post : Int32 → SX → Prop} {ds dv st us x1 : Int32} {dk dt dc dl dr sk uk ut uc ul ur tx c0 c1 c2 cv : Nat → Int32} {n : Nat} (hn : n + 1 ≤ 8)
    (K : post x1 (ds, dv, st, us, (nI n), dk, dt, dc, dl, dr, sk, uk, ut, uc, ul, ur, (wr_sf tx n), c0, c1, c2, cv)) :
    ∀ d s f, s + d = n → d < f → wX_shift_20 post x1 ds dv st us (nI (n + 1)) f (nI (s + 1)) dk dt dc dl dr sk uk ut uc ul ur (wr_sf tx s) c0 c1 c2 cv := by
  intro d
  induction d with
  | zero =>
    intro s f h1 h2
    obtain ⟨f, rfl⟩ : ∃ f', f = f' + 1 := ⟨f - 1, by omega⟩
    have e : s = n := by omega
    subst e
    rw [wX_shift_20]
    exact br_t (nI_le (by omega) (by omega)) (nm_r (nI_pred s) K)
  | succ d ih =>
    intro s f h1 h2
    obtain ⟨f, rfl⟩ : ∃ f', f = f' + 1 := ⟨f - 1, by omega⟩
    have e : (nI (s + 1)).toNatClampNeg = s + 1 := nI_clamp (by omega)
    have w : vp_in (nI (s + 1)) 8 := vp_in_nI (by omega) (by omega)
    rw [wX_shift_20]
    exact br_f (nI_ge (by omega) (by omega)) ⟨w, by rw [nI_pred]; exact vp_in_nI (by omega) (by omega), nm_r (e' := wr_sf tx (s + 1)) (by rw [nI_pred, e, nI_clamp (by omega)]; rfl) (nm_r (nI_1 (s + 1)) (ih (s + 1) f (by omega) (by omega)))⟩
theorem yb_sh {post : Int32 → SY → Prop} {ys yd ya yz x1 : Int32} {eo el ec po pl pc tx va op : Nat → Int32} {n : Nat} (hn : n + 1 ≤ 8)
    (K : post x1 (ys, yd, ya, yz, (nI n), eo, el, ec, po, pl, pc, (wr_sf tx n), va, op)) :
    ∀ d s f, s + d = n → d < f → wY_shift_19 post x1 ys yd ya yz (nI (n + 1)) f (nI (s + 1)) eo el ec po pl pc (wr_sf tx s) va op := by
  intro d
  induction d with
  | zero =>
    intro s f h1 h2
    obtain ⟨f, rfl⟩ : ∃ f', f = f' + 1 := ⟨f - 1, by omega⟩
    have e : s = n := by omega
    subst e
    rw [wY_shift_19]
    exact br_t (nI_le (by omega) (by omega)) (nm_r (nI_pred s) K)
  | succ d ih =>
    intro s f h1 h2
    obtain ⟨f, rfl⟩ : ∃ f', f = f' + 1 := ⟨f - 1, by omega⟩
    have e : (nI (s + 1)).toNatClampNeg = s + 1 := nI_clamp (by omega)
    have w : vp_in (nI (s + 1)) 8 := vp_in_nI (by omega) (by omega)
    rw [wY_shift_19]
    exact br_f (nI_ge (by omega) (by omega)) ⟨w, by rw [nI_pred]; exact vp_in_nI (by omega) (by omega), nm_r (e' := wr_sf tx (s + 1)) (by rw [nI_pred, e, nI_clamp (by omega)]; rfl) (nm_r (nI_1 (s + 1)) (ih (s + 1) f (by omega) (by omega)))⟩
theorem i_vc_shift {k : Nat} {u : SX} {v : SY} (I : i_Rel k u v) (hk : k + 3 ≤ 1536) : wpX_shift (fun r u' => wpY_shift (fun r' v' => r' = r ∧ i_Rel (k + 3) u' v') v) u := by
  have J := I
  obtain ⟨dk, dt, dc, dl, dr, sk, uk, ut, uc, ul, ur, tx, c0, c1, c2, cv, va, op, d, s, l, z, n, rfl, rfl, hd, hu, hn⟩ := I
  by_cases g : n = 0
  · exact pk_le 1 n (fun z => absurd z (by omega)) (fun _ => pk_eq n 0 (fun _ => ⟨rfl, J⟩) (fun z => absurd g z))
  · obtain ⟨n, rfl⟩ : ∃ n', n = n' + 1 := ⟨n - 1, by omega⟩
    refine pk_le 1 (n + 1) (fun _ => nm_e ⟨n + 1, ?_⟩) (fun z => absurd z (by omega))
    refine xb_sh hn ?_ n 0 (n + 1) (Nat.zero_add n) (by omega)
    refine pk_eq (n + 1) 0 (fun z => absurd z (by omega)) (fun _ => nm_e ⟨n + 1, ?_⟩)
    refine yb_sh hn ⟨rfl, ?_⟩ n 0 (n + 1) (Nat.zero_add n) (by omega)
    exact ⟨dk, dt, dc, dl, dr, sk, uk, ut, uc, ul, ur, wr_sf tx n, c0, c1, c2, cv, va, op, d, s, l, z, n, rfl, rfl, hd, hu, by omega⟩
