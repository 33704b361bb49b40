/-! the reference's table -/
section
variable {post : SY → Prop} {ys yd ya yz yn : Int32} {eo el ec po pl pc tx : Nat → Int32} {m : Int32}
theorem ya_fill15 {J6 : _} {L R op : Nat → Int32} {n s i t : Nat} (eN : yn = nI n) (hm : wr_m m) (hn : n ≤ 8) (hi : i ≤ n) (hs : s < 20) (ok : wr_ok po pc L R s) (ht : t = wr_tp po s) (ho : ∀ q, q < t → op q = nI (wr_og po s q)) (bV : ∀ s' i' j', s' ≤ s → i' ≤ j' → j' ≤ n → wr_bd 1440 (wr_V po pl pc tx s' i' j'))
    (K : ∀ va, wr_Y (wr_V po pl pc tx) m n s (i + 1) (n + 1) va → J6 (nI i + (-1)) eo el ec po pl pc tx va op) :
    ∀ d j f va, j + d = n + 1 → i ≤ j → d < f → wr_Y (wr_V po pl pc tx) m n s (i + 1) j va → wY_fill_15 post J6 m (nI s) (nI t) (nI i) ys yd ya yz yn f (nI j) eo el ec po pl pc tx va op := by
  intro d
  induction d with
  | zero =>
    intro j f va h1 h2 h3 hY
    obtain ⟨f, rfl⟩ : ∃ f', f = f' + 1 := ⟨f - 1, by omega⟩
    have ej : j = n + 1 := by omega
    subst ej
    subst eN
    rw [wY_fill_15]
    exact br_t (nI_lt (by omega) (by omega)) (nm_e (K va hY))
  | succ d ih =>
    intro j f va h1 h2 h3 hY
    obtain ⟨f, rfl⟩ : ∃ f', f = f' + 1 := ⟨f - 1, by omega⟩
    have nl : ¬ yn < nI j := by rw [eN]; exact nI_nlt (by omega) (by omega)
    rw [wY_fill_15]
    refine br_f nl (ya_node hm hn h2 (by omega) hs ok ht ho bV hY ⟨by rw [wr_cy]; exact vp_in_nI (by omega) (by omega), nm_r (e' := upd va (s * 81 + i * 9 + j) (wr_y m (wr_V po pl pc tx s i j))) (by rw [wr_cy, nI_clamp (by omega)]) (nm_r (nI_1 j) ?_)⟩)
    exact ih (j + 1) f _ (by omega) (by omega) (by omega) (wr_Y_put hn hi (by omega) hY rfl)
theorem ya_fill6 {L R op : Nat → Int32} {n s t : Nat} (eN : yn = nI n) (hm : wr_m m) (hn : n ≤ 8) (hs : s < 20) (ok : wr_ok po pc L R s) (ht : t = wr_tp po s) (ho : ∀ q, q < t → op q = nI (wr_og po s q)) (bV : ∀ s' i' j', s' ≤ s → i' ≤ j' → j' ≤ n → wr_bd 1440 (wr_V po pl pc tx s' i' j'))
    (K : ∀ va, wr_Y (wr_V po pl pc tx) m n s 0 0 va → post (ys, yd, ya, yz, yn, eo, el, ec, po, pl, pc, tx, va, op)) :
    ∀ e f va, e ≤ n + 1 → e < f → wr_Y (wr_V po pl pc tx) m n s e 0 va → wY_fill_6 post m (nI s) (nI t) ys yd ya yz yn f (nI e + (-1)) eo el ec po pl pc tx va op := by
  intro e
  induction e with
  | zero =>
    intro f va h1 h2 hY
    obtain ⟨f, rfl⟩ : ∃ f', f = f' + 1 := ⟨f - 1, by omega⟩
    rw [wY_fill_6]
    exact br_t (by decide) (K va hY)
  | succ e ih =>
    intro f va h1 h2 hY
    obtain ⟨f, rfl⟩ : ∃ f', f = f' + 1 := ⟨f - 1, by omega⟩
    rw [wY_fill_6, pk_m1]
    refine br_f (nI_pos (by omega)) ⟨n + 3, ?_⟩
    exact ya_fill15 eN hm hn (by omega) hs ok ht ho bV (fun va hZ => ih f va (by omega) (by omega) (wr_Y_row hZ)) (n + 1 - e) e (n + 3) va (by omega) (Nat.le_refl _) (by omega) (wr_Y_in hY)
theorem ya_fill {L R op va : Nat → Int32} {n s t : Nat} (eN : yn = nI n) (hm : wr_m m) (hn : n ≤ 8) (hs : s < 20) (ok : wr_ok po pc L R s) (ht : t = wr_tp po s) (ho : ∀ q, q < t → op q = nI (wr_og po s q)) (bV : ∀ s' i' j', s' ≤ s → i' ≤ j' → j' ≤ n → wr_bd 1440 (wr_V po pl pc tx s' i' j')) (hY : wr_Y (wr_V po pl pc tx) m n s (n + 1) 0 va)
    (K : ∀ va, wr_Y (wr_V po pl pc tx) m n s 0 0 va → post (ys, yd, ya, yz, yn, eo, el, ec, po, pl, pc, tx, va, op)) : wpY_fill post (ys, yd, ya, yz, yn, eo, el, ec, po, pl, pc, tx, va, op) m (nI s) (nI t) := by
  have e : yn = nI (n + 1) + (-1) := by rw [pk_m1]; exact eN
  have W := ya_fill6 (ys := ys) (yd := yd) (ya := ya) (yz := yz) (eo := eo) (el := el) (ec := ec) eN hm hn hs ok ht ho bV K (n + 1) (n + 3) va (Nat.le_refl _) (by omega) hY
  rw [← e] at W
  exact ⟨n + 3, W⟩
theorem ya_52 {J4 : _} {op va : Nat → Int32} {s t : Nat} {z : Int32} (ez : z = nI t) (h1 : 1 ≤ t) (h2 : t ≤ 20) (h : J4 (nI t) (nI (s + 1)) ys yd ya yz yn eo el ec po pl pc tx va (upd op (t - 1) (nI s))) : wY_read_52 post J4 m (nI s) z ys yd ya yz yn eo el ec po pl pc tx va op := by
  subst ez
  refine ⟨by rw [ya_s1 h1]; exact vp_in_nI (by omega) (by omega), nm_r (e' := upd op (t - 1) (nI s)) (by rw [ya_s1 h1, nI_clamp (by omega)]) (nm_r (nI_1 s) h)⟩
theorem wr_og_up {K : Nat → Int32} {s t' : Nat} {op : Nat → Int32} (ho : ∀ q, q < wr_tp K s → op q = nI (wr_og K s q)) (ht : wr_tp K (s + 1) = t') (hl : t' ≤ wr_tp K s + 1) : ∀ q, q < wr_tp K (s + 1) → upd op (t' - 1) (nI s) q = nI (wr_og K (s + 1) q) := by
  intro q hq
  rw [wr_og_s, ht]
  by_cases e : q + 1 = t'
  · rw [if_pos e, show t' - 1 = q from by omega, pk_us]
  · rw [if_neg e, pk_un (by omega)]
    exact ho q (by omega)
theorem ya_read4 {L R : Nat → Int32} {n z : Nat} (eN : yn = nI n) (eZ : yz = nI z) (hm : wr_m m) (hn : n ≤ 8) (hz : z ≤ 20) (ok : ∀ s, s < z → wr_ok po pc L R s)
    (K : ∀ va op, wr_Y (wr_V po pl pc tx) m n z (n + 1) 0 va → post (ys, yd, ya, yz, yn, eo, el, ec, po, pl, pc, tx, va, op)) :
    ∀ d s f va op, s + d = z → d < f → wr_Y (wr_V po pl pc tx) m n s (n + 1) 0 va → (∀ q, q < wr_tp po s → op q = nI (wr_og po s q)) → wY_read_4 post m f (nI (wr_tp po s)) (nI s) ys yd ya yz yn eo el ec po pl pc tx va op := by
  intro d
  induction d with
  | zero =>
    intro s f va op h1 h2 hY ho
    obtain ⟨f, rfl⟩ : ∃ f', f = f' + 1 := ⟨f - 1, by omega⟩
    have e : s = z := by omega
    subst e
    have nl : yz ≤ nI s := by rw [eZ]; exact nI_le (by omega) (by omega)
    rw [wY_read_4]
    exact br_t nl (K va op hY)
  | succ d ih =>
    intro s f va op h1 h2 hY ho
    obtain ⟨f, rfl⟩ : ∃ f', f = f' + 1 := ⟨f - 1, by omega⟩
    have nl : ¬ yz ≤ nI s := by rw [eZ]; exact nI_ge (by omega) (by omega)
    have es : (nI s).toNatClampNeg = s := nI_clamp (by omega)
    have ws : vp_in (nI s) 20 := vp_in_nI (by omega) (by omega)
    have tl := wr_tp_le po s
    have hs := ok s (by omega)
    rw [wY_read_4]
    refine br_f nl (ya_fill eN hm hn (by omega) hs rfl ho (fun s' i' j' h1 h2 h3 => wr_V_b ok hz (by omega) h2 (by omega)) hY (fun va' hZ => ⟨ws, ?_⟩))
    have up : ∀ t', wr_tp po (s + 1) = t' → t' ≤ wr_tp po s + 1 → wY_read_4 post m f (nI t') (nI (s + 1)) ys yd ya yz yn eo el ec po pl pc tx va' (upd op (t' - 1) (nI s)) := fun t' h3 h4 => by
      have W := ih (s + 1) f va' (upd op (t' - 1) (nI s)) (by omega) (by omega) (wr_Y_next hZ) (wr_og_up ho h3 h4)
      rw [h3] at W
      exact W
    have tp := wr_tp_s po s
    rcases hs.2 with k | k | k | ⟨k, t2, -, -⟩ | ⟨k, t2, -, -⟩ | ⟨k, t2, -⟩
    · have k' : po (nI s).toNatClampNeg = 0 := by rw [es]; exact k
      rw [k, if_pos (by decide)] at tp
      exact br_f (by rw [k']; decide) (ya_52 (nI_1 _) (by omega) (by omega) (up _ tp (by omega)))
    · have k' : po (nI s).toNatClampNeg = 1 := by rw [es]; exact k
      rw [k, if_pos (by decide)] at tp
      exact br_f (by rw [k']; decide) (ya_52 (nI_1 _) (by omega) (by omega) (up _ tp (by omega)))
    · have k' : po (nI s).toNatClampNeg = 2 := by rw [es]; exact k
      rw [k, if_pos (by decide)] at tp
      exact br_f (by rw [k']; decide) (ya_52 (nI_1 _) (by omega) (by omega) (up _ tp (by omega)))
    · have k' : po (nI s).toNatClampNeg = 3 := by rw [es]; exact k
      rw [k, if_neg (by decide), if_pos (by decide)] at tp
      exact br_t (by rw [k']; decide) ⟨ws, br_f (by rw [k']; decide) (ya_52 (ya_s1 (by omega)) (by omega) (by omega) (up _ tp (by omega)))⟩
    · have k' : po (nI s).toNatClampNeg = 4 := by rw [es]; exact k
      rw [k, if_neg (by decide), if_pos (by decide)] at tp
      exact br_t (by rw [k']; decide) ⟨ws, br_f (by rw [k']; decide) (ya_52 (ya_s1 (by omega)) (by omega) (by omega) (up _ tp (by omega)))⟩
    · have k' : po (nI s).toNatClampNeg = 5 := by rw [es]; exact k
      rw [k, if_neg (by decide), if_neg (by decide)] at tp
      exact br_t (by rw [k']; decide) ⟨ws, br_t (by rw [k']; decide) (ya_52 rfl (by omega) (by omega) (up _ tp (by omega)))⟩
theorem ya_read {L R va op : Nat → Int32} {n z : Nat} (hm : wr_m m) (hn : n ≤ 8) (hu : wr_us po pc L R z)
    (K : ∀ va op, wr_Y (wr_V po pl pc tx) m n z (n + 1) 0 va → post (ys, yd, ya, (nI z), (nI n), eo, el, ec, po, pl, pc, tx, va, op)) : wpY_read post (ys, yd, ya, (nI z), (nI n), eo, el, ec, po, pl, pc, tx, va, op) m :=
  ⟨z + 1, ya_read4 rfl rfl hm hn hu.2.1 hu.2.2 K z 0 (z + 1) va op (Nat.zero_add z) (Nat.lt_succ_self z) (fun s' i' j' h1 h2 hD => by
    unfold wr_D at hD
    omega) (fun q hq => absurd hq (Nat.not_lt_zero q))⟩
end
section
variable {post : Int32 → Prop} {ds dv st tl ys yd ya : Int32} {dk dt dc dl dr sk uk ut uc ul ur tx c0 c1 c2 cv eo el ec po pl pc va op : Nat → Int32} {m yn : Int32} {n z i j : Nat}
theorem xa_ans (h1 : 1 ≤ z) (h : post (nI ((z - 1) * 81 + i * 9 + j))) : wpX_answerCell post (ds, dv, st, (nI z), tl, dk, dt, dc, dl, dr, sk, uk, ut, uc, ul, ur, tx, c0, c1, c2, cv) (nI i) (nI j) := by
  unfold wpX_answerCell
  exact xa_co (ya_s1 h1) h
theorem ya_whole {V : Nat → Nat → Nat → wr_C} (h1 : 1 ≤ z) (h2 : z ≤ 20) (hn : n ≤ 8) (hi : i ≤ j) (hj : j ≤ n) (hY : wr_Y V m n z (n + 1) 0 va) (h : post (wr_y m (V (z - 1) i j))) : wpY_whole post (ys, yd, ya, (nI z), yn, eo, el, ec, po, pl, pc, tx, va, op) (nI i) (nI j) := by
  have e : (nI z - 1) * 81 + nI i * 9 + nI j = nI ((z - 1) * 81 + i * 9 + j) := by rw [ya_s1 h1, wr_cy]
  refine ⟨by rw [e]; exact vp_in_nI (by omega) (by omega), ?_⟩
  rw [e, nI_clamp (by omega), hY (z - 1) i j hi hj (Or.inl (by omega))]
  exact h
end
