/-! the reference's walks -/
theorem ya_s1 {a : Nat} (h : 1 ≤ a) : nI a - 1 = nI (a - 1) := pk_sub (b := 1) h
theorem ya_s2 {a : Nat} (h : 2 ≤ a) : nI a - 2 = nI (a - 2) := pk_sub (b := 2) h
section
variable {post : Int32 → Prop} {ys yd ya yz yn : Int32} {eo el ec po pl pc tx va op : Nat → Int32} {m : Int32}
theorem ya_either {a b : wr_C} (hm : wr_m m) (ba : wr_bd 100000 a) (bb : wr_bd 100000 b) (h : post (wr_y m (wr_ei a b))) : wpY_either post (ys, yd, ya, yz, yn, eo, el, ec, po, pl, pc, tx, va, op) m (wr_y m a) (wr_y m b) := by
  rcases hm with rfl | rfl | rfl
  · exact br_t rfl (by rw [wr_y0a]; exact h)
  · match a, b, ba, bb, h with
    | none, b, _, _, h =>
      rw [wr_n_ei] at h
      exact br_f (by decide) (br_t (by decide) (br_f (by decide) h))
    | some (c, l, k), none, ba, _, h =>
      have b1 : l ≤ 100000 := ba.1
      rw [wr_ei_n] at h
      exact br_f (by decide) (br_f (nI_pos (n := l) (by omega)) (br_f (by decide) (br_t (nI_pos' (n := l) (by omega)) h)))
    | some (c, l, k), some (c', l', k'), ba, bb, h =>
      have b1 : l ≤ 100000 := ba.1
      have b2 : l' ≤ 100000 := bb.1
      have h' : post (nI (if l' < l then l' else l)) := h
      refine br_f (by decide) (br_f (nI_pos (n := l) (by omega)) (br_t (nI_pos' (n := l') (by omega)) (br_t rfl (pk_le (x := nI l') (y := nI l) l' l (fun z => ?_) (fun z => ?_)))))
      · rw [show (if l' < l then l' else l) = l' from by split <;> omega] at h'
        exact h'
      · rw [show (if l' < l then l' else l) = l from by split <;> omega] at h'
        exact h'
  · match a, b, ba, bb, h with
    | none, b, _, _, h =>
      rw [wr_n_ei] at h
      exact br_f (by decide) (br_t (by decide) (br_f (by decide) h))
    | some (c, k, l), none, ba, _, h =>
      have b1 : l ≤ 100000 := ba.2
      rw [wr_ei_n] at h
      exact br_f (by decide) (br_f (nI_pos (n := l) (by omega)) (br_f (by decide) (br_t (nI_pos' (n := l) (by omega)) h)))
    | some (c, k, l), some (c', k', l'), ba, bb, h =>
      have b1 : l ≤ 100000 := ba.2
      have b2 : l' ≤ 100000 := bb.2
      have h' : post (nI (if l < l' then l' else l)) := h
      refine br_f (by decide) (br_f (nI_pos (n := l) (by omega)) (br_t (nI_pos' (n := l') (by omega)) (br_f (by decide) (pk_le (x := nI l) (y := nI l') l l' (fun z => ?_) (fun z => ?_)))))
      · rw [show (if l < l' then l' else l) = l' from by split <;> omega] at h'
        exact h'
      · rw [show (if l < l' then l' else l) = l from by split <;> omega] at h'
        exact h'
theorem ya_together {a b : wr_C} {e : Nat} {p3 : Int32} (hp : p3 = nI e) (hm : wr_m m) (ba : wr_bd 1440 a) (bb : wr_bd 1440 b) (h : post (wr_y m (wr_to e a b))) : wpY_together post (ys, yd, ya, yz, yn, eo, el, ec, po, pl, pc, tx, va, op) m (wr_y m a) (wr_y m b) p3 := by
  subst hp
  rcases hm with rfl | rfl | rfl
  · exact br_t rfl (by rw [wr_y0t e]; exact h)
  · match a, b, ba, bb, h with
    | none, b, _, _, h =>
      rw [wr_n_to] at h
      exact br_f (by decide) (br_t (by decide) h)
    | some (c, l, k), none, ba, _, h =>
      have b1 : l ≤ 1440 := ba.1
      rw [wr_to_n] at h
      exact br_f (by decide) (br_f (nI_pos (n := l) (by omega)) (br_f (by decide) h))
    | some (c, l, k), some (c', l', k'), ba, bb, h =>
      have b1 : l ≤ 1440 := ba.1
      have b2 : l' ≤ 1440 := bb.1
      have h' : post (nI l + nI l' + nI e) := by
        rw [nI_add, nI_add]
        exact h
      exact br_f (by decide) (br_f (nI_pos (n := l) (by omega)) (br_t (nI_pos' (n := l') (by omega)) h'))
  · match a, b, ba, bb, h with
    | none, b, _, _, h =>
      rw [wr_n_to] at h
      exact br_f (by decide) (br_t (by decide) h)
    | some (c, k, l), none, ba, _, h =>
      have b1 : l ≤ 1440 := ba.2
      rw [wr_to_n] at h
      exact br_f (by decide) (br_f (nI_pos (n := l) (by omega)) (br_f (by decide) h))
    | some (c, k, l), some (c', k', l'), ba, bb, h =>
      have b1 : l ≤ 1440 := ba.2
      have b2 : l' ≤ 1440 := bb.2
      have h' : post (nI l + nI l' + nI e) := by
        rw [nI_add, nI_add]
        exact h
      exact br_f (by decide) (br_f (nI_pos (n := l) (by omega)) (br_t (nI_pos' (n := l') (by omega)) h'))
theorem ya_one {c : Nat} {p1 : Int32} (hp : p1 = nI c) (hm : wr_m m) (h : post (wr_y m (some (1, c, c)))) : wpY_one post (ys, yd, ya, yz, yn, eo, el, ec, po, pl, pc, tx, va, op) m p1 := by
  subst hp
  rcases hm with rfl | rfl | rfl
  · exact br_t rfl h
  · exact br_f (by decide) h
  · exact br_f (by decide) h
theorem ya_62n {p : Int32} (h : post (wr_y m none)) : wY_atomValue_62 post m p 0 ys yd ya yz yn eo el ec po pl pc tx va op := by
  refine br_t rfl (br_c (fun z => ?_) (fun z => ?_))
  · rw [z] at h
    exact h
  · rw [wr_yn z] at h
    exact h
theorem ya_62s {s c : Nat} (hs : s < 20) (eC : pc s = nI c) (hm : wr_m m) (h : post (wr_y m (some (1, c, c)))) : wY_atomValue_62 post m (nI s) 1 ys yd ya yz yn eo el ec po pl pc tx va op := by
  refine br_f (by decide) ⟨vp_in_nI hs (by omega), ?_⟩
  exact ya_one (by rw [nI_clamp (by omega)]; exact eC) hm h
theorem ya_atom {L R : Nat → Int32} {s i j : Nat} (hs : s < 20) (hi : i ≤ j) (hj : j ≤ 8) (hm : wr_m m) (ok : wr_ok po pc L R s) (k : po s = 0 ∨ po s = 1 ∨ po s = 2) (h : post (wr_y m (wr_V po pl pc tx s i j))) : wpY_atomValue post (ys, yd, ya, yz, yn, eo, el, ec, po, pl, pc, tx, va, op) m (nI s) (nI i) (nI j) := by
  have es : (nI s).toNatClampNeg = s := nI_clamp (by omega)
  have ei : (nI i).toNatClampNeg = i := nI_clamp (by omega)
  have ws : vp_in (nI s) 20 := vp_in_nI hs (by omega)
  obtain ⟨⟨q, hq, eq, q2⟩, -⟩ := id ok
  have ec' : (pc s).toNatClampNeg = q := by rw [eq]; exact nI_clamp (by omega)
  rcases k with k | k | k
  · rw [wr_V0 ok i j k, ec'] at h
    have k' : po (nI s).toNatClampNeg = 0 := by rw [es]; exact k
    refine ⟨ws, br_f (by rw [k']; decide) (br_c (fun z => ?_) (fun z => ?_))⟩
    · rw [nI_1, nI_eq (by omega) (by omega)] at z
      refine ⟨ws, br_f (by rw [k']; decide) ⟨vp_in_nI (by omega) (by omega), ws, br_c (fun y => ?_) (fun y => ?_)⟩⟩
      · rw [ei, es] at y
        rw [if_pos ⟨z, y⟩] at h
        exact ya_62s hs eq hm h
      · rw [ei, es] at y
        rw [if_neg (fun h => y h.2)] at h
        exact ya_62n h
    · rw [nI_1, nI_eq (by omega) (by omega)] at z
      rw [if_neg (fun h => z h.1)] at h
      exact ya_62n h
  · rw [wr_V1 ok i j k, ec'] at h
    have k' : po (nI s).toNatClampNeg = 1 := by rw [es]; exact k
    refine ⟨ws, br_f (by rw [k']; decide) (br_c (fun z => ?_) (fun z => ?_))⟩
    · rw [nI_1, nI_eq (by omega) (by omega)] at z
      rw [if_pos z] at h
      exact ⟨ws, br_t k' (ya_62s hs eq hm h)⟩
    · rw [nI_1, nI_eq (by omega) (by omega)] at z
      rw [if_neg z] at h
      exact ya_62n h
  · rw [wr_V2 ok i j k] at h
    have k' : po (nI s).toNatClampNeg = 2 := by rw [es]; exact k
    have q0 : q = 0 := q2 k
    subst q0
    refine ⟨ws, br_t k' (pk_eq i j (fun z => ?_) (fun z => ?_))⟩
    · rw [if_pos z] at h
      exact ya_62s hs eq hm h
    · rw [if_neg z] at h
      exact ya_62n h
theorem ya_seq15 {V : Nat → Nat → Nat → wr_C} {n s i j x y : Nat} (hm : wr_m m) (hn : n ≤ 8) (hi : i ≤ j) (hj : j ≤ n) (hs : s < 20) (hx : x < s) (hy : y < s) (hY : wr_Y V m n s (i + 1) j va) (bV : ∀ s' i' j', s' ≤ s → i' ≤ j' → j' ≤ n → wr_bd 1440 (V s' i' j')) (h : post (wr_y m (wr_su (fun k => wr_to 0 (V x i k) (V y k j)) i (j - i + 1)))) :
    ∀ d k f, k + d = j + 1 → i ≤ k → d < f → wY_seqValue_15 post m (nI x) (nI y) (nI i) (nI j) ys yd ya yz yn eo el ec po pl pc tx va op f (wr_y m (wr_su (fun k => wr_to 0 (V x i k) (V y k j)) i (k - i))) (nI k) := by
  intro d
  induction d with
  | zero =>
    intro k f h1 h2 h3
    obtain ⟨f, rfl⟩ : ∃ f', f = f' + 1 := ⟨f - 1, by omega⟩
    rw [wY_seqValue_15, show k - i = j - i + 1 from by omega]
    exact br_t (nI_lt (by omega) (by omega)) h
  | succ d ih =>
    intro k f h1 h2 h3
    obtain ⟨f, rfl⟩ : ∃ f', f = f' + 1 := ⟨f - 1, by omega⟩
    rw [wY_seqValue_15]
    refine br_f (nI_nlt (by omega) (by omega)) ⟨by rw [wr_cy]; exact vp_in_nI (by omega) (by omega), by rw [wr_cy]; exact vp_in_nI (by omega) (by omega), ?_⟩
    rw [wr_cy, wr_cy, nI_clamp (by omega), nI_clamp (by omega), hY x i k h2 (by omega) (Or.inl hx), hY y k j (by omega) hj (Or.inl hy)]
    have b1 := bV x i k (by omega) h2 (by omega)
    have b2 := bV y k j (by omega) (by omega) hj
    have bs : wr_bd 100000 (wr_su (fun k => wr_to 0 (V x i k) (V y k j)) i (k - i)) := wr_su_bd _ (fun t h4 h5 => wr_to_bd (bV x i t (by omega) h4 (by omega)) (bV y t j (by omega) (by omega) hj) (by omega))
    refine ya_together (e := 0) rfl hm b1 b2 (ya_either hm bs (wr_to_bd b1 b2 (by omega)) (nm_r (nI_1 k) ?_))
    have W := ih (k + 1) f (by omega) (by omega) (by omega)
    rw [show k + 1 - i = (k - i) + 1 from by omega, wr_su_s, show i + (k - i) = k from by omega] at W
    exact W
theorem ya_lp31 {V : Nat → Nat → Nat → wr_C} {n s i j x e : Nat} (hm : wr_m m) (hn : n ≤ 8) (hi : i < j) (hj : j ≤ n) (hs : s < 20) (hx : x < s) (he : e ≤ 9) (eC : pc s = nI e) (hY : wr_Y V m n s (i + 1) j va) (bV : ∀ s' i' j', s' ≤ s → i' ≤ j' → j' ≤ n → wr_bd 1440 (V s' i' j')) (h : post (wr_y m (wr_su (fun k => wr_to e (V x i k) (V s k j)) (i + 1) (j - i)))) :
    ∀ d k f, k + d = j + 1 → i + 1 ≤ k → d < f → wY_loopValue_31 post m (nI s) (nI x) (nI i) (nI j) ys yd ya yz yn eo el ec po pl pc tx va op f (wr_y m (wr_su (fun k => wr_to e (V x i k) (V s k j)) (i + 1) (k - (i + 1)))) (nI k) := by
  intro d
  induction d with
  | zero =>
    intro k f h1 h2 h3
    obtain ⟨f, rfl⟩ : ∃ f', f = f' + 1 := ⟨f - 1, by omega⟩
    rw [wY_loopValue_31, show k - (i + 1) = j - i from by omega]
    exact br_t (nI_lt (by omega) (by omega)) h
  | succ d ih =>
    intro k f h1 h2 h3
    obtain ⟨f, rfl⟩ : ∃ f', f = f' + 1 := ⟨f - 1, by omega⟩
    rw [wY_loopValue_31]
    refine br_f (nI_nlt (by omega) (by omega)) ⟨by rw [wr_cy]; exact vp_in_nI (by omega) (by omega), by rw [wr_cy]; exact vp_in_nI (by omega) (by omega), vp_in_nI hs (by omega), ?_⟩
    rw [wr_cy, wr_cy, nI_clamp (n := x * 81 + i * 9 + k) (by omega), nI_clamp (n := s * 81 + k * 9 + j) (by omega), hY x i k (by omega) (by omega) (Or.inl hx), hY s k j (by omega) hj (Or.inr ⟨rfl, Or.inl (by omega)⟩)]
    have b1 := bV x i k (by omega) (by omega) (by omega)
    have b2 := bV s k j (by omega) (by omega) hj
    have bs : wr_bd 100000 (wr_su (fun k => wr_to e (V x i k) (V s k j)) (i + 1) (k - (i + 1))) := wr_su_bd _ (fun t h4 h5 => wr_to_bd (bV x i t (by omega) (by omega) (by omega)) (bV s t j (by omega) (by omega) hj) (by omega))
    refine ya_together (e := e) (by rw [nI_clamp (by omega)]; exact eC) hm b1 b2 (ya_either hm bs (wr_to_bd b1 b2 (by omega)) (nm_r (nI_1 k) ?_))
    have W := ih (k + 1) f (by omega) (by omega) (by omega)
    rw [show k + 1 - (i + 1) = (k - (i + 1)) + 1 from by omega, wr_su_s, show i + 1 + (k - (i + 1)) = k from by omega] at W
    exact W
theorem ya_node {L R : Nat → Int32} {n s i j t : Nat} (hm : wr_m m) (hn : n ≤ 8) (hi : i ≤ j) (hj : j ≤ n) (hs : s < 20) (ok : wr_ok po pc L R s) (ht : t = wr_tp po s) (ho : ∀ q, q < t → op q = nI (wr_og po s q)) (bV : ∀ s' i' j', s' ≤ s → i' ≤ j' → j' ≤ n → wr_bd 1440 (wr_V po pl pc tx s' i' j')) (hY : wr_Y (wr_V po pl pc tx) m n s (i + 1) j va) (h : post (wr_y m (wr_V po pl pc tx s i j))) : wpY_nodeValue post (ys, yd, ya, yz, yn, eo, el, ec, po, pl, pc, tx, va, op) m (nI s) (nI t) (nI i) (nI j) := by
  have es : (nI s).toNatClampNeg = s := nI_clamp (by omega)
  have ws : vp_in (nI s) 20 := vp_in_nI hs (by omega)
  have tl := wr_tp_le po s
  obtain ⟨⟨q, hq, eq, q2⟩, hk⟩ := id ok
  have ec' : (pc s).toNatClampNeg = q := by rw [eq]; exact nI_clamp (by omega)
  have og : 1 ≤ wr_tp po s → ∀ t, wr_og po s t < s := fun h t => by
    obtain ⟨s', rfl⟩ : ∃ s', s = s' + 1 := ⟨s - 1, by omega⟩
    exact wr_og_lt po s' t
  have p1 : 1 ≤ t → vp_in (nI t - 1) 20 ∧ op (nI t - 1).toNatClampNeg = nI (wr_og po s (wr_tp po s - 1)) := fun h => by
    rw [ya_s1 h, nI_clamp (by omega), ← ht]
    exact ⟨vp_in_nI (by omega) (by omega), ho _ (by omega)⟩
  have p2 : 2 ≤ t → vp_in (nI t - 2) 20 ∧ op (nI t - 2).toNatClampNeg = nI (wr_og po s (wr_tp po s - 2)) := fun h => by
    rw [ya_s2 h, nI_clamp (by omega), ← ht]
    exact ⟨vp_in_nI (by omega) (by omega), ho _ (by omega)⟩
  have y0 : wr_y m none = if m = 0 then 0 else -1 := rfl
  rcases hk with k | k | k | ⟨k, t2, -, -⟩ | ⟨k, t2, -, -⟩ | ⟨k, t2, -⟩
  · have k' : po (nI s).toNatClampNeg = 0 := by rw [es]; exact k
    exact ⟨ws, br_f (by rw [k']; decide) (ya_atom hs hi (by omega) hm ok (Or.inl k) h)⟩
  · have k' : po (nI s).toNatClampNeg = 1 := by rw [es]; exact k
    exact ⟨ws, br_f (by rw [k']; decide) (ya_atom hs hi (by omega) hm ok (Or.inr (Or.inl k)) h)⟩
  · have k' : po (nI s).toNatClampNeg = 2 := by rw [es]; exact k
    exact ⟨ws, br_f (by rw [k']; decide) (ya_atom hs hi (by omega) hm ok (Or.inr (Or.inr k)) h)⟩
  · have k' : po (nI s).toNatClampNeg = 3 := by rw [es]; exact k
    rw [wr_V3 ok i j k] at h
    refine ⟨ws, br_t (by rw [k']; decide) ⟨(p1 (by omega)).1, nm_r (p1 (by omega)).2 ⟨ws, br_f (by rw [k']; decide) ⟨(p2 (by omega)).1, nm_r (p2 (by omega)).2 ⟨ws, br_t k' ?_⟩⟩⟩⟩⟩
    have W := ya_seq15 (ys := ys) (yd := yd) (ya := ya) (yz := yz) (yn := yn) (eo := eo) (el := el) (ec := ec) (po := po) (pl := pl) (pc := pc) (tx := tx) (op := op) hm hn hi hj hs (og (by omega) _) (og (by omega) _) hY bV h (j + 1 - i) i (j + 2) (by omega) (Nat.le_refl _) (by omega)
    rw [Nat.sub_self] at W
    refine br_c (fun z => ⟨j + 2, ?_⟩) (fun z => ⟨j + 2, ?_⟩)
    · subst z
      exact W
    · have e : wr_y m (wr_su (fun k => wr_to 0 (wr_V po pl pc tx (wr_og po s (wr_tp po s - 2)) i k) (wr_V po pl pc tx (wr_og po s (wr_tp po s - 1)) k j)) i 0) = -1 := if_neg z
      rw [e] at W
      exact W
  · have k' : po (nI s).toNatClampNeg = 4 := by rw [es]; exact k
    rw [wr_V4 ok i j k] at h
    have hx := og (by omega) (wr_tp po s - 2)
    have hy := og (by omega) (wr_tp po s - 1)
    refine ⟨ws, br_t (by rw [k']; decide) ⟨(p1 (by omega)).1, nm_r (p1 (by omega)).2 ⟨ws, br_f (by rw [k']; decide) ⟨(p2 (by omega)).1, nm_r (p2 (by omega)).2 ⟨ws, br_f (by rw [k']; decide) ⟨by rw [wr_cy]; exact vp_in_nI (by omega) (by omega), by rw [wr_cy]; exact vp_in_nI (by omega) (by omega), ?_⟩⟩⟩⟩⟩⟩
    rw [wr_cy, wr_cy, nI_clamp (by omega), nI_clamp (by omega), hY _ i j hi hj (Or.inl hx), hY _ i j hi hj (Or.inl hy)]
    exact ya_either hm (wr_bd_up (bV _ i j (by omega) hi hj) (by omega)) (wr_bd_up (bV _ i j (by omega) hi hj) (by omega)) h
  · have k' : po (nI s).toNatClampNeg = 5 := by rw [es]; exact k
    refine ⟨ws, br_t (by rw [k']; decide) ⟨(p1 (by omega)).1, nm_r (p1 (by omega)).2 ⟨ws, br_t k' (pk_eq i j (fun z => ?_) (fun z => ?_))⟩⟩⟩
    · subst z
      rw [wr_V5i ok i k] at h
      exact ya_one (c := 0) rfl hm h
    · have hi' : i < j := by omega
      rw [wr_V5 ok i j hi' k, ec'] at h
      have W := ya_lp31 (ys := ys) (yd := yd) (ya := ya) (yz := yz) (yn := yn) (eo := eo) (el := el) (ec := ec) (po := po) (pl := pl) (pc := pc) (tx := tx) (op := op) hm hn hi' hj hs (og t2 _) hq eq hY bV h (j - i) (i + 1) (j + 2) (by omega) (Nat.le_refl _) (by omega)
      rw [Nat.sub_self] at W
      refine br_c (fun z => nm_r (nI_1 i) ⟨j + 2, ?_⟩) (fun z => nm_r (nI_1 i) ⟨j + 2, ?_⟩)
      · subst z
        exact W
      · have e : wr_y m (wr_su (fun k => wr_to q (wr_V po pl pc tx (wr_og po s (wr_tp po s - 1)) i k) (wr_V po pl pc tx s k j)) (i + 1) 0) = -1 := if_neg z
        rw [e] at W
        exact W
end
