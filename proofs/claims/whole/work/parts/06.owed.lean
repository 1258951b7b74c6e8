/-- both have the same jobs p, ways w and pins g, and there is a plan; what the reference picked last is free -/
def i_Rel (_ : Nat) (u : SX) (v : SY) : Prop := ∃ (p : Nat) (w g q : Nat → Int32), u = (nI p, w, g) ∧ v = (pu_T p, w, g, q) ∧ pu_D p w g
theorem i_up {k : Nat} {u : SX} {v : SY} (h : i_Rel k u v) : i_Rel (k + 5) u v := h
theorem rl_mk {k p : Nat} {w g q : Nat → Int32} (h : pu_D p w g) : i_Rel k (nI p, w, g) (pu_T p, w, g, q) := ⟨p, w, g, q, rfl, rfl, h⟩
theorem i_vc0 : wpX_init (fun u => wpY_init (fun v => i_Rel 0 u v)) :=
  ⟨0, fun _ => 0, fun _ => 0, fun _ => 0, rfl, by rw [pu_T00], by decide, fun _ _ => Or.inr (Or.inl rfl), 0, by decide, pu_plan0 _ _⟩
theorem i_vc_offer {k : Nat} {u : SX} {v : SY} (I : i_Rel k u v) (hk : k + 5 ≤ 2560) (v1 : Int32) (v2 : Int32) : wpX_offer (fun r u' => wpY_offer (fun r' v' => r' = r ∧ i_Rel (k + 5) u' v') v v1 v2) u v1 v2 := by
  obtain ⟨p, w, g, q, rfl, rfl, hD⟩ := I
  unfold wpX_offer
  dsimp only
  refine xa_ans hD.1 (fun y => ?_) (fun y lj => ?_) (fun y j hj lj hP => ?_) (fun y j hj lj hP => ?_)
  · refine br_t (by decide) (ya_off hD.1 hD.2.1 (fun _ => ⟨rfl, rl_mk hD⟩) (fun s => absurd s y) (fun s => absurd s y) (fun s => absurd s y))
  · refine br_t (by decide) (ya_off hD.1 hD.2.1 (fun s => absurd y s) (fun _ _ => ⟨rfl, rl_mk hD⟩) (fun _ i hi li => ?_) (fun _ i hi li => ?_))
    · have := pu_lf_u lj li; omega
    · have := pu_lf_u lj li; omega
  · refine br_f (nI_pos (by omega)) (xa_place hD.1 hj ?_)
    rw [pu_WW, pu_uu]
    refine ya_off hD.1 hD.2.1 (fun s => absurd y s) (fun _ l8 => ?_) (fun _ i hi li hQ q' => ?_) (fun _ i hi li hQ => ?_)
    · have := pu_lf_u lj l8; omega
    · have e := pu_lf_u lj li
      subst e
      exact ⟨rfl, rl_mk ⟨pu_set_lt hD.1 hi, pu_G_u hD.2.1 (Or.inl rfl), hQ⟩⟩
    · have e := pu_lf_u lj li
      subst e
      exact absurd hP hQ
  · refine br_t (by decide) (ya_off hD.1 hD.2.1 (fun s => absurd y s) (fun _ l8 => ?_) (fun _ i hi li hQ => ?_) (fun _ i hi li hQ q' => ?_))
    · have := pu_lf_u lj l8; omega
    · have e := pu_lf_u lj li
      subst e
      exact absurd hQ hP
    · have e := pu_lf_u lj li
      subst e
      exact ⟨rfl, rl_mk (pu_D_off hD hi (li.2.2 hi))⟩
theorem i_vc_probe {k : Nat} {u : SX} {v : SY} (I : i_Rel k u v) (hk : k + 5 ≤ 2560) (v1 : Int32) (v2 : Int32) : wpX_probe (fun r u' => wpY_probe (fun r' v' => r' = r ∧ i_Rel (k + 5) u' v') v v1 v2) u v1 v2 := by
  obtain ⟨p, w, g, q, rfl, rfl, hD⟩ := I
  unfold wpX_probe wpY_probe
  dsimp only
  refine xa_ans hD.1 (fun y => ?_) (fun y lj => ?_) (fun y j hj lj hP => ?_) (fun y j hj lj hP => ?_)
  · refine ya_off hD.1 hD.2.1 (fun _ => br_t (by decide) ⟨rfl, rl_mk hD⟩) (fun s => absurd s y) (fun s => absurd s y) (fun s => absurd s y)
  · refine ya_off hD.1 hD.2.1 (fun s => absurd y s) (fun _ _ => br_t (by decide) ⟨rfl, rl_mk hD⟩) (fun _ i hi li => ?_) (fun _ i hi li => ?_)
    · have := pu_lf_u lj li; omega
    · have := pu_lf_u lj li; omega
  · refine ya_off hD.1 hD.2.1 (fun s => absurd y s) (fun _ l8 => ?_) (fun _ i hi li hQ q' => ?_) (fun _ i hi li hQ => ?_)
    · have := pu_lf_u lj l8; omega
    · have e := pu_lf_u lj li
      subst e
      refine br_f (nI_pos (by omega)) ⟨vp_in_nI hi (by decide), nm_r (e' := pu_T p) ?_ ⟨rfl, rl_mk (pu_D_off hD hi (li.2.2 hi))⟩⟩
      rw [nI_clamp (by omega), pu_vb0, pu_Tclr (pu_set_lt hD.1 hi) hi, pu_clr_set hD.1 hi (li.2.2 hi)]
    · have e := pu_lf_u lj li
      subst e
      exact absurd hP hQ
  · refine ya_off hD.1 hD.2.1 (fun s => absurd y s) (fun _ l8 => ?_) (fun _ i hi li hQ => ?_) (fun _ i hi li hQ q' => ?_)
    · have := pu_lf_u lj l8; omega
    · have e := pu_lf_u lj li
      subst e
      exact absurd hQ hP
    · have e := pu_lf_u lj li
      subst e
      exact br_t (by decide) ⟨rfl, rl_mk (pu_D_off hD hi (li.2.2 hi))⟩
theorem i_vc_withdraw {k : Nat} {u : SX} {v : SY} (I : i_Rel k u v) (hk : k + 5 ≤ 2560) (v1 : Int32) : wpX_withdraw (fun r u' => wpY_withdraw (fun r' v' => r' = r ∧ i_Rel (k + 5) u' v') v v1) u v1 := by
  obtain ⟨p, w, g, q, rfl, rfl, hD⟩ := I
  unfold wpX_withdraw wpY_withdraw
  dsimp only
  refine xa_has hD.1 v1 ⟨fun y => br_f pu_10 ?_, fun y => br_t rfl (ya_is v1 ⟨fun s => absurd s y, fun _ => br_t rfl ⟨rfl, rl_mk hD⟩⟩)⟩
  have y' := y
  obtain ⟨j, hj, rfl, tj⟩ := y'
  unfold wpX_remove
  dsimp only
  refine nm_r (pu_t4 p hD.1 j hj) (ya_is (nI j) ⟨fun _ => br_f pu_10 ⟨vp_in_nI hj (by decide), nm_r (e' := pu_T (pu_clr p j)) ?_ ⟨rfl, rl_mk ?_⟩⟩, fun s => absurd y s⟩)
  · rw [nI_clamp (by omega), pu_vb0, pu_Tclr hD.1 hj]
  · obtain ⟨hp, hg, c, hc, z⟩ := hD
    exact ⟨pu_clr_lt hp, hg, _, pu_clr_lt hc, pu_plan_out hp hc hj z⟩
theorem i_vc_change {k : Nat} {u : SX} {v : SY} (I : i_Rel k u v) (hk : k + 5 ≤ 2560) (v1 : Int32) (v2 : Int32) (v3 : Int32) : wpX_change (fun r u' => wpY_change (fun r' v' => r' = r ∧ i_Rel (k + 5) u' v') v v1 v2 v3) u v1 v2 v3 := by
  obtain ⟨p, w, g, q, rfl, rfl, hD⟩ := I
  unfold wpX_change
  dsimp only
  refine xa_hasWay hD.1 v1 v2 ⟨fun y => br_f pu_10 ?_, fun y => br_t rfl ?_⟩
  · refine xa_way v3 ⟨fun a => br_f pu_10 ?_, fun a => br_t rfl (ya_change_t y.1 y.2 ?_)⟩
    · obtain ⟨⟨j, hj, e1, tj⟩, s⟩ := y
      obtain ⟨l, hl, e2⟩ := pu_01 s
      have hi : pu_is p v1 := ⟨j, hj, e1, tj⟩
      subst e1 e2
      have eI := pk_in (2 * j + l) 16 (by omega) (pu_ix (j := j) (k := l))
      have eC := pk_cl (2 * j + l) (pu_ix (j := j) (k := l)) (by omega)
      refine ⟨eI, nm_r (e' := w (2 * j + l)) (by rw [eC]) ⟨eI, nm_r (e' := upd w (2 * j + l) v3) (by rw [eC]) (xa_first hD.1 fun r hr => ?_)⟩⟩
      rcases pu_fst_ge hr with ⟨-, r1, -, hP⟩ | ⟨-, r1, -⟩
      · refine br_f r1 (ya_change_t hi s ?_)
        unfold wY_change_17
        refine ya_way v3 ⟨fun _ => br_f pu_10 ⟨eI, nm_r (e' := w (2 * j + l)) (by rw [eC]) ⟨eI, nm_r (e' := upd w (2 * j + l) v3) (by rw [eC]) (ya_first hD.2.1 fun r' q' hr' => ?_)⟩⟩, fun b => absurd a b⟩
        rcases pu_fst_ge hr' with ⟨-, -, s0, -⟩ | ⟨-, s1, s0⟩
        · exact br_f s0 ⟨rfl, rl_mk ⟨hD.1, hD.2.1, hP⟩⟩
        · exact absurd ((pu_fst_u hr' hr).trans s1) r1
      · refine br_t r1 ⟨eI, nm_r (e' := w) (by rw [eC, pu_ub]) (ya_change_t hi s ?_)⟩
        unfold wY_change_17
        refine ya_way v3 ⟨fun _ => br_f pu_10 ⟨eI, nm_r (e' := w (2 * j + l)) (by rw [eC]) ⟨eI, nm_r (e' := upd w (2 * j + l) v3) (by rw [eC]) (ya_first hD.2.1 fun r' q' hr' => ?_)⟩⟩, fun b => absurd a b⟩
        rcases pu_fst_ge hr' with ⟨-, s1, s0, -⟩ | ⟨-, s1, s0⟩
        · exact absurd ((pu_fst_u hr hr').trans r1) s1
        · exact br_t s0 ⟨eI, nm_r (e' := w) (by rw [eC, pu_ub]) ⟨rfl, rl_mk hD⟩⟩
    · unfold wY_change_17
      exact ya_way v3 ⟨fun b => absurd b a, fun _ => br_t rfl ⟨rfl, rl_mk hD⟩⟩
  · exact ya_change_f y ⟨rfl, rl_mk hD⟩
theorem i_vc_pin {k : Nat} {u : SX} {v : SY} (I : i_Rel k u v) (hk : k + 5 ≤ 2560) (v1 : Int32) (v2 : Int32) : wpX_pin (fun r u' => wpY_pin (fun r' v' => r' = r ∧ i_Rel (k + 5) u' v') v v1 v2) u v1 v2 := by
  obtain ⟨p, w, g, q, rfl, rfl, hD⟩ := I
  unfold wpX_pin
  dsimp only
  refine xa_hasWay hD.1 v1 v2 ⟨fun y => br_f pu_10 ?_, fun y => br_t rfl ?_⟩
  · obtain ⟨⟨j, hj, e1, tj⟩, s⟩ := y
    have hi : pu_is p v1 := ⟨j, hj, e1, tj⟩
    subst e1
    have eI := vp_in_nI (n := j) (N := 8) hj (by decide)
    have eC := nI_clamp (n := j) (by omega)
    have hG : pu_G (upd g j v2) := pu_G_u hD.2.1 (Or.inr s)
    refine ⟨eI, nm_r (e' := g j) (by rw [eC]) ⟨eI, nm_r (e' := upd g j v2) (by rw [eC]) (xa_first hD.1 fun r hr => ?_)⟩⟩
    rcases pu_fst_ge hr with ⟨-, r1, -, hP⟩ | ⟨-, r1, -⟩
    · refine br_f r1 (ya_pin_t hi s ?_)
      unfold wY_pin_19
      refine ⟨eI, nm_r (e' := g j) (by rw [eC]) ⟨eI, nm_r (e' := upd g j v2) (by rw [eC]) (ya_first hG fun r' q' hr' => ?_)⟩⟩
      rcases pu_fst_ge hr' with ⟨-, -, s0, -⟩ | ⟨-, s1, s0⟩
      · exact br_f s0 ⟨rfl, rl_mk ⟨hD.1, hG, hP⟩⟩
      · exact absurd ((pu_fst_u hr' hr).trans s1) r1
    · refine br_t r1 ⟨eI, nm_r (e' := g) (by rw [eC, pu_ub]) (ya_pin_t hi s ?_)⟩
      unfold wY_pin_19
      refine ⟨eI, nm_r (e' := g j) (by rw [eC]) ⟨eI, nm_r (e' := upd g j v2) (by rw [eC]) (ya_first hG fun r' q' hr' => ?_)⟩⟩
      rcases pu_fst_ge hr' with ⟨-, s1, s0, -⟩ | ⟨-, s1, s0⟩
      · exact absurd ((pu_fst_u hr hr').trans r1) s1
      · exact br_t s0 ⟨eI, nm_r (e' := g) (by rw [eC, pu_ub]) ⟨rfl, rl_mk hD⟩⟩
  · exact ya_pin_f y ⟨rfl, rl_mk hD⟩
theorem i_vc_unpin {k : Nat} {u : SX} {v : SY} (I : i_Rel k u v) (hk : k + 5 ≤ 2560) (v1 : Int32) : wpX_unpin (fun r u' => wpY_unpin (fun r' v' => r' = r ∧ i_Rel (k + 5) u' v') v v1) u v1 := by
  obtain ⟨p, w, g, q, rfl, rfl, hD⟩ := I
  unfold wpX_unpin wpY_unpin
  dsimp only
  refine xa_has hD.1 v1 ⟨fun y => br_f pu_10 ?_, fun y => br_t rfl (ya_is v1 ⟨fun s => absurd s y, fun _ => br_t rfl ⟨rfl, rl_mk hD⟩⟩)⟩
  have y' := y
  obtain ⟨j, hj, rfl, tj⟩ := y'
  have eI := vp_in_nI (n := j) (N := 8) hj (by decide)
  have eC := nI_clamp (n := j) (by omega)
  refine ⟨eI, ?_⟩
  rw [eC]
  refine br_c (fun s => ya_is (nI j) ⟨fun _ => br_f pu_10 ⟨eI, br_f ?_ ⟨rfl, rl_mk hD⟩⟩, fun r => absurd y r⟩) (fun s => ⟨eI, nm_e (ya_is (nI j) ⟨fun _ => br_f pu_10 ⟨eI, br_t ?_ ⟨eI, nm_e ⟨rfl, rl_mk ?_⟩⟩⟩, fun r => absurd y r⟩)⟩)
  · rw [s]; decide
  · rcases hD.2.1 j hj with e | e | e
    · exact absurd e s
    · rw [e]; decide
    · rw [e]; decide
  · obtain ⟨hp, hg, c, hc, z⟩ := hD
    exact ⟨hp, pu_G_u hg (Or.inl rfl), c, hc, pu_plan_unpin z⟩
theorem i_vc_jobs {k : Nat} {u : SX} {v : SY} (I : i_Rel k u v) (hk : k + 5 ≤ 2560) : wpX_jobs (fun r => wpY_jobs (fun r' => r' = r ∧ i_Rel (k + 5) u v) v) u := by
  obtain ⟨p, w, g, q, rfl, rfl, hD⟩ := I
  exact ya_jobs (post := fun r' => r' = nI p ∧ i_Rel (k + 5) (nI p, w, g) (pu_T p, w, g, q)) hD.1 ⟨rfl, rl_mk hD⟩
theorem i_vc_way {k : Nat} {u : SX} {v : SY} (I : i_Rel k u v) (hk : k + 5 ≤ 2560) (v1 : Int32) (v2 : Int32) : wpX_way (fun r => wpY_way (fun r' => r' = r ∧ i_Rel (k + 5) u v) v v1 v2) u v1 v2 := by
  obtain ⟨p, w, g, q, rfl, rfl, hD⟩ := I
  unfold wpX_way wpY_way
  dsimp only
  refine xa_hasWay hD.1 v1 v2 ⟨fun y => br_f pu_10 ?_, fun y => br_t rfl ?_⟩
  · obtain ⟨⟨j, hj, e1, tj⟩, s⟩ := y
    obtain ⟨l, hl, e2⟩ := pu_01 s
    have hi : pu_is p v1 := ⟨j, hj, e1, tj⟩
    have eI : vp_in ((2 * v1) + v2) 16 := by
      subst e1 e2
      exact pk_in (2 * j + l) 16 (by omega) (pu_ix (j := j) (k := l))
    refine ⟨eI, ya_is v1 ⟨fun _ => br_f pu_10 (br_c (fun _ => ⟨eI, rfl, rl_mk hD⟩) fun s0 => br_c (fun _ => ⟨eI, rfl, rl_mk hD⟩) fun s1 => ?_), fun r => absurd hi r⟩⟩
    rcases s with s | s
    · exact absurd s s0
    · exact absurd s s1
  · refine ya_is v1 ⟨fun s => br_f pu_10 (br_f (fun e => y ⟨s, Or.inl e⟩) (br_f (fun e => y ⟨s, Or.inr e⟩) ⟨rfl, rl_mk hD⟩)), fun s => br_t rfl ⟨rfl, rl_mk hD⟩⟩
theorem i_vc_forced {k : Nat} {u : SX} {v : SY} (I : i_Rel k u v) (hk : k + 5 ≤ 2560) (v1 : Int32) : wpX_forced (fun r => wpY_forced (fun r' v' => r' = r ∧ i_Rel (k + 5) u v') v v1) u v1 := by
  obtain ⟨p, w, g, q, rfl, rfl, hD⟩ := I
  refine xa_forced hD v1 (fun j hj e tj r hr => ?_) (fun y => ?_)
  · refine ya_forced hD.2.1 v1 (fun i hi e' ti r' q' hr' => ?_) (fun s => absurd ⟨j, hj, e, tj⟩ s)
    have ee : i = j := (nI_eq (by omega) (by omega)).mp (e'.symm.trans e)
    subst ee
    exact ⟨pu_fd_u hD.2.2 hr hr', rl_mk hD⟩
  · exact ya_forced hD.2.1 v1 (fun i hi e' ti => absurd ⟨i, hi, e', ti⟩ y) (fun _ q' => ⟨rfl, rl_mk hD⟩)
theorem i_vc_implies {k : Nat} {u : SX} {v : SY} (I : i_Rel k u v) (hk : k + 5 ≤ 2560) (v1 : Int32) (v2 : Int32) (v3 : Int32) (v4 : Int32) : wpX_implies (fun r => wpY_implies (fun r' v' => r' = r ∧ i_Rel (k + 5) u v') v v1 v2 v3 v4) u v1 v2 v3 v4 := by
  obtain ⟨p, w, g, q, rfl, rfl, hD⟩ := I
  exact xa_im hD.1 ⟨fun y => ya_im hD.2.1 (fun _ q' => ⟨rfl, rl_mk hD⟩) (fun s => absurd y s), fun y => ya_im hD.2.1 (fun s => absurd s y) (fun _ q' => ⟨rfl, rl_mk hD⟩)⟩
theorem i_vc_planned {k : Nat} {u : SX} {v : SY} (I : i_Rel k u v) (hk : k + 5 ≤ 2560) (v1 : Int32) : wpX_planned (fun r => wpY_planned (fun r' v' => r' = r ∧ i_Rel (k + 5) u v') v v1) u v1 := by
  obtain ⟨p, w, g, q, rfl, rfl, hD⟩ := I
  unfold wpY_planned
  dsimp only
  refine xa_planned hD v1 (fun j hj e tj f hf hr => ?_) (fun y => ?_)
  · refine ya_first hD.2.1 fun r' q' hr' => ?_
    have ee := pu_fst_u hr hr'
    subst ee e
    refine ya_is (nI j) ⟨fun _ => br_f pu_10 (br_f (pu_m1 f hf).2.2.2 ⟨pu_t1 f hf j hj, rl_mk hD⟩), fun s => absurd ((pu_is_n hj).mpr tj) s⟩
  · refine ya_first hD.2.1 fun r' q' hr' => ?_
    exact ya_is v1 ⟨fun s => absurd s y, fun _ => br_t rfl ⟨rfl, rl_mk hD⟩⟩
theorem rl_3 (x : Int32) : (3 : Int32) ≤ x ↔ 2 < x := by
  rw [Int32.le_iff_toInt_le, Int32.lt_iff_toInt_lt, pu_n3, pu_n2]; omega
theorem rl_20 (x : Int32) : x < 20 ↔ ¬ 19 < x := by
  rw [Int32.lt_iff_toInt_lt, Int32.lt_iff_toInt_lt, pu_n19, pu_n20]; omega
theorem i_vc_alwaysTaken {k : Nat} {u : SX} {v : SY} (I : i_Rel k u v) (hk : k + 5 ≤ 2560) (v1 : Int32) (v2 : Int32) : wpX_alwaysTaken (fun r => wpY_alwaysTaken (fun r' v' => r' = r ∧ i_Rel (k + 5) u v') v v1 v2) u v1 v2 := by
  obtain ⟨p, w, g, q, rfl, rfl, hD⟩ := I
  unfold wpX_alwaysTaken wpY_alwaysTaken
  dsimp only
  refine br_c (fun z => br_t z ⟨rfl, rl_mk hD⟩) fun z => br_c (fun z2 => br_f z (br_t ((rl_3 v1).mp z2) ⟨rfl, rl_mk hD⟩)) fun z2 => ?_
  have y2 : ¬ 2 < v1 := fun y => z2 ((rl_3 v1).mpr y)
  refine br_c (fun z3 => br_f z (br_f y2 (br_t z3 ⟨rfl, rl_mk hD⟩))) fun z3 => br_c (fun z4 => ?_) fun z4 => ?_
  · have y4 := (rl_20 v2).mp z4
    exact xa_some hD.1 ⟨fun s => br_f pu_10 (br_f z (br_f y2 (br_f z3 (br_f y4 (ya_some hD.2.1 (fun _ q' => br_f pu_10 ⟨rfl, rl_mk hD⟩) (fun t => absurd s t)))))), fun s => br_t rfl (br_f z (br_f y2 (br_f z3 (br_f y4 (ya_some hD.2.1 (fun t => absurd t s) (fun _ q' => br_t rfl ⟨rfl, rl_mk hD⟩))))))⟩
  · have y4 : 19 < v2 := Classical.byContradiction fun y => z4 ((rl_20 v2).mpr y)
    exact br_f z (br_f y2 (br_f z3 (br_t y4 ⟨rfl, rl_mk hD⟩)))
theorem i_vc_couldKeepFree {k : Nat} {u : SX} {v : SY} (I : i_Rel k u v) (hk : k + 5 ≤ 2560) (v1 : Int32) : wpX_couldKeepFree (fun r => wpY_couldKeepFree (fun r' v' => r' = r ∧ i_Rel (k + 5) u v') v v1) u v1 := by
  obtain ⟨p, w, g, q, rfl, rfl, hD⟩ := I
  unfold wpX_couldKeepFree wpY_couldKeepFree
  dsimp only
  refine xa_way v1 ⟨fun a => br_f pu_10 ?_, fun a => br_t rfl (ya_way v1 ⟨fun b => absurd b a, fun _ => br_t rfl ⟨rfl, rl_mk hD⟩⟩)⟩
  exact xa_some hD.1 ⟨fun s => br_f pu_10 (ya_way v1 ⟨fun _ => br_f pu_10 (ya_some hD.2.1 (fun _ q' => br_f pu_10 ⟨rfl, rl_mk hD⟩) (fun t => absurd s t)), fun b => absurd a b⟩), fun s => br_t rfl (ya_way v1 ⟨fun _ => br_f pu_10 (ya_some hD.2.1 (fun t => absurd t s) (fun _ q' => br_t rfl ⟨rfl, rl_mk hD⟩)), fun b => absurd a b⟩)⟩
theorem i_vc_forcedJobs {k : Nat} {u : SX} {v : SY} (I : i_Rel k u v) (hk : k + 5 ≤ 2560) : wpX_forcedJobs (fun r => wpY_forcedJobs (fun r' v' => r' = r ∧ i_Rel (k + 5) u v') v) u := by
  obtain ⟨p, w, g, q, rfl, rfl, hD⟩ := I
  exact xa_fjobs hD (ya_fjobs hD.2.1 fun q' => ⟨rfl, rl_mk hD⟩)
theorem i_vc_flips {k : Nat} {u : SX} {v : SY} (I : i_Rel k u v) (hk : k + 5 ≤ 2560) : wpX_flips (fun r => wpY_flips (fun r' v' => r' = r ∧ i_Rel (k + 5) u v') v) u := by
  obtain ⟨p, w, g, q, rfl, rfl, hD⟩ := I
  unfold wpY_flips
  dsimp only
  refine xa_flips hD fun f hf hP hr => ?_
  refine ya_first hD.2.1 fun r' q' hr' => ?_
  have ee := pu_fst_u hr hr'
  subst ee
  exact ⟨9, ya_flips_l hD.2.1 hf hP (fun q'' => ⟨rfl, rl_mk hD⟩) 9 0 q' (by omega) (by omega)⟩
