section
variable {p : Nat} {w g : Nat → Int32} {post : Int32 → Prop}
theorem xa_wi {c j : Nat} (hc : c < 256) (hj : j < 8) (h : post (nI (pu_b c j))) : wpX_wayIn post (nI c) (nI j) := by
  unfold wpX_wayIn
  rw [pu_t1 c hc j hj]
  exact h
theorem xa_way (a : Int32) (h : pu_ret (pu_way a) post) : wpX_isWay post a := by
  unfold wpX_isWay
  refine nm_e (nm_e (nm_e (br_c (fun z => h.2 fun y => ?_) fun z => br_c (fun z2 => h.2 fun y => ?_) fun z2 => br_c (fun z3 => h.2 fun y => ?_) fun z3 => h.1 ?_)))
  · exact Int32.not_le.mpr y.1 z
  · exact Int32.not_le.mpr z2 y.2.1
  · exact Int32.not_le.mpr z3 y.2.2
  · exact ⟨Int32.not_le.mp z, Int32.not_lt.mp z2, Int32.not_lt.mp z3⟩
theorem xa_col (a b : Int32) (h : pu_ret (pu_col a b) post) : wpX_collide post a b := by
  unfold wpX_collide
  refine nm_e (nm_e (nm_e (nm_e (br_c (fun z => br_c (fun z2 => h.2 fun y => ?_) fun z2 => br_c (fun z3 => h.2 fun y => ?_) fun z3 => h.1 ?_) fun z => h.2 fun y => z y.1))))
  · exact Int32.not_le.mpr y.2.1 z2
  · exact Int32.not_le.mpr y.2.2 z3
  · exact ⟨z, Int32.not_le.mp z2, Int32.not_le.mp z3⟩
theorem xa_has (hp : p < 256) (x : Int32) (h : pu_ret (pu_is p x) post) : wpX_hasJob post (nI p, w, g) x := by
  rcases pk_ix x (n := 8) (by decide) with h0 | h8 | ⟨j, hj, rfl⟩
  · exact br_t h0 (h.2 (pu_is_neg h0))
  · exact br_f (pu_8 h8).1 (br_t h8 (h.2 (pu_is_ge h8)))
  · refine br_f (nI_pos (by omega)) (br_f (nI_ge (b := 8) hj (by decide)) ?_)
    by_cases z : p.testBit j = true
    · exact br_f (fun y => pu_tf z ((pu_t2 p hp j hj).mp y)) (h.1 ((pu_is_n hj).mpr z))
    · exact br_t ((pu_t2 p hp j hj).mpr (pu_nt z)) (h.2 (fun y => z ((pu_is_n hj).mp y)))
theorem xa_hasN (hp : p < 256) {j : Nat} (hj : j < 8) (h : pu_ret (p.testBit j = true) post) : wpX_hasJob post (nI p, w, g) (nI j) :=
  xa_has hp _ ⟨fun q => h.1 ((pu_is_n hj).mp q), fun q => h.2 (fun y => q ((pu_is_n hj).mpr y))⟩
theorem xa_hasWay (hp : p < 256) (x k : Int32) (h : pu_ret (pu_is p x ∧ (k = 0 ∨ k = 1)) post) : wpX_hasWay post (nI p, w, g) x k := by
  unfold wpX_hasWay
  dsimp only
  refine xa_has hp x ⟨fun q => br_f pu_10 ?_, fun q => br_t rfl (h.2 fun y => q y.1)⟩
  refine br_c (fun z => h.1 ⟨q, Or.inl z⟩) fun z => br_c (fun z2 => h.1 ⟨q, Or.inr z2⟩) fun z2 => h.2 fun y => ?_
  rcases y.2 with y | y
  · exact z y
  · exact z2 y
theorem xa_below_l {c m : Nat} {a : Int32} (hp : p < 256) (hc : c < 256) (hm : m ≤ 8) (h : pu_ret (pu_hit p w c a m) post) : ∀ n j, j ≤ m → m - j < n → ¬ pu_hit p w c a j → wX_collidesBelow_3 post (nI c) (nI m) a (nI p) w g n (nI j) := by
  intro n
  induction n with
  | zero => intro j h1 h2; omega
  | succ n ih =>
    intro j hj hn hb
    have stp : ¬ pu_hit p w c a (j + 1) → j < m → wX_collidesBelow_3 post (nI c) (nI m) a (nI p) w g n (nI j + 1) := fun q z => by
      rw [nI_1 j]; exact ih (j + 1) (by omega) (by omega) q
    refine pk_le m j (fun z => h.2 ?_) (fun z => pk_le 8 j (fun z2 => absurd z2 (by omega)) (fun z2 => ?_))
    · have e : j = m := by omega
      rw [← e]; exact hb
    · refine xa_wi hc (by omega) ?_
      have b2 := pu_b2 c j
      refine ⟨pk_in (2 * j + pu_b c j) 16 (by omega) pu_ix, nm_r (congrArg w (pk_cl (2 * j + pu_b c j) pu_ix (by omega))) ?_⟩
      refine xa_hasN hp (by omega) ⟨fun q => br_f pu_10 ?_, fun q => br_t rfl (nm_e (stp (pu_hit_s hb (fun y => absurd y q)) z))⟩
      exact xa_col _ _ ⟨fun y => br_f pu_10 (h.1 ⟨j, z, q, y⟩), fun y => br_t rfl (nm_e (stp (pu_hit_s hb (fun _ => y)) z))⟩
theorem xa_below {c m : Nat} {a : Int32} (hp : p < 256) (hc : c < 256) (hm : m ≤ 8) (h : pu_ret (pu_hit p w c a m) post) : wpX_collidesBelow post (nI p, w, g) (nI c) (nI m) a :=
  ⟨m + 1, xa_below_l hp hc hm h (m + 1) 0 (by omega) (by omega) pu_hit_0⟩
theorem xa_may {c j : Nat} (hp : p < 256) (hj : j < 8) (h : pu_ret (pu_may p g c j) post) : wpX_mayChoose post (nI p, w, g) (nI j) (nI (pu_b c j)) := by
  unfold wpX_mayChoose
  dsimp only
  refine xa_hasN hp hj ⟨fun q => br_f pu_10 ⟨vp_in_nI hj (by decide), ?_⟩, fun q => br_t rfl ?_⟩
  · rw [nI_clamp (by omega)]
    refine br_c (fun z => h.1 ⟨fun _ => Or.inl z, fun y => absurd q (pu_ft y)⟩) fun z => ⟨vp_in_nI hj (by decide), br_c (fun z2 => h.1 ⟨fun _ => Or.inr z2, fun y => absurd q (pu_ft y)⟩) fun z2 => h.2 fun y => ?_⟩
    rcases y.1 q with y | y
    · exact z y
    · exact z2 y
  · refine br_c (fun z => h.1 ⟨fun y => absurd y q, fun _ => ?_⟩) fun z => h.2 fun y => z ?_
    · exact (pu_bI c j 0 (by omega)).mp z
    · rw [y.2 (pu_nt q)]; rfl
theorem xa_plan_l {c : Nat} (hp : p < 256) (hc : c < 256) (h : pu_ret (pu_plan p w g c) post) : ∀ n j, j ≤ 8 → 8 - j < n → (∀ i, i < j → pu_may p g c i ∧ pu_free p w c i) → wX_isPlan_2 post (nI c) (nI p) w g n (nI j) := by
  intro n
  induction n with
  | zero => intro j h1 h2; omega
  | succ n ih =>
    intro j hj hn hb
    refine pk_le 8 j (fun z => h.1 (fun i hi => hb i (by omega))) (fun z => xa_wi hc z ?_)
    refine xa_may hp z ⟨fun q => br_f pu_10 ?_, fun q => br_t rfl (h.2 fun y => q (y j z).1)⟩
    have stp : pu_free p w c j → wX_isPlan_2 post (nI c) (nI p) w g n (nI j + 1) := fun q2 => by
      rw [nI_1 j]
      refine ih (j + 1) (by omega) (by omega) (fun i hi => ?_)
      rcases Nat.lt_or_ge i j with y | y
      · exact hb i y
      · have e : i = j := by omega
        subst e
        exact ⟨q, q2⟩
    have b2 := pu_b2 c j
    refine xa_hasN hp z ⟨fun t => br_f pu_10 ⟨pk_in (2 * j + pu_b c j) 16 (by omega) pu_ix, ?_⟩, fun t => br_t rfl (nm_e (stp fun y => absurd y t))⟩
    rw [pk_cl (2 * j + pu_b c j) pu_ix (by omega)]
    refine xa_below hp hc (by omega) ⟨fun s => br_f pu_10 (h.2 fun y => ?_), fun s => br_t rfl (nm_e (stp ?_))⟩
    · obtain ⟨i, hi, hi2, hi3⟩ := s
      exact (y j z).2 t i hi hi2 hi3
    · intro _ i hi hi2 hi3
      exact s ⟨i, hi, hi2, hi3⟩
theorem xa_plan {c : Nat} (hp : p < 256) (hc : c < 256) (h : pu_ret (pu_plan p w g c) post) : wpX_isPlan post (nI p, w, g) (nI c) :=
  ⟨9, xa_plan_l hp hc h 9 0 (by omega) (by omega) (fun i hi => absurd hi (Nat.not_lt_zero i))⟩
theorem xa_first_l (hp : p < 256) (h : ∀ r, pu_fst (pu_plan p w g) r → post r) : ∀ n c, c ≤ 256 → 256 - c < n → (∀ d, d < c → ¬ pu_plan p w g d) → wX_firstPlan_2 post (nI p) w g n (nI c) := by
  intro n
  induction n with
  | zero => intro j h1 h2; omega
  | succ n ih =>
    intro c hc hn hb
    refine pk_le 256 c (fun z => h _ (Or.inr ⟨fun d hd => hb d (by omega), rfl⟩)) (fun z => xa_plan hp z ⟨fun q => br_f pu_10 (h _ (Or.inl ⟨c, z, q, hb, rfl⟩)), fun q => br_t rfl (nm_r (nI_1 c) (ih (c + 1) (by omega) (by omega) (fun d hd => ?_)))⟩)
    rcases Nat.lt_or_ge d c with y | y
    · exact hb d y
    · have e : d = c := by omega
      subst e
      exact q
theorem xa_first (hp : p < 256) (h : ∀ r, pu_fst (pu_plan p w g) r → post r) : wpX_firstPlan post (nI p, w, g) :=
  ⟨257, xa_first_l hp h 257 0 (by omega) (by omega) (fun i hi => absurd hi (Nat.not_lt_zero i))⟩
theorem xa_opn_l {f : Nat} (hp : p < 256) (hf : f < 256) (h : ∀ o, pu_opn (pu_plan p w g) f o → post (nI o)) : ∀ n c o, c ≤ 256 → 256 - c < n → o < 256 → (∀ i, i < 8 → (o.testBit i = true ↔ ∃ d, d < c ∧ pu_plan p w g d ∧ (d ^^^ f).testBit i = true)) → wX_openJobs_4 post (nI f) (nI p) w g n (nI o) (nI c) := by
  intro n
  induction n with
  | zero => intro j o h1 h2; omega
  | succ n ih =>
    intro c o hc hn ho hb
    refine pk_le 256 c (fun z => h o ⟨ho, ?_⟩) (fun z => xa_plan hp z ⟨fun q => br_f pu_10 ?_, fun q => br_t rfl (nm_r (nI_1 c) (ih (c + 1) o (by omega) (by omega) ho (fun i hi => ?_)))⟩)
    · have e : c = 256 := by omega
      rw [← e]; exact hb
    · refine nm_r (e' := nI (o ||| (c ^^^ f))) (by rw [nx_xor, pu_or]) (nm_r (nI_1 c) (ih (c + 1) _ (by omega) (by omega) (Nat.or_lt_two_pow (n := 8) ho (Nat.xor_lt_two_pow (n := 8) z hf)) (fun i hi => ?_)))
      rw [Nat.testBit_or, Bool.or_eq_true, hb i hi]
      constructor
      · rintro (⟨d, hd, y⟩ | y)
        · exact ⟨d, by omega, y⟩
        · exact ⟨c, by omega, q, y⟩
      · rintro ⟨d, hd, y1, y2⟩
        rcases Nat.lt_or_ge d c with y | y
        · exact Or.inl ⟨d, y, y1, y2⟩
        · have e : d = c := by omega
          subst e
          exact Or.inr y2
    · rw [hb i hi]
      constructor
      · rintro ⟨d, hd, y⟩
        exact ⟨d, by omega, y⟩
      · rintro ⟨d, hd, y1, y2⟩
        rcases Nat.lt_or_ge d c with y | y
        · exact ⟨d, y, y1, y2⟩
        · have e : d = c := by omega
          subst e
          exact absurd y1 q
theorem xa_opn {f : Nat} (hp : p < 256) (hf : f < 256) (h : ∀ o, pu_opn (pu_plan p w g) f o → post (nI o)) : wpX_openJobs post (nI p, w, g) (nI f) := by
  refine ⟨257, xa_opn_l hp hf h 257 0 0 (by omega) (by omega) (by omega) (fun i hi => ?_)⟩
  rw [Nat.zero_testBit]
  exact ⟨(fun y => absurd y (by decide)), fun ⟨d, hd, _⟩ => absurd hd (Nat.not_lt_zero d)⟩
theorem xa_some_l {a : Int32} (hp : p < 256) (h : pu_ret (pu_some p w g a 256) post) : ∀ n c, c ≤ 256 → 256 - c < n → ¬ pu_some p w g a c → wX_somePlanAvoids_2 post a (nI p) w g n (nI c) := by
  intro n
  induction n with
  | zero => intro j h1 h2; omega
  | succ n ih =>
    intro c hc hn hb
    refine pk_le 256 c (fun z => h.2 ?_) (fun z => xa_below (m := 8) hp z (by omega) ⟨fun q => br_f pu_10 (nm_r (nI_1 c) (ih (c + 1) (by omega) (by omega) (pu_some_s hb fun _ => q))), fun q => br_t rfl (xa_plan hp z ⟨fun q2 => br_f pu_10 (h.1 ⟨c, z, q2, q⟩), fun q2 => br_t rfl (nm_r (nI_1 c) (ih (c + 1) (by omega) (by omega) (pu_some_s hb fun y => absurd y q2)))⟩)⟩)
    have e : c = 256 := by omega
    rw [← e]; exact hb
theorem xa_some {a : Int32} (hp : p < 256) (h : pu_ret (pu_some p w g a 256) post) : wpX_somePlanAvoids post (nI p, w, g) a :=
  ⟨257, xa_some_l hp h 257 0 (by omega) (by omega) (fun ⟨i, hi, _⟩ => absurd hi (Nat.not_lt_zero i))⟩
theorem xa_im_l {j k i m : Nat} (hp : p < 256) (hj : j < 8) (hk : k < 2) (hi : i < 8) (hm : m < 2) (h : pu_ret (pu_im p w g j k i m 256) post) : ∀ n c, c ≤ 256 → 256 - c < n → pu_im p w g j k i m c → wX_implies_24 post (nI j) (nI k) (nI i) (nI m) (nI p) w g n (nI c) := by
  intro n
  induction n with
  | zero => intro j h1 h2; omega
  | succ n ih =>
    intro c hc hn hb
    refine pk_le 256 c (fun z => h.1 ?_) (fun z => xa_wi z hj (br_c (fun z1 => xa_wi z hi (br_c (fun z2 => nm_r (nI_1 c) (ih (c + 1) (by omega) (by omega) (pu_im_s hb ?_))) (fun z2 => xa_plan hp z ⟨fun q => br_f pu_10 (h.2 fun y => ?_), fun q => br_t rfl (nm_r (nI_1 c) (ih (c + 1) (by omega) (by omega) (pu_im_s hb ?_)))⟩))) (fun z1 => nm_r (nI_1 c) (ih (c + 1) (by omega) (by omega) (pu_im_s hb ?_)))))
    · have e : c = 256 := by omega
      rw [← e]; exact hb
    · exact fun _ _ => (pu_bI c i m hm).mp z2
    · exact z2 ((pu_bI c i m hm).mpr (y c z q ((pu_bI c j k hk).mp z1)))
    · exact fun y => absurd y q
    · exact fun _ y => absurd ((pu_bI c j k hk).mpr y) z1
theorem xa_im {x y z t : Int32} (hp : p < 256) (h : pu_ret (pu_imr p w g x y z t) post) : wpX_implies post (nI p, w, g) x y z t := by
  unfold wpX_implies
  dsimp only
  refine xa_hasWay hp x y ⟨fun q => br_f pu_10 ?_, fun q => br_t rfl (h.2 fun s => q (pu_imr_g s).1)⟩
  refine xa_hasWay hp z t ⟨fun q2 => br_f pu_10 ?_, fun q2 => br_t rfl (h.2 fun s => q2 (pu_imr_g s).2)⟩
  obtain ⟨⟨j, hj, rfl, tj⟩, k01⟩ := q
  obtain ⟨⟨i, hi, rfl, ti⟩, m01⟩ := q2
  obtain ⟨k, hk, rfl⟩ := pu_01 k01
  obtain ⟨m, hm, rfl⟩ := pu_01 m01
  exact ⟨257, xa_im_l hp hj hk hi hm ⟨fun s => h.1 ((pu_imr_n hj hk hi hm tj ti).mpr s), fun s => h.2 fun r => s ((pu_imr_n hj hk hi hm tj ti).mp r)⟩ 257 0 (by omega) (by omega) (fun d hd => absurd hd (Nat.not_lt_zero d))⟩
theorem xa_forced (hD : pu_D p w g) (x : Int32) (h1 : ∀ j, j < 8 → x = nI j → p.testBit j = true → ∀ r, pu_fd (pu_plan p w g) j r → post r) (h0 : ¬ pu_is p x → post (-1)) : wpX_forced post (nI p, w, g) x := by
  unfold wpX_forced
  dsimp only
  refine xa_has hD.1 x ⟨fun q => br_f pu_10 ?_, fun q => br_t rfl (h0 q)⟩
  obtain ⟨j, hj, rfl, tj⟩ := q
  refine xa_first hD.1 fun r hr => ?_
  obtain ⟨f, hf, hP, rfl⟩ := pu_fst_e hr hD.2.2
  refine xa_opn hD.1 hf fun o ho => ?_
  unfold wpX_bitOf
  have e := pu_opn_fd ho hj hf hP
  refine br_c (fun z => xa_wi hf hj (h1 j hj rfl tj _ (e.1 ((pu_t7 o ho.1 j hj).mp z)))) (fun z => h1 j hj rfl tj _ (e.2 fun y => z ((pu_t7 o ho.1 j hj).mpr y)))
theorem xa_planned (hD : pu_D p w g) (x : Int32) (h1 : ∀ j, j < 8 → x = nI j → p.testBit j = true → ∀ f, f < 256 → pu_fst (pu_plan p w g) (nI f) → post (nI (pu_b f j))) (h0 : ¬ pu_is p x → post (-1)) : wpX_planned post (nI p, w, g) x := by
  unfold wpX_planned
  dsimp only
  refine xa_has hD.1 x ⟨fun q => br_f pu_10 ?_, fun q => br_t rfl (h0 q)⟩
  obtain ⟨j, hj, rfl, tj⟩ := q
  refine xa_first hD.1 fun r hr => ?_
  obtain ⟨f, hf, hP, rfl⟩ := pu_fst_e hr hD.2.2
  exact xa_wi hf hj (h1 j hj rfl tj f hf hr)
theorem xa_fjobs_l {f o : Nat} (hp : p < 256) (hf : f < 256) (hP : pu_plan p w g f) (ho : pu_opn (pu_plan p w g) f o) (h : post (nI (pu_cnt (fun j => p.testBit j = true ∧ ∃ v, v < 2 ∧ pu_all (pu_plan p w g) j v) 8))) : ∀ n j, j ≤ 8 → 8 - j < n → wX_forcedJobs_16 post (nI o) (nI p) w g n (nI (pu_cnt (fun j => p.testBit j = true ∧ ∃ v, v < 2 ∧ pu_all (pu_plan p w g) j v) j)) (nI j) := by
  intro n
  induction n with
  | zero => intro j h1 h2; omega
  | succ n ih =>
    intro j hj hn
    have e1 : ¬ (p.testBit j = true ∧ ∃ v, v < 2 ∧ pu_all (pu_plan p w g) j v) → j < 8 → wX_forcedJobs_16 post (nI o) (nI p) w g n (nI (pu_cnt (fun j => p.testBit j = true ∧ ∃ v, v < 2 ∧ pu_all (pu_plan p w g) j v) j)) (nI j + 1) := by
      intro q z
      have := ih (j + 1) (by omega) (by omega)
      rw [pu_cnt_f q] at this
      rw [nI_1 j]; exact this
    refine pk_le 8 j (fun z => ?_) (fun z => xa_hasN hp z ⟨fun q => br_f pu_10 ?_, fun q => br_t rfl (nm_e (e1 (fun y => q y.1) z))⟩)
    · have e : j = 8 := by omega
      rw [e]; exact h
    · unfold wpX_bitOf
      refine br_c (fun y => ?_) (fun y => nm_e (e1 ?_ z))
      · refine nm_r (nI_1 _) (nm_r (nI_1 j) ?_)
        have := ih (j + 1) (by omega) (by omega)
        rw [pu_cnt_t (n := j) ⟨q, _, pu_b2 f j, (pu_opn_f ho z hf hP).mp ((pu_t7 o ho.1 j z).mp y)⟩] at this
        exact this
      · rintro ⟨-, v, hv, s⟩
        refine y ((pu_t7 o ho.1 j z).mpr ((pu_opn_f ho z hf hP).mpr ?_))
        rw [s f hf hP]; exact s
theorem xa_fjobs (hD : pu_D p w g) (h : post (nI (pu_cnt (fun j => p.testBit j = true ∧ ∃ v, v < 2 ∧ pu_all (pu_plan p w g) j v) 8))) : wpX_forcedJobs post (nI p, w, g) := by
  unfold wpX_forcedJobs
  dsimp only
  refine xa_first hD.1 fun r hr => ?_
  obtain ⟨f, hf, hP, rfl⟩ := pu_fst_e hr hD.2.2
  refine xa_opn hD.1 hf fun o ho => ?_
  exact ⟨9, xa_fjobs_l hD.1 hf hP ho h 9 0 (by omega) (by omega)⟩
theorem xa_flips_l {f : Nat} (hp : p < 256) (hf : f < 256) (h : post (nI (pu_cnt (fun j => pu_plan p w g (f ^^^ 2 ^ (7 - j))) 8))) : ∀ n j, j ≤ 8 → 8 - j < n → wX_flips_9 post (nI f) (nI p) w g n (nI (pu_cnt (fun j => pu_plan p w g (f ^^^ 2 ^ (7 - j))) j)) (nI j) := by
  intro n
  induction n with
  | zero => intro j h1 h2; omega
  | succ n ih =>
    intro j hj hn
    refine pk_le 8 j (fun z => ?_) (fun z => ?_)
    · have e : j = 8 := by omega
      rw [e]; exact h
    · unfold wpX_bitOf
      refine nm_r (pu_t8 f hf j z) ?_
      have := ih (j + 1) (by omega) (by omega)
      refine xa_plan hp (pu_flip_lt hf (by omega)) ⟨fun q => br_f pu_10 (nm_r (nI_1 _) (nm_r (nI_1 j) ?_)), fun q => br_t rfl (nm_r (nI_1 j) ?_)⟩
      · rw [pu_cnt_t (n := j) q] at this; exact this
      · rw [pu_cnt_f (n := j) q] at this; exact this
theorem xa_flips (hD : pu_D p w g) (h : ∀ f, f < 256 → pu_plan p w g f → pu_fst (pu_plan p w g) (nI f) → post (nI (pu_cnt (fun j => pu_plan p w g (f ^^^ 2 ^ (7 - j))) 8))) : wpX_flips post (nI p, w, g) := by
  unfold wpX_flips
  dsimp only
  refine xa_first hD.1 fun r hr => ?_
  obtain ⟨f, hf, hP, rfl⟩ := pu_fst_e hr hD.2.2
  exact ⟨9, xa_flips_l hD.1 hf (h f hf hP hr) 9 0 (by omega) (by omega)⟩
end
