section
variable {p : Nat} {w g q : Nat → Int32} {post : Int32 → Prop}
theorem ya_way (a : Int32) (h : pu_ret (pu_way a) post) : wpY_isWay post (pu_T p, w, g, q) a := by
  unfold wpY_isWay
  dsimp only
  refine nm_e (nm_e (br_c (fun z => h.2 fun y => ?_) fun z => br_c (fun z2 => h.2 fun y => ?_) fun z2 => br_c (fun z3 => h.2 fun y => ?_) fun z3 => br_c (fun z4 => h.2 fun y => ?_) fun z4 => br_c (fun z5 => h.2 fun y => ?_) fun z5 => br_c (fun z6 => h.2 fun y => ?_) fun z6 => h.1 ?_))
  · exact Int32.not_le.mpr z (pu_wayY.mp y).1
  · exact Int32.not_le.mpr z2 (pu_wayY.mp y).2.1
  · exact Int32.not_le.mpr z3 (pu_wayY.mp y).2.2.1
  · exact Int32.not_le.mpr z4 (pu_wayY.mp y).2.2.2.1
  · exact Int32.not_le.mpr z5 (pu_wayY.mp y).2.2.2.2.1
  · exact Int32.not_le.mpr z6 (pu_wayY.mp y).2.2.2.2.2
  · exact pu_wayY.mpr ⟨Int32.not_lt.mp z, Int32.not_lt.mp z2, Int32.not_lt.mp z3, Int32.not_lt.mp z4, Int32.not_lt.mp z5, Int32.not_lt.mp z6⟩
theorem ya_col (a b : Int32) (h : pu_ret (pu_col a b) post) : wpY_collide post (pu_T p, w, g, q) a b := by
  unfold wpY_collide
  dsimp only
  refine nm_e (nm_e (br_c (fun z => br_c (fun z2 => h.2 fun y => ?_) fun z2 => br_c (fun z3 => h.2 fun y => ?_) fun z3 => h.1 ?_) fun z => h.2 fun y => z y.1))
  · exact Int32.not_le.mpr y.2.1 z2
  · exact Int32.not_le.mpr y.2.2 z3
  · exact ⟨z, Int32.not_le.mp z2, Int32.not_le.mp z3⟩
theorem ya_is (x : Int32) (h : pu_ret (pu_is p x) post) : wpY_is post (pu_T p, w, g, q) x := by
  rcases pk_ix x (n := 8) (by decide) with h0 | h8 | ⟨j, hj, rfl⟩
  · exact br_t h0 (h.2 (pu_is_neg h0))
  · exact br_f (pu_8 h8).1 (br_t h8 (h.2 (pu_is_ge h8)))
  · refine br_f (nI_pos (by omega)) (br_f (nI_ge (b := 8) hj (by decide)) ⟨vp_in_nI hj (by decide), ?_⟩)
    rw [nI_clamp (by omega)]
    by_cases z : p.testBit j = true
    · exact br_f (fun y => pu_tf z (pu_Tz.mp y)) (h.1 ((pu_is_n hj).mpr z))
    · exact br_t (pu_T0 (pu_nt z)) (h.2 (fun y => z ((pu_is_n hj).mp y)))
theorem ya_ap_in {c j : Nat} {Q : Prop} {J4 : Int32 → Int32 → Prop} (hj : j < 8) (hq : ∀ i, i < 8 → q i = nI (pu_b c i)) (hJ : ∀ r, pu_bv (Q ∧ pu_free p w c j) r → J4 r (nI (j + 1))) : ∀ n i r, i ≤ j → j - i < n → pu_bv (Q ∧ pu_fr p w c j i) r → wY_apart_12 post J4 (nI j) (pu_T p) w g q n r (nI i) := by
  intro n
  induction n with
  | zero => intro i r h1 h2; omega
  | succ n ih =>
    intro i r hi hn hr
    refine pk_le j i (fun z => nm_r (nI_1 j) (hJ r ?_)) (fun z => ?_)
    · have e : i = j := by omega
      subst e
      exact hr
    · have nx : ∀ r', pu_bv (Q ∧ pu_fr p w c j (i + 1)) r' → wY_apart_12 post J4 (nI j) (pu_T p) w g q n r' (nI i + 1) := fun r' h' => by
        rw [nI_1 i]; exact ih (i + 1) r' (by omega) (by omega) h'
      have b2 := pu_b2 c j
      have b3 := pu_b2 c i
      rcases hr with ⟨hr, rfl⟩ | ⟨hr, rfl⟩
      · refine br_f pu_10 ⟨vp_in_nI hj (by decide), ?_⟩
        rw [nI_clamp (n := j) (by omega), nI_clamp (n := i) (by omega), hq j hj, hq i (by omega), pk_cl (2 * j + pu_b c j) pu_ix (by omega), pk_cl (2 * i + pu_b c i) pu_ix (by omega)]
        refine br_c (fun t => nm_e (nx 1 (pu_bv1 ⟨hr.1, fun y => absurd y (pu_ft (pu_Tz.mp t))⟩))) (fun t => ⟨vp_in_nI (n := i) (by omega) (by decide), br_c (fun t2 => nm_e (nx 1 ?_)) (fun t2 => ⟨vp_in_nI hj (by decide), pk_in (2 * j + pu_b c j) 16 (by omega) pu_ix, vp_in_nI (n := i) (by omega) (by decide), pk_in (2 * i + pu_b c i) 16 (by omega) pu_ix, ya_col _ _ ⟨fun s => br_f pu_10 (nm_e (nx 0 ?_)), fun s => br_t rfl (nm_e (nx 1 ?_))⟩⟩)⟩)
        · exact pu_bv1 ⟨hr.1, pu_fr_s hr.2 fun y => absurd y (pu_ft (pu_Tz.mp t2))⟩
        · exact pu_bv0 fun y => y.2 (pu_nf fun v => t (pu_Tz.mpr v)) i (by omega) (pu_nf fun v => t2 (pu_Tz.mpr v)) s
        · exact pu_bv1 ⟨hr.1, pu_fr_s hr.2 fun _ => s⟩
      · exact br_t rfl (nm_e (nx 0 (pu_bv0 fun y => hr ⟨y.1, fun a l hl => y.2 a l (by omega)⟩)))
theorem ya_ap_out {c : Nat} (hq : ∀ i, i < 8 → q i = nI (pu_b c i)) (h : pu_ret (∀ j, j < 8 → pu_free p w c j) post) : ∀ n j r, j ≤ 8 → 8 - j < n → pu_bv (∀ i, i < j → pu_free p w c i) r → wY_apart_4 post (pu_T p) w g q n r (nI j) := by
  intro n
  induction n with
  | zero => intro j r h1 h2; omega
  | succ n ih =>
    intro j r hj hn hr
    refine pk_le 8 j (fun z => ⟨pu_bv_n hr, ?_⟩) (fun z => ⟨j + 1, ya_ap_in (Q := ∀ i, i < j → pu_free p w c i) z hq (fun r' hr' => ih (j + 1) r' (by omega) (by omega) (pu_bv_i ?_ hr')) (j + 1) 0 r (by omega) (by omega) (pu_bv_i ?_ hr)⟩)
    · have e : j = 8 := by omega
      subst e
      rcases hr with ⟨hr, rfl⟩ | ⟨hr, rfl⟩
      · exact h.1 hr
      · exact h.2 hr
    · constructor
      · intro y i hi
        rcases Nat.lt_or_ge i j with s | s
        · exact y.1 i s
        · have e : i = j := by omega
          subst e
          exact y.2
      · exact fun y => ⟨fun i hi => y i (by omega), y j (by omega)⟩
    · exact ⟨fun y => ⟨y, fun _ l hl => absurd hl (Nat.not_lt_zero l)⟩, fun y => y.1⟩
theorem ya_apart {c : Nat} (hq : ∀ i, i < 8 → q i = nI (pu_b c i)) (h : pu_ret (∀ j, j < 8 → pu_free p w c j) post) : wpY_apart post (pu_T p, w, g, q) :=
  ⟨9, ya_ap_out hq h 9 0 1 (by omega) (by omega) (pu_bv1 fun i hi => absurd hi (Nat.not_lt_zero i))⟩
theorem ya_hit_l {c : Nat} {a : Int32} (hq : ∀ i, i < 8 → q i = nI (pu_b c i)) (h : pu_ret (pu_hit p w c a 8) post) : ∀ n j r, j ≤ 8 → 8 - j < n → pu_bv (pu_hit p w c a j) r → wY_hit_4 post a (pu_T p) w g q n r (nI j) := by
  intro n
  induction n with
  | zero => intro j r h1 h2; omega
  | succ n ih =>
    intro j r hj hn hr
    have nx : ∀ r', j < 8 → pu_bv (pu_hit p w c a (j + 1)) r' → wY_hit_4 post a (pu_T p) w g q n r' (nI j + 1) := fun r' z h' => by
      rw [nI_1 j]; exact ih (j + 1) r' (by omega) (by omega) h'
    refine pk_le 8 j (fun z => ⟨pu_bv_n hr, ?_⟩) (fun z => ?_)
    · have e : j = 8 := by omega
      subst e
      rcases hr with ⟨hr, rfl⟩ | ⟨hr, rfl⟩
      · exact h.1 hr
      · exact h.2 hr
    · have b2 := pu_b2 c j
      rcases hr with ⟨hr, rfl⟩ | ⟨hr, rfl⟩
      · exact br_f pu_10 (nm_e (nx 1 z (pu_bv1 (pu_hit_m (by omega) hr))))
      · refine br_t rfl ⟨vp_in_nI z (by decide), ?_⟩
        rw [nI_clamp (n := j) (by omega), hq j z, pk_cl (2 * j + pu_b c j) pu_ix (by omega)]
        exact br_c (fun t => nm_e (nx 0 z (pu_bv0 (pu_hit_s hr fun y => absurd y (pu_ft (pu_Tz.mp t)))))) (fun t => ⟨vp_in_nI z (by decide), pk_in (2 * j + pu_b c j) 16 (by omega) pu_ix, ya_col _ _ ⟨fun s => br_f pu_10 (nm_e (nx 1 z (pu_bv1 ⟨j, by omega, pu_nf fun v => t (pu_Tz.mpr v), pu_cs.mp s⟩))), fun s => br_t rfl (nm_e (nx 0 z (pu_bv0 (pu_hit_s hr fun _ y => s (pu_cs.mp y)))))⟩⟩)
theorem ya_hit {c : Nat} {a : Int32} (hq : ∀ i, i < 8 → q i = nI (pu_b c i)) (h : pu_ret (pu_hit p w c a 8) post) : wpY_hit post (pu_T p, w, g, q) a :=
  ⟨9, ya_hit_l hq h 9 0 0 (by omega) (by omega) (pu_bv0 pu_hit_0)⟩
end
section
variable {p : Nat} {w g q : Nat → Int32} {post : Int32 → SY → Prop}
theorem ya_plan_l {c : Nat} (hc : c < 256) (hg : pu_G g) (h1 : pu_plan p w g c → ∀ q, (∀ i, i < 8 → q i = nI (pu_b c i)) → post 1 (pu_T p, w, g, q)) (h0 : ¬ pu_plan p w g c → ∀ q, post 0 (pu_T p, w, g, q)) : ∀ n j q, j ≤ 8 → 8 - j < n → (∀ i, i < j → pu_may p g c i ∧ q i = nI (pu_b c i)) → wY_plan_2 post (nI c) n (nI j) (pu_T p) w g q := by
  intro n
  induction n with
  | zero => intro j q h1 h2; omega
  | succ n ih =>
    intro j q hj hn hb
    refine pk_le 8 j (fun z => ya_apart (c := c) (fun i hi => (hb i (by omega)).2) ⟨fun y => ⟨rfl, h1 (fun i hi => ⟨(hb i (by omega)).1, y i hi⟩) q (fun i hi => (hb i (by omega)).2)⟩, fun y => ⟨rfl, h0 (fun s => y fun i hi => (s i hi).2) q⟩⟩) (fun z => ⟨vp_in_nI z (by decide), nm_r (e' := upd q j (nI (pu_b c j))) ?_ ⟨vp_in_nI z (by decide), ?_⟩⟩)
    · rw [nI_clamp (n := j) (by omega), pu_t1 c hc j z]
    · have nx : pu_may p g c j → wY_plan_2 post (nI c) n (nI j + 1) (pu_T p) w g (upd q j (nI (pu_b c j))) := fun y => by
        rw [nI_1 j]
        refine ih (j + 1) _ (by omega) (by omega) (fun i hi => ?_)
        rcases Nat.lt_or_ge i j with s | s
        · rw [pk_un (by omega)]; exact hb i s
        · have e : i = j := by omega
          subst e
          rw [pk_us]; exact ⟨y, rfl⟩
      have k41 : (p.testBit j = false → pu_b c j = 0) → wY_plan_41 post (wY_plan_2 post (nI c) n) (nI c) (nI j) (pu_T p) w g (upd q j (nI (pu_b c j))) := by
        intro hz
        unfold wY_plan_41
        rw [nI_clamp (n := j) (by omega), pk_us]
        refine ⟨vp_in_nI z (by decide), br_c (fun t => nm_e (nx ⟨fun y => absurd y (pu_ft (pu_Tz.mp t)), hz⟩)) (fun t => ⟨vp_in_nI z (by decide), br_c (fun s => nm_e (nx ⟨fun _ => Or.inl ?_, hz⟩)) (fun s => ⟨vp_in_nI z (by decide), vp_in_nI z (by decide), br_c (fun v => nm_e (nx ⟨fun _ => Or.inr v, hz⟩)) (fun v => h0 (fun y => ?_) _)⟩)⟩)⟩
        · rcases hg j z with e | e | e
          · exact e
          · rw [e] at s; exact absurd s (by decide)
          · rw [e] at s; exact absurd s (by decide)
        · rcases (y j z).1.1 (pu_nf fun v => t (pu_Tz.mpr v)) with e | e
          · rw [e] at s; exact s (by decide)
          · exact v e
      rw [nI_clamp (n := j) (by omega), pk_us]
      refine br_c (fun t => ⟨vp_in_nI z (by decide), br_c (fun s => h0 (fun y => ?_) _) (fun s => k41 (fun _ => ?_))⟩) (fun t => k41 (fun y => absurd (pu_Tz.mpr y) t))
      · rw [(y j z).1.2 (pu_Tz.mp t)] at s
        exact absurd s (by decide)
      · rcases pu_bt c j with e | e
        · exact e.1
        · exact absurd (by rw [e.1]; rfl) s
theorem ya_plan {c : Nat} (hc : c < 256) (hg : pu_G g) (h1 : pu_plan p w g c → ∀ q, (∀ i, i < 8 → q i = nI (pu_b c i)) → post 1 (pu_T p, w, g, q)) (h0 : ¬ pu_plan p w g c → ∀ q, post 0 (pu_T p, w, g, q)) : wpY_plan post (pu_T p, w, g, q) (nI c) :=
  ⟨9, ya_plan_l hc hg h1 h0 9 0 q (by omega) (by omega) (fun i hi => absurd hi (Nat.not_lt_zero i))⟩
theorem ya_first_l (hg : pu_G g) (h : ∀ r q, pu_fst (pu_plan p w g) r → post r (pu_T p, w, g, q)) : ∀ n c q, c ≤ 256 → 256 - c < n → (∀ d, d < c → ¬ pu_plan p w g d) → wY_first_2 post n (nI c) (pu_T p) w g q := by
  intro n
  induction n with
  | zero => intro j q h1 h2; omega
  | succ n ih =>
    intro c q hc hn hb
    refine pk_le 256 c (fun z => h _ _ (Or.inr ⟨fun d hd => hb d (by omega), rfl⟩)) (fun z => ya_plan z hg (fun s q' _ => br_f pu_10 (h _ _ (Or.inl ⟨c, z, s, hb, rfl⟩))) (fun s q' => br_t rfl (nm_r (nI_1 c) (ih (c + 1) q' (by omega) (by omega) (fun d hd => ?_)))))
    rcases Nat.lt_or_ge d c with y | y
    · exact hb d y
    · have e : d = c := by omega
      subst e
      exact s
theorem ya_first (hg : pu_G g) (h : ∀ r q, pu_fst (pu_plan p w g) r → post r (pu_T p, w, g, q)) : wpY_first post (pu_T p, w, g, q) :=
  ⟨257, ya_first_l hg h 257 0 q (by omega) (by omega) (fun i hi => absurd hi (Nat.not_lt_zero i))⟩
theorem ya_some_l {a : Int32} (hg : pu_G g) (h1 : pu_some p w g a 256 → ∀ q, post 1 (pu_T p, w, g, q)) (h0 : ¬ pu_some p w g a 256 → ∀ q, post 0 (pu_T p, w, g, q)) : ∀ n c r q, c ≤ 256 → 256 - c < n → pu_bv (pu_some p w g a c) r → wY_avoids_4 post a n r (nI c) (pu_T p) w g q := by
  intro n
  induction n with
  | zero => intro j r q h1 h2; omega
  | succ n ih =>
    intro c r q hc hn hr
    have nx : ∀ r' q', c < 256 → pu_bv (pu_some p w g a (c + 1)) r' → wY_avoids_4 post a n r' (nI c + 1) (pu_T p) w g q' := fun r' q' z h' => by
      rw [nI_1 c]; exact ih (c + 1) r' q' (by omega) (by omega) h'
    have up : pu_some p w g a c → pu_some p w g a (c + 1) := fun ⟨d, hd, y⟩ => ⟨d, by omega, y⟩
    refine pk_le 256 c (fun z => ⟨pu_bv_n hr, ?_⟩) (fun z => ya_plan z hg (fun s q' hq' => br_f pu_10 ?_) (fun s q' => br_t rfl (nm_e (nx r q' z (pu_bv_i ⟨up, fun y => Classical.byContradiction fun v => pu_some_s v (fun t => absurd t s) y⟩ hr)))))
    · have e : c = 256 := by omega
      subst e
      rcases hr with ⟨hr, rfl⟩ | ⟨hr, rfl⟩
      · exact h1 hr q
      · exact h0 hr q
    · rcases hr with ⟨hr, rfl⟩ | ⟨hr, rfl⟩
      · exact br_f pu_10 (nm_e (nx 1 q' z (pu_bv1 (up hr))))
      · exact br_t rfl (ya_hit hq' ⟨fun t => br_f pu_10 (nm_e (nx 0 q' z (pu_bv0 (pu_some_s hr fun _ => t)))), fun t => br_t rfl (nm_e (nx 1 q' z (pu_bv1 ⟨c, by omega, s, t⟩)))⟩)
theorem ya_some {a : Int32} (hg : pu_G g) (h1 : pu_some p w g a 256 → ∀ q, post 1 (pu_T p, w, g, q)) (h0 : ¬ pu_some p w g a 256 → ∀ q, post 0 (pu_T p, w, g, q)) : wpY_avoids post (pu_T p, w, g, q) a :=
  ⟨257, ya_some_l hg h1 h0 257 0 0 q (by omega) (by omega) (pu_bv0 fun ⟨i, hi, _⟩ => absurd hi (Nat.not_lt_zero i))⟩
theorem ya_im_l {j k i m : Nat} (hj : j < 8) (hk : k < 2) (hi : i < 8) (hm : m < 2) (hg : pu_G g) (h1 : pu_im p w g j k i m 256 → ∀ q, post 1 (pu_T p, w, g, q)) (h0 : ¬ pu_im p w g j k i m 256 → ∀ q, post 0 (pu_T p, w, g, q)) : ∀ n c r q, c ≤ 256 → 256 - c < n → pu_bv (pu_im p w g j k i m c) r → wY_implies_44 post (nI j) (nI k) (nI i) (nI m) n r (nI c) (pu_T p) w g q := by
  intro n
  induction n with
  | zero => intro j r q h1 h2; omega
  | succ n ih =>
    intro c r q hc hn hr
    have nx : ∀ r' q', c < 256 → pu_bv (pu_im p w g j k i m (c + 1)) r' → wY_implies_44 post (nI j) (nI k) (nI i) (nI m) n r' (nI c + 1) (pu_T p) w g q' := fun r' q' z h' => by
      rw [nI_1 c]; exact ih (c + 1) r' q' (by omega) (by omega) h'
    refine pk_le 256 c (fun z => ⟨pu_bv_n hr, ?_⟩) (fun z => ya_plan z hg (fun s q' hq' => br_f pu_10 ?_) (fun s q' => br_t rfl (nm_e (nx r q' z (pu_bv_i ⟨fun y => pu_im_s y (fun t => absurd t s), fun y d hd => y d (by omega)⟩ hr)))))
    · have e : c = 256 := by omega
      subst e
      rcases hr with ⟨hr, rfl⟩ | ⟨hr, rfl⟩
      · exact h1 hr q
      · exact h0 hr q
    · rcases hr with ⟨hr, rfl⟩ | ⟨hr, rfl⟩
      · refine br_f pu_10 ⟨vp_in_nI hj (by decide), ?_⟩
        rw [nI_clamp (n := j) (by omega), hq' j hj]
        refine br_c (fun z1 => ⟨vp_in_nI hi (by decide), ?_⟩) (fun z1 => nm_e (nx 1 q' z (pu_bv1 (pu_im_s hr fun _ y => absurd ((pu_bI c j k hk).mpr y) z1))))
        rw [nI_clamp (n := i) (by omega), hq' i hi]
        exact br_c (fun z2 => nm_e (nx 1 q' z (pu_bv1 (pu_im_s hr fun _ _ => (pu_bI c i m hm).mp z2)))) (fun z2 => nm_e (nx 0 q' z (pu_bv0 fun y => z2 ((pu_bI c i m hm).mpr (y c (by omega) s ((pu_bI c j k hk).mp z1))))))
      · exact br_t rfl (nm_e (nx 0 q' z (pu_bv0 fun y => hr fun d hd => y d (by omega))))
theorem ya_im {x y z t : Int32} (hg : pu_G g) (h1 : pu_imr p w g x y z t → ∀ q, post 1 (pu_T p, w, g, q)) (h0 : ¬ pu_imr p w g x y z t → ∀ q, post 0 (pu_T p, w, g, q)) : wpY_implies post (pu_T p, w, g, q) x y z t := by
  unfold wpY_implies
  dsimp only
  refine ya_is x ⟨fun q1 => br_f pu_10 ?_, fun q1 => br_t rfl (h0 (fun s => q1 (pu_imr_g s).1.1) _)⟩
  refine ya_is z ⟨fun q2 => br_f pu_10 ?_, fun q2 => br_t rfl (h0 (fun s => q2 (pu_imr_g s).2.1) _)⟩
  have k25 : (y = 0 ∨ y = 1) → wY_implies_25 post x y z t (pu_T p) w g q := by
    intro hy
    have kl : (t = 0 ∨ t = 1) → ∃ n44, wY_implies_44 post x y z t n44 1 0 (pu_T p) w g q := by
      intro ht
      obtain ⟨j, hj, rfl, tj⟩ := q1
      obtain ⟨i, hi, rfl, ti⟩ := q2
      obtain ⟨k, hk, rfl⟩ := pu_01 hy
      obtain ⟨m, hm, rfl⟩ := pu_01 ht
      exact ⟨257, ya_im_l hj hk hi hm hg (fun s => h1 ((pu_imr_n hj hk hi hm tj ti).mpr s)) (fun s => h0 fun r => s ((pu_imr_n hj hk hi hm tj ti).mp r)) 257 0 1 q (by omega) (by omega) (pu_bv1 fun d hd => absurd hd (Nat.not_lt_zero d))⟩
    refine br_c (fun s => kl (Or.inl s)) (fun s => br_c (fun s2 => kl (Or.inr s2)) (fun s2 => h0 (fun r => ?_) _))
    rcases (pu_imr_g r).2.2 with v | v
    · exact s v
    · exact s2 v
  refine br_c (fun s => k25 (Or.inl s)) (fun s => br_c (fun s2 => k25 (Or.inr s2)) (fun s2 => h0 (fun r => ?_) _))
  rcases (pu_imr_g r).1.2 with v | v
  · exact s v
  · exact s2 v
theorem ya_forced (hg : pu_G g) (x : Int32) (h1 : ∀ j, j < 8 → x = nI j → p.testBit j = true → ∀ r q, pu_fd (pu_plan p w g) j r → post r (pu_T p, w, g, q)) (h0 : ¬ pu_is p x → ∀ q, post (-1) (pu_T p, w, g, q)) : wpY_forced post (pu_T p, w, g, q) x := by
  unfold wpY_forced
  dsimp only
  refine ya_is x ⟨fun q1 => br_f pu_10 ?_, fun q1 => br_t rfl (h0 q1 _)⟩
  obtain ⟨j, hj, rfl, tj⟩ := q1
  have e0 : pu_imr p w g (nI j) 1 (nI j) 0 ↔ pu_all (pu_plan p w g) j 0 := (pu_imr_n (k := 1) (m := 0) hj (by omega) hj (by omega) tj tj).trans pu_im_0
  have e1 : pu_imr p w g (nI j) 0 (nI j) 1 ↔ pu_all (pu_plan p w g) j 1 := (pu_imr_n (k := 0) (m := 1) hj (by omega) hj (by omega) tj tj).trans pu_im_1
  refine ya_im hg (fun s q1 => ?_) (fun s q1 => ?_)
  · refine ya_im hg (fun s2 q2 => ?_) (fun s2 q2 => ?_)
    · exact br_f pu_10 (h1 j hj rfl tj _ _ (Or.inl ⟨0, by omega, e0.mp s, rfl⟩))
    · exact br_f pu_10 (h1 j hj rfl tj _ _ (Or.inl ⟨0, by omega, e0.mp s, rfl⟩))
  · refine ya_im hg (fun s2 q2 => ?_) (fun s2 q2 => ?_)
    · exact br_t rfl (br_f pu_10 (h1 j hj rfl tj _ _ (Or.inl ⟨1, by omega, e1.mp s2, rfl⟩)))
    · refine br_t rfl (br_t rfl (h1 j hj rfl tj _ _ (Or.inr ⟨fun v hv y => ?_, rfl⟩)))
      rcases Nat.lt_or_ge v 1 with u | u
      · have e : v = 0 := by omega
        subst e
        exact s (e0.mpr y)
      · have e : v = 1 := by omega
        subst e
        exact s2 (e1.mpr y)
theorem ya_fjobs_l (hg : pu_G g) (h : ∀ q, post (nI (pu_cnt (fun j => p.testBit j = true ∧ ∃ v, v < 2 ∧ pu_all (pu_plan p w g) j v) 8)) (pu_T p, w, g, q)) : ∀ n j q, j ≤ 8 → 8 - j < n → wY_forcedJobs_4 post n (nI (pu_cnt (fun j => p.testBit j = true ∧ ∃ v, v < 2 ∧ pu_all (pu_plan p w g) j v) j)) (nI j) (pu_T p) w g q := by
  intro n
  induction n with
  | zero => intro j q h1 h2; omega
  | succ n ih =>
    intro j q hj hn
    refine pk_le 8 j (fun z => ?_) (fun z => ?_)
    · have e : j = 8 := by omega
      rw [e]; exact h q
    · have nf : ∀ q', ¬ (p.testBit j = true ∧ ∃ v, v < 2 ∧ pu_all (pu_plan p w g) j v) → wY_forcedJobs_4 post n (nI (pu_cnt (fun j => p.testBit j = true ∧ ∃ v, v < 2 ∧ pu_all (pu_plan p w g) j v) j)) (nI (j + 1)) (pu_T p) w g q' := by
        intro q' s
        have := ih (j + 1) q' (by omega) (by omega)
        rw [pu_cnt_f (n := j) s] at this
        exact this
      refine ya_forced hg (nI j) (fun i hi e ti r q' hr => ?_) (fun s q' => ?_)
      · have e' : j = i := (nI_eq (by omega) (by omega)).mp e
        subst e'
        rcases pu_fd_ge hr with ⟨-, r2, r3⟩ | ⟨-, r2, r3⟩
        · refine br_f r2 (nm_r (nI_1 _) (nm_r (nI_1 j) ?_))
          have := ih (j + 1) q' (by omega) (by omega)
          rw [pu_cnt_t (n := j) ⟨ti, r3⟩] at this
          exact this
        · exact br_t r2 (nm_r (Int32.add_zero _) (nm_r (nI_1 j) (nf q' fun y => r3 y.2)))
      · exact br_t (by decide) (nm_r (Int32.add_zero _) (nm_r (nI_1 j) (nf q' fun y => s ((pu_is_n z).mpr y.1))))
theorem ya_fjobs (hg : pu_G g) (h : ∀ q, post (nI (pu_cnt (fun j => p.testBit j = true ∧ ∃ v, v < 2 ∧ pu_all (pu_plan p w g) j v) 8)) (pu_T p, w, g, q)) : wpY_forcedJobs post (pu_T p, w, g, q) :=
  ⟨9, ya_fjobs_l hg h 9 0 q (by omega) (by omega)⟩
theorem ya_flips_l {f : Nat} (hg : pu_G g) (hf : f < 256) (hP : pu_plan p w g f) (h : ∀ q, post (nI (pu_cnt (fun j => pu_plan p w g (f ^^^ 2 ^ (7 - j))) 8)) (pu_T p, w, g, q)) : ∀ n j q, j ≤ 8 → 8 - j < n → wY_flips_9 post (nI f) n (nI (pu_cnt (fun j => pu_plan p w g (f ^^^ 2 ^ (7 - j))) j)) (nI j) (pu_T p) w g q := by
  intro n
  induction n with
  | zero => intro j q h1 h2; omega
  | succ n ih =>
    intro j q hj hn
    refine pk_le 8 j (fun z => ?_) (fun z => ?_)
    · have e : j = 8 := by omega
      rw [e]; exact h q
    · have nf : ∀ q', ¬ pu_plan p w g (f ^^^ 2 ^ (7 - j)) → wY_flips_9 post (nI f) n (nI (pu_cnt (fun j => pu_plan p w g (f ^^^ 2 ^ (7 - j))) j)) (nI (j + 1)) (pu_T p) w g q' := by
        intro q' s
        have := ih (j + 1) q' (by omega) (by omega)
        rw [pu_cnt_f (n := j) s] at this
        exact this
      refine ya_is (nI j) ⟨fun s => br_f pu_10 ?_, fun s => br_t rfl (nm_r (Int32.add_zero _) (nm_r (nI_1 j) (nf q (pu_noflip z (pu_nt fun y => s ((pu_is_n z).mpr y)) hP))))⟩
      rw [pu_t8 f hf j z]
      refine ya_plan (pu_flip_lt hf (by omega)) hg (fun s2 q' _ => br_f pu_10 (nm_r (nI_1 _) (nm_r (nI_1 j) ?_))) (fun s2 q' => br_t rfl (nm_r (Int32.add_zero _) (nm_r (nI_1 j) (nf q' s2))))
      have := ih (j + 1) q' (by omega) (by omega)
      rw [pu_cnt_t (n := j) s2] at this
      exact this
end
