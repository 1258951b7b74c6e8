section
variable {p : Nat} {w g : Nat → Int32}
theorem xa_lf_l {post : Int32 → Prop} (hp : p < 256) (h : ∀ j, pu_lf p j → post (nI j)) : ∀ n j, j ≤ 8 → 8 - j < n → (∀ i, i < j → p.testBit i = true) → wX_leastFreeNumber_2 post (nI p) w g n (nI j) := by
  intro n
  induction n with
  | zero => intro j h1 h2; omega
  | succ n ih =>
    intro j hj hn hb
    refine pk_le 8 j (fun z => h j ⟨hj, hb, fun y => absurd y (by omega)⟩) (fun z => xa_hasN hp z ⟨fun q => br_f pu_10 (nm_r (nI_1 j) (ih (j + 1) (by omega) (by omega) (fun i hi => ?_))), fun q => br_t rfl (h j ⟨hj, hb, fun _ => pu_nt q⟩)⟩)
    rcases Nat.lt_or_ge i j with y | y
    · exact hb i y
    · have e : i = j := by omega
      subst e
      exact q
theorem xa_lf {post : Int32 → Prop} (hp : p < 256) (h : ∀ j, pu_lf p j → post (nI j)) : wpX_leastFreeNumber post (nI p, w, g) :=
  ⟨9, xa_lf_l hp h 9 0 (by omega) (by omega) (fun i hi => absurd hi (Nat.not_lt_zero i))⟩
theorem xa_place {post : SX → Prop} {j : Nat} {a b : Int32} (hp : p < 256) (hj : j < 8) (h : post (nI (p ||| 2 ^ j), pu_W w j a b, upd g j (-1))) : wpX_place post (nI p, w, g) (nI j) a b := by
  unfold wpX_place
  dsimp only
  refine ⟨pk_in (2 * j) 16 (by omega) (pu_e1 j), nm_r (e' := upd w (2 * j) a) (by rw [pk_cl (2 * j) (pu_e1 j) (by omega)]) ⟨pk_in (2 * j + 1) 16 (by omega) (pu_e2 j), nm_r (e' := pu_W w j a b) (by rw [pk_cl (2 * j + 1) (pu_e2 j) (by omega)]; rfl) ⟨vp_in_nI hj (by decide), nm_r (e' := upd g j (-1)) (by rw [nI_clamp (by omega)]) (nm_r (pu_t3 p hp j hj) h)⟩⟩⟩
theorem xa_ans {post : Int32 → SX → Prop} {a b : Int32} (hp : p < 256)
    (h1 : ¬ (pu_way a ∧ pu_way b) → post (-1) (nI p, w, g))
    (h2 : pu_way a ∧ pu_way b → pu_lf p 8 → post (-2) (nI p, w, g))
    (h3 : pu_way a ∧ pu_way b → ∀ j, j < 8 → pu_lf p j → (∃ c, c < 256 ∧ pu_plan (p ||| 2 ^ j) (pu_W w j a b) (upd g j (-1)) c) → post (nI j) (nI p, pu_W w j a b, upd g j (-1)))
    (h4 : pu_way a ∧ pu_way b → ∀ j, j < 8 → pu_lf p j → ¬ (∃ c, c < 256 ∧ pu_plan (p ||| 2 ^ j) (pu_W w j a b) (upd g j (-1)) c) → post (-3) (nI p, pu_W w j a b, upd g j (-1))) : wpX_answerToOffer post (nI p, w, g) a b := by
  unfold wpX_answerToOffer
  dsimp only
  refine xa_way a ⟨fun q => br_f pu_10 ?_, fun q => br_t rfl (h1 fun y => q y.1)⟩
  refine xa_way b ⟨fun q2 => br_f pu_10 ?_, fun q2 => br_t rfl (h1 fun y => q2 y.2)⟩
  refine xa_lf hp fun j lj => ?_
  refine pk_eq j 8 (fun z => ?_) (fun z => ?_) rfl rfl (by have := lj.1; omega)
  · subst z
    exact h2 ⟨q, q2⟩ lj
  · have hj : j < 8 := by have := lj.1; omega
    refine xa_place hp hj ?_
    refine xa_first (pu_set_lt hp hj) fun r hr => ?_
    unfold wpX_remove
    dsimp only
    refine nm_r ((pu_t4 _ (pu_set_lt hp hj) j hj).trans (congrArg nI (pu_clr_set hp hj (lj.2.2 hj)))) ?_
    rcases hr with ⟨c, hc, g1, -, rfl⟩ | ⟨g1, rfl⟩
    · exact br_f (pu_m1 c hc).1 (h3 ⟨q, q2⟩ j hj lj ⟨c, hc, g1⟩)
    · exact br_t rfl (h4 ⟨q, q2⟩ j hj lj fun ⟨c, hc, y⟩ => g1 c hc y)
end
section
variable {p : Nat} {w g q : Nat → Int32} {post : Int32 → SY → Prop}
theorem ya_off_l {a b : Int32} (hp : p < 256) (hg : pu_G g)
    (h2 : pu_lf p 8 → post (-2) (pu_T p, w, g, q))
    (h3 : ∀ j, j < 8 → pu_lf p j → (∃ c, c < 256 ∧ pu_plan (p ||| 2 ^ j) (pu_W w j a b) (upd g j (-1)) c) → ∀ q, post (nI j) (pu_T (p ||| 2 ^ j), pu_W w j a b, upd g j (-1), q))
    (h4 : ∀ j, j < 8 → pu_lf p j → ¬ (∃ c, c < 256 ∧ pu_plan (p ||| 2 ^ j) (pu_W w j a b) (upd g j (-1)) c) → ∀ q, post (-3) (pu_T p, pu_W w j a b, upd g j (-1), q)) : ∀ n j, j ≤ 8 → 8 - j < n → (∀ i, i < j → p.testBit i = true) → wY_offer_20 post a b (pu_T p) w g q n (nI j) := by
  intro n
  induction n with
  | zero => intro j h1 h2; omega
  | succ n ih =>
    intro j hj hn hb
    refine pk_le 8 j (fun z => h2 ?_) (fun z => ⟨vp_in_nI z (by decide), ?_⟩)
    · have e : j = 8 := by omega
      subst e
      exact ⟨by omega, hb, fun y => absurd y (by omega)⟩
    · by_cases t : p.testBit j = true
      · refine br_f ?_ (nm_r (nI_1 j) (ih (j + 1) (by omega) (by omega) (fun i hi => ?_)))
        · rw [nI_clamp (by omega)]
          exact fun y => pu_tf t (pu_Tz.mp y)
        · rcases Nat.lt_or_ge i j with y | y
          · exact hb i y
          · have e : i = j := by omega
            subst e
            exact t
      · have lj : pu_lf p j := ⟨hj, hb, fun _ => pu_nt t⟩
        have hs := pu_set_lt hp z
        refine br_t (by rw [nI_clamp (by omega)]; exact pu_T0 (pu_nt t)) ⟨vp_in_nI z (by decide), nm_r (e' := pu_T (p ||| 2 ^ j)) (by rw [nI_clamp (by omega), pu_vb1, pu_Tset]) ⟨pk_in (2 * j) 16 (by omega) (pu_e1 j), nm_r (e' := upd w (2 * j) a) (by rw [pk_cl (2 * j) (pu_e1 j) (by omega)]) ⟨pk_in (2 * j + 1) 16 (by omega) (pu_e2 j), nm_r (e' := pu_W w j a b) (by rw [pk_cl (2 * j + 1) (pu_e2 j) (by omega)]; rfl) ⟨vp_in_nI z (by decide), nm_r (e' := upd g j (-1)) (by rw [nI_clamp (by omega)]) ?_⟩⟩⟩⟩
        refine ya_first (pu_G_u hg (Or.inl rfl)) fun r q' hr => ?_
        rcases pu_fst_ge hr with ⟨-, -, r0, hP⟩ | ⟨-, r1, r0⟩
        · refine br_f r0 ⟨vp_in_nI z (by decide), nm_r (e' := pu_T (p ||| 2 ^ j)) (by rw [nI_clamp (by omega), pu_vb1, pu_Tset, pu_or_or]) ⟨vp_in_nI z (by decide), br_f ?_ (h3 j z lj hP q')⟩⟩
          rw [nI_clamp (by omega)]
          exact fun y => pu_tf (pu_set_s p j) (pu_Tz.mp y)
        · have hN : ¬ ∃ c, c < 256 ∧ pu_plan (p ||| 2 ^ j) (pu_W w j a b) (upd g j (-1)) c := fun hP => by
            obtain ⟨c, hc, -, e⟩ := pu_fst_e hr hP
            exact (pu_m1 c hc).1 (e.symm.trans r1)
          refine br_t r0 ⟨vp_in_nI z (by decide), nm_r (e' := pu_T p) (by rw [nI_clamp (by omega), pu_vb0, pu_Tclr hs z, pu_clr_set hp z (pu_nt t)]) ⟨vp_in_nI z (by decide), br_t ?_ (h4 j z lj hN q')⟩⟩
          rw [nI_clamp (by omega)]
          exact pu_T0 (pu_nt t)
theorem ya_off {a b : Int32} (hp : p < 256) (hg : pu_G g)
    (h1 : ¬ (pu_way a ∧ pu_way b) → post (-1) (pu_T p, w, g, q))
    (h2 : pu_way a ∧ pu_way b → pu_lf p 8 → post (-2) (pu_T p, w, g, q))
    (h3 : pu_way a ∧ pu_way b → ∀ j, j < 8 → pu_lf p j → (∃ c, c < 256 ∧ pu_plan (p ||| 2 ^ j) (pu_W w j a b) (upd g j (-1)) c) → ∀ q, post (nI j) (pu_T (p ||| 2 ^ j), pu_W w j a b, upd g j (-1), q))
    (h4 : pu_way a ∧ pu_way b → ∀ j, j < 8 → pu_lf p j → ¬ (∃ c, c < 256 ∧ pu_plan (p ||| 2 ^ j) (pu_W w j a b) (upd g j (-1)) c) → ∀ q, post (-3) (pu_T p, pu_W w j a b, upd g j (-1), q)) : wpY_offer post (pu_T p, w, g, q) a b := by
  unfold wpY_offer
  dsimp only
  refine ya_way a ⟨fun y => br_f pu_10 ?_, fun y => br_t rfl (h1 fun s => y s.1)⟩
  refine ya_way b ⟨fun y2 => br_f pu_10 ?_, fun y2 => br_t rfl (h1 fun s => y2 s.2)⟩
  exact ⟨9, ya_off_l hp hg (h2 ⟨y, y2⟩) (h3 ⟨y, y2⟩) (h4 ⟨y, y2⟩) 9 0 (by omega) (by omega) (fun i hi => absurd hi (Nat.not_lt_zero i))⟩
theorem ya_jobs_l {post : Int32 → Prop} (hp : p < 256) (h : post (nI p)) : ∀ n j, j ≤ 8 → 8 - j < n → wY_jobs_4 post (pu_T p) w g q n (nI (p % 2 ^ j)) (nI j) := by
  intro n
  induction n with
  | zero => intro j h1 h2; omega
  | succ n ih =>
    intro j hj hn
    refine pk_le 8 j (fun z => ?_) (fun z => ⟨vp_in_nI z (by decide), ?_⟩)
    · have e : j = 8 := by omega
      subst e
      rw [Nat.mod_eq_of_lt hp]
      exact h
    · have e := pu_t6 p hp j z
      have := ih (j + 1) (by omega) (by omega)
      rw [nI_clamp (n := j) (by omega)]
      refine br_c (fun t => ?_) (fun t => ?_)
      · rw [if_neg (pu_ft (pu_Tz.mp t))] at e
        exact nm_r e (nm_r (nI_1 j) this)
      · rw [if_pos (pu_nf fun y => t (pu_Tz.mpr y))] at e
        exact nm_r e (nm_r (nI_1 j) this)
theorem ya_jobs {post : Int32 → Prop} (hp : p < 256) (h : post (nI p)) : wpY_jobs post (pu_T p, w, g, q) :=
  ⟨9, by
    have := ya_jobs_l (w := w) (g := g) (q := q) hp h 9 0 (by omega) (by omega)
    rw [Nat.pow_zero, Nat.mod_one] at this
    exact this⟩
theorem ya_change_t {v1 v2 v3 : Int32} (y : pu_is p v1) (s : v2 = 0 ∨ v2 = 1) (h : wY_change_17 post v1 v2 v3 (pu_T p) w g q) : wpY_change post (pu_T p, w, g, q) v1 v2 v3 := by
  unfold wpY_change
  dsimp only
  refine ya_is v1 ⟨fun _ => br_f pu_10 (br_c (fun _ => h) fun s0 => br_c (fun _ => h) fun s1 => ?_), fun r => absurd y r⟩
  rcases s with s | s
  · exact absurd s s0
  · exact absurd s s1
theorem ya_change_f {v1 v2 v3 : Int32} (y : ¬ (pu_is p v1 ∧ (v2 = 0 ∨ v2 = 1))) (h : post (-1) (pu_T p, w, g, q)) : wpY_change post (pu_T p, w, g, q) v1 v2 v3 := by
  unfold wpY_change
  dsimp only
  exact ya_is v1 ⟨fun s => br_f pu_10 (br_f (fun e => y ⟨s, Or.inl e⟩) (br_f (fun e => y ⟨s, Or.inr e⟩) h)), fun _ => br_t rfl h⟩
theorem ya_pin_t {v1 v2 : Int32} (y : pu_is p v1) (s : v2 = 0 ∨ v2 = 1) (h : wY_pin_19 post v1 v2 (pu_T p) w g q) : wpY_pin post (pu_T p, w, g, q) v1 v2 := by
  unfold wpY_pin
  dsimp only
  refine ya_is v1 ⟨fun _ => br_f pu_10 (br_c (fun _ => h) fun s0 => br_c (fun _ => h) fun s1 => ?_), fun r => absurd y r⟩
  rcases s with s | s
  · exact absurd s s0
  · exact absurd s s1
theorem ya_pin_f {v1 v2 : Int32} (y : ¬ (pu_is p v1 ∧ (v2 = 0 ∨ v2 = 1))) (h : post (-1) (pu_T p, w, g, q)) : wpY_pin post (pu_T p, w, g, q) v1 v2 := by
  unfold wpY_pin
  dsimp only
  exact ya_is v1 ⟨fun s => br_f pu_10 (br_f (fun e => y ⟨s, Or.inl e⟩) (br_f (fun e => y ⟨s, Or.inr e⟩) h)), fun _ => br_t rfl h⟩
end
