def pu_st (a : Int32) : Int32 := (a >>> ((2 : Int32) &&& 31)) &&& 31
def pu_en (a : Int32) : Int32 := pu_st a + (a >>> ((7 : Int32) &&& 31))
/-- two ways collide -/
def pu_col (a b : Int32) : Prop := a &&& 3 = b &&& 3 ∧ pu_st a < pu_en b ∧ pu_st b < pu_en a
theorem pu_cs {a b : Int32} : pu_col a b ↔ pu_col b a := ⟨fun h => ⟨h.1.symm, h.2.2, h.2.1⟩, fun h => ⟨h.1.symm, h.2.2, h.2.1⟩⟩
/-- a number is a way -/
def pu_way (a : Int32) : Prop := (a &&& 3) < 3 ∧ 1 ≤ (a >>> ((7 : Int32) &&& 31)) ∧ pu_en a ≤ 20
theorem pu_n0 : (0 : Int32).toInt = 0 := by decide
theorem pu_n1 : (1 : Int32).toInt = 1 := by decide
theorem pu_n2 : (2 : Int32).toInt = 2 := by decide
theorem pu_n3 : (3 : Int32).toInt = 3 := by decide
theorem pu_n19 : (19 : Int32).toInt = 19 := by decide
theorem pu_n20 : (20 : Int32).toInt = 20 := by decide
theorem pu_s31 (a : Int32) : 0 ≤ (pu_st a).toInt ∧ (pu_st a).toInt ≤ 31 := by
  obtain ⟨j, hj, e⟩ := pk_andE (a >>> ((2 : Int32) &&& 31)) (m := 31) 5 (by decide)
  unfold pu_st
  rw [e, nI_toInt (by omega)]
  omega
theorem pu_l7 (a : Int32) : (a >>> ((7 : Int32) &&& 31)).toInt = a.toInt / 128 := by
  rw [pk_shr a _ 7 (by decide), Int.shiftRight_eq_div_pow]
  rfl
theorem pu_en7 (a : Int32) : (pu_en a).toInt = (pu_st a).toInt + a.toInt / 128 := by
  have h := pu_s31 a
  have h1 := Int32.le_toInt a
  have h2 := Int32.toInt_lt a
  unfold pu_en
  rw [Int32.toInt_add, pu_l7]
  apply Int.bmod_eq_of_le
  · omega
  · omega
/-- the reference's question for a way is the same -/
theorem pu_wayY {a : Int32} : pu_way a ↔ 0 ≤ a ∧ (a &&& 3) ≤ 2 ∧ 1 ≤ (a >>> ((7 : Int32) &&& 31)) ∧ (a >>> ((7 : Int32) &&& 31)) ≤ 20 ∧ pu_st a ≤ 19 ∧ pu_en a ≤ 20 := by
  unfold pu_way
  have h := pu_s31 a
  simp only [Int32.le_iff_toInt_le, Int32.lt_iff_toInt_lt, pu_l7, pu_en7, pu_n0, pu_n1, pu_n2, pu_n3, pu_n19, pu_n20]
  omega
/-- job j may have its way of the choice c -/
def pu_may (p : Nat) (g : Nat → Int32) (c j : Nat) : Prop := (p.testBit j = true → g j = -1 ∨ g j = nI (pu_b c j)) ∧ (p.testBit j = false → pu_b c j = 0)
/-- job j's way collides with no way chosen below it -/
def pu_free (p : Nat) (w : Nat → Int32) (c j : Nat) : Prop := p.testBit j = true → ∀ i, i < j → p.testBit i = true → ¬ pu_col (w (2 * j + pu_b c j)) (w (2 * i + pu_b c i))
def pu_plan (p : Nat) (w g : Nat → Int32) (c : Nat) : Prop := ∀ j, j < 8 → pu_may p g c j ∧ pu_free p w c j
/-- no chosen way collides with a -/
def pu_avoid (p : Nat) (w : Nat → Int32) (c : Nat) (a : Int32) : Prop := ∀ i, i < 8 → p.testBit i = true → ¬ pu_col a (w (2 * i + pu_b c i))
/-- r is the least choice with P, -1 if there is none -/
def pu_fst (P : Nat → Prop) (r : Int32) : Prop := (∃ c, c < 256 ∧ P c ∧ (∀ d, d < c → ¬ P d) ∧ r = nI c) ∨ ((∀ c, c < 256 → ¬ P c) ∧ r = -1)
theorem pu_fst_u {P : Nat → Prop} {r r' : Int32} (h : pu_fst P r) (h' : pu_fst P r') : r' = r := by
  rcases h with ⟨c, hc, h1, h2, e⟩ | ⟨h1, e⟩
  · rcases h' with ⟨d, hd, g1, g2, f⟩ | ⟨g1, f⟩
    · have : c = d := by
        rcases Nat.lt_trichotomy c d with h | h | h
        · exact absurd h1 (g2 c h)
        · exact h
        · exact absurd g1 (h2 d h)
      rw [e, f, this]
    · exact absurd h1 (g1 c hc)
  · rcases h' with ⟨d, hd, g1, g2, f⟩ | ⟨g1, f⟩
    · exact absurd g1 (h1 d hd)
    · rw [e, f]
/-- with a plan there is a first one -/
theorem pu_fst_e {P : Nat → Prop} {r : Int32} (h : pu_fst P r) (hP : ∃ c, c < 256 ∧ P c) : ∃ c, c < 256 ∧ P c ∧ r = nI c := by
  rcases h with ⟨c, hc, h1, h2, e⟩ | ⟨h1, e⟩
  · exact ⟨c, hc, h1, e⟩
  · obtain ⟨c, hc, h2⟩ := hP
    exact absurd h2 (h1 c hc)
theorem pu_m1 : ∀ c, c < 256 → ¬ nI c = -1 ∧ ¬ (-1 : Int32) = nI c ∧ 0 ≤ nI c ∧ ¬ nI c < 0 := by decide +kernel
theorem pu_fst_ge {P : Nat → Prop} {r : Int32} (h : pu_fst P r) : (0 ≤ r ∧ ¬ r = -1 ∧ ¬ r < 0 ∧ ∃ c, c < 256 ∧ P c) ∨ (¬ 0 ≤ r ∧ r = -1 ∧ r < 0) := by
  rcases h with ⟨c, hc, h1, h2, e⟩ | ⟨h1, e⟩
  · subst e
    exact Or.inl ⟨(pu_m1 c hc).2.2.1, (pu_m1 c hc).1, (pu_m1 c hc).2.2.2, c, hc, h1⟩
  · subst e
    exact Or.inr ⟨by decide, rfl, by decide⟩
theorem pu_plan_cong {p : Nat} {w w' g g' : Nat → Int32} {c : Nat} (hg : ∀ j, j < 8 → p.testBit j = true → g' j = g j) (hw : ∀ j k, j < 8 → k < 2 → p.testBit j = true → w' (2 * j + k) = w (2 * j + k)) (h : pu_plan p w g c) : pu_plan p w' g' c := by
  intro j hj
  obtain ⟨h1, h2⟩ := h j hj
  refine ⟨⟨fun z => ?_, h1.2⟩, fun z i hi y => ?_⟩
  · rw [hg j hj z]; exact h1.1 z
  · rw [hw j _ hj (pu_b2 c j) z, hw i _ (by omega) (pu_b2 c i) y]
    exact h2 z i hi y
theorem pu_plan_unpin {p : Nat} {w g : Nat → Int32} {c j : Nat} (h : pu_plan p w g c) : pu_plan p w (upd g j (-1)) c := by
  intro i hi
  obtain ⟨h1, h2⟩ := h i hi
  refine ⟨⟨fun z => ?_, h1.2⟩, h2⟩
  by_cases e : i = j
  · rw [e, pk_us]; exact Or.inl rfl
  · rw [pk_un e]; exact h1.1 z
theorem pu_b_clr_s (c : Nat) {j : Nat} (hj : j < 8) : pu_b (pu_clr c (7 - j)) j = 0 := by
  unfold pu_b
  rw [pu_clr_s c (by omega)]
  rfl
theorem pu_b_clr_n {c i j : Nat} (hc : c < 256) (hi : i < 8) (hj : j < 8) (h : i ≠ j) : pu_b (pu_clr c (7 - j)) i = pu_b c i := by
  unfold pu_b
  rw [pu_clr_n hc (by omega)]
theorem pu_plan_out {p : Nat} {w g : Nat → Int32} {c j : Nat} (hp : p < 256) (hc : c < 256) (hj : j < 8) (h : pu_plan p w g c) : pu_plan (pu_clr p j) w g (pu_clr c (7 - j)) := by
  intro i hi
  obtain ⟨h1, h2⟩ := h i hi
  by_cases e : i = j
  · subst e
    refine ⟨⟨fun z => ?_, fun _ => pu_b_clr_s c hi⟩, fun z => ?_⟩
    · rw [pu_clr_s p hi] at z; cases z
    · rw [pu_clr_s p hi] at z; cases z
  · refine ⟨⟨fun z => ?_, fun z => ?_⟩, fun z l hl y => ?_⟩
    · rw [pu_clr_n hp e] at z
      rw [pu_b_clr_n hc hi hj e]
      exact h1.1 z
    · rw [pu_clr_n hp e] at z
      rw [pu_b_clr_n hc hi hj e]
      exact h1.2 z
    · by_cases f : l = j
      · rw [f, pu_clr_s p hj] at y; cases y
      · rw [pu_clr_n hp e] at z
        rw [pu_clr_n hp f] at y
        rw [pu_b_clr_n hc hi hj e, pu_b_clr_n hc (by omega) hj f]
        exact h2 z l hl y
theorem pu_noflip {p : Nat} {w g : Nat → Int32} {c j : Nat} (hj : j < 8) (z : p.testBit j = false) (h : pu_plan p w g c) : ¬ pu_plan p w g (c ^^^ 2 ^ (7 - j)) := by
  intro y
  have a := (h j hj).1.2 z
  have b := (y j hj).1.2 z
  unfold pu_b at a b
  rw [pu_flip_s] at b
  cases h : c.testBit (7 - j)
  · rw [h] at b; cases b
  · rw [h] at a; cases a
theorem pu_plan0 : ∀ w g : Nat → Int32, pu_plan 0 w g 0 := by
  intro w g j hj
  refine ⟨⟨fun z => ?_, fun _ => ?_⟩, fun z => ?_⟩
  · rw [Nat.zero_testBit] at z; cases z
  · unfold pu_b; rw [Nat.zero_testBit]; rfl
  · rw [Nat.zero_testBit] at z; cases z
/-- a state of the desk: the jobs p, their ways and pins; there is a plan -/
def pu_D (p : Nat) (w g : Nat → Int32) : Prop := p < 256 ∧ (∀ j, j < 8 → g j = -1 ∨ g j = 0 ∨ g j = 1) ∧ ∃ c, c < 256 ∧ pu_plan p w g c
/-- both answers of a question -/
def pu_ret (Q : Prop) (post : Int32 → Prop) : Prop := (Q → post 1) ∧ (¬ Q → post 0)
theorem pu_ret_t {Q : Prop} {post : Int32 → Prop} (h : pu_ret Q post) (q : Q) : post 1 := h.1 q
theorem pu_ret_f {Q : Prop} {post : Int32 → Prop} (h : pu_ret Q post) (q : ¬ Q) : post 0 := h.2 q
/-- the number j is a job's -/
def pu_is (p : Nat) (x : Int32) : Prop := ∃ j, j < 8 ∧ x = nI j ∧ p.testBit j = true
theorem pu_is_n {p j : Nat} (hj : j < 8) : pu_is p (nI j) ↔ p.testBit j = true := by
  constructor
  · rintro ⟨i, hi, e, h⟩
    rw [(nI_eq (by omega) (by omega)).mp e]
    exact h
  · exact fun h => ⟨j, hj, rfl, h⟩
/-- the way that each plan has for job j -/
def pu_all (P : Nat → Prop) (j v : Nat) : Prop := ∀ d, d < 256 → P d → pu_b d j = v
def pu_fd (P : Nat → Prop) (j : Nat) (r : Int32) : Prop := (∃ v, v < 2 ∧ pu_all P j v ∧ r = nI v) ∨ ((∀ v, v < 2 → ¬ pu_all P j v) ∧ r = -1)
theorem pu_all_u {P : Nat → Prop} {j v v' : Nat} (hP : ∃ c, c < 256 ∧ P c) (h : pu_all P j v) (h' : pu_all P j v') : v' = v := by
  obtain ⟨c, hc, z⟩ := hP
  rw [← h c hc z, ← h' c hc z]
theorem pu_fd_u {P : Nat → Prop} {j : Nat} {r r' : Int32} (hP : ∃ c, c < 256 ∧ P c) (h : pu_fd P j r) (h' : pu_fd P j r') : r' = r := by
  rcases h with ⟨v, hv, h1, e⟩ | ⟨h1, e⟩
  · rcases h' with ⟨d, hd, g1, f⟩ | ⟨g1, f⟩
    · rw [e, f, pu_all_u hP h1 g1]
    · exact absurd h1 (g1 v hv)
  · rcases h' with ⟨d, hd, g1, f⟩ | ⟨g1, f⟩
    · exact absurd g1 (h1 d hd)
    · rw [e, f]
theorem pu_fd_ge {P : Nat → Prop} {j : Nat} {r : Int32} (h : pu_fd P j r) : (0 ≤ r ∧ ¬ r < 0 ∧ ∃ v, v < 2 ∧ pu_all P j v) ∨ (¬ 0 ≤ r ∧ r < 0 ∧ ¬ ∃ v, v < 2 ∧ pu_all P j v) := by
  rcases h with ⟨v, hv, h1, e⟩ | ⟨h1, e⟩
  · subst e
    exact Or.inl ⟨(pu_m1 v (by omega)).2.2.1, (pu_m1 v (by omega)).2.2.2, v, hv, h1⟩
  · subst e
    exact Or.inr ⟨by decide, by decide, fun ⟨v, hv, z⟩ => h1 v hv z⟩
/-- the bits in which some plan is another than f -/
def pu_opn (P : Nat → Prop) (f o : Nat) : Prop := o < 256 ∧ ∀ i, i < 8 → (o.testBit i = true ↔ ∃ d, d < 256 ∧ P d ∧ (d ^^^ f).testBit i = true)
theorem pu_b_eq {c d j : Nat} : pu_b c j = pu_b d j ↔ (c ^^^ d).testBit (7 - j) = false := by
  unfold pu_b
  rw [Nat.testBit_xor]
  cases c.testBit (7 - j) <;> cases d.testBit (7 - j) <;> decide
theorem pu_opn_f {P : Nat → Prop} {f o j : Nat} (h : pu_opn P f o) (hj : j < 8) (hf : f < 256) (z : P f) : o.testBit (7 - j) = false ↔ pu_all P j (pu_b f j) := by
  have h1 := h.2 (7 - j) (by omega)
  constructor
  · intro y d hd q
    rw [pu_b_eq]
    cases e : (d ^^^ f).testBit (7 - j)
    · rfl
    · rw [h1.mpr ⟨d, hd, q, e⟩] at y; cases y
  · intro y
    cases e : o.testBit (7 - j)
    · rfl
    · obtain ⟨d, hd, q, e'⟩ := h1.mp e
      rw [pu_b_eq.mp (y d hd q)] at e'; cases e'
theorem pu_opn_fd {P : Nat → Prop} {f o j : Nat} (h : pu_opn P f o) (hj : j < 8) (hf : f < 256) (z : P f) : (o.testBit (7 - j) = false → pu_fd P j (nI (pu_b f j))) ∧ (¬ o.testBit (7 - j) = false → pu_fd P j (-1)) := by
  constructor
  · intro y
    exact Or.inl ⟨_, pu_b2 f j, (pu_opn_f h hj hf z).mp y, rfl⟩
  · intro y
    refine Or.inr ⟨fun v hv g => y ((pu_opn_f h hj hf z).mpr ?_), rfl⟩
    rw [g f hf z]
    exact g
/-- how many of the first n numbers have Q -/
noncomputable def pu_cnt (Q : Nat → Prop) : Nat → Nat
  | 0 => 0
  | n + 1 => pu_cnt Q n + @ite _ (Q n) (Classical.propDecidable _) 1 0
theorem pu_cnt_t {Q : Nat → Prop} {n : Nat} (h : Q n) : pu_cnt Q (n + 1) = pu_cnt Q n + 1 := by
  show pu_cnt Q n + @ite _ (Q n) (Classical.propDecidable _) 1 0 = _
  rw [if_pos h]
theorem pu_cnt_f {Q : Nat → Prop} {n : Nat} (h : ¬ Q n) : pu_cnt Q (n + 1) = pu_cnt Q n := by
  show pu_cnt Q n + @ite _ (Q n) (Classical.propDecidable _) 1 0 = _
  rw [if_neg h, Nat.add_zero]
theorem pu_cnt_le {Q : Nat → Prop} : ∀ n, pu_cnt Q n ≤ n
  | 0 => Nat.le_refl 0
  | n + 1 => by
    have := pu_cnt_le (Q := Q) n
    by_cases h : Q n
    · rw [pu_cnt_t h]; omega
    · rw [pu_cnt_f h]; omega
theorem pu_8 {x : Int32} (h : nI 8 ≤ x) : ¬ x < 0 ∧ 0 ≤ x ∧ ¬ x < 8 := by
  have e8 : (nI 8).toInt = 8 := nI_toInt (by decide)
  have f8 : (8 : Int32).toInt = 8 := by decide
  rw [Int32.le_iff_toInt_le, e8] at h
  rw [Int32.lt_iff_toInt_lt, Int32.le_iff_toInt_le, Int32.lt_iff_toInt_lt, pu_n0, f8]
  omega
theorem pu_is_neg {p : Nat} {x : Int32} (h : x < 0) : ¬ pu_is p x := by
  rintro ⟨i, hi, e, -⟩
  rw [e] at h
  exact nI_pos (by omega) h
theorem pu_is_ge {p : Nat} {x : Int32} (h : nI 8 ≤ x) : ¬ pu_is p x := by
  rintro ⟨i, hi, e, -⟩
  rw [e] at h
  exact nI_ge (by omega) (by decide) h
theorem pu_nt {b : Bool} (h : ¬ b = true) : b = false := by cases b; rfl; exact absurd rfl h
theorem pu_nf {b : Bool} (h : ¬ b = false) : b = true := by cases b; exact absurd rfl h; rfl
theorem pu_tf {b : Bool} (h : b = true) : ¬ b = false := by rw [h]; decide
theorem pu_ft {b : Bool} (h : b = false) : ¬ b = true := by rw [h]; decide
theorem pu_10 : ¬ (1 : Int32) = 0 := by decide
theorem pu_nar0 : narrow .boolean (.int 0) = .int 0 := rfl
theorem pu_nar1 : narrow .boolean (.int 1) = .int 1 := rfl
theorem pu_vb0 : vp_nar .boolean 0 = 0 := rfl
theorem pu_vb1 : vp_nar .boolean 1 = 1 := rfl
/-- the place of a way -/
theorem pu_ix {j k : Nat} : (2 : Int32) * nI j + nI k = nI (2 * j + k) := by
  rw [← nI_add, ← pk_mul]; rfl
/-- a collides with a way chosen below m -/
def pu_hit (p : Nat) (w : Nat → Int32) (c : Nat) (a : Int32) (m : Nat) : Prop := ∃ i, i < m ∧ p.testBit i = true ∧ pu_col a (w (2 * i + pu_b c i))
theorem pu_hit_0 {p : Nat} {w : Nat → Int32} {c : Nat} {a : Int32} : ¬ pu_hit p w c a 0 := fun ⟨i, hi, _⟩ => absurd hi (Nat.not_lt_zero i)
theorem pu_hit_s {p : Nat} {w : Nat → Int32} {c : Nat} {a : Int32} {j : Nat} (h : ¬ pu_hit p w c a j) (z : p.testBit j = true → ¬ pu_col a (w (2 * j + pu_b c j))) : ¬ pu_hit p w c a (j + 1) := by
  rintro ⟨i, hi, h1, h2⟩
  rcases Nat.lt_or_ge i j with y | y
  · exact h ⟨i, y, h1, h2⟩
  · have : i = j := by omega
    subst this
    exact z h1 h2
theorem pu_hit_m {p : Nat} {w : Nat → Int32} {c : Nat} {a : Int32} {i j : Nat} (hi : i ≤ j) (h : pu_hit p w c a i) : pu_hit p w c a j := by
  obtain ⟨l, h0, h1⟩ := h
  exact ⟨l, by omega, h1⟩
/-- some plan keeps a free -/
def pu_some (p : Nat) (w g : Nat → Int32) (a : Int32) (m : Nat) : Prop := ∃ d, d < m ∧ pu_plan p w g d ∧ ¬ pu_hit p w d a 8
theorem pu_some_s {p : Nat} {w g : Nat → Int32} {a : Int32} {c : Nat} (h : ¬ pu_some p w g a c) (z : pu_plan p w g c → pu_hit p w c a 8) : ¬ pu_some p w g a (c + 1) := by
  rintro ⟨d, hd, h1, h2⟩
  rcases Nat.lt_or_ge d c with y | y
  · exact h ⟨d, y, h1, h2⟩
  · have : d = c := by omega
    subst this
    exact h2 (z h1)
/-- of the plans below e: those with way k of job j have way m of job i -/
def pu_im (p : Nat) (w g : Nat → Int32) (j k i m e : Nat) : Prop := ∀ d, d < e → pu_plan p w g d → pu_b d j = k → pu_b d i = m
theorem pu_im_s {p : Nat} {w g : Nat → Int32} {j k i m c : Nat} (h : pu_im p w g j k i m c) (z : pu_plan p w g c → pu_b c j = k → pu_b c i = m) : pu_im p w g j k i m (c + 1) := by
  intro d hd
  rcases Nat.lt_or_ge d c with y | y
  · exact h d y
  · have : d = c := by omega
    subst this
    exact z
def pu_imr (p : Nat) (w g : Nat → Int32) (x y z t : Int32) : Prop := ∃ j k i m, j < 8 ∧ k < 2 ∧ i < 8 ∧ m < 2 ∧ x = nI j ∧ y = nI k ∧ z = nI i ∧ t = nI m ∧ p.testBit j = true ∧ p.testBit i = true ∧ pu_im p w g j k i m 256
theorem pu_imr_n {p : Nat} {w g : Nat → Int32} {j k i m : Nat} (hj : j < 8) (hk : k < 2) (hi : i < 8) (hm : m < 2) (tj : p.testBit j = true) (ti : p.testBit i = true) : pu_imr p w g (nI j) (nI k) (nI i) (nI m) ↔ pu_im p w g j k i m 256 := by
  constructor
  · rintro ⟨j', k', i', m', h1, h2, h3, h4, e1, e2, e3, e4, -, -, h⟩
    rw [(nI_eq (by omega) (by omega)).mp e1, (nI_eq (by omega) (by omega)).mp e2, (nI_eq (by omega) (by omega)).mp e3, (nI_eq (by omega) (by omega)).mp e4]
    exact h
  · exact fun h => ⟨j, k, i, m, hj, hk, hi, hm, rfl, rfl, rfl, rfl, tj, ti, h⟩
theorem pu_01 {y : Int32} (h : y = 0 ∨ y = 1) : ∃ k, k < 2 ∧ y = nI k := by
  rcases h with h | h
  · exact ⟨0, by omega, h⟩
  · exact ⟨1, by omega, h⟩
theorem pu_10n {k : Nat} (hk : k < 2) : nI k = 0 ∨ nI k = 1 := by
  rcases Nat.lt_or_ge k 1 with h | h
  · left; have : k = 0 := by omega
    subst this; rfl
  · right; have : k = 1 := by omega
    subst this; rfl
theorem pu_imr_g {p : Nat} {w g : Nat → Int32} {x y z t : Int32} (h : pu_imr p w g x y z t) : (pu_is p x ∧ (y = 0 ∨ y = 1)) ∧ (pu_is p z ∧ (t = 0 ∨ t = 1)) := by
  obtain ⟨j, k, i, m, h1, h2, h3, h4, rfl, rfl, rfl, rfl, h5, h6, -⟩ := h
  exact ⟨⟨(pu_is_n h1).mpr h5, pu_10n h2⟩, (pu_is_n h3).mpr h6, pu_10n h4⟩
/-- the number r says whether Q -/
def pu_bv (Q : Prop) (r : Int32) : Prop := (Q ∧ r = 1) ∨ (¬ Q ∧ r = 0)
theorem pu_bv1 {Q : Prop} (h : Q) : pu_bv Q 1 := Or.inl ⟨h, rfl⟩
theorem pu_bv0 {Q : Prop} (h : ¬ Q) : pu_bv Q 0 := Or.inr ⟨h, rfl⟩
theorem pu_bv_n {Q : Prop} {r : Int32} (h : pu_bv Q r) : narrow .boolean (.int r) = .int r := by
  rcases h with ⟨-, rfl⟩ | ⟨-, rfl⟩ <;> rfl
theorem pu_bv_i {Q Q' : Prop} {r : Int32} (e : Q ↔ Q') (h : pu_bv Q r) : pu_bv Q' r := by
  rcases h with ⟨h, rfl⟩ | ⟨h, rfl⟩
  · exact pu_bv1 (e.mp h)
  · exact pu_bv0 (fun y => h (e.mpr y))
/-- job j's way collides with no way chosen below i -/
def pu_fr (p : Nat) (w : Nat → Int32) (c j i : Nat) : Prop := p.testBit j = true → ∀ l, l < i → p.testBit l = true → ¬ pu_col (w (2 * j + pu_b c j)) (w (2 * l + pu_b c l))
theorem pu_fr_s {p : Nat} {w : Nat → Int32} {c j i : Nat} (h : pu_fr p w c j i) (z : p.testBit i = true → ¬ pu_col (w (2 * j + pu_b c j)) (w (2 * i + pu_b c i))) : pu_fr p w c j (i + 1) := by
  intro t l hl tl
  rcases Nat.lt_or_ge l i with y | y
  · exact h t l y tl
  · have e : l = i := by omega
    subst e
    exact z tl
theorem pu_im_0 {p : Nat} {w g : Nat → Int32} {j : Nat} : pu_im p w g j 1 j 0 256 ↔ pu_all (pu_plan p w g) j 0 := by
  constructor
  · intro h d hd z
    have := h d hd z
    rcases pu_bt d j with y | y
    · exact y.1
    · exact this y.1
  · exact fun h d hd z _ => h d hd z
theorem pu_im_1 {p : Nat} {w g : Nat → Int32} {j : Nat} : pu_im p w g j 0 j 1 256 ↔ pu_all (pu_plan p w g) j 1 := by
  constructor
  · intro h d hd z
    have := h d hd z
    rcases pu_bt d j with y | y
    · exact this y.1
    · exact y.1
  · exact fun h d hd z _ => h d hd z
/-- j is the least number that no job holds -/
def pu_lf (p j : Nat) : Prop := j ≤ 8 ∧ (∀ i, i < j → p.testBit i = true) ∧ (j < 8 → p.testBit j = false)
theorem pu_lf_u {p i j : Nat} (h : pu_lf p i) (h' : pu_lf p j) : j = i := by
  rcases Nat.lt_trichotomy i j with y | y | y
  · have a := h.2.2 (by have := h'.1; omega)
    rw [h'.2.1 i y] at a; cases a
  · exact y.symm
  · have a := h'.2.2 (by have := h.1; omega)
    rw [h.2.1 j y] at a; cases a
/-- the ways with a job's two -/
def pu_W (w : Nat → Int32) (j : Nat) (a b : Int32) : Nat → Int32 := upd (upd w (2 * j) a) (2 * j + 1) b
theorem pu_WW {w : Nat → Int32} {j : Nat} {a b : Int32} : pu_W (pu_W w j a b) j a b = pu_W w j a b := pu_ww
def pu_G (g : Nat → Int32) : Prop := ∀ j, j < 8 → g j = -1 ∨ g j = 0 ∨ g j = 1
theorem pu_G_u {g : Nat → Int32} {j : Nat} {x : Int32} (h : pu_G g) (hx : x = -1 ∨ x = 0 ∨ x = 1) : pu_G (upd g j x) := by
  intro i hi
  by_cases e : i = j
  · rw [e, pk_us]; exact hx
  · rw [pk_un e]; exact h i hi
theorem pu_e1 (j : Nat) : (2 : Int32) * nI j = nI (2 * j) := by
  rw [← pk_mul]; rfl
theorem pu_e2 (j : Nat) : (2 : Int32) * nI j + 1 = nI (2 * j + 1) := by
  rw [pu_e1, nI_1]
theorem pu_or_or (p q : Nat) : (p ||| q) ||| q = p ||| q := by rw [Nat.or_assoc, Nat.or_self]
/-- an offered job that isn't taken leaves the plans as they were -/
theorem pu_D_off {p : Nat} {w g : Nat → Int32} {j : Nat} {a b : Int32} (hD : pu_D p w g) (hj : j < 8) (h : p.testBit j = false) : pu_D p (pu_W w j a b) (upd g j (-1)) := by
  obtain ⟨hp, hg, c, hc, z⟩ := hD
  refine ⟨hp, pu_G_u hg (Or.inl rfl), c, hc, pu_plan_cong (fun i hi t => ?_) (fun i k hi hk t => ?_) z⟩
  · have e : i ≠ j := fun e => by rw [e, h] at t; cases t
    exact pk_un e
  · have e : i ≠ j := fun e => by rw [e, h] at t; cases t
    unfold pu_W
    rw [pk_un (by omega), pk_un (by omega)]
