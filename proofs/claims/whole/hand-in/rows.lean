section
theorem pk_us {f : Nat → Int32} {k : Nat} {x : Int32} : upd f k x k = x := if_pos rfl
theorem pk_un {f : Nat → Int32} {k j : Nat} {x : Int32} (h : j ≠ k) : upd f k x j = f j := if_neg h
theorem pk_sub {a b : Nat} (h : b ≤ a) : nI a - nI b = nI (a - b) := by
  obtain ⟨c, rfl⟩ : ∃ c, a = c + b := ⟨a - b, by omega⟩
  rw [← nI_add, Int32.add_sub_cancel, Nat.add_sub_cancel]
theorem pk_mul (a b : Nat) : nI a * nI b = nI (a * b) := (Int32.ofNat_mul a b).symm
theorem pk_ix (x : Int32) {n : Nat} (hn : n < 2 ^ 31) : x < 0 ∨ nI n ≤ x ∨ ∃ j : Nat, j < n ∧ x = nI j := by
  by_cases h : x < 0
  · exact Or.inl h
  · obtain ⟨j, hj, rfl⟩ := nI_of h
    by_cases h2 : j < n
    · exact Or.inr (Or.inr ⟨j, h2, rfl⟩)
    · exact Or.inr (Or.inl (nI_le (by omega) hj))
theorem pk_le {x y : Int32} {A B : Prop} (a b : Nat) (f : a ≤ b → A) (g : b < a → B) (hx : x = nI a := by rfl) (hy : y = nI b := by rfl) (ha : a < 2 ^ 31 := by omega) (hb : b < 2 ^ 31 := by omega) : (x ≤ y → A) ∧ (¬ x ≤ y → B) := by
  subst hx hy
  rw [nI_leI ha hb]
  exact ⟨f, fun z => g (by omega)⟩
theorem pk_lt {x y : Int32} {A B : Prop} (a b : Nat) (f : a < b → A) (g : b ≤ a → B) (hx : x = nI a := by rfl) (hy : y = nI b := by rfl) (ha : a < 2 ^ 31 := by omega) (hb : b < 2 ^ 31 := by omega) : (x < y → A) ∧ (¬ x < y → B) := by
  subst hx hy
  rw [nI_ltI ha hb]
  exact ⟨f, fun z => g (by omega)⟩
theorem pk_eq {x y : Int32} {A B : Prop} (a b : Nat) (f : a = b → A) (g : a ≠ b → B) (hx : x = nI a := by rfl) (hy : y = nI b := by rfl) (ha : a < 2 ^ 31 := by omega) (hb : b < 2 ^ 31 := by omega) : (x = y → A) ∧ (¬ x = y → B) := by
  subst hx hy
  rw [nI_eq ha hb]
  exact ⟨f, g⟩
theorem pk_in {x : Int32} (n N : Nat) (h : n < N) (hx : x = nI n := by rfl) (hN : N < 2 ^ 31 := by omega) : vp_in x N := by
  subst hx
  exact vp_in_nI h hN
theorem pk_cl {x : Int32} (n : Nat) (hx : x = nI n := by rfl) (h : n < 2 ^ 31 := by omega) : x.toNatClampNeg = n := by
  subst hx
  exact nI_clamp h
theorem pk_tn {n : Nat} (h : n < 2 ^ 32) : (nI n).toBitVec.toNat = n := Nat.mod_eq_of_lt h
theorem pk_and (x : Int32) {m : Int32} (k : Nat) (hm : m.toBitVec.toNat = 2 ^ k - 1) : x &&& m = nI (x.toBitVec.toNat % 2 ^ k) := by
  apply Int32.toBitVec_inj.mp
  apply BitVec.eq_of_toNat_eq
  rw [Int32.toBitVec_and, BitVec.toNat_and, hm, Nat.and_two_pow_sub_one_eq_mod]
  show _ = (BitVec.ofNat 32 _).toNat
  rw [BitVec.toNat_ofNat]
  exact (Nat.mod_eq_of_lt (Nat.lt_of_le_of_lt (Nat.mod_le _ _) x.toBitVec.isLt)).symm
theorem pk_andE (x : Int32) {m : Int32} (k : Nat) (hm : m.toBitVec.toNat = 2 ^ k - 1) : ∃ j : Nat, j < 2 ^ k ∧ x &&& m = nI j := ⟨_, Nat.mod_lt _ (Nat.two_pow_pos k), pk_and x k hm⟩
theorem pk_shr (a s : Int32) (k : Nat) (hs : (s.toBitVec.smod 32).toNat = k) : (a >>> s).toInt = a.toInt >>> k := by
  show (a.toBitVec.sshiftRight (s.toBitVec.smod 32).toNat).toInt = _
  rw [hs, BitVec.toInt_sshiftRight]
  rfl
theorem nx_and (a b : Nat) : nI a &&& nI b = nI (a &&& b) := by
  apply Int32.toBitVec_inj.1
  show BitVec.ofNat 32 a &&& BitVec.ofNat 32 b = BitVec.ofNat 32 (a &&& b)
  apply BitVec.eq_of_getLsbD_eq
  intro i hi
  simp [hi]
theorem nx_xor (a b : Nat) : nI a ^^^ nI b = nI (a ^^^ b) := by
  apply Int32.toBitVec_inj.1
  show BitVec.ofNat 32 a ^^^ BitVec.ofNat 32 b = BitVec.ofNat 32 (a ^^^ b)
  apply BitVec.eq_of_getLsbD_eq
  intro i hi
  simp [hi]
theorem pu_or (a b : Nat) : nI a ||| nI b = nI (a ||| b) := by
  apply Int32.toBitVec_inj.1
  show BitVec.ofNat 32 a ||| BitVec.ofNat 32 b = BitVec.ofNat 32 (a ||| b)
  apply BitVec.eq_of_getLsbD_eq
  intro i hi
  simp [hi]
/-- the way that the choice c has for job j -/
def pu_b (c j : Nat) : Nat := (c.testBit (7 - j)).toNat
/-- p without bit j -/
def pu_clr (p j : Nat) : Nat := p &&& (255 ^^^ 2 ^ j)
theorem pu_t1 : ∀ c, c < 256 → ∀ j, j < 8 → (nI c >>> ((7 - nI j) &&& 31)) &&& 1 = nI (pu_b c j) := by decide +kernel
theorem pu_t2 : ∀ p, p < 256 → ∀ j, j < 8 → ((nI p &&& ((1 : Int32) <<< (nI j &&& 31))) = 0 ↔ p.testBit j = false) := by decide +kernel
theorem pu_t3 : ∀ p, p < 256 → ∀ j, j < 8 → nI p ||| ((1 : Int32) <<< (nI j &&& 31)) = nI (p ||| 2 ^ j) := by decide +kernel
theorem pu_t4 : ∀ p, p < 256 → ∀ j, j < 8 → nI p &&& (((1 : Int32) <<< (nI j &&& 31)) ^^^ (-1)) = nI (pu_clr p j) := by decide +kernel
theorem pu_t5 : ∀ j, j < 8 → ((1 : Int32) <<< ((7 - nI j) &&& 31)) = nI (2 ^ (7 - j)) := by decide +kernel
theorem pu_t6 : ∀ p, p < 256 → ∀ j, j < 8 → nI (p % 2 ^ j) ||| (if p.testBit j then ((1 : Int32) <<< (nI j &&& 31)) else 0) = nI (p % 2 ^ (j + 1)) := by decide +kernel
theorem pu_bt (c j : Nat) : pu_b c j = 0 ∧ c.testBit (7 - j) = false ∨ pu_b c j = 1 ∧ c.testBit (7 - j) = true := by
  unfold pu_b
  cases c.testBit (7 - j)
  · exact Or.inl ⟨rfl, rfl⟩
  · exact Or.inr ⟨rfl, rfl⟩
theorem pu_b2 (c j : Nat) : pu_b c j < 2 := by
  rcases pu_bt c j with h | h <;> omega
theorem pu_bI (c j : Nat) (k : Nat) (hk : k < 2) : nI (pu_b c j) = nI k ↔ pu_b c j = k := nI_eq (by have := pu_b2 c j; omega) (by omega)
theorem pu_clr_lt {p j : Nat} (hp : p < 256) : pu_clr p j < 256 := by
  unfold pu_clr
  exact Nat.lt_of_le_of_lt Nat.and_le_left hp
theorem pu_set_lt {p j : Nat} (hp : p < 256) (hj : j < 8) : p ||| 2 ^ j < 256 :=
  Nat.or_lt_two_pow (n := 8) hp (Nat.pow_lt_pow_right (by decide) hj)
theorem pu_flip_lt {p j : Nat} (hp : p < 256) (hj : j < 8) : p ^^^ 2 ^ j < 256 :=
  Nat.xor_lt_two_pow (n := 8) hp (Nat.pow_lt_pow_right (by decide) hj)
theorem pu_hi {p i : Nat} (hp : p < 256) (hi : 8 ≤ i) : p.testBit i = false :=
  Nat.testBit_lt_two_pow (Nat.lt_of_lt_of_le hp (Nat.pow_le_pow_right (n := 2) (by decide) hi))
theorem pu_255 (i : Nat) : (255 : Nat).testBit i = decide (i < 8) := Nat.testBit_two_pow_sub_one 8 i
theorem pu_clr_s (p : Nat) {j : Nat} (hj : j < 8) : (pu_clr p j).testBit j = false := by
  unfold pu_clr
  rw [Nat.testBit_and, Nat.testBit_xor, pu_255, Nat.testBit_two_pow_self]
  simp [hj]
theorem pu_clr_n {p j i : Nat} (hp : p < 256) (h : i ≠ j) : (pu_clr p j).testBit i = p.testBit i := by
  unfold pu_clr
  rw [Nat.testBit_and, Nat.testBit_xor, pu_255, Nat.testBit_two_pow_of_ne (Ne.symm h)]
  by_cases hi : i < 8
  · simp [hi]
  · rw [pu_hi hp (by omega)]; rfl
theorem pu_set_s (p j : Nat) : (p ||| 2 ^ j).testBit j = true := by
  rw [Nat.testBit_or, Nat.testBit_two_pow_self, Bool.or_true]
theorem pu_set_n {p j i : Nat} (h : i ≠ j) : (p ||| 2 ^ j).testBit i = p.testBit i := by
  rw [Nat.testBit_or, Nat.testBit_two_pow_of_ne (Ne.symm h), Bool.or_false]
theorem pu_flip_s (p j : Nat) : (p ^^^ 2 ^ j).testBit j = !p.testBit j := by
  rw [Nat.testBit_xor, Nat.testBit_two_pow_self]
  cases p.testBit j <;> rfl
theorem pu_clr_set {p j : Nat} (hp : p < 256) (hj : j < 8) (h : p.testBit j = false) : pu_clr (p ||| 2 ^ j) j = p := by
  apply Nat.eq_of_testBit_eq
  intro i
  by_cases hi : i = j
  · rw [hi, pu_clr_s _ hj, h]
  · rw [pu_clr_n (pu_set_lt hp hj) hi, pu_set_n hi]
/-- the reference's array of the present jobs -/
def pu_T (p : Nat) : Nat → Int32 := fun j => if p.testBit j = true then 1 else 0
theorem pu_T1 {p j : Nat} (h : p.testBit j = true) : pu_T p j = 1 := if_pos h
theorem pu_T0 {p j : Nat} (h : p.testBit j = false) : pu_T p j = 0 := if_neg (by rw [h]; decide)
theorem pu_Tz {p j : Nat} : pu_T p j = 0 ↔ p.testBit j = false := by
  cases h : p.testBit j
  · exact ⟨fun _ => rfl, fun _ => pu_T0 h⟩
  · rw [pu_T1 h]; decide
theorem pu_T00 : pu_T 0 = fun _ => 0 := by
  funext j; exact pu_T0 (Nat.zero_testBit j)
theorem pu_Tset {p j : Nat} : upd (pu_T p) j 1 = pu_T (p ||| 2 ^ j) := by
  funext i
  by_cases hi : i = j
  · rw [hi, pk_us, pu_T1 (pu_set_s p j)]
  · rw [pk_un hi]
    show (if p.testBit i = true then (1 : Int32) else 0) = if (p ||| 2 ^ j).testBit i = true then 1 else 0
    rw [pu_set_n hi]
theorem pu_Tclr {p j : Nat} (hp : p < 256) (hj : j < 8) : upd (pu_T p) j 0 = pu_T (pu_clr p j) := by
  funext i
  by_cases hi : i = j
  · rw [hi, pk_us, pu_T0 (pu_clr_s p hj)]
  · rw [pk_un hi]
    show (if p.testBit i = true then (1 : Int32) else 0) = if (pu_clr p j).testBit i = true then 1 else 0
    rw [pu_clr_n hp hi]
theorem pu_uu {f : Nat → Int32} {k : Nat} {x y : Int32} : upd (upd f k x) k y = upd f k y := by
  funext i
  by_cases hi : i = k
  · rw [hi, pk_us, pk_us]
  · rw [pk_un hi, pk_un hi, pk_un hi]
theorem pu_ub {f : Nat → Int32} {k : Nat} {x : Int32} : upd (upd f k x) k (f k) = f := by
  funext i
  by_cases hi : i = k
  · rw [hi, pk_us]
  · rw [pk_un hi, pk_un hi]
theorem pu_uc {f : Nat → Int32} {k l : Nat} {x y : Int32} (h : k ≠ l) : upd (upd f k x) l y = upd (upd f l y) k x := by
  funext i
  by_cases hi : i = k
  · rw [hi, pk_us, pk_un h, pk_us]
  · by_cases hl : i = l
    · rw [hl, pk_us, pk_un (Ne.symm h), pk_us]
    · rw [pk_un hl, pk_un hi, pk_un hi, pk_un hl]
/-- placing the same job twice is placing it once -/
theorem pu_ww {f : Nat → Int32} {k l : Nat} {x y : Int32} : upd (upd (upd (upd f k x) l y) k x) l y = upd (upd f k x) l y := by
  funext i
  by_cases hl : i = l
  · rw [hl, pk_us, pk_us]
  · rw [pk_un hl, pk_un hl]
    by_cases hi : i = k
    · rw [hi, pk_us, pk_us]
    · rw [pk_un hi, pk_un hl, pk_un hi]
theorem pu_t7 : ∀ p, p < 256 → ∀ j, j < 8 → ((nI p &&& ((1 : Int32) <<< ((7 - nI j) &&& 31))) = 0 ↔ p.testBit (7 - j) = false) := by decide +kernel
theorem pu_t8 : ∀ p, p < 256 → ∀ j, j < 8 → nI p ^^^ ((1 : Int32) <<< ((7 - nI j) &&& 31)) = nI (p ^^^ 2 ^ (7 - j)) := by decide +kernel
end
section
def pu_st (a : Int32) : Int32 := (a >>> ((2 : Int32) &&& 31)) &&& 31
def pu_en (a : Int32) : Int32 := pu_st a + (a >>> ((7 : Int32) &&& 31))
/-- two ways collide -/
def pu_col (a b : Int32) : Prop := a &&& 3 = b &&& 3 ∧ pu_st a < pu_en b ∧ pu_st b < pu_en a
theorem pu_cs {a b : Int32} : pu_col a b ↔ pu_col b a := ⟨fun h => ⟨h.1.symm, h.2.2, h.2.1⟩, fun h => ⟨h.1.symm, h.2.2, h.2.1⟩⟩
/-- a number is a way -/
def pu_way (a : Int32) : Prop := (a &&& 3) < 3 ∧ 1 ≤ (a >>> ((7 : Int32) &&& 31)) ∧ pu_en a ≤ 20
theorem pu_n0 : (0 : Int32).toInt = 0 := by decide
theorem pu_n1 : (1 : Int32).toInt = 1 := by decide
theorem pu_n2 : (2 : Int32).toInt = 2 := by decide
theorem pu_n3 : (3 : Int32).toInt = 3 := by decide
theorem pu_n19 : (19 : Int32).toInt = 19 := by decide
theorem pu_n20 : (20 : Int32).toInt = 20 := by decide
theorem pu_s31 (a : Int32) : 0 ≤ (pu_st a).toInt ∧ (pu_st a).toInt ≤ 31 := by
  obtain ⟨j, hj, e⟩ := pk_andE (a >>> ((2 : Int32) &&& 31)) (m := 31) 5 (by decide)
  unfold pu_st
  rw [e, nI_toInt (by omega)]
  omega
theorem pu_l7 (a : Int32) : (a >>> ((7 : Int32) &&& 31)).toInt = a.toInt / 128 := by
  rw [pk_shr a _ 7 (by decide), Int.shiftRight_eq_div_pow]
  rfl
theorem pu_en7 (a : Int32) : (pu_en a).toInt = (pu_st a).toInt + a.toInt / 128 := by
  have h := pu_s31 a
  have h1 := Int32.le_toInt a
  have h2 := Int32.toInt_lt a
  unfold pu_en
  rw [Int32.toInt_add, pu_l7]
  apply Int.bmod_eq_of_le
  · omega
  · omega
/-- the reference's question for a way is the same -/
theorem pu_wayY {a : Int32} : pu_way a ↔ 0 ≤ a ∧ (a &&& 3) ≤ 2 ∧ 1 ≤ (a >>> ((7 : Int32) &&& 31)) ∧ (a >>> ((7 : Int32) &&& 31)) ≤ 20 ∧ pu_st a ≤ 19 ∧ pu_en a ≤ 20 := by
  unfold pu_way
  have h := pu_s31 a
  simp only [Int32.le_iff_toInt_le, Int32.lt_iff_toInt_lt, pu_l7, pu_en7, pu_n0, pu_n1, pu_n2, pu_n3, pu_n19, pu_n20]
  omega
/-- job j may have its way of the choice c -/
def pu_may (p : Nat) (g : Nat → Int32) (c j : Nat) : Prop := (p.testBit j = true → g j = -1 ∨ g j = nI (pu_b c j)) ∧ (p.testBit j = false → pu_b c j = 0)
/-- job j's way collides with no way chosen below it -/
def pu_free (p : Nat) (w : Nat → Int32) (c j : Nat) : Prop := p.testBit j = true → ∀ i, i < j → p.testBit i = true → ¬ pu_col (w (2 * j + pu_b c j)) (w (2 * i + pu_b c i))
def pu_plan (p : Nat) (w g : Nat → Int32) (c : Nat) : Prop := ∀ j, j < 8 → pu_may p g c j ∧ pu_free p w c j
/-- no chosen way collides with a -/
def pu_avoid (p : Nat) (w : Nat → Int32) (c : Nat) (a : Int32) : Prop := ∀ i, i < 8 → p.testBit i = true → ¬ pu_col a (w (2 * i + pu_b c i))
/-- r is the least choice with P, -1 if there is none -/
def pu_fst (P : Nat → Prop) (r : Int32) : Prop := (∃ c, c < 256 ∧ P c ∧ (∀ d, d < c → ¬ P d) ∧ r = nI c) ∨ ((∀ c, c < 256 → ¬ P c) ∧ r = -1)
theorem pu_fst_u {P : Nat → Prop} {r r' : Int32} (h : pu_fst P r) (h' : pu_fst P r') : r' = r := by
  rcases h with ⟨c, hc, h1, h2, e⟩ | ⟨h1, e⟩
  · rcases h' with ⟨d, hd, g1, g2, f⟩ | ⟨g1, f⟩
    · have : c = d := by
        rcases Nat.lt_trichotomy c d with h | h | h
        · exact absurd h1 (g2 c h)
        · exact h
        · exact absurd g1 (h2 d h)
      rw [e, f, this]
    · exact absurd h1 (g1 c hc)
  · rcases h' with ⟨d, hd, g1, g2, f⟩ | ⟨g1, f⟩
    · exact absurd g1 (h1 d hd)
    · rw [e, f]
/-- with a plan there is a first one -/
theorem pu_fst_e {P : Nat → Prop} {r : Int32} (h : pu_fst P r) (hP : ∃ c, c < 256 ∧ P c) : ∃ c, c < 256 ∧ P c ∧ r = nI c := by
  rcases h with ⟨c, hc, h1, h2, e⟩ | ⟨h1, e⟩
  · exact ⟨c, hc, h1, e⟩
  · obtain ⟨c, hc, h2⟩ := hP
    exact absurd h2 (h1 c hc)
theorem pu_m1 : ∀ c, c < 256 → ¬ nI c = -1 ∧ ¬ (-1 : Int32) = nI c ∧ 0 ≤ nI c ∧ ¬ nI c < 0 := by decide +kernel
theorem pu_fst_ge {P : Nat → Prop} {r : Int32} (h : pu_fst P r) : (0 ≤ r ∧ ¬ r = -1 ∧ ¬ r < 0 ∧ ∃ c, c < 256 ∧ P c) ∨ (¬ 0 ≤ r ∧ r = -1 ∧ r < 0) := by
  rcases h with ⟨c, hc, h1, h2, e⟩ | ⟨h1, e⟩
  · subst e
    exact Or.inl ⟨(pu_m1 c hc).2.2.1, (pu_m1 c hc).1, (pu_m1 c hc).2.2.2, c, hc, h1⟩
  · subst e
    exact Or.inr ⟨by decide, rfl, by decide⟩
theorem pu_plan_cong {p : Nat} {w w' g g' : Nat → Int32} {c : Nat} (hg : ∀ j, j < 8 → p.testBit j = true → g' j = g j) (hw : ∀ j k, j < 8 → k < 2 → p.testBit j = true → w' (2 * j + k) = w (2 * j + k)) (h : pu_plan p w g c) : pu_plan p w' g' c := by
  intro j hj
  obtain ⟨h1, h2⟩ := h j hj
  refine ⟨⟨fun z => ?_, h1.2⟩, fun z i hi y => ?_⟩
  · rw [hg j hj z]; exact h1.1 z
  · rw [hw j _ hj (pu_b2 c j) z, hw i _ (by omega) (pu_b2 c i) y]
    exact h2 z i hi y
theorem pu_plan_unpin {p : Nat} {w g : Nat → Int32} {c j : Nat} (h : pu_plan p w g c) : pu_plan p w (upd g j (-1)) c := by
  intro i hi
  obtain ⟨h1, h2⟩ := h i hi
  refine ⟨⟨fun z => ?_, h1.2⟩, h2⟩
  by_cases e : i = j
  · rw [e, pk_us]; exact Or.inl rfl
  · rw [pk_un e]; exact h1.1 z
theorem pu_b_clr_s (c : Nat) {j : Nat} (hj : j < 8) : pu_b (pu_clr c (7 - j)) j = 0 := by
  unfold pu_b
  rw [pu_clr_s c (by omega)]
  rfl
theorem pu_b_clr_n {c i j : Nat} (hc : c < 256) (hi : i < 8) (hj : j < 8) (h : i ≠ j) : pu_b (pu_clr c (7 - j)) i = pu_b c i := by
  unfold pu_b
  rw [pu_clr_n hc (by omega)]
theorem pu_plan_out {p : Nat} {w g : Nat → Int32} {c j : Nat} (hp : p < 256) (hc : c < 256) (hj : j < 8) (h : pu_plan p w g c) : pu_plan (pu_clr p j) w g (pu_clr c (7 - j)) := by
  intro i hi
  obtain ⟨h1, h2⟩ := h i hi
  by_cases e : i = j
  · subst e
    refine ⟨⟨fun z => ?_, fun _ => pu_b_clr_s c hi⟩, fun z => ?_⟩
    · rw [pu_clr_s p hi] at z; cases z
    · rw [pu_clr_s p hi] at z; cases z
  · refine ⟨⟨fun z => ?_, fun z => ?_⟩, fun z l hl y => ?_⟩
    · rw [pu_clr_n hp e] at z
      rw [pu_b_clr_n hc hi hj e]
      exact h1.1 z
    · rw [pu_clr_n hp e] at z
      rw [pu_b_clr_n hc hi hj e]
      exact h1.2 z
    · by_cases f : l = j
      · rw [f, pu_clr_s p hj] at y; cases y
      · rw [pu_clr_n hp e] at z
        rw [pu_clr_n hp f] at y
        rw [pu_b_clr_n hc hi hj e, pu_b_clr_n hc (by omega) hj f]
        exact h2 z l hl y
theorem pu_noflip {p : Nat} {w g : Nat → Int32} {c j : Nat} (hj : j < 8) (z : p.testBit j = false) (h : pu_plan p w g c) : ¬ pu_plan p w g (c ^^^ 2 ^ (7 - j)) := by
  intro y
  have a := (h j hj).1.2 z
  have b := (y j hj).1.2 z
  unfold pu_b at a b
  rw [pu_flip_s] at b
  cases h : c.testBit (7 - j)
  · rw [h] at b; cases b
  · rw [h] at a; cases a
theorem pu_plan0 : ∀ w g : Nat → Int32, pu_plan 0 w g 0 := by
  intro w g j hj
  refine ⟨⟨fun z => ?_, fun _ => ?_⟩, fun z => ?_⟩
  · rw [Nat.zero_testBit] at z; cases z
  · unfold pu_b; rw [Nat.zero_testBit]; rfl
  · rw [Nat.zero_testBit] at z; cases z
/-- a state of the desk: the jobs p, their ways and pins; there is a plan -/
def pu_D (p : Nat) (w g : Nat → Int32) : Prop := p < 256 ∧ (∀ j, j < 8 → g j = -1 ∨ g j = 0 ∨ g j = 1) ∧ ∃ c, c < 256 ∧ pu_plan p w g c
/-- both answers of a question -/
def pu_ret (Q : Prop) (post : Int32 → Prop) : Prop := (Q → post 1) ∧ (¬ Q → post 0)
theorem pu_ret_t {Q : Prop} {post : Int32 → Prop} (h : pu_ret Q post) (q : Q) : post 1 := h.1 q
theorem pu_ret_f {Q : Prop} {post : Int32 → Prop} (h : pu_ret Q post) (q : ¬ Q) : post 0 := h.2 q
/-- the number j is a job's -/
def pu_is (p : Nat) (x : Int32) : Prop := ∃ j, j < 8 ∧ x = nI j ∧ p.testBit j = true
theorem pu_is_n {p j : Nat} (hj : j < 8) : pu_is p (nI j) ↔ p.testBit j = true := by
  constructor
  · rintro ⟨i, hi, e, h⟩
    rw [(nI_eq (by omega) (by omega)).mp e]
    exact h
  · exact fun h => ⟨j, hj, rfl, h⟩
/-- the way that each plan has for job j -/
def pu_all (P : Nat → Prop) (j v : Nat) : Prop := ∀ d, d < 256 → P d → pu_b d j = v
def pu_fd (P : Nat → Prop) (j : Nat) (r : Int32) : Prop := (∃ v, v < 2 ∧ pu_all P j v ∧ r = nI v) ∨ ((∀ v, v < 2 → ¬ pu_all P j v) ∧ r = -1)
theorem pu_all_u {P : Nat → Prop} {j v v' : Nat} (hP : ∃ c, c < 256 ∧ P c) (h : pu_all P j v) (h' : pu_all P j v') : v' = v := by
  obtain ⟨c, hc, z⟩ := hP
  rw [← h c hc z, ← h' c hc z]
theorem pu_fd_u {P : Nat → Prop} {j : Nat} {r r' : Int32} (hP : ∃ c, c < 256 ∧ P c) (h : pu_fd P j r) (h' : pu_fd P j r') : r' = r := by
  rcases h with ⟨v, hv, h1, e⟩ | ⟨h1, e⟩
  · rcases h' with ⟨d, hd, g1, f⟩ | ⟨g1, f⟩
    · rw [e, f, pu_all_u hP h1 g1]
    · exact absurd h1 (g1 v hv)
  · rcases h' with ⟨d, hd, g1, f⟩ | ⟨g1, f⟩
    · exact absurd g1 (h1 d hd)
    · rw [e, f]
theorem pu_fd_ge {P : Nat → Prop} {j : Nat} {r : Int32} (h : pu_fd P j r) : (0 ≤ r ∧ ¬ r < 0 ∧ ∃ v, v < 2 ∧ pu_all P j v) ∨ (¬ 0 ≤ r ∧ r < 0 ∧ ¬ ∃ v, v < 2 ∧ pu_all P j v) := by
  rcases h with ⟨v, hv, h1, e⟩ | ⟨h1, e⟩
  · subst e
    exact Or.inl ⟨(pu_m1 v (by omega)).2.2.1, (pu_m1 v (by omega)).2.2.2, v, hv, h1⟩
  · subst e
    exact Or.inr ⟨by decide, by decide, fun ⟨v, hv, z⟩ => h1 v hv z⟩
/-- the bits in which some plan is another than f -/
def pu_opn (P : Nat → Prop) (f o : Nat) : Prop := o < 256 ∧ ∀ i, i < 8 → (o.testBit i = true ↔ ∃ d, d < 256 ∧ P d ∧ (d ^^^ f).testBit i = true)
theorem pu_b_eq {c d j : Nat} : pu_b c j = pu_b d j ↔ (c ^^^ d).testBit (7 - j) = false := by
  unfold pu_b
  rw [Nat.testBit_xor]
  cases c.testBit (7 - j) <;> cases d.testBit (7 - j) <;> decide
theorem pu_opn_f {P : Nat → Prop} {f o j : Nat} (h : pu_opn P f o) (hj : j < 8) (hf : f < 256) (z : P f) : o.testBit (7 - j) = false ↔ pu_all P j (pu_b f j) := by
  have h1 := h.2 (7 - j) (by omega)
  constructor
  · intro y d hd q
    rw [pu_b_eq]
    cases e : (d ^^^ f).testBit (7 - j)
    · rfl
    · rw [h1.mpr ⟨d, hd, q, e⟩] at y; cases y
  · intro y
    cases e : o.testBit (7 - j)
    · rfl
    · obtain ⟨d, hd, q, e'⟩ := h1.mp e
      rw [pu_b_eq.mp (y d hd q)] at e'; cases e'
theorem pu_opn_fd {P : Nat → Prop} {f o j : Nat} (h : pu_opn P f o) (hj : j < 8) (hf : f < 256) (z : P f) : (o.testBit (7 - j) = false → pu_fd P j (nI (pu_b f j))) ∧ (¬ o.testBit (7 - j) = false → pu_fd P j (-1)) := by
  constructor
  · intro y
    exact Or.inl ⟨_, pu_b2 f j, (pu_opn_f h hj hf z).mp y, rfl⟩
  · intro y
    refine Or.inr ⟨fun v hv g => y ((pu_opn_f h hj hf z).mpr ?_), rfl⟩
    rw [g f hf z]
    exact g
/-- how many of the first n numbers have Q -/
noncomputable def pu_cnt (Q : Nat → Prop) : Nat → Nat
  | 0 => 0
  | n + 1 => pu_cnt Q n + @ite _ (Q n) (Classical.propDecidable _) 1 0
theorem pu_cnt_t {Q : Nat → Prop} {n : Nat} (h : Q n) : pu_cnt Q (n + 1) = pu_cnt Q n + 1 := by
  show pu_cnt Q n + @ite _ (Q n) (Classical.propDecidable _) 1 0 = _
  rw [if_pos h]
theorem pu_cnt_f {Q : Nat → Prop} {n : Nat} (h : ¬ Q n) : pu_cnt Q (n + 1) = pu_cnt Q n := by
  show pu_cnt Q n + @ite _ (Q n) (Classical.propDecidable _) 1 0 = _
  rw [if_neg h, Nat.add_zero]
theorem pu_cnt_le {Q : Nat → Prop} : ∀ n, pu_cnt Q n ≤ n
  | 0 => Nat.le_refl 0
  | n + 1 => by
    have := pu_cnt_le (Q := Q) n
    by_cases h : Q n
    · rw [pu_cnt_t h]; omega
    · rw [pu_cnt_f h]; omega
theorem pu_8 {x : Int32} (h : nI 8 ≤ x) : ¬ x < 0 ∧ 0 ≤ x ∧ ¬ x < 8 := by
  have e8 : (nI 8).toInt = 8 := nI_toInt (by decide)
  have f8 : (8 : Int32).toInt = 8 := by decide
  rw [Int32.le_iff_toInt_le, e8] at h
  rw [Int32.lt_iff_toInt_lt, Int32.le_iff_toInt_le, Int32.lt_iff_toInt_lt, pu_n0, f8]
  omega
theorem pu_is_neg {p : Nat} {x : Int32} (h : x < 0) : ¬ pu_is p x := by
  rintro ⟨i, hi, e, -⟩
  rw [e] at h
  exact nI_pos (by omega) h
theorem pu_is_ge {p : Nat} {x : Int32} (h : nI 8 ≤ x) : ¬ pu_is p x := by
  rintro ⟨i, hi, e, -⟩
  rw [e] at h
  exact nI_ge (by omega) (by decide) h
theorem pu_nt {b : Bool} (h : ¬ b = true) : b = false := by cases b; rfl; exact absurd rfl h
theorem pu_nf {b : Bool} (h : ¬ b = false) : b = true := by cases b; exact absurd rfl h; rfl
theorem pu_tf {b : Bool} (h : b = true) : ¬ b = false := by rw [h]; decide
theorem pu_ft {b : Bool} (h : b = false) : ¬ b = true := by rw [h]; decide
theorem pu_10 : ¬ (1 : Int32) = 0 := by decide
theorem pu_nar0 : narrow .boolean (.int 0) = .int 0 := rfl
theorem pu_nar1 : narrow .boolean (.int 1) = .int 1 := rfl
theorem pu_vb0 : vp_nar .boolean 0 = 0 := rfl
theorem pu_vb1 : vp_nar .boolean 1 = 1 := rfl
/-- the place of a way -/
theorem pu_ix {j k : Nat} : (2 : Int32) * nI j + nI k = nI (2 * j + k) := by
  rw [← nI_add, ← pk_mul]; rfl
/-- a collides with a way chosen below m -/
def pu_hit (p : Nat) (w : Nat → Int32) (c : Nat) (a : Int32) (m : Nat) : Prop := ∃ i, i < m ∧ p.testBit i = true ∧ pu_col a (w (2 * i + pu_b c i))
theorem pu_hit_0 {p : Nat} {w : Nat → Int32} {c : Nat} {a : Int32} : ¬ pu_hit p w c a 0 := fun ⟨i, hi, _⟩ => absurd hi (Nat.not_lt_zero i)
theorem pu_hit_s {p : Nat} {w : Nat → Int32} {c : Nat} {a : Int32} {j : Nat} (h : ¬ pu_hit p w c a j) (z : p.testBit j = true → ¬ pu_col a (w (2 * j + pu_b c j))) : ¬ pu_hit p w c a (j + 1) := by
  rintro ⟨i, hi, h1, h2⟩
  rcases Nat.lt_or_ge i j with y | y
  · exact h ⟨i, y, h1, h2⟩
  · have : i = j := by omega
    subst this
    exact z h1 h2
theorem pu_hit_m {p : Nat} {w : Nat → Int32} {c : Nat} {a : Int32} {i j : Nat} (hi : i ≤ j) (h : pu_hit p w c a i) : pu_hit p w c a j := by
  obtain ⟨l, h0, h1⟩ := h
  exact ⟨l, by omega, h1⟩
/-- some plan keeps a free -/
def pu_some (p : Nat) (w g : Nat → Int32) (a : Int32) (m : Nat) : Prop := ∃ d, d < m ∧ pu_plan p w g d ∧ ¬ pu_hit p w d a 8
theorem pu_some_s {p : Nat} {w g : Nat → Int32} {a : Int32} {c : Nat} (h : ¬ pu_some p w g a c) (z : pu_plan p w g c → pu_hit p w c a 8) : ¬ pu_some p w g a (c + 1) := by
  rintro ⟨d, hd, h1, h2⟩
  rcases Nat.lt_or_ge d c with y | y
  · exact h ⟨d, y, h1, h2⟩
  · have : d = c := by omega
    subst this
    exact h2 (z h1)
/-- of the plans below e: those with way k of job j have way m of job i -/
def pu_im (p : Nat) (w g : Nat → Int32) (j k i m e : Nat) : Prop := ∀ d, d < e → pu_plan p w g d → pu_b d j = k → pu_b d i = m
theorem pu_im_s {p : Nat} {w g : Nat → Int32} {j k i m c : Nat} (h : pu_im p w g j k i m c) (z : pu_plan p w g c → pu_b c j = k → pu_b c i = m) : pu_im p w g j k i m (c + 1) := by
  intro d hd
  rcases Nat.lt_or_ge d c with y | y
  · exact h d y
  · have : d = c := by omega
    subst this
    exact z
def pu_imr (p : Nat) (w g : Nat → Int32) (x y z t : Int32) : Prop := ∃ j k i m, j < 8 ∧ k < 2 ∧ i < 8 ∧ m < 2 ∧ x = nI j ∧ y = nI k ∧ z = nI i ∧ t = nI m ∧ p.testBit j = true ∧ p.testBit i = true ∧ pu_im p w g j k i m 256
theorem pu_imr_n {p : Nat} {w g : Nat → Int32} {j k i m : Nat} (hj : j < 8) (hk : k < 2) (hi : i < 8) (hm : m < 2) (tj : p.testBit j = true) (ti : p.testBit i = true) : pu_imr p w g (nI j) (nI k) (nI i) (nI m) ↔ pu_im p w g j k i m 256 := by
  constructor
  · rintro ⟨j', k', i', m', h1, h2, h3, h4, e1, e2, e3, e4, -, -, h⟩
    rw [(nI_eq (by omega) (by omega)).mp e1, (nI_eq (by omega) (by omega)).mp e2, (nI_eq (by omega) (by omega)).mp e3, (nI_eq (by omega) (by omega)).mp e4]
    exact h
  · exact fun h => ⟨j, k, i, m, hj, hk, hi, hm, rfl, rfl, rfl, rfl, tj, ti, h⟩
theorem pu_01 {y : Int32} (h : y = 0 ∨ y = 1) : ∃ k, k < 2 ∧ y = nI k := by
  rcases h with h | h
  · exact ⟨0, by omega, h⟩
  · exact ⟨1, by omega, h⟩
theorem pu_10n {k : Nat} (hk : k < 2) : nI k = 0 ∨ nI k = 1 := by
  rcases Nat.lt_or_ge k 1 with h | h
  · left; have : k = 0 := by omega
    subst this; rfl
  · right; have : k = 1 := by omega
    subst this; rfl
theorem pu_imr_g {p : Nat} {w g : Nat → Int32} {x y z t : Int32} (h : pu_imr p w g x y z t) : (pu_is p x ∧ (y = 0 ∨ y = 1)) ∧ (pu_is p z ∧ (t = 0 ∨ t = 1)) := by
  obtain ⟨j, k, i, m, h1, h2, h3, h4, rfl, rfl, rfl, rfl, h5, h6, -⟩ := h
  exact ⟨⟨(pu_is_n h1).mpr h5, pu_10n h2⟩, (pu_is_n h3).mpr h6, pu_10n h4⟩
/-- the number r says whether Q -/
def pu_bv (Q : Prop) (r : Int32) : Prop := (Q ∧ r = 1) ∨ (¬ Q ∧ r = 0)
theorem pu_bv1 {Q : Prop} (h : Q) : pu_bv Q 1 := Or.inl ⟨h, rfl⟩
theorem pu_bv0 {Q : Prop} (h : ¬ Q) : pu_bv Q 0 := Or.inr ⟨h, rfl⟩
theorem pu_bv_n {Q : Prop} {r : Int32} (h : pu_bv Q r) : narrow .boolean (.int r) = .int r := by
  rcases h with ⟨-, rfl⟩ | ⟨-, rfl⟩ <;> rfl
theorem pu_bv_i {Q Q' : Prop} {r : Int32} (e : Q ↔ Q') (h : pu_bv Q r) : pu_bv Q' r := by
  rcases h with ⟨h, rfl⟩ | ⟨h, rfl⟩
  · exact pu_bv1 (e.mp h)
  · exact pu_bv0 (fun y => h (e.mpr y))
/-- job j's way collides with no way chosen below i -/
def pu_fr (p : Nat) (w : Nat → Int32) (c j i : Nat) : Prop := p.testBit j = true → ∀ l, l < i → p.testBit l = true → ¬ pu_col (w (2 * j + pu_b c j)) (w (2 * l + pu_b c l))
theorem pu_fr_s {p : Nat} {w : Nat → Int32} {c j i : Nat} (h : pu_fr p w c j i) (z : p.testBit i = true → ¬ pu_col (w (2 * j + pu_b c j)) (w (2 * i + pu_b c i))) : pu_fr p w c j (i + 1) := by
  intro t l hl tl
  rcases Nat.lt_or_ge l i with y | y
  · exact h t l y tl
  · have e : l = i := by omega
    subst e
    exact z tl
theorem pu_im_0 {p : Nat} {w g : Nat → Int32} {j : Nat} : pu_im p w g j 1 j 0 256 ↔ pu_all (pu_plan p w g) j 0 := by
  constructor
  · intro h d hd z
    have := h d hd z
    rcases pu_bt d j with y | y
    · exact y.1
    · exact this y.1
  · exact fun h d hd z _ => h d hd z
theorem pu_im_1 {p : Nat} {w g : Nat → Int32} {j : Nat} : pu_im p w g j 0 j 1 256 ↔ pu_all (pu_plan p w g) j 1 := by
  constructor
  · intro h d hd z
    have := h d hd z
    rcases pu_bt d j with y | y
    · exact this y.1
    · exact y.1
  · exact fun h d hd z _ => h d hd z
/-- j is the least number that no job holds -/
def pu_lf (p j : Nat) : Prop := j ≤ 8 ∧ (∀ i, i < j → p.testBit i = true) ∧ (j < 8 → p.testBit j = false)
theorem pu_lf_u {p i j : Nat} (h : pu_lf p i) (h' : pu_lf p j) : j = i := by
  rcases Nat.lt_trichotomy i j with y | y | y
  · have a := h.2.2 (by have := h'.1; omega)
    rw [h'.2.1 i y] at a; cases a
  · exact y.symm
  · have a := h'.2.2 (by have := h.1; omega)
    rw [h.2.1 j y] at a; cases a
/-- the ways with a job's two -/
def pu_W (w : Nat → Int32) (j : Nat) (a b : Int32) : Nat → Int32 := upd (upd w (2 * j) a) (2 * j + 1) b
theorem pu_WW {w : Nat → Int32} {j : Nat} {a b : Int32} : pu_W (pu_W w j a b) j a b = pu_W w j a b := pu_ww
def pu_G (g : Nat → Int32) : Prop := ∀ j, j < 8 → g j = -1 ∨ g j = 0 ∨ g j = 1
theorem pu_G_u {g : Nat → Int32} {j : Nat} {x : Int32} (h : pu_G g) (hx : x = -1 ∨ x = 0 ∨ x = 1) : pu_G (upd g j x) := by
  intro i hi
  by_cases e : i = j
  · rw [e, pk_us]; exact hx
  · rw [pk_un e]; exact h i hi
theorem pu_e1 (j : Nat) : (2 : Int32) * nI j = nI (2 * j) := by
  rw [← pk_mul]; rfl
theorem pu_e2 (j : Nat) : (2 : Int32) * nI j + 1 = nI (2 * j + 1) := by
  rw [pu_e1, nI_1]
theorem pu_or_or (p q : Nat) : (p ||| q) ||| q = p ||| q := by rw [Nat.or_assoc, Nat.or_self]
/-- an offered job that isn't taken leaves the plans as they were -/
theorem pu_D_off {p : Nat} {w g : Nat → Int32} {j : Nat} {a b : Int32} (hD : pu_D p w g) (hj : j < 8) (h : p.testBit j = false) : pu_D p (pu_W w j a b) (upd g j (-1)) := by
  obtain ⟨hp, hg, c, hc, z⟩ := hD
  refine ⟨hp, pu_G_u hg (Or.inl rfl), c, hc, pu_plan_cong (fun i hi t => ?_) (fun i k hi hk t => ?_) z⟩
  · have e : i ≠ j := fun e => by rw [e, h] at t; cases t
    exact pk_un e
  · have e : i ≠ j := fun e => by rw [e, h] at t; cases t
    unfold pu_W
    rw [pk_un (by omega), pk_un (by omega)]
end
section
section
variable {p : Nat} {w g : Nat → Int32} {post : Int32 → Prop}
theorem xa_wi {c j : Nat} (hc : c < 256) (hj : j < 8) (h : post (nI (pu_b c j))) : wpX_wayIn post (nI c) (nI j) := by
  unfold wpX_wayIn
  rw [pu_t1 c hc j hj]
  exact h
theorem xa_way (a : Int32) (h : pu_ret (pu_way a) post) : wpX_isWay post a := by
  unfold wpX_isWay
  refine nm_e (nm_e (nm_e (br_c (fun z => h.2 fun y => ?_) fun z => br_c (fun z2 => h.2 fun y => ?_) fun z2 => br_c (fun z3 => h.2 fun y => ?_) fun z3 => h.1 ?_)))
  · exact Int32.not_le.mpr y.1 z
  · exact Int32.not_le.mpr z2 y.2.1
  · exact Int32.not_le.mpr z3 y.2.2
  · exact ⟨Int32.not_le.mp z, Int32.not_lt.mp z2, Int32.not_lt.mp z3⟩
theorem xa_col (a b : Int32) (h : pu_ret (pu_col a b) post) : wpX_collide post a b := by
  unfold wpX_collide
  refine nm_e (nm_e (nm_e (nm_e (br_c (fun z => br_c (fun z2 => h.2 fun y => ?_) fun z2 => br_c (fun z3 => h.2 fun y => ?_) fun z3 => h.1 ?_) fun z => h.2 fun y => z y.1))))
  · exact Int32.not_le.mpr y.2.1 z2
  · exact Int32.not_le.mpr y.2.2 z3
  · exact ⟨z, Int32.not_le.mp z2, Int32.not_le.mp z3⟩
theorem xa_has (hp : p < 256) (x : Int32) (h : pu_ret (pu_is p x) post) : wpX_hasJob post (nI p, w, g) x := by
  rcases pk_ix x (n := 8) (by decide) with h0 | h8 | ⟨j, hj, rfl⟩
  · exact br_t h0 (h.2 (pu_is_neg h0))
  · exact br_f (pu_8 h8).1 (br_t h8 (h.2 (pu_is_ge h8)))
  · refine br_f (nI_pos (by omega)) (br_f (nI_ge (b := 8) hj (by decide)) ?_)
    by_cases z : p.testBit j = true
    · exact br_f (fun y => pu_tf z ((pu_t2 p hp j hj).mp y)) (h.1 ((pu_is_n hj).mpr z))
    · exact br_t ((pu_t2 p hp j hj).mpr (pu_nt z)) (h.2 (fun y => z ((pu_is_n hj).mp y)))
theorem xa_hasN (hp : p < 256) {j : Nat} (hj : j < 8) (h : pu_ret (p.testBit j = true) post) : wpX_hasJob post (nI p, w, g) (nI j) :=
  xa_has hp _ ⟨fun q => h.1 ((pu_is_n hj).mp q), fun q => h.2 (fun y => q ((pu_is_n hj).mpr y))⟩
theorem xa_hasWay (hp : p < 256) (x k : Int32) (h : pu_ret (pu_is p x ∧ (k = 0 ∨ k = 1)) post) : wpX_hasWay post (nI p, w, g) x k := by
  unfold wpX_hasWay
  dsimp only
  refine xa_has hp x ⟨fun q => br_f pu_10 ?_, fun q => br_t rfl (h.2 fun y => q y.1)⟩
  refine br_c (fun z => h.1 ⟨q, Or.inl z⟩) fun z => br_c (fun z2 => h.1 ⟨q, Or.inr z2⟩) fun z2 => h.2 fun y => ?_
  rcases y.2 with y | y
  · exact z y
  · exact z2 y
theorem xa_below_l {c m : Nat} {a : Int32} (hp : p < 256) (hc : c < 256) (hm : m ≤ 8) (h : pu_ret (pu_hit p w c a m) post) : ∀ n j, j ≤ m → m - j < n → ¬ pu_hit p w c a j → wX_collidesBelow_3 post (nI c) (nI m) a (nI p) w g n (nI j) := by
  intro n
  induction n with
  | zero => intro j h1 h2; omega
  | succ n ih =>
    intro j hj hn hb
    have stp : ¬ pu_hit p w c a (j + 1) → j < m → wX_collidesBelow_3 post (nI c) (nI m) a (nI p) w g n (nI j + 1) := fun q z => by
      rw [nI_1 j]; exact ih (j + 1) (by omega) (by omega) q
    refine pk_le m j (fun z => h.2 ?_) (fun z => pk_le 8 j (fun z2 => absurd z2 (by omega)) (fun z2 => ?_))
    · have e : j = m := by omega
      rw [← e]; exact hb
    · refine xa_wi hc (by omega) ?_
      have b2 := pu_b2 c j
      refine ⟨pk_in (2 * j + pu_b c j) 16 (by omega) pu_ix, nm_r (congrArg w (pk_cl (2 * j + pu_b c j) pu_ix (by omega))) ?_⟩
      refine xa_hasN hp (by omega) ⟨fun q => br_f pu_10 ?_, fun q => br_t rfl (nm_e (stp (pu_hit_s hb (fun y => absurd y q)) z))⟩
      exact xa_col _ _ ⟨fun y => br_f pu_10 (h.1 ⟨j, z, q, y⟩), fun y => br_t rfl (nm_e (stp (pu_hit_s hb (fun _ => y)) z))⟩
theorem xa_below {c m : Nat} {a : Int32} (hp : p < 256) (hc : c < 256) (hm : m ≤ 8) (h : pu_ret (pu_hit p w c a m) post) : wpX_collidesBelow post (nI p, w, g) (nI c) (nI m) a :=
  ⟨m + 1, xa_below_l hp hc hm h (m + 1) 0 (by omega) (by omega) pu_hit_0⟩
theorem xa_may {c j : Nat} (hp : p < 256) (hj : j < 8) (h : pu_ret (pu_may p g c j) post) : wpX_mayChoose post (nI p, w, g) (nI j) (nI (pu_b c j)) := by
  unfold wpX_mayChoose
  dsimp only
  refine xa_hasN hp hj ⟨fun q => br_f pu_10 ⟨vp_in_nI hj (by decide), ?_⟩, fun q => br_t rfl ?_⟩
  · rw [nI_clamp (by omega)]
    refine br_c (fun z => h.1 ⟨fun _ => Or.inl z, fun y => absurd q (pu_ft y)⟩) fun z => ⟨vp_in_nI hj (by decide), br_c (fun z2 => h.1 ⟨fun _ => Or.inr z2, fun y => absurd q (pu_ft y)⟩) fun z2 => h.2 fun y => ?_⟩
    rcases y.1 q with y | y
    · exact z y
    · exact z2 y
  · refine br_c (fun z => h.1 ⟨fun y => absurd y q, fun _ => ?_⟩) fun z => h.2 fun y => z ?_
    · exact (pu_bI c j 0 (by omega)).mp z
    · rw [y.2 (pu_nt q)]; rfl
theorem xa_plan_l {c : Nat} (hp : p < 256) (hc : c < 256) (h : pu_ret (pu_plan p w g c) post) : ∀ n j, j ≤ 8 → 8 - j < n → (∀ i, i < j → pu_may p g c i ∧ pu_free p w c i) → wX_isPlan_2 post (nI c) (nI p) w g n (nI j) := by
  intro n
  induction n with
  | zero => intro j h1 h2; omega
  | succ n ih =>
    intro j hj hn hb
    refine pk_le 8 j (fun z => h.1 (fun i hi => hb i (by omega))) (fun z => xa_wi hc z ?_)
    refine xa_may hp z ⟨fun q => br_f pu_10 ?_, fun q => br_t rfl (h.2 fun y => q (y j z).1)⟩
    have stp : pu_free p w c j → wX_isPlan_2 post (nI c) (nI p) w g n (nI j + 1) := fun q2 => by
      rw [nI_1 j]
      refine ih (j + 1) (by omega) (by omega) (fun i hi => ?_)
      rcases Nat.lt_or_ge i j with y | y
      · exact hb i y
      · have e : i = j := by omega
        subst e
        exact ⟨q, q2⟩
    have b2 := pu_b2 c j
    refine xa_hasN hp z ⟨fun t => br_f pu_10 ⟨pk_in (2 * j + pu_b c j) 16 (by omega) pu_ix, ?_⟩, fun t => br_t rfl (nm_e (stp fun y => absurd y t))⟩
    rw [pk_cl (2 * j + pu_b c j) pu_ix (by omega)]
    refine xa_below hp hc (by omega) ⟨fun s => br_f pu_10 (h.2 fun y => ?_), fun s => br_t rfl (nm_e (stp ?_))⟩
    · obtain ⟨i, hi, hi2, hi3⟩ := s
      exact (y j z).2 t i hi hi2 hi3
    · intro _ i hi hi2 hi3
      exact s ⟨i, hi, hi2, hi3⟩
theorem xa_plan {c : Nat} (hp : p < 256) (hc : c < 256) (h : pu_ret (pu_plan p w g c) post) : wpX_isPlan post (nI p, w, g) (nI c) :=
  ⟨9, xa_plan_l hp hc h 9 0 (by omega) (by omega) (fun i hi => absurd hi (Nat.not_lt_zero i))⟩
theorem xa_first_l (hp : p < 256) (h : ∀ r, pu_fst (pu_plan p w g) r → post r) : ∀ n c, c ≤ 256 → 256 - c < n → (∀ d, d < c → ¬ pu_plan p w g d) → wX_firstPlan_2 post (nI p) w g n (nI c) := by
  intro n
  induction n with
  | zero => intro j h1 h2; omega
  | succ n ih =>
    intro c hc hn hb
    refine pk_le 256 c (fun z => h _ (Or.inr ⟨fun d hd => hb d (by omega), rfl⟩)) (fun z => xa_plan hp z ⟨fun q => br_f pu_10 (h _ (Or.inl ⟨c, z, q, hb, rfl⟩)), fun q => br_t rfl (nm_r (nI_1 c) (ih (c + 1) (by omega) (by omega) (fun d hd => ?_)))⟩)
    rcases Nat.lt_or_ge d c with y | y
    · exact hb d y
    · have e : d = c := by omega
      subst e
      exact q
theorem xa_first (hp : p < 256) (h : ∀ r, pu_fst (pu_plan p w g) r → post r) : wpX_firstPlan post (nI p, w, g) :=
  ⟨257, xa_first_l hp h 257 0 (by omega) (by omega) (fun i hi => absurd hi (Nat.not_lt_zero i))⟩
theorem xa_opn_l {f : Nat} (hp : p < 256) (hf : f < 256) (h : ∀ o, pu_opn (pu_plan p w g) f o → post (nI o)) : ∀ n c o, c ≤ 256 → 256 - c < n → o < 256 → (∀ i, i < 8 → (o.testBit i = true ↔ ∃ d, d < c ∧ pu_plan p w g d ∧ (d ^^^ f).testBit i = true)) → wX_openJobs_4 post (nI f) (nI p) w g n (nI o) (nI c) := by
  intro n
  induction n with
  | zero => intro j o h1 h2; omega
  | succ n ih =>
    intro c o hc hn ho hb
    refine pk_le 256 c (fun z => h o ⟨ho, ?_⟩) (fun z => xa_plan hp z ⟨fun q => br_f pu_10 ?_, fun q => br_t rfl (nm_r (nI_1 c) (ih (c + 1) o (by omega) (by omega) ho (fun i hi => ?_)))⟩)
    · have e : c = 256 := by omega
      rw [← e]; exact hb
    · refine nm_r (e' := nI (o ||| (c ^^^ f))) (by rw [nx_xor, pu_or]) (nm_r (nI_1 c) (ih (c + 1) _ (by omega) (by omega) (Nat.or_lt_two_pow (n := 8) ho (Nat.xor_lt_two_pow (n := 8) z hf)) (fun i hi => ?_)))
      rw [Nat.testBit_or, Bool.or_eq_true, hb i hi]
      constructor
      · rintro (⟨d, hd, y⟩ | y)
        · exact ⟨d, by omega, y⟩
        · exact ⟨c, by omega, q, y⟩
      · rintro ⟨d, hd, y1, y2⟩
        rcases Nat.lt_or_ge d c with y | y
        · exact Or.inl ⟨d, y, y1, y2⟩
        · have e : d = c := by omega
          subst e
          exact Or.inr y2
    · rw [hb i hi]
      constructor
      · rintro ⟨d, hd, y⟩
        exact ⟨d, by omega, y⟩
      · rintro ⟨d, hd, y1, y2⟩
        rcases Nat.lt_or_ge d c with y | y
        · exact ⟨d, y, y1, y2⟩
        · have e : d = c := by omega
          subst e
          exact absurd y1 q
theorem xa_opn {f : Nat} (hp : p < 256) (hf : f < 256) (h : ∀ o, pu_opn (pu_plan p w g) f o → post (nI o)) : wpX_openJobs post (nI p, w, g) (nI f) := by
  refine ⟨257, xa_opn_l hp hf h 257 0 0 (by omega) (by omega) (by omega) (fun i hi => ?_)⟩
  rw [Nat.zero_testBit]
  exact ⟨(fun y => absurd y (by decide)), fun ⟨d, hd, _⟩ => absurd hd (Nat.not_lt_zero d)⟩
theorem xa_some_l {a : Int32} (hp : p < 256) (h : pu_ret (pu_some p w g a 256) post) : ∀ n c, c ≤ 256 → 256 - c < n → ¬ pu_some p w g a c → wX_somePlanAvoids_2 post a (nI p) w g n (nI c) := by
  intro n
  induction n with
  | zero => intro j h1 h2; omega
  | succ n ih =>
    intro c hc hn hb
    refine pk_le 256 c (fun z => h.2 ?_) (fun z => xa_below (m := 8) hp z (by omega) ⟨fun q => br_f pu_10 (nm_r (nI_1 c) (ih (c + 1) (by omega) (by omega) (pu_some_s hb fun _ => q))), fun q => br_t rfl (xa_plan hp z ⟨fun q2 => br_f pu_10 (h.1 ⟨c, z, q2, q⟩), fun q2 => br_t rfl (nm_r (nI_1 c) (ih (c + 1) (by omega) (by omega) (pu_some_s hb fun y => absurd y q2)))⟩)⟩)
    have e : c = 256 := by omega
    rw [← e]; exact hb
theorem xa_some {a : Int32} (hp : p < 256) (h : pu_ret (pu_some p w g a 256) post) : wpX_somePlanAvoids post (nI p, w, g) a :=
  ⟨257, xa_some_l hp h 257 0 (by omega) (by omega) (fun ⟨i, hi, _⟩ => absurd hi (Nat.not_lt_zero i))⟩
theorem xa_im_l {j k i m : Nat} (hp : p < 256) (hj : j < 8) (hk : k < 2) (hi : i < 8) (hm : m < 2) (h : pu_ret (pu_im p w g j k i m 256) post) : ∀ n c, c ≤ 256 → 256 - c < n → pu_im p w g j k i m c → wX_implies_24 post (nI j) (nI k) (nI i) (nI m) (nI p) w g n (nI c) := by
  intro n
  induction n with
  | zero => intro j h1 h2; omega
  | succ n ih =>
    intro c hc hn hb
    refine pk_le 256 c (fun z => h.1 ?_) (fun z => xa_wi z hj (br_c (fun z1 => xa_wi z hi (br_c (fun z2 => nm_r (nI_1 c) (ih (c + 1) (by omega) (by omega) (pu_im_s hb ?_))) (fun z2 => xa_plan hp z ⟨fun q => br_f pu_10 (h.2 fun y => ?_), fun q => br_t rfl (nm_r (nI_1 c) (ih (c + 1) (by omega) (by omega) (pu_im_s hb ?_)))⟩))) (fun z1 => nm_r (nI_1 c) (ih (c + 1) (by omega) (by omega) (pu_im_s hb ?_)))))
    · have e : c = 256 := by omega
      rw [← e]; exact hb
    · exact fun _ _ => (pu_bI c i m hm).mp z2
    · exact z2 ((pu_bI c i m hm).mpr (y c z q ((pu_bI c j k hk).mp z1)))
    · exact fun y => absurd y q
    · exact fun _ y => absurd ((pu_bI c j k hk).mpr y) z1
theorem xa_im {x y z t : Int32} (hp : p < 256) (h : pu_ret (pu_imr p w g x y z t) post) : wpX_implies post (nI p, w, g) x y z t := by
  unfold wpX_implies
  dsimp only
  refine xa_hasWay hp x y ⟨fun q => br_f pu_10 ?_, fun q => br_t rfl (h.2 fun s => q (pu_imr_g s).1)⟩
  refine xa_hasWay hp z t ⟨fun q2 => br_f pu_10 ?_, fun q2 => br_t rfl (h.2 fun s => q2 (pu_imr_g s).2)⟩
  obtain ⟨⟨j, hj, rfl, tj⟩, k01⟩ := q
  obtain ⟨⟨i, hi, rfl, ti⟩, m01⟩ := q2
  obtain ⟨k, hk, rfl⟩ := pu_01 k01
  obtain ⟨m, hm, rfl⟩ := pu_01 m01
  exact ⟨257, xa_im_l hp hj hk hi hm ⟨fun s => h.1 ((pu_imr_n hj hk hi hm tj ti).mpr s), fun s => h.2 fun r => s ((pu_imr_n hj hk hi hm tj ti).mp r)⟩ 257 0 (by omega) (by omega) (fun d hd => absurd hd (Nat.not_lt_zero d))⟩
theorem xa_forced (hD : pu_D p w g) (x : Int32) (h1 : ∀ j, j < 8 → x = nI j → p.testBit j = true → ∀ r, pu_fd (pu_plan p w g) j r → post r) (h0 : ¬ pu_is p x → post (-1)) : wpX_forced post (nI p, w, g) x := by
  unfold wpX_forced
  dsimp only
  refine xa_has hD.1 x ⟨fun q => br_f pu_10 ?_, fun q => br_t rfl (h0 q)⟩
  obtain ⟨j, hj, rfl, tj⟩ := q
  refine xa_first hD.1 fun r hr => ?_
  obtain ⟨f, hf, hP, rfl⟩ := pu_fst_e hr hD.2.2
  refine xa_opn hD.1 hf fun o ho => ?_
  unfold wpX_bitOf
  have e := pu_opn_fd ho hj hf hP
  refine br_c (fun z => xa_wi hf hj (h1 j hj rfl tj _ (e.1 ((pu_t7 o ho.1 j hj).mp z)))) (fun z => h1 j hj rfl tj _ (e.2 fun y => z ((pu_t7 o ho.1 j hj).mpr y)))
theorem xa_planned (hD : pu_D p w g) (x : Int32) (h1 : ∀ j, j < 8 → x = nI j → p.testBit j = true → ∀ f, f < 256 → pu_fst (pu_plan p w g) (nI f) → post (nI (pu_b f j))) (h0 : ¬ pu_is p x → post (-1)) : wpX_planned post (nI p, w, g) x := by
  unfold wpX_planned
  dsimp only
  refine xa_has hD.1 x ⟨fun q => br_f pu_10 ?_, fun q => br_t rfl (h0 q)⟩
  obtain ⟨j, hj, rfl, tj⟩ := q
  refine xa_first hD.1 fun r hr => ?_
  obtain ⟨f, hf, hP, rfl⟩ := pu_fst_e hr hD.2.2
  exact xa_wi hf hj (h1 j hj rfl tj f hf hr)
theorem xa_fjobs_l {f o : Nat} (hp : p < 256) (hf : f < 256) (hP : pu_plan p w g f) (ho : pu_opn (pu_plan p w g) f o) (h : post (nI (pu_cnt (fun j => p.testBit j = true ∧ ∃ v, v < 2 ∧ pu_all (pu_plan p w g) j v) 8))) : ∀ n j, j ≤ 8 → 8 - j < n → wX_forcedJobs_16 post (nI o) (nI p) w g n (nI (pu_cnt (fun j => p.testBit j = true ∧ ∃ v, v < 2 ∧ pu_all (pu_plan p w g) j v) j)) (nI j) := by
  intro n
  induction n with
  | zero => intro j h1 h2; omega
  | succ n ih =>
    intro j hj hn
    have e1 : ¬ (p.testBit j = true ∧ ∃ v, v < 2 ∧ pu_all (pu_plan p w g) j v) → j < 8 → wX_forcedJobs_16 post (nI o) (nI p) w g n (nI (pu_cnt (fun j => p.testBit j = true ∧ ∃ v, v < 2 ∧ pu_all (pu_plan p w g) j v) j)) (nI j + 1) := by
      intro q z
      have := ih (j + 1) (by omega) (by omega)
      rw [pu_cnt_f q] at this
      rw [nI_1 j]; exact this
    refine pk_le 8 j (fun z => ?_) (fun z => xa_hasN hp z ⟨fun q => br_f pu_10 ?_, fun q => br_t rfl (nm_e (e1 (fun y => q y.1) z))⟩)
    · have e : j = 8 := by omega
      rw [e]; exact h
    · unfold wpX_bitOf
      refine br_c (fun y => ?_) (fun y => nm_e (e1 ?_ z))
      · refine nm_r (nI_1 _) (nm_r (nI_1 j) ?_)
        have := ih (j + 1) (by omega) (by omega)
        rw [pu_cnt_t (n := j) ⟨q, _, pu_b2 f j, (pu_opn_f ho z hf hP).mp ((pu_t7 o ho.1 j z).mp y)⟩] at this
        exact this
      · rintro ⟨-, v, hv, s⟩
        refine y ((pu_t7 o ho.1 j z).mpr ((pu_opn_f ho z hf hP).mpr ?_))
        rw [s f hf hP]; exact s
theorem xa_fjobs (hD : pu_D p w g) (h : post (nI (pu_cnt (fun j => p.testBit j = true ∧ ∃ v, v < 2 ∧ pu_all (pu_plan p w g) j v) 8))) : wpX_forcedJobs post (nI p, w, g) := by
  unfold wpX_forcedJobs
  dsimp only
  refine xa_first hD.1 fun r hr => ?_
  obtain ⟨f, hf, hP, rfl⟩ := pu_fst_e hr hD.2.2
  refine xa_opn hD.1 hf fun o ho => ?_
  exact ⟨9, xa_fjobs_l hD.1 hf hP ho h 9 0 (by omega) (by omega)⟩
theorem xa_flips_l {f : Nat} (hp : p < 256) (hf : f < 256) (h : post (nI (pu_cnt (fun j => pu_plan p w g (f ^^^ 2 ^ (7 - j))) 8))) : ∀ n j, j ≤ 8 → 8 - j < n → wX_flips_9 post (nI f) (nI p) w g n (nI (pu_cnt (fun j => pu_plan p w g (f ^^^ 2 ^ (7 - j))) j)) (nI j) := by
  intro n
  induction n with
  | zero => intro j h1 h2; omega
  | succ n ih =>
    intro j hj hn
    refine pk_le 8 j (fun z => ?_) (fun z => ?_)
    · have e : j = 8 := by omega
      rw [e]; exact h
    · unfold wpX_bitOf
      refine nm_r (pu_t8 f hf j z) ?_
      have := ih (j + 1) (by omega) (by omega)
      refine xa_plan hp (pu_flip_lt hf (by omega)) ⟨fun q => br_f pu_10 (nm_r (nI_1 _) (nm_r (nI_1 j) ?_)), fun q => br_t rfl (nm_r (nI_1 j) ?_)⟩
      · rw [pu_cnt_t (n := j) q] at this; exact this
      · rw [pu_cnt_f (n := j) q] at this; exact this
theorem xa_flips (hD : pu_D p w g) (h : ∀ f, f < 256 → pu_plan p w g f → pu_fst (pu_plan p w g) (nI f) → post (nI (pu_cnt (fun j => pu_plan p w g (f ^^^ 2 ^ (7 - j))) 8))) : wpX_flips post (nI p, w, g) := by
  unfold wpX_flips
  dsimp only
  refine xa_first hD.1 fun r hr => ?_
  obtain ⟨f, hf, hP, rfl⟩ := pu_fst_e hr hD.2.2
  exact ⟨9, xa_flips_l hD.1 hf (h f hf hP hr) 9 0 (by omega) (by omega)⟩
end
end
section
section
variable {p : Nat} {w g q : Nat → Int32} {post : Int32 → Prop}
theorem ya_way (a : Int32) (h : pu_ret (pu_way a) post) : wpY_isWay post (pu_T p, w, g, q) a := by
  unfold wpY_isWay
  dsimp only
  refine nm_e (nm_e (br_c (fun z => h.2 fun y => ?_) fun z => br_c (fun z2 => h.2 fun y => ?_) fun z2 => br_c (fun z3 => h.2 fun y => ?_) fun z3 => br_c (fun z4 => h.2 fun y => ?_) fun z4 => br_c (fun z5 => h.2 fun y => ?_) fun z5 => br_c (fun z6 => h.2 fun y => ?_) fun z6 => h.1 ?_))
  · exact Int32.not_le.mpr z (pu_wayY.mp y).1
  · exact Int32.not_le.mpr z2 (pu_wayY.mp y).2.1
  · exact Int32.not_le.mpr z3 (pu_wayY.mp y).2.2.1
  · exact Int32.not_le.mpr z4 (pu_wayY.mp y).2.2.2.1
  · exact Int32.not_le.mpr z5 (pu_wayY.mp y).2.2.2.2.1
  · exact Int32.not_le.mpr z6 (pu_wayY.mp y).2.2.2.2.2
  · exact pu_wayY.mpr ⟨Int32.not_lt.mp z, Int32.not_lt.mp z2, Int32.not_lt.mp z3, Int32.not_lt.mp z4, Int32.not_lt.mp z5, Int32.not_lt.mp z6⟩
theorem ya_col (a b : Int32) (h : pu_ret (pu_col a b) post) : wpY_collide post (pu_T p, w, g, q) a b := by
  unfold wpY_collide
  dsimp only
  refine nm_e (nm_e (br_c (fun z => br_c (fun z2 => h.2 fun y => ?_) fun z2 => br_c (fun z3 => h.2 fun y => ?_) fun z3 => h.1 ?_) fun z => h.2 fun y => z y.1))
  · exact Int32.not_le.mpr y.2.1 z2
  · exact Int32.not_le.mpr y.2.2 z3
  · exact ⟨z, Int32.not_le.mp z2, Int32.not_le.mp z3⟩
theorem ya_is (x : Int32) (h : pu_ret (pu_is p x) post) : wpY_is post (pu_T p, w, g, q) x := by
  rcases pk_ix x (n := 8) (by decide) with h0 | h8 | ⟨j, hj, rfl⟩
  · exact br_t h0 (h.2 (pu_is_neg h0))
  · exact br_f (pu_8 h8).1 (br_t h8 (h.2 (pu_is_ge h8)))
  · refine br_f (nI_pos (by omega)) (br_f (nI_ge (b := 8) hj (by decide)) ⟨vp_in_nI hj (by decide), ?_⟩)
    rw [nI_clamp (by omega)]
    by_cases z : p.testBit j = true
    · exact br_f (fun y => pu_tf z (pu_Tz.mp y)) (h.1 ((pu_is_n hj).mpr z))
    · exact br_t (pu_T0 (pu_nt z)) (h.2 (fun y => z ((pu_is_n hj).mp y)))
theorem ya_ap_in {c j : Nat} {Q : Prop} {J4 : Int32 → Int32 → Prop} (hj : j < 8) (hq : ∀ i, i < 8 → q i = nI (pu_b c i)) (hJ : ∀ r, pu_bv (Q ∧ pu_free p w c j) r → J4 r (nI (j + 1))) : ∀ n i r, i ≤ j → j - i < n → pu_bv (Q ∧ pu_fr p w c j i) r → wY_apart_12 post J4 (nI j) (pu_T p) w g q n r (nI i) := by
  intro n
  induction n with
  | zero => intro i r h1 h2; omega
  | succ n ih =>
    intro i r hi hn hr
    refine pk_le j i (fun z => nm_r (nI_1 j) (hJ r ?_)) (fun z => ?_)
    · have e : i = j := by omega
      subst e
      exact hr
    · have nx : ∀ r', pu_bv (Q ∧ pu_fr p w c j (i + 1)) r' → wY_apart_12 post J4 (nI j) (pu_T p) w g q n r' (nI i + 1) := fun r' h' => by
        rw [nI_1 i]; exact ih (i + 1) r' (by omega) (by omega) h'
      have b2 := pu_b2 c j
      have b3 := pu_b2 c i
      rcases hr with ⟨hr, rfl⟩ | ⟨hr, rfl⟩
      · refine br_f pu_10 ⟨vp_in_nI hj (by decide), ?_⟩
        rw [nI_clamp (n := j) (by omega), nI_clamp (n := i) (by omega), hq j hj, hq i (by omega), pk_cl (2 * j + pu_b c j) pu_ix (by omega), pk_cl (2 * i + pu_b c i) pu_ix (by omega)]
        refine br_c (fun t => nm_e (nx 1 (pu_bv1 ⟨hr.1, fun y => absurd y (pu_ft (pu_Tz.mp t))⟩))) (fun t => ⟨vp_in_nI (n := i) (by omega) (by decide), br_c (fun t2 => nm_e (nx 1 ?_)) (fun t2 => ⟨vp_in_nI hj (by decide), pk_in (2 * j + pu_b c j) 16 (by omega) pu_ix, vp_in_nI (n := i) (by omega) (by decide), pk_in (2 * i + pu_b c i) 16 (by omega) pu_ix, ya_col _ _ ⟨fun s => br_f pu_10 (nm_e (nx 0 ?_)), fun s => br_t rfl (nm_e (nx 1 ?_))⟩⟩)⟩)
        · exact pu_bv1 ⟨hr.1, pu_fr_s hr.2 fun y => absurd y (pu_ft (pu_Tz.mp t2))⟩
        · exact pu_bv0 fun y => y.2 (pu_nf fun v => t (pu_Tz.mpr v)) i (by omega) (pu_nf fun v => t2 (pu_Tz.mpr v)) s
        · exact pu_bv1 ⟨hr.1, pu_fr_s hr.2 fun _ => s⟩
      · exact br_t rfl (nm_e (nx 0 (pu_bv0 fun y => hr ⟨y.1, fun a l hl => y.2 a l (by omega)⟩)))
theorem ya_ap_out {c : Nat} (hq : ∀ i, i < 8 → q i = nI (pu_b c i)) (h : pu_ret (∀ j, j < 8 → pu_free p w c j) post) : ∀ n j r, j ≤ 8 → 8 - j < n → pu_bv (∀ i, i < j → pu_free p w c i) r → wY_apart_4 post (pu_T p) w g q n r (nI j) := by
  intro n
  induction n with
  | zero => intro j r h1 h2; omega
  | succ n ih =>
    intro j r hj hn hr
    refine pk_le 8 j (fun z => ⟨pu_bv_n hr, ?_⟩) (fun z => ⟨j + 1, ya_ap_in (Q := ∀ i, i < j → pu_free p w c i) z hq (fun r' hr' => ih (j + 1) r' (by omega) (by omega) (pu_bv_i ?_ hr')) (j + 1) 0 r (by omega) (by omega) (pu_bv_i ?_ hr)⟩)
    · have e : j = 8 := by omega
      subst e
      rcases hr with ⟨hr, rfl⟩ | ⟨hr, rfl⟩
      · exact h.1 hr
      · exact h.2 hr
    · constructor
      · intro y i hi
        rcases Nat.lt_or_ge i j with s | s
        · exact y.1 i s
        · have e : i = j := by omega
          subst e
          exact y.2
      · exact fun y => ⟨fun i hi => y i (by omega), y j (by omega)⟩
    · exact ⟨fun y => ⟨y, fun _ l hl => absurd hl (Nat.not_lt_zero l)⟩, fun y => y.1⟩
theorem ya_apart {c : Nat} (hq : ∀ i, i < 8 → q i = nI (pu_b c i)) (h : pu_ret (∀ j, j < 8 → pu_free p w c j) post) : wpY_apart post (pu_T p, w, g, q) :=
  ⟨9, ya_ap_out hq h 9 0 1 (by omega) (by omega) (pu_bv1 fun i hi => absurd hi (Nat.not_lt_zero i))⟩
theorem ya_hit_l {c : Nat} {a : Int32} (hq : ∀ i, i < 8 → q i = nI (pu_b c i)) (h : pu_ret (pu_hit p w c a 8) post) : ∀ n j r, j ≤ 8 → 8 - j < n → pu_bv (pu_hit p w c a j) r → wY_hit_4 post a (pu_T p) w g q n r (nI j) := by
  intro n
  induction n with
  | zero => intro j r h1 h2; omega
  | succ n ih =>
    intro j r hj hn hr
    have nx : ∀ r', j < 8 → pu_bv (pu_hit p w c a (j + 1)) r' → wY_hit_4 post a (pu_T p) w g q n r' (nI j + 1) := fun r' z h' => by
      rw [nI_1 j]; exact ih (j + 1) r' (by omega) (by omega) h'
    refine pk_le 8 j (fun z => ⟨pu_bv_n hr, ?_⟩) (fun z => ?_)
    · have e : j = 8 := by omega
      subst e
      rcases hr with ⟨hr, rfl⟩ | ⟨hr, rfl⟩
      · exact h.1 hr
      · exact h.2 hr
    · have b2 := pu_b2 c j
      rcases hr with ⟨hr, rfl⟩ | ⟨hr, rfl⟩
      · exact br_f pu_10 (nm_e (nx 1 z (pu_bv1 (pu_hit_m (by omega) hr))))
      · refine br_t rfl ⟨vp_in_nI z (by decide), ?_⟩
        rw [nI_clamp (n := j) (by omega), hq j z, pk_cl (2 * j + pu_b c j) pu_ix (by omega)]
        exact br_c (fun t => nm_e (nx 0 z (pu_bv0 (pu_hit_s hr fun y => absurd y (pu_ft (pu_Tz.mp t)))))) (fun t => ⟨vp_in_nI z (by decide), pk_in (2 * j + pu_b c j) 16 (by omega) pu_ix, ya_col _ _ ⟨fun s => br_f pu_10 (nm_e (nx 1 z (pu_bv1 ⟨j, by omega, pu_nf fun v => t (pu_Tz.mpr v), pu_cs.mp s⟩))), fun s => br_t rfl (nm_e (nx 0 z (pu_bv0 (pu_hit_s hr fun _ y => s (pu_cs.mp y)))))⟩⟩)
theorem ya_hit {c : Nat} {a : Int32} (hq : ∀ i, i < 8 → q i = nI (pu_b c i)) (h : pu_ret (pu_hit p w c a 8) post) : wpY_hit post (pu_T p, w, g, q) a :=
  ⟨9, ya_hit_l hq h 9 0 0 (by omega) (by omega) (pu_bv0 pu_hit_0)⟩
end
section
variable {p : Nat} {w g q : Nat → Int32} {post : Int32 → SY → Prop}
theorem ya_plan_l {c : Nat} (hc : c < 256) (hg : pu_G g) (h1 : pu_plan p w g c → ∀ q, (∀ i, i < 8 → q i = nI (pu_b c i)) → post 1 (pu_T p, w, g, q)) (h0 : ¬ pu_plan p w g c → ∀ q, post 0 (pu_T p, w, g, q)) : ∀ n j q, j ≤ 8 → 8 - j < n → (∀ i, i < j → pu_may p g c i ∧ q i = nI (pu_b c i)) → wY_plan_2 post (nI c) n (nI j) (pu_T p) w g q := by
  intro n
  induction n with
  | zero => intro j q h1 h2; omega
  | succ n ih =>
    intro j q hj hn hb
    refine pk_le 8 j (fun z => ya_apart (c := c) (fun i hi => (hb i (by omega)).2) ⟨fun y => ⟨rfl, h1 (fun i hi => ⟨(hb i (by omega)).1, y i hi⟩) q (fun i hi => (hb i (by omega)).2)⟩, fun y => ⟨rfl, h0 (fun s => y fun i hi => (s i hi).2) q⟩⟩) (fun z => ⟨vp_in_nI z (by decide), nm_r (e' := upd q j (nI (pu_b c j))) ?_ ⟨vp_in_nI z (by decide), ?_⟩⟩)
    · rw [nI_clamp (n := j) (by omega), pu_t1 c hc j z]
    · have nx : pu_may p g c j → wY_plan_2 post (nI c) n (nI j + 1) (pu_T p) w g (upd q j (nI (pu_b c j))) := fun y => by
        rw [nI_1 j]
        refine ih (j + 1) _ (by omega) (by omega) (fun i hi => ?_)
        rcases Nat.lt_or_ge i j with s | s
        · rw [pk_un (by omega)]; exact hb i s
        · have e : i = j := by omega
          subst e
          rw [pk_us]; exact ⟨y, rfl⟩
      have k41 : (p.testBit j = false → pu_b c j = 0) → wY_plan_41 post (wY_plan_2 post (nI c) n) (nI c) (nI j) (pu_T p) w g (upd q j (nI (pu_b c j))) := by
        intro hz
        unfold wY_plan_41
        rw [nI_clamp (n := j) (by omega), pk_us]
        refine ⟨vp_in_nI z (by decide), br_c (fun t => nm_e (nx ⟨fun y => absurd y (pu_ft (pu_Tz.mp t)), hz⟩)) (fun t => ⟨vp_in_nI z (by decide), br_c (fun s => nm_e (nx ⟨fun _ => Or.inl ?_, hz⟩)) (fun s => ⟨vp_in_nI z (by decide), vp_in_nI z (by decide), br_c (fun v => nm_e (nx ⟨fun _ => Or.inr v, hz⟩)) (fun v => h0 (fun y => ?_) _)⟩)⟩)⟩
        · rcases hg j z with e | e | e
          · exact e
          · rw [e] at s; exact absurd s (by decide)
          · rw [e] at s; exact absurd s (by decide)
        · rcases (y j z).1.1 (pu_nf fun v => t (pu_Tz.mpr v)) with e | e
          · rw [e] at s; exact s (by decide)
          · exact v e
      rw [nI_clamp (n := j) (by omega), pk_us]
      refine br_c (fun t => ⟨vp_in_nI z (by decide), br_c (fun s => h0 (fun y => ?_) _) (fun s => k41 (fun _ => ?_))⟩) (fun t => k41 (fun y => absurd (pu_Tz.mpr y) t))
      · rw [(y j z).1.2 (pu_Tz.mp t)] at s
        exact absurd s (by decide)
      · rcases pu_bt c j with e | e
        · exact e.1
        · exact absurd (by rw [e.1]; rfl) s
theorem ya_plan {c : Nat} (hc : c < 256) (hg : pu_G g) (h1 : pu_plan p w g c → ∀ q, (∀ i, i < 8 → q i = nI (pu_b c i)) → post 1 (pu_T p, w, g, q)) (h0 : ¬ pu_plan p w g c → ∀ q, post 0 (pu_T p, w, g, q)) : wpY_plan post (pu_T p, w, g, q) (nI c) :=
  ⟨9, ya_plan_l hc hg h1 h0 9 0 q (by omega) (by omega) (fun i hi => absurd hi (Nat.not_lt_zero i))⟩
theorem ya_first_l (hg : pu_G g) (h : ∀ r q, pu_fst (pu_plan p w g) r → post r (pu_T p, w, g, q)) : ∀ n c q, c ≤ 256 → 256 - c < n → (∀ d, d < c → ¬ pu_plan p w g d) → wY_first_2 post n (nI c) (pu_T p) w g q := by
  intro n
  induction n with
  | zero => intro j q h1 h2; omega
  | succ n ih =>
    intro c q hc hn hb
    refine pk_le 256 c (fun z => h _ _ (Or.inr ⟨fun d hd => hb d (by omega), rfl⟩)) (fun z => ya_plan z hg (fun s q' _ => br_f pu_10 (h _ _ (Or.inl ⟨c, z, s, hb, rfl⟩))) (fun s q' => br_t rfl (nm_r (nI_1 c) (ih (c + 1) q' (by omega) (by omega) (fun d hd => ?_)))))
    rcases Nat.lt_or_ge d c with y | y
    · exact hb d y
    · have e : d = c := by omega
      subst e
      exact s
theorem ya_first (hg : pu_G g) (h : ∀ r q, pu_fst (pu_plan p w g) r → post r (pu_T p, w, g, q)) : wpY_first post (pu_T p, w, g, q) :=
  ⟨257, ya_first_l hg h 257 0 q (by omega) (by omega) (fun i hi => absurd hi (Nat.not_lt_zero i))⟩
theorem ya_some_l {a : Int32} (hg : pu_G g) (h1 : pu_some p w g a 256 → ∀ q, post 1 (pu_T p, w, g, q)) (h0 : ¬ pu_some p w g a 256 → ∀ q, post 0 (pu_T p, w, g, q)) : ∀ n c r q, c ≤ 256 → 256 - c < n → pu_bv (pu_some p w g a c) r → wY_avoids_4 post a n r (nI c) (pu_T p) w g q := by
  intro n
  induction n with
  | zero => intro j r q h1 h2; omega
  | succ n ih =>
    intro c r q hc hn hr
    have nx : ∀ r' q', c < 256 → pu_bv (pu_some p w g a (c + 1)) r' → wY_avoids_4 post a n r' (nI c + 1) (pu_T p) w g q' := fun r' q' z h' => by
      rw [nI_1 c]; exact ih (c + 1) r' q' (by omega) (by omega) h'
    have up : pu_some p w g a c → pu_some p w g a (c + 1) := fun ⟨d, hd, y⟩ => ⟨d, by omega, y⟩
    refine pk_le 256 c (fun z => ⟨pu_bv_n hr, ?_⟩) (fun z => ya_plan z hg (fun s q' hq' => br_f pu_10 ?_) (fun s q' => br_t rfl (nm_e (nx r q' z (pu_bv_i ⟨up, fun y => Classical.byContradiction fun v => pu_some_s v (fun t => absurd t s) y⟩ hr)))))
    · have e : c = 256 := by omega
      subst e
      rcases hr with ⟨hr, rfl⟩ | ⟨hr, rfl⟩
      · exact h1 hr q
      · exact h0 hr q
    · rcases hr with ⟨hr, rfl⟩ | ⟨hr, rfl⟩
      · exact br_f pu_10 (nm_e (nx 1 q' z (pu_bv1 (up hr))))
      · exact br_t rfl (ya_hit hq' ⟨fun t => br_f pu_10 (nm_e (nx 0 q' z (pu_bv0 (pu_some_s hr fun _ => t)))), fun t => br_t rfl (nm_e (nx 1 q' z (pu_bv1 ⟨c, by omega, s, t⟩)))⟩)
theorem ya_some {a : Int32} (hg : pu_G g) (h1 : pu_some p w g a 256 → ∀ q, post 1 (pu_T p, w, g, q)) (h0 : ¬ pu_some p w g a 256 → ∀ q, post 0 (pu_T p, w, g, q)) : wpY_avoids post (pu_T p, w, g, q) a :=
  ⟨257, ya_some_l hg h1 h0 257 0 0 q (by omega) (by omega) (pu_bv0 fun ⟨i, hi, _⟩ => absurd hi (Nat.not_lt_zero i))⟩
theorem ya_im_l {j k i m : Nat} (hj : j < 8) (hk : k < 2) (hi : i < 8) (hm : m < 2) (hg : pu_G g) (h1 : pu_im p w g j k i m 256 → ∀ q, post 1 (pu_T p, w, g, q)) (h0 : ¬ pu_im p w g j k i m 256 → ∀ q, post 0 (pu_T p, w, g, q)) : ∀ n c r q, c ≤ 256 → 256 - c < n → pu_bv (pu_im p w g j k i m c) r → wY_implies_44 post (nI j) (nI k) (nI i) (nI m) n r (nI c) (pu_T p) w g q := by
  intro n
  induction n with
  | zero => intro j r q h1 h2; omega
  | succ n ih =>
    intro c r q hc hn hr
    have nx : ∀ r' q', c < 256 → pu_bv (pu_im p w g j k i m (c + 1)) r' → wY_implies_44 post (nI j) (nI k) (nI i) (nI m) n r' (nI c + 1) (pu_T p) w g q' := fun r' q' z h' => by
      rw [nI_1 c]; exact ih (c + 1) r' q' (by omega) (by omega) h'
    refine pk_le 256 c (fun z => ⟨pu_bv_n hr, ?_⟩) (fun z => ya_plan z hg (fun s q' hq' => br_f pu_10 ?_) (fun s q' => br_t rfl (nm_e (nx r q' z (pu_bv_i ⟨fun y => pu_im_s y (fun t => absurd t s), fun y d hd => y d (by omega)⟩ hr)))))
    · have e : c = 256 := by omega
      subst e
      rcases hr with ⟨hr, rfl⟩ | ⟨hr, rfl⟩
      · exact h1 hr q
      · exact h0 hr q
    · rcases hr with ⟨hr, rfl⟩ | ⟨hr, rfl⟩
      · refine br_f pu_10 ⟨vp_in_nI hj (by decide), ?_⟩
        rw [nI_clamp (n := j) (by omega), hq' j hj]
        refine br_c (fun z1 => ⟨vp_in_nI hi (by decide), ?_⟩) (fun z1 => nm_e (nx 1 q' z (pu_bv1 (pu_im_s hr fun _ y => absurd ((pu_bI c j k hk).mpr y) z1))))
        rw [nI_clamp (n := i) (by omega), hq' i hi]
        exact br_c (fun z2 => nm_e (nx 1 q' z (pu_bv1 (pu_im_s hr fun _ _ => (pu_bI c i m hm).mp z2)))) (fun z2 => nm_e (nx 0 q' z (pu_bv0 fun y => z2 ((pu_bI c i m hm).mpr (y c (by omega) s ((pu_bI c j k hk).mp z1))))))
      · exact br_t rfl (nm_e (nx 0 q' z (pu_bv0 fun y => hr fun d hd => y d (by omega))))
theorem ya_im {x y z t : Int32} (hg : pu_G g) (h1 : pu_imr p w g x y z t → ∀ q, post 1 (pu_T p, w, g, q)) (h0 : ¬ pu_imr p w g x y z t → ∀ q, post 0 (pu_T p, w, g, q)) : wpY_implies post (pu_T p, w, g, q) x y z t := by
  unfold wpY_implies
  dsimp only
  refine ya_is x ⟨fun q1 => br_f pu_10 ?_, fun q1 => br_t rfl (h0 (fun s => q1 (pu_imr_g s).1.1) _)⟩
  refine ya_is z ⟨fun q2 => br_f pu_10 ?_, fun q2 => br_t rfl (h0 (fun s => q2 (pu_imr_g s).2.1) _)⟩
  have k25 : (y = 0 ∨ y = 1) → wY_implies_25 post x y z t (pu_T p) w g q := by
    intro hy
    have kl : (t = 0 ∨ t = 1) → ∃ n44, wY_implies_44 post x y z t n44 1 0 (pu_T p) w g q := by
      intro ht
      obtain ⟨j, hj, rfl, tj⟩ := q1
      obtain ⟨i, hi, rfl, ti⟩ := q2
      obtain ⟨k, hk, rfl⟩ := pu_01 hy
      obtain ⟨m, hm, rfl⟩ := pu_01 ht
      exact ⟨257, ya_im_l hj hk hi hm hg (fun s => h1 ((pu_imr_n hj hk hi hm tj ti).mpr s)) (fun s => h0 fun r => s ((pu_imr_n hj hk hi hm tj ti).mp r)) 257 0 1 q (by omega) (by omega) (pu_bv1 fun d hd => absurd hd (Nat.not_lt_zero d))⟩
    refine br_c (fun s => kl (Or.inl s)) (fun s => br_c (fun s2 => kl (Or.inr s2)) (fun s2 => h0 (fun r => ?_) _))
    rcases (pu_imr_g r).2.2 with v | v
    · exact s v
    · exact s2 v
  refine br_c (fun s => k25 (Or.inl s)) (fun s => br_c (fun s2 => k25 (Or.inr s2)) (fun s2 => h0 (fun r => ?_) _))
  rcases (pu_imr_g r).1.2 with v | v
  · exact s v
  · exact s2 v
theorem ya_forced (hg : pu_G g) (x : Int32) (h1 : ∀ j, j < 8 → x = nI j → p.testBit j = true → ∀ r q, pu_fd (pu_plan p w g) j r → post r (pu_T p, w, g, q)) (h0 : ¬ pu_is p x → ∀ q, post (-1) (pu_T p, w, g, q)) : wpY_forced post (pu_T p, w, g, q) x := by
  unfold wpY_forced
  dsimp only
  refine ya_is x ⟨fun q1 => br_f pu_10 ?_, fun q1 => br_t rfl (h0 q1 _)⟩
  obtain ⟨j, hj, rfl, tj⟩ := q1
  have e0 : pu_imr p w g (nI j) 1 (nI j) 0 ↔ pu_all (pu_plan p w g) j 0 := (pu_imr_n (k := 1) (m := 0) hj (by omega) hj (by omega) tj tj).trans pu_im_0
  have e1 : pu_imr p w g (nI j) 0 (nI j) 1 ↔ pu_all (pu_plan p w g) j 1 := (pu_imr_n (k := 0) (m := 1) hj (by omega) hj (by omega) tj tj).trans pu_im_1
  refine ya_im hg (fun s q1 => ?_) (fun s q1 => ?_)
  · refine ya_im hg (fun s2 q2 => ?_) (fun s2 q2 => ?_)
    · exact br_f pu_10 (h1 j hj rfl tj _ _ (Or.inl ⟨0, by omega, e0.mp s, rfl⟩))
    · exact br_f pu_10 (h1 j hj rfl tj _ _ (Or.inl ⟨0, by omega, e0.mp s, rfl⟩))
  · refine ya_im hg (fun s2 q2 => ?_) (fun s2 q2 => ?_)
    · exact br_t rfl (br_f pu_10 (h1 j hj rfl tj _ _ (Or.inl ⟨1, by omega, e1.mp s2, rfl⟩)))
    · refine br_t rfl (br_t rfl (h1 j hj rfl tj _ _ (Or.inr ⟨fun v hv y => ?_, rfl⟩)))
      rcases Nat.lt_or_ge v 1 with u | u
      · have e : v = 0 := by omega
        subst e
        exact s (e0.mpr y)
      · have e : v = 1 := by omega
        subst e
        exact s2 (e1.mpr y)
theorem ya_fjobs_l (hg : pu_G g) (h : ∀ q, post (nI (pu_cnt (fun j => p.testBit j = true ∧ ∃ v, v < 2 ∧ pu_all (pu_plan p w g) j v) 8)) (pu_T p, w, g, q)) : ∀ n j q, j ≤ 8 → 8 - j < n → wY_forcedJobs_4 post n (nI (pu_cnt (fun j => p.testBit j = true ∧ ∃ v, v < 2 ∧ pu_all (pu_plan p w g) j v) j)) (nI j) (pu_T p) w g q := by
  intro n
  induction n with
  | zero => intro j q h1 h2; omega
  | succ n ih =>
    intro j q hj hn
    refine pk_le 8 j (fun z => ?_) (fun z => ?_)
    · have e : j = 8 := by omega
      rw [e]; exact h q
    · have nf : ∀ q', ¬ (p.testBit j = true ∧ ∃ v, v < 2 ∧ pu_all (pu_plan p w g) j v) → wY_forcedJobs_4 post n (nI (pu_cnt (fun j => p.testBit j = true ∧ ∃ v, v < 2 ∧ pu_all (pu_plan p w g) j v) j)) (nI (j + 1)) (pu_T p) w g q' := by
        intro q' s
        have := ih (j + 1) q' (by omega) (by omega)
        rw [pu_cnt_f (n := j) s] at this
        exact this
      refine ya_forced hg (nI j) (fun i hi e ti r q' hr => ?_) (fun s q' => ?_)
      · have e' : j = i := (nI_eq (by omega) (by omega)).mp e
        subst e'
        rcases pu_fd_ge hr with ⟨-, r2, r3⟩ | ⟨-, r2, r3⟩
        · refine br_f r2 (nm_r (nI_1 _) (nm_r (nI_1 j) ?_))
          have := ih (j + 1) q' (by omega) (by omega)
          rw [pu_cnt_t (n := j) ⟨ti, r3⟩] at this
          exact this
        · exact br_t r2 (nm_r (Int32.add_zero _) (nm_r (nI_1 j) (nf q' fun y => r3 y.2)))
      · exact br_t (by decide) (nm_r (Int32.add_zero _) (nm_r (nI_1 j) (nf q' fun y => s ((pu_is_n z).mpr y.1))))
theorem ya_fjobs (hg : pu_G g) (h : ∀ q, post (nI (pu_cnt (fun j => p.testBit j = true ∧ ∃ v, v < 2 ∧ pu_all (pu_plan p w g) j v) 8)) (pu_T p, w, g, q)) : wpY_forcedJobs post (pu_T p, w, g, q) :=
  ⟨9, ya_fjobs_l hg h 9 0 q (by omega) (by omega)⟩
theorem ya_flips_l {f : Nat} (hg : pu_G g) (hf : f < 256) (hP : pu_plan p w g f) (h : ∀ q, post (nI (pu_cnt (fun j => pu_plan p w g (f ^^^ 2 ^ (7 - j))) 8)) (pu_T p, w, g, q)) : ∀ n j q, j ≤ 8 → 8 - j < n → wY_flips_9 post (nI f) n (nI (pu_cnt (fun j => pu_plan p w g (f ^^^ 2 ^ (7 - j))) j)) (nI j) (pu_T p) w g q := by
  intro n
  induction n with
  | zero => intro j q h1 h2; omega
  | succ n ih =>
    intro j q hj hn
    refine pk_le 8 j (fun z => ?_) (fun z => ?_)
    · have e : j = 8 := by omega
      rw [e]; exact h q
    · have nf : ∀ q', ¬ pu_plan p w g (f ^^^ 2 ^ (7 - j)) → wY_flips_9 post (nI f) n (nI (pu_cnt (fun j => pu_plan p w g (f ^^^ 2 ^ (7 - j))) j)) (nI (j + 1)) (pu_T p) w g q' := by
        intro q' s
        have := ih (j + 1) q' (by omega) (by omega)
        rw [pu_cnt_f (n := j) s] at this
        exact this
      refine ya_is (nI j) ⟨fun s => br_f pu_10 ?_, fun s => br_t rfl (nm_r (Int32.add_zero _) (nm_r (nI_1 j) (nf q (pu_noflip z (pu_nt fun y => s ((pu_is_n z).mpr y)) hP))))⟩
      rw [pu_t8 f hf j z]
      refine ya_plan (pu_flip_lt hf (by omega)) hg (fun s2 q' _ => br_f pu_10 (nm_r (nI_1 _) (nm_r (nI_1 j) ?_))) (fun s2 q' => br_t rfl (nm_r (Int32.add_zero _) (nm_r (nI_1 j) (nf q' s2))))
      have := ih (j + 1) q' (by omega) (by omega)
      rw [pu_cnt_t (n := j) s2] at this
      exact this
end
end
section
section
variable {p : Nat} {w g : Nat → Int32}
theorem xa_lf_l {post : Int32 → Prop} (hp : p < 256) (h : ∀ j, pu_lf p j → post (nI j)) : ∀ n j, j ≤ 8 → 8 - j < n → (∀ i, i < j → p.testBit i = true) → wX_leastFreeNumber_2 post (nI p) w g n (nI j) := by
  intro n
  induction n with
  | zero => intro j h1 h2; omega
  | succ n ih =>
    intro j hj hn hb
    refine pk_le 8 j (fun z => h j ⟨hj, hb, fun y => absurd y (by omega)⟩) (fun z => xa_hasN hp z ⟨fun q => br_f pu_10 (nm_r (nI_1 j) (ih (j + 1) (by omega) (by omega) (fun i hi => ?_))), fun q => br_t rfl (h j ⟨hj, hb, fun _ => pu_nt q⟩)⟩)
    rcases Nat.lt_or_ge i j with y | y
    · exact hb i y
    · have e : i = j := by omega
      subst e
      exact q
theorem xa_lf {post : Int32 → Prop} (hp : p < 256) (h : ∀ j, pu_lf p j → post (nI j)) : wpX_leastFreeNumber post (nI p, w, g) :=
  ⟨9, xa_lf_l hp h 9 0 (by omega) (by omega) (fun i hi => absurd hi (Nat.not_lt_zero i))⟩
theorem xa_place {post : SX → Prop} {j : Nat} {a b : Int32} (hp : p < 256) (hj : j < 8) (h : post (nI (p ||| 2 ^ j), pu_W w j a b, upd g j (-1))) : wpX_place post (nI p, w, g) (nI j) a b := by
  unfold wpX_place
  dsimp only
  refine ⟨pk_in (2 * j) 16 (by omega) (pu_e1 j), nm_r (e' := upd w (2 * j) a) (by rw [pk_cl (2 * j) (pu_e1 j) (by omega)]) ⟨pk_in (2 * j + 1) 16 (by omega) (pu_e2 j), nm_r (e' := pu_W w j a b) (by rw [pk_cl (2 * j + 1) (pu_e2 j) (by omega)]; rfl) ⟨vp_in_nI hj (by decide), nm_r (e' := upd g j (-1)) (by rw [nI_clamp (by omega)]) (nm_r (pu_t3 p hp j hj) h)⟩⟩⟩
theorem xa_ans {post : Int32 → SX → Prop} {a b : Int32} (hp : p < 256)
    (h1 : ¬ (pu_way a ∧ pu_way b) → post (-1) (nI p, w, g))
    (h2 : pu_way a ∧ pu_way b → pu_lf p 8 → post (-2) (nI p, w, g))
    (h3 : pu_way a ∧ pu_way b → ∀ j, j < 8 → pu_lf p j → (∃ c, c < 256 ∧ pu_plan (p ||| 2 ^ j) (pu_W w j a b) (upd g j (-1)) c) → post (nI j) (nI p, pu_W w j a b, upd g j (-1)))
    (h4 : pu_way a ∧ pu_way b → ∀ j, j < 8 → pu_lf p j → ¬ (∃ c, c < 256 ∧ pu_plan (p ||| 2 ^ j) (pu_W w j a b) (upd g j (-1)) c) → post (-3) (nI p, pu_W w j a b, upd g j (-1))) : wpX_answerToOffer post (nI p, w, g) a b := by
  unfold wpX_answerToOffer
  dsimp only
  refine xa_way a ⟨fun q => br_f pu_10 ?_, fun q => br_t rfl (h1 fun y => q y.1)⟩
  refine xa_way b ⟨fun q2 => br_f pu_10 ?_, fun q2 => br_t rfl (h1 fun y => q2 y.2)⟩
  refine xa_lf hp fun j lj => ?_
  refine pk_eq j 8 (fun z => ?_) (fun z => ?_) rfl rfl (by have := lj.1; omega)
  · subst z
    exact h2 ⟨q, q2⟩ lj
  · have hj : j < 8 := by have := lj.1; omega
    refine xa_place hp hj ?_
    refine xa_first (pu_set_lt hp hj) fun r hr => ?_
    unfold wpX_remove
    dsimp only
    refine nm_r ((pu_t4 _ (pu_set_lt hp hj) j hj).trans (congrArg nI (pu_clr_set hp hj (lj.2.2 hj)))) ?_
    rcases hr with ⟨c, hc, g1, -, rfl⟩ | ⟨g1, rfl⟩
    · exact br_f (pu_m1 c hc).1 (h3 ⟨q, q2⟩ j hj lj ⟨c, hc, g1⟩)
    · exact br_t rfl (h4 ⟨q, q2⟩ j hj lj fun ⟨c, hc, y⟩ => g1 c hc y)
end
section
variable {p : Nat} {w g q : Nat → Int32} {post : Int32 → SY → Prop}
theorem ya_off_l {a b : Int32} (hp : p < 256) (hg : pu_G g)
    (h2 : pu_lf p 8 → post (-2) (pu_T p, w, g, q))
    (h3 : ∀ j, j < 8 → pu_lf p j → (∃ c, c < 256 ∧ pu_plan (p ||| 2 ^ j) (pu_W w j a b) (upd g j (-1)) c) → ∀ q, post (nI j) (pu_T (p ||| 2 ^ j), pu_W w j a b, upd g j (-1), q))
    (h4 : ∀ j, j < 8 → pu_lf p j → ¬ (∃ c, c < 256 ∧ pu_plan (p ||| 2 ^ j) (pu_W w j a b) (upd g j (-1)) c) → ∀ q, post (-3) (pu_T p, pu_W w j a b, upd g j (-1), q)) : ∀ n j, j ≤ 8 → 8 - j < n → (∀ i, i < j → p.testBit i = true) → wY_offer_20 post a b (pu_T p) w g q n (nI j) := by
  intro n
  induction n with
  | zero => intro j h1 h2; omega
  | succ n ih =>
    intro j hj hn hb
    refine pk_le 8 j (fun z => h2 ?_) (fun z => ⟨vp_in_nI z (by decide), ?_⟩)
    · have e : j = 8 := by omega
      subst e
      exact ⟨by omega, hb, fun y => absurd y (by omega)⟩
    · by_cases t : p.testBit j = true
      · refine br_f ?_ (nm_r (nI_1 j) (ih (j + 1) (by omega) (by omega) (fun i hi => ?_)))
        · rw [nI_clamp (by omega)]
          exact fun y => pu_tf t (pu_Tz.mp y)
        · rcases Nat.lt_or_ge i j with y | y
          · exact hb i y
          · have e : i = j := by omega
            subst e
            exact t
      · have lj : pu_lf p j := ⟨hj, hb, fun _ => pu_nt t⟩
        have hs := pu_set_lt hp z
        refine br_t (by rw [nI_clamp (by omega)]; exact pu_T0 (pu_nt t)) ⟨vp_in_nI z (by decide), nm_r (e' := pu_T (p ||| 2 ^ j)) (by rw [nI_clamp (by omega), pu_vb1, pu_Tset]) ⟨pk_in (2 * j) 16 (by omega) (pu_e1 j), nm_r (e' := upd w (2 * j) a) (by rw [pk_cl (2 * j) (pu_e1 j) (by omega)]) ⟨pk_in (2 * j + 1) 16 (by omega) (pu_e2 j), nm_r (e' := pu_W w j a b) (by rw [pk_cl (2 * j + 1) (pu_e2 j) (by omega)]; rfl) ⟨vp_in_nI z (by decide), nm_r (e' := upd g j (-1)) (by rw [nI_clamp (by omega)]) ?_⟩⟩⟩⟩
        refine ya_first (pu_G_u hg (Or.inl rfl)) fun r q' hr => ?_
        rcases pu_fst_ge hr with ⟨-, -, r0, hP⟩ | ⟨-, r1, r0⟩
        · refine br_f r0 ⟨vp_in_nI z (by decide), nm_r (e' := pu_T (p ||| 2 ^ j)) (by rw [nI_clamp (by omega), pu_vb1, pu_Tset, pu_or_or]) ⟨vp_in_nI z (by decide), br_f ?_ (h3 j z lj hP q')⟩⟩
          rw [nI_clamp (by omega)]
          exact fun y => pu_tf (pu_set_s p j) (pu_Tz.mp y)
        · have hN : ¬ ∃ c, c < 256 ∧ pu_plan (p ||| 2 ^ j) (pu_W w j a b) (upd g j (-1)) c := fun hP => by
            obtain ⟨c, hc, -, e⟩ := pu_fst_e hr hP
            exact (pu_m1 c hc).1 (e.symm.trans r1)
          refine br_t r0 ⟨vp_in_nI z (by decide), nm_r (e' := pu_T p) (by rw [nI_clamp (by omega), pu_vb0, pu_Tclr hs z, pu_clr_set hp z (pu_nt t)]) ⟨vp_in_nI z (by decide), br_t ?_ (h4 j z lj hN q')⟩⟩
          rw [nI_clamp (by omega)]
          exact pu_T0 (pu_nt t)
theorem ya_off {a b : Int32} (hp : p < 256) (hg : pu_G g)
    (h1 : ¬ (pu_way a ∧ pu_way b) → post (-1) (pu_T p, w, g, q))
    (h2 : pu_way a ∧ pu_way b → pu_lf p 8 → post (-2) (pu_T p, w, g, q))
    (h3 : pu_way a ∧ pu_way b → ∀ j, j < 8 → pu_lf p j → (∃ c, c < 256 ∧ pu_plan (p ||| 2 ^ j) (pu_W w j a b) (upd g j (-1)) c) → ∀ q, post (nI j) (pu_T (p ||| 2 ^ j), pu_W w j a b, upd g j (-1), q))
    (h4 : pu_way a ∧ pu_way b → ∀ j, j < 8 → pu_lf p j → ¬ (∃ c, c < 256 ∧ pu_plan (p ||| 2 ^ j) (pu_W w j a b) (upd g j (-1)) c) → ∀ q, post (-3) (pu_T p, pu_W w j a b, upd g j (-1), q)) : wpY_offer post (pu_T p, w, g, q) a b := by
  unfold wpY_offer
  dsimp only
  refine ya_way a ⟨fun y => br_f pu_10 ?_, fun y => br_t rfl (h1 fun s => y s.1)⟩
  refine ya_way b ⟨fun y2 => br_f pu_10 ?_, fun y2 => br_t rfl (h1 fun s => y2 s.2)⟩
  exact ⟨9, ya_off_l hp hg (h2 ⟨y, y2⟩) (h3 ⟨y, y2⟩) (h4 ⟨y, y2⟩) 9 0 (by omega) (by omega) (fun i hi => absurd hi (Nat.not_lt_zero i))⟩
theorem ya_jobs_l {post : Int32 → Prop} (hp : p < 256) (h : post (nI p)) : ∀ n j, j ≤ 8 → 8 - j < n → wY_jobs_4 post (pu_T p) w g q n (nI (p % 2 ^ j)) (nI j) := by
  intro n
  induction n with
  | zero => intro j h1 h2; omega
  | succ n ih =>
    intro j hj hn
    refine pk_le 8 j (fun z => ?_) (fun z => ⟨vp_in_nI z (by decide), ?_⟩)
    · have e : j = 8 := by omega
      subst e
      rw [Nat.mod_eq_of_lt hp]
      exact h
    · have e := pu_t6 p hp j z
      have := ih (j + 1) (by omega) (by omega)
      rw [nI_clamp (n := j) (by omega)]
      refine br_c (fun t => ?_) (fun t => ?_)
      · rw [if_neg (pu_ft (pu_Tz.mp t))] at e
        exact nm_r e (nm_r (nI_1 j) this)
      · rw [if_pos (pu_nf fun y => t (pu_Tz.mpr y))] at e
        exact nm_r e (nm_r (nI_1 j) this)
theorem ya_jobs {post : Int32 → Prop} (hp : p < 256) (h : post (nI p)) : wpY_jobs post (pu_T p, w, g, q) :=
  ⟨9, by
    have := ya_jobs_l (w := w) (g := g) (q := q) hp h 9 0 (by omega) (by omega)
    rw [Nat.pow_zero, Nat.mod_one] at this
    exact this⟩
theorem ya_change_t {v1 v2 v3 : Int32} (y : pu_is p v1) (s : v2 = 0 ∨ v2 = 1) (h : wY_change_17 post v1 v2 v3 (pu_T p) w g q) : wpY_change post (pu_T p, w, g, q) v1 v2 v3 := by
  unfold wpY_change
  dsimp only
  refine ya_is v1 ⟨fun _ => br_f pu_10 (br_c (fun _ => h) fun s0 => br_c (fun _ => h) fun s1 => ?_), fun r => absurd y r⟩
  rcases s with s | s
  · exact absurd s s0
  · exact absurd s s1
theorem ya_change_f {v1 v2 v3 : Int32} (y : ¬ (pu_is p v1 ∧ (v2 = 0 ∨ v2 = 1))) (h : post (-1) (pu_T p, w, g, q)) : wpY_change post (pu_T p, w, g, q) v1 v2 v3 := by
  unfold wpY_change
  dsimp only
  exact ya_is v1 ⟨fun s => br_f pu_10 (br_f (fun e => y ⟨s, Or.inl e⟩) (br_f (fun e => y ⟨s, Or.inr e⟩) h)), fun _ => br_t rfl h⟩
theorem ya_pin_t {v1 v2 : Int32} (y : pu_is p v1) (s : v2 = 0 ∨ v2 = 1) (h : wY_pin_19 post v1 v2 (pu_T p) w g q) : wpY_pin post (pu_T p, w, g, q) v1 v2 := by
  unfold wpY_pin
  dsimp only
  refine ya_is v1 ⟨fun _ => br_f pu_10 (br_c (fun _ => h) fun s0 => br_c (fun _ => h) fun s1 => ?_), fun r => absurd y r⟩
  rcases s with s | s
  · exact absurd s s0
  · exact absurd s s1
theorem ya_pin_f {v1 v2 : Int32} (y : ¬ (pu_is p v1 ∧ (v2 = 0 ∨ v2 = 1))) (h : post (-1) (pu_T p, w, g, q)) : wpY_pin post (pu_T p, w, g, q) v1 v2 := by
  unfold wpY_pin
  dsimp only
  exact ya_is v1 ⟨fun s => br_f pu_10 (br_f (fun e => y ⟨s, Or.inl e⟩) (br_f (fun e => y ⟨s, Or.inr e⟩) h)), fun _ => br_t rfl h⟩
end
end
section
/-- both have the same jobs p, ways w and pins g, and there is a plan; what the reference picked last is free -/
def i_Rel (_ : Nat) (u : SX) (v : SY) : Prop := ∃ (p : Nat) (w g q : Nat → Int32), u = (nI p, w, g) ∧ v = (pu_T p, w, g, q) ∧ pu_D p w g
theorem i_up {k : Nat} {u : SX} {v : SY} (h : i_Rel k u v) : i_Rel (k + 5) u v := h
theorem rl_mk {k p : Nat} {w g q : Nat → Int32} (h : pu_D p w g) : i_Rel k (nI p, w, g) (pu_T p, w, g, q) := ⟨p, w, g, q, rfl, rfl, h⟩
theorem i_vc0 : wpX_init (fun u => wpY_init (fun v => i_Rel 0 u v)) :=
  ⟨0, fun _ => 0, fun _ => 0, fun _ => 0, rfl, by rw [pu_T00], by decide, fun _ _ => Or.inr (Or.inl rfl), 0, by decide, pu_plan0 _ _⟩
theorem i_vc_offer {k : Nat} {u : SX} {v : SY} (I : i_Rel k u v) (hk : k + 5 ≤ 2560) (v1 : Int32) (v2 : Int32) : wpX_offer (fun r u' => wpY_offer (fun r' v' => r' = r ∧ i_Rel (k + 5) u' v') v v1 v2) u v1 v2 := by
  obtain ⟨p, w, g, q, rfl, rfl, hD⟩ := I
  unfold wpX_offer
  dsimp only
  refine xa_ans hD.1 (fun y => ?_) (fun y lj => ?_) (fun y j hj lj hP => ?_) (fun y j hj lj hP => ?_)
  · refine br_t (by decide) (ya_off hD.1 hD.2.1 (fun _ => ⟨rfl, rl_mk hD⟩) (fun s => absurd s y) (fun s => absurd s y) (fun s => absurd s y))
  · refine br_t (by decide) (ya_off hD.1 hD.2.1 (fun s => absurd y s) (fun _ _ => ⟨rfl, rl_mk hD⟩) (fun _ i hi li => ?_) (fun _ i hi li => ?_))
    · have := pu_lf_u lj li; omega
    · have := pu_lf_u lj li; omega
  · refine br_f (nI_pos (by omega)) (xa_place hD.1 hj ?_)
    rw [pu_WW, pu_uu]
    refine ya_off hD.1 hD.2.1 (fun s => absurd y s) (fun _ l8 => ?_) (fun _ i hi li hQ q' => ?_) (fun _ i hi li hQ => ?_)
    · have := pu_lf_u lj l8; omega
    · have e := pu_lf_u lj li
      subst e
      exact ⟨rfl, rl_mk ⟨pu_set_lt hD.1 hi, pu_G_u hD.2.1 (Or.inl rfl), hQ⟩⟩
    · have e := pu_lf_u lj li
      subst e
      exact absurd hP hQ
  · refine br_t (by decide) (ya_off hD.1 hD.2.1 (fun s => absurd y s) (fun _ l8 => ?_) (fun _ i hi li hQ => ?_) (fun _ i hi li hQ q' => ?_))
    · have := pu_lf_u lj l8; omega
    · have e := pu_lf_u lj li
      subst e
      exact absurd hQ hP
    · have e := pu_lf_u lj li
      subst e
      exact ⟨rfl, rl_mk (pu_D_off hD hi (li.2.2 hi))⟩
theorem i_vc_probe {k : Nat} {u : SX} {v : SY} (I : i_Rel k u v) (hk : k + 5 ≤ 2560) (v1 : Int32) (v2 : Int32) : wpX_probe (fun r u' => wpY_probe (fun r' v' => r' = r ∧ i_Rel (k + 5) u' v') v v1 v2) u v1 v2 := by
  obtain ⟨p, w, g, q, rfl, rfl, hD⟩ := I
  unfold wpX_probe wpY_probe
  dsimp only
  refine xa_ans hD.1 (fun y => ?_) (fun y lj => ?_) (fun y j hj lj hP => ?_) (fun y j hj lj hP => ?_)
  · refine ya_off hD.1 hD.2.1 (fun _ => br_t (by decide) ⟨rfl, rl_mk hD⟩) (fun s => absurd s y) (fun s => absurd s y) (fun s => absurd s y)
  · refine ya_off hD.1 hD.2.1 (fun s => absurd y s) (fun _ _ => br_t (by decide) ⟨rfl, rl_mk hD⟩) (fun _ i hi li => ?_) (fun _ i hi li => ?_)
    · have := pu_lf_u lj li; omega
    · have := pu_lf_u lj li; omega
  · refine ya_off hD.1 hD.2.1 (fun s => absurd y s) (fun _ l8 => ?_) (fun _ i hi li hQ q' => ?_) (fun _ i hi li hQ => ?_)
    · have := pu_lf_u lj l8; omega
    · have e := pu_lf_u lj li
      subst e
      refine br_f (nI_pos (by omega)) ⟨vp_in_nI hi (by decide), nm_r (e' := pu_T p) ?_ ⟨rfl, rl_mk (pu_D_off hD hi (li.2.2 hi))⟩⟩
      rw [nI_clamp (by omega), pu_vb0, pu_Tclr (pu_set_lt hD.1 hi) hi, pu_clr_set hD.1 hi (li.2.2 hi)]
    · have e := pu_lf_u lj li
      subst e
      exact absurd hP hQ
  · refine ya_off hD.1 hD.2.1 (fun s => absurd y s) (fun _ l8 => ?_) (fun _ i hi li hQ => ?_) (fun _ i hi li hQ q' => ?_)
    · have := pu_lf_u lj l8; omega
    · have e := pu_lf_u lj li
      subst e
      exact absurd hQ hP
    · have e := pu_lf_u lj li
      subst e
      exact br_t (by decide) ⟨rfl, rl_mk (pu_D_off hD hi (li.2.2 hi))⟩
theorem i_vc_withdraw {k : Nat} {u : SX} {v : SY} (I : i_Rel k u v) (hk : k + 5 ≤ 2560) (v1 : Int32) : wpX_withdraw (fun r u' => wpY_withdraw (fun r' v' => r' = r ∧ i_Rel (k + 5) u' v') v v1) u v1 := by
  obtain ⟨p, w, g, q, rfl, rfl, hD⟩ := I
  unfold wpX_withdraw wpY_withdraw
  dsimp only
  refine xa_has hD.1 v1 ⟨fun y => br_f pu_10 ?_, fun y => br_t rfl (ya_is v1 ⟨fun s => absurd s y, fun _ => br_t rfl ⟨rfl, rl_mk hD⟩⟩)⟩
  have y' := y
  obtain ⟨j, hj, rfl, tj⟩ := y'
  unfold wpX_remove
  dsimp only
  refine nm_r (pu_t4 p hD.1 j hj) (ya_is (nI j) ⟨fun _ => br_f pu_10 ⟨vp_in_nI hj (by decide), nm_r (e' := pu_T (pu_clr p j)) ?_ ⟨rfl, rl_mk ?_⟩⟩, fun s => absurd y s⟩)
  · rw [nI_clamp (by omega), pu_vb0, pu_Tclr hD.1 hj]
  · obtain ⟨hp, hg, c, hc, z⟩ := hD
    exact ⟨pu_clr_lt hp, hg, _, pu_clr_lt hc, pu_plan_out hp hc hj z⟩
theorem i_vc_change {k : Nat} {u : SX} {v : SY} (I : i_Rel k u v) (hk : k + 5 ≤ 2560) (v1 : Int32) (v2 : Int32) (v3 : Int32) : wpX_change (fun r u' => wpY_change (fun r' v' => r' = r ∧ i_Rel (k + 5) u' v') v v1 v2 v3) u v1 v2 v3 := by
  obtain ⟨p, w, g, q, rfl, rfl, hD⟩ := I
  unfold wpX_change
  dsimp only
  refine xa_hasWay hD.1 v1 v2 ⟨fun y => br_f pu_10 ?_, fun y => br_t rfl ?_⟩
  · refine xa_way v3 ⟨fun a => br_f pu_10 ?_, fun a => br_t rfl (ya_change_t y.1 y.2 ?_)⟩
    · obtain ⟨⟨j, hj, e1, tj⟩, s⟩ := y
      obtain ⟨l, hl, e2⟩ := pu_01 s
      have hi : pu_is p v1 := ⟨j, hj, e1, tj⟩
      subst e1 e2
      have eI := pk_in (2 * j + l) 16 (by omega) (pu_ix (j := j) (k := l))
      have eC := pk_cl (2 * j + l) (pu_ix (j := j) (k := l)) (by omega)
      refine ⟨eI, nm_r (e' := w (2 * j + l)) (by rw [eC]) ⟨eI, nm_r (e' := upd w (2 * j + l) v3) (by rw [eC]) (xa_first hD.1 fun r hr => ?_)⟩⟩
      rcases pu_fst_ge hr with ⟨-, r1, -, hP⟩ | ⟨-, r1, -⟩
      · refine br_f r1 (ya_change_t hi s ?_)
        unfold wY_change_17
        refine ya_way v3 ⟨fun _ => br_f pu_10 ⟨eI, nm_r (e' := w (2 * j + l)) (by rw [eC]) ⟨eI, nm_r (e' := upd w (2 * j + l) v3) (by rw [eC]) (ya_first hD.2.1 fun r' q' hr' => ?_)⟩⟩, fun b => absurd a b⟩
        rcases pu_fst_ge hr' with ⟨-, -, s0, -⟩ | ⟨-, s1, s0⟩
        · exact br_f s0 ⟨rfl, rl_mk ⟨hD.1, hD.2.1, hP⟩⟩
        · exact absurd ((pu_fst_u hr' hr).trans s1) r1
      · refine br_t r1 ⟨eI, nm_r (e' := w) (by rw [eC, pu_ub]) (ya_change_t hi s ?_)⟩
        unfold wY_change_17
        refine ya_way v3 ⟨fun _ => br_f pu_10 ⟨eI, nm_r (e' := w (2 * j + l)) (by rw [eC]) ⟨eI, nm_r (e' := upd w (2 * j + l) v3) (by rw [eC]) (ya_first hD.2.1 fun r' q' hr' => ?_)⟩⟩, fun b => absurd a b⟩
        rcases pu_fst_ge hr' with ⟨-, s1, s0, -⟩ | ⟨-, s1, s0⟩
        · exact absurd ((pu_fst_u hr hr').trans r1) s1
        · exact br_t s0 ⟨eI, nm_r (e' := w) (by rw [eC, pu_ub]) ⟨rfl, rl_mk hD⟩⟩
    · unfold wY_change_17
      exact ya_way v3 ⟨fun b => absurd b a, fun _ => br_t rfl ⟨rfl, rl_mk hD⟩⟩
  · exact ya_change_f y ⟨rfl, rl_mk hD⟩
theorem i_vc_pin {k : Nat} {u : SX} {v : SY} (I : i_Rel k u v) (hk : k + 5 ≤ 2560) (v1 : Int32) (v2 : Int32) : wpX_pin (fun r u' => wpY_pin (fun r' v' => r' = r ∧ i_Rel (k + 5) u' v') v v1 v2) u v1 v2 := by
  obtain ⟨p, w, g, q, rfl, rfl, hD⟩ := I
  unfold wpX_pin
  dsimp only
  refine xa_hasWay hD.1 v1 v2 ⟨fun y => br_f pu_10 ?_, fun y => br_t rfl ?_⟩
  · obtain ⟨⟨j, hj, e1, tj⟩, s⟩ := y
    have hi : pu_is p v1 := ⟨j, hj, e1, tj⟩
    subst e1
    have eI := vp_in_nI (n := j) (N := 8) hj (by decide)
    have eC := nI_clamp (n := j) (by omega)
    have hG : pu_G (upd g j v2) := pu_G_u hD.2.1 (Or.inr s)
    refine ⟨eI, nm_r (e' := g j) (by rw [eC]) ⟨eI, nm_r (e' := upd g j v2) (by rw [eC]) (xa_first hD.1 fun r hr => ?_)⟩⟩
    rcases pu_fst_ge hr with ⟨-, r1, -, hP⟩ | ⟨-, r1, -⟩
    · refine br_f r1 (ya_pin_t hi s ?_)
      unfold wY_pin_19
      refine ⟨eI, nm_r (e' := g j) (by rw [eC]) ⟨eI, nm_r (e' := upd g j v2) (by rw [eC]) (ya_first hG fun r' q' hr' => ?_)⟩⟩
      rcases pu_fst_ge hr' with ⟨-, -, s0, -⟩ | ⟨-, s1, s0⟩
      · exact br_f s0 ⟨rfl, rl_mk ⟨hD.1, hG, hP⟩⟩
      · exact absurd ((pu_fst_u hr' hr).trans s1) r1
    · refine br_t r1 ⟨eI, nm_r (e' := g) (by rw [eC, pu_ub]) (ya_pin_t hi s ?_)⟩
      unfold wY_pin_19
      refine ⟨eI, nm_r (e' := g j) (by rw [eC]) ⟨eI, nm_r (e' := upd g j v2) (by rw [eC]) (ya_first hG fun r' q' hr' => ?_)⟩⟩
      rcases pu_fst_ge hr' with ⟨-, s1, s0, -⟩ | ⟨-, s1, s0⟩
      · exact absurd ((pu_fst_u hr hr').trans r1) s1
      · exact br_t s0 ⟨eI, nm_r (e' := g) (by rw [eC, pu_ub]) ⟨rfl, rl_mk hD⟩⟩
  · exact ya_pin_f y ⟨rfl, rl_mk hD⟩
theorem i_vc_unpin {k : Nat} {u : SX} {v : SY} (I : i_Rel k u v) (hk : k + 5 ≤ 2560) (v1 : Int32) : wpX_unpin (fun r u' => wpY_unpin (fun r' v' => r' = r ∧ i_Rel (k + 5) u' v') v v1) u v1 := by
  obtain ⟨p, w, g, q, rfl, rfl, hD⟩ := I
  unfold wpX_unpin wpY_unpin
  dsimp only
  refine xa_has hD.1 v1 ⟨fun y => br_f pu_10 ?_, fun y => br_t rfl (ya_is v1 ⟨fun s => absurd s y, fun _ => br_t rfl ⟨rfl, rl_mk hD⟩⟩)⟩
  have y' := y
  obtain ⟨j, hj, rfl, tj⟩ := y'
  have eI := vp_in_nI (n := j) (N := 8) hj (by decide)
  have eC := nI_clamp (n := j) (by omega)
  refine ⟨eI, ?_⟩
  rw [eC]
  refine br_c (fun s => ya_is (nI j) ⟨fun _ => br_f pu_10 ⟨eI, br_f ?_ ⟨rfl, rl_mk hD⟩⟩, fun r => absurd y r⟩) (fun s => ⟨eI, nm_e (ya_is (nI j) ⟨fun _ => br_f pu_10 ⟨eI, br_t ?_ ⟨eI, nm_e ⟨rfl, rl_mk ?_⟩⟩⟩, fun r => absurd y r⟩)⟩)
  · rw [s]; decide
  · rcases hD.2.1 j hj with e | e | e
    · exact absurd e s
    · rw [e]; decide
    · rw [e]; decide
  · obtain ⟨hp, hg, c, hc, z⟩ := hD
    exact ⟨hp, pu_G_u hg (Or.inl rfl), c, hc, pu_plan_unpin z⟩
theorem i_vc_jobs {k : Nat} {u : SX} {v : SY} (I : i_Rel k u v) (hk : k + 5 ≤ 2560) : wpX_jobs (fun r => wpY_jobs (fun r' => r' = r ∧ i_Rel (k + 5) u v) v) u := by
  obtain ⟨p, w, g, q, rfl, rfl, hD⟩ := I
  exact ya_jobs (post := fun r' => r' = nI p ∧ i_Rel (k + 5) (nI p, w, g) (pu_T p, w, g, q)) hD.1 ⟨rfl, rl_mk hD⟩
theorem i_vc_way {k : Nat} {u : SX} {v : SY} (I : i_Rel k u v) (hk : k + 5 ≤ 2560) (v1 : Int32) (v2 : Int32) : wpX_way (fun r => wpY_way (fun r' => r' = r ∧ i_Rel (k + 5) u v) v v1 v2) u v1 v2 := by
  obtain ⟨p, w, g, q, rfl, rfl, hD⟩ := I
  unfold wpX_way wpY_way
  dsimp only
  refine xa_hasWay hD.1 v1 v2 ⟨fun y => br_f pu_10 ?_, fun y => br_t rfl ?_⟩
  · obtain ⟨⟨j, hj, e1, tj⟩, s⟩ := y
    obtain ⟨l, hl, e2⟩ := pu_01 s
    have hi : pu_is p v1 := ⟨j, hj, e1, tj⟩
    have eI : vp_in ((2 * v1) + v2) 16 := by
      subst e1 e2
      exact pk_in (2 * j + l) 16 (by omega) (pu_ix (j := j) (k := l))
    refine ⟨eI, ya_is v1 ⟨fun _ => br_f pu_10 (br_c (fun _ => ⟨eI, rfl, rl_mk hD⟩) fun s0 => br_c (fun _ => ⟨eI, rfl, rl_mk hD⟩) fun s1 => ?_), fun r => absurd hi r⟩⟩
    rcases s with s | s
    · exact absurd s s0
    · exact absurd s s1
  · refine ya_is v1 ⟨fun s => br_f pu_10 (br_f (fun e => y ⟨s, Or.inl e⟩) (br_f (fun e => y ⟨s, Or.inr e⟩) ⟨rfl, rl_mk hD⟩)), fun s => br_t rfl ⟨rfl, rl_mk hD⟩⟩
theorem i_vc_forced {k : Nat} {u : SX} {v : SY} (I : i_Rel k u v) (hk : k + 5 ≤ 2560) (v1 : Int32) : wpX_forced (fun r => wpY_forced (fun r' v' => r' = r ∧ i_Rel (k + 5) u v') v v1) u v1 := by
  obtain ⟨p, w, g, q, rfl, rfl, hD⟩ := I
  refine xa_forced hD v1 (fun j hj e tj r hr => ?_) (fun y => ?_)
  · refine ya_forced hD.2.1 v1 (fun i hi e' ti r' q' hr' => ?_) (fun s => absurd ⟨j, hj, e, tj⟩ s)
    have ee : i = j := (nI_eq (by omega) (by omega)).mp (e'.symm.trans e)
    subst ee
    exact ⟨pu_fd_u hD.2.2 hr hr', rl_mk hD⟩
  · exact ya_forced hD.2.1 v1 (fun i hi e' ti => absurd ⟨i, hi, e', ti⟩ y) (fun _ q' => ⟨rfl, rl_mk hD⟩)
theorem i_vc_implies {k : Nat} {u : SX} {v : SY} (I : i_Rel k u v) (hk : k + 5 ≤ 2560) (v1 : Int32) (v2 : Int32) (v3 : Int32) (v4 : Int32) : wpX_implies (fun r => wpY_implies (fun r' v' => r' = r ∧ i_Rel (k + 5) u v') v v1 v2 v3 v4) u v1 v2 v3 v4 := by
  obtain ⟨p, w, g, q, rfl, rfl, hD⟩ := I
  exact xa_im hD.1 ⟨fun y => ya_im hD.2.1 (fun _ q' => ⟨rfl, rl_mk hD⟩) (fun s => absurd y s), fun y => ya_im hD.2.1 (fun s => absurd s y) (fun _ q' => ⟨rfl, rl_mk hD⟩)⟩
theorem i_vc_planned {k : Nat} {u : SX} {v : SY} (I : i_Rel k u v) (hk : k + 5 ≤ 2560) (v1 : Int32) : wpX_planned (fun r => wpY_planned (fun r' v' => r' = r ∧ i_Rel (k + 5) u v') v v1) u v1 := by
  obtain ⟨p, w, g, q, rfl, rfl, hD⟩ := I
  unfold wpY_planned
  dsimp only
  refine xa_planned hD v1 (fun j hj e tj f hf hr => ?_) (fun y => ?_)
  · refine ya_first hD.2.1 fun r' q' hr' => ?_
    have ee := pu_fst_u hr hr'
    subst ee e
    refine ya_is (nI j) ⟨fun _ => br_f pu_10 (br_f (pu_m1 f hf).2.2.2 ⟨pu_t1 f hf j hj, rl_mk hD⟩), fun s => absurd ((pu_is_n hj).mpr tj) s⟩
  · refine ya_first hD.2.1 fun r' q' hr' => ?_
    exact ya_is v1 ⟨fun s => absurd s y, fun _ => br_t rfl ⟨rfl, rl_mk hD⟩⟩
theorem rl_3 (x : Int32) : (3 : Int32) ≤ x ↔ 2 < x := by
  rw [Int32.le_iff_toInt_le, Int32.lt_iff_toInt_lt, pu_n3, pu_n2]; omega
theorem rl_20 (x : Int32) : x < 20 ↔ ¬ 19 < x := by
  rw [Int32.lt_iff_toInt_lt, Int32.lt_iff_toInt_lt, pu_n19, pu_n20]; omega
theorem i_vc_alwaysTaken {k : Nat} {u : SX} {v : SY} (I : i_Rel k u v) (hk : k + 5 ≤ 2560) (v1 : Int32) (v2 : Int32) : wpX_alwaysTaken (fun r => wpY_alwaysTaken (fun r' v' => r' = r ∧ i_Rel (k + 5) u v') v v1 v2) u v1 v2 := by
  obtain ⟨p, w, g, q, rfl, rfl, hD⟩ := I
  unfold wpX_alwaysTaken wpY_alwaysTaken
  dsimp only
  refine br_c (fun z => br_t z ⟨rfl, rl_mk hD⟩) fun z => br_c (fun z2 => br_f z (br_t ((rl_3 v1).mp z2) ⟨rfl, rl_mk hD⟩)) fun z2 => ?_
  have y2 : ¬ 2 < v1 := fun y => z2 ((rl_3 v1).mpr y)
  refine br_c (fun z3 => br_f z (br_f y2 (br_t z3 ⟨rfl, rl_mk hD⟩))) fun z3 => br_c (fun z4 => ?_) fun z4 => ?_
  · have y4 := (rl_20 v2).mp z4
    exact xa_some hD.1 ⟨fun s => br_f pu_10 (br_f z (br_f y2 (br_f z3 (br_f y4 (ya_some hD.2.1 (fun _ q' => br_f pu_10 ⟨rfl, rl_mk hD⟩) (fun t => absurd s t)))))), fun s => br_t rfl (br_f z (br_f y2 (br_f z3 (br_f y4 (ya_some hD.2.1 (fun t => absurd t s) (fun _ q' => br_t rfl ⟨rfl, rl_mk hD⟩))))))⟩
  · have y4 : 19 < v2 := Classical.byContradiction fun y => z4 ((rl_20 v2).mpr y)
    exact br_f z (br_f y2 (br_f z3 (br_t y4 ⟨rfl, rl_mk hD⟩)))
theorem i_vc_couldKeepFree {k : Nat} {u : SX} {v : SY} (I : i_Rel k u v) (hk : k + 5 ≤ 2560) (v1 : Int32) : wpX_couldKeepFree (fun r => wpY_couldKeepFree (fun r' v' => r' = r ∧ i_Rel (k + 5) u v') v v1) u v1 := by
  obtain ⟨p, w, g, q, rfl, rfl, hD⟩ := I
  unfold wpX_couldKeepFree wpY_couldKeepFree
  dsimp only
  refine xa_way v1 ⟨fun a => br_f pu_10 ?_, fun a => br_t rfl (ya_way v1 ⟨fun b => absurd b a, fun _ => br_t rfl ⟨rfl, rl_mk hD⟩⟩)⟩
  exact xa_some hD.1 ⟨fun s => br_f pu_10 (ya_way v1 ⟨fun _ => br_f pu_10 (ya_some hD.2.1 (fun _ q' => br_f pu_10 ⟨rfl, rl_mk hD⟩) (fun t => absurd s t)), fun b => absurd a b⟩), fun s => br_t rfl (ya_way v1 ⟨fun _ => br_f pu_10 (ya_some hD.2.1 (fun t => absurd t s) (fun _ q' => br_t rfl ⟨rfl, rl_mk hD⟩)), fun b => absurd a b⟩)⟩
theorem i_vc_forcedJobs {k : Nat} {u : SX} {v : SY} (I : i_Rel k u v) (hk : k + 5 ≤ 2560) : wpX_forcedJobs (fun r => wpY_forcedJobs (fun r' v' => r' = r ∧ i_Rel (k + 5) u v') v) u := by
  obtain ⟨p, w, g, q, rfl, rfl, hD⟩ := I
  exact xa_fjobs hD (ya_fjobs hD.2.1 fun q' => ⟨rfl, rl_mk hD⟩)
theorem i_vc_flips {k : Nat} {u : SX} {v : SY} (I : i_Rel k u v) (hk : k + 5 ≤ 2560) : wpX_flips (fun r => wpY_flips (fun r' v' => r' = r ∧ i_Rel (k + 5) u v') v) u := by
  obtain ⟨p, w, g, q, rfl, rfl, hD⟩ := I
  unfold wpY_flips
  dsimp only
  refine xa_flips hD fun f hf hP hr => ?_
  refine ya_first hD.2.1 fun r' q' hr' => ?_
  have ee := pu_fst_u hr hr'
  subst ee
  exact ⟨9, ya_flips_l hD.2.1 hf hP (fun q'' => ⟨rfl, rl_mk hD⟩) 9 0 q' (by omega) (by omega)⟩
end
