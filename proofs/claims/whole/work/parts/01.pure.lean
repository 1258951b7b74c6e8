theorem pk_us {f : Nat → Int32} {k : Nat} {x : Int32} : upd f k x k = x := if_pos rfl
theorem pk_un {f : Nat → Int32} {k j : Nat} {x : Int32} (h : j ≠ k) : upd f k x j = f j := if_neg h
theorem pk_sub {a b : Nat} (h : b ≤ a) : nI a - nI b = nI (a - b) := by
  obtain ⟨c, rfl⟩ : ∃ c, a = c + b := ⟨a - b, by omega⟩
  rw [← nI_add, Int32.add_sub_cancel, Nat.add_sub_cancel]
theorem pk_mul (a b : Nat) : nI a * nI b = nI (a * b) := (Int32.ofNat_mul a b).symm
theorem pk_ix (x : Int32) {n : Nat} (hn : n < 2 ^ 31) : x < 0 ∨ nI n ≤ x ∨ ∃ j : Nat, j < n ∧ x = nI j := by
  by_cases h : x < 0
  · exact Or.inl h
  · obtain ⟨j, hj, rfl⟩ := nI_of h
    by_cases h2 : j < n
    · exact Or.inr (Or.inr ⟨j, h2, rfl⟩)
    · exact Or.inr (Or.inl (nI_le (by omega) hj))
theorem pk_le {x y : Int32} {A B : Prop} (a b : Nat) (f : a ≤ b → A) (g : b < a → B) (hx : x = nI a := by rfl) (hy : y = nI b := by rfl) (ha : a < 2 ^ 31 := by omega) (hb : b < 2 ^ 31 := by omega) : (x ≤ y → A) ∧ (¬ x ≤ y → B) := by
  subst hx hy
  rw [nI_leI ha hb]
  exact ⟨f, fun z => g (by omega)⟩
theorem pk_lt {x y : Int32} {A B : Prop} (a b : Nat) (f : a < b → A) (g : b ≤ a → B) (hx : x = nI a := by rfl) (hy : y = nI b := by rfl) (ha : a < 2 ^ 31 := by omega) (hb : b < 2 ^ 31 := by omega) : (x < y → A) ∧ (¬ x < y → B) := by
  subst hx hy
  rw [nI_ltI ha hb]
  exact ⟨f, fun z => g (by omega)⟩
theorem pk_eq {x y : Int32} {A B : Prop} (a b : Nat) (f : a = b → A) (g : a ≠ b → B) (hx : x = nI a := by rfl) (hy : y = nI b := by rfl) (ha : a < 2 ^ 31 := by omega) (hb : b < 2 ^ 31 := by omega) : (x = y → A) ∧ (¬ x = y → B) := by
  subst hx hy
  rw [nI_eq ha hb]
  exact ⟨f, g⟩
theorem pk_in {x : Int32} (n N : Nat) (h : n < N) (hx : x = nI n := by rfl) (hN : N < 2 ^ 31 := by omega) : vp_in x N := by
  subst hx
  exact vp_in_nI h hN
theorem pk_cl {x : Int32} (n : Nat) (hx : x = nI n := by rfl) (h : n < 2 ^ 31 := by omega) : x.toNatClampNeg = n := by
  subst hx
  exact nI_clamp h
theorem pk_tn {n : Nat} (h : n < 2 ^ 32) : (nI n).toBitVec.toNat = n := Nat.mod_eq_of_lt h
theorem pk_and (x : Int32) {m : Int32} (k : Nat) (hm : m.toBitVec.toNat = 2 ^ k - 1) : x &&& m = nI (x.toBitVec.toNat % 2 ^ k) := by
  apply Int32.toBitVec_inj.mp
  apply BitVec.eq_of_toNat_eq
  rw [Int32.toBitVec_and, BitVec.toNat_and, hm, Nat.and_two_pow_sub_one_eq_mod]
  show _ = (BitVec.ofNat 32 _).toNat
  rw [BitVec.toNat_ofNat]
  exact (Nat.mod_eq_of_lt (Nat.lt_of_le_of_lt (Nat.mod_le _ _) x.toBitVec.isLt)).symm
theorem pk_andE (x : Int32) {m : Int32} (k : Nat) (hm : m.toBitVec.toNat = 2 ^ k - 1) : ∃ j : Nat, j < 2 ^ k ∧ x &&& m = nI j := ⟨_, Nat.mod_lt _ (Nat.two_pow_pos k), pk_and x k hm⟩
theorem pk_shr (a s : Int32) (k : Nat) (hs : (s.toBitVec.smod 32).toNat = k) : (a >>> s).toInt = a.toInt >>> k := by
  show (a.toBitVec.sshiftRight (s.toBitVec.smod 32).toNat).toInt = _
  rw [hs, BitVec.toInt_sshiftRight]
  rfl
theorem nx_and (a b : Nat) : nI a &&& nI b = nI (a &&& b) := by
  apply Int32.toBitVec_inj.1
  show BitVec.ofNat 32 a &&& BitVec.ofNat 32 b = BitVec.ofNat 32 (a &&& b)
  apply BitVec.eq_of_getLsbD_eq
  intro i hi
  simp [hi]
theorem nx_xor (a b : Nat) : nI a ^^^ nI b = nI (a ^^^ b) := by
  apply Int32.toBitVec_inj.1
  show BitVec.ofNat 32 a ^^^ BitVec.ofNat 32 b = BitVec.ofNat 32 (a ^^^ b)
  apply BitVec.eq_of_getLsbD_eq
  intro i hi
  simp [hi]
theorem pu_or (a b : Nat) : nI a ||| nI b = nI (a ||| b) := by
  apply Int32.toBitVec_inj.1
  show BitVec.ofNat 32 a ||| BitVec.ofNat 32 b = BitVec.ofNat 32 (a ||| b)
  apply BitVec.eq_of_getLsbD_eq
  intro i hi
  simp [hi]
/-- the way that the choice c has for job j -/
def pu_b (c j : Nat) : Nat := (c.testBit (7 - j)).toNat
/-- p without bit j -/
def pu_clr (p j : Nat) : Nat := p &&& (255 ^^^ 2 ^ j)
theorem pu_t1 : ∀ c, c < 256 → ∀ j, j < 8 → (nI c >>> ((7 - nI j) &&& 31)) &&& 1 = nI (pu_b c j) := by decide +kernel
theorem pu_t2 : ∀ p, p < 256 → ∀ j, j < 8 → ((nI p &&& ((1 : Int32) <<< (nI j &&& 31))) = 0 ↔ p.testBit j = false) := by decide +kernel
theorem pu_t3 : ∀ p, p < 256 → ∀ j, j < 8 → nI p ||| ((1 : Int32) <<< (nI j &&& 31)) = nI (p ||| 2 ^ j) := by decide +kernel
theorem pu_t4 : ∀ p, p < 256 → ∀ j, j < 8 → nI p &&& (((1 : Int32) <<< (nI j &&& 31)) ^^^ (-1)) = nI (pu_clr p j) := by decide +kernel
theorem pu_t5 : ∀ j, j < 8 → ((1 : Int32) <<< ((7 - nI j) &&& 31)) = nI (2 ^ (7 - j)) := by decide +kernel
theorem pu_t6 : ∀ p, p < 256 → ∀ j, j < 8 → nI (p % 2 ^ j) ||| (if p.testBit j then ((1 : Int32) <<< (nI j &&& 31)) else 0) = nI (p % 2 ^ (j + 1)) := by decide +kernel
theorem pu_bt (c j : Nat) : pu_b c j = 0 ∧ c.testBit (7 - j) = false ∨ pu_b c j = 1 ∧ c.testBit (7 - j) = true := by
  unfold pu_b
  cases c.testBit (7 - j)
  · exact Or.inl ⟨rfl, rfl⟩
  · exact Or.inr ⟨rfl, rfl⟩
theorem pu_b2 (c j : Nat) : pu_b c j < 2 := by
  rcases pu_bt c j with h | h <;> omega
theorem pu_bI (c j : Nat) (k : Nat) (hk : k < 2) : nI (pu_b c j) = nI k ↔ pu_b c j = k := nI_eq (by have := pu_b2 c j; omega) (by omega)
theorem pu_clr_lt {p j : Nat} (hp : p < 256) : pu_clr p j < 256 := by
  unfold pu_clr
  exact Nat.lt_of_le_of_lt Nat.and_le_left hp
theorem pu_set_lt {p j : Nat} (hp : p < 256) (hj : j < 8) : p ||| 2 ^ j < 256 :=
  Nat.or_lt_two_pow (n := 8) hp (Nat.pow_lt_pow_right (by decide) hj)
theorem pu_flip_lt {p j : Nat} (hp : p < 256) (hj : j < 8) : p ^^^ 2 ^ j < 256 :=
  Nat.xor_lt_two_pow (n := 8) hp (Nat.pow_lt_pow_right (by decide) hj)
theorem pu_hi {p i : Nat} (hp : p < 256) (hi : 8 ≤ i) : p.testBit i = false :=
  Nat.testBit_lt_two_pow (Nat.lt_of_lt_of_le hp (Nat.pow_le_pow_right (n := 2) (by decide) hi))
theorem pu_255 (i : Nat) : (255 : Nat).testBit i = decide (i < 8) := Nat.testBit_two_pow_sub_one 8 i
theorem pu_clr_s (p : Nat) {j : Nat} (hj : j < 8) : (pu_clr p j).testBit j = false := by
  unfold pu_clr
  rw [Nat.testBit_and, Nat.testBit_xor, pu_255, Nat.testBit_two_pow_self]
  simp [hj]
theorem pu_clr_n {p j i : Nat} (hp : p < 256) (h : i ≠ j) : (pu_clr p j).testBit i = p.testBit i := by
  unfold pu_clr
  rw [Nat.testBit_and, Nat.testBit_xor, pu_255, Nat.testBit_two_pow_of_ne (Ne.symm h)]
  by_cases hi : i < 8
  · simp [hi]
  · rw [pu_hi hp (by omega)]; rfl
theorem pu_set_s (p j : Nat) : (p ||| 2 ^ j).testBit j = true := by
  rw [Nat.testBit_or, Nat.testBit_two_pow_self, Bool.or_true]
theorem pu_set_n {p j i : Nat} (h : i ≠ j) : (p ||| 2 ^ j).testBit i = p.testBit i := by
  rw [Nat.testBit_or, Nat.testBit_two_pow_of_ne (Ne.symm h), Bool.or_false]
theorem pu_flip_s (p j : Nat) : (p ^^^ 2 ^ j).testBit j = !p.testBit j := by
  rw [Nat.testBit_xor, Nat.testBit_two_pow_self]
  cases p.testBit j <;> rfl
theorem pu_clr_set {p j : Nat} (hp : p < 256) (hj : j < 8) (h : p.testBit j = false) : pu_clr (p ||| 2 ^ j) j = p := by
  apply Nat.eq_of_testBit_eq
  intro i
  by_cases hi : i = j
  · rw [hi, pu_clr_s _ hj, h]
  · rw [pu_clr_n (pu_set_lt hp hj) hi, pu_set_n hi]
/-- the reference's array of the present jobs -/
def pu_T (p : Nat) : Nat → Int32 := fun j => if p.testBit j = true then 1 else 0
theorem pu_T1 {p j : Nat} (h : p.testBit j = true) : pu_T p j = 1 := if_pos h
theorem pu_T0 {p j : Nat} (h : p.testBit j = false) : pu_T p j = 0 := if_neg (by rw [h]; decide)
theorem pu_Tz {p j : Nat} : pu_T p j = 0 ↔ p.testBit j = false := by
  cases h : p.testBit j
  · exact ⟨fun _ => rfl, fun _ => pu_T0 h⟩
  · rw [pu_T1 h]; decide
theorem pu_T00 : pu_T 0 = fun _ => 0 := by
  funext j; exact pu_T0 (Nat.zero_testBit j)
theorem pu_Tset {p j : Nat} : upd (pu_T p) j 1 = pu_T (p ||| 2 ^ j) := by
  funext i
  by_cases hi : i = j
  · rw [hi, pk_us, pu_T1 (pu_set_s p j)]
  · rw [pk_un hi]
    show (if p.testBit i = true then (1 : Int32) else 0) = if (p ||| 2 ^ j).testBit i = true then 1 else 0
    rw [pu_set_n hi]
theorem pu_Tclr {p j : Nat} (hp : p < 256) (hj : j < 8) : upd (pu_T p) j 0 = pu_T (pu_clr p j) := by
  funext i
  by_cases hi : i = j
  · rw [hi, pk_us, pu_T0 (pu_clr_s p hj)]
  · rw [pk_un hi]
    show (if p.testBit i = true then (1 : Int32) else 0) = if (pu_clr p j).testBit i = true then 1 else 0
    rw [pu_clr_n hp hi]
theorem pu_uu {f : Nat → Int32} {k : Nat} {x y : Int32} : upd (upd f k x) k y = upd f k y := by
  funext i
  by_cases hi : i = k
  · rw [hi, pk_us, pk_us]
  · rw [pk_un hi, pk_un hi, pk_un hi]
theorem pu_ub {f : Nat → Int32} {k : Nat} {x : Int32} : upd (upd f k x) k (f k) = f := by
  funext i
  by_cases hi : i = k
  · rw [hi, pk_us]
  · rw [pk_un hi, pk_un hi]
theorem pu_uc {f : Nat → Int32} {k l : Nat} {x y : Int32} (h : k ≠ l) : upd (upd f k x) l y = upd (upd f l y) k x := by
  funext i
  by_cases hi : i = k
  · rw [hi, pk_us, pk_un h, pk_us]
  · by_cases hl : i = l
    · rw [hl, pk_us, pk_un (Ne.symm h), pk_us]
    · rw [pk_un hl, pk_un hi, pk_un hi, pk_un hl]
/-- placing the same job twice is placing it once -/
theorem pu_ww {f : Nat → Int32} {k l : Nat} {x y : Int32} : upd (upd (upd (upd f k x) l y) k x) l y = upd (upd f k x) l y := by
  funext i
  by_cases hl : i = l
  · rw [hl, pk_us, pk_us]
  · rw [pk_un hl, pk_un hl]
    by_cases hi : i = k
    · rw [hi, pk_us, pk_us]
    · rw [pk_un hi, pk_un hl, pk_un hi]
theorem pu_t7 : ∀ p, p < 256 → ∀ j, j < 8 → ((nI p &&& ((1 : Int32) <<< ((7 - nI j) &&& 31))) = 0 ↔ p.testBit (7 - j) = false) := by decide +kernel
theorem pu_t8 : ∀ p, p < 256 → ∀ j, j < 8 → nI p ^^^ ((1 : Int32) <<< ((7 - nI j) &&& 31)) = nI (p ^^^ 2 ^ (7 - j)) := by decide +kernel
