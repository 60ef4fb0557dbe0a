/-! numbers and small facts for the pure side -/
theorem FU_big {n : Nat} (h : n ≤ 999) : n < FU := by
  unfold FU
  omega
theorem b2i_0 (b : Bool) : (b2i b = 0) ↔ b = false := by cases b <;> decide
theorem b2i_e (a b : Bool) : (b2i a = b2i b) ↔ a = b := by cases a <;> cases b <;> decide
theorem if_b0 {α : Type} (b : Bool) (x y : α) : (if b2i b = 0 then x else y) = (if b then y else x) := by cases b <;> rfl
theorem if_be {α : Type} (a b : Bool) (x y : α) : (if b2i a = b2i b then x else y) = (if a != b then y else x) := by cases a <;> cases b <;> rfl
theorem rd_at {α : Type} {f : Ar} {n : Nat} {i : Int32} {k : Int32 → Option α} (j : Nat) (hi : i = nI j) (hj : j < n) (hn : n < 1000) : rd f n i k = k (f j) := by
  subst hi
  unfold rd
  rw [if_neg (nI_pos (by omega)), nI_clamp (by omega), if_neg (by omega)]
theorem wr_at {α : Type} {f : Ar} {n : Nat} {i x : Int32} {k : Ar → Option α} (j : Nat) (hi : i = nI j) (hj : j < n) (hn : n < 1000) : wr f n i x k = k (upd f j x) := by
  subst hi
  unfold wr
  rw [if_neg (nI_pos (by omega)), nI_clamp (by omega), if_neg (by omega)]
theorem upd_s {f : Ar} {k : Nat} {x : Int32} : upd f k x k = x := by simp [upd]
theorem upd_n {f : Ar} {k j : Nat} {x : Int32} (h : j ≠ k) : upd f k x j = f j := by simp [upd, h]
theorem i_le {a b : Nat} (ha : a < 2 ^ 31) (hb : b < 2 ^ 31) : (nI a ≤ nI b) = (a ≤ b) := propext (nI_leI ha hb)
theorem i_lt {a b : Nat} (ha : a < 2 ^ 31) (hb : b < 2 ^ 31) : (nI a < nI b) = (a < b) := propext (nI_ltI ha hb)
theorem i_eq {a b : Nat} (ha : a < 2 ^ 31) (hb : b < 2 ^ 31) : (nI a = nI b) = (a = b) := propext (nI_eq ha hb)
theorem c8 {k : Nat} (h : k < 8) : ¬ (8 : Int32) ≤ nI k := nI_ge (a := k) (b := 8) h (by omega)
theorem c8l {k : Nat} (h : k < 8) : nI k < (8 : Int32) := nI_lt (a := k) (b := 8) h (by omega)
theorem c40 {k : Nat} (h : k < 40) : ¬ (40 : Int32) ≤ nI k := nI_ge (a := k) (b := 40) h (by omega)
/-- an Int32 is a number below n, or it is refused by both tests -/
theorem pick (x : Int32) (n : Nat) (hn : n < 2 ^ 31) : (∃ j, j < n ∧ x = nI j) ∨ x < 0 ∨ (¬ x < 0 ∧ nI n ≤ x) := by
  rcases pk_ix x hn with h | h | h
  · exact Or.inr (Or.inl h)
  · by_cases h0 : x < 0
    · exact Or.inr (Or.inl h0)
    · exact Or.inr (Or.inr ⟨h0, h⟩)
  · exact Or.inl h
theorem bit1 : ∀ x : Int32, x &&& 1 = 0 ∨ x &&& 1 = 1 := by
  intro x
  obtain ⟨j, hj, h⟩ := pk_andE x (m := 1) 1 (by decide)
  rcases (show j = 0 ∨ j = 1 by omega) with rfl | rfl
  · exact Or.inl h
  · exact Or.inr h
/-- membership of a test in a set of bits, as the code asks it -/
def hasB (s : Int32) (t : Int32) : Bool := decide (¬ ((s >>> (t &&& 31)) &&& 1) = 0)
theorem isIn_eq (t s : Int32) : f_X6_isIn t s = some (hasB s t) := by
  unfold f_X6_isIn hasB
  by_cases h : ((s >>> (t &&& 31)) &&& 1) = 0
  · rw [if_pos h]
    simp [h]
  · rw [if_neg h]
    simp [h]
theorem has_eq (s t : Int32) : f_X7_has s t = some (hasB s t) := by
  unfold f_X7_has hasB
  rcases bit1 (s >>> (t &&& 31)) with h | h
  · rw [h]
    rfl
  · rw [h]
    rfl
theorem oneIf_eq (b : Bool) : f_X6_oneIf (b2i b) = some (b2i b) := by cases b <;> rfl
theorem hasB_nat : ∀ s, s < 256 → ∀ t, t < 8 → hasB (nI s) (nI t) = s.testBit t := by decide +kernel
def bitB (t : Nat) : Int32 := (1 : Int32) <<< (nI t &&& 31)
theorem bitB_nat : ∀ t, t < 8 → bitB t = nI (2 ^ t) := by decide +kernel
theorem or_nat (a b : Nat) (ha : a < 2 ^ 31) (hb : b < 2 ^ 31) : nI a ||| nI b = nI (a ||| b) := by
  have h1 : (nI a ||| nI b).toBitVec = (nI (a ||| b)).toBitVec := by
    show BitVec.ofNat 32 a ||| BitVec.ofNat 32 b = BitVec.ofNat 32 (a ||| b)
    apply BitVec.eq_of_toNat_eq
    simp [BitVec.toNat_or, BitVec.toNat_ofNat]
  exact Int32.toBitVec_inj.mp h1
theorem and_nat (a b : Nat) (ha : a < 2 ^ 31) (hb : b < 2 ^ 31) : nI a &&& nI b = nI (a &&& b) := by
  have h1 : (nI a &&& nI b).toBitVec = (nI (a &&& b)).toBitVec := by
    show BitVec.ofNat 32 a &&& BitVec.ofNat 32 b = BitVec.ofNat 32 (a &&& b)
    apply BitVec.eq_of_toNat_eq
    simp [BitVec.toNat_and, BitVec.toNat_ofNat]
  exact Int32.toBitVec_inj.mp h1
theorem xor_nat (a b : Nat) (ha : a < 2 ^ 31) (hb : b < 2 ^ 31) : nI a ^^^ nI b = nI (a ^^^ b) := by
  have h1 : (nI a ^^^ nI b).toBitVec = (nI (a ^^^ b)).toBitVec := by
    show BitVec.ofNat 32 a ^^^ BitVec.ofNat 32 b = BitVec.ofNat 32 (a ^^^ b)
    apply BitVec.eq_of_toNat_eq
    simp [BitVec.toNat_xor, BitVec.toNat_ofNat]
  exact Int32.toBitVec_inj.mp h1
theorem and_xor_d (x y z : Int32) : x &&& (y ^^^ z) = (x &&& y) ^^^ (x &&& z) := by
  apply Int32.toBitVec_inj.mp
  show x.toBitVec &&& (y.toBitVec ^^^ z.toBitVec) = (x.toBitVec &&& y.toBitVec) ^^^ (x.toBitVec &&& z.toBitVec)
  apply BitVec.eq_of_getLsbD_eq
  intro i hi
  simp only [BitVec.getLsbD_and, BitVec.getLsbD_xor]
  cases x.toBitVec.getLsbD i <;> simp
/-- a set without another -/
def mns (a b : Nat) : Nat := a &&& (255 ^^^ b)
theorem mns_nat : ∀ a, a < 256 → ∀ b, b < 256 → nI a &&& (nI b ^^^ (-1)) = nI (mns a b) := by
  intro a ha b hb
  have h1 : nI b ^^^ (-1) = (nI b ^^^ nI 255) ^^^ (nI 255 ^^^ (-1)) := by
    rw [Int32.xor_assoc, ← Int32.xor_assoc (nI 255), Int32.xor_self, Int32.zero_xor]
  have h0 : ∀ a, a < 256 → nI a &&& (nI 255 ^^^ (-1)) = 0 := by decide +kernel
  have h2 : ∀ a, a < 256 → ∀ c, c < 256 → nI a &&& (nI c ^^^ (nI 255 ^^^ (-1))) = nI a &&& nI c := by
    intro a ha c _
    rw [and_xor_d, h0 a ha, Int32.xor_zero]
  have h3 : b ^^^ 255 < 2 ^ 8 := Nat.xor_lt_two_pow (by omega) (by omega)
  rw [h1, xor_nat b 255 (by omega) (by omega), h2 a ha _ (by omega), and_nat a _ (by omega) (by omega)]
  unfold mns
  rw [Nat.xor_comm 255 b]
theorem mns_bit (a b t : Nat) (hb : b < 256) (ht : t < 8) : (mns a b).testBit t = (a.testBit t && !b.testBit t) := by
  unfold mns
  rw [Nat.testBit_and, Nat.testBit_xor]
  have h : (255 : Nat).testBit t = true := by
    rcases (show t = 0 ∨ t = 1 ∨ t = 2 ∨ t = 3 ∨ t = 4 ∨ t = 5 ∨ t = 6 ∨ t = 7 by omega) with rfl | rfl | rfl | rfl | rfl | rfl | rfl | rfl <;> decide
  rw [h]
  cases b.testBit t <;> rfl
theorem mns_lt {a b : Nat} (ha : a < 256) : mns a b < 256 := by
  unfold mns
  exact Nat.lt_of_le_of_lt Nat.and_le_left ha
/-- sets of tests below 8 are told by their bits -/
theorem set_ext {a b : Nat} (ha : a < 256) (hb : b < 256) (h : ∀ t, t < 8 → a.testBit t = b.testBit t) : a = b := by
  apply Nat.eq_of_testBit_eq
  intro i
  by_cases hi : i < 8
  · exact h i hi
  · rw [Nat.testBit_lt_two_pow (Nat.lt_of_lt_of_le ha (show 256 ≤ 2 ^ i from Nat.pow_le_pow_right (n := 2) (by omega) (by omega : 8 ≤ i))), Nat.testBit_lt_two_pow (Nat.lt_of_lt_of_le hb (show 256 ≤ 2 ^ i from Nat.pow_le_pow_right (n := 2) (by omega) (by omega : 8 ≤ i)))]
theorem r0 {α : Type} {f : Ar} {k : Int32 → Option α} : rd f 52 (0 : Int32) k = k (f 0) := rd_at 0 rfl (by omega) (by omega)
theorem r1 {α : Type} {f : Ar} {k : Int32 → Option α} : rd f 52 (1 : Int32) k = k (f 1) := rd_at 1 rfl (by omega) (by omega)
theorem r2 {α : Type} {f : Ar} {k : Int32 → Option α} : rd f 52 (2 : Int32) k = k (f 2) := rd_at 2 rfl (by omega) (by omega)
theorem r3 {α : Type} {f : Ar} {k : Int32 → Option α} : rd f 52 (3 : Int32) k = k (f 3) := rd_at 3 rfl (by omega) (by omega)
theorem r4 {α : Type} {f : Ar} {j : Nat} {k : Int32 → Option α} (h : j < 48) : rd f 52 ((4 : Int32) + nI j) k = k (f (4 + j)) := rd_at (4 + j) (nI_add 4 j) (by omega) (by omega)
theorem w0 {α : Type} {f : Ar} {x : Int32} {k : Ar → Option α} : wr f 52 (0 : Int32) x k = k (upd f 0 x) := wr_at 0 rfl (by omega) (by omega)
theorem w1 {α : Type} {f : Ar} {x : Int32} {k : Ar → Option α} : wr f 52 (1 : Int32) x k = k (upd f 1 x) := wr_at 1 rfl (by omega) (by omega)
theorem w2 {α : Type} {f : Ar} {x : Int32} {k : Ar → Option α} : wr f 52 (2 : Int32) x k = k (upd f 2 x) := wr_at 2 rfl (by omega) (by omega)
theorem w3 {α : Type} {f : Ar} {x : Int32} {k : Ar → Option α} : wr f 52 (3 : Int32) x k = k (upd f 3 x) := wr_at 3 rfl (by omega) (by omega)
theorem w4 {α : Type} {f : Ar} {j : Nat} {x : Int32} {k : Ar → Option α} (h : j < 48) : wr f 52 ((4 : Int32) + nI j) x k = k (upd f (4 + j) x) := wr_at (4 + j) (nI_add 4 j) (by omega) (by omega)
theorem c1 {k : Nat} (h : 1 ≤ k) (h2 : k < 2 ^ 31) : ¬ nI k < (1 : Int32) := nI_nlt (a := k) (b := 1) h h2
