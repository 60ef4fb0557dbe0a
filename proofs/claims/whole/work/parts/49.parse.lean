/-! the two readers of the orders -/
theorem bd7_s {α1 α2 α3 α4 α5 α6 α7 β : Type} (a1 : α1) (a2 : α2) (a3 : α3) (a4 : α4) (a5 : α5) (a6 : α6) (a7 : α7) (k : α1 → α2 → α3 → α4 → α5 → α6 → α7 → Option β) : bd7 (some (a1, a2, a3, a4, a5, a6, a7)) k = k a1 a2 a3 a4 a5 a6 a7 := rfl
theorem bd5_s {α1 α2 α3 α4 α5 β : Type} (a1 : α1) (a2 : α2) (a3 : α3) (a4 : α4) (a5 : α5) (k : α1 → α2 → α3 → α4 → α5 → Option β) : bd5 (some (a1, a2, a3, a4, a5)) k = k a1 a2 a3 a4 a5 := rfl
def dg (x : Int32) : Bool := !decide (x < 48) && !decide ((57 : Int32) < x)
def DD (K : Nat) (tx : Ar) (i : Nat) : Bool := decide (i < K) && dg (tx i)
def QQ (K : Nat) (tx : Ar) (x : Int32) (i : Nat) : Bool := decide (i < K) && decide (tx i = x)
theorem le_eq (x a : Int32) : (!decide (x < a) && !decide (a < x)) = decide (x = a) := by
  by_cases h : x = a
  · subst h
    simp
  · have h1 : x < a ∨ a < x := by
      rcases Int.lt_trichotomy x.toInt a.toInt with q | q | q
      · exact Or.inl (Int32.lt_iff_toInt_lt.mpr q)
      · exact absurd (Int32.toInt_inj.mp q) h
      · exact Or.inr (Int32.lt_iff_toInt_lt.mpr q)
    rcases h1 with h1 | h1 <;> simp [h, h1]
theorem isAt_d {K i : Nat} {tx : Ar} (hK : K ≤ 150) (hi : i ≤ K) : f_X7_isAt (nI K) (nI i) tx 48 57 = some (DD K tx i) := by
  unfold f_X7_isAt DD
  by_cases h : i < K
  · rw [if_neg (nI_ge h (by omega)), rd_at i rfl (by omega) (by omega), in_eq, bd1_s, if_b0]
    simp only [h, decide_true, Bool.true_and]
    unfold dg
    cases (!decide (tx i < 48) && !decide ((57 : Int32) < tx i)) <;> rfl
  · rw [if_pos (nI_le (by omega) (by omega))]
    simp [h]
theorem isAt_q {K i : Nat} {tx : Ar} {x : Int32} (hK : K ≤ 150) (hi : i ≤ K) : f_X7_isAt (nI K) (nI i) tx x x = some (QQ K tx x i) := by
  unfold f_X7_isAt QQ
  by_cases h : i < K
  · rw [if_neg (nI_ge h (by omega)), rd_at i rfl (by omega) (by omega), in_eq, bd1_s, if_b0, le_eq]
    simp only [h, decide_true, Bool.true_and]
    cases decide (tx i = x) <;> rfl
  · rw [if_pos (nI_le (by omega) (by omega))]
    simp [h]
theorem stepC {K i n : Nat} {tb tx : Ar} {sz wa be fi : Int32} {le nu : Ar} (hK : K ≤ 150) (ht : ∀ i, i < K → tb i = tx i) (hi : i < K) : b_X0_read_12 (nI K) tb (n + 1) (nI i) sz wa be fi le nu = bd7 (f_X0_takes sz wa be fi le nu (tx i)) (fun r6 w7 w8 w9 w10 w11 w12 => if b2i r6 = 0 then some (nI i, w7, w8, w9, w10, w11, w12) else b_X0_read_12 (nI K) tb n (nI (i + 1)) w7 w8 w9 w10 w11 w12) := by
  have hnth : f_X5_nth (nI K) tb (nI i) = some (tx i) := by
    unfold f_X5_nth
    rw [if_neg (nI_pos (by omega)), if_neg (nI_ge hi (by omega)), if_neg (show ¬ (150 : Int32) ≤ nI i from nI_ge (b := 150) (by omega) (by omega)), rd_at i rfl (by omega) (by omega), ht i hi]
  rw [b_X0_read_12, if_neg (nI_ge hi (by omega)), hnth, bd1_s]
  simp only [nm, nI_1]
theorem blk {K : Nat} {tb tx : Ar} (hK : K ≤ 150) (ht : ∀ i, i < K → tb i = tx i) {sz wa be : Int32} {le nu : Ar} : ∀ (d i m n : Nat) (fi : Int32), i + d = K → d < m → K < n + i → ∃ i2 n2 fi2, i ≤ i2 ∧ i2 ≤ K ∧ K < n2 + i2 ∧ b_X7_blanks_0 (nI K) tx m (nI i) = some (nI i2) ∧ b_X0_read_12 (nI K) tb n (nI i) sz wa be fi le nu = b_X0_read_12 (nI K) tb n2 (nI i2) sz wa be fi2 le nu ∧ QQ K tx 32 i2 = false ∧ (fi2 = 0 ∨ (fi2 = fi ∧ i2 = i)) := by
  intro d
  induction d with
  | zero =>
    intro i m n fi hd hm hn
    obtain ⟨m, rfl⟩ : ∃ z, m = z + 1 := ⟨m - 1, by omega⟩
    have hq : QQ K tx 32 i = false := by unfold QQ; rw [decide_eq_false (by omega)]; rfl
    refine ⟨i, n, fi, by omega, by omega, hn, ?_, rfl, hq, Or.inr ⟨rfl, rfl⟩⟩
    rw [b_X7_blanks_0, isAt_q hK (by omega), hq, bd1_s, if_b0]
    rfl
  | succ d ih =>
    intro i m n fi hd hm hn
    obtain ⟨m, rfl⟩ : ∃ z, m = z + 1 := ⟨m - 1, by omega⟩
    obtain ⟨n, rfl⟩ : ∃ z, n = z + 1 := ⟨n - 1, by omega⟩
    cases hq : QQ K tx 32 i
    · refine ⟨i, n + 1, fi, by omega, by omega, hn, ?_, rfl, hq, Or.inr ⟨rfl, rfl⟩⟩
      rw [b_X7_blanks_0, isAt_q hK (by omega), hq, bd1_s, if_b0]
      rfl
    · have hx : tx i = 32 := by
        unfold QQ at hq
        simp at hq
        exact hq.2
      obtain ⟨i2, n2, fi2, q1, q2, q3, q4, q5, q6, q7⟩ := ih (i + 1) m n 0 (by omega) (by omega) (by omega)
      refine ⟨i2, n2, fi2, by omega, q2, q3, ?_, ?_, q6, Or.inl ?_⟩
      · rw [b_X7_blanks_0, isAt_q hK (by omega), hq, bd1_s, if_b0, if_pos rfl]
        simp only [nm, nI_1]
        exact q4
      · rw [stepC hK ht (by omega), hx]
        unfold f_X0_takes
        rw [if_pos rfl, bd7_s, if_b0, if_pos rfl]
        exact q5
      · rcases q7 with q7 | ⟨q7, -⟩ <;> exact q7
theorem ix5n (N g : Nat) : nI N * (5 : Int32) + nI g = nI (5 * N + g) := ix5 N g
theorem setN {N g : Nat} {nu : Ar} {x : Int32} (h : 5 * N + g < 375) : f_X0_setNumber (nI N) (nI (g + 1)) nu x = some (upd nu (5 * N + g) x) := by
  unfold f_X0_setNumber
  rw [ix5n, show 5 * N + (g + 1) = 5 * N + g + 1 from rfl, sub_neg, m1_n]
  simp only [nm]
  rw [if_neg (nI_pos (by omega)), if_neg (show ¬ (375 : Int32) ≤ nI (5 * N + g) from nI_ge (b := 375) h (by omega)), wr_at (5 * N + g) rfl h (by omega)]
theorem numC {N g : Nat} {nu : Ar} (h : 5 * N + g < 375) : f_X0_number nu (nI N) (nI g) = some (nu (5 * N + g)) := by
  unfold f_X0_number
  rw [ix5n]
  simp only [nm]
  rw [if_neg (nI_pos (by omega)), if_neg (show ¬ (375 : Int32) ≤ nI (5 * N + g) from nI_ge (b := 375) h (by omega)), rd_at (5 * N + g) rfl h (by omega)]
theorem dg_no {x : Int32} (h : dg x = true) : ¬ x < 48 ∧ ¬ (57 : Int32) < x ∧ ¬ x = 32 ∧ ¬ x = 59 := by
  unfold dg at h
  simp at h
  refine ⟨Int32.not_lt.mpr h.1, Int32.not_lt.mpr h.2, ?_, ?_⟩
  · intro q
    subst q
    exact absurd h.1 (by decide)
  · intro q
    subst q
    exact absurd h.2 (by decide)
theorem wa_n {w : Nat} (h : w ≤ 5) : ¬ nI w = (-1 : Int32) := not_neg1 (by omega)
/-- a figure -/
theorem fig0 {K i n w g N : Nat} {tb tx : Ar} {le nu : Ar} (hK : K ≤ 150) (ht : ∀ i, i < K → tb i = tx i) (hw : w ≤ 5) (hg : g < w) (hN : N < 75) (hd : DD K tx i = true) : b_X0_read_12 (nI K) tb (n + 1) (nI i) (nI N) (nI w) (nI g) 0 le nu = b_X0_read_12 (nI K) tb n (nI (i + 1)) (nI N) (nI w) (nI (g + 1)) 1 le (upd nu (5 * N + g) (tx i - 48)) := by
  unfold DD at hd
  simp at hd
  obtain ⟨h1, h2, h3, h4⟩ := dg_no hd.2
  rw [stepC hK ht hd.1]
  unfold f_X0_takes
  rw [if_neg h3, if_neg (wa_n hw), if_neg h4]
  unfold f_X0_takesFigure
  rw [if_neg h1, if_neg h2, if_neg (show ¬ (0 : Int32) = 2 by decide), if_pos rfl, if_neg (show ¬ nI g = nI w by rw [nI_eq (by omega) (by omega)]; omega)]
  unfold b_X0_takesFigure_40
  rw [if_pos rfl]
  simp only [nm, nI_1]
  rw [setN (by omega), bd1_s, bd4_s, bd7_s, if_b0, if_pos rfl]
  rfl
theorem fig1 {K i n w g N : Nat} {tb tx : Ar} {le nu : Ar} (hK : K ≤ 150) (ht : ∀ i, i < K → tb i = tx i) (hw : w ≤ 5) (hg : g < w) (hN : N < 75) (hd : DD K tx i = true) : b_X0_read_12 (nI K) tb (n + 1) (nI i) (nI N) (nI w) (nI (g + 1)) 1 le nu = b_X0_read_12 (nI K) tb n (nI (i + 1)) (nI N) (nI w) (nI (g + 1)) 2 le (upd nu (5 * N + g) ((10 * nu (5 * N + g) + tx i) - 48)) := by
  unfold DD at hd
  simp at hd
  obtain ⟨h1, h2, h3, h4⟩ := dg_no hd.2
  rw [stepC hK ht hd.1]
  unfold f_X0_takes
  rw [if_neg h3, if_neg (wa_n hw), if_neg h4]
  unfold f_X0_takesFigure
  rw [if_neg h1, if_neg h2, if_neg (show ¬ (1 : Int32) = 2 by decide), if_neg (show ¬ (1 : Int32) = 0 by decide)]
  unfold b_X0_takesFigure_40
  rw [if_neg (show ¬ (1 : Int32) = 0 by decide), sub_neg, m1_n, numC (by omega), bd1_s, setN (by omega), bd1_s]
  simp only [nm]
  rw [bd4_s, bd7_s, if_b0, if_pos rfl]
  rfl
theorem fig2 {K i n w g N : Nat} {tb tx : Ar} {le nu : Ar} (hK : K ≤ 150) (ht : ∀ i, i < K → tb i = tx i) (hw : w ≤ 5) (hd : DD K tx i = true) : ∃ a1 a2 a3 a4 a5 a6, b_X0_read_12 (nI K) tb (n + 1) (nI i) (nI N) (nI w) (nI g) 2 le nu = some (nI i, a1, a2, a3, a4, a5, a6) := by
  unfold DD at hd
  simp at hd
  obtain ⟨h1, h2, h3, h4⟩ := dg_no hd.2
  rw [stepC hK ht hd.1]
  unfold f_X0_takes
  rw [if_neg h3, if_neg (wa_n hw), if_neg h4]
  unfold f_X0_takesFigure
  rw [if_neg h1, if_neg h2, if_pos rfl, bd4_s, bd7_s, if_b0, if_neg (by decide)]
  exact ⟨_, _, _, _, _, _, rfl⟩
theorem endK {K n w : Nat} {tb : Ar} {sz be fi : Int32} {le nu : Ar} (hK : K ≤ 150) (hw : w ≤ 5) : ∃ a1 a2 a3 a4 a5 a6, b_X0_read_12 (nI K) tb (n + 1) (nI K) sz (nI w) be fi le nu = some (nI K, a1, a2, a3, a4, a5, a6) := by
  rw [b_X0_read_12, if_pos (nI_le (by omega) (by omega)), if_neg (wa_n hw)]
  exact ⟨_, _, _, _, _, _, rfl⟩
/-- no figure where a number is wanted -/
theorem fail_n {K i n w g : Nat} {tb tx : Ar} {sz fi : Int32} {le nu : Ar} (hK : K ≤ 150) (ht : ∀ i, i < K → tb i = tx i) (hw : w ≤ 5) (hg : g < w) (hi : i ≤ K) (hn : K < n + i) (hd : DD K tx i = false) (hq : QQ K tx 32 i = false) : ∃ a1 a2 a3 a4 a5 a6, b_X0_read_12 (nI K) tb n (nI i) sz (nI w) (nI g) fi le nu = some (nI i, a1, a2, a3, a4, a5, a6) := by
  obtain ⟨n, rfl⟩ : ∃ z, n = z + 1 := ⟨n - 1, by omega⟩
  by_cases hK2 : i < K
  · unfold DD at hd
    unfold QQ at hq
    rw [decide_eq_true hK2, Bool.true_and] at hd hq
    have h3 : ¬ tx i = 32 := by simpa using hq
    rw [stepC hK ht hK2]
    unfold f_X0_takes
    rw [if_neg h3, if_neg (wa_n hw)]
    by_cases h4 : tx i = 59
    · rw [if_pos h4]
      unfold f_X0_endsOrder
      rw [if_neg (nI_ge hg (by omega)), bd3_s, bd7_s, if_b0, if_neg (by decide)]
      exact ⟨_, _, _, _, _, _, rfl⟩
    · rw [if_neg h4]
      unfold f_X0_takesFigure
      by_cases h1 : tx i < 48
      · rw [if_pos h1, bd4_s, bd7_s, if_b0, if_neg (by decide)]
        exact ⟨_, _, _, _, _, _, rfl⟩
      · have h2 : (57 : Int32) < tx i := by
          by_cases h2 : (57 : Int32) < tx i
          · exact h2
          · unfold dg at hd
            simp [h1, h2] at hd
        rw [if_neg h1, if_pos h2, bd4_s, bd7_s, if_b0, if_neg (by decide)]
        exact ⟨_, _, _, _, _, _, rfl⟩
  · have : i = K := by omega
    subst this
    exact endK hK hw
/-- no semicolon where one is wanted -/
theorem fail_e {K i n w : Nat} {tb tx : Ar} {sz fi : Int32} {le nu : Ar} (hK : K ≤ 150) (ht : ∀ i, i < K → tb i = tx i) (hw : w ≤ 5) (hi : i ≤ K) (hn : K < n + i) (hd : fi = 0 ∨ DD K tx i = false) (hq : QQ K tx 32 i = false) (he : QQ K tx 59 i = false) : ∃ a1 a2 a3 a4 a5 a6, b_X0_read_12 (nI K) tb n (nI i) sz (nI w) (nI w) fi le nu = some (nI i, a1, a2, a3, a4, a5, a6) := by
  obtain ⟨n, rfl⟩ : ∃ z, n = z + 1 := ⟨n - 1, by omega⟩
  by_cases hK2 : i < K
  · unfold DD at hd
    unfold QQ at hq he
    rw [decide_eq_true hK2, Bool.true_and] at hd hq he
    have h3 : ¬ tx i = 32 := by simpa using hq
    have h4 : ¬ tx i = 59 := by simpa using he
    rw [stepC hK ht hK2]
    unfold f_X0_takes
    rw [if_neg h3, if_neg (wa_n hw), if_neg h4]
    unfold f_X0_takesFigure
    by_cases h1 : tx i < 48
    · rw [if_pos h1, bd4_s, bd7_s, if_b0, if_neg (by decide)]
      exact ⟨_, _, _, _, _, _, rfl⟩
    · by_cases h2 : (57 : Int32) < tx i
      · rw [if_neg h1, if_pos h2, bd4_s, bd7_s, if_b0, if_neg (by decide)]
        exact ⟨_, _, _, _, _, _, rfl⟩
      · rcases hd with rfl | hd
        · rw [if_neg h1, if_neg h2, if_neg (show ¬ (0 : Int32) = 2 by decide), if_pos rfl, if_pos rfl, bd4_s, bd7_s, if_b0, if_neg (by decide)]
          exact ⟨_, _, _, _, _, _, rfl⟩
        · unfold dg at hd
          simp [h1, h2] at hd
  · have : i = K := by omega
    subst this
    exact endK hK hw
theorem fails_eq (s w : Int32) : f_X7_fails s w = some (false, s) := rfl
theorem mul0 (x : Int32) : (10 : Int32) * 0 + x = x := by
  rw [Int32.mul_zero, Int32.zero_add]
/-- a number -/
theorem num_sim {K i n w g N : Nat} {tb tx : Ar} {fi wr : Int32} {le nu nuM : Ar} (hK : K ≤ 150) (ht : ∀ i, i < K → tb i = tx i) (hw : w ≤ 5) (hg : g < w) (hN : N < 75) (hi : i ≤ K) (hn : K < n + i) (hd : fi = 0 ∨ DD K tx i = false) :
    (∃ p a1 a2 a3 a4 a5 a6 s nuM', p ≤ 150 ∧ b_X0_read_12 (nI K) tb n (nI i) (nI N) (nI w) (nI g) fi le nu = some (nI p, a1, a2, a3, a4, a5, a6) ∧ f_X7_takesNumber (nI K) (nI i) wr tx nuM (nI (5 * N + g)) = some (false, s, nI p, nuM')) ∨
    (∃ i2 n2 fi2 nu2 nuM2, i ≤ i2 ∧ i2 ≤ K ∧ K < n2 + i2 ∧ b_X0_read_12 (nI K) tb n (nI i) (nI N) (nI w) (nI g) fi le nu = b_X0_read_12 (nI K) tb n2 (nI i2) (nI N) (nI w) (nI (g + 1)) fi2 le nu2 ∧ f_X7_takesNumber (nI K) (nI i) wr tx nuM (nI (5 * N + g)) = some (true, nI i2, wr, nuM2) ∧ (fi2 = 0 ∨ DD K tx i2 = false) ∧ nu2 (5 * N + g) = nuM2 (5 * N + g) ∧ ∀ j, j ≠ 5 * N + g → nu2 j = nu j ∧ nuM2 j = nuM j) := by
  obtain ⟨i1, n1, fi1, q1, q2, q3, q4, q5, q6, q7⟩ := blk hK ht (sz := nI N) (wa := nI w) (be := nI g) (le := le) (nu := nu) (K - i) i FU n fi (by omega) (FU_big (by omega)) hn
  have hd1 : fi1 = 0 ∨ DD K tx i1 = false := by
    rcases q7 with q7 | ⟨rfl, rfl⟩
    · exact Or.inl q7
    · exact hd
  have hbl : f_X7_blanks (nI K) (nI i) tx = some (nI i1) := q4
  rw [q5]
  obtain ⟨m, hm⟩ : ∃ m, FU = m + 3 := ⟨FU - 3, by have := FU_big (n := 9) (by omega); omega⟩
  unfold f_X7_takesNumber
  rw [hbl, bd1_s, hm, b_X7_takesNumber_11, isAt_d hK q2, bd1_s, if_b0]
  have hidx : 5 * N + g < 375 := by omega
  cases hD : DD K tx i1
  · obtain ⟨a1, a2, a3, a4, a5, a6, hf⟩ := fail_n (sz := nI N) (fi := fi1) (le := le) (nu := nu) hK ht hw hg q2 q3 hD q6
    refine Or.inl ⟨i1, a1, a2, a3, a4, a5, a6, nI i1, upd nuM (5 * N + g) 0, by omega, hf, ?_⟩
    rw [if_neg (by decide), wr_at (5 * N + g) rfl hidx (by omega), if_neg (nI_nlt (by omega) (by omega)), fails_eq, bd2_s, if_b0]
    rfl
  · have hf0 : fi1 = 0 := by
      rcases hd1 with h | h
      · exact h
      · rw [hD] at h; cases h
    subst hf0
    have hi1 : i1 < K := by
      unfold DD at hD
      simp at hD
      exact hD.1
    obtain ⟨n1, rfl⟩ : ∃ z, n1 = z + 1 := ⟨n1 - 1, by omega⟩
    rw [if_pos rfl, if_neg (show ¬ nI i1 = nI i1 + (2 : Int32) by rw [show nI i1 + (2 : Int32) = nI (i1 + 2) from nI_add i1 2, nI_eq (by omega) (by omega)]; omega), rd_at i1 rfl (by omega) (by omega), mul0, fig0 hK ht hw hg hN hD]
    simp only [nm, nI_1]
    rw [b_X7_takesNumber_11, isAt_d hK (by omega), bd1_s, if_b0]
    cases hD2 : DD K tx (i1 + 1)
    · refine Or.inr ⟨i1 + 1, n1, 1, upd nu (5 * N + g) (tx i1 - 48), upd nuM (5 * N + g) (tx i1 - 48), by omega, by omega, by omega, rfl, ?_, Or.inr hD2, by rw [upd_s, upd_s], fun j hj => ⟨upd_n hj, upd_n hj⟩⟩
      rw [if_neg (by decide), wr_at (5 * N + g) rfl hidx (by omega), if_pos (nI_lt (by omega) (by omega))]
    · have hi2 : i1 + 1 < K := by
        unfold DD at hD2
        simp at hD2
        exact hD2.1
      obtain ⟨n1, rfl⟩ : ∃ z, n1 = z + 1 := ⟨n1 - 1, by omega⟩
      rw [if_pos rfl, if_neg (show ¬ nI (i1 + 1) = nI i1 + (2 : Int32) by rw [show nI i1 + (2 : Int32) = nI (i1 + 2) from nI_add i1 2, nI_eq (by omega) (by omega)]; omega), rd_at (i1 + 1) rfl (by omega) (by omega), fig1 hK ht hw hg hN hD2, upd_s]
      simp only [nm, nI_1]
      rw [b_X7_takesNumber_11, isAt_d hK (by omega), bd1_s, if_b0]
      cases hD3 : DD K tx (i1 + 1 + 1)
      · refine Or.inr ⟨i1 + 1 + 1, n1, 2, upd (upd nu (5 * N + g) (tx i1 - 48)) (5 * N + g) (10 * (tx i1 - 48) + tx (i1 + 1) - 48), upd nuM (5 * N + g) (10 * (tx i1 - 48) + tx (i1 + 1) - 48), by omega, by omega, by omega, rfl, ?_, Or.inr hD3, by rw [upd_s, upd_s], fun j hj => ⟨by rw [upd_n hj, upd_n hj], upd_n hj⟩⟩
        rw [if_neg (by decide), wr_at (5 * N + g) rfl hidx (by omega), if_pos (nI_lt (by omega) (by omega))]
      · have hi3 : i1 + 1 + 1 < K := by
          unfold DD at hD3
          simp at hD3
          exact hD3.1
        obtain ⟨n1, rfl⟩ : ∃ z, n1 = z + 1 := ⟨n1 - 1, by omega⟩
        obtain ⟨a1, a2, a3, a4, a5, a6, hf⟩ := fig2 (n := n1) (N := N) (g := g + 1) (le := le) (nu := upd (upd nu (5 * N + g) (tx i1 - 48)) (5 * N + g) (10 * (tx i1 - 48) + tx (i1 + 1) - 48)) hK ht hw hD3
        refine Or.inl ⟨i1 + 1 + 1, a1, a2, a3, a4, a5, a6, nI (i1 + 1 + 1), nuM, by omega, hf, ?_⟩
        rw [if_pos rfl, if_pos (show nI (i1 + 1 + 1) = nI i1 + (2 : Int32) from (nI_add i1 2).symm), fails_eq, bd2_s]
