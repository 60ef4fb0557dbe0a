/-! the end of a call that changes the suite; the plain getters -/
theorem bd2_s {α1 α2 β : Type} (a1 : α1) (a2 : α2) (k : α1 → α2 → Option β) : bd2 (some (a1, a2)) k = k a1 a2 := rfl
theorem bd3_s {α1 α2 α3 β : Type} (a1 : α1) (a2 : α2) (a3 : α3) (k : α1 → α2 → α3 → Option β) : bd3 (some (a1, a2, a3)) k = k a1 a2 a3 := rfl
theorem bd4_s {α1 α2 α3 α4 β : Type} (a1 : α1) (a2 : α2) (a3 : α3) (a4 : α4) (k : α1 → α2 → α3 → α4 → Option β) : bd4 (some (a1, a2, a3, a4)) k = k a1 a2 a3 a4 := rfl
theorem bd6_s {α1 α2 α3 α4 α5 α6 β : Type} (a1 : α1) (a2 : α2) (a3 : α3) (a4 : α4) (a5 : α5) (a6 : α6) (k : α1 → α2 → α3 → α4 → α5 → α6 → Option β) : bd6 (some (a1, a2, a3, a4, a5, a6)) k = k a1 a2 a3 a4 a5 a6 := rfl
theorem settle {σ : Sv} {P : List Sv} {b n f pz mk sn ans : Int32} {aside past rf : Ar} {pM pT : Nat → Ar} {pN pS pB pO : Nat → Int32} (hok : okS σ) (hokP : ∀ τ ∈ P, okS τ) (hM : MS σ aside) (hR : Ring P pz mk pM pT pN pS pB pO) (hk : ∃ k, k < 6 ∧ mk = nI k ∧ CS σ (pS k) (pB k) (pO k) (pM k) (pN k) (pT k)) (hS : Stk P sn past) (hc : Cnt b n f rf) (hA : okA ans) :
    ∃ P' b' n' f' pz' mk' sn' past' rf', f_X6_settled b n f pz mk ans = some (ans, b', n', f', pz', mk') ∧ f_X7_finished sn aside past rf ans = some (ans, sn', past', rf') ∧ (∀ τ ∈ P', okS τ) ∧ Ring P' pz' mk' pM pT pN pS pB pO ∧ Stk P' sn' past' ∧ Cnt b' n' f' rf' := by
  unfold f_X6_settled f_X7_finished
  rcases hA with ⟨a, ha, rfl⟩ | hA
  · obtain ⟨pz', mk', q1, q2⟩ := keep_eq hR hk
    obtain ⟨sn', past', q3, q4⟩ := remem_eq hok hokP hR.1 hS hM
    refine ⟨push σ P, b, n, f, pz', mk', sn', past', rf, ?_, ?_, push_ok hok hokP, q2, q4, hc⟩
    · rw [if_pos (nI_pos' (by omega)), q1, bd2_s]
    · rw [if_pos (Int32.lt_of_lt_of_le (show (-2 : Int32) < 0 by decide) (nI_pos' (by omega))), q3, bd2_s]
  · obtain ⟨b', n', f', rf', q1, q2, q3⟩ := ref_sim hc hA
    have h1 : ¬ (0 : Int32) ≤ ans := by rcases hA with rfl | rfl | rfl <;> decide
    have h2 : ¬ (-2 : Int32) < ans := by rcases hA with rfl | rfl | rfl <;> decide
    exact ⟨P, b', n', f', pz, mk, sn, past, rf', by rw [if_neg h1, q1, bd4_s], by rw [if_neg h2, q2, bd2_s], hokP, hR, hS, q3⟩
theorem rng {x : Int32} (M : Nat) {m : Int32} (hm : m = nI M) (hM : M < 2 ^ 31 - 1) : (∃ j, j ≤ M ∧ x = nI j ∧ f_X7_in x 0 m = some true) ∨ (f_X7_in x 0 m = some false ∧ (x < 0 ∨ (¬ x < 0 ∧ nI (M + 1) ≤ x))) := by
  subst hm
  rw [in_eq]
  rcases pick x (M + 1) (by omega) with ⟨j, hj, rfl⟩ | h | ⟨h1, h2⟩
  · refine Or.inl ⟨j, by omega, rfl, ?_⟩
    have e1 : ¬ nI j < 0 := nI_pos (by omega)
    have e2 : ¬ nI M < nI j := nI_nlt (by omega) (by omega)
    simp [e1, e2]
  · exact Or.inr ⟨by simp [h], Or.inl h⟩
  · refine Or.inr ⟨?_, Or.inr ⟨h1, h2⟩⟩
    have e : nI M < x := by
      have h3 : nI M < nI (M + 1) := nI_lt (by omega) (by omega)
      exact Int32.lt_of_lt_of_le h3 h2
    simp [e]
theorem over {x : Int32} {M j : Nat} (h : nI (M + 1) ≤ x) (hj : j ≤ M) (hM : M < 2 ^ 31 - 1) : ¬ x ≤ nI j ∧ ¬ x = nI j ∧ ¬ x < nI j := by
  have h1 := Int32.le_iff_toInt_le.mp h
  rw [nI_toInt (by omega)] at h1
  refine ⟨?_, ?_, ?_⟩
  · rw [Int32.le_iff_toInt_le, nI_toInt (by omega)]; omega
  · intro q
    subst q
    rw [nI_toInt (by omega)] at h1
    omega
  · rw [Int32.lt_iff_toInt_lt, nI_toInt (by omega)]; omega
theorem under {x : Int32} {j : Nat} (h : x < 0) (hj : j < 2 ^ 31 - 1) : ¬ x = nI j := by
  intro q
  subst q
  exact nI_pos (by omega) h
theorem type_sim {k : Nat} {b n f len bytes : Int32} {rf tb tx : Ar} (x : Int32) (hc : Cnt b n f rf) (ht : Txt k len tb bytes tx) : ∃ r b' n' f' len' tb' bytes' rf' tx' k', f_X6_type b n f len tb x = some (r, b', n', f', len', tb') ∧ f_X7_type bytes rf tx x = some (r, bytes', rf', tx') ∧ Cnt b' n' f' rf' ∧ Txt k' len' tb' bytes' tx' := by
  obtain ⟨t1, rfl, rfl, t4⟩ := ht
  unfold f_X6_type f_X7_type
  rcases rng (x := x) 127 (m := 127) rfl (by omega) with ⟨j, hj, rfl, e1⟩ | ⟨e1, e2⟩
  · rw [if_neg (nI_pos (by omega)), if_pos (show nI j ≤ (127 : Int32) from nI_le (b := 127) hj (by omega)), e1, bd1_s, if_b0, if_pos rfl]
    by_cases h : k = 150
    · subst h
      obtain ⟨b', n', f', rf', q1, q2, q3⟩ := ref_sim (x := -4) hc (by simp)
      refine ⟨-4, b', n', f', nI 150, tb, nI 150, rf', tx, 150, ?_, ?_, q3, ⟨by omega, rfl, rfl, t4⟩⟩
      · rw [show f_X5_isFull (nI 150) = some true from rfl, bd1_s, if_b0, if_pos rfl, q1, bd4_s]
      · rw [if_pos (show nI 150 = (150 : Int32) from rfl), q2, bd2_s]
    · have hk : k < 150 := by omega
      refine ⟨nI (k + 1), b, n, f, nI (k + 1), upd tb k (nI j), nI (k + 1), rf, upd tx k (nI j), k + 1, ?_, ?_, hc, ⟨by omega, rfl, rfl, ?_⟩⟩
      · have hF : f_X5_isFull (nI k) = some false := by
          unfold f_X5_isFull
          rw [if_pos (show nI k < (150 : Int32) from nI_lt (a := k) (b := 150) hk (by omega))]
        rw [hF, bd1_s, if_b0, if_neg (by decide)]
        unfold f_X5_append
        rw [if_neg (nI_pos (by omega)), if_neg (show ¬ (150 : Int32) ≤ nI k from nI_ge (a := k) (b := 150) hk (by omega)), wr_at k rfl hk (by omega), nI_1]
        rfl
      · rw [if_neg (show ¬ nI k = (150 : Int32) by rw [show (150 : Int32) = nI 150 from rfl, nI_eq (by omega) (by omega)]; omega), wr_at k rfl hk (by omega), nI_1]
        rfl
      · intro i hi
        by_cases h2 : i = k
        · subst h2; rw [upd_s, upd_s]
        · rw [upd_n h2, upd_n h2]; exact t4 i (by omega)
  · obtain ⟨b', n', f', rf', q1, q2, q3⟩ := ref_sim (x := -2) hc (by simp)
    refine ⟨-2, b', n', f', nI k, tb, nI k, rf', tx, k, ?_, ?_, q3, ⟨t1, rfl, rfl, t4⟩⟩
    · rcases e2 with e2 | ⟨e2, e3⟩
      · rw [if_pos e2, q1, bd4_s]
      · rw [if_neg e2, if_neg (show ¬ x ≤ (127 : Int32) from (over (j := 127) e3 (by omega) (by omega)).1), q1, bd4_s]
    · rw [e1, bd1_s, if_b0, if_neg (by decide), q2, bd2_s]
theorem told_sim {P : List Sv} {k : Nat} {b n f len bytes pz mk sn : Int32} {rf tb tx past : Ar} {pM pT : Nat → Ar} {pN pS pB pO : Nat → Int32} (x : Int32) (hR : Ring P pz mk pM pT pN pS pB pO) (hS : Stk P sn past) (hc : Cnt b n f rf) (ht : Txt k len tb bytes tx) : ∃ r b' n' f' rf', f_X6_told b n f pz len x = some (r, b', n', f') ∧ f_X7_told sn bytes rf x = some (r, rf') ∧ Cnt b' n' f' rf' := by
  unfold f_X6_told f_X7_told
  rcases rng (x := x) 4 (m := 4) rfl (by omega) with ⟨j, hj, rfl, e1⟩ | ⟨e1, e2⟩
  · obtain ⟨c1, c2, c3⟩ := hc
    rw [e1, bd1_s, if_b0, if_pos rfl]
    have hc : Cnt b n f rf := ⟨c1, c2, c3⟩
    rcases (by omega : j = 0 ∨ j = 1 ∨ j = 2 ∨ j = 3 ∨ j = 4) with rfl | rfl | rfl | rfl | rfl
    · exact ⟨b, b, n, f, rf, rfl, by rw [c1]; rfl, hc⟩
    · exact ⟨n, b, n, f, rf, rfl, by rw [c2]; rfl, hc⟩
    · exact ⟨f, b, n, f, rf, rfl, by rw [c3]; rfl, hc⟩
    · exact ⟨len, b, n, f, rf, rfl, by rw [ht.2.1, ht.2.2.1]; rfl, hc⟩
    · exact ⟨pz, b, n, f, rf, rfl, by rw [hR.2.1, hS.1]; rfl, hc⟩
  · obtain ⟨b', n', f', rf', q1, q2, q3⟩ := ref_sim (x := -2) hc (by simp)
    refine ⟨-2, b', n', f', rf', ?_, by rw [e1, bd1_s, if_b0, if_neg (by decide), q2, bd2_s], q3⟩
    have g : ∀ j, j ≤ 4 → ¬ x = nI j := fun j hj => by
      rcases e2 with e2 | ⟨-, e2⟩
      · exact under e2 (by omega)
      · exact (over e2 hj (by omega)).2.1
    rw [if_neg (show ¬ x = (0 : Int32) from g 0 (by omega)), if_neg (show ¬ x = (1 : Int32) from g 1 (by omega)), if_neg (show ¬ x = (2 : Int32) from g 2 (by omega)), if_neg (show ¬ x = (3 : Int32) from g 3 (by omega)), if_neg (show ¬ x = (4 : Int32) from g 4 (by omega)), q1, bd4_s]
theorem of_sim {σ : Sv} {b n f sz st mo rn : Int32} {ms rt now rf : Ar} (x y : Int32) (hok : okS σ) (hC : CS σ sz st mo ms rn rt) (hM : MS σ now) (hc : Cnt b n f rf) : ∃ r b' n' f' rf', f_X6_of b n f sz st ms x y = some (r, b', n', f') ∧ f_X7_of now rf x y = some (r, rf') ∧ Cnt b' n' f' rf' := by
  obtain ⟨T, L, s, o, M⟩ := σ
  obtain ⟨rfl, rfl, rfl, h4, h5⟩ := hC
  obtain ⟨m0, m1, m2, m3, m4, m5⟩ := hM
  dsimp only at h4 h5 m0 m1 m2 m3 m4 m5
  have hT : T ≤ 8 := hok.1
  unfold f_X6_of f_X7_of
  obtain ⟨b', n', f', rf', q1, q2, q3⟩ := ref_sim (x := -2) hc (by simp)
  rcases tests_eq hT m0 x with ⟨v, hv, rfl, e1, e2⟩ | ⟨e1, e2⟩
  · dsimp only
    rw [e1, e2, bd1_s, bd1_s, if_b0, if_b0, if_pos rfl, if_pos rfl]
    rcases rng (x := y) 5 (m := 5) rfl (by omega) with ⟨j, hj, rfl, a1⟩ | ⟨a1, a2⟩
    · rw [a1, bd1_s, if_b0, if_pos rfl, if_neg (nI_pos (by omega)), if_pos (show nI j ≤ (5 : Int32) from nI_le (b := 5) hj (by omega))]
      unfold f_X7_testTold
      by_cases h : j = 5
      · subst h
        rw [if_pos (show nI 5 = (5 : Int32) from rfl), if_pos (show (5 : Int32) ≤ nI 5 by decide), passC_eq h4 hv hT, aloneM_eq m5 hv hT m1]
        simp only [bd1_s, oneIf_eq, if_b0]
        refine ⟨_, b, n, f, rf, rfl, ?_, hc⟩
        cases pss M v st <;> rfl
      · have hj5 : j < 5 := by omega
        rw [if_neg (show ¬ nI j = (5 : Int32) by rw [show (5 : Int32) = nI 5 from rfl, nI_eq (by omega) (by omega)]; omega), if_neg (show ¬ (5 : Int32) ≤ nI j from nI_ge (a := j) (b := 5) hj5 (by omega)), ofTest_eq m5 hv hT hj5 rfl, bd1_s, bd1_s]
        refine ⟨M (5 * v + j), b, n, f, rf, ?_, rfl, hc⟩
        unfold f_X4_mask
        rw [show nI v * (5 : Int32) + nI j = nI (5 * v + j) from ix5 v j]
        simp only [nm]
        rw [if_neg (nI_pos (by omega)), if_neg (c40 (by omega)), rd_at (5 * v + j) rfl (by omega) (by omega), h4 _ (by omega), bd1_s]
    · refine ⟨-2, b', n', f', rf', ?_, by rw [a1, bd1_s, if_b0, if_neg (by decide), q2, bd2_s], q3⟩
      rcases a2 with a2 | ⟨a2, a3⟩
      · rw [if_pos a2, q1, bd4_s]
      · rw [if_neg a2, if_neg (show ¬ y ≤ (5 : Int32) from (over (j := 5) a3 (by omega) (by omega)).1), q1, bd4_s]
  · dsimp only
    refine ⟨-2, b', n', f', rf', by rw [e1, bd1_s, if_b0, if_neg (by decide), q1, bd4_s], by rw [e2, bd1_s, if_b0, if_neg (by decide), q2, bd2_s], q3⟩
theorem at_sim {σ : Sv} {b n f sz st mo rn : Int32} {ms rt now rf : Ar} (x : Int32) (hC : CS σ sz st mo ms rn rt) (hM : MS σ now) (hc : Cnt b n f rf) : ∃ r b' n' f' rf', f_X6_at b n f rn rt x = some (r, b', n', f') ∧ f_X7_at now rf x = some (r, rf') ∧ Cnt b' n' f' rf' := by
  obtain ⟨T, L, s, o, M⟩ := σ
  obtain ⟨rfl, rfl, rfl, h4, h5⟩ := hC
  obtain ⟨m0, m1, m2, m3, m4, m5⟩ := hM
  dsimp only at h4 h5 m0 m1 m2 m3 m4 m5
  have h8 := h5.1
  unfold f_X6_at f_X7_at
  rcases pick x L.length (by omega) with ⟨j, hj, rfl⟩ | h | ⟨h1, h2⟩
  · have hg : L[j]? = some L[j] := List.getElem?_eq_getElem hj
    refine ⟨nI L[j], b, n, f, rf, ?_, ?_, hc⟩
    · rw [if_pos (nI_pos' (by omega)), nth_in h5 hg, bd1_s]
    · rw [if_pos (nI_pos' (by omega)), r3, m3, if_neg (nI_ge hj (by omega)), r4 (by omega), m4 j _ hg]
  · obtain ⟨b', n', f', rf', q1, q2, q3⟩ := ref_sim (x := -2) hc (by simp)
    have h0 : ¬ (0 : Int32) ≤ x := by rw [Int32.not_le]; exact h
    exact ⟨-2, b', n', f', rf', by rw [if_neg h0, q1, bd4_s], by rw [if_neg h0, q2, bd2_s], q3⟩
  · have h0 : (0 : Int32) ≤ x := by rw [← Int32.not_lt]; exact h1
    refine ⟨-1, b, n, f, rf, ?_, ?_, hc⟩
    · rw [if_pos h0, nth_out h5 h1 h2, bd1_s]
    · rw [if_pos h0, r3, m3, if_pos h2]
