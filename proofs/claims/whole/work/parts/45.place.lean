/-! the place of a test in the row, who, left, back -/
def tlP (M : Ar) (st o c : Int32) (v p j : Nat) : Int32 := if j = 0 then nI p else if j = 1 then b2i (pss M v c) else if j = 2 then b2i (flp M st v c) else if j = 3 then wrg M v c else act M o v c
theorem placeTold_eq {T : Nat} {L : List Nat} {st o rn : Int32} {M ms rt now : Ar} {p v : Nat} (h : Plc T L st o M ms rn rt now p v) {j : Nat} (hj : j ≤ 4) (tm : Int32) (tr : Ar) : ∃ tm' tr', f_X7_placeTold tm now tr (nI p) (nI j) = some (tlP M st o (run M o st (L.take p)) v p j, tm', tr') := by
  have hl := h.lt
  obtain ⟨hT, hn, hL, hR, hC, h1, h2, ho, h3, h4, hM, hp⟩ := h
  have hb : ∀ t ∈ L, t < 8 := hR.2.2.2
  obtain ⟨tr', q1, q2⟩ := tries_eq (S := 255) (tm := tm) (tr := tr) (p := p) hl.2.1 h4 (by omega)
  rw [filt_all (fun t ht => hb t (List.mem_of_mem_take ht))] at q1 q2
  have hb2 := behindT_eq q2 (by rw [List.length_take]; omega) (fun t ht => hL t (List.mem_of_mem_take ht)) hM hT h1 h2 ho
  refine ⟨nI (L.take p).length, tr', ?_⟩
  unfold f_X7_placeTold
  rw [r4 (by omega), h4 p v hp, q1, bd2_s, hb2, bd1_s]
  generalize run M o st (L.take p) = c
  have hv := hl.2.2.1
  rcases (by omega : j = 0 ∨ j = 1 ∨ j = 2 ∨ j = 3 ∨ j = 4) with rfl | rfl | rfl | rfl | rfl
  · rfl
  · rw [if_neg (by decide), if_pos (by decide), passM_eq hM hv hT, bd1_s, if_b0]
    show _ = some (b2i (pss M v c), _, _)
    cases pss M v c <;> rfl
  · rw [if_neg (by decide), if_neg (by decide), if_pos (by decide), passM_eq hM hv hT, bd1_s, aloneM_eq hM hv hT h1, bd1_s, if_be]
    show _ = some (b2i (pss M v c != pss M v st), _, _)
    cases pss M v c != pss M v st <;> rfl
  · rw [if_neg (by decide), if_neg (by decide), if_neg (by decide), if_pos (by decide), ofTest_eq (x := (0 : Int32)) hM hv hT (j := 0) (by omega) rfl, bd1_s, ofTest_eq (x := (1 : Int32)) hM hv hT (j := 1) (by omega) rfl, bd1_s]
    rfl
  · rw [if_neg (by decide), if_neg (by decide), if_neg (by decide), if_neg (by decide), actM_eq hM hv hT h2 ho, bd1_s]
    rfl
theorem cellsAt {T : Nat} {L : List Nat} {st o rn : Int32} {M ms rt now : Ar} {p v : Nat} (h : Plc T L st o M ms rn rt now p v) : f_X4_cellsBehind st o ms rn rt (nI (setF 0 (L.take p))) = some (run M o st (L.take p)) := by
  obtain ⟨hT, hn, hL, hR, hC, h1, h2, ho, h3, h4, hM, hp⟩ := h
  have hb : ∀ t ∈ L, t < 8 := hR.2.2.2
  have hbt : ∀ t ∈ L.take p, t < 8 := fun t ht => hb t (List.mem_of_mem_take ht)
  rw [cellsC_eq hR hL hC hT, filt_take hn hb (set0_lt hbt) (fun t _ ht => by rw [set0_bit] at ht; simpa using ht), List.filter_eq_self.mpr (fun t ht => by rw [set0_bit]; simpa using ht)]
theorem inRow_sim {σ : Sv} {b n f sz st mo rn tm : Int32} {ms rt now rf tr : Ar} (x y : Int32) (hok : okS σ) (hC : CS σ sz st mo ms rn rt) (hM : MS σ now) (hc : Cnt b n f rf) : ∃ r b' n' f' tm' rf' tr', f_X6_inRow b n f sz st mo ms rn rt x y = some (r, b', n', f') ∧ f_X7_inRow tm now rf tr x y = some (r, tm', rf', tr') ∧ Cnt b' n' f' rf' := by
  obtain ⟨T, L, s, o, M⟩ := σ
  obtain ⟨rfl, rfl, rfl, h4, h5⟩ := hC
  obtain ⟨m0, m1, m2, m3, m4, m5⟩ := hM
  dsimp only at h4 h5 m0 m1 m2 m3 m4 m5
  have hT : T ≤ 8 := hok.1
  have h8 := h5.1
  have ho := hok.2.2.2.2
  dsimp only at ho
  unfold f_X6_inRow f_X7_inRow
  obtain ⟨b', n', f', rf', q1, q2, q3⟩ := ref_sim (x := -2) hc (by simp)
  rcases tests_eq hT m0 x with ⟨v, hv, rfl, e1, e2⟩ | ⟨e1, e2⟩
  · dsimp only
    rw [e1, e2, bd1_s, bd1_s, if_b0, if_b0, if_pos rfl, if_pos rfl]
    rcases rng (x := y) 4 (m := 4) rfl (by omega) with ⟨j, hj, rfl, a1⟩ | ⟨a1, a2⟩
    · rw [a1, bd1_s, if_b0, if_pos rfl, if_neg (nI_pos (by omega)), if_pos (show nI j ≤ (4 : Int32) from nI_le (b := 4) hj (by omega)), placeOf_eq h5 (show v < 8 by omega), bd1_s, placeM_eq h8 h5.2.2.2 m3 m4 (show v < 8 by omega), bd1_s]
      cases hf : fnd v L 0 with
      | none =>
        obtain ⟨b', n', f', rf', q1, q2, q3⟩ := ref_sim (x := -3) hc (by simp)
        exact ⟨-3, b', n', f', tm, rf', tr, by rw [if_pos (show ansO none = -1 from rfl), q1, bd4_s], by rw [if_pos (show ansO none = -1 from rfl), q2, bd2_s], q3⟩
      | some p =>
        obtain ⟨hp1, hp2⟩ := fnd_lt hf
        have hpl : Plc T L st mo M ms rn rt now p v := ⟨hT, hok.2.1, hok.2.2.1, h5, h4, m1, m2, ho, m3, m4, m5, hp2⟩
        obtain ⟨tm', tr', g⟩ := placeTold_eq hpl hj tm tr
        refine ⟨tlP M st mo (run M mo st (L.take p)) v p j, b, n, f, tm', rf, tr', ?_, ?_, hc⟩
        · rw [if_neg (show ¬ ansO (some p) = -1 from not_neg1 (by omega)), show ansO (some p) = nI p from rfl, setAhead_eq h5 (show p ≤ L.length by omega), bd1_s, cellsAt hpl, bd1_s]
          generalize run M mo st (L.take p) = c
          rcases (by omega : j = 0 ∨ j = 1 ∨ j = 2 ∨ j = 3 ∨ j = 4) with rfl | rfl | rfl | rfl | rfl
          · rfl
          · rw [if_neg (by decide), if_pos (by decide), passC_eq h4 hv hT, bd1_s, oneIf_eq, bd1_s]
            rfl
          · rw [if_neg (by decide), if_neg (by decide), if_pos (by decide), flpC_eq h4 hv hT, bd1_s, oneIf_eq, bd1_s]
            rfl
          · rw [if_neg (by decide), if_neg (by decide), if_neg (by decide), if_pos (by decide), wrong_eq h4 hv hT, bd1_s]
            rfl
          · rw [if_neg (by decide), if_neg (by decide), if_neg (by decide), if_neg (by decide), actC_eq h4 hv hT, bd1_s]
            rfl
        · rw [if_neg (show ¬ ansO (some p) = -1 from not_neg1 (by omega)), show ansO (some p) = nI p from rfl, g, bd3_s]
    · refine ⟨-2, b', n', f', tm, rf', tr, ?_, by rw [a1, bd1_s, if_b0, if_neg (by decide), q2, bd2_s], q3⟩
      rcases a2 with a2 | ⟨a2, a3⟩
      · rw [if_pos a2, q1, bd4_s]
      · rw [if_neg a2, if_neg (show ¬ y ≤ (4 : Int32) from (over (j := 4) a3 (by omega) (by omega)).1), q1, bd4_s]
  · dsimp only
    exact ⟨-2, b', n', f', tm, rf', tr, by rw [e1, bd1_s, if_b0, if_neg (by decide), q1, bd4_s], by rw [e2, bd1_s, if_b0, if_neg (by decide), q2, bd2_s], q3⟩
theorem who_go {T : Nat} {L : List Nat} {st o rn : Int32} {M ms rt now rf : Ar} {p v : Nat} {y : Int32} (h : Plc T L st o M ms rn rt now p v) : ∀ (d k n m : Nat) (a c : Int32), k + d = p → d < n → d < m → ∃ r, b_X4_lastToChange_11 o ms rn rt y (nI p) n a c (nI k) = some r ∧ b_X7_who_56 now y m (nI p) a c (nI k) rf = some (r, rf) := by
  have hl := h.lt
  obtain ⟨hT, hn, hL, hR, hC, h1, h2, ho, h3, h4, hM, hp⟩ := h
  intro d
  induction d with
  | zero =>
    intro k n m a c hk hn hm
    obtain ⟨n, rfl⟩ : ∃ z, n = z + 1 := ⟨n - 1, by omega⟩
    obtain ⟨m, rfl⟩ : ∃ z, m = z + 1 := ⟨m - 1, by omega⟩
    refine ⟨a, ?_, ?_⟩
    · rw [b_X4_lastToChange_11, if_pos (nI_le (by omega) (by omega))]
    · rw [b_X7_who_56, if_pos (nI_le (by omega) (by omega))]
  | succ d ih =>
    intro k n m a c hk hn hm
    obtain ⟨n, rfl⟩ : ∃ z, n = z + 1 := ⟨n - 1, by omega⟩
    obtain ⟨m, rfl⟩ : ∃ z, m = z + 1 := ⟨m - 1, by omega⟩
    have hkL : k < L.length := by omega
    have hg : L[k]? = some L[k] := List.getElem?_eq_getElem hkL
    have ht := hL L[k] (List.getElem_mem hkL)
    rw [b_X4_lastToChange_11, b_X7_who_56, if_neg (nI_ge (a := k) (b := p) (by omega) (by omega)), if_neg (nI_ge (a := k) (b := p) (by omega) (by omega)), hR.2.1, if_neg (nI_ge hkL (by omega)), ← hR.2.1, nth_in hR hg, bd1_s, actC_eq hC ht hT, bd1_s, isIn_eq, bd1_s, if_b0, r4 (by omega), h4 k _ hg, actM_eq hM ht hT h2 ho, bd1_s, has_eq, bd1_s, if_b0]
    cases hasB (c ^^^ act M o L[k] c) y
    · rw [if_neg (by decide), if_neg (by decide)]
      simp only [nm, nI_1]
      exact ih (k + 1) n m a _ (by omega) (by omega) (by omega)
    · rw [if_pos rfl, if_pos rfl, r4 (by omega), h4 k _ hg]
      simp only [nm, nI_1]
      exact ih (k + 1) n m _ _ (by omega) (by omega) (by omega)
theorem who_sim {σ : Sv} {b n f sz st mo rn : Int32} {ms rt now rf : Ar} (x y : Int32) (hok : okS σ) (hC : CS σ sz st mo ms rn rt) (hM : MS σ now) (hc : Cnt b n f rf) : ∃ r b' n' f' rf', f_X6_who b n f sz st mo ms rn rt x y = some (r, b', n', f') ∧ f_X7_who now rf x y = some (r, rf') ∧ Cnt b' n' f' rf' := by
  obtain ⟨T, L, s, o, M⟩ := σ
  obtain ⟨rfl, rfl, rfl, h4, h5⟩ := hC
  obtain ⟨m0, m1, m2, m3, m4, m5⟩ := hM
  dsimp only at h4 h5 m0 m1 m2 m3 m4 m5
  have hT : T ≤ 8 := hok.1
  have h8 := h5.1
  have ho := hok.2.2.2.2
  dsimp only at ho
  unfold f_X6_who f_X7_who
  obtain ⟨b', n', f', rf', q1, q2, q3⟩ := ref_sim (x := -2) hc (by simp)
  rcases tests_eq hT m0 x with ⟨v, hv, rfl, e1, e2⟩ | ⟨e1, e2⟩
  · dsimp only
    rw [e1, e2, bd1_s, bd1_s, if_b0, if_b0, if_pos rfl, if_pos rfl]
    rcases rng (x := y) 5 (m := 5) rfl (by omega) with ⟨j, hj, rfl, a1⟩ | ⟨a1, a2⟩
    · rw [a1, bd1_s, if_b0, if_pos rfl, if_neg (nI_pos (by omega)), if_pos (show nI j < (6 : Int32) from nI_lt (b := 6) (by omega) (by omega)), placeOf_eq h5 (show v < 8 by omega), bd1_s, placeM_eq h8 h5.2.2.2 m3 m4 (show v < 8 by omega), bd1_s]
      cases hf : fnd v L 0 with
      | none =>
        obtain ⟨b', n', f', rf', q1, q2, q3⟩ := ref_sim (x := -3) hc (by simp)
        exact ⟨-3, b', n', f', rf', by rw [if_pos (show ansO none = -1 from rfl), q1, bd4_s], by rw [if_pos (show ansO none = -1 from rfl), q2, bd2_s], q3⟩
      | some p =>
        obtain ⟨hp1, hp2⟩ := fnd_lt hf
        have hpl : Plc T L st mo M ms rn rt now p v := ⟨hT, hok.2.1, hok.2.2.1, h5, h4, m1, m2, ho, m3, m4, m5, hp2⟩
        obtain ⟨r, g1, g2⟩ := who_go (rf := rf) (y := nI j) hpl p 0 FU FU (-1) st (by omega) (FU_big (by omega)) (FU_big (by omega))
        refine ⟨r, b, n, f, rf, ?_, ?_, hc⟩
        · rw [if_neg (show ¬ ansO (some p) = -1 from not_neg1 (by omega)), show ansO (some p) = nI p from rfl]
          unfold f_X4_lastToChange
          rw [show (0 : Int32) = nI 0 from rfl, g1, bd1_s]
        · rw [if_neg (show ¬ ansO (some p) = -1 from not_neg1 (by omega)), show ansO (some p) = nI p from rfl, r1, m1]
          exact g2
    · refine ⟨-2, b', n', f', rf', ?_, by rw [a1, bd1_s, if_b0, if_neg (by decide), q2, bd2_s], q3⟩
      rcases a2 with a2 | ⟨a2, a3⟩
      · rw [if_pos a2, q1, bd4_s]
      · have hn6 : ¬ y < (6 : Int32) := by
          rw [Int32.not_lt]; exact a3
        rw [if_neg a2, if_neg hn6, q1, bd4_s]
  · dsimp only
    exact ⟨-2, b', n', f', rf', by rw [e1, bd1_s, if_b0, if_neg (by decide), q1, bd4_s], by rw [e2, bd1_s, if_b0, if_neg (by decide), q2, bd2_s], q3⟩
theorem left_sim {σ : Sv} {b n f sz st mo rn tm : Int32} {ms rt now rf tr : Ar} (x y : Int32) (hok : okS σ) (hC : CS σ sz st mo ms rn rt) (hM : MS σ now) (hc : Cnt b n f rf) : ∃ r b' n' f' tm' rf' tr', f_X6_left b n f sz st mo ms rn rt x y = some (r, b', n', f') ∧ f_X7_left tm now rf tr x y = some (r, tm', rf', tr') ∧ Cnt b' n' f' rf' := by
  obtain ⟨T, L, s, o, M⟩ := σ
  have hC0 := hC
  have hM0 := hM
  obtain ⟨rfl, h2, h3, h4, h5⟩ := hC
  dsimp only at h2 h3
  subst h2 h3
  unfold f_X6_left f_X7_left
  have hfa := fa_sim x hok hC0 hM0
  obtain ⟨b', n', f', rf', q1, q2, q3⟩ := ref_sim (x := -2) hc (by simp)
  rcases rng (x := y) 2 (m := 2) rfl (by omega) with ⟨j, hj, rfl, a1⟩ | ⟨a1, a2⟩
  · rw [if_neg (nI_pos (by omega)), if_pos (show nI j ≤ (2 : Int32) from nI_le (b := 2) hj (by omega)), a1, bd1_s, if_b0, if_pos rfl]
    rcases hfa with ⟨e1, e2⟩ | ⟨e1, e2, e3⟩ | ⟨p, v, rfl, hpl, e1, e2, e3, e4⟩
    · rw [e1, e2, bd1_s, bd1_s, if_neg (show ¬ (0 : Int32) ≤ -2 by decide), if_b0, if_neg (by decide), q1, q2, bd4_s, bd2_s]
      exact ⟨-2, b', n', f', tm, rf', tr, rfl, rfl, q3⟩
    · obtain ⟨b', n', f', rf', q1, q2, q3⟩ := ref_sim (x := -3) hc (by simp)
      obtain ⟨tm1, tr1, q⟩ := e3 tm tr
      rw [e1, e2, bd1_s, bd1_s, if_neg (show ¬ (0 : Int32) ≤ -3 by decide), if_b0, if_pos rfl, q, bd3_s, if_b0, if_neg (by decide), q1, q2, bd4_s, bd2_s]
      exact ⟨-3, b', n', f', tm1, rf', tr1, rfl, rfl, q3⟩
    · obtain ⟨tm1, tr1, q⟩ := e4 tm tr
      have hb : ∀ u ∈ L.take p, u < 8 := fun u hu => h5.2.2.2 u (List.mem_of_mem_take hu)
      have hall := set0_lt hb
      rw [e1, e2, bd1_s, bd1_s, if_pos (nI_pos' (by omega)), if_b0, if_pos rfl, q, bd3_s, if_b0, if_pos rfl, e3, bd1_s]
      rcases (by omega : j = 0 ∨ j = 1 ∨ j = 2) with rfl | rfl | rfl
      · obtain ⟨tm2, tr2, g⟩ := leastM_eq hpl tm1 tr1
        rw [if_pos (by decide), if_pos (by decide), leastC_eq hpl, g, bd1_s, bd3_s]
        exact ⟨_, b, n, f, tm2, rf, tr2, rfl, rfl, hc⟩
      · obtain ⟨tm2, tr2, g⟩ := fewM_eq hpl tm1 tr1
        rw [if_neg (show ¬ nI 1 = (0 : Int32) by decide), if_pos (show nI 1 = (1 : Int32) by decide), if_neg (show ¬ nI 1 = (0 : Int32) by decide), if_pos (show nI 1 = (1 : Int32) by decide), fewC_eq hpl, g, bd1_s, bd3_s]
        exact ⟨_, b, n, f, tm2, rf, tr2, rfl, rfl, hc⟩
      · obtain ⟨tm2, tr2, g⟩ := halvesM_eq hpl tm1 tr1
        rw [if_neg (by decide), if_neg (by decide), if_neg (by decide), if_neg (by decide), halvesC_eq hpl, g, bd1_s, bd3_s]
        exact ⟨_, b, n, f, tm2, rf, tr2, rfl, rfl, hc⟩
  · have hcl : (if y < 0 then bd4 (f_X6_refused b n f (-2 : Int32)) (fun r2 w3 w4 w5 => some (r2, w3, w4, w5)) else (if y ≤ (2 : Int32) then bd1 (f_X4_flippingAhead (nI T) st mo ms rn rt x) (fun r8 => (if (0 : Int32) ≤ r8 then (if y = (0 : Int32) then bd1 (f_X2_least st mo ms rn rt r8 x) (fun r17 => some (r17, b, n, f)) else (if y = (1 : Int32) then bd1 (f_X2_fewest st mo ms rn rt r8 x) (fun r15 => some (r15, b, n, f)) else bd1 (f_X2_halves st mo ms rn rt r8 x) (fun r11 => some (r11, b, n, f)))) else bd4 (f_X6_refused b n f r8) (fun r19 w20 w21 w22 => some (r19, w20, w21, w22)))) else bd4 (f_X6_refused b n f (-2 : Int32)) (fun r24 w25 w26 w27 => some (r24, w25, w26, w27)))) = some (-2, b', n', f') := by
      rcases a2 with a2 | ⟨a2, a3⟩
      · rw [if_pos a2, q1, bd4_s]
      · rw [if_neg a2, if_neg (show ¬ y ≤ (2 : Int32) from (over (j := 2) a3 (by omega) (by omega)).1), q1, bd4_s]
    refine ⟨-2, b', n', f', tm, rf', tr, hcl, ?_, q3⟩
    rw [a1]
    have hi : f_X7_isTest now x = some true ∨ f_X7_isTest now x = some false := by
      rcases hfa with ⟨e1, e2⟩ | ⟨e1, e2, e3⟩ | ⟨p, v, rfl, hpl, e1, e2, e3, e4⟩
      · exact Or.inr e2
      · exact Or.inl e2
      · exact Or.inl e2
    rcases hi with e | e
    · rw [e, bd1_s, bd1_s, if_b0, if_b0, if_pos rfl, if_neg (by decide), q2, bd2_s]
    · rw [e, bd1_s, if_b0, if_neg (by decide), q2, bd2_s]
theorem back_sim {σ : Sv} {P : List Sv} {b n f sz st mo rn pz mk sn : Int32} {ms rt now past rf : Ar} {pM pT : Nat → Ar} {pN pS pB pO : Nat → Int32} (hok : okS σ) (hokP : ∀ τ ∈ P, okS τ) (hC : CS σ sz st mo ms rn rt) (hM : MS σ now) (hR : Ring P pz mk pM pT pN pS pB pO) (hS : Stk P sn past) (hc : Cnt b n f rf) :
    ∃ σ' P' r b' n' f' sz' st' mo' ms' rn' rt' pz' mk' sn' now' rf', f_X6_back b n f sz st mo ms rn rt pz mk pM pT pN pS pB pO = some (r, b', n', f', sz', st', mo', ms', rn', rt', pz', mk') ∧ f_X7_back sn now past rf = some (r, sn', now', rf') ∧ okS σ' ∧ (∀ τ ∈ P', okS τ) ∧ CS σ' sz' st' mo' ms' rn' rt' ∧ MS σ' now' ∧ Ring P' pz' mk' pM pT pN pS pB pO ∧ Stk P' sn' past ∧ Cnt b' n' f' rf' := by
  unfold f_X6_back f_X7_back
  cases P with
  | nil =>
    obtain ⟨b', n', f', rf', q1, q2, q3⟩ := ref_sim (x := -3) hc (by simp)
    refine ⟨σ, [], -3, b', n', f', sz, st, mo, ms, rn, rt, pz, mk, sn, now, rf', ?_, ?_, hok, hokP, hC, hM, hR, hS, q3⟩
    · rw [hR.2.1, if_pos (show nI ([] : List Sv).length = (0 : Int32) from rfl), q1, bd4_s]
    · rw [hS.1, if_pos (show nI ([] : List Sv).length = (0 : Int32) from rfl), q2, bd2_s]
  | cons τ P =>
    obtain ⟨h5, rfl, k, hk, rfl, hP⟩ := hR
    obtain ⟨rfl, hQ⟩ := hS
    have hP5 : P.length < 5 := by rw [List.length_cons] at h5; omega
    have hokt := hokP τ (by simp)
    have hCt := hP 0 τ (by simp)
    have hMt := hQ 0 τ (by simp)
    obtain ⟨sz', st', mo', ms', rn', rt', g1, g2⟩ := recall_eq (sz := sz) (st := st) (mo := mo) (ms := ms) (rn := rn) (rt := rt) hokt (show (k + 5 - 0) % 6 < 6 from Nat.mod_lt _ (by omega)) hCt
    obtain ⟨now', g3, g4⟩ := back_go (past := past) (s := P.length) (rf := rf) hP5 52 0 FU now (by omega) (FU_big (by omega)) (fun j hj => by omega)
    have hne : ¬ nI (τ :: P).length = (0 : Int32) := by
      rw [show (0 : Int32) = nI 0 from rfl, nI_eq (by simp; omega) (by omega)]
      simp
    have hle : ¬ nI (τ :: P).length ≤ (0 : Int32) := nI_ge (a := 0) (b := (τ :: P).length) (by simp) (by simp; omega)
    have hsub : nI (τ :: P).length - (1 : Int32) = nI P.length := by
      rw [List.length_cons, sub_neg, m1_n]
    have hrem : (nI k + (6 : Int32) - (1 : Int32)) - (nI k + (6 : Int32) - (1 : Int32)) / (6 : Int32) * (6 : Int32) = nI ((k + 5 - 0) % 6) := by
      have e : nI k + (6 : Int32) - (1 : Int32) = nI (k + 5) := by
        rw [show nI k + (6 : Int32) = nI (k + 5 + 1) from nI_add k 6, sub_neg, m1_n]
      rw [e, show (6 : Int32) = nI 6 from rfl, pk_rem (by omega) (by omega) (by omega)]
      rfl
    refine ⟨τ, P, nI P.length, b, n, f, sz', st', mo', ms', rn', rt', nI P.length, nI ((k + 5 - 0) % 6), nI P.length, now', rf, ?_, ?_, hokt, fun u hu => hokP u (by simp [hu]), g2, ?_, ⟨by omega, rfl, (k + 5 - 0) % 6, Nat.mod_lt _ (by omega), rfl, fun i u hi => ?_⟩, ⟨rfl, fun i u hi => ?_⟩, hc⟩
    · rw [if_neg hne]
      unfold f_X1_stepBack
      rw [if_neg hle, hsub, hrem]
      simp only [nm]
      rw [g1]
      rfl
    · rw [if_neg hne]
      exact nm_intro hsub.symm g3
    · refine MS_congr hokt (fun j hj => ?_) hMt
      rw [g4 j hj]
      simp
    · have q := hP (i + 1) u (by simpa using hi)
      rw [show (k + 5 - (i + 1)) % 6 = ((k + 5 - 0) % 6 + 5 - i) % 6 from by
        have hlt := (List.getElem?_eq_some_iff.mp hi).1
        omega] at q
      exact q
    · have q := hQ (i + 1) u (by simpa using hi)
      rw [show (τ :: P).length - 1 - (i + 1) = P.length - 1 - i by rw [List.length_cons]; omega] at q
      exact q
