/-! a test flipped in the row; trims -/
theorem Fl_all {L : List Nat} {st o : Int32} {M : Ar} {p v S : Nat} (h : ∀ t ∈ L.take p, S.testBit t = true) : Fl L st o M p v S = flp M st v (run M o st (L.take p)) := by
  unfold Fl
  rw [List.filter_eq_self.mpr h]
theorem bit255 : ∀ t, t < 8 → (255 : Nat).testBit t = true := by decide
theorem not_neg1 {k : Nat} (h : k < 1000) : ¬ nI k = (-1 : Int32) := by
  intro q
  have h1 := congrArg Int32.toInt q
  rw [nI_toInt (by omega)] at h1
  have h2 : (-1 : Int32).toInt = -1 := by decide
  omega
theorem fa_sim {T : Nat} {L : List Nat} {st o : Int32} {M : Ar} {ms rt now : Ar} {rn : Int32} (x : Int32) (hok : okS (T, L, st, o, M)) (hC : CS (T, L, st, o, M) (nI T) st o ms rn rt) (hM : MS (T, L, st, o, M) now) :
    (f_X4_flippingAhead (nI T) st o ms rn rt x = some (-2) ∧ f_X7_isTest now x = some false) ∨
    (f_X4_flippingAhead (nI T) st o ms rn rt x = some (-3) ∧ f_X7_isTest now x = some true ∧ ∀ tm tr, ∃ tm' tr', f_X7_isFlippedInRow tm now tr x = some (false, tm', tr')) ∨
    (∃ p v, x = nI v ∧ Plc T L st o M ms rn rt now p v ∧ f_X4_flippingAhead (nI T) st o ms rn rt x = some (nI (setF 0 (L.take p))) ∧ f_X7_isTest now x = some true ∧ f_X7_placeOf now x = some (nI p) ∧ ∀ tm tr, ∃ tm' tr', f_X7_isFlippedInRow tm now tr x = some (true, tm', tr')) := by
  obtain ⟨-, -, -, h4, h5⟩ := hC
  obtain ⟨m0, m1, m2, m3, m4, m5⟩ := hM
  dsimp only at h4 h5 m0 m1 m2 m3 m4 m5
  have hT : T ≤ 8 := hok.1
  have h8 := h5.1
  rcases tests_eq hT m0 x with ⟨v, hv, rfl, e1, e2⟩ | ⟨e1, e2⟩
  · refine Or.inr ?_
    have hn := ansO_n (o := fnd v L 0) (fun k hk => by have := (fnd_lt hk).1; omega)
    have pC := placeOf_eq h5 (show v < 8 by omega)
    have pM := placeM_eq h8 h5.2.2.2 m3 m4 (show v < 8 by omega)
    unfold f_X4_flippingAhead f_X7_isFlippedInRow
    rw [e1, bd1_s, if_b0, if_pos rfl, pC, bd1_s, pM]
    cases hf : fnd v L 0 with
    | none =>
      refine Or.inl ⟨by rw [if_pos (show ansO none = -1 from rfl)], e2, fun tm tr => ⟨tm, tr, by rw [bd1_s, if_pos (show ansO none = -1 from rfl)]⟩⟩
    | some p =>
      obtain ⟨hp1, hp2⟩ := fnd_lt hf
      have hpl : Plc T L st o M ms rn rt now p v := ⟨hT, hok.2.1, hok.2.2.1, h5, h4, m1, m2, hok.2.2.2.2, m3, m4, m5, hp2⟩
      have hb : ∀ u ∈ L.take p, u < 8 := fun u hu => h5.2.2.2 u (List.mem_of_mem_take hu)
      have a1 := Fl_all (L := L) (st := st) (o := o) (M := M) (p := p) (v := v) (S := setF 0 (L.take p)) (fun t ht => by rw [set0_bit]; simpa using ht)
      have a2 := Fl_all (L := L) (st := st) (o := o) (M := M) (p := p) (v := v) (S := 255) (fun t ht => bit255 t (hb t ht))
      have f1 := clsF hpl (set0_lt hb) (fun t _ ht => by rw [set0_bit] at ht; simpa using ht)
      have sC := setAhead_eq h5 (show p ≤ L.length by omega)
      rw [if_neg (show ¬ ansO (some p) = -1 from not_neg1 (by omega)), show ansO (some p) = nI p from rfl, sC, bd1_s, f1, bd1_s, a1, if_b0]
      cases hF : flp M st v (run M o st (L.take p))
      · refine Or.inl ⟨rfl, e2, fun tm tr => ?_⟩
        obtain ⟨tm1, tr1, q⟩ := modF hpl (S := 255) (by omega) tm tr
        rw [a2, hF] at q
        refine ⟨tm1, tr1, ?_⟩
        rw [bd1_s, if_neg (not_neg1 (by omega)), show (255 : Int32) = nI 255 from rfl, q]
        rfl
      · refine Or.inr ⟨p, v, rfl, hpl, rfl, e2, rfl, fun tm tr => ?_⟩
        obtain ⟨tm1, tr1, q⟩ := modF hpl (S := 255) (by omega) tm tr
        rw [a2, hF] at q
        refine ⟨tm1, tr1, ?_⟩
        rw [bd1_s, if_neg (not_neg1 (by omega)), show (255 : Int32) = nI 255 from rfl, q]
        rfl
  · refine Or.inl ⟨?_, e2⟩
    unfold f_X4_flippingAhead
    rw [e1, bd1_s, if_b0]
    rfl
def N4 (now : Ar) (l : List Nat) : Prop := now 3 = nI l.length ∧ ∀ k t, l[k]? = some t → now (4 + k) = nI t
theorem sub_neg (k : Nat) : nI k - (1 : Int32) = nI k + (-1 : Int32) := by
  rw [Int32.sub_eq_add_neg]
theorem trim_go {A B : List Nat} {R : Nat} {now : Ar} {tm : Int32} {tr : Ar} (hR : R < 256) (h8 : (A ++ B).length ≤ 8) (hb : ∀ t ∈ A, t < 8) : ∀ (k n w : Nat) (now1 : Ar), k ≤ A.length → k < n → N4 now1 (A.take k ++ ((A.drop k).filter (fun t => R.testBit t) ++ B)) → (∀ i, (i < 3 ∨ 12 ≤ i) → now1 i = now i) →
    ∃ now2, b_X7_putTrimmed_42 n (nI R) (nI w) (nI k + (-1 : Int32)) tm now1 tr = some (nI (w + ((A.take k).filter (fun t => !R.testBit t)).length), tm, now2, tr) ∧ N4 now2 (A.filter (fun t => R.testBit t) ++ B) ∧ ∀ i, (i < 3 ∨ 12 ≤ i) → now2 i = now i := by
  rw [List.length_append] at h8
  intro k
  induction k with
  | zero =>
    intro n w now1 hk hn h1 h2
    obtain ⟨n, rfl⟩ : ∃ z, n = z + 1 := ⟨n - 1, by omega⟩
    refine ⟨now1, ?_, by simpa using h1, h2⟩
    rw [b_X7_putTrimmed_42, if_pos (show nI 0 + (-1 : Int32) < 0 by decide)]
    simp
  | succ k ih =>
    intro n w now1 hk hn h1 h2
    obtain ⟨n, rfl⟩ : ∃ z, n = z + 1 := ⟨n - 1, by omega⟩
    have hkl : k < A.length := by omega
    have hAk : A[k]? = some A[k] := List.getElem?_eq_getElem hkl
    have hlt : (A.take (k + 1)).length = k + 1 := by rw [List.length_take]; omega
    have hle : ((A.drop (k + 1)).filter (fun t => R.testBit t)).length ≤ A.length - (k + 1) := Nat.le_trans (List.length_filter_le _ _) (by rw [List.length_drop]; exact Nat.le_refl _)
    have hat : (A.take (k + 1) ++ ((A.drop (k + 1)).filter (fun t => R.testBit t) ++ B))[k]? = some A[k] := by
      rw [List.getElem?_append_left (by omega), List.getElem?_take, if_pos (by omega)]
      exact hAk
    have ha8 := hb A[k] (List.getElem_mem hkl)
    have hdrop : A.drop k = A[k] :: A.drop (k + 1) := List.drop_eq_getElem_cons hkl
    have htake : A.take (k + 1) = A.take k ++ [A[k]] := List.take_succ_eq_append_getElem hkl
    rw [b_X7_putTrimmed_42, m1_n, if_neg (nI_pos (by omega)), r4 (by omega), h1.2 k _ hat, has_eq, bd1_s, hasB_nat R hR _ ha8, if_b0]
    cases hbit : R.testBit A[k]
    · simp only [Bool.false_eq_true, if_false]
      have hlen : (A.take (k + 1) ++ ((A.drop (k + 1)).filter (fun t => R.testBit t) ++ B)).length ≤ 8 := by
        rw [List.length_append, List.length_append, hlt]
        omega
      have hkl2 : k < (A.take (k + 1) ++ ((A.drop (k + 1)).filter (fun t => R.testBit t) ++ B)).length := by
        rw [List.length_append, hlt]
        omega
      obtain ⟨now', q1, q2, q3, q4⟩ := out_eq hlen hkl2 h1.1 h1.2
      have herase : (A.take (k + 1) ++ ((A.drop (k + 1)).filter (fun t => R.testBit t) ++ B)).eraseIdx k = A.take k ++ ((A.drop k).filter (fun t => R.testBit t) ++ B) := by
        rw [List.eraseIdx_append_of_lt_length (by omega), htake, hdrop, List.filter_cons, hbit]
        simp only [Bool.false_eq_true, if_false]
        congr 1
        have hlk : (A.take k).length = k := by rw [List.length_take]; omega
        rw [List.eraseIdx_append_of_length_le (by omega), hlk, Nat.sub_self]
        simp
      rw [herase] at q2 q3
      obtain ⟨now2, e1, e2, e3⟩ := ih n (w + 1) now' (by omega) (by omega) ⟨q2, q3⟩ (fun i hi => by rw [q4 i hi]; exact h2 i hi)
      refine ⟨now2, ?_, e2, e3⟩
      rw [q1, bd1_s]
      simp only [nm, nI_1]
      rw [e1, htake, List.filter_append]
      simp [hbit]
      congr 1
      omega
    · simp only [if_true, nm]
      have hsame : A.take (k + 1) ++ ((A.drop (k + 1)).filter (fun t => R.testBit t) ++ B) = A.take k ++ ((A.drop k).filter (fun t => R.testBit t) ++ B) := by
        rw [htake, hdrop, List.filter_cons, hbit]
        simp only [if_true, List.append_assoc, List.cons_append, List.nil_append]
      rw [hsame] at h1
      obtain ⟨now2, e1, e2, e3⟩ := ih n w now1 (by omega) (by omega) h1 h2
      refine ⟨now2, ?_, e2, e3⟩
      rw [e1, htake, List.filter_append]
      simp [hbit]
theorem trim_sim {σ : Sv} {sz st mo rn tm : Int32} {ms rt now tr : Ar} (x : Int32) (hok : okS σ) (hC : CS σ sz st mo ms rn rt) (hM : MS σ now) : ∃ ans σ' rn' rt' tm' now' tr', f_X4_trimAhead sz st mo ms rn rt x = some (ans, rn', rt') ∧ f_X7_putTrimmed tm now tr x = some (ans, tm', now', tr') ∧ CS σ' sz st mo ms rn' rt' ∧ MS σ' now' ∧ okS σ' ∧ okA ans := by
  obtain ⟨T, L, s, o, M⟩ := σ
  have hC0 := hC
  have hM0 := hM
  obtain ⟨rfl, h2, h3, h4, h5⟩ := hC
  obtain ⟨m0, m1, m2, m3, m4, m5⟩ := hM
  dsimp only at h2 h3 h4 h5 m0 m1 m2 m3 m4 m5
  subst h2 h3
  have hT : T ≤ 8 := hok.1
  have h8 := h5.1
  unfold f_X4_trimAhead f_X7_putTrimmed
  rcases fa_sim x hok hC0 hM0 with ⟨e1, e2⟩ | ⟨e1, e2, e3⟩ | ⟨p, v, rfl, hpl, e1, e2, e3, e4⟩
  · rw [e1, e2, bd1_s, bd1_s, if_neg (show ¬ (0 : Int32) ≤ -2 by decide)]
    exact ⟨-2, _, rn, rt, tm, now, tr, rfl, rfl, hC0, hM0, hok, Or.inr (Or.inl rfl)⟩
  · obtain ⟨tm1, tr1, q⟩ := e3 tm tr
    rw [e1, e2, bd1_s, bd1_s, if_neg (show ¬ (0 : Int32) ≤ -3 by decide), if_b0, if_pos rfl, q]
    exact ⟨-3, _, rn, rt, tm1, now, tr1, rfl, rfl, hC0, hM0, hok, Or.inr (Or.inr (Or.inl rfl))⟩
  · obtain ⟨tm1, tr1, q⟩ := e4 tm tr
    have hl := hpl.lt
    have hb : ∀ u ∈ L.take p, u < 8 := fun u hu => h5.2.2.2 u (List.mem_of_mem_take hu)
    have hall := set0_lt hb
    obtain ⟨tm2, tr2, q2⟩ := leastM_eq hpl tm1 tr1
    have hR : lst (Fl L st mo M p v) (L.take p) 9 (setF 0 (L.take p)) < 256 := lst_lt _ _ hall
    have qC := leastC_eq hpl
    generalize lst (Fl L st mo M p v) (L.take p) 9 (setF 0 (L.take p)) = R at hR q2 qC
    have hG : mns (setF 0 (L.take p)) R < 256 := mns_lt hall
    obtain ⟨f', g1, g2⟩ := takeOut_eq (S := nI (mns (setF 0 (L.take p)) R)) h5
    have hnt : (L.take p).Nodup := (List.take_sublist p L).nodup hok.2.1
    have hcard : card (mns (setF 0 (L.take p)) R) = ((L.take p).filter (fun t => !R.testBit t)).length := by
      rw [mns_set hR hb]
      exact card_set0 (hnt.filter _) (fun t ht => hb t (List.mem_filter.mp ht).1)
    have hrow : L.filter (fun t => !hasB (nI (mns (setF 0 (L.take p)) R)) (nI t)) = (L.take p).filter (fun t => R.testBit t) ++ L.drop p := by
      have a1 : L.filter (fun t => !hasB (nI (mns (setF 0 (L.take p)) R)) (nI t)) = (L.take p ++ L.drop p).filter (fun t => !hasB (nI (mns (setF 0 (L.take p)) R)) (nI t)) := by rw [List.take_append_drop]
      rw [a1, List.filter_append]
      congr 1
      · apply List.filter_congr
        intro t ht
        rw [hasB_nat _ hG t (hb t ht), mns_bit _ _ _ hR (hb t ht), set0_bit]
        simp [ht]
      · rw [List.filter_eq_self]
        intro t ht
        have ht8 := h5.2.2.2 t (List.mem_of_mem_drop ht)
        rw [hasB_nat _ hG t ht8, mns_bit _ _ _ hR ht8, set0_bit]
        have : t ∉ L.take p := fun w => take_drop_disj hok.2.1 w ht
        simp [this]
    have hlp : (L.take p).length = p := by rw [List.length_take]; omega
    obtain ⟨now2, t1, t2, t3⟩ := trim_go (A := L.take p) (B := L.drop p) (now := now) (tm := tm2) (tr := tr2) hR (by rw [List.take_append_drop]; exact h8) hb p FU 0 now (by omega) (FU_big (by omega)) (by
      rw [show (L.take p).drop p = [] from List.drop_eq_nil_iff.mpr (by omega), List.take_take, Nat.min_self]
      simp only [List.filter_nil, List.nil_append, List.take_append_drop]
      exact ⟨m3, m4⟩) (fun i _ => rfl)
    rw [List.take_take, Nat.min_self, Nat.zero_add, ← hcard] at t1
    rw [hrow] at g1 g2
    have hca := card_le (mns (setF 0 (L.take p)) R)
    refine ⟨nI (card (mns (setF 0 (L.take p)) R)), (T, (L.take p).filter (fun t => R.testBit t) ++ L.drop p, st, mo, M), _, f', tm2, now2, tr2, ?_, ?_, ⟨rfl, rfl, rfl, h4, g2⟩, ⟨?_, ?_, ?_, t2.1, t2.2, ?_⟩, ⟨hT, ?_, ?_, hok.2.2.2.1, hok.2.2.2.2⟩, Or.inl ⟨_, by omega, rfl⟩⟩
    · rw [e1, bd1_s, if_pos (nI_pos' (by omega)), qC, bd1_s]
      simp only [nm]
      rw [mns_nat _ hall _ hR, g1]
      simp only [bd2]
      rw [bitc_eq _ hG, bd1_s]
    · rw [e2, bd1_s, if_b0, if_pos rfl, q]
      simp only [bd3, if_b0, if_true]
      rw [e3, bd1_s, q2]
      simp only [bd3]
      exact nm_intro (sub_neg p).symm t1
    · rw [t3 0 (by omega)]; exact m0
    · rw [t3 1 (by omega)]; exact m1
    · rw [t3 2 (by omega)]; exact m2
    · intro i hi
      rw [t3 (12 + i) (by omega)]; exact m5 i hi
    · dsimp only
      rw [← hrow]
      exact hok.2.1.filter _
    · intro t ht
      dsimp only at ht ⊢
      rw [← hrow] at ht
      exact hok.2.2.1 t (List.mem_filter.mp ht).1
