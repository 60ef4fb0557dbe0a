/-! the counts -/
theorem run_snoc {M : Ar} {o c : Int32} {l : List Nat} {t : Nat} : run M o c (l ++ [t]) = act M o t (run M o c l) := by
  unfold run
  rw [List.foldl_append]
  rfl
theorem sum_b {a : Nat} (b : Bool) : nI a + b2i b = nI (a + (cond b 1 0)) := by
  cases b
  · show nI a + nI 0 = _
    rw [nI_add]; rfl
  · show nI a + nI 1 = _
    rw [nI_add]; rfl
theorem len_if {α : Type} (b : Bool) (x : α) (l : List α) : (if b then x :: l else l).length = cond b 1 0 + l.length := by
  cases b
  · simp
  · simp; omega
theorem cnt_go {T : Nat} {L : List Nat} {st o rn x : Int32} {M ms rt now : Ar} (h : ∀ p v, L[p]? = some v → Plc T L st o M ms rn rt now p v) (h8 : L.length ≤ 8) (h3 : now 3 = nI L.length) : ∀ (l : List Nat) (k m a b : Nat) (tm : Int32) (tr : Ar), L.drop k = l → k ≤ L.length → ∃ tm' tr', b_X7_countTold_7 now x (m + l.length) (nI a) (nI b) (nI k) tm tr = b_X7_countTold_7 now x m (nI (a + (psL M o (run M o st (L.take k)) l).length)) (nI (b + (flL M o st (run M o st (L.take k)) l).length)) (nI L.length) tm' tr' := by
  intro l
  induction l with
  | nil =>
    intro k m a b tm tr hd hk
    have h1 := drop_n hd
    have h2 : k = L.length := by omega
    subst h2
    exact ⟨tm, tr, rfl⟩
  | cons t l ih =>
    intro k m a b tm tr hd hk
    obtain ⟨g1, g2, g3, g4⟩ := drop_c hd
    have hp := h k t g1
    obtain ⟨tm1, tr1, e1⟩ := placeTold_eq hp (j := 1) (by omega) tm tr
    obtain ⟨tm2, tr2, e2⟩ := placeTold_eq hp (j := 2) (by omega) tm1 tr1
    have hrun : run M o st (L.take (k + 1)) = act M o t (run M o st (L.take k)) := by
      rw [← run_snoc, List.take_succ, g1]
      rfl
    obtain ⟨tm', tr', q⟩ := ih (k + 1) m (a + cond (pss M t (run M o st (L.take k))) 1 0) (b + cond (flp M st t (run M o st (L.take k))) 1 0) tm2 tr2 g2 (by omega)
    refine ⟨tm', tr', ?_⟩
    rw [hrun, Nat.add_assoc, Nat.add_assoc, ← len_if (pss M t (run M o st (L.take k))) t, ← len_if (flp M st t (run M o st (L.take k))) t, ← psL_c, ← flL_c] at q
    rw [← q, List.length_cons, ← Nat.add_assoc, b_X7_countTold_7, r3, h3, if_neg (nI_ge g3 (by omega)), show (1 : Int32) = nI 1 from rfl, show (2 : Int32) = nI 2 from rfl, e1, bd3_s]
    simp only [nm]
    rw [e2, bd3_s, nI_add, show tlP M st o (run M o st (L.take k)) t k 1 = b2i (pss M t (run M o st (L.take k))) from rfl, show tlP M st o (run M o st (L.take k)) t k 2 = b2i (flp M st t (run M o st (L.take k))) from rfl, sum_b, sum_b]
theorem pairs_in {T t : Nat} {st o : Int32} {M ms now : Ar} {kC : Int32 → Int32 → Option Int32} {kM : Int32 → Int32 → Int32 → Ar → Option (Int32 × Int32 × Ar)} (hC : CM T M ms) (hM : MM T M now) (ht : t < T) (hT : T ≤ 8) (h0 : now 0 = nI T) (h1 : now 1 = st) (h2 : now 2 = o) (ho : o = 0 ∨ o = 1) (hk : ∀ (acc tm : Int32) (tr : Ar), ∃ r tm' tr', kC acc (nI (t + 1)) = some r ∧ kM acc (nI (t + 1)) tm tr = some (r, tm', tr')) : ∀ (d u n m : Nat) (acc tm : Int32) (tr : Ar), u + d = T → d < n → d < m → ∃ r tm' tr', b_X4_soilingPairs_14 (nI T) st o ms kC n acc (nI t) (nI u) = some r ∧ b_X7_soilsAll_16 now kM m acc (nI t) (nI u) tm tr = some (r, tm', tr') := by
  intro d
  induction d with
  | zero =>
    intro u n m acc tm tr hu hn hm
    obtain ⟨n, rfl⟩ : ∃ z, n = z + 1 := ⟨n - 1, by omega⟩
    obtain ⟨m, rfl⟩ : ∃ z, m = z + 1 := ⟨m - 1, by omega⟩
    rw [b_X4_soilingPairs_14, b_X7_soilsAll_16, r0, h0, if_pos (nI_le (by omega) (by omega)), if_pos (nI_le (by omega) (by omega))]
    simp only [nm, nI_1]
    exact hk acc tm tr
  | succ d ih =>
    intro u n m acc tm tr hu hn hm
    obtain ⟨n, rfl⟩ : ∃ z, n = z + 1 := ⟨n - 1, by omega⟩
    obtain ⟨m, rfl⟩ : ∃ z, m = z + 1 := ⟨m - 1, by omega⟩
    have huT : u < T := by omega
    rw [b_X4_soilingPairs_14, b_X7_soilsAll_16, r0, h0, if_neg (nI_ge huT (by omega)), if_neg (nI_ge huT (by omega)), soilC_eq hC ht huT hT, bd1_s, oneIf_eq, bd1_s]
    by_cases e : t = u
    · subst e
      rw [if_pos rfl, if_pos rfl, show b2i false = (0 : Int32) from rfl]
      simp only [nm, nI_1]
      exact ih (t + 1) n m _ tm tr (by omega) (by omega) (by omega)
    · rw [if_neg e, if_neg (show ¬ nI t = nI u by rw [nI_eq (by omega) (by omega)]; exact e), soilM_eq hM ht huT hT h1 h2 ho, bd3_s, if_b0]
      cases flp M st u (act M o t st)
      · rw [if_neg (by decide), show b2i false = (0 : Int32) from rfl]
        simp only [nm, nI_1]
        exact ih (u + 1) n m _ 1 _ (by omega) (by omega) (by omega)
      · rw [if_pos rfl, show b2i true = (1 : Int32) from rfl]
        simp only [nm, nI_1]
        exact ih (u + 1) n m _ 1 _ (by omega) (by omega) (by omega)
theorem pairs_go {T : Nat} {st o : Int32} {M ms now : Ar} (hC : CM T M ms) (hM : MM T M now) (hT : T ≤ 8) (h0 : now 0 = nI T) (h1 : now 1 = st) (h2 : now 2 = o) (ho : o = 0 ∨ o = 1) : ∀ (d t n m : Nat) (acc tm : Int32) (tr : Ar), t + d = T → d < n → d < m → ∃ r tm' tr', b_X4_soilingPairs_4 (nI T) st o ms n acc (nI t) = some r ∧ b_X7_soilsAll_4 now m acc (nI t) tm tr = some (r, tm', tr') := by
  intro d
  induction d with
  | zero =>
    intro t n m acc tm tr ht hn hm
    obtain ⟨n, rfl⟩ : ∃ z, n = z + 1 := ⟨n - 1, by omega⟩
    obtain ⟨m, rfl⟩ : ∃ z, m = z + 1 := ⟨m - 1, by omega⟩
    rw [b_X4_soilingPairs_4, b_X7_soilsAll_4, r0, h0, if_pos (nI_le (by omega) (by omega)), if_pos (nI_le (by omega) (by omega))]
    exact ⟨acc, tm, tr, rfl, rfl⟩
  | succ d ih =>
    intro t n m acc tm tr ht hn hm
    obtain ⟨n, rfl⟩ : ∃ z, n = z + 1 := ⟨n - 1, by omega⟩
    obtain ⟨m, rfl⟩ : ∃ z, m = z + 1 := ⟨m - 1, by omega⟩
    have htT : t < T := by omega
    rw [b_X4_soilingPairs_4, b_X7_soilsAll_4, r0, h0, if_neg (nI_ge htT (by omega)), if_neg (nI_ge htT (by omega))]
    exact pairs_in hC hM htT hT h0 h1 h2 ho (fun acc tm tr => ih (t + 1) n m acc tm tr (by omega) (by omega) (by omega)) T 0 FU FU acc tm tr (by omega) (FU_big (by omega)) (FU_big (by omega))
theorem count_v {T : Nat} {L : List Nat} {b n f st o rn tm : Int32} {M ms rt now tr : Ar} (hok : okS (T, L, st, o, M)) (hC : CS (T, L, st, o, M) (nI T) st o ms rn rt) (hM : MS (T, L, st, o, M) now) {j : Nat} (hj : j ≤ 7) : ∃ r tm' tr', f_X6_count b n f (nI T) st o ms rn rt (nI j) = some (r, b, n, f) ∧ f_X7_countTold tm now tr (nI j) = some (r, tm', tr') := by
  obtain ⟨-, -, -, h4, h5⟩ := hC
  obtain ⟨m0, m1, m2, m3, m4, m5⟩ := hM
  dsimp only at h4 h5 m0 m1 m2 m3 m4 m5
  have hT : T ≤ 8 := hok.1
  have h8 := h5.1
  have ho : o = 0 ∨ o = 1 := hok.2.2.2.2
  have hn : L.Nodup := hok.2.1
  have hL : ∀ t ∈ L, t < T := hok.2.2.1
  have hb : ∀ t ∈ L, t < 8 := h5.2.2.2
  obtain ⟨m, hm⟩ : ∃ m, FU = (m + 1) + L.length := ⟨FU - L.length - 1, by have := FU_big (n := 9) (by omega); omega⟩
  obtain ⟨tm', tr', q⟩ := cnt_go (x := nI j) (ms := ms) (rn := rn) (rt := rt) (M := M) (st := st) (o := o) (T := T) (now := now) (fun p v hp => ⟨hT, hn, hL, h5, h4, m1, m2, ho, m3, m4, m5, hp⟩) h8 m3 L 0 (m + 1) 0 0 tm tr rfl (by omega)
  have hq : f_X7_countTold tm now tr (nI j) = b_X7_countTold_7 now (nI j) (m + 1) (nI (0 + (psL M o (run M o st (L.take 0)) L).length)) (nI (0 + (flL M o st (run M o st (L.take 0)) L).length)) (nI L.length) tm' tr' := by
    unfold f_X7_countTold
    rw [hm]
    exact q
  rw [hq, b_X7_countTold_7, r3, m3, if_pos (nI_le (by omega) (by omega)), Nat.zero_add, Nat.zero_add, show run M o st (L.take 0) = st from rfl]
  unfold f_X6_count
  rcases (by omega : j = 0 ∨ j = 1 ∨ j = 2 ∨ j = 3 ∨ j = 4 ∨ j = 5 ∨ j = 6 ∨ j = 7) with rfl | rfl | rfl | rfl | rfl | rfl | rfl | rfl
  · rw [if_pos (show nI 0 = (0 : Int32) from rfl), if_pos (show nI 0 = (0 : Int32) from rfl), r0, m0]
    exact ⟨_, tm', tr', rfl, rfl⟩
  · rw [if_neg (show ¬ nI 1 = (0 : Int32) by decide), if_neg (show ¬ nI 1 = (0 : Int32) by decide), if_pos (show nI 1 = (1 : Int32) from rfl), if_pos (show nI 1 = (1 : Int32) from rfl), r3, m3, h5.2.1]
    exact ⟨_, tm', tr', rfl, rfl⟩
  · rw [if_neg (show ¬ nI 2 = (0 : Int32) by decide), if_neg (show ¬ nI 2 = (0 : Int32) by decide), if_neg (show ¬ nI 2 = (1 : Int32) by decide), if_neg (show ¬ nI 2 = (1 : Int32) by decide), if_pos (show nI 2 = (2 : Int32) from rfl), if_pos (show nI 2 = (2 : Int32) from rfl), r1, m1]
    exact ⟨_, tm', tr', rfl, rfl⟩
  · rw [if_neg (show ¬ nI 3 = (0 : Int32) by decide), if_neg (show ¬ nI 3 = (0 : Int32) by decide), if_neg (show ¬ nI 3 = (1 : Int32) by decide), if_neg (show ¬ nI 3 = (1 : Int32) by decide), if_neg (show ¬ nI 3 = (2 : Int32) by decide), if_neg (show ¬ nI 3 = (2 : Int32) by decide), if_pos (show nI 3 = (3 : Int32) from rfl), if_pos (show nI 3 = (3 : Int32) from rfl), r2, m2]
    exact ⟨_, tm', tr', rfl, rfl⟩
  · rw [if_neg (show ¬ nI 4 = (0 : Int32) by decide), if_neg (show ¬ nI 4 = (0 : Int32) by decide), if_neg (show ¬ nI 4 = (1 : Int32) by decide), if_neg (show ¬ nI 4 = (1 : Int32) by decide), if_neg (show ¬ nI 4 = (2 : Int32) by decide), if_neg (show ¬ nI 4 = (2 : Int32) by decide), if_neg (show ¬ nI 4 = (3 : Int32) by decide), if_neg (show ¬ nI 4 = (3 : Int32) by decide), if_pos (show nI 4 = (4 : Int32) from rfl), if_pos (show nI 4 = (4 : Int32) from rfl), r3, m3]
    obtain ⟨tr2, q1, q2⟩ := tries_eq (S := 255) (tm := tm') (tr := tr') (p := L.length) h8 m4 (by omega)
    rw [List.take_length, filt_all hb] at q1 q2
    have hb2 := behindT_eq q2 h8 hL m5 hT m1 m2 ho
    rw [q1, bd2_s, hb2, bd1_s, cellsC_eq h5 hL h4 hT, filt_all hb, bd1_s]
    exact ⟨_, _, _, rfl, rfl⟩
  · rw [if_neg (show ¬ nI 5 = (0 : Int32) by decide), if_neg (show ¬ nI 5 = (0 : Int32) by decide), if_neg (show ¬ nI 5 = (1 : Int32) by decide), if_neg (show ¬ nI 5 = (1 : Int32) by decide), if_neg (show ¬ nI 5 = (2 : Int32) by decide), if_neg (show ¬ nI 5 = (2 : Int32) by decide), if_neg (show ¬ nI 5 = (3 : Int32) by decide), if_neg (show ¬ nI 5 = (3 : Int32) by decide), if_neg (show ¬ nI 5 = (4 : Int32) by decide), if_neg (show ¬ nI 5 = (4 : Int32) by decide), if_pos (show nI 5 = (5 : Int32) from rfl), if_pos (show nI 5 = (5 : Int32) from rfl)]
    have hs := fun t ht => hb t ((psL_sub L st (M := M) (o := o)).subset ht)
    rw [(passIn_eq h5 hL h4 hT).2, bd1_s, bitc_eq _ (set0_lt hs), bd1_s, card_set0 ((psL_sub _ _).nodup hn) hs]
    exact ⟨_, tm', tr', rfl, rfl⟩
  · rw [if_neg (show ¬ nI 6 = (0 : Int32) by decide), if_neg (show ¬ nI 6 = (0 : Int32) by decide), if_neg (show ¬ nI 6 = (1 : Int32) by decide), if_neg (show ¬ nI 6 = (1 : Int32) by decide), if_neg (show ¬ nI 6 = (2 : Int32) by decide), if_neg (show ¬ nI 6 = (2 : Int32) by decide), if_neg (show ¬ nI 6 = (3 : Int32) by decide), if_neg (show ¬ nI 6 = (3 : Int32) by decide), if_neg (show ¬ nI 6 = (4 : Int32) by decide), if_neg (show ¬ nI 6 = (4 : Int32) by decide), if_neg (show ¬ nI 6 = (5 : Int32) by decide), if_neg (show ¬ nI 6 = (5 : Int32) by decide), if_pos (show nI 6 = (6 : Int32) from rfl), if_pos (show nI 6 = (6 : Int32) from rfl)]
    have hs := fun t ht => hb t ((flL_sub L st (M := M) (o := o) (st := st)).subset ht)
    rw [(flIn_eq h5 hn hL h4 hT).2, bd1_s, bitc_eq _ (set0_lt hs), bd1_s, card_set0 ((flL_sub _ _).nodup hn) hs]
    exact ⟨_, tm', tr', rfl, rfl⟩
  · rw [if_neg (show ¬ nI 7 = (0 : Int32) by decide), if_neg (show ¬ nI 7 = (0 : Int32) by decide), if_neg (show ¬ nI 7 = (1 : Int32) by decide), if_neg (show ¬ nI 7 = (1 : Int32) by decide), if_neg (show ¬ nI 7 = (2 : Int32) by decide), if_neg (show ¬ nI 7 = (2 : Int32) by decide), if_neg (show ¬ nI 7 = (3 : Int32) by decide), if_neg (show ¬ nI 7 = (3 : Int32) by decide), if_neg (show ¬ nI 7 = (4 : Int32) by decide), if_neg (show ¬ nI 7 = (4 : Int32) by decide), if_neg (show ¬ nI 7 = (5 : Int32) by decide), if_neg (show ¬ nI 7 = (5 : Int32) by decide), if_neg (show ¬ nI 7 = (6 : Int32) by decide), if_neg (show ¬ nI 7 = (6 : Int32) by decide), if_pos (show nI 7 = (7 : Int32) from rfl)]
    obtain ⟨r, tm2, tr2, g1, g2⟩ := pairs_go h4 m5 hT m0 m1 m2 ho T 0 FU FU 0 tm' tr' (by omega) (FU_big (by omega)) (FU_big (by omega))
    have g1' : f_X4_soilingPairs (nI T) st o ms = some r := g1
    have g2' : f_X7_soilsAll tm' now tr' = some (r, tm2, tr2) := g2
    rw [g1', bd1_s, g2', bd3_s]
    exact ⟨r, tm2, tr2, rfl, rfl⟩
theorem count_sim {σ : Sv} {b n f sz st mo rn tm : Int32} {ms rt now rf tr : Ar} (x : Int32) (hok : okS σ) (hC : CS σ sz st mo ms rn rt) (hM : MS σ now) (hc : Cnt b n f rf) : ∃ r b' n' f' tm' rf' tr', f_X6_count b n f sz st mo ms rn rt x = some (r, b', n', f') ∧ f_X7_count tm now rf tr x = some (r, tm', rf', tr') ∧ Cnt b' n' f' rf' := by
  obtain ⟨T, L, s, o, M⟩ := σ
  have hC0 := hC
  obtain ⟨rfl, h2, h3, h4, h5⟩ := hC
  dsimp only at h2 h3
  subst h2 h3
  rcases rng (x := x) 7 (m := 7) rfl (by omega) with ⟨j, hj, rfl, a1⟩ | ⟨a1, a2⟩
  · obtain ⟨r, tm', tr', q1, q2⟩ := count_v (b := b) (n := n) (f := f) (tm := tm) (tr := tr) hok hC0 hM hj
    refine ⟨r, b, n, f, tm', rf, tr', q1, ?_, hc⟩
    unfold f_X7_count
    rw [a1, bd1_s, if_b0, if_pos rfl, q2, bd3_s]
  · obtain ⟨b', n', f', rf', q1, q2, q3⟩ := ref_sim (x := -2) hc (by simp)
    refine ⟨-2, b', n', f', tm, rf', tr, ?_, ?_, q3⟩
    · have g : ∀ j, j ≤ 7 → ¬ x = nI j := fun j hj => by
        rcases a2 with e2 | ⟨-, e2⟩
        · exact under e2 (by omega)
        · exact (over e2 hj (by omega)).2.1
      unfold f_X6_count
      rw [if_neg (show ¬ x = (0 : Int32) from g 0 (by omega)), if_neg (show ¬ x = (1 : Int32) from g 1 (by omega)), if_neg (show ¬ x = (2 : Int32) from g 2 (by omega)), if_neg (show ¬ x = (3 : Int32) from g 3 (by omega)), if_neg (show ¬ x = (4 : Int32) from g 4 (by omega)), if_neg (show ¬ x = (5 : Int32) from g 5 (by omega)), if_neg (show ¬ x = (6 : Int32) from g 6 (by omega)), if_neg (show ¬ x = (7 : Int32) from g 7 (by omega)), q1, bd4_s]
    · unfold f_X7_count
      rw [a1, bd1_s, if_b0, if_neg (by decide), q2, bd2_s]
