/-! soils, cleans, the place of a test in the row, who, left, back -/
theorem two_eq {T : Nat} {now : Ar} (hT : T ≤ 8) (h0 : now 0 = nI T) (x y : Int32) : (∃ t u, t < T ∧ u < T ∧ t ≠ u ∧ x = nI t ∧ y = nI u ∧ f_X6_areTwoTests (nI T) x y = some true ∧ f_X7_areTwo now x y = some true) ∨ (f_X6_areTwoTests (nI T) x y = some false ∧ f_X7_areTwo now x y = some false) := by
  unfold f_X6_areTwoTests f_X7_areTwo
  rcases tests_eq hT h0 x with ⟨t, ht, rfl, e1, e2⟩ | ⟨e1, e2⟩
  · rw [e1, e2, bd1_s, bd1_s, if_b0, if_b0, if_pos rfl, if_pos rfl]
    rcases tests_eq hT h0 y with ⟨u, hu, rfl, g1, g2⟩ | ⟨g1, g2⟩
    · simp only [g1, g2, bd1_s, if_b0, if_true]
      by_cases h : t = u
      · subst h
        rw [if_pos rfl]
        exact Or.inr ⟨rfl, rfl⟩
      · rw [if_neg (show ¬ nI t = nI u by rw [nI_eq (by omega) (by omega)]; exact h)]
        exact Or.inl ⟨t, u, ht, hu, h, rfl, rfl, rfl, rfl⟩
    · rw [g1, g2]
      exact Or.inr ⟨rfl, rfl⟩
  · rw [e1, e2]
    exact Or.inr ⟨rfl, rfl⟩
theorem soilC_eq {T t u : Nat} {st o : Int32} {M ms : Ar} (hM : CM T M ms) (ht : t < T) (hu : u < T) (hT : T ≤ 8) : f_X4_doesSoil st o ms (nI t) (nI u) = some (if t = u then false else flp M st u (act M o t st)) := by
  unfold f_X4_doesSoil
  by_cases h : t = u
  · subst h
    rw [if_pos rfl, if_pos rfl]
  · rw [if_neg (show ¬ nI t = nI u by rw [nI_eq (by omega) (by omega)]; exact h), if_neg h, actC_eq hM ht hT, bd1_s, flpC_eq hM hu hT, bd1_s, if_b0]
    cases flp M st u (act M o t st) <;> rfl
theorem TR1 (t : Nat) (tr : Ar) : TR [t] (1 : Int32) (upd tr 0 (nI t)) := by
  refine ⟨rfl, fun k u hk => ?_⟩
  cases k with
  | zero =>
    simp at hk
    subst hk
    exact upd_s
  | succ k => simp at hk
theorem TR2 (t c : Nat) (tr : Ar) : TR [t, c] (2 : Int32) (upd (upd tr 0 (nI t)) 1 (nI c)) := by
  refine ⟨rfl, fun k u hk => ?_⟩
  match k with
  | 0 =>
    simp at hk
    subst hk
    rw [upd_n (by omega)]
    exact upd_s
  | 1 =>
    simp at hk
    subst hk
    exact upd_s
  | k + 2 => simp at hk
theorem soilM_eq {T t u : Nat} {st o tm : Int32} {M now tr : Ar} (hM : MM T M now) (ht : t < T) (hu : u < T) (hT : T ≤ 8) (h1 : now 1 = st) (h2 : now 2 = o) (ho : o = 0 ∨ o = 1) : f_X7_soilsFor tm now tr (nI t) (nI u) = some (flp M st u (act M o t st), 1, upd tr 0 (nI t)) := by
  unfold f_X7_soilsFor
  rw [wr_at (i := (0 : Int32)) 0 rfl (by omega) (by omega), flpM_eq (l0 := [t]) (TR1 t tr) (by simp) (by simpa using ht) hM hT h1 h2 ho hu]
  rfl
theorem cleansM_eq {T t u c : Nat} {st o tm : Int32} {M now tr : Ar} (hM : MM T M now) (hc : c < T) (ht : t < T) (hu : u < T) (hT : T ≤ 8) (h1 : now 1 = st) (h2 : now 2 = o) (ho : o = 0 ∨ o = 1) : ∃ tm' tr', f_X7_cleansFor tm now tr (nI c) (nI t) (nI u) = some (!flp M st u (act M o c (act M o t st)), tm', tr') := by
  unfold f_X7_cleansFor
  rw [wr_at (i := (0 : Int32)) 0 rfl (by omega) (by omega), wr_at (i := (1 : Int32)) 1 rfl (by omega) (by omega), flpM_eq (l0 := [t, c]) (TR2 t c tr) (by simp) (by intro x hx; simp at hx; rcases hx with rfl | rfl <;> assumption) hM hT h1 h2 ho hu, bd1_s, if_b0]
  refine ⟨2, upd (upd tr 0 (nI t)) 1 (nI c), ?_⟩
  show (if flp M st u (act M o c (act M o t st)) then _ else _) = _
  cases flp M st u (act M o c (act M o t st)) <;> rfl
theorem or0 (x : Int32) : x ||| 0 = x := Int32.or_zero
theorem cleans_go {T t u : Nat} {st o : Int32} {M ms now rf : Ar} (hC : CM T M ms) (hM : MM T M now) (ht : t < T) (hu : u < T) (hT : T ≤ 8) (h0 : now 0 = nI T) (h1 : now 1 = st) (h2 : now 2 = o) (ho : o = 0 ∨ o = 1) : ∀ (d k n m : Nat) (acc tm : Int32) (tr : Ar), k + d = T → d < n → d < m → ∃ r tm' tr', b_X4_cleaners_16 (nI T) st o ms (nI t) (nI u) n acc (act M o t st) (nI k) = some r ∧ b_X7_cleans_37 now (nI t) (nI u) m acc (nI k) tm rf tr = some (r, tm', rf, tr') := by
  intro d
  induction d with
  | zero =>
    intro k n m acc tm tr hk hn hm
    obtain ⟨n, rfl⟩ : ∃ z, n = z + 1 := ⟨n - 1, by omega⟩
    obtain ⟨m, rfl⟩ : ∃ z, m = z + 1 := ⟨m - 1, by omega⟩
    refine ⟨acc, tm, tr, ?_, ?_⟩
    · rw [b_X4_cleaners_16, if_pos (nI_le (by omega) (by omega))]
    · rw [b_X7_cleans_37, r0, h0, if_pos (nI_le (by omega) (by omega))]
  | succ d ih =>
    intro k n m acc tm tr hk hn hm
    obtain ⟨n, rfl⟩ : ∃ z, n = z + 1 := ⟨n - 1, by omega⟩
    obtain ⟨m, rfl⟩ : ∃ z, m = z + 1 := ⟨m - 1, by omega⟩
    have hkT : k < T := by omega
    rw [b_X4_cleaners_16, if_neg (nI_ge hkT (by omega)), b_X7_cleans_37, r0, h0, if_neg (nI_ge hkT (by omega))]
    by_cases e1 : k = t
    · subst e1
      rw [if_pos rfl, if_pos rfl]
      simp only [nm, nI_1, or0]
      exact ih (k + 1) n m acc tm tr (by omega) (by omega) (by omega)
    · rw [if_neg (show ¬ nI k = nI t by rw [nI_eq (by omega) (by omega)]; exact e1), if_neg (show ¬ nI k = nI t by rw [nI_eq (by omega) (by omega)]; exact e1)]
      by_cases e2 : k = u
      · subst e2
        rw [if_pos rfl, if_pos rfl]
        simp only [nm, nI_1, or0]
        exact ih (k + 1) n m acc tm tr (by omega) (by omega) (by omega)
      · rw [if_neg (show ¬ nI k = nI u by rw [nI_eq (by omega) (by omega)]; exact e2), if_neg (show ¬ nI k = nI u by rw [nI_eq (by omega) (by omega)]; exact e2)]
        obtain ⟨tm', tr', q⟩ := cleansM_eq (tm := tm) (tr := tr) hM hkT ht hu hT h1 h2 ho
        rw [q, bd3_s, actC_eq hC hkT hT, bd1_s, flpC_eq hC hu hT, bd1_s, if_b0, if_b0]
        cases flp M st u (act M o k (act M o t st))
        · simp only [nm, nI_1, or0, Bool.not_false, Bool.false_eq_true, if_true, if_false]
          exact ih (k + 1) n m _ tm' tr' (by omega) (by omega) (by omega)
        · simp only [nm, nI_1, or0, Bool.not_true, Bool.false_eq_true, if_true, if_false]
          exact ih (k + 1) n m _ tm' tr' (by omega) (by omega) (by omega)
theorem soils_sim {σ : Sv} {b n f sz st mo rn tm : Int32} {ms rt now rf tr : Ar} (x y : Int32) (hok : okS σ) (hC : CS σ sz st mo ms rn rt) (hM : MS σ now) (hc : Cnt b n f rf) : ∃ r b' n' f' tm' rf' tr', f_X6_soils b n f sz st mo ms x y = some (r, b', n', f') ∧ f_X7_soils tm now rf tr x y = some (r, tm', rf', tr') ∧ Cnt b' n' f' rf' := by
  obtain ⟨T, L, s, o, M⟩ := σ
  obtain ⟨rfl, rfl, rfl, h4, h5⟩ := hC
  obtain ⟨m0, m1, m2, m3, m4, m5⟩ := hM
  dsimp only at h4 h5 m0 m1 m2 m3 m4 m5
  have hT : T ≤ 8 := hok.1
  have ho := hok.2.2.2.2
  dsimp only at ho
  unfold f_X6_soils f_X7_soils
  rcases two_eq hT m0 x y with ⟨t, u, ht, hu, hne, rfl, rfl, e1, e2⟩ | ⟨e1, e2⟩
  · dsimp only
    rw [e1, e2, bd1_s, bd1_s, if_b0, if_b0, if_pos rfl, if_pos rfl, soilC_eq h4 ht hu hT, if_neg hne, bd1_s, oneIf_eq, bd1_s, soilM_eq m5 ht hu hT m1 m2 ho, bd3_s, if_b0]
    refine ⟨_, b, n, f, 1, rf, upd tr 0 (nI t), rfl, ?_, hc⟩
    cases flp M st u (act M mo t st) <;> rfl
  · dsimp only
    obtain ⟨b', n', f', rf', q1, q2, q3⟩ := ref_sim (x := -2) hc (by simp)
    exact ⟨-2, b', n', f', tm, rf', tr, by rw [e1, bd1_s, if_b0, if_neg (by decide), q1, bd4_s], by rw [e2, bd1_s, if_b0, if_neg (by decide), q2, bd2_s], q3⟩
theorem cleans_sim {σ : Sv} {b n f sz st mo rn tm : Int32} {ms rt now rf tr : Ar} (x y : Int32) (hok : okS σ) (hC : CS σ sz st mo ms rn rt) (hM : MS σ now) (hc : Cnt b n f rf) : ∃ r b' n' f' tm' rf' tr', f_X6_cleans b n f sz st mo ms x y = some (r, b', n', f') ∧ f_X7_cleans tm now rf tr x y = some (r, tm', rf', tr') ∧ Cnt b' n' f' rf' := by
  obtain ⟨T, L, s, o, M⟩ := σ
  obtain ⟨rfl, rfl, rfl, h4, h5⟩ := hC
  obtain ⟨m0, m1, m2, m3, m4, m5⟩ := hM
  dsimp only at h4 h5 m0 m1 m2 m3 m4 m5
  have hT : T ≤ 8 := hok.1
  have ho := hok.2.2.2.2
  dsimp only at ho
  unfold f_X6_cleans f_X7_cleans
  rcases two_eq hT m0 x y with ⟨t, u, ht, hu, hne, rfl, rfl, e1, e2⟩ | ⟨e1, e2⟩
  · dsimp only
    rw [e1, e2, bd1_s, bd1_s, if_b0, if_b0, if_pos rfl, if_pos rfl, soilC_eq h4 ht hu hT, if_neg hne, bd1_s, soilM_eq m5 ht hu hT m1 m2 ho, bd3_s, if_b0, if_b0]
    cases flp M st u (act M mo t st)
    · obtain ⟨b', n', f', rf', q1, q2, q3⟩ := ref_sim (x := -3) hc (by simp)
      exact ⟨-3, b', n', f', 1, rf', upd tr 0 (nI t), by rw [if_neg (by decide), q1, bd4_s], by rw [if_neg (by decide), q2, bd2_s], q3⟩
    · rw [if_pos rfl, if_pos rfl]
      unfold f_X4_cleaners
      rw [actC_eq h4 ht hT, bd1_s]
      obtain ⟨r, tm', tr', q1, q2⟩ := cleans_go (rf := rf) h4 m5 ht hu hT m0 m1 m2 ho T 0 FU FU 0 1 (upd tr 0 (nI t)) (by omega) (FU_big (by omega)) (FU_big (by omega))
      exact ⟨r, b, n, f, tm', rf, tr', by rw [show (0 : Int32) = nI 0 from rfl] at *; rw [q1, bd1_s], q2, hc⟩
  · dsimp only
    obtain ⟨b', n', f', rf', q1, q2, q3⟩ := ref_sim (x := -2) hc (by simp)
    exact ⟨-2, b', n', f', tm, rf', tr, by rw [e1, bd1_s, if_b0, if_neg (by decide), q1, bd4_s], by rw [e2, bd1_s, if_b0, if_neg (by decide), q2, bd2_s], q3⟩
