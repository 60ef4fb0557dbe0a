/-! the orders read, and carried out -/
theorem many_c (x : Int32) : f_X7_manyOf x = some (-1) ∨ ∃ w, w ≤ 5 ∧ f_X7_manyOf x = some (nI w) ∧ ((x = 99 ∧ w = 0) ∨ (x = 109 ∧ w = 1) ∨ (x = 114 ∧ w = 1) ∨ (x = 115 ∧ w = 1) ∨ (x = 116 ∧ w = 5) ∨ (x = 119 ∧ w = 0)) := by
  unfold f_X7_manyOf
  by_cases h1 : x = 99
  · rw [if_pos h1]; exact Or.inr ⟨0, by omega, rfl, by simp [h1]⟩
  rw [if_neg h1]
  by_cases h2 : x = 109
  · rw [if_pos h2]; exact Or.inr ⟨1, by omega, rfl, by simp [h2]⟩
  rw [if_neg h2]
  by_cases h3 : x = 114
  · rw [if_pos h3]; exact Or.inr ⟨1, by omega, rfl, by simp [h3]⟩
  rw [if_neg h3]
  by_cases h4 : x = 115
  · rw [if_pos h4]; exact Or.inr ⟨1, by omega, rfl, by simp [h4]⟩
  rw [if_neg h4]
  by_cases h5 : x = 116
  · rw [if_pos h5]; exact Or.inr ⟨5, by omega, rfl, by simp [h5]⟩
  rw [if_neg h5]
  by_cases h6 : x = 119
  · rw [if_pos h6]; exact Or.inr ⟨0, by omega, rfl, by simp [h6]⟩
  rw [if_neg h6]
  exact Or.inl rfl
theorem many_eq (x : Int32) : f_X0_numbersOf x = f_X7_manyOf x := rfl
theorem ord_go {K w N : Nat} {tb tx : Ar} {le leM : Ar} {wr : Int32} (hK : K ≤ 150) (ht : ∀ i, i < K → tb i = tx i) (hw : w ≤ 5) (hN : N < 75) : ∀ (d g i n m : Nat) (fi : Int32) (nu nuM : Ar), g + d = w → d < m → i ≤ K → K < n + i → (fi = 0 ∨ DD K tx i = false) →
    (∃ p a1 a2 a3 a4 a5 a6 c1 c2 c3 c4, p ≤ 150 ∧ b_X0_read_12 (nI K) tb n (nI i) (nI N) (nI w) (nI g) fi le nu = some (nI p, a1, a2, a3, a4, a5, a6) ∧ b_X7_takesOrder_53 (nI K) tx m (nI w) (nI g) (nI N) (nI i) wr leM nuM = some (false, c1, c2, nI p, c3, c4)) ∨
    (∃ i2 n2 be2 fi2 nu2 nuM2, i < i2 ∧ i2 ≤ K ∧ K < n2 + i2 ∧ b_X0_read_12 (nI K) tb n (nI i) (nI N) (nI w) (nI g) fi le nu = b_X0_read_12 (nI K) tb n2 (nI i2) (nI (N + 1)) (-1) be2 fi2 le nu2 ∧ b_X7_takesOrder_53 (nI K) tx m (nI w) (nI g) (nI N) (nI i) wr leM nuM = some (true, nI (N + 1), nI i2, wr, leM, nuM2) ∧ (∀ g', g ≤ g' → g' < w → nu2 (5 * N + g') = nuM2 (5 * N + g')) ∧ ∀ j, j < 5 * N + g → nu2 j = nu j ∧ nuM2 j = nuM j) := by
  intro d
  induction d with
  | zero =>
    intro g i n m fi nu nuM hg hm hi hn hd
    obtain ⟨m, rfl⟩ : ∃ z, m = z + 1 := ⟨m - 1, by omega⟩
    have hgw : g = w := by omega
    subst hgw
    obtain ⟨i1, n1, fi1, q1, q2, q3, q4, q5, q6, q7⟩ := blk hK ht (sz := nI N) (wa := nI g) (be := nI g) (le := le) (nu := nu) (K - i) i FU n fi (by omega) (FU_big (by omega)) hn
    have hd1 : fi1 = 0 ∨ DD K tx i1 = false := by
      rcases q7 with q7 | ⟨rfl, rfl⟩
      · exact Or.inl q7
      · exact hd
    have hbl : f_X7_blanks (nI K) (nI i) tx = some (nI i1) := q4
    rw [q5, b_X7_takesOrder_53, if_pos (nI_le (by omega) (by omega)), hbl, bd1_s, isAt_q hK q2, bd1_s, if_b0]
    cases hQ : QQ K tx 59 i1
    · obtain ⟨a1, a2, a3, a4, a5, a6, hf⟩ := fail_e (sz := nI N) (fi := fi1) (le := le) (nu := nu) hK ht hw q2 q3 hd1 q6 hQ
      rw [if_neg (by decide), fails_eq, bd2_s]
      exact Or.inl ⟨i1, a1, a2, a3, a4, a5, a6, nI N, nI i1, leM, nuM, by omega, hf, rfl⟩
    · have hx := hQ
      unfold QQ at hx
      simp at hx
      obtain ⟨n1, rfl⟩ : ∃ z, n1 = z + 1 := ⟨n1 - 1, by omega⟩
      refine Or.inr ⟨i1 + 1, n1, nI g, fi1, nu, nuM, by omega, by omega, by omega, ?_, ?_, fun g' h1 h2 => by omega, fun j _ => ⟨rfl, rfl⟩⟩
      · rw [stepC hK ht hx.1, hx.2]
        unfold f_X0_takes
        rw [if_neg (show ¬ (59 : Int32) = 32 by decide), if_neg (wa_n hw), if_pos rfl]
        unfold f_X0_endsOrder
        rw [if_pos (nI_le (by omega) (by omega))]
        simp only [nm, nI_1]
        rw [bd3_s, bd7_s, if_b0, if_pos rfl]
      · rw [if_pos rfl]
        simp only [nm, nI_1]
  | succ d ih =>
    intro g i n m fi nu nuM hg hm hi hn hd
    obtain ⟨m, rfl⟩ : ∃ z, m = z + 1 := ⟨m - 1, by omega⟩
    have hgw : g < w := by omega
    have hix : (5 : Int32) * nI N + nI g = nI (5 * N + g) := by
      rw [show (5 : Int32) = nI 5 from rfl, pk_mul, nI_add]
    rw [b_X7_takesOrder_53, if_neg (nI_ge hgw (by omega)), hix]
    rcases num_sim (wr := wr) (le := le) (nu := nu) (nuM := nuM) hK ht hw hgw hN hi hn hd with ⟨p, a1, a2, a3, a4, a5, a6, s, nuM', hp, e1, e2⟩ | ⟨i2, n2, fi2, nu2, nuM2, h1, h2, h3, e1, e2, h4, h5, h6⟩
    · rw [e1, e2, bd4_s, if_b0, if_neg (by decide)]
      exact Or.inl ⟨p, a1, a2, a3, a4, a5, a6, nI N, s, leM, nuM', hp, rfl, rfl⟩
    · rw [e1, e2, bd4_s, if_b0, if_pos rfl]
      simp only [nm, nI_1]
      rcases ih (g + 1) i2 n2 m fi2 nu2 nuM2 (by omega) (by omega) h2 h3 h4 with ⟨p, a1, a2, a3, a4, a5, a6, c1, c2, c3, c4, hp, f1, f2⟩ | ⟨i3, n3, be3, fi3, nu3, nuM3, k1, k2, k3, f1, f2, k4, k5⟩
      · exact Or.inl ⟨p, a1, a2, a3, a4, a5, a6, c1, c2, c3, c4, hp, f1, f2⟩
      · refine Or.inr ⟨i3, n3, be3, fi3, nu3, nuM3, by omega, k2, k3, f1, f2, fun g' l1 l2 => ?_, fun j hj => ?_⟩
        · by_cases hgg : g' = g
          · subst hgg
            have q := k5 (5 * N + g') (by omega)
            rw [q.1, q.2]
            exact h5
          · exact k4 g' (by omega) l2
        · have q := k5 j (by omega)
          have q2 := h6 j (by omega)
          exact ⟨q.1.trans q2.1, q.2.trans q2.2⟩
def Ag (N : Nat) (le nu leM nuM : Ar) : Prop := ∀ k, k < N → le k = leM k ∧ ∃ w, w ≤ 5 ∧ f_X7_manyOf (leM k) = some (nI w) ∧ ∀ g, g < w → nu (5 * k + g) = nuM (5 * k + g)
def Out (X : Option (Int32 × Int32 × Int32 × Int32 × Int32 × Ar × Ar)) (Y : Option (Bool × Int32 × Int32 × Int32 × Ar × Ar)) : Prop :=
  (∃ p a1 a2 a3 a4 a5 a6 c1 c2 c3 c4, p ≤ 150 ∧ X = some (nI p, a1, a2, a3, a4, a5, a6) ∧ Y = some (false, c1, c2, nI p, c3, c4)) ∨
  (∃ N a2 a3 a4 le nu c2 c3 leM nuM, N ≤ 75 ∧ X = some (-1, nI N, a2, a3, a4, le, nu) ∧ Y = some (true, nI N, c2, c3, leM, nuM) ∧ Ag N le nu leM nuM)
theorem read_go {K : Nat} {tb tx : Ar} {wr : Int32} (hK : K ≤ 150) (ht : ∀ i, i < K → tb i = tx i) : ∀ (d N i n m : Nat) (be fi : Int32) (le nu leM nuM : Ar), i ≤ K → K - i ≤ d → d < m → K < n + i → 2 * N ≤ i → QQ K tx 32 i = false → Ag N le nu leM nuM → Out (b_X0_read_12 (nI K) tb n (nI i) (nI N) (-1) be fi le nu) (b_X7_isRead_14 (nI K) tx m (nI N) (nI i) wr leM nuM) := by
  intro d
  induction d with
  | zero =>
    intro N i n m be fi le nu leM nuM hi hd hm hn h2 hq hA
    obtain ⟨m, rfl⟩ : ∃ z, m = z + 1 := ⟨m - 1, by omega⟩
    obtain ⟨n, rfl⟩ : ∃ z, n = z + 1 := ⟨n - 1, by omega⟩
    have hiK : i = K := by omega
    subst hiK
    rw [b_X0_read_12, if_pos (nI_le (by omega) (by omega)), if_pos rfl, b_X7_isRead_14, if_pos (nI_le (by omega) (by omega))]
    by_cases h0 : N = 0
    · subst h0
      rw [if_pos (show nI 0 = (0 : Int32) from rfl), if_neg (show ¬ (0 : Int32) < nI 0 by decide), fails_eq, bd2_s, if_b0, if_neg (by decide)]
      exact Or.inl ⟨i, _, _, _, _, _, _, _, _, _, _, hK, rfl, rfl⟩
    · rw [if_neg (show ¬ nI N = (0 : Int32) by rw [show (0 : Int32) = nI 0 from rfl, nI_eq (by omega) (by omega)]; exact h0), if_pos (show (0 : Int32) < nI N from nI_lt (a := 0) (by omega) (by omega))]
      exact Or.inr ⟨N, _, _, _, le, nu, _, _, leM, nuM, by omega, rfl, rfl, hA⟩
  | succ d ih =>
    intro N i n m be fi le nu leM nuM hi hd hm hn h2 hq hA
    by_cases hiK : i = K
    · exact ih N i n m be fi le nu leM nuM hi (by omega) (by omega) hn h2 hq hA
    obtain ⟨m, rfl⟩ : ∃ z, m = z + 1 := ⟨m - 1, by omega⟩
    obtain ⟨n, rfl⟩ : ∃ z, n = z + 1 := ⟨n - 1, by omega⟩
    have hi2 : i < K := by omega
    have hN : N < 75 := by omega
    have hx : ¬ tx i = 32 := by
      unfold QQ at hq
      rw [decide_eq_true hi2, Bool.true_and] at hq
      simpa using hq
    rw [stepC hK ht hi2, b_X7_isRead_14, if_neg (nI_ge hi2 (by omega))]
    unfold f_X0_takes f_X0_opensOrder f_X7_takesOrder
    rw [if_neg hx, if_pos rfl, many_eq, rd_at i rfl (by omega) (by omega)]
    rcases many_c (tx i) with e | ⟨w, hw, e, hl⟩
    · rw [e, bd1_s, if_pos rfl, bd5_s, bd7_s, if_b0, if_neg (by decide), bd1_s, if_pos rfl, fails_eq, bd2_s, bd6_s, if_b0, if_neg (by decide)]
      exact Or.inl ⟨i, _, _, _, _, _, _, _, _, _, _, by omega, rfl, rfl⟩
    · rw [e, bd1_s, if_neg (wa_n hw), if_neg (nI_pos (by omega)), if_pos (show nI N < (75 : Int32) from nI_lt (b := 75) hN (by omega)), wr_at N rfl hN (by omega), bd5_s, bd7_s, if_b0, if_pos rfl, bd1_s, if_neg (wa_n hw), rd_at i rfl (by omega) (by omega), wr_at N rfl hN (by omega)]
      simp only [nm, nI_1]
      rcases ord_go (le := upd le N (tx i)) (leM := upd leM N (tx i)) (wr := wr) hK ht hw hN w 0 (i + 1) n FU 0 nu nuM (by omega) (FU_big (by omega)) (by omega) (by omega) (Or.inl rfl) with ⟨p, a1, a2, a3, a4, a5, a6, c1, c2, c3, c4, hp, f1, f2⟩ | ⟨i2, n2, be2, fi2, nu2, nuM2, k1, k2, k3, f1, f2, k4, k5⟩
      · refine Or.inl ⟨p, a1, a2, a3, a4, a5, a6, c1, c2, c3, c4, hp, f1, ?_⟩
        rw [show b_X7_takesOrder_53 (nI K) tx FU (nI w) 0 (nI N) (nI (i + 1)) wr (upd leM N (tx i)) nuM = some (false, c1, c2, nI p, c3, c4) from f2, bd6_s, if_b0, if_neg (by decide)]
      · obtain ⟨i3, n3, fi3, q1, q2, q3, q4, q5, q6, q7⟩ := blk hK ht (sz := nI (N + 1)) (wa := -1) (be := be2) (le := upd le N (tx i)) (nu := nu2) (K - i2) i2 FU n2 fi2 (by omega) (FU_big (by omega)) k3
        have hbl : f_X7_blanks (nI K) (nI i2) tx = some (nI i3) := q4
        have e1 := f1.trans q5
        rw [show b_X7_takesOrder_53 (nI K) tx FU (nI w) 0 (nI N) (nI (i + 1)) wr (upd leM N (tx i)) nuM = some (true, nI (N + 1), nI i2, wr, upd leM N (tx i), nuM2) from f2, bd6_s, if_b0, if_pos rfl, hbl, bd1_s]
        rw [show b_X0_read_12 (nI K) tb n (nI (i + 1)) (nI N) (nI w) 0 0 (upd le N (tx i)) nu = _ from e1]
        refine ih (N + 1) i3 n3 m be2 fi3 (upd le N (tx i)) nu2 (upd leM N (tx i)) nuM2 q2 (by omega) (by omega) q3 (by omega) q6 (fun k hk => ?_)
        by_cases hkN : k = N
        · subst hkN
          refine ⟨by rw [upd_s, upd_s], w, hw, by rw [upd_s]; exact e, fun g hg => k4 g (by omega) hg⟩
        · obtain ⟨b1, w', b2, b3, b4⟩ := hA k (by omega)
          refine ⟨by rw [upd_n hkN, upd_n hkN]; exact b1, w', b2, by rw [upd_n hkN]; exact b3, fun g hg => ?_⟩
          have q := k5 (5 * k + g) (by omega)
          rw [q.1, q.2]
          exact b4 g hg
theorem read_sim {K : Nat} {len bytes o1 o2 o3 o4 m1 m2 m3 : Int32} {tb tx le nu leM nuM : Ar} (h : Txt K len tb bytes tx) : Out (f_X0_read o1 o2 o3 o4 le nu len tb) (f_X7_isRead bytes m1 m2 m3 tx leM nuM) := by
  obtain ⟨hK, rfl, rfl, ht⟩ := h
  obtain ⟨i3, n3, fi3, q1, q2, q3, q4, q5, q6, q7⟩ := blk hK ht (sz := nI 0) (wa := -1) (be := o3) (le := le) (nu := nu) K 0 FU FU o4 (by omega) (FU_big (by omega)) (by have := FU_big (n := 151) (by omega); omega)
  have hbl : f_X7_blanks (nI K) 0 tx = some (nI i3) := q4
  unfold f_X0_read f_X7_isRead
  rw [hbl, bd1_s]
  rw [show b_X0_read_12 (nI K) tb FU 0 0 (-1) o3 o4 le nu = _ from q5]
  exact read_go hK ht K 0 i3 n3 FU o3 fi3 le nu leM nuM q2 (by omega) (FU_big (by omega)) q3 (by omega) q6 (fun k hk => by omega)
theorem one_sim {σ : Sv} {sz st mo rn : Int32} {ms rt now le nu leM nuM : Ar} {N k : Nat} (hok : okS σ) (hC : CS σ sz st mo ms rn rt) (hM : MS σ now) (hA : Ag N le nu leM nuM) (hk : k < N) (hN : N ≤ 75) : ∃ ans σ' sz' st' mo' ms' rn' rt' now', f_X6_carryOut sz st mo ms rn rt le nu (nI k) = some (ans, sz', st', mo', ms', rn', rt') ∧ f_X7_doneOne now leM nuM (nI k) = some (ans, now') ∧ CS σ' sz' st' mo' ms' rn' rt' ∧ MS σ' now' ∧ okS σ' ∧ okA ans := by
  obtain ⟨b1, w, hw, b2, b3⟩ := hA k hk
  have hL : f_X0_letter le (nI k) = some (leM k) := by
    unfold f_X0_letter
    rw [if_neg (nI_pos (by omega)), if_neg (show ¬ (75 : Int32) ≤ nI k from nI_ge (b := 75) (by omega) (by omega)), rd_at k rfl (by omega) (by omega), b1]
  have hn : ∀ g, g < 5 → f_X0_number nu (nI k) (nI g) = some (nu (5 * k + g)) := fun g hg => numC (by omega)
  have h5 : (5 : Int32) * nI k = nI (5 * k) := by rw [show (5 : Int32) = nI 5 from rfl, pk_mul]
  unfold f_X6_carryOut f_X7_doneOne
  rw [show f_X0_number nu (nI k) 0 = some (nu (5 * k + 0)) from hn 0 (by omega), bd1_s, hL, bd1_s, h5]
  simp only [nm]
  rw [rd_at (5 * k) rfl (by omega) (by omega), rd_at k rfl (by omega) (by omega)]
  rcases many_c (leM k) with e | ⟨w', hw', e, hl⟩
  · rw [e] at b2
    exact absurd (Option.some.inj b2).symm (wa_n hw)
  · have hww : w = w' := by
      rw [e] at b2
      have q := Option.some.inj b2
      exact ((nI_eq (by omega) (by omega)).mp q).symm
    subst hww
    rcases hl with ⟨hx, rfl⟩ | ⟨hx, rfl⟩ | ⟨hx, rfl⟩ | ⟨hx, rfl⟩ | ⟨hx, rfl⟩ | ⟨hx, rfl⟩
    · obtain ⟨ans, σ', sz', rn', rt', now', c1, c2, c3, c4, c5, c6⟩ := cut_sim hok hC hM
      refine ⟨ans, σ', sz', st, mo, ms, rn', rt', now', ?_, ?_, c3, c4, c5, c6⟩
      · rw [hx, if_pos rfl, c1, bd4_s]
      · rw [hx, if_neg (show ¬ (99 : Int32) = 109 by decide), if_neg (show ¬ (99 : Int32) = 110 by decide), if_neg (show ¬ (99 : Int32) = 111 by decide), if_neg (show ¬ (99 : Int32) = 112 by decide), if_neg (show ¬ (99 : Int32) = 113 by decide), if_neg (show ¬ (99 : Int32) = 114 by decide), if_neg (show ¬ (99 : Int32) = 115 by decide), if_neg (show ¬ (99 : Int32) = 116 by decide), if_neg (show ¬ (99 : Int32) = 117 by decide), if_neg (show ¬ (99 : Int32) = 118 by decide), if_neg (show ¬ (99 : Int32) = 119 by decide), c2, bd2_s]
    · obtain ⟨ans, σ', mo', now', c1, c2, c3, c4, c5, c6⟩ := mode_sim (nuM (5 * k)) hok hC hM
      refine ⟨ans, σ', sz, st, mo', ms, rn, rt, now', ?_, ?_, c3, c4, c5, c6⟩
      · rw [hx, if_neg (show ¬ (109 : Int32) = 99 by decide), if_pos rfl, b3 0 (by omega), Nat.add_zero, c1, bd2_s]
      · rw [hx, if_pos rfl, c2, bd2_s]
    · obtain ⟨ans, σ', rn', rt', now', c1, c2, c3, c4, c5, c6⟩ := lay_sim (nuM (5 * k)) hok hC hM
      refine ⟨ans, σ', sz, st, mo, ms, rn', rt', now', ?_, ?_, c3, c4, c5, c6⟩
      · rw [hx, if_neg (show ¬ (114 : Int32) = 99 by decide), if_neg (show ¬ (114 : Int32) = 109 by decide), if_pos rfl, b3 0 (by omega), Nat.add_zero, c1, bd3_s]
      · rw [hx, if_neg (show ¬ (114 : Int32) = 109 by decide), if_neg (show ¬ (114 : Int32) = 110 by decide), if_neg (show ¬ (114 : Int32) = 111 by decide), if_neg (show ¬ (114 : Int32) = 112 by decide), if_neg (show ¬ (114 : Int32) = 113 by decide), if_pos rfl, c2, bd2_s]
    · obtain ⟨ans, σ', st', now', c1, c2, c3, c4, c5, c6⟩ := start_sim (nuM (5 * k)) hok hC hM
      refine ⟨ans, σ', sz, st', mo, ms, rn, rt, now', ?_, ?_, c3, c4, c5, c6⟩
      · rw [hx, if_neg (show ¬ (115 : Int32) = 99 by decide), if_neg (show ¬ (115 : Int32) = 109 by decide), if_neg (show ¬ (115 : Int32) = 114 by decide), if_pos rfl, b3 0 (by omega), Nat.add_zero, c1, bd2_s]
      · rw [hx, if_neg (show ¬ (115 : Int32) = 109 by decide), if_neg (show ¬ (115 : Int32) = 110 by decide), if_neg (show ¬ (115 : Int32) = 111 by decide), if_neg (show ¬ (115 : Int32) = 112 by decide), if_neg (show ¬ (115 : Int32) = 113 by decide), if_neg (show ¬ (115 : Int32) = 114 by decide), if_pos rfl, c2, bd2_s]
    · obtain ⟨ans, σ', sz', ms', now', c1, c2, c3, c4, c5, c6⟩ := addTest_sim (nuM (5 * k)) (nuM (5 * k + 1)) (nuM (5 * k + 2)) (nuM (5 * k + 3)) (nuM (5 * k + 4)) hok hC hM
      refine ⟨ans, σ', sz', st, mo, ms', rn, rt, now', ?_, ?_, c3, c4, c5, c6⟩
      · rw [hx, if_neg (show ¬ (116 : Int32) = 99 by decide), if_neg (show ¬ (116 : Int32) = 109 by decide), if_neg (show ¬ (116 : Int32) = 114 by decide), if_neg (show ¬ (116 : Int32) = 115 by decide), if_pos rfl, show f_X0_number nu (nI k) 1 = some (nu (5 * k + 1)) from hn 1 (by omega), bd1_s, show f_X0_number nu (nI k) 2 = some (nu (5 * k + 2)) from hn 2 (by omega), bd1_s, show f_X0_number nu (nI k) 3 = some (nu (5 * k + 3)) from hn 3 (by omega), bd1_s, show f_X0_number nu (nI k) 4 = some (nu (5 * k + 4)) from hn 4 (by omega), bd1_s, b3 0 (by omega), b3 1 (by omega), b3 2 (by omega), b3 3 (by omega), b3 4 (by omega), Nat.add_zero, c1, bd3_s]
      · rw [hx, if_neg (show ¬ (116 : Int32) = 109 by decide), if_neg (show ¬ (116 : Int32) = 110 by decide), if_neg (show ¬ (116 : Int32) = 111 by decide), if_neg (show ¬ (116 : Int32) = 112 by decide), if_neg (show ¬ (116 : Int32) = 113 by decide), if_neg (show ¬ (116 : Int32) = 114 by decide), if_neg (show ¬ (116 : Int32) = 115 by decide), if_pos rfl, rd_at (i := nI (5 * k) + (1 : Int32)) (5 * k + 1) (nI_add (5 * k) 1) (by omega) (by omega), rd_at (i := nI (5 * k) + (2 : Int32)) (5 * k + 2) (nI_add (5 * k) 2) (by omega) (by omega), rd_at (i := nI (5 * k) + (3 : Int32)) (5 * k + 3) (nI_add (5 * k) 3) (by omega) (by omega), rd_at (i := nI (5 * k) + (4 : Int32)) (5 * k + 4) (nI_add (5 * k) 4) (by omega) (by omega), c2, bd2_s]
    · obtain ⟨ans, σ', rn', now', c1, c2, c3, c4, c5, c6⟩ := wipe_sim hok hC hM
      refine ⟨ans, σ', sz, st, mo, ms, rn', rt, now', ?_, ?_, c3, c4, c5, c6⟩
      · rw [hx, if_neg (show ¬ (119 : Int32) = 99 by decide), if_neg (show ¬ (119 : Int32) = 109 by decide), if_neg (show ¬ (119 : Int32) = 114 by decide), if_neg (show ¬ (119 : Int32) = 115 by decide), if_neg (show ¬ (119 : Int32) = 116 by decide), if_pos rfl, c1, bd2_s]
      · rw [hx, if_neg (show ¬ (119 : Int32) = 109 by decide), if_neg (show ¬ (119 : Int32) = 110 by decide), if_neg (show ¬ (119 : Int32) = 111 by decide), if_neg (show ¬ (119 : Int32) = 112 by decide), if_neg (show ¬ (119 : Int32) = 113 by decide), if_neg (show ¬ (119 : Int32) = 114 by decide), if_neg (show ¬ (119 : Int32) = 115 by decide), if_neg (show ¬ (119 : Int32) = 116 by decide), if_neg (show ¬ (119 : Int32) = 117 by decide), if_neg (show ¬ (119 : Int32) = 118 by decide), if_pos rfl, c2, bd2_s]
theorem does_go {σ0 : Sv} {P : List Sv} {N : Nat} {pz mk sn o2 o3 o4 c2 c3 : Int32} {aside past le nu leM nuM : Ar} {pM pT : Nat → Ar} {pN pS pB pO : Nat → Int32} (hok0 : okS σ0) (hokP : ∀ τ ∈ P, okS τ) (hM0 : MS σ0 aside) (hR : Ring P pz mk pM pT pN pS pB pO) (hmk : ∃ k, k < 6 ∧ mk = nI k ∧ CS σ0 (pS k) (pB k) (pO k) (pM k) (pN k) (pT k)) (hS : Stk P sn past) (hA : Ag N le nu leM nuM) (hN : N ≤ 75) : ∀ (d k n m : Nat) (σ : Sv) (sz st mo rn : Int32) (ms rt now : Ar), k + d = N → d < n → d < m → okS σ → CS σ sz st mo ms rn rt → MS σ now →
    ∃ r σ' P' sz' st' mo' ms' rn' rt' pz' mk' sn' now' past', b_X6_does_35 n (nI k) sz st mo ms rn rt pz mk pM pT pN pS pB pO (nI N) o2 o3 o4 le nu = some (r, sz', st', mo', ms', rn', rt', pz', mk', pM, pT, pN, pS, pB, pO, nI N, o2, o3, o4, le, nu) ∧ b_X7_does_21 m (nI k) sn (nI N) c2 c3 now aside past leM nuM = some (r, sn', nI N, c2, c3, now', aside, past', leM, nuM) ∧ okS σ' ∧ (∀ τ ∈ P', okS τ) ∧ CS σ' sz' st' mo' ms' rn' rt' ∧ MS σ' now' ∧ Ring P' pz' mk' pM pT pN pS pB pO ∧ Stk P' sn' past' := by
  intro d
  induction d with
  | zero =>
    intro k n m σ sz st mo rn ms rt now hd hn hm hok hC hM
    obtain ⟨n, rfl⟩ : ∃ z, n = z + 1 := ⟨n - 1, by omega⟩
    obtain ⟨m, rfl⟩ : ∃ z, m = z + 1 := ⟨m - 1, by omega⟩
    obtain ⟨pz', mk', q1, q2⟩ := keep_eq hR hmk
    obtain ⟨sn', past', q3, q4⟩ := remem_eq hok0 hokP hR.1 hS hM0
    refine ⟨nI N, σ, push σ0 P, sz, st, mo, ms, rn, rt, pz', mk', sn', now, past', ?_, ?_, hok, push_ok hok0 hokP, hC, hM, q2, q4⟩
    · rw [b_X6_does_35, if_pos (nI_le (by omega) (by omega)), q1, bd2_s]
    · rw [b_X7_does_21, if_pos (nI_le (by omega) (by omega)), q3, bd2_s]
  | succ d ih =>
    intro k n m σ sz st mo rn ms rt now hd hn hm hok hC hM
    obtain ⟨n, rfl⟩ : ∃ z, n = z + 1 := ⟨n - 1, by omega⟩
    obtain ⟨m, rfl⟩ : ∃ z, m = z + 1 := ⟨m - 1, by omega⟩
    obtain ⟨ans, σ', sz', st', mo', ms', rn', rt', now', c1, c2, c3, c4, c5, c6⟩ := one_sim hok hC hM hA (show k < N by omega) hN
    rw [b_X6_does_35, b_X7_does_21, if_neg (nI_ge (show k < N by omega) (by omega)), if_neg (nI_ge (show k < N by omega) (by omega)), c1, bd7_s, c2, bd2_s]
    rcases c6 with ⟨a, ha, rfl⟩ | c6
    · rw [if_pos (nI_pos' (by omega)), if_pos (Int32.lt_of_lt_of_le (show (-2 : Int32) < 0 by decide) (nI_pos' (by omega)))]
      simp only [nm, nI_1]
      exact ih (k + 1) n m σ' sz' st' mo' rn' ms' rt' now' (by omega) (by omega) (by omega) c5 c3 c4
    · have h1 : ¬ (0 : Int32) ≤ ans := by rcases c6 with rfl | rfl | rfl <;> decide
      have h2 : ¬ (-2 : Int32) < ans := by rcases c6 with rfl | rfl | rfl <;> decide
      obtain ⟨j, hj, rfl, hCj⟩ := hmk
      obtain ⟨sz2, st2, mo2, ms2, rn2, rt2, g1, g2⟩ := recall_eq (sz := sz') (st := st') (mo := mo') (ms := ms') (rn := rn') (rt := rt') hok0 hj hCj
      obtain ⟨now2, g3, g4⟩ := takesBack_eq now' aside
      refine ⟨-1000 - nI k, σ0, P, sz2, st2, mo2, ms2, rn2, rt2, pz, nI j, sn, now2, past, ?_, ?_, hok0, hokP, g2, MS_congr hok0 (fun i hi => (g4 i hi).symm) hM0, hR, hS⟩
      · rw [if_neg h1, g1, bd6_s]
        rfl
      · rw [if_neg h2, g3, bd1_s]
        rfl
theorem does_sim {σ : Sv} {P : List Sv} {K : Nat} {sz st mo rn pz mk sn len bytes o1 o2 o3 o4 m1 m2 m3 : Int32} {ms rt now aside past tb tx le nu leM nuM : Ar} {pM pT : Nat → Ar} {pN pS pB pO : Nat → Int32} (hok : okS σ) (hokP : ∀ τ ∈ P, okS τ) (hC : CS σ sz st mo ms rn rt) (hM : MS σ now) (hR : Ring P pz mk pM pT pN pS pB pO) (hS : Stk P sn past) (ht : Txt K len tb bytes tx) :
    ∃ r σ' P' sz' st' mo' ms' rn' rt' pz' mk' pM' pT' pN' pS' pB' pO' o1' o2' o3' o4' le' nu' sn' m1' m2' m3' now' aside' past' leM' nuM', f_X6_does sz st mo ms rn rt pz mk pM pT pN pS pB pO len tb o1 o2 o3 o4 le nu = some (r, sz', st', mo', ms', rn', rt', pz', mk', pM', pT', pN', pS', pB', pO', o1', o2', o3', o4', le', nu') ∧ f_X7_does sn bytes m1 m2 m3 now aside past tx leM nuM = some (r, sn', m1', m2', m3', now', aside', past', leM', nuM') ∧ okS σ' ∧ (∀ τ ∈ P', okS τ) ∧ CS σ' sz' st' mo' ms' rn' rt' ∧ MS σ' now' ∧ Ring P' pz' mk' pM' pT' pN' pS' pB' pO' ∧ Stk P' sn' past' := by
  unfold f_X6_does f_X7_does
  rcases read_sim (o1 := o1) (o2 := o2) (o3 := o3) (o4 := o4) (m1 := m1) (m2 := m2) (m3 := m3) (le := le) (nu := nu) (leM := leM) (nuM := nuM) ht with ⟨p, a1, a2, a3, a4, a5, a6, c1, c2, c3, c4, hp, e1, e2⟩ | ⟨N, a2, a3, a4, le', nu', c2, c3, leM', nuM', hN, e1, e2, hA⟩
  · rw [e1, e2, bd7_s, bd6_s, if_neg (not_neg1 (by omega)), if_b0, if_neg (by decide)]
    exact ⟨-10 - nI p, σ, P, sz, st, mo, ms, rn, rt, pz, mk, pM, pT, pN, pS, pB, pO, a1, a2, a3, a4, a5, a6, sn, c1, c2, nI p, now, aside, past, c3, c4, rfl, rfl, hok, hokP, hC, hM, hR, hS⟩
  · obtain ⟨pM', pT', pN', pS', pB', pO', q1, q2, q3⟩ := mark_eq hok hC hR
    obtain ⟨aside', g1, g2⟩ := aside_eq now aside
    have hMa : MS σ aside' := MS_congr hok (fun i hi => (g2 i hi).symm) hM
    rw [e1, e2, bd7_s, bd6_s, if_pos rfl, if_b0, if_pos rfl, q1, bd6_s, g1, bd1_s]
    obtain ⟨r, σ', P', sz', st', mo', ms', rn', rt', pz', mk', sn', now', past', k1, k2, k3, k4, k5, k6, k7, k8⟩ := does_go (o2 := a2) (o3 := a3) (o4 := a4) (c2 := c2) (c3 := c3) hok hokP hMa q2 q3 hS hA hN N 0 FU FU σ sz st mo rn ms rt now (by omega) (FU_big (by omega)) (FU_big (by omega)) hok hC hM
    exact ⟨r, σ', P', sz', st', mo', ms', rn', rt', pz', mk', pM', pT', pN', pS', pB', pO', nI N, a2, a3, a4, le', nu', sn', nI N, c2, c3, now', aside', past', leM', nuM', k1, k2, k3, k4, k5, k6, k7, k8⟩
