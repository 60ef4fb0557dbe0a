/-! cutting the last test; rows shuffled -/
theorem hasB_bit : ∀ a, a < 8 → ∀ t, t < 8 → hasB (bitB a) (nI t) = decide (t = a) := by decide +kernel
theorem fnd_erase {a : Nat} : ∀ {l : List Nat} {k j : Nat}, fnd a l k = some j → l.Nodup → l.eraseIdx (j - k) = l.filter (fun t => !decide (t = a)) := by
  intro l
  induction l with
  | nil => intro k j h; cases h
  | cons b l ih =>
    intro k j h hn
    unfold fnd at h
    have hn2 := List.nodup_cons.mp hn
    by_cases hb : b = a
    · rw [if_pos hb] at h
      cases h
      subst hb
      rw [Nat.sub_self, List.eraseIdx_cons_zero]
      rw [List.filter_cons]
      simp only [decide_true, Bool.not_true, Bool.false_eq_true, if_false]
      symm
      rw [List.filter_eq_self]
      intro t ht
      have : t ≠ b := fun q => hn2.1 (q ▸ ht)
      simp [this]
    · rw [if_neg hb] at h
      have h1 := (fnd_some h).1
      rw [show j - k = (j - (k + 1)) + 1 by omega, List.eraseIdx_cons_succ, ih h hn2.2, List.filter_cons]
      simp [hb]
theorem fnd_filter {a : Nat} {l : List Nat} (h : fnd a l 0 = none) : l.filter (fun t => !decide (t = a)) = l := by
  rw [List.filter_eq_self]
  intro t ht
  have h1 : a ∉ l := fnd_none.mp h
  have : t ≠ a := fun q => h1 (q ▸ ht)
  simp [this]
theorem out_go {now0 : Ar} {N p : Nat} (hN : N < 8) (hp : p ≤ N) : ∀ (d k n : Nat) (f : Ar), k + d = N → d < n → p ≤ k → f 3 = nI N → (∀ j, p ≤ j → j < k → f (4 + j) = now0 (4 + (j + 1))) → (∀ i, (i < 4 + p ∨ 4 + k ≤ i) → i ≠ 3 → f i = now0 i) → ∃ f', b_X7_takesOut_12 n (nI k) f = some f' ∧ f' 3 = nI N ∧ (∀ j, p ≤ j → j < N → f' (4 + j) = now0 (4 + (j + 1))) ∧ ∀ i, (i < 4 + p ∨ 12 ≤ i) → i ≠ 3 → i ≠ 4 + N → f' i = now0 i := by
  intro d
  induction d with
  | zero =>
    intro k n f hk hn hpk h3 h1 h2
    obtain ⟨n, rfl⟩ : ∃ z, n = z + 1 := ⟨n - 1, by omega⟩
    have : k = N := by omega
    subst this
    refine ⟨upd f (4 + k) 0, ?_, ?_, ?_, ?_⟩
    · rw [b_X7_takesOut_12, r3, h3, if_pos (nI_le (Nat.le_refl _) (by omega)), r3, h3, w4 (by omega)]
    · rw [upd_n (by omega)]; exact h3
    · intro j hj1 hj2
      rw [upd_n (by omega)]
      exact h1 j hj1 hj2
    · intro i hi h3' hi4
      rw [upd_n hi4]
      exact h2 i (by omega) h3'
  | succ d ih =>
    intro k n f hk hn hpk h3 h1 h2
    obtain ⟨n, rfl⟩ : ∃ z, n = z + 1 := ⟨n - 1, by omega⟩
    obtain ⟨f', e1, e2, e3, e4⟩ := ih (k + 1) n (upd f (4 + k) (now0 (4 + (k + 1)))) (by omega) (by omega) (by omega) (by rw [upd_n (by omega)]; exact h3) (fun j hj1 hj2 => by
      by_cases h : j = k
      · subst h; exact upd_s
      · rw [upd_n (by omega)]; exact h1 j hj1 (by omega)) (fun i hi hi3 => by
      rw [upd_n (by omega)]
      exact h2 i (by omega) hi3)
    refine ⟨f', ?_, e2, e3, e4⟩
    rw [b_X7_takesOut_12, r3, h3, if_neg (nI_ge (by omega) (by omega)), rd_at (i := 4 + nI k + 1) (4 + (k + 1)) (by
      show nI 4 + nI k + nI 1 = _
      rw [nI_add, nI_add, Nat.add_assoc]) (by omega) (by omega), h2 (4 + (k + 1)) (by omega) (by omega), w4 (by omega)]
    simp only [nm, nI_1]
    exact e1
theorem out_eq {L : List Nat} {now : Ar} {p : Nat} (h8 : L.length ≤ 8) (hp : p < L.length) (h3 : now 3 = nI L.length) (h4 : ∀ k t, L[k]? = some t → now (4 + k) = nI t) : ∃ now', f_X7_takesOut now (nI p) = some now' ∧ now' 3 = nI (L.eraseIdx p).length ∧ (∀ k t, (L.eraseIdx p)[k]? = some t → now' (4 + k) = nI t) ∧ ∀ i, (i < 3 ∨ 12 ≤ i) → now' i = now i := by
  have hl : (L.eraseIdx p).length = L.length - 1 := List.length_eraseIdx_of_lt hp
  obtain ⟨f', e1, e2, e3, e4⟩ := out_go (now0 := now) (N := L.length - 1) (p := p) (by omega) (by omega) (L.length - 1 - p) p FU (upd now 3 (nI (L.length - 1))) (by omega) (FU_big (by omega)) (Nat.le_refl _) upd_s (fun j h1 h2 => by omega) (fun i _ hi => upd_n hi)
  refine ⟨f', ?_, by rw [hl]; exact e2, fun k t hk => ?_, fun i hi => e4 i (by omega) (by omega) (by omega)⟩
  · unfold f_X7_takesOut
    rw [r3, h3, w3]
    rw [show nI L.length - 1 = nI (L.length - 1) by
      obtain ⟨z, hz⟩ : ∃ z, L.length = z + 1 := ⟨L.length - 1, by omega⟩
      rw [hz]
      exact nI_pred z]
    exact e1
  · have hk2 := (List.getElem?_eq_some_iff.mp hk).1
    rw [hl] at hk2
    rw [List.getElem?_eraseIdx] at hk
    by_cases hkp : k < p
    · rw [if_pos hkp] at hk
      rw [e4 (4 + k) (by omega) (by omega) (by omega)]
      exact h4 k t hk
    · rw [if_neg hkp] at hk
      rw [e3 k (by omega) (by omega)]
      exact h4 (k + 1) t hk
theorem cut_sim {σ : Sv} {sz st mo rn : Int32} {ms rt now : Ar} (hok : okS σ) (hC : CS σ sz st mo ms rn rt) (hM : MS σ now) : ∃ ans σ' sz' rn' rt' now', f_X4_cutLast sz rn rt = some (ans, sz', rn', rt') ∧ f_X7_putCut now = some (ans, now') ∧ CS σ' sz' st mo ms rn' rt' ∧ MS σ' now' ∧ okS σ' ∧ okA ans := by
  obtain ⟨T, L, s, o, M⟩ := σ
  have hC0 := hC
  have hM0 := hM
  obtain ⟨rfl, h2, h3, h4, h5⟩ := hC
  obtain ⟨m0, m1, m2, m3, m4, m5⟩ := hM
  dsimp only at h2 h3 h4 h5 m0 m1 m2 m3 m4 m5
  have hT : T ≤ 8 := hok.1
  have h8 := h5.1
  unfold f_X4_cutLast f_X7_putCut
  rw [r0, m0]
  rcases Nat.eq_zero_or_pos T with hz | hz
  · subst hz
    rw [if_neg (show ¬ (0 : Int32) < nI 0 by decide), if_pos (show nI 0 = (0 : Int32) from rfl)]
    exact ⟨-3, (0, L, s, o, M), nI 0, rn, rt, now, rfl, rfl, hC0, hM0, hok, Or.inr (Or.inr (Or.inl rfl))⟩
  · obtain ⟨a, rfl⟩ : ∃ a, T = a + 1 := ⟨T - 1, by omega⟩
    rw [if_pos (show (0 : Int32) < nI (a + 1) from nI_lt (a := 0) (by omega) (by omega)), if_neg (nI_ne0 (by omega) (by omega)), r0, m0, w0]
    simp only [nm, nI_pred]
    rw [r0, upd_s]
    have hP1 : ∀ k t, L[k]? = some t → upd now 0 (nI a) (4 + k) = nI t := fun k t hk => by rw [upd_n (by omega)]; exact m4 k t hk
    have hP3 : upd now 0 (nI a) 3 = nI L.length := by rw [upd_n (by omega)]; exact m3
    rw [placeM_eq h8 h5.2.2.2 hP3 hP1 (by omega)]
    simp only [bd1]
    obtain ⟨f', g1, g2⟩ := takeOut_eq (S := bitB a) h5
    have hfil : L.filter (fun t => !hasB (bitB a) (nI t)) = L.filter (fun t => !decide (t = a)) := by
      apply List.filter_congr
      intro t ht
      rw [hasB_bit a (by omega) t (h5.2.2.2 t ht)]
    rw [hfil] at g1 g2
    rw [show (1 : Int32) <<< (nI a &&& 31) = bitB a from rfl, g1]
    simp only [bd2]
    have okL : okS (a, L.filter (fun t => !decide (t = a)), s, o, M) := by
      refine ⟨by dsimp only; omega, hok.2.1.filter _, fun t ht => ?_, hok.2.2.2.1, hok.2.2.2.2⟩
      have h6 := List.mem_filter.mp ht
      have h7 := hok.2.2.1 t h6.1
      have h9 : t ≠ a := by simpa using h6.2
      dsimp only at h7 ⊢
      omega
    have hn := ansO_n (o := fnd a L 0) (fun k hk => by have := (fnd_lt hk).1; omega)
    cases hf : fnd a L 0 with
    | none =>
      have hL := fnd_filter hf
      rw [if_pos (show ansO none = -1 from rfl), r0, upd_s]
      refine ⟨nI a, (a, L.filter (fun t => !decide (t = a)), s, o, M), nI a, _, f', upd now 0 (nI a), rfl, rfl, ⟨rfl, h2, h3, fun i hi => h4 i (by dsimp only at hi; omega), g2⟩, ⟨upd_s, ?_, ?_, ?_, ?_, ?_⟩, okL, Or.inl ⟨a, by omega, rfl⟩⟩
      · rw [upd_n (by omega)]; exact m1
      · rw [upd_n (by omega)]; exact m2
      · dsimp only; rw [hL]; exact hP3
      · dsimp only; rw [hL]; exact hP1
      · intro i hi
        rw [upd_n (by omega)]; exact m5 i (by dsimp only at hi; omega)
    | some p =>
      rw [hf] at hn
      rw [if_neg (fun q => by cases hn.mp q)]
      obtain ⟨hp1, hp2⟩ := fnd_lt hf
      obtain ⟨now', q1, q2, q3, q4⟩ := out_eq h8 hp1 hP3 hP1
      have hE : L.eraseIdx p = L.filter (fun t => !decide (t = a)) := by simpa using fnd_erase hf hok.2.1
      rw [hE] at q2 q3
      show ∃ ans σ' sz' rn' rt' now'_1, _ ∧ bd1 (f_X7_takesOut (upd now 0 (nI a)) (nI p)) _ = _ ∧ _
      rw [q1]
      simp only [bd1]
      rw [r0, q4 0 (by omega), upd_s]
      refine ⟨nI a, (a, L.filter (fun t => !decide (t = a)), s, o, M), nI a, _, f', now', rfl, rfl, ⟨rfl, h2, h3, fun i hi => h4 i (by dsimp only at hi; omega), g2⟩, ⟨?_, ?_, ?_, q2, q3, ?_⟩, okL, Or.inl ⟨a, by omega, rfl⟩⟩
      · rw [q4 0 (by omega), upd_s]
      · rw [q4 1 (by omega), upd_n (by omega)]; exact m1
      · rw [q4 2 (by omega), upd_n (by omega)]; exact m2
      · intro i hi
        rw [q4 (12 + i) (by omega), upd_n (by omega)]; exact m5 i (by dsimp only at hi; omega)
theorem putSh_go {T : Nat} {now0 sh : Ar} (hT : T ≤ 8) : ∀ (d k n : Nat) (f : Ar), k + d = T → d < n → f 3 = nI T → (∀ j, j < k → f (4 + j) = sh j) → (∀ i, (i < 3 ∨ 12 ≤ i) → f i = now0 i) → ∃ f', b_X7_putShuffled_32 n (nI k) f sh = some (nI T, f', sh) ∧ f' 3 = nI T ∧ (∀ j, j < T → f' (4 + j) = sh j) ∧ ∀ i, (i < 3 ∨ 12 ≤ i) → f' i = now0 i := by
  intro d
  induction d with
  | zero =>
    intro k n f hk hn h3 h1 h2
    obtain ⟨n, rfl⟩ : ∃ z, n = z + 1 := ⟨n - 1, by omega⟩
    have : k = T := by omega
    subst this
    exact ⟨f, by rw [b_X7_putShuffled_32, r3, h3, if_pos (nI_le (Nat.le_refl _) (by omega)), r3, h3], h3, h1, h2⟩
  | succ d ih =>
    intro k n f hk hn h3 h1 h2
    obtain ⟨n, rfl⟩ : ∃ z, n = z + 1 := ⟨n - 1, by omega⟩
    obtain ⟨f', e1, e2, e3, e4⟩ := ih (k + 1) n (upd f (4 + k) (sh k)) (by omega) (by omega) (by rw [upd_n (by omega)]; exact h3) (fun j hj => by
      by_cases h : j = k
      · subst h; exact upd_s
      · rw [upd_n (by omega)]; exact h1 j (by omega)) (fun i hi => by rw [upd_n (by omega)]; exact h2 i hi)
    refine ⟨f', ?_, e2, e3, e4⟩
    rw [b_X7_putShuffled_32, r3, h3, if_neg (nI_ge (by omega) (by omega)), rd_at k rfl (by omega) (by omega), w4 (by omega)]
    simp only [nm, nI_1]
    exact e1
theorem shuf_sim {σ : Sv} {sz st mo rn : Int32} {ms rt now sh : Ar} (x : Int32) (hok : okS σ) (hC : CS σ sz st mo ms rn rt) (hM : MS σ now) : ∃ ans σ' rn' rt' now' sh', f_X4_shuffleRow sz rn rt x = some (ans, rn', rt') ∧ f_X7_putShuffled now sh x = some (ans, now', sh') ∧ CS σ' sz st mo ms rn' rt' ∧ MS σ' now' ∧ okS σ' ∧ okA ans := by
  obtain ⟨T, L, s, o, M⟩ := σ
  have hC0 := hC
  have hM0 := hM
  obtain ⟨rfl, h2, h3, h4, h5⟩ := hC
  obtain ⟨m0, m1, m2, m3, m4, m5⟩ := hM
  dsimp only at h2 h3 h4 h5 m0 m1 m2 m3 m4 m5
  have hT : T ≤ 8 := hok.1
  unfold f_X4_shuffleRow f_X7_putShuffled
  simp only [isSeed_eq]
  rcases in_num (x := x) (m := 999999) (M := 999999) rfl (by omega) with ⟨sd, hsd, rfl, e⟩ | e
  · rw [e]
    simp only [bd1, if_b0, if_true]
    obtain ⟨f1, g1, g2⟩ := layC_eq (rn := rn) (rt := rt) hT hsd
    obtain ⟨f2, q1, q2⟩ := layM_eq (sh := sh) hT m0 hsd
    rw [g1, q1]
    simp only [bd1, bd2]
    rw [r0, m0, w3]
    obtain ⟨f3, p1, p2, p3, p4⟩ := putSh_go (now0 := now) (sh := f2) hT T 0 FU (upd now 3 (nI T)) (by omega) (FU_big (by omega)) upd_s (fun j hj => by omega) (fun i hi => upd_n (by omega))
    refine ⟨nI T, (T, shL T sd, s, o, M), nI T, f1, f3, f2, rfl, p1, ⟨rfl, h2, h3, h4, g2⟩, ⟨?_, ?_, ?_, ?_, ?_, ?_⟩, ⟨hT, shL_nodup T sd, fun t ht => shL_lt ht, hok.2.2.2.1, hok.2.2.2.2⟩, Or.inl ⟨T, by omega, rfl⟩⟩
    · rw [p4 0 (by omega)]; exact m0
    · rw [p4 1 (by omega)]; exact m1
    · rw [p4 2 (by omega)]; exact m2
    · dsimp only; rw [shL_len]; exact p2
    · intro k t hk
      have hlt := (List.getElem?_eq_some_iff.mp hk).1
      dsimp only at hlt hk
      rw [shL_len] at hlt
      rw [p3 k hlt]
      exact q2 k t hk
    · intro i hi
      rw [p4 (12 + i) (by omega)]; exact m5 i hi
  · rw [e]
    exact ⟨-2, (T, L, s, o, M), rn, rt, now, sh, rfl, rfl, hC0, hM0, hok, Or.inr (Or.inl rfl)⟩
