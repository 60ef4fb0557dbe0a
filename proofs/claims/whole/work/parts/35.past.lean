/-! states kept and gone back to: the ring of the class, the stack of the reference -/
theorem MS_congr {σ : Sv} {f g : Ar} (hok : okS σ) (h : ∀ j, j < 52 → f j = g j) (hM : MS σ f) : MS σ g := by
  have h8 := okS_len hok
  have hT := hok.1
  refine ⟨?_, ?_, ?_, ?_, fun k t hk => ?_, fun i hi => ?_⟩
  · rw [← h 0 (by omega)]; exact hM.1
  · rw [← h 1 (by omega)]; exact hM.2.1
  · rw [← h 2 (by omega)]; exact hM.2.2.1
  · rw [← h 3 (by omega)]; exact hM.2.2.2.1
  · have := (List.getElem?_eq_some_iff.mp hk).1
    rw [← h (4 + k) (by omega)]
    exact hM.2.2.2.2.1 k t hk
  · rw [← h (12 + i) (by omega)]
    exact hM.2.2.2.2.2 i hi
theorem c52 {k : Nat} (h : k < 52) : ¬ (52 : Int32) ≤ nI k := nI_ge (a := k) (b := 52) h (by omega)
theorem c208 {k : Nat} (h : k < 208) : ¬ (208 : Int32) ≤ nI k := nI_ge (a := k) (b := 208) h (by omega)
theorem aside_go {now : Ar} : ∀ (d k n : Nat) (f : Ar), k + d = 52 → d < n → (∀ j, j < k → f j = now j) → ∃ f', b_X7_laysAside_2 now n (nI k) f = some f' ∧ ∀ j, j < 52 → f' j = now j := by
  intro d
  induction d with
  | zero =>
    intro k n f hk hn hf
    obtain ⟨n, rfl⟩ : ∃ z, n = z + 1 := ⟨n - 1, by omega⟩
    have : k = 52 := by omega
    subst this
    exact ⟨f, by rw [b_X7_laysAside_2, if_pos (show (52 : Int32) ≤ nI 52 by decide)], hf⟩
  | succ d ih =>
    intro k n f hk hn hf
    obtain ⟨n, rfl⟩ : ∃ z, n = z + 1 := ⟨n - 1, by omega⟩
    obtain ⟨f', e1, e2⟩ := ih (k + 1) n (upd f k (now k)) (by omega) (by omega) (fun j hj => by
      by_cases h : j = k
      · subst h; exact upd_s
      · rw [upd_n h]; exact hf j (by omega))
    refine ⟨f', ?_, e2⟩
    rw [b_X7_laysAside_2, if_neg (c52 (by omega)), rd_at k rfl (by omega) (by omega), wr_at k rfl (by omega) (by omega)]
    simp only [nm, nI_1]
    exact e1
theorem aside_eq (now aside : Ar) : ∃ f', f_X7_laysAside now aside = some f' ∧ ∀ j, j < 52 → f' j = now j := aside_go 52 0 FU aside (by omega) (FU_big (by omega)) (fun j hj => by omega)
theorem takesBack_go {aside : Ar} : ∀ (d k n : Nat) (f : Ar), k + d = 52 → d < n → (∀ j, j < k → f j = aside j) → ∃ f', b_X7_takesBack_2 aside n (nI k) f = some f' ∧ ∀ j, j < 52 → f' j = aside j := by
  intro d
  induction d with
  | zero =>
    intro k n f hk hn hf
    obtain ⟨n, rfl⟩ : ∃ z, n = z + 1 := ⟨n - 1, by omega⟩
    have : k = 52 := by omega
    subst this
    exact ⟨f, by rw [b_X7_takesBack_2, if_pos (show (52 : Int32) ≤ nI 52 by decide)], hf⟩
  | succ d ih =>
    intro k n f hk hn hf
    obtain ⟨n, rfl⟩ : ∃ z, n = z + 1 := ⟨n - 1, by omega⟩
    obtain ⟨f', e1, e2⟩ := ih (k + 1) n (upd f k (aside k)) (by omega) (by omega) (fun j hj => by
      by_cases h : j = k
      · subst h; exact upd_s
      · rw [upd_n h]; exact hf j (by omega))
    refine ⟨f', ?_, e2⟩
    rw [b_X7_takesBack_2, if_neg (c52 (by omega)), rd_at k rfl (by omega) (by omega), wr_at k rfl (by omega) (by omega)]
    simp only [nm, nI_1]
    exact e1
theorem takesBack_eq (now aside : Ar) : ∃ f', f_X7_takesBack now aside = some f' ∧ ∀ j, j < 52 → f' j = aside j := takesBack_go 52 0 FU now (by omega) (FU_big (by omega)) (fun j hj => by omega)
theorem ix52 (s k : Nat) : nI 52 * nI s + nI k = nI (52 * s + k) := by rw [pk_mul, nI_add]
theorem rem50_go {aside p0 : Ar} {s : Nat} (hs : s < 5) : ∀ (d k n : Nat) (p : Ar), k + d = 52 → d < n → (∀ j, j < k → p (52 * s + j) = aside j) → (∀ i, i < 52 * s → p i = p0 i) → ∃ p', b_X7_remembers_50 aside n (nI k) (nI s) p = some (nI (s + 1), p') ∧ (∀ j, j < 52 → p' (52 * s + j) = aside j) ∧ ∀ i, i < 52 * s → p' i = p0 i := by
  intro d
  induction d with
  | zero =>
    intro k n p hk hn hp h0
    obtain ⟨n, rfl⟩ : ∃ z, n = z + 1 := ⟨n - 1, by omega⟩
    have : k = 52 := by omega
    subst this
    refine ⟨p, ?_, hp, h0⟩
    rw [b_X7_remembers_50, if_pos (show (52 : Int32) ≤ nI 52 by decide)]
    simp only [nm, nI_1]
  | succ d ih =>
    intro k n p hk hn hp h0
    obtain ⟨n, rfl⟩ : ∃ z, n = z + 1 := ⟨n - 1, by omega⟩
    obtain ⟨p', e1, e2, e3⟩ := ih (k + 1) n (upd p (52 * s + k) (aside k)) (by omega) (by omega) (fun j hj => by
      by_cases h : j = k
      · subst h; exact upd_s
      · rw [upd_n (by omega)]; exact hp j (by omega)) (fun i hi => by rw [upd_n (by omega)]; exact h0 i hi)
    refine ⟨p', ?_, e2, e3⟩
    rw [b_X7_remembers_50, if_neg (c52 (by omega)), rd_at k rfl (by omega) (by omega), wr_at (i := 52 * nI s + nI k) (52 * s + k) (ix52 s k) (by omega) (by omega)]
    simp only [nm, nI_1]
    exact e1
theorem nm_intro {α β : Type} {x v : α} {k : α → β} {o : β} (e : v = x) (h : k v = o) : nm x k = o := by
  subst e
  exact h
theorem rem10_go {aside p0 : Ar} : ∀ (d k n : Nat) (p : Ar), k + d = 208 → d < n → (∀ j, j < k → p j = p0 (j + 52)) → (∀ j, k ≤ j → p j = p0 j) → ∃ p', b_X7_remembers_10 aside n (nI k) (nI 5) p = nm (nI 5 - (1 : Int32)) (fun y9 => b_X7_remembers_50 aside FU (0 : Int32) y9 p') ∧ ∀ j, j < 208 → p' j = p0 (j + 52) := by
  intro d
  induction d with
  | zero =>
    intro k n p hk hn hp h0
    obtain ⟨n, rfl⟩ : ∃ z, n = z + 1 := ⟨n - 1, by omega⟩
    have : k = 208 := by omega
    subst this
    refine ⟨p, ?_, hp⟩
    rw [b_X7_remembers_10, if_pos (show (208 : Int32) ≤ nI 208 from nI_le (a := 208) (Nat.le_refl _) (by omega))]
  | succ d ih =>
    intro k n p hk hn hp h0
    obtain ⟨n, rfl⟩ : ∃ z, n = z + 1 := ⟨n - 1, by omega⟩
    obtain ⟨p', e1, e2⟩ := ih (k + 1) n (upd p k (p (k + 52))) (by omega) (by omega) (fun j hj => by
      by_cases h : j = k
      · subst h; rw [upd_s]; exact h0 (j + 52) (by omega)
      · rw [upd_n (by omega)]; exact hp j (by omega)) (fun j hj => by rw [upd_n (by omega)]; exact h0 j (by omega))
    refine ⟨p', ?_, e2⟩
    rw [b_X7_remembers_10, if_neg (c208 (by omega)), rd_at (i := nI k + 52) (k + 52) (nI_add k 52) (by omega) (by omega), wr_at k rfl (by omega) (by omega)]
    exact nm_intro (v := nI (k + 1)) (nI_1 k).symm e1
def push (σ : Sv) (P : List Sv) : List Sv := (σ :: P).take 5
theorem push_len {σ : Sv} {P : List Sv} (h : P.length ≤ 5) : (push σ P).length = if P.length = 5 then 5 else P.length + 1 := by
  unfold push
  rw [List.length_take]
  simp
  split <;> omega
theorem push_0 (σ : Sv) (P : List Sv) : (push σ P)[0]? = some σ := by simp [push]
theorem push_s {σ τ : Sv} {P : List Sv} {i : Nat} (h : (push σ P)[i + 1]? = some τ) : P[i]? = some τ ∧ i < 4 := by
  unfold push at h
  rw [List.getElem?_take] at h
  by_cases hi : i + 1 < 5
  · rw [if_pos hi] at h
    exact ⟨by simpa using h, by omega⟩
  · rw [if_neg hi] at h
    cases h
theorem push_ok {σ : Sv} {P : List Sv} (h : okS σ) (hP : ∀ τ ∈ P, okS τ) : ∀ τ ∈ push σ P, okS τ := by
  intro τ ht
  have h1 := List.mem_of_mem_take ht
  rcases List.mem_cons.mp h1 with rfl | h2
  · exact h
  · exact hP τ h2
theorem remem_eq {σ : Sv} {P : List Sv} {sn : Int32} {aside past : Ar} (hok : okS σ) (hokP : ∀ τ ∈ P, okS τ) (h5 : P.length ≤ 5) (hS : Stk P sn past) (hM : MS σ aside) : ∃ sn' past', f_X7_remembers sn aside past = some (sn', past') ∧ Stk (push σ P) sn' past' := by
  obtain ⟨rfl, hS⟩ := hS
  unfold f_X7_remembers
  by_cases hl : P.length = 5
  · rw [if_pos (show nI P.length = 5 by rw [hl]; rfl)]
    obtain ⟨p1, e1, e2⟩ := rem10_go (aside := aside) (p0 := past) 208 0 FU past (by omega) (FU_big (by omega)) (fun j hj => by omega) (fun j _ => rfl)
    obtain ⟨p2, e3, e4, e5⟩ := rem50_go (aside := aside) (p0 := p1) (s := 4) (by omega) 52 0 FU p1 (by omega) (FU_big (by omega)) (fun j hj => by omega) (fun i _ => rfl)
    refine ⟨nI 5, p2, ?_, by rw [push_len h5, if_pos hl], fun i τ hi => ?_⟩
    · rw [hl]
      exact e1.trans (nm_intro (v := nI 4) (by decide) e3)
    · rw [push_len h5, if_pos hl]
      cases i with
      | zero =>
        rw [push_0] at hi
        cases hi
        exact MS_congr hok (fun j hj => (e4 j hj).symm) hM
      | succ i =>
        obtain ⟨g1, g2⟩ := push_s hi
        refine MS_congr (hokP τ (List.mem_of_getElem? g1)) (fun j hj => ?_) (hS i τ g1)
        rw [hl]
        show past (52 * (5 - 1 - i) + j) = p2 (52 * (5 - 1 - (i + 1)) + j)
        rw [e5 _ (by omega), e2 _ (by omega)]
        exact congrArg past (by omega)
  · rw [if_neg (show ¬ nI P.length = 5 from fun q => hl ((nI_eq (b := 5) (by omega) (by omega)).mp q))]
    obtain ⟨p2, e3, e4, e5⟩ := rem50_go (aside := aside) (p0 := past) (s := P.length) (by omega) 52 0 FU past (by omega) (FU_big (by omega)) (fun j hj => by omega) (fun i _ => rfl)
    refine ⟨nI (P.length + 1), p2, e3, by rw [push_len h5, if_neg hl], fun i τ hi => ?_⟩
    rw [push_len h5, if_neg hl]
    cases i with
    | zero =>
      rw [push_0] at hi
      cases hi
      exact MS_congr hok (fun j hj => (e4 j hj).symm) hM
    | succ i =>
      obtain ⟨g1, g2⟩ := push_s hi
      have hlt := (List.getElem?_eq_some_iff.mp g1).1
      refine MS_congr (hokP τ (List.mem_of_getElem? g1)) (fun j hj => ?_) (hS i τ g1)
      show past (52 * (P.length - 1 - i) + j) = p2 (52 * (P.length + 1 - 1 - (i + 1)) + j)
      rw [e5 _ (by omega)]
      exact congrArg past (by omega)
theorem back_go {past : Ar} {s : Nat} {rf : Ar} (hs : s < 5) : ∀ (d k n : Nat) (f : Ar), k + d = 52 → d < n → (∀ j, j < k → f j = past (52 * s + j)) → ∃ f', b_X7_back_26 past n (nI k) (nI s) f rf = some (nI s, nI s, f', rf) ∧ ∀ j, j < 52 → f' j = past (52 * s + j) := by
  intro d
  induction d with
  | zero =>
    intro k n f hk hn hf
    obtain ⟨n, rfl⟩ : ∃ z, n = z + 1 := ⟨n - 1, by omega⟩
    have : k = 52 := by omega
    subst this
    exact ⟨f, by rw [b_X7_back_26, if_pos (show (52 : Int32) ≤ nI 52 by decide)], hf⟩
  | succ d ih =>
    intro k n f hk hn hf
    obtain ⟨n, rfl⟩ : ∃ z, n = z + 1 := ⟨n - 1, by omega⟩
    obtain ⟨f', e1, e2⟩ := ih (k + 1) n (upd f k (past (52 * s + k))) (by omega) (by omega) (fun j hj => by
      by_cases h : j = k
      · subst h; exact upd_s
      · rw [upd_n h]; exact hf j (by omega))
    refine ⟨f', ?_, e2⟩
    rw [b_X7_back_26, if_neg (c52 (by omega)), rd_at (i := 52 * nI s + nI k) (52 * s + k) (ix52 s k) (by omega) (by omega), wr_at k rfl (by omega) (by omega)]
    simp only [nm, nI_1]
    exact e1
/-- copies of a suite -/
theorem copyS_eq {σ : Sv} {sz st mo rn a1 a2 a3 a5 : Int32} {ms rt a4 a6 : Ar} (hok : okS σ) (h : CS σ sz st mo ms rn rt) : ∃ ms' rn' rt', f_X4_copyFrom a1 a2 a3 a4 a5 a6 sz st mo ms rn rt = some (sz, st, mo, ms', rn', rt') ∧ CS σ sz st mo ms' rn' rt' := by
  obtain ⟨h1, h2, h3, h4, h5⟩ := h
  obtain ⟨f', e1, e2⟩ := copyRow_eq (rn2 := a5) (rt2 := a6) h5
  refine ⟨va_cpy ms a4 (0 : Int32).toNatClampNeg (0 : Int32).toNatClampNeg (40 : Int32).toNatClampNeg, rn, f', ?_, h1, h2, h3, fun i hi => ?_, e2⟩
  · unfold f_X4_copyFrom
    simp only [nm]
    rw [e1]
    rfl
  · have hT := hok.1
    rw [cpy_in (N := 40) (by decide) (by omega)]
    exact h4 i hi
theorem up_s {α : Type} {f : Nat → α} {k : Nat} {v : α} : va_up f k v k = v := by simp [va_up]
theorem up_n {α : Type} {f : Nat → α} {k j : Nat} {v : α} (h : j ≠ k) : va_up f k v j = f j := by simp [va_up, h]
theorem mark_eq {σ : Sv} {P : List Sv} {sz st mo rn pz mk : Int32} {ms rt : Ar} {pM pT : Nat → Ar} {pN pS pB pO : Nat → Int32} (hok : okS σ) (h : CS σ sz st mo ms rn rt) (hR : Ring P pz mk pM pT pN pS pB pO) : ∃ pM' pT' pN' pS' pB' pO', f_X1_mark mk pM pT pN pS pB pO sz st mo ms rn rt = some (pM', pT', pN', pS', pB', pO') ∧ Ring P pz mk pM' pT' pN' pS' pB' pO' ∧ ∃ k, k < 6 ∧ mk = nI k ∧ CS σ (pS' k) (pB' k) (pO' k) (pM' k) (pN' k) (pT' k) := by
  obtain ⟨h5, h6, k, hk, rfl, hP⟩ := hR
  obtain ⟨ms', rn', rt', e1, e2⟩ := copyS_eq (a1 := pS k) (a2 := pB k) (a3 := pO k) (a4 := pM k) (a5 := pN k) (a6 := pT k) hok h
  refine ⟨va_up pM k ms', va_up pT k rt', va_up pN k rn', va_up pS k sz, va_up pB k st, va_up pO k mo, ?_, ⟨h5, h6, k, hk, rfl, fun i τ hi => ?_⟩, k, hk, rfl, ?_⟩
  · unfold f_X1_mark
    rw [if_neg (nI_pos (by omega)), nI_clamp (by omega), if_neg (by omega), e1]
    rfl
  · have hlt := (List.getElem?_eq_some_iff.mp hi).1
    have hne : (k + 5 - i) % 6 ≠ k := by omega
    rw [up_n hne, up_n hne, up_n hne, up_n hne, up_n hne, up_n hne]
    exact hP i τ hi
  · rw [up_s, up_s, up_s, up_s, up_s, up_s]
    exact e2
theorem keep_eq {σ : Sv} {P : List Sv} {pz mk : Int32} {pM pT : Nat → Ar} {pN pS pB pO : Nat → Int32} (hR : Ring P pz mk pM pT pN pS pB pO) (hk : ∃ k, k < 6 ∧ mk = nI k ∧ CS σ (pS k) (pB k) (pO k) (pM k) (pN k) (pT k)) : ∃ pz' mk', f_X1_keep pz mk = some (pz', mk') ∧ Ring (push σ P) pz' mk' pM pT pN pS pB pO := by
  obtain ⟨h5, rfl, k, hk6, rfl, hP⟩ := hR
  obtain ⟨k2, hk2, ek, hC⟩ := hk
  have hkk : k = k2 := (nI_eq (by omega) (by omega)).mp ek
  subst hkk
  refine ⟨nI (push σ P).length, nI ((k + 1) % 6), ?_, ?_, rfl, (k + 1) % 6, Nat.mod_lt _ (by omega), rfl, fun i τ hi => ?_⟩
  · unfold f_X1_keep
    simp only [nm, nI_1]
    rw [show (6 : Int32) = nI 6 from rfl, pk_rem (by omega) (by omega) (by omega), push_len h5]
    by_cases hl : P.length = 5
    · rw [if_pos hl, if_pos (show (5 : Int32) < nI (P.length + 1) from nI_lt (a := 5) (by omega) (by omega))]
      rfl
    · rw [if_neg hl, if_neg (show ¬ (5 : Int32) < nI (P.length + 1) from nI_nlt (b := P.length + 1) (a := 5) (by omega) (by omega))]
  · rw [push_len h5]
    split <;> omega
  · cases i with
    | zero =>
      rw [push_0] at hi
      cases hi
      rw [show ((k + 1) % 6 + 5 - 0) % 6 = k by omega]
      exact hC
    | succ i =>
      obtain ⟨g1, g2⟩ := push_s hi
      rw [show ((k + 1) % 6 + 5 - (i + 1)) % 6 = (k + 5 - i) % 6 by omega]
      exact hP i τ g1
theorem recall_eq {σ : Sv} {sz st mo rn : Int32} {ms rt : Ar} {k : Nat} {pM pT : Nat → Ar} {pN pS pB pO : Nat → Int32} (hok : okS σ) (hk : k < 6) (hC : CS σ (pS k) (pB k) (pO k) (pM k) (pN k) (pT k)) : ∃ sz' st' mo' ms' rn' rt', f_X1_recall (nI k) pM pT pN pS pB pO sz st mo ms rn rt = some (sz', st', mo', ms', rn', rt') ∧ CS σ sz' st' mo' ms' rn' rt' := by
  obtain ⟨ms', rn', rt', e1, e2⟩ := copyS_eq (a1 := sz) (a2 := st) (a3 := mo) (a4 := ms) (a5 := rn) (a6 := rt) hok hC
  refine ⟨_, _, _, ms', rn', rt', ?_, e2⟩
  unfold f_X1_recall
  rw [if_neg (nI_pos (by omega)), nI_clamp (by omega), if_neg (by omega), e1]
