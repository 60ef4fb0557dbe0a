/-! what a test does to cells; rows of tests: the class's walk and the reference's are one fold -/
def wrg (M : Ar) (t : Nat) (c : Int32) : Int32 := (c &&& M (5 * t)) ||| ((c ^^^ (-1)) &&& M (5 * t + 1))
def pss (M : Ar) (t : Nat) (c : Int32) : Bool := decide (wrg M t c = 0)
def eff (M : Ar) (t : Nat) (c : Int32) : Int32 := ((c &&& (M (5 * t + 2) ^^^ (-1))) ||| M (5 * t + 3)) ^^^ M (5 * t + 4)
def act (M : Ar) (o : Int32) (t : Nat) (c : Int32) : Int32 := if o = 0 then (if wrg M t c = 0 then eff M t c else c) else eff M t c
def flp (M : Ar) (st : Int32) (t : Nat) (c : Int32) : Bool := pss M t c != pss M t st
def run (M : Ar) (o : Int32) (c : Int32) (l : List Nat) : Int32 := l.foldl (fun c t => act M o t c) c
def CM (T : Nat) (M ms : Ar) : Prop := ∀ i, i < 5 * T → ms i = M i
def MM (T : Nat) (M now : Ar) : Prop := ∀ i, i < 5 * T → now (12 + i) = M i
theorem or_0 (a b : Int32) : a ||| b = 0 ↔ a = 0 ∧ b = 0 := by
  rw [← Int32.toBitVec_inj, ← Int32.toBitVec_inj, ← Int32.toBitVec_inj]
  exact BitVec.or_eq_zero_iff
theorem ix5 (t j : Nat) : nI t * nI 5 + nI j = nI (5 * t + j) := by rw [pk_mul, nI_add, Nat.mul_comm]
theorem ix12 (t j : Nat) : (nI 12 + nI 5 * nI t) + nI j = nI (12 + (5 * t + j)) := by rw [pk_mul, nI_add, nI_add, Nat.add_assoc]
section C
variable {T t : Nat} {M ms now : Ar} {o : Int32}
theorem wrong_eq (hM : CM T M ms) (ht : t < T) (hT : T ≤ 8) (c : Int32) : f_X4_wrongCells ms (nI t) c = some (wrg M t c) := by
  unfold f_X4_wrongCells
  rw [if_neg (nI_pos (by omega)), if_pos (c8l (by omega))]
  simp only [nm]
  rw [rd_at (i := nI t * 5 + 0) (5 * t + 0) (ix5 t 0) (by omega) (by omega), rd_at (i := nI t * 5 + 1) (5 * t + 1) (ix5 t 1) (by omega) (by omega), hM _ (by omega), hM _ (by omega)]
  rfl
theorem passC_eq (hM : CM T M ms) (ht : t < T) (hT : T ≤ 8) (c : Int32) : f_X4_passesOn ms (nI t) c = some (pss M t c) := by
  unfold f_X4_passesOn
  rw [wrong_eq hM ht hT]
  simp only [bd1]
  unfold pss
  by_cases h : wrg M t c = 0
  · rw [if_pos h]
    simp [h]
  · rw [if_neg h]
    simp [h]
theorem effC_eq (hM : CM T M ms) (ht : t < T) (hT : T ≤ 8) (c : Int32) : b_X4_cellsAfter_28 ms (nI t) c = some (eff M t c) := by
  unfold b_X4_cellsAfter_28
  simp only [nm]
  rw [rd_at (i := nI t * 5 + 2) (5 * t + 2) (ix5 t 2) (by omega) (by omega), rd_at (i := nI t * 5 + 3) (5 * t + 3) (ix5 t 3) (by omega) (by omega), rd_at (i := nI t * 5 + 4) (5 * t + 4) (ix5 t 4) (by omega) (by omega), hM _ (by omega), hM _ (by omega), hM _ (by omega)]
  rfl
theorem actC_eq (hM : CM T M ms) (ht : t < T) (hT : T ≤ 8) (c : Int32) : f_X4_cellsAfter o ms (nI t) c = some (act M o t c) := by
  unfold f_X4_cellsAfter act
  rw [if_neg (nI_pos (by omega)), if_neg (c8 (by omega)), wrong_eq hM ht hT, effC_eq hM ht hT]
  simp only [bd1]
  by_cases h : o = 0
  · rw [if_pos h, if_pos h]
    by_cases h2 : wrg M t c = 0
    · rw [if_pos h2, if_pos h2]
    · rw [if_neg h2, if_neg h2]
  · rw [if_neg h, if_neg h]
theorem flpC_eq {st : Int32} (hM : CM T M ms) (ht : t < T) (hT : T ≤ 8) (c : Int32) : f_X4_isFlippedOn st ms (nI t) c = some (flp M st t c) := by
  unfold f_X4_isFlippedOn
  rw [passC_eq hM ht hT, passC_eq hM ht hT]
  simp only [bd1, if_be]
  unfold flp
  cases pss M t c != pss M t st <;> rfl
theorem ofTest_eq (hM : MM T M now) (ht : t < T) (hT : T ≤ 8) {j : Nat} (hj : j < 5) {x : Int32} (hx : x = nI j) : f_X7_ofTest now (nI t) x = some (M (5 * t + j)) := by
  subst hx
  unfold f_X7_ofTest
  rw [rd_at (i := 12 + 5 * nI t + nI j) (12 + (5 * t + j)) (ix12 t j) (by omega) (by omega), hM _ (by omega)]
theorem passM_eq (hM : MM T M now) (ht : t < T) (hT : T ≤ 8) (c : Int32) : f_X7_passes now (nI t) c = some (pss M t c) := by
  unfold f_X7_passes pss
  rw [ofTest_eq (x := 0) hM ht hT (j := 0) (by omega) rfl, ofTest_eq (x := 1) hM ht hT (j := 1) (by omega) rfl]
  simp only [bd1]
  have h := or_0 (c &&& M (5 * t)) ((c ^^^ (-1)) &&& M (5 * t + 1))
  by_cases h1 : c &&& M (5 * t) = 0
  · rw [if_pos (show c &&& M (5 * t + 0) = 0 from h1)]
    by_cases h2 : (c ^^^ (-1)) &&& M (5 * t + 1) = 0
    · rw [if_pos h2]
      have h3 : wrg M t c = 0 := h.mpr ⟨h1, h2⟩
      simp [h3]
    · rw [if_neg h2]
      have h3 : ¬ wrg M t c = 0 := fun q => h2 (h.mp q).2
      simp [h3]
  · rw [if_neg (show ¬ c &&& M (5 * t + 0) = 0 from h1)]
    have h3 : ¬ wrg M t c = 0 := fun q => h1 (h.mp q).1
    simp [h3]
theorem effM_eq (hM : MM T M now) (ht : t < T) (hT : T ≤ 8) (c : Int32) : b_X7_behind_24 now (nI t) c 1 = some (eff M t c) := by
  unfold b_X7_behind_24
  rw [if_neg (by decide), ofTest_eq (x := 2) hM ht hT (j := 2) (by omega) rfl, ofTest_eq (x := 3) hM ht hT (j := 3) (by omega) rfl, ofTest_eq (x := 4) hM ht hT (j := 4) (by omega) rfl]
  rfl
theorem actM_eq (hM : MM T M now) (ht : t < T) (hT : T ≤ 8) (h2 : now 2 = o) (ho : o = 0 ∨ o = 1) (c : Int32) : f_X7_behind now (nI t) c = some (act M o t c) := by
  unfold f_X7_behind act
  rw [r2, h2, passM_eq hM ht hT, effM_eq hM ht hT]
  simp only [bd1, if_b0]
  rcases ho with rfl | rfl
  · rw [if_neg (by decide), if_pos rfl]
    unfold pss
    by_cases h : wrg M t c = 0
    · simp [h]
    · simp [h, b_X7_behind_24]
  · rw [if_pos rfl, if_neg (by decide)]
theorem aloneM_eq {st : Int32} (hM : MM T M now) (ht : t < T) (hT : T ≤ 8) (h1 : now 1 = st) : f_X7_isAlone now (nI t) = some (pss M t st) := by
  unfold f_X7_isAlone
  rw [r1, h1, passM_eq hM ht hT]
  rfl
end C
/-- the class: cells behind those of a set -/
theorem cellsC_go {T : Nat} {L : List Nat} {M ms rt : Ar} {o rn S : Int32} (hR : RW L rn rt) (hL : ∀ t ∈ L, t < T) (hM : CM T M ms) (hT : T ≤ 8) : ∀ (l : List Nat) (k n : Nat) (c : Int32), L.drop k = l → k ≤ L.length → l.length < n → b_X4_cellsBehind_7 o ms rn rt S n c (nI k) = some (run M o c (l.filter (fun t => hasB S (nI t)))) := by
  have h8 := hR.1
  intro l
  induction l with
  | nil =>
    intro k n c hl hk hn
    obtain ⟨n, rfl⟩ : ∃ z, n = z + 1 := ⟨n - 1, by omega⟩
    rw [b_X4_cellsBehind_7, hR.2.1, if_pos (nI_le (drop_n hl) (by omega))]
    rfl
  | cons a l ih =>
    intro k n c hl hk hn
    obtain ⟨n, rfl⟩ : ∃ z, n = z + 1 := ⟨n - 1, by omega⟩
    obtain ⟨g1, g2, g3, g4⟩ := drop_c hl
    have h1 := ih (k + 1) n
    rw [b_X4_cellsBehind_7, nth_in hR g1, hR.2.1, if_neg (nI_ge g3 (by omega)), ← hR.2.1]
    simp only [bd1, nm, nI_1]
    rw [isIn_eq]
    simp only [bd1, if_b0]
    rw [actC_eq hM (hL a g4) hT]
    simp only [bd1]
    cases hs : hasB S (nI a) with
    | true =>
      simp only [if_true, List.filter_cons, hs]
      exact h1 _ g2 (by omega) (by simpa using hn)
    | false =>
      simp only [Bool.false_eq_true, if_false, List.filter_cons, hs]
      exact h1 _ g2 (by omega) (by simpa using hn)
theorem cellsC_eq {T : Nat} {L : List Nat} {M ms rt : Ar} {o rn S st : Int32} (hR : RW L rn rt) (hL : ∀ t ∈ L, t < T) (hM : CM T M ms) (hT : T ≤ 8) : f_X4_cellsBehind st o ms rn rt S = some (run M o st (L.filter (fun t => hasB S (nI t)))) := by
  have h8 := hR.1
  exact cellsC_go hR hL hM hT L 0 FU st rfl (by omega) (FU_big (by omega))
theorem flpBC_eq {T v : Nat} {L : List Nat} {M ms rt : Ar} {o rn S st : Int32} (hR : RW L rn rt) (hL : ∀ t ∈ L, t < T) (hM : CM T M ms) (hT : T ≤ 8) (hv : v < T) : f_X4_isFlippedBehind st o ms rn rt S (nI v) = some (flp M st v (run M o st (L.filter (fun t => hasB S (nI t))))) := by
  unfold f_X4_isFlippedBehind
  rw [cellsC_eq hR hL hM hT]
  simp only [bd1]
  rw [flpC_eq hM hv hT]
/-- the reference: some are tried -/
def TR (l : List Nat) (tm : Int32) (tr : Ar) : Prop := tm = nI l.length ∧ ∀ k t, l[k]? = some t → tr k = nI t
theorem TR_push {l : List Nat} {tm : Int32} {tr : Ar} {t : Nat} (h : TR l tm tr) : TR (l ++ [t]) (nI (l.length + 1)) (upd tr l.length (nI t)) := by
  refine ⟨by simp, fun k u hk => ?_⟩
  by_cases hkl : k = l.length
  · subst hkl
    rw [List.getElem?_append_right (Nat.le_refl _)] at hk
    simp at hk
    rw [upd_s, hk]
  · have h1 : k < l.length := by
      have := (List.getElem?_eq_some_iff.mp hk).1
      simp at this
      omega
    rw [List.getElem?_append_left h1] at hk
    rw [upd_n hkl]
    exact h.2 k u hk
theorem tries_go {L : List Nat} {now : Ar} {S : Int32} {p : Nat} (h8 : L.length ≤ 8) (hN : ∀ k t, L[k]? = some t → now (4 + k) = nI t) (hp : p ≤ L.length) : ∀ (l : List Nat) (k n : Nat) (out : List Nat) (tr : Ar), (L.take p).drop k = l → k ≤ p → l.length < n → out.length ≤ k → TR out (nI out.length) tr → ∃ tr', b_X7_tries_7 now (nI p) S n (nI k) (nI out.length) tr = some (nI (out ++ l.filter (fun t => hasB S (nI t))).length, tr') ∧ TR (out ++ l.filter (fun t => hasB S (nI t))) (nI (out ++ l.filter (fun t => hasB S (nI t))).length) tr' := by
  intro l
  induction l with
  | nil =>
    intro k n out tr hl hk hn ho hR
    obtain ⟨n, rfl⟩ : ∃ z, n = z + 1 := ⟨n - 1, by omega⟩
    have h1 := drop_n hl
    rw [List.length_take] at h1
    refine ⟨tr, ?_, by simpa using hR⟩
    rw [b_X7_tries_7, if_pos (nI_le (by omega) (by omega))]
    simp
  | cons a l ih =>
    intro k n out tr hl hk hn ho hR
    obtain ⟨n, rfl⟩ : ∃ z, n = z + 1 := ⟨n - 1, by omega⟩
    obtain ⟨g1, g2, g3, g4⟩ := drop_c hl
    rw [List.length_take] at g3
    have g5 : L[k]? = some a := by rw [List.getElem?_take, if_pos (by omega)] at g1; exact g1
    rw [b_X7_tries_7, if_neg (nI_ge (by omega) (by omega)), r4 (by omega), hN k a g5, has_eq]
    simp only [bd1, nm, nI_1, if_b0]
    rw [r4 (by omega), hN k a g5, wr_at out.length rfl (by omega) (by omega)]
    cases hs : hasB S (nI a) with
    | true =>
      simp only [if_true, List.filter_cons, hs]
      have h9 := ih (k + 1) n (out ++ [a]) _ g2 (by omega) (by simpa using hn) (by simp; omega) (by simpa using TR_push (t := a) hR)
      simpa using h9
    | false =>
      simp only [Bool.false_eq_true, if_false, List.filter_cons, hs]
      exact ih (k + 1) n out tr g2 (by omega) (by simpa using hn) (by omega) hR
theorem tries_eq {L : List Nat} {now tr : Ar} {S tm : Int32} {p : Nat} (h8 : L.length ≤ 8) (hN : ∀ k t, L[k]? = some t → now (4 + k) = nI t) (hp : p ≤ L.length) : ∃ tr', f_X7_tries tm now tr (nI p) S = some (nI ((L.take p).filter (fun t => hasB S (nI t))).length, tr') ∧ TR ((L.take p).filter (fun t => hasB S (nI t))) (nI ((L.take p).filter (fun t => hasB S (nI t))).length) tr' := by
  obtain ⟨tr', e1, e2⟩ := tries_go (S := S) h8 hN hp (L.take p) 0 FU [] tr rfl (by omega) (FU_big (by rw [List.length_take]; omega)) (by simp) ⟨rfl, by simp⟩
  refine ⟨tr', ?_, by simpa using e2⟩
  unfold f_X7_tries
  simpa [nI_0] using e1
theorem behindT_go {T : Nat} {l0 : List Nat} {M now tr : Ar} {o tm : Int32} (hTR : TR l0 tm tr) (h8 : l0.length ≤ 8) (hL : ∀ t ∈ l0, t < T) (hM : MM T M now) (hT : T ≤ 8) (h2 : now 2 = o) (ho : o = 0 ∨ o = 1) : ∀ (l : List Nat) (k n : Nat) (c : Int32), l0.drop k = l → k ≤ l0.length → l.length < n → b_X7_behindTried_9 tm now tr n c (nI k) = some (run M o c l) := by
  intro l
  induction l with
  | nil =>
    intro k n c hl hk hn
    obtain ⟨n, rfl⟩ : ∃ z, n = z + 1 := ⟨n - 1, by omega⟩
    rw [b_X7_behindTried_9, hTR.1, if_pos (nI_le (drop_n hl) (by omega))]
    rfl
  | cons a l ih =>
    intro k n c hl hk hn
    obtain ⟨n, rfl⟩ : ∃ z, n = z + 1 := ⟨n - 1, by omega⟩
    obtain ⟨g1, g2, g3, g4⟩ := drop_c hl
    rw [b_X7_behindTried_9, hTR.1, if_neg (nI_ge g3 (by omega)), rd_at k rfl (by omega) (by omega), hTR.2 k a g1, actM_eq hM (hL a g4) hT h2 ho, ← hTR.1]
    simp only [bd1, nm, nI_1]
    exact ih (k + 1) n _ g2 (by omega) (by simpa using hn)
theorem behindT_eq {T : Nat} {l0 : List Nat} {M now tr : Ar} {o tm st : Int32} (hTR : TR l0 tm tr) (h8 : l0.length ≤ 8) (hL : ∀ t ∈ l0, t < T) (hM : MM T M now) (hT : T ≤ 8) (h1 : now 1 = st) (h2 : now 2 = o) (ho : o = 0 ∨ o = 1) : f_X7_behindTried tm now tr = some (run M o st l0) := by
  unfold f_X7_behindTried
  rw [r1, h1]
  exact behindT_go hTR h8 hL hM hT h2 ho l0 0 FU st rfl (by omega) (FU_big (by omega))
theorem flpM_eq {T v : Nat} {l0 : List Nat} {M now tr : Ar} {o tm st : Int32} (hTR : TR l0 tm tr) (h8 : l0.length ≤ 8) (hL : ∀ t ∈ l0, t < T) (hM : MM T M now) (hT : T ≤ 8) (h1 : now 1 = st) (h2 : now 2 = o) (ho : o = 0 ∨ o = 1) (hv : v < T) : f_X7_isFlipped tm now tr (nI v) = some (flp M st v (run M o st l0)) := by
  unfold f_X7_isFlipped
  rw [behindT_eq hTR h8 hL hM hT h1 h2 ho]
  simp only [bd1]
  rw [passM_eq hM hv hT, aloneM_eq hM hv hT h1]
  simp only [bd1, if_be]
  unfold flp
  cases pss M v (run M o st l0) != pss M v st <;> rfl
