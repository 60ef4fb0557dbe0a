/-! the class's rows, as lists -/
def RW (L : List Nat) (rn : Int32) (rt : Ar) : Prop := L.length ≤ 8 ∧ rn = nI L.length ∧ (∀ k t, L[k]? = some t → rt k = nI t) ∧ ∀ t ∈ L, t < 8
theorem drop_c {L l : List Nat} {t k : Nat} (h : L.drop k = t :: l) : L[k]? = some t ∧ L.drop (k + 1) = l ∧ k < L.length ∧ t ∈ L := by
  have h1 : L[k]? = some t := by
    have h2 : (L.drop k)[0]? = some t := by rw [h]; rfl
    rw [List.getElem?_drop] at h2
    simpa using h2
  have h3 : L.drop (k + 1) = l := by
    have h4 : (L.drop k).drop 1 = l := by rw [h]; rfl
    rw [List.drop_drop] at h4
    exact h4
  exact ⟨h1, h3, (List.getElem?_eq_some_iff.mp h1).1, List.mem_of_getElem? h1⟩
theorem drop_n {L : List Nat} {k : Nat} (h : L.drop k = []) : L.length ≤ k := List.drop_eq_nil_iff.mp h
theorem nth_in {L : List Nat} {rn : Int32} {rt : Ar} {k t : Nat} (h : RW L rn rt) (hk : L[k]? = some t) : f_X3_nth rn rt (nI k) = some (nI t) := by
  have hlt : k < L.length := (List.getElem?_eq_some_iff.mp hk).1
  have h8 := h.1
  unfold f_X3_nth
  rw [if_neg (nI_pos (by omega)), h.2.1, if_neg (nI_ge hlt (by omega)), if_neg (c8 (by omega)), rd_at k rfl (by omega) (by omega), h.2.2.1 k t hk]
theorem nth_out {L : List Nat} {rn : Int32} {rt : Ar} {x : Int32} (h : RW L rn rt) (hx : ¬ x < 0) (h2 : nI L.length ≤ x) : f_X3_nth rn rt x = some (-1) := by
  unfold f_X3_nth
  rw [if_neg hx, h.2.1, if_pos h2]
def fnd (t : Nat) : List Nat → Nat → Option Nat
  | [], _ => none
  | a :: l, k => if a = t then some k else fnd t l (k + 1)
def ansO (o : Option Nat) : Int32 := match o with
  | none => -1
  | some k => nI k
theorem placeOf_go {L : List Nat} {rn : Int32} {rt : Ar} {t : Nat} (h : RW L rn rt) (ht : t < 8) : ∀ (l : List Nat) (k n : Nat), L.drop k = l → k ≤ L.length → l.length < n → b_X3_placeOf_2 rn rt (nI t) n (nI k) = some (ansO (fnd t l k)) := by
  have h8 := h.1
  intro l
  induction l with
  | nil =>
    intro k n hl hk hn
    obtain ⟨n, rfl⟩ : ∃ z, n = z + 1 := ⟨n - 1, by omega⟩
    have h1 := drop_n hl
    rw [b_X3_placeOf_2, h.2.1, if_pos (nI_le h1 (by omega))]
    rfl
  | cons a l ih =>
    intro k n hl hk hn
    obtain ⟨n, rfl⟩ : ∃ z, n = z + 1 := ⟨n - 1, by omega⟩
    obtain ⟨h1, h2, h3, h4⟩ := drop_c hl
    have ha := h.2.2.2 a h4
    rw [b_X3_placeOf_2, nth_in h h1, h.2.1, if_neg (nI_ge h3 (by omega))]
    simp only [bd1, nm, nI_1, fnd]
    by_cases hat : a = t
    · rw [if_pos hat, if_pos (by rw [hat])]
      rfl
    · rw [if_neg hat, if_neg (fun q => hat ((nI_eq (by omega) (by omega)).mp q)), ← h.2.1]
      exact ih (k + 1) n h2 (by omega) (by simpa using hn)
theorem placeOf_eq {L : List Nat} {rn : Int32} {rt : Ar} {t : Nat} (h : RW L rn rt) (ht : t < 8) : f_X3_placeOf rn rt (nI t) = some (ansO (fnd t L 0)) := by
  have h8 := h.1
  exact placeOf_go h ht L 0 FU rfl (by omega) (FU_big (by omega))
theorem fnd_some {t : Nat} : ∀ {l : List Nat} {k j : Nat}, fnd t l k = some j → k ≤ j ∧ l[j - k]? = some t := by
  intro l
  induction l with
  | nil => intro k j h; cases h
  | cons a l ih =>
    intro k j h
    unfold fnd at h
    by_cases hat : a = t
    · rw [if_pos hat] at h
      cases h
      simp [hat]
    · rw [if_neg hat] at h
      obtain ⟨h1, h2⟩ := ih h
      refine ⟨by omega, ?_⟩
      rw [show j - k = (j - (k + 1)) + 1 by omega]
      simpa using h2
theorem fnd_none {t : Nat} : ∀ {l : List Nat} {k : Nat}, fnd t l k = none ↔ t ∉ l := by
  intro l
  induction l with
  | nil => intro k; simp [fnd]
  | cons a l ih =>
    intro k
    unfold fnd
    by_cases hat : a = t
    · simp [hat]
    · rw [if_neg hat, ih]
      simp [Ne.symm hat]
/-- the bits of some tests -/
def setF (s : Nat) (l : List Nat) : Nat := l.foldl (fun s t => s ||| 2 ^ t) s
theorem setF_lt : ∀ (l : List Nat) (s : Nat), s < 256 → (∀ t ∈ l, t < 8) → setF s l < 256 := by
  intro l
  induction l with
  | nil => intro s hs _; exact hs
  | cons a l ih =>
    intro s hs hl
    have ha := hl a (by simp)
    have h1 : 2 ^ a < 2 ^ 8 := Nat.pow_lt_pow_right (by omega) ha
    exact ih _ (Nat.or_lt_two_pow (n := 8) hs h1) (fun t ht => hl t (by simp [ht]))
theorem setF_bit : ∀ (l : List Nat) (s t : Nat), (setF s l).testBit t = (s.testBit t || decide (t ∈ l)) := by
  intro l
  induction l with
  | nil => intro s t; simp [setF]
  | cons a l ih =>
    intro s t
    show (setF (s ||| 2 ^ a) l).testBit t = _
    rw [ih, Nat.testBit_or, Nat.testBit_two_pow]
    by_cases h : a = t
    · subst h
      simp
    · have h2 : ¬ t = a := fun q => h q.symm
      simp [h, h2]
theorem setAhead_go {L : List Nat} {rn : Int32} {rt : Ar} {p : Nat} (h : RW L rn rt) (hp : p ≤ L.length) : ∀ (l : List Nat) (k n s : Nat), (L.take p).drop k = l → k ≤ p → l.length < n → s < 256 → b_X3_setAhead_4 rn rt (nI p) n (nI s) (nI k) = some (nI (setF s l)) := by
  have h8 := h.1
  intro l
  induction l with
  | nil =>
    intro k n s hl hk hn hs
    obtain ⟨n, rfl⟩ : ∃ z, n = z + 1 := ⟨n - 1, by omega⟩
    have h1 := drop_n hl
    rw [List.length_take] at h1
    rw [b_X3_setAhead_4, if_pos (nI_le (by omega) (by omega))]
    rfl
  | cons a l ih =>
    intro k n s hl hk hn hs
    obtain ⟨n, rfl⟩ : ∃ z, n = z + 1 := ⟨n - 1, by omega⟩
    obtain ⟨h1, h2, h3, h4⟩ := drop_c hl
    rw [List.length_take] at h3
    have h5 : L[k]? = some a := by rw [List.getElem?_take, if_pos (by omega)] at h1; exact h1
    have ha := h.2.2.2 a (List.mem_of_getElem? h5)
    have h6 : 2 ^ a < 2 ^ 8 := Nat.pow_lt_pow_right (by omega) ha
    rw [b_X3_setAhead_4, if_neg (nI_ge (by omega) (by omega)), nth_in h h5, h.2.1, if_neg (nI_ge (by omega) (by omega)), ← h.2.1]
    simp only [bd1, nm, nI_1]
    rw [show (1 : Int32) <<< (nI a &&& 31) = nI (2 ^ a) from bitB_nat a ha, or_nat s (2 ^ a) (by omega) (by omega)]
    exact ih (k + 1) n (s ||| 2 ^ a) h2 (by omega) (by simpa using hn) (Nat.or_lt_two_pow (n := 8) hs h6)
theorem setAhead_eq {L : List Nat} {rn : Int32} {rt : Ar} {p : Nat} (h : RW L rn rt) (hp : p ≤ L.length) : f_X3_setAhead rn rt (nI p) = some (nI (setF 0 (L.take p))) := by
  have h8 := h.1
  exact setAhead_go h hp (L.take p) 0 FU 0 rfl (by omega) (FU_big (by rw [List.length_take]; omega)) (by omega)
theorem append_eq {L : List Nat} {rn : Int32} {rt : Ar} {t : Nat} (h : RW L rn rt) (hL : L.length < 8) (ht : t < 8) : f_X3_append rn rt (nI t) = some (nI (L.length + 1), upd rt L.length (nI t)) ∧ RW (L ++ [t]) (nI (L.length + 1)) (upd rt L.length (nI t)) := by
  constructor
  · unfold f_X3_append
    rw [h.2.1, if_neg (nI_pos (by omega)), if_neg (c8 hL), wr_at L.length rfl (by omega) (by omega)]
    simp only [nm, nI_1]
  · refine ⟨by simp; omega, by simp, fun k u hk => ?_, fun u hu => ?_⟩
    · by_cases hkl : k = L.length
      · subst hkl
        rw [List.getElem?_append_right (Nat.le_refl _)] at hk
        simp at hk
        rw [upd_s, hk]
      · have h1 : k < L.length := by
          have := (List.getElem?_eq_some_iff.mp hk).1
          simp at this
          omega
        rw [List.getElem?_append_left h1] at hk
        rw [upd_n hkl]
        exact h.2.2.1 k u hk
    · rcases List.mem_append.mp hu with q | q
      · exact h.2.2.2 u q
      · simp at q
        omega
theorem takeOut_go {L : List Nat} {rn : Int32} {rt : Ar} {S : Int32} (h : RW L rn rt) : ∀ (l : List Nat) (k n : Nat) (out : List Nat) (f : Ar), L.drop k = l → k ≤ L.length → l.length < n → out.length ≤ k → (∀ t ∈ out, t < 8) → (∀ j t, out[j]? = some t → f j = nI t) → (∀ j t, k ≤ j → L[j]? = some t → f j = nI t) →
    ∃ f', b_X3_takeOut_12 S n (nI L.length) (nI k) (nI out.length) f = some (nI (out ++ l.filter (fun t => !hasB S (nI t))).length, f') ∧ (∀ j t, (out ++ l.filter (fun t => !hasB S (nI t)))[j]? = some t → f' j = nI t) ∧ ∀ t ∈ (out ++ l.filter (fun t => !hasB S (nI t))), t < 8 := by
  have h8 := h.1
  intro l
  induction l with
  | nil =>
    intro k n out f hl hk hn ho hb h1 h2
    obtain ⟨n, rfl⟩ : ∃ z, n = z + 1 := ⟨n - 1, by omega⟩
    have h3 := drop_n hl
    refine ⟨f, ?_, by simpa using h1, by simpa using hb⟩
    rw [b_X3_takeOut_12, if_pos (nI_le h3 (by omega))]
    simp
  | cons a l ih =>
    intro k n out f hl hk hn ho hb h1 h2
    obtain ⟨n, rfl⟩ : ∃ z, n = z + 1 := ⟨n - 1, by omega⟩
    obtain ⟨g1, g2, g3, g4⟩ := drop_c hl
    have ha := h.2.2.2 a g4
    rw [b_X3_takeOut_12, if_neg (nI_ge g3 (by omega)), if_neg (c8 (by omega)), rd_at k rfl (by omega) (by omega), h2 k a (Nat.le_refl _) g1, isIn_eq]
    simp only [bd1, nm, nI_1, if_b0]
    cases hs : hasB S (nI a) with
    | true =>
      simp only [if_true, List.filter_cons, hs, Bool.not_true, Bool.false_eq_true, if_false]
      exact ih (k + 1) n out f g2 (by omega) (by simpa using hn) (by omega) hb h1 (fun j t hj => h2 j t (by omega))
    | false =>
      have hR : RW out (nI out.length) f := ⟨by omega, rfl, h1, hb⟩
      obtain ⟨e1, e2⟩ := append_eq hR (by omega) ha
      simp only [Bool.false_eq_true, if_false, List.filter_cons, hs, Bool.not_false, if_true]
      rw [e1]
      simp only [bd2]
      have h9 := ih (k + 1) n (out ++ [a]) (upd f out.length (nI a)) g2 (by omega) (by simpa using hn) (by simp; omega) e2.2.2.2 e2.2.2.1 (fun j t hj hL => by rw [upd_n (by omega)]; exact h2 j t (by omega) hL)
      simpa using h9
theorem takeOut_eq {L : List Nat} {rn : Int32} {rt : Ar} {S : Int32} (h : RW L rn rt) : ∃ f', f_X3_takeOut rn rt S = some (nI (L.filter (fun t => !hasB S (nI t))).length, f') ∧ RW (L.filter (fun t => !hasB S (nI t))) (nI (L.filter (fun t => !hasB S (nI t))).length) f' := by
  have h8 := h.1
  obtain ⟨f', e1, e2, e3⟩ := takeOut_go (S := S) h L 0 FU [] rt rfl (by omega) (FU_big (by omega)) (by simp) (by simp) (by simp) (fun j t _ hj => h.2.2.1 j t hj)
  refine ⟨f', ?_, Nat.le_trans (List.length_filter_le _ _) h8, rfl, by simpa using e2, by simpa using e3⟩
  unfold f_X3_takeOut
  rw [h.2.1]
  simpa [nI_0] using e1
theorem cpy_in {f g : Ar} {n : Int32} {N k : Nat} (hn : n.toNatClampNeg = N) (hk : k < N) : va_cpy f g (0 : Int32).toNatClampNeg (0 : Int32).toNatClampNeg n.toNatClampNeg k = f k := by
  have h0 : (0 : Int32).toNatClampNeg = 0 := by decide
  rw [hn, h0, pk_cpy_in (Nat.zero_le _) (by omega)]
  simp
theorem copyRow_eq {L : List Nat} {rn rn2 : Int32} {rt rt2 : Ar} (h : RW L rn rt) : ∃ f', f_X3_copyFrom rn2 rt2 rn rt = some (rn, f') ∧ RW L rn f' := by
  refine ⟨_, rfl, h.1, h.2.1, fun k t hk => ?_, h.2.2.2⟩
  have hlt : k < L.length := (List.getElem?_eq_some_iff.mp hk).1
  have h8 := h.1
  rw [cpy_in (N := 8) (by decide) (by omega)]
  exact h.2.2.1 k t hk
