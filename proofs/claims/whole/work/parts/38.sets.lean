/-! sets of tests as bits: how many, which -/
def card (S : Nat) : Nat := ((List.range 8).filter (fun t => S.testBit t)).length
theorem card_clr : ∀ S, S < 256 → ∀ t, t < 8 → S.testBit t = true → card (mns S (2 ^ t)) + 1 = card S := by decide +kernel
theorem card_add : ∀ S, S < 256 → ∀ t, t < 8 → S.testBit t = false → card (S ||| 2 ^ t) = card S + 1 := by decide +kernel
theorem card_le (S : Nat) : card S ≤ 8 := by
  unfold card
  exact Nat.le_trans (List.length_filter_le _ _) (by simp)
theorem bitc_eq : ∀ S, S < 256 → f_J6_bitCount_0f7a4 (nI S) = some (nI (card S)) := by decide +kernel
theorem bit_val : ∀ S, S < 256 → ∀ t, t < 8 → (nI S >>> (nI t &&& 31)) &&& 1 = nI (cond (S.testBit t) 1 0) := by decide +kernel
theorem ones_go {S : Nat} (hS : S < 256) : ∀ (d k n a : Nat), k + d = 8 → d < n → b_X7_ones_4 (nI S) n (nI a) (nI k) = some (nI (a + ((List.range' k d).filter (fun t => S.testBit t)).length)) := by
  intro d
  induction d with
  | zero =>
    intro k n a hk hn
    obtain ⟨n, rfl⟩ : ∃ z, n = z + 1 := ⟨n - 1, by omega⟩
    have : k = 8 := by omega
    subst this
    rw [b_X7_ones_4, if_pos (show (8 : Int32) ≤ nI 8 by decide)]
    simp
  | succ d ih =>
    intro k n a hk hn
    obtain ⟨n, rfl⟩ : ∃ z, n = z + 1 := ⟨n - 1, by omega⟩
    rw [b_X7_ones_4, if_neg (c8 (by omega)), bit_val S hS k (by omega)]
    simp only [nm, nI_1, nI_add]
    rw [ih (k + 1) n _ (by omega) (by omega), List.range'_succ, List.filter_cons]
    cases S.testBit k
    · simp
    · simp
      congr 1
      omega
theorem ones_eq {S : Nat} (hS : S < 256) : f_X7_ones (nI S) = some (nI (card S)) := by
  have h := ones_go hS 8 0 FU 0 (by omega) (FU_big (by omega))
  rw [Nat.zero_add, ← List.range_eq_range'] at h
  exact h
theorem card_setF : ∀ (l : List Nat) (s : Nat), s < 256 → l.Nodup → (∀ t ∈ l, t < 8) → (∀ t ∈ l, s.testBit t = false) → card (setF s l) = card s + l.length := by
  intro l
  induction l with
  | nil => intro s _ _ _ _; rfl
  | cons a l ih =>
    intro s hs hn hl hd
    have hn2 := List.nodup_cons.mp hn
    have ha := hl a (by simp)
    have h1 : 2 ^ a < 2 ^ 8 := Nat.pow_lt_pow_right (by omega) ha
    have h2 := ih (s ||| 2 ^ a) (Nat.or_lt_two_pow (n := 8) hs h1) hn2.2 (fun t ht => hl t (by simp [ht])) (fun t ht => by
      rw [Nat.testBit_or, Nat.testBit_two_pow, hd t (by simp [ht])]
      have : a ≠ t := fun q => hn2.1 (q ▸ ht)
      simp [this])
    show card (setF (s ||| 2 ^ a) l) = _
    rw [h2, card_add s hs a ha (hd a (by simp))]
    simp
    omega
theorem card_set0 {l : List Nat} (hn : l.Nodup) (hl : ∀ t ∈ l, t < 8) : card (setF 0 l) = l.length := by
  have h := card_setF l 0 (by omega) hn hl (fun t _ => by simp)
  rw [h]
  have : card 0 = 0 := by decide
  omega
theorem set0_bit {l : List Nat} {t : Nat} : (setF 0 l).testBit t = decide (t ∈ l) := by rw [setF_bit]; simp
theorem set0_lt {l : List Nat} (hl : ∀ t ∈ l, t < 8) : setF 0 l < 256 := setF_lt l 0 (by omega) hl
theorem mns_set {l : List Nat} {S : Nat} (hS : S < 256) (hl : ∀ t ∈ l, t < 8) : mns (setF 0 l) S = setF 0 (l.filter (fun t => !S.testBit t)) := by
  apply set_ext (mns_lt (set0_lt hl)) (set0_lt (fun t ht => hl t (List.mem_filter.mp ht).1))
  intro t ht
  rw [mns_bit _ _ _ hS ht, set0_bit, set0_bit]
  by_cases h : t ∈ l <;> simp [h]
/-- S holds none but those of l -/
def SubL (S : Nat) (l : List Nat) : Prop := ∀ t, t < 8 → S.testBit t = true → t ∈ l
theorem clr_bit {S t u : Nat} (ht : t < 8) (hu : u < 8) : (mns S (2 ^ t)).testBit u = (S.testBit u && !decide (t = u)) := by
  have h1 : 2 ^ t < 2 ^ 8 := Nat.pow_lt_pow_right (by omega) ht
  rw [mns_bit _ _ _ (by omega) hu, Nat.testBit_two_pow]
theorem mns_sub {S R : Nat} {l : List Nat} (hR : R < 256) (h : SubL S l) : SubL (mns S R) l := by
  intro t ht hb
  rw [mns_bit _ _ _ hR ht] at hb
  exact h t ht (by simp at hb; exact hb.1)
theorem take_drop_disj {L : List Nat} {p t : Nat} (hn : L.Nodup) (h1 : t ∈ L.take p) (h2 : t ∈ L.drop p) : False := by
  have h := hn
  rw [← List.take_append_drop p L] at h
  rw [List.nodup_append] at h
  exact h.2.2 t h1 t h2 rfl
theorem filt_take {L : List Nat} {p S : Nat} (hn : L.Nodup) (hb : ∀ t ∈ L, t < 8) (hS : S < 256) (hsub : SubL S (L.take p)) : L.filter (fun t => hasB (nI S) (nI t)) = (L.take p).filter (fun t => S.testBit t) := by
  have h1 : L.filter (fun t => hasB (nI S) (nI t)) = L.filter (fun t => S.testBit t) := List.filter_congr (fun t ht => hasB_nat S hS t (hb t ht))
  have h2 : (L.drop p).filter (fun t => S.testBit t) = [] := by
    rw [List.filter_eq_nil_iff]
    intro t ht hbit
    exact take_drop_disj hn (hsub t (hb t (List.mem_of_mem_drop ht)) hbit) ht
  have h3 : L.filter (fun t => S.testBit t) = (L.take p ++ L.drop p).filter (fun t => S.testBit t) := by rw [List.take_append_drop]
  rw [h1, h3, List.filter_append, h2, List.append_nil]
theorem filt_hasN {L : List Nat} {S : Nat} (hb : ∀ t ∈ L, t < 8) (hS : S < 256) : L.filter (fun t => hasB (nI S) (nI t)) = L.filter (fun t => S.testBit t) := List.filter_congr (fun t ht => hasB_nat S hS t (hb t ht))
theorem filt_all {L : List Nat} (hb : ∀ t ∈ L, t < 8) : L.filter (fun t => hasB 255 (nI t)) = L := by
  rw [List.filter_eq_self]
  intro t ht
  have h := hasB_nat 255 (by omega) t (hb t ht)
  have h2 : ∀ t, t < 8 → (255 : Nat).testBit t = true := by decide
  rw [h2 t (hb t ht)] at h
  exact h
/-- all that is known where a test's place in the row is asked -/
def Plc (T : Nat) (L : List Nat) (st o : Int32) (M ms : Ar) (rn : Int32) (rt now : Ar) (p v : Nat) : Prop := T ≤ 8 ∧ L.Nodup ∧ (∀ t ∈ L, t < T) ∧ RW L rn rt ∧ CM T M ms ∧ now 1 = st ∧ now 2 = o ∧ (o = 0 ∨ o = 1) ∧ now 3 = nI L.length ∧ (∀ k t, L[k]? = some t → now (4 + k) = nI t) ∧ MM T M now ∧ L[p]? = some v
def Fl (L : List Nat) (st o : Int32) (M : Ar) (p v S : Nat) : Bool := flp M st v (run M o st ((L.take p).filter (fun t => S.testBit t)))
section PL
variable {T : Nat} {L : List Nat} {st o : Int32} {M ms : Ar} {rn : Int32} {rt now : Ar} {p v : Nat}
theorem Plc.lt (h : Plc T L st o M ms rn rt now p v) : p < L.length ∧ L.length ≤ 8 ∧ v < T ∧ v < 8 ∧ p < 8 := by
  obtain ⟨h1, h2, h3, h4, h5, h6, h7, h8, h9, h10, h11, h12⟩ := h
  have a1 := (List.getElem?_eq_some_iff.mp h12).1
  have a2 := h3 v (List.mem_of_getElem? h12)
  have a3 := h4.1
  omega
theorem clsF (h : Plc T L st o M ms rn rt now p v) {S : Nat} (hS : S < 256) (hsub : SubL S (L.take p)) : f_X4_isFlippedBehind st o ms rn rt (nI S) (nI v) = some (Fl L st o M p v S) := by
  have hl := h.lt
  obtain ⟨h1, h2, h3, h4, h5, h6, h7, h8, h9, h10, h11, h12⟩ := h
  rw [flpBC_eq h4 h3 h5 h1 (by omega), filt_take h2 h4.2.2.2 hS hsub]
  rfl
theorem modF (h : Plc T L st o M ms rn rt now p v) {S : Nat} (hS : S < 256) (tm : Int32) (tr : Ar) : ∃ tm' tr', f_X7_flipsIn tm now tr (nI p) (nI S) = some (Fl L st o M p v S, tm', tr') := by
  have hl := h.lt
  obtain ⟨h1, h2, h3, h4, h5, h6, h7, h8, h9, h10, h11, h12⟩ := h
  obtain ⟨tr', e1, e2⟩ := tries_eq (tm := tm) (tr := tr) (S := nI S) h4.1 h10 (show p ≤ L.length by omega)
  have hb : ∀ t ∈ L.take p, t < 8 := fun t ht => h4.2.2.2 t (List.mem_of_mem_take ht)
  rw [filt_hasN hb hS] at e1 e2
  refine ⟨nI ((L.take p).filter (fun t => S.testBit t)).length, tr', ?_⟩
  unfold f_X7_flipsIn
  rw [e1]
  simp only [bd2]
  have hlen : ((L.take p).filter (fun t => S.testBit t)).length ≤ 8 := Nat.le_trans (List.length_filter_le _ _) (by rw [List.length_take]; omega)
  rw [r4 (by omega), h10 p v h12, flpM_eq e2 hlen (fun t ht => h3 t (List.mem_of_mem_take (List.mem_filter.mp ht).1)) h11 h1 h6 h7 h8 (by omega)]
  rfl
end PL
theorem aheadM_go {L : List Nat} {now : Ar} {p : Nat} (h8 : L.length ≤ 8) (hb : ∀ t ∈ L, t < 8) (h4 : ∀ k t, L[k]? = some t → now (4 + k) = nI t) (hp : p ≤ L.length) : ∀ (l : List Nat) (k n s : Nat), (L.take p).drop k = l → k ≤ p → l.length < n → s < 256 → b_X7_ahead_4 now (nI p) n (nI s) (nI k) = some (nI (setF s l)) := by
  intro l
  induction l with
  | nil =>
    intro k n s hl hk hn hs
    obtain ⟨n, rfl⟩ : ∃ z, n = z + 1 := ⟨n - 1, by omega⟩
    have h1 := drop_n hl
    rw [List.length_take] at h1
    rw [b_X7_ahead_4, if_pos (nI_le (by omega) (by omega))]
    rfl
  | cons a l ih =>
    intro k n s hl hk hn hs
    obtain ⟨n, rfl⟩ : ∃ z, n = z + 1 := ⟨n - 1, by omega⟩
    obtain ⟨h1, h2, h3, h4'⟩ := drop_c hl
    rw [List.length_take] at h3
    have h5 : L[k]? = some a := by rw [List.getElem?_take, if_pos (by omega)] at h1; exact h1
    have ha := hb a (List.mem_of_getElem? h5)
    have h6 : 2 ^ a < 2 ^ 8 := Nat.pow_lt_pow_right (by omega) ha
    rw [b_X7_ahead_4, if_neg (nI_ge (by omega) (by omega)), r4 (by omega), h4 k a h5]
    simp only [nm, nI_1]
    rw [show (1 : Int32) <<< (nI a &&& 31) = nI (2 ^ a) from bitB_nat a ha, or_nat s (2 ^ a) (by omega) (by omega)]
    exact ih (k + 1) n (s ||| 2 ^ a) h2 (by omega) (by simpa using hn) (Nat.or_lt_two_pow (n := 8) hs h6)
theorem aheadM_eq {L : List Nat} {now : Ar} {p : Nat} (h8 : L.length ≤ 8) (hb : ∀ t ∈ L, t < 8) (h4 : ∀ k t, L[k]? = some t → now (4 + k) = nI t) (hp : p ≤ L.length) : f_X7_ahead now (nI p) = some (nI (setF 0 (L.take p))) := aheadM_go h8 hb h4 hp (L.take p) 0 FU 0 rfl (by omega) (FU_big (by rw [List.length_take]; omega)) (by omega)
