/-! FEWEST and HALVES -/
theorem bd1_s {α β : Type} (a : α) (k : α → Option β) : bd1 (some a) k = k a := rfl
def fwS (F : Nat → Bool) (all : Nat) : Nat → Nat → Nat
  | 0, best => best
  | s + 1, best => fwS F all s (if mns (s + 1) all = 0 ∧ card (s + 1) ≤ card best ∧ F (s + 1) = true then s + 1 else best)
theorem fwS_s (F : Nat → Bool) (all s best : Nat) : fwS F all (s + 1) best = fwS F all s (if mns (s + 1) all = 0 ∧ card (s + 1) ≤ card best ∧ F (s + 1) = true then s + 1 else best) := rfl
theorem mns_0 {s all : Nat} (hs : s < 256) (ha : all < 256) (h : mns s all = 0) : ∀ t, t < 8 → s.testBit t = true → all.testBit t = true := by
  intro t ht hb
  have h1 := mns_bit s all t ha ht
  rw [h, hb] at h1
  cases h2 : all.testBit t
  · rw [h2] at h1; simp at h1
  · rfl
theorem sub_le {s all : Nat} (hs : s < 256) (ha : all < 256) (h : mns s all = 0) : s ≤ all := by
  have h1 : s &&& all = s := by
    apply set_ext (Nat.lt_of_le_of_lt Nat.and_le_left hs) hs
    intro t ht
    rw [Nat.testBit_and]
    cases hb : s.testBit t
    · rfl
    · rw [mns_0 hs ha h t ht hb]; rfl
  rw [← h1]
  exact Nat.and_le_right
theorem fw_hi {F : Nat → Bool} {all : Nat} (ha : all < 256) : ∀ (d best : Nat), all + d < 256 → fwS F all (all + d) best = fwS F all all best := by
  intro d
  induction d with
  | zero => intro best _; rfl
  | succ d ih =>
    intro best hd
    rw [← Nat.add_assoc, fwS_s, if_neg (fun q => by
      have := sub_le (by omega) ha q.1
      omega)]
    exact ih best (by omega)
theorem nI0 {a : Nat} (h : a < 2 ^ 31) : (nI a = 0) ↔ a = 0 := nI_eq (b := 0) h (by omega)
section FW
variable {T : Nat} {L : List Nat} {st o : Int32} {M ms : Ar} {rn : Int32} {rt now : Ar} {p v : Nat}
theorem Fl0 : Fl L st o M p v 0 = false := by
  unfold Fl
  have h : (L.take p).filter (fun t => (0 : Nat).testBit t) = [] := by
    rw [List.filter_eq_nil_iff]
    intro t _
    simp
  rw [h]
  unfold flp run
  simp
theorem fewC_go (h : Plc T L st o M ms rn rt now p v) : ∀ (s n best : Nat), s < n → s < 256 → best < 256 → b_X2_fewest_5 st o ms rn rt (nI (setF 0 (L.take p))) (nI v) n (nI best) (nI s) = some (nI (fwS (Fl L st o M p v) (setF 0 (L.take p)) s best)) := by
  have hb : ∀ u ∈ L.take p, u < 8 := fun u hu => h.2.2.2.1.2.2.2 u (List.mem_of_mem_take hu)
  have hall := set0_lt hb
  intro s
  induction s with
  | zero =>
    intro n best hn _ _
    obtain ⟨n, rfl⟩ : ∃ z, n = z + 1 := ⟨n - 1, by omega⟩
    rw [b_X2_fewest_5, if_pos (show nI 0 ≤ (0 : Int32) by decide)]
    rfl
  | succ s ih =>
    intro n best hn hs hbest
    obtain ⟨n, rfl⟩ : ∃ z, n = z + 1 := ⟨n - 1, by omega⟩
    rw [b_X2_fewest_5, if_neg (nI_nle (n := s + 1) (by omega) (by omega)), mns_nat (s + 1) hs _ hall]
    have hm : mns (s + 1) (setF 0 (L.take p)) < 256 := mns_lt hs
    have hc1 := card_le (s + 1)
    have hc2 := card_le best
    unfold b_X2_fewest_24
    rw [fwS_s, if_pos (show (0 : Int32) = 0 from rfl), if_neg (show ¬ (1 : Int32) = 0 by decide), bitc_eq (s + 1) hs, bitc_eq best hbest]
    simp only [bd1, nm, m1_n]
    by_cases q1 : mns (s + 1) (setF 0 (L.take p)) = 0
    · rw [if_pos ((nI0 (by omega)).mpr q1)]
      by_cases q2 : card (s + 1) ≤ card best
      · rw [if_neg (nI_nlt q2 (by omega)), clsF h hs (fun t ht hbit => by
          have := mns_0 hs hall q1 t ht hbit
          rw [set0_bit] at this
          simpa using this)]
        simp only [bd1, if_b0]
        cases hF : Fl L st o M p v (s + 1)
        · simp only [Bool.false_eq_true, if_false, and_false]
          exact ih n best (by omega) (by omega) hbest
        · simp only [if_true, q1, q2, and_self]
          exact ih n (s + 1) (by omega) (by omega) hs
      · rw [if_pos (nI_lt (by omega) (by omega)), if_neg (fun q => q2 q.2.1)]
        exact ih n best (by omega) (by omega) hbest
    · rw [if_neg (fun q => q1 ((nI0 (by omega)).mp q)), if_neg (fun q => q1 q.1)]
      exact ih n best (by omega) (by omega) hbest
theorem fewC_eq (h : Plc T L st o M ms rn rt now p v) : f_X2_fewest st o ms rn rt (nI (setF 0 (L.take p))) (nI v) = some (nI (fwS (Fl L st o M p v) (setF 0 (L.take p)) 255 (setF 0 (L.take p)))) := by
  have hb : ∀ u ∈ L.take p, u < 8 := fun u hu => h.2.2.2.1.2.2.2 u (List.mem_of_mem_take hu)
  have hall := set0_lt hb
  have e := fewC_go h (setF 0 (L.take p)) FU (setF 0 (L.take p)) (FU_big (by omega)) hall hall
  have e2 := fw_hi (F := Fl L st o M p v) hall (255 - setF 0 (L.take p)) (setF 0 (L.take p)) (by omega)
  rw [show setF 0 (L.take p) + (255 - setF 0 (L.take p)) = 255 by omega] at e2
  rw [e2]
  exact e
theorem fewM_go (h : Plc T L st o M ms rn rt now p v) : ∀ (s n best : Nat) (tm : Int32) (tr : Ar), s + 1 < n → s < 256 → best < 256 → ∃ tm' tr', b_X7_fewestOf_13 now (nI p) n (nI (setF 0 (L.take p))) (nI best) (nI s) tm tr = some (nI (fwS (Fl L st o M p v) (setF 0 (L.take p)) s best), tm', tr') := by
  have hb : ∀ u ∈ L.take p, u < 8 := fun u hu => h.2.2.2.1.2.2.2 u (List.mem_of_mem_take hu)
  have hall := set0_lt hb
  intro s
  induction s with
  | zero =>
    intro n best tm tr hn hs hbest
    obtain ⟨n, rfl⟩ : ∃ z, n = z + 2 := ⟨n - 2, by omega⟩
    obtain ⟨tm1, tr1, e1⟩ := modF h (S := 0) (by omega) tm tr
    refine ⟨tm1, tr1, ?_⟩
    have hc0 : card 0 = 0 := by decide
    have hc2 := card_le best
    rw [b_X7_fewestOf_13, if_neg (nI_pos (by omega)), mns_nat 0 (by omega) _ hall]
    rw [show mns 0 (setF 0 (L.take p)) = 0 by unfold mns; simp, if_pos (show nI 0 = (0 : Int32) from rfl), ones_eq (S := 0) (by omega), ones_eq hbest]
    simp only [bd1]
    rw [if_neg (nI_nlt (a := card best) (b := card 0) (by omega) (by omega)), e1]
    simp only [bd3, if_b0, Fl0, Bool.false_eq_true, if_false, nm]
    rw [b_X7_fewestOf_13, if_pos (show nI 0 + (-1 : Int32) < 0 by decide)]
    rfl
  | succ s ih =>
    intro n best tm tr hn hs hbest
    obtain ⟨n, rfl⟩ : ∃ z, n = z + 1 := ⟨n - 1, by omega⟩
    rw [b_X7_fewestOf_13, if_neg (nI_pos (by omega)), mns_nat (s + 1) hs _ hall]
    have hm : mns (s + 1) (setF 0 (L.take p)) < 256 := mns_lt hs
    have hc1 := card_le (s + 1)
    have hc2 := card_le best
    rw [fwS_s, ones_eq hs, ones_eq hbest]
    simp only [bd1, nm, m1_n]
    by_cases q1 : mns (s + 1) (setF 0 (L.take p)) = 0
    · rw [if_pos ((nI0 (by omega)).mpr q1)]
      by_cases q2 : card (s + 1) ≤ card best
      · obtain ⟨tm1, tr1, e1⟩ := modF h hs tm tr
        rw [if_neg (nI_nlt q2 (by omega)), e1]
        simp only [bd3, if_b0]
        cases hF : Fl L st o M p v (s + 1)
        · simp only [Bool.false_eq_true, if_false, and_false]
          exact ih n best tm1 tr1 (by omega) (by omega) hbest
        · simp only [if_true, q1, q2, and_self]
          exact ih n (s + 1) tm1 tr1 (by omega) (by omega) hs
      · rw [if_pos (nI_lt (by omega) (by omega)), if_neg (fun q => q2 q.2.1)]
        exact ih n best tm tr (by omega) (by omega) hbest
    · rw [if_neg (fun q => q1 ((nI0 (by omega)).mp q)), if_neg (fun q => q1 q.1)]
      exact ih n best tm tr (by omega) (by omega) hbest
theorem fewM_eq (h : Plc T L st o M ms rn rt now p v) (tm : Int32) (tr : Ar) : ∃ tm' tr', f_X7_fewestOf tm now tr (nI p) = some (nI (fwS (Fl L st o M p v) (setF 0 (L.take p)) 255 (setF 0 (L.take p))), tm', tr') := by
  have hl := h.lt
  have hb : ∀ u ∈ L.take p, u < 8 := fun u hu => h.2.2.2.1.2.2.2 u (List.mem_of_mem_take hu)
  have hall := set0_lt hb
  have ha := aheadM_eq h.2.2.2.1.1 h.2.2.2.1.2.2.2 h.2.2.2.2.2.2.2.2.2.1 (show p ≤ L.length by omega)
  have h255 : (255 : Int32) = nI 255 := rfl
  obtain ⟨n, hn⟩ : ∃ n, n = FU := ⟨_, rfl⟩
  obtain ⟨q, hq⟩ : ∃ q, q = 255 := ⟨_, rfl⟩
  obtain ⟨tm', tr', e⟩ := fewM_go h q n (setF 0 (L.take p)) tm tr (by rw [hn, hq]; exact FU_big (by omega)) (by omega) hall
  refine ⟨tm', tr', ?_⟩
  unfold f_X7_fewestOf
  rw [ha, bd1_s, h255, ← hn, ← hq]
  exact e
end FW
def hfL (S : Nat) : List Nat → Nat → Nat → Nat
  | [], _, acc => acc
  | t :: l, w, acc => if w = 0 then acc else if S.testBit t then hfL S l (w - 1) (acc ||| 2 ^ t) else hfL S l w acc
theorem hfL_cons (S t w acc : Nat) (l : List Nat) : hfL S (t :: l) w acc = if w = 0 then acc else if S.testBit t then hfL S l (w - 1) (acc ||| 2 ^ t) else hfL S l w acc := rfl
theorem hfL_0 (S acc : Nat) (l : List Nat) : hfL S l 0 acc = acc := by cases l <;> simp [hfL]
theorem hfL_none {S : Nat} : ∀ (B : List Nat) (w acc : Nat), (∀ t ∈ B, S.testBit t = false) → hfL S B w acc = acc := by
  intro B
  induction B with
  | nil => intro w acc _; rfl
  | cons t B ih =>
    intro w acc h
    rw [hfL_cons, h t (by simp)]
    split
    · rfl
    · simp only [Bool.false_eq_true, if_false]
      exact ih w acc (fun u hu => h u (by simp [hu]))
theorem hfL_app {S : Nat} {B : List Nat} (hB : ∀ t ∈ B, S.testBit t = false) : ∀ (A : List Nat) (w acc : Nat), hfL S (A ++ B) w acc = hfL S A w acc := by
  intro A
  induction A with
  | nil => intro w acc; exact hfL_none B w acc hB
  | cons t A ih =>
    intro w acc
    rw [List.cons_append, hfL_cons, hfL_cons, ih, ih]
theorem or_lt8 {a t : Nat} (ha : a < 256) (ht : t < 8) : a ||| 2 ^ t < 256 := Nat.or_lt_two_pow (n := 8) ha (by have := pow8 ht; omega)
theorem hfL_lt {S : Nat} : ∀ (l : List Nat) (w acc : Nat), (∀ t ∈ l, t < 8) → acc < 256 → hfL S l w acc < 256 := by
  intro l
  induction l with
  | nil => intro w acc _ h; exact h
  | cons t l ih =>
    intro w acc hl h
    rw [hfL_cons]
    split
    · exact h
    · split
      · exact ih _ _ (fun u hu => hl u (by simp [hu])) (or_lt8 h (hl t (by simp)))
      · exact ih _ _ (fun u hu => hl u (by simp [hu])) h
theorem hfL_bit {S : Nat} : ∀ (l : List Nat) (w acc u : Nat), (hfL S l w acc).testBit u = true → acc.testBit u = true ∨ (u ∈ l ∧ S.testBit u = true) := by
  intro l
  induction l with
  | nil => intro w acc u h; exact Or.inl h
  | cons t l ih =>
    intro w acc u h
    rw [hfL_cons] at h
    split at h
    · exact Or.inl h
    · split at h
      · rename_i hb
        rcases ih _ _ u h with q | q
        · rw [Nat.testBit_or, Nat.testBit_two_pow] at q
          by_cases e : t = u
          · subst e; exact Or.inr ⟨by simp, hb⟩
          · simp [e] at q; exact Or.inl q
        · exact Or.inr ⟨by simp [q.1], q.2⟩
      · rcases ih _ _ u h with q | q
        · exact Or.inl q
        · exact Or.inr ⟨by simp [q.1], q.2⟩
theorem hfL_keep {S : Nat} : ∀ (l : List Nat) (w acc u : Nat), acc.testBit u = true → (hfL S l w acc).testBit u = true := by
  intro l
  induction l with
  | nil => intro w acc u h; exact h
  | cons t l ih =>
    intro w acc u h
    rw [hfL_cons]
    split
    · exact h
    · split
      · exact ih _ _ u (by rw [Nat.testBit_or, h]; rfl)
      · exact ih _ _ u h
theorem hfL_some {S : Nat} : ∀ (l : List Nat) (w acc : Nat), 0 < w → (∃ t ∈ l, S.testBit t = true) → ∃ t ∈ l, S.testBit t = true ∧ (hfL S l w acc).testBit t = true := by
  intro l
  induction l with
  | nil => intro w acc _ h; obtain ⟨t, ht, _⟩ := h; simp at ht
  | cons a l ih =>
    intro w acc hw h
    rw [hfL_cons, if_neg (by omega)]
    by_cases hb : S.testBit a = true
    · rw [if_pos hb]
      exact ⟨a, by simp, hb, hfL_keep _ _ _ _ (by rw [Nat.testBit_or, Nat.testBit_two_pow]; simp)⟩
    · rw [if_neg hb]
      obtain ⟨t, ht, h1⟩ := h
      rcases List.mem_cons.mp ht with rfl | ht
      · exact absurd h1 hb
      · obtain ⟨u, hu, h2⟩ := ih w acc hw ⟨t, ht, h1⟩
        exact ⟨u, by simp [hu], h2⟩
theorem card_or : ∀ S, S < 256 → ∀ t, t < 8 → card (S ||| 2 ^ t) ≤ card S + 1 := by
  intro S hS t ht
  cases hb : S.testBit t
  · rw [card_add S hS t ht hb]; exact Nat.le_refl _
  · have : S ||| 2 ^ t = S := by
      apply set_ext (or_lt8 hS ht) hS
      intro u hu
      rw [Nat.testBit_or, Nat.testBit_two_pow]
      by_cases e : t = u
      · subst e; simp [hb]
      · simp [e]
    rw [this]
    omega
theorem hfL_card {S : Nat} : ∀ (l : List Nat) (w acc : Nat), (∀ t ∈ l, t < 8) → acc < 256 → card (hfL S l w acc) ≤ card acc + w := by
  intro l
  induction l with
  | nil => intro w acc _ _; exact Nat.le_add_right _ _
  | cons t l ih =>
    intro w acc hl h
    have ht := hl t (by simp)
    rw [hfL_cons]
    split
    · omega
    · split
      · have h1 := ih (w - 1) (acc ||| 2 ^ t) (fun u hu => hl u (by simp [hu])) (or_lt8 h ht)
        have h2 := card_or acc h t ht
        omega
      · exact ih _ _ (fun u hu => hl u (by simp [hu])) h
theorem card_mono {a b : Nat} (h : ∀ t, t < 8 → a.testBit t = true → b.testBit t = true) : card a ≤ card b := by
  unfold card
  rw [← List.countP_eq_length_filter, ← List.countP_eq_length_filter]
  exact List.countP_mono_left (fun t ht hb => h t (List.mem_range.mp ht) hb)
theorem card_pos {S : Nat} (h : 0 < card S) : ∃ t, t < 8 ∧ S.testBit t = true := by
  unfold card at h
  obtain ⟨t, ht⟩ := List.exists_mem_of_length_pos h
  have h1 := List.mem_filter.mp ht
  exact ⟨t, List.mem_range.mp h1.1, h1.2⟩
theorem card_mns {S R t : Nat} (hS : S < 256) (hR : R < 256) (ht : t < 8) (h1 : S.testBit t = true) (h2 : R.testBit t = true) : card (mns S R) < card S := by
  have h3 := card_clr S hS t ht h1
  have h4 : card (mns S R) ≤ card (mns S (2 ^ t)) := card_mono (fun u hu hb => by
    rw [mns_bit _ _ _ hR hu] at hb
    rw [clr_bit ht hu]
    simp at hb
    by_cases e : t = u
    · subst e; rw [h2] at hb; simp at hb
    · simp [e, hb.1])
  omega
def hv (F : Nat → Bool) (A : List Nat) : Nat → Nat → Nat
  | 0, S => S
  | n + 1, S => if card S < 2 then S else if F (hfL S A (card S / 2) 0) then hv F A n (hfL S A (card S / 2) 0) else if F (mns S (hfL S A (card S / 2) 0)) then hv F A n (mns S (hfL S A (card S / 2) 0)) else S
