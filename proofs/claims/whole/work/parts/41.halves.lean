/-! HALVES, class and reference -/
theorem hv_s (F : Nat → Bool) (A : List Nat) (n S : Nat) : hv F A (n + 1) S = if card S < 2 then S else if F (hfL S A (card S / 2) 0) then hv F A n (hfL S A (card S / 2) 0) else if F (mns S (hfL S A (card S / 2) 0)) then hv F A n (mns S (hfL S A (card S / 2) 0)) else S := rfl
theorem div2 {a : Nat} (h : a < 2 ^ 31) : nI a / (2 : Int32) = nI (a / 2) := pk_div (d := 2) h (by omega) (by omega)
section HV
variable {T : Nat} {L : List Nat} {st o : Int32} {M ms : Ar} {rn : Int32} {rt now : Ar} {p v : Nat}
theorem halfC_go {S : Nat} (hR : RW L rn rt) (hS : S < 256) : ∀ (l : List Nat) (k n w acc : Nat), L.drop k = l → k ≤ L.length → l.length < n → w < 100 → acc < 256 → b_X2_firstHalf_12 rn rt (nI S) n (nI acc) (nI w) (nI k) = some (nI (hfL S l w acc)) := by
  have h8 := hR.1
  intro l
  induction l with
  | nil =>
    intro k n w acc hd hk hn hw ha
    obtain ⟨n, rfl⟩ : ∃ z, n = z + 1 := ⟨n - 1, by omega⟩
    rw [b_X2_firstHalf_12, hR.2.1, if_pos (nI_le (drop_n hd) (by omega))]
    rfl
  | cons a l ih =>
    intro k n w acc hd hk hn hw ha
    obtain ⟨n, rfl⟩ : ∃ z, n = z + 1 := ⟨n - 1, by omega⟩
    obtain ⟨g1, g2, g3, g4⟩ := drop_c hd
    have ha8 := hR.2.2.2 a g4
    have hp := pow8 ha8
    rw [b_X2_firstHalf_12, nth_in hR g1, hR.2.1, if_neg (nI_ge g3 (by omega)), ← hR.2.1, hfL_cons]
    by_cases hw0 : w = 0
    · subst hw0
      rw [if_pos (show nI 0 ≤ (0 : Int32) by decide), if_pos rfl]
    · rw [if_neg (nI_nle (n := w) (by omega) (by omega)), if_neg hw0]
      simp only [bd1, nm, nI_1]
      rw [isIn_eq, hasB_nat S hS a ha8]
      simp only [bd1, if_b0]
      cases hb : S.testBit a
      · simp only [Bool.false_eq_true, if_false]
        exact ih (k + 1) n w acc g2 (by omega) (by simpa using hn) hw ha
      · simp only [if_true]
        obtain ⟨w, rfl⟩ : ∃ z, w = z + 1 := ⟨w - 1, by omega⟩
        rw [show (1 : Int32) <<< (nI a &&& 31) = nI (2 ^ a) from bitB_nat a ha8, or_nat acc (2 ^ a) (by omega) (by omega), m1_n]
        exact ih (k + 1) n w (acc ||| 2 ^ a) g2 (by omega) (by simpa using hn) (by omega) (or_lt8 ha ha8)
theorem halfC_eq (h : Plc T L st o M ms rn rt now p v) {S : Nat} (hS : S < 256) (hsub : SubL S (L.take p)) : f_X2_firstHalf rn rt (nI S) = some (nI (hfL S (L.take p) (card S / 2) 0)) := by
  have hl := h.lt
  obtain ⟨h1, h2, h3, h4, -⟩ := id h
  have hc := card_le S
  have e := halfC_go h4 hS L 0 FU (card S / 2) 0 rfl (by omega) (FU_big (by omega)) (by omega) (by omega)
  have e2 : hfL S L (card S / 2) 0 = hfL S (L.take p) (card S / 2) 0 := by
    have e3 : hfL S L (card S / 2) 0 = hfL S (L.take p ++ L.drop p) (card S / 2) 0 := by rw [List.take_append_drop]
    rw [e3]
    refine hfL_app (fun t ht => ?_) _ _ _
    cases hb : S.testBit t with
    | false => rfl
    | true => exact (take_drop_disj h2 (hsub t (h4.2.2.2 t (List.mem_of_mem_drop ht)) hb) ht).elim
  rw [e2] at e
  unfold f_X2_firstHalf
  rw [bitc_eq S hS, bd1_s, div2 (by omega)]
  exact nm_intro rfl e
theorem hf_sub {S : Nat} {A : List Nat} {w : Nat} (hsub : SubL S A) : SubL (hfL S A w 0) A := by
  intro t ht hb
  rcases hfL_bit _ _ _ _ hb with q | q
  · simp at q
  · exact q.1
theorem halvesC_go (h : Plc T L st o M ms rn rt now p v) : ∀ (m r n S : Nat), r + m = 8 → m < n → S < 256 → SubL S (L.take p) → b_X2_halves_5 st o ms rn rt (nI v) n (nI S) (nI r) = some (nI (hv (Fl L st o M p v) (L.take p) m S)) := by
  have hb8 : ∀ u ∈ L.take p, u < 8 := fun u hu => h.2.2.2.1.2.2.2 u (List.mem_of_mem_take hu)
  intro m
  induction m with
  | zero =>
    intro r n S hr hn hS hsub
    obtain ⟨n, rfl⟩ : ∃ z, n = z + 1 := ⟨n - 1, by omega⟩
    have : r = 8 := by omega
    subst this
    rw [b_X2_halves_5, if_pos (show (8 : Int32) ≤ nI 8 by decide)]
    rfl
  | succ m ih =>
    intro r n S hr hn hS hsub
    obtain ⟨n, rfl⟩ : ∃ z, n = z + 1 := ⟨n - 1, by omega⟩
    have hc := card_le S
    rw [b_X2_halves_5, if_neg (c8 (by omega)), bitc_eq S hS, bd1_s, hv_s]
    by_cases hc2 : card S < 2
    · rw [if_pos (show nI (card S) < (2 : Int32) from nI_lt (b := 2) hc2 (by omega)), if_pos hc2]
    · have hH : hfL S (L.take p) (card S / 2) 0 < 256 := hfL_lt _ _ _ hb8 (by omega)
      rw [if_neg (show ¬ nI (card S) < (2 : Int32) from nI_nlt (b := 2) (by omega) (by omega)), if_neg hc2, halfC_eq h hS hsub, bd1_s]
      simp only [nm, nI_1]
      rw [mns_nat S hS _ hH, clsF h hH (hf_sub hsub), bd1_s, clsF h (mns_lt hS) (mns_sub hH hsub), bd1_s]
      simp only [if_b0]
      cases hF : Fl L st o M p v (hfL S (L.take p) (card S / 2) 0)
      · simp only [Bool.false_eq_true, if_false]
        cases hF2 : Fl L st o M p v (mns S (hfL S (L.take p) (card S / 2) 0))
        · simp only [Bool.false_eq_true, if_false]
        · simp only [if_true]
          exact ih (r + 1) n _ (by omega) (by omega) (mns_lt hS) (mns_sub hH hsub)
      · simp only [if_true]
        exact ih (r + 1) n _ (by omega) (by omega) hH (hf_sub hsub)
theorem halvesC_eq (h : Plc T L st o M ms rn rt now p v) : f_X2_halves st o ms rn rt (nI (setF 0 (L.take p))) (nI v) = some (nI (hv (Fl L st o M p v) (L.take p) 8 (setF 0 (L.take p)))) := by
  have hb : ∀ u ∈ L.take p, u < 8 := fun u hu => h.2.2.2.1.2.2.2 u (List.mem_of_mem_take hu)
  exact halvesC_go h 8 0 FU (setF 0 (L.take p)) (by omega) (FU_big (by omega)) (set0_lt hb) (fun t _ ht => by rw [set0_bit] at ht; simpa using ht)
/-- what the reference does once it has the half -/
def hEnd (now : Ar) (pI : Int32) (k20 : Int32 → Int32 → Int32 → Ar → Option (Int32 × Int32 × Ar)) (S h tm : Int32) (tr : Ar) : Option (Int32 × Int32 × Ar) := nm (S &&& (h ^^^ (-1 : Int32))) (fun y13 => bd3 (f_X7_flipsIn tm now tr pI h) (fun r14 w15 w16 => (if (b2i r14) = (0 : Int32) then bd3 (f_X7_flipsIn w15 now w16 pI y13) (fun r19 w20 w21 => (if (b2i r19) = (0 : Int32) then b_X7_halvesOf_150 k20 S (0 : Int32) w20 w21 else b_X7_halvesOf_150 k20 y13 (1 : Int32) w20 w21)) else b_X7_halvesOf_150 k20 h (1 : Int32) w15 w16)))
theorem halfM_go (h : Plc T L st o M ms rn rt now p v) {k20 : Int32 → Int32 → Int32 → Ar → Option (Int32 × Int32 × Ar)} {S : Nat} (hS : S < 256) {tm : Int32} {tr : Ar} : ∀ (l : List Nat) (k n w acc : Nat), (L.take p).drop k = l → k ≤ p → l.length < n → acc < 256 → (∀ t ∈ l, acc.testBit t = false) → l.Nodup → w < 100 → b_X7_halvesOf_38 now (nI p) k20 n (nI S) 1 (nI acc) (nI (card acc + w)) (nI k) tm tr = hEnd now (nI p) k20 (nI S) (nI (hfL S l w acc)) tm tr := by
  have hl := h.lt
  obtain ⟨h1, h2, h3, h4, h5, h6, h7, h8, h9, h10, h11, h12⟩ := id h
  intro l
  induction l with
  | nil =>
    intro k n w acc hd hk hn ha hdis hnd hw
    obtain ⟨n, rfl⟩ : ∃ z, n = z + 1 := ⟨n - 1, by omega⟩
    have g1 := drop_n hd
    rw [List.length_take] at g1
    rw [b_X7_halvesOf_38, if_pos (nI_le (by omega) (by omega))]
    rfl
  | cons a l ih =>
    intro k n w acc hd hk hn ha hdis hnd hw
    obtain ⟨n, rfl⟩ : ∃ z, n = z + 1 := ⟨n - 1, by omega⟩
    obtain ⟨g1, g2, g3, g4⟩ := drop_c hd
    rw [List.length_take] at g3
    have g5 : L[k]? = some a := by rw [List.getElem?_take, if_pos (by omega)] at g1; exact g1
    have ha8 := h4.2.2.2 a (List.mem_of_getElem? g5)
    have hp := pow8 ha8
    have hnd2 := List.nodup_cons.mp hnd
    have hca := card_le acc
    rw [b_X7_halvesOf_38, if_neg (nI_ge (by omega) (by omega)), r4 (by omega), h10 k a g5, has_eq, bd1_s, hasB_nat S hS a ha8, ones_eq ha, bd1_s]
    unfold b_X7_halvesOf_75
    rw [if_pos (show (0 : Int32) = 0 from rfl), if_neg (show ¬ (1 : Int32) = 0 by decide), r4 (by omega), h10 k a g5]
    simp only [nm, nI_1, if_b0]
    rw [show nI acc ||| (0 : Int32) = nI acc from Int32.or_zero, show (1 : Int32) <<< (nI a &&& 31) = nI (2 ^ a) from bitB_nat a ha8, or_nat acc (2 ^ a) (by omega) (by omega), hfL_cons]
    have hstay := ih (k + 1) n w acc g2 (by omega) (by simpa using hn) ha (fun t ht => hdis t (by simp [ht])) hnd2.2 hw
    by_cases hw0 : w = 0
    · subst hw0
      rw [if_pos rfl, if_pos (nI_le (show card acc + 0 ≤ card acc by omega) (by omega))]
      rw [hfL_0] at hstay
      cases hb : S.testBit a
      · simp only [Bool.false_eq_true, if_false]; exact hstay
      · simp only [if_true]; exact hstay
    · rw [if_neg hw0, if_neg (nI_ge (show card acc < card acc + w by omega) (by omega))]
      cases hb : S.testBit a
      · simp only [Bool.false_eq_true, if_false]; exact hstay
      · simp only [if_true]
        obtain ⟨w, rfl⟩ : ∃ z, w = z + 1 := ⟨w - 1, by omega⟩
        have e := ih (k + 1) n w (acc ||| 2 ^ a) g2 (by omega) (by simpa using hn) (or_lt8 ha ha8) (fun t ht => by
          rw [Nat.testBit_or, Nat.testBit_two_pow, hdis t (by simp [ht])]
          have : a ≠ t := fun q => hnd2.1 (q ▸ ht)
          simp [this]) hnd2.2 (by omega)
        rw [card_add acc ha a ha8 (hdis a (by simp))] at e
        rw [show card acc + 1 + w = card acc + (w + 1) by omega] at e
        exact e
theorem b150 {k20 : Int32 → Int32 → Int32 → Ar → Option (Int32 × Int32 × Ar)} {S : Nat} (hS : S < 256) {tm : Int32} {tr : Ar} : b_X7_halvesOf_150 k20 (nI S) 1 tm tr = k20 (nI S) (b2i (decide (1 < card S))) tm tr := by
  unfold b_X7_halvesOf_150
  have hc := card_le S
  rw [if_neg (show ¬ (1 : Int32) = 0 by decide), ones_eq hS, bd1_s]
  by_cases h : 1 < card S
  · rw [if_neg (show ¬ nI (card S) ≤ (1 : Int32) from nI_ge (a := 1) h (by omega))]
    simp only [h, decide_true]
    rfl
  · rw [if_pos (show nI (card S) ≤ (1 : Int32) from nI_le (b := 1) (by omega) (by omega))]
    simp only [h, decide_false]
    rfl
theorem halvesM_go (h : Plc T L st o M ms rn rt now p v) : ∀ (m n S : Nat) (tm : Int32) (tr : Ar), card S ≤ m → m + 1 < n → S < 256 → SubL S (L.take p) → ∃ tm' tr', b_X7_halvesOf_20 now (nI p) n (nI S) (b2i (decide (1 < card S))) tm tr = some (nI (hv (Fl L st o M p v) (L.take p) m S), tm', tr') := by
  have hl := h.lt
  obtain ⟨h1, h2, h3, h4, h5, h6, h7, h8, h9, h10, h11, h12⟩ := id h
  have hb8 : ∀ u ∈ L.take p, u < 8 := fun u hu => h4.2.2.2 u (List.mem_of_mem_take hu)
  intro m
  induction m with
  | zero =>
    intro n S tm tr hc hn hS hsub
    obtain ⟨n, rfl⟩ : ∃ z, n = z + 1 := ⟨n - 1, by omega⟩
    refine ⟨tm, tr, ?_⟩
    rw [b_X7_halvesOf_20, if_pos (by rw [show decide (1 < card S) = false by simp; omega]; rfl)]
    rfl
  | succ m ih =>
    intro n S tm tr hc hn hS hsub
    obtain ⟨n, rfl⟩ : ∃ z, n = z + 1 := ⟨n - 1, by omega⟩
    have hc8 := card_le S
    rw [hv_s]
    by_cases hc2 : card S < 2
    · refine ⟨tm, tr, ?_⟩
      rw [b_X7_halvesOf_20, if_pos (by rw [show decide (1 < card S) = false by simp; omega]; rfl), if_pos hc2]
    · have hd1 : decide (1 < card S) = true := by simp; omega
      rw [if_neg hc2, b_X7_halvesOf_20, hd1, if_neg (show ¬ b2i true = (0 : Int32) by decide), ones_eq hS, bd1_s, div2 (by omega)]
      have hH : hfL S (L.take p) (card S / 2) 0 < 256 := hfL_lt _ _ _ hb8 (by omega)
      have hnt : (L.take p).Nodup := (List.take_sublist p L).nodup h2
      have e := halfM_go h (k20 := fun z0 z1 z2 z3 => b_X7_halvesOf_20 now (nI p) n z0 z1 z2 z3) hS (tm := tm) (tr := tr) (L.take p) 0 FU (card S / 2) 0 rfl (by omega) (FU_big (by rw [List.length_take]; omega)) (by omega) (fun t _ => by simp) hnt (by omega)
      rw [show card 0 + card S / 2 = card S / 2 by rw [show card 0 = 0 by decide]; omega] at e
      have e2 : nm (nI (card S / 2)) (fun y35 => b_X7_halvesOf_38 now (nI p) (fun z0 z1 z2 z3 => b_X7_halvesOf_20 now (nI p) n z0 z1 z2 z3) FU (nI S) (b2i true) (0 : Int32) y35 (0 : Int32) tm tr) = _ := e
      rw [e2]
      unfold hEnd
      rw [mns_nat S hS _ hH]
      simp only [nm]
      obtain ⟨tm1, tr1, f1⟩ := modF h hH tm tr
      obtain ⟨tm2, tr2, f2⟩ := modF h (mns_lt (b := hfL S (L.take p) (card S / 2) 0) hS) tm1 tr1
      rw [f1]
      simp only [bd3, if_b0]
      rw [f2]
      simp only [bd3, if_b0]
      rw [b150 hH, b150 (mns_lt hS)]
      have hcH := hfL_card (S := S) (L.take p) (card S / 2) 0 hb8 (by omega)
      rw [show card 0 = 0 by decide] at hcH
      cases hF : Fl L st o M p v (hfL S (L.take p) (card S / 2) 0)
      · simp only [Bool.false_eq_true, if_false]
        cases hF2 : Fl L st o M p v (mns S (hfL S (L.take p) (card S / 2) 0))
        · simp only [Bool.false_eq_true, if_false]
          unfold b_X7_halvesOf_150
          rw [if_pos (show (0 : Int32) = 0 from rfl)]
          obtain ⟨n, rfl⟩ : ∃ z, n = z + 1 := ⟨n - 1, by omega⟩
          refine ⟨tm2, tr2, ?_⟩
          show b_X7_halvesOf_20 now (nI p) (n + 1) (nI S) (0 : Int32) tm2 tr2 = _
          rw [b_X7_halvesOf_20, if_pos (show (0 : Int32) = 0 from rfl)]
        · simp only [if_true]
          obtain ⟨t, ht, hbt⟩ := card_pos (S := S) (by omega)
          obtain ⟨u, hu, hu1, hu2⟩ := hfL_some (S := S) (L.take p) (card S / 2) 0 (by omega) ⟨t, hsub t ht hbt, hbt⟩
          have hlt := card_mns hS hH (hb8 u hu) hu1 hu2
          exact ih n _ tm2 tr2 (by omega) (by omega) (mns_lt hS) (mns_sub hH hsub)
      · simp only [if_true]
        exact ih n _ tm1 tr1 (by omega) (by omega) hH (hf_sub hsub)
theorem halvesM_eq (h : Plc T L st o M ms rn rt now p v) (tm : Int32) (tr : Ar) : ∃ tm' tr', f_X7_halvesOf tm now tr (nI p) = some (nI (hv (Fl L st o M p v) (L.take p) 8 (setF 0 (L.take p))), tm', tr') := by
  have hl := h.lt
  have hb : ∀ u ∈ L.take p, u < 8 := fun u hu => h.2.2.2.1.2.2.2 u (List.mem_of_mem_take hu)
  have hall := set0_lt hb
  have hcd := card_le (setF 0 (L.take p))
  have ha := aheadM_eq h.2.2.2.1.1 h.2.2.2.1.2.2.2 h.2.2.2.2.2.2.2.2.2.1 (show p ≤ L.length by omega)
  obtain ⟨n, hn⟩ : ∃ n, n = FU := ⟨_, rfl⟩
  obtain ⟨tm', tr', e⟩ := halvesM_go h 8 n (setF 0 (L.take p)) tm tr (by omega) (by rw [hn]; exact FU_big (by omega)) hall (fun t _ ht => by rw [set0_bit] at ht; simpa using ht)
  refine ⟨tm', tr', ?_⟩
  unfold f_X7_halvesOf
  rw [ha, bd1_s, ones_eq hall, bd1_s, ← hn]
  by_cases hc : 1 < card (setF 0 (L.take p))
  · rw [if_neg (show ¬ nI (card (setF 0 (L.take p))) ≤ (1 : Int32) from nI_ge (a := 1) hc (by omega))]
    simp only [hc, decide_true] at e
    exact e
  · rw [if_pos (show nI (card (setF 0 (L.take p))) ≤ (1 : Int32) from nI_le (b := 1) (by omega) (by omega))]
    simp only [hc, decide_false] at e
    exact e
end HV
