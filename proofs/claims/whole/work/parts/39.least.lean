/-! LEAST: one by one, till none goes -/
def pass (F : Nat → Bool) : List Nat → Nat → Bool → Nat × Bool
  | [], S, w => (S, w)
  | t :: l, S, w => if S.testBit t && F (mns S (2 ^ t)) then pass F l (mns S (2 ^ t)) true else pass F l S w
def lst (F : Nat → Bool) (A : List Nat) : Nat → Nat → Nat
  | 0, S => S
  | n + 1, S => if (pass F A S false).2 then lst F A n (pass F A S false).1 else (pass F A S false).1
theorem pass_lt {F : Nat → Bool} : ∀ (l : List Nat) (S : Nat) (w : Bool), S < 256 → (pass F l S w).1 < 256 := by
  intro l
  induction l with
  | nil => intro S w h; exact h
  | cons t l ih =>
    intro S w h
    unfold pass
    split
    · exact ih _ _ (mns_lt h)
    · exact ih _ _ h
theorem pow8 {t : Nat} (ht : t < 8) : 2 ^ t < 256 := by
  have h : 2 ^ t < 2 ^ 8 := Nat.pow_lt_pow_right (by omega) ht
  omega
theorem pass_cons {F : Nat → Bool} (t : Nat) (l : List Nat) (S : Nat) (w : Bool) : pass F (t :: l) S w = if S.testBit t && F (mns S (2 ^ t)) then pass F l (mns S (2 ^ t)) true else pass F l S w := rfl
theorem pass_sub {F : Nat → Bool} {R : List Nat} : ∀ (l : List Nat) (S : Nat) (w : Bool), (∀ t ∈ l, t < 8) → SubL S R → SubL (pass F l S w).1 R := by
  intro l
  induction l with
  | nil => intro S w _ h; exact h
  | cons t l ih =>
    intro S w hl h
    unfold pass
    split
    · exact ih _ _ (fun u hu => hl u (by simp [hu])) (mns_sub (pow8 (hl t (by simp))) h)
    · exact ih _ _ (fun u hu => hl u (by simp [hu])) h
theorem pass_app {F : Nat → Bool} : ∀ (A B : List Nat) (S : Nat) (w : Bool), pass F (A ++ B) S w = pass F B (pass F A S w).1 (pass F A S w).2 := by
  intro A
  induction A with
  | nil => intro B S w; rfl
  | cons t A ih =>
    intro B S w
    rw [List.cons_append, pass_cons, pass_cons]
    split
    · exact ih _ _ _
    · exact ih _ _ _
theorem pass_none {F : Nat → Bool} : ∀ (B : List Nat) (S : Nat) (w : Bool), (∀ t ∈ B, S.testBit t = false) → pass F B S w = (S, w) := by
  intro B
  induction B with
  | nil => intro S w _; rfl
  | cons t B ih =>
    intro S w h
    unfold pass
    rw [h t (by simp)]
    simp only [Bool.false_and, Bool.false_eq_true, if_false]
    exact ih S w (fun u hu => h u (by simp [hu]))
theorem pass_row {F : Nat → Bool} {L : List Nat} {p S : Nat} {w : Bool} (hn : L.Nodup) (hb : ∀ t ∈ L, t < 8) (h : SubL S (L.take p)) : pass F L S w = pass F (L.take p) S w := by
  have h1 : pass F L S w = pass F (L.take p ++ L.drop p) S w := by rw [List.take_append_drop]
  rw [h1, pass_app, pass_none]
  intro t ht
  have h2 := pass_sub (F := F) (R := L.take p) (L.take p) S w (fun u hu => hb u (List.mem_of_mem_take hu)) h
  cases hbit : (pass F (L.take p) S w).1.testBit t with
  | false => rfl
  | true => exact (take_drop_disj hn (h2 t (hb t (List.mem_of_mem_drop ht)) hbit) ht).elim
theorem pass_card {F : Nat → Bool} : ∀ (l : List Nat) (S : Nat) (w : Bool), S < 256 → (∀ t ∈ l, t < 8) → card (pass F l S w).1 ≤ card S ∧ ((pass F l S w).2 = true → w = true ∨ card (pass F l S w).1 < card S) := by
  intro l
  induction l with
  | nil => intro S w _ _; exact ⟨Nat.le_refl _, fun h => Or.inl h⟩
  | cons t l ih =>
    intro S w hS hl
    have ht := hl t (by simp)
    have hl2 : ∀ u ∈ l, u < 8 := fun u hu => hl u (by simp [hu])
    unfold pass
    split
    · rename_i hc
      have hbit : S.testBit t = true := by
        cases hb : S.testBit t
        · rw [hb] at hc; simp at hc
        · rfl
      have h1 := card_clr S hS t ht hbit
      have h2 := (ih (mns S (2 ^ t)) true (mns_lt hS) hl2).1
      exact ⟨by omega, fun _ => Or.inr (by omega)⟩
    · exact ih S w hS hl2
theorem clr_ne {S t : Nat} (hS : S < 256) (ht : t < 8) : (nI (mns S (2 ^ t)) = nI S) ↔ S.testBit t = false := by
  have h1 : mns S (2 ^ t) < 256 := mns_lt hS
  rw [nI_eq (by omega) (by omega)]
  constructor
  · intro h
    have h2 := clr_bit (S := S) ht ht
    rw [h] at h2
    simpa using h2
  · intro h
    apply set_ext h1 hS
    intro u hu
    rw [clr_bit ht hu]
    by_cases e : t = u
    · subst e
      simp [h]
    · simp [e]
theorem mnsB {S t : Nat} (hS : S < 256) (ht : t < 8) : nI S &&& (((1 : Int32) <<< (nI t &&& (31 : Int32))) ^^^ (-1 : Int32)) = nI (mns S (2 ^ t)) := by
  rw [show (1 : Int32) <<< (nI t &&& 31) = nI (2 ^ t) from bitB_nat t ht]
  exact mns_nat S hS (2 ^ t) (pow8 ht)
section LS
variable {T : Nat} {L : List Nat} {st o : Int32} {M ms : Ar} {rn : Int32} {rt now : Ar} {p v : Nat}
theorem leastC_in (h : Plc T L st o M ms rn rt now p v) {k8 : Int32 → Int32 → Int32 → Option Int32} : ∀ (l : List Nat) (k n S : Nat) (w : Bool) (r : Int32), L.drop k = l → k ≤ L.length → l.length < n → S < 256 → SubL S (L.take p) → b_X2_least_26 st o ms rn rt (nI v) k8 n (nI S) (b2i w) r (nI k) = k8 (nI (pass (Fl L st o M p v) l S w).1) (b2i (pass (Fl L st o M p v) l S w).2) (r + 1) := by
  have hl := h.lt
  obtain ⟨h1, h2, h3, h4, h5, h6, h7, h8, h9, h10, h11, h12⟩ := id h
  intro l
  induction l with
  | nil =>
    intro k n S w r hd hk hn hS hsub
    obtain ⟨n, rfl⟩ : ∃ z, n = z + 1 := ⟨n - 1, by omega⟩
    rw [b_X2_least_26, h4.2.1, if_pos (nI_le (drop_n hd) (by omega))]
    rfl
  | cons a l ih =>
    intro k n S w r hd hk hn hS hsub
    obtain ⟨n, rfl⟩ : ∃ z, n = z + 1 := ⟨n - 1, by omega⟩
    obtain ⟨g1, g2, g3, g4⟩ := drop_c hd
    have ha := h4.2.2.2 a g4
    rw [b_X2_least_26, nth_in h4 g1, h4.2.1, if_neg (nI_ge g3 (by omega)), ← h4.2.1]
    simp only [bd1, nm, nI_1]
    rw [mnsB hS ha, isIn_eq, hasB_nat S hS a ha]
    simp only [bd1, if_b0]
    rw [clsF h (mns_lt hS) (mns_sub (pow8 ha) hsub)]
    simp only [bd1, if_b0, pass]
    cases hb : S.testBit a
    · simp only [Bool.false_eq_true, if_false, Bool.false_and]
      exact ih (k + 1) n S w r g2 (by omega) (by simpa using hn) hS hsub
    · cases hF : Fl L st o M p v (mns S (2 ^ a))
      · simp only [if_true, Bool.false_eq_true, if_false, Bool.and_false]
        exact ih (k + 1) n S w r g2 (by omega) (by simpa using hn) hS hsub
      · simp only [if_true, Bool.and_self]
        exact ih (k + 1) n (mns S (2 ^ a)) true r g2 (by omega) (by simpa using hn) (mns_lt hS) (mns_sub (pow8 ha) hsub)
theorem leastC_out (h : Plc T L st o M ms rn rt now p v) : ∀ (m r n S : Nat), r + m = 9 → m < n → S < 256 → SubL S (L.take p) → b_X2_least_8 st o ms rn rt (nI v) n (nI S) (b2i true) (nI r) = some (nI (lst (Fl L st o M p v) (L.take p) m S)) := by
  have hl := h.lt
  obtain ⟨h1, h2, h3, h4, h5, h6, h7, h8, h9, h10, h11, h12⟩ := id h
  intro m
  induction m with
  | zero =>
    intro r n S hr hn hS hsub
    obtain ⟨n, rfl⟩ : ∃ z, n = z + 1 := ⟨n - 1, by omega⟩
    have : r = 9 := by omega
    subst this
    rw [b_X2_least_8, if_pos (show (8 : Int32) < nI 9 by decide)]
    rfl
  | succ m ih =>
    intro r n S hr hn hS hsub
    obtain ⟨n, rfl⟩ : ∃ z, n = z + 1 := ⟨n - 1, by omega⟩
    rw [b_X2_least_8, if_neg (show ¬ (8 : Int32) < nI r from nI_nlt (b := r) (a := 8) (by omega) (by omega)), if_neg (show ¬ b2i true = (0 : Int32) by decide)]
    have hb : ∀ u ∈ L.take p, u < 8 := fun u hu => h4.2.2.2 u (List.mem_of_mem_take hu)
    have e := leastC_in h (k8 := fun z0 z1 z2 => b_X2_least_8 st o ms rn rt (nI v) n z0 z1 z2) L 0 FU S false (nI r) rfl (by omega) (FU_big (by omega)) hS hsub
    rw [pass_row h2 h4.2.2.2 hsub] at e
    have e2 : b_X2_least_26 st o ms rn rt (nI v) (fun z0 z1 z2 => b_X2_least_8 st o ms rn rt (nI v) n z0 z1 z2) FU (nI S) (0 : Int32) (nI r) (0 : Int32) = _ := e
    rw [e2, nI_1]
    have hS2 := pass_lt (F := Fl L st o M p v) (L.take p) S false hS
    have hsub2 := pass_sub (F := Fl L st o M p v) (L.take p) S false hb hsub
    unfold lst
    cases hq : (pass (Fl L st o M p v) (L.take p) S false).2
    · obtain ⟨n, rfl⟩ : ∃ z, n = z + 1 := ⟨n - 1, by omega⟩
      rw [b_X2_least_8, if_pos (show b2i false = (0 : Int32) by decide)]
      simp
    · simp only [if_true]
      exact ih (r + 1) n _ (by omega) (by omega) hS2 hsub2
theorem leastC_eq (h : Plc T L st o M ms rn rt now p v) : f_X2_least st o ms rn rt (nI (setF 0 (L.take p))) (nI v) = some (nI (lst (Fl L st o M p v) (L.take p) 9 (setF 0 (L.take p)))) := by
  have hb : ∀ u ∈ L.take p, u < 8 := fun u hu => h.2.2.2.1.2.2.2 u (List.mem_of_mem_take hu)
  have e := leastC_out h 9 0 FU (setF 0 (L.take p)) (by omega) (FU_big (by omega)) (set0_lt hb) (fun t _ ht => by rw [set0_bit] at ht; simpa using ht)
  exact e
theorem leastM_in (h : Plc T L st o M ms rn rt now p v) {k8 : Int32 → Int32 → Int32 → Ar → Option (Int32 × Int32 × Ar)} : ∀ (l : List Nat) (k n S : Nat) (w : Bool) (tm : Int32) (tr : Ar), (L.take p).drop k = l → k ≤ p → l.length < n → S < 256 → ∃ tm' tr', b_X7_leastOf_17 now (nI p) k8 n (nI S) (b2i w) (nI k) tm tr = k8 (nI (pass (Fl L st o M p v) l S w).1) (b2i (pass (Fl L st o M p v) l S w).2) tm' tr' := by
  have hl := h.lt
  obtain ⟨h1, h2, h3, h4, h5, h6, h7, h8, h9, h10, h11, h12⟩ := id h
  intro l
  induction l with
  | nil =>
    intro k n S w tm tr hd hk hn hS
    obtain ⟨n, rfl⟩ : ∃ z, n = z + 1 := ⟨n - 1, by omega⟩
    have g1 := drop_n hd
    rw [List.length_take] at g1
    refine ⟨tm, tr, ?_⟩
    rw [b_X7_leastOf_17, if_pos (nI_le (by omega) (by omega))]
    rfl
  | cons a l ih =>
    intro k n S w tm tr hd hk hn hS
    obtain ⟨n, rfl⟩ : ∃ z, n = z + 1 := ⟨n - 1, by omega⟩
    obtain ⟨g1, g2, g3, g4⟩ := drop_c hd
    rw [List.length_take] at g3
    have g5 : L[k]? = some a := by rw [List.getElem?_take, if_pos (by omega)] at g1; exact g1
    have ha := h4.2.2.2 a (List.mem_of_getElem? g5)
    rw [b_X7_leastOf_17, if_neg (nI_ge (by omega) (by omega)), r4 (by omega), h10 k a g5]
    simp only [nm, nI_1]
    rw [mnsB hS ha]
    simp only [pass]
    cases hb : S.testBit a
    · rw [if_pos ((clr_ne hS ha).mpr hb)]
      simp only [Bool.false_eq_true, if_false, Bool.false_and]
      exact ih (k + 1) n S w tm tr g2 (by omega) (by simpa using hn) hS
    · rw [if_neg (fun q => by rw [(clr_ne hS ha).mp q] at hb; cases hb)]
      obtain ⟨tm1, tr1, e1⟩ := modF h (mns_lt (b := 2 ^ a) hS) tm tr
      rw [e1]
      simp only [bd3, if_b0]
      cases hF : Fl L st o M p v (mns S (2 ^ a))
      · simp only [Bool.false_eq_true, if_false, Bool.and_false]
        exact ih (k + 1) n S w tm1 tr1 g2 (by omega) (by simpa using hn) hS
      · simp only [if_true, Bool.and_self]
        exact ih (k + 1) n (mns S (2 ^ a)) true tm1 tr1 g2 (by omega) (by simpa using hn) (mns_lt hS)
theorem leastM_out (h : Plc T L st o M ms rn rt now p v) : ∀ (m n S : Nat) (tm : Int32) (tr : Ar), card S < m → m + 1 < n → S < 256 → ∃ tm' tr', b_X7_leastOf_8 now (nI p) n (nI S) (b2i true) tm tr = some (nI (lst (Fl L st o M p v) (L.take p) m S), tm', tr') := by
  have hl := h.lt
  obtain ⟨h1, h2, h3, h4, h5, h6, h7, h8, h9, h10, h11, h12⟩ := id h
  have hb : ∀ u ∈ L.take p, u < 8 := fun u hu => h4.2.2.2 u (List.mem_of_mem_take hu)
  intro m
  induction m with
  | zero => intro n S tm tr hc; omega
  | succ m ih =>
    intro n S tm tr hc hn hS
    obtain ⟨n, rfl⟩ : ∃ z, n = z + 1 := ⟨n - 1, by omega⟩
    obtain ⟨tm1, tr1, e⟩ := leastM_in h (k8 := fun z0 z1 z2 z3 => b_X7_leastOf_8 now (nI p) n z0 z1 z2 z3) (L.take p) 0 FU S false tm tr rfl (by omega) (FU_big (by rw [List.length_take]; omega)) hS
    have e2 : b_X7_leastOf_17 now (nI p) (fun z0 z1 z2 z3 => b_X7_leastOf_8 now (nI p) n z0 z1 z2 z3) FU (nI S) (0 : Int32) (0 : Int32) tm tr = _ := e
    rw [b_X7_leastOf_8, if_neg (show ¬ b2i true = (0 : Int32) by decide), e2]
    have hS2 := pass_lt (F := Fl L st o M p v) (L.take p) S false hS
    have hc2 := (pass_card (F := Fl L st o M p v) (L.take p) S false hS hb).2
    unfold lst
    cases hq : (pass (Fl L st o M p v) (L.take p) S false).2
    · obtain ⟨n, rfl⟩ : ∃ z, n = z + 1 := ⟨n - 1, by omega⟩
      refine ⟨tm1, tr1, ?_⟩
      rw [b_X7_leastOf_8, if_pos (show b2i false = (0 : Int32) by decide)]
      simp
    · have hc3 := hc2 hq
      simp at hc3
      simp only [if_true]
      exact ih n _ tm1 tr1 (by omega) (by omega) hS2
theorem leastM_eq (h : Plc T L st o M ms rn rt now p v) (tm : Int32) (tr : Ar) : ∃ tm' tr', f_X7_leastOf tm now tr (nI p) = some (nI (lst (Fl L st o M p v) (L.take p) 9 (setF 0 (L.take p))), tm', tr') := by
  have hl := h.lt
  have hb : ∀ u ∈ L.take p, u < 8 := fun u hu => h.2.2.2.1.2.2.2 u (List.mem_of_mem_take hu)
  have hcd := card_le (setF 0 (L.take p))
  obtain ⟨tm', tr', e⟩ := leastM_out h 9 FU (setF 0 (L.take p)) tm tr (by omega) (FU_big (by omega)) (set0_lt hb)
  refine ⟨tm', tr', ?_⟩
  unfold f_X7_leastOf
  rw [aheadM_eq h.2.2.2.1.1 h.2.2.2.1.2.2.2 h.2.2.2.2.2.2.2.2.2.1 (by omega)]
  exact e
end LS
theorem lst_lt {F : Nat → Bool} {A : List Nat} : ∀ (n S : Nat), S < 256 → lst F A n S < 256 := by
  intro n
  induction n with
  | zero => intro S h; exact h
  | succ n ih =>
    intro S h
    unfold lst
    split
    · exact ih _ (pass_lt _ _ _ h)
    · exact pass_lt _ _ _ h
