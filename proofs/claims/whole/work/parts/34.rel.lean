/-! the relation between the class's state and the reference's -/
abbrev Sv : Type := Nat × List Nat × Int32 × Int32 × Ar
def okS (σ : Sv) : Prop := σ.1 ≤ 8 ∧ σ.2.1.Nodup ∧ (∀ t ∈ σ.2.1, t < σ.1) ∧ (∃ j, j ≤ 63 ∧ σ.2.2.1 = nI j) ∧ (σ.2.2.2.1 = 0 ∨ σ.2.2.2.1 = 1)
def CS (σ : Sv) (sz st mo : Int32) (ms : Ar) (rn : Int32) (rt : Ar) : Prop := sz = nI σ.1 ∧ st = σ.2.2.1 ∧ mo = σ.2.2.2.1 ∧ CM σ.1 σ.2.2.2.2 ms ∧ RW σ.2.1 rn rt
def MS (σ : Sv) (now : Ar) : Prop := now 0 = nI σ.1 ∧ now 1 = σ.2.2.1 ∧ now 2 = σ.2.2.2.1 ∧ now 3 = nI σ.2.1.length ∧ (∀ k t, σ.2.1[k]? = some t → now (4 + k) = nI t) ∧ MM σ.1 σ.2.2.2.2 now
def Ring (P : List Sv) (sz mk : Int32) (pM pT : Nat → Ar) (pN pS pB pO : Nat → Int32) : Prop := P.length ≤ 5 ∧ sz = nI P.length ∧ ∃ k, k < 6 ∧ mk = nI k ∧ ∀ i σ, P[i]? = some σ → CS σ (pS ((k + 5 - i) % 6)) (pB ((k + 5 - i) % 6)) (pO ((k + 5 - i) % 6)) (pM ((k + 5 - i) % 6)) (pN ((k + 5 - i) % 6)) (pT ((k + 5 - i) % 6))
def Stk (P : List Sv) (sn : Int32) (past : Ar) : Prop := sn = nI P.length ∧ ∀ i σ, P[i]? = some σ → MS σ (fun j => past (52 * (P.length - 1 - i) + j))
def Cnt (b n f : Int32) (rf : Ar) : Prop := b = rf 0 ∧ n = rf 1 ∧ f = rf 2
def Txt (k : Nat) (len : Int32) (tb : Ar) (bytes : Int32) (tx : Ar) : Prop := k ≤ 150 ∧ len = nI k ∧ bytes = nI k ∧ ∀ i, i < k → tb i = tx i
/-- numbers -/
theorem pigeon : ∀ (T : Nat) (l : List Nat), l.Nodup → (∀ x ∈ l, x < T) → l.length ≤ T := by
  intro T
  induction T with
  | zero =>
    intro l _ h
    cases l with
    | nil => simp
    | cons a l => exact absurd (h a (by simp)) (by omega)
  | succ T ih =>
    intro l hn h
    by_cases hT : T ∈ l
    · have h1 := ih (l.erase T) (hn.erase T) (fun x hx => by
        have h2 := (hn.mem_erase_iff).mp hx
        have h3 := h x h2.2
        have h4 := h2.1
        omega)
      rw [List.length_erase_of_mem hT] at h1
      omega
    · have h1 := ih l hn (fun x hx => by
        have h3 := h x hx
        have h4 : x ≠ T := fun q => hT (q ▸ hx)
        omega)
      omega
theorem okS_len {σ : Sv} (h : okS σ) : σ.2.1.length ≤ 8 := Nat.le_trans (pigeon σ.1 _ h.2.1 h.2.2.1) h.1
theorem in_eq (x a b : Int32) : f_X7_in x a b = some (!decide (x < a) && !decide (b < x)) := by
  unfold f_X7_in
  by_cases h1 : x < a
  · rw [if_pos h1]; simp [h1]
  · rw [if_neg h1]
    by_cases h2 : b < x
    · rw [if_pos h2]; simp [h1, h2]
    · rw [if_neg h2]; simp [h1, h2]
theorem le_lt (x y : Int32) : (x ≤ y) = ¬ (y < x) := propext Int32.not_lt.symm
theorem areCells_eq (x : Int32) : f_X6_areCells x = f_X7_in x 0 63 := rfl
theorem isSeed_eq (x : Int32) : f_X6_isSeed x = f_X7_in x 0 999999 := rfl
/-- in a range from 0: a number -/
theorem in_num {x m : Int32} {M : Nat} (hm : m = nI M) (hM : M < 2 ^ 31 - 1) : (∃ j, j ≤ M ∧ x = nI j ∧ f_X7_in x 0 m = some true) ∨ f_X7_in x 0 m = some false := by
  subst hm
  rw [in_eq]
  rcases pick x (M + 1) (by omega) with ⟨j, hj, rfl⟩ | h | ⟨h1, h2⟩
  · refine Or.inl ⟨j, by omega, rfl, ?_⟩
    have e1 : ¬ nI j < 0 := nI_pos (by omega)
    have e2 : ¬ nI M < nI j := nI_nlt (by omega) (by omega)
    simp [e1, e2]
  · exact Or.inr (by simp [h])
  · refine Or.inr ?_
    have e : nI M < x := by
      have h3 : nI M < nI (M + 1) := nI_lt (by omega) (by omega)
      exact Int32.lt_of_lt_of_le h3 h2
    simp [e]
theorem tests_eq {T : Nat} {now : Ar} (hT : T ≤ 8) (h0 : now 0 = nI T) (x : Int32) : (∃ t, t < T ∧ x = nI t ∧ f_X4_hasTest (nI T) x = some true ∧ f_X7_isTest now x = some true) ∨ (f_X4_hasTest (nI T) x = some false ∧ f_X7_isTest now x = some false) := by
  unfold f_X4_hasTest f_X7_isTest
  rw [r0, h0, in_eq]
  simp only [bd1]
  have hs : (nI T - nI 1).toInt = (T : Int) - (1 : Nat) := pk_sub_toInt (by omega) (by omega)
  rcases pick x T (by omega) with ⟨t, ht, rfl⟩ | h | ⟨h1, h2⟩
  · refine Or.inl ⟨t, ht, rfl, ?_, ?_⟩
    · rw [if_neg (nI_pos (by omega)), if_neg (nI_ge ht (by omega))]
    · have e1 : ¬ nI t < 0 := nI_pos (by omega)
      have e2 : ¬ (nI T - 1 : Int32) < nI t := by
        rw [Int32.lt_iff_toInt_lt, nI_toInt (by omega)]
        rw [show (nI T - 1 : Int32) = nI T - nI 1 from rfl, hs]
        omega
      simp [e1, e2]
  · refine Or.inr ⟨by rw [if_pos h], by simp [h]⟩
  · refine Or.inr ⟨by rw [if_neg h1, if_pos h2], ?_⟩
    have e2 : (nI T - 1 : Int32) < x := by
      rw [Int32.lt_iff_toInt_lt]
      rw [show (nI T - 1 : Int32) = nI T - nI 1 from rfl, hs]
      have h3 := Int32.le_iff_toInt_le.mp h2
      rw [nI_toInt (by omega)] at h3
      omega
    simp [e2]
theorem ref_sim {b n f x : Int32} {rf : Ar} (h : Cnt b n f rf) (hx : x = -2 ∨ x = -3 ∨ x = -4) : ∃ b' n' f' rf', f_X6_refused b n f x = some (x, b', n', f') ∧ f_X7_refuses rf x = some (x, rf') ∧ Cnt b' n' f' rf' := by
  obtain ⟨rfl, rfl, rfl⟩ := h
  rcases hx with rfl | rfl | rfl
  · refine ⟨_, _, _, upd rf 0 (rf 0 + 1), rfl, ?_, ?_⟩
    · unfold f_X7_refuses
      rw [rd_at (i := (-2 : Int32) - (-2)) 0 (by decide) (by omega) (by omega), wr_at (i := (-2 : Int32) - (-2)) 0 (by decide) (by omega) (by omega)]
    · exact ⟨upd_s.symm, (upd_n (by omega)).symm, (upd_n (by omega)).symm⟩
  · refine ⟨_, _, _, upd rf 1 (rf 1 + 1), rfl, ?_, ?_⟩
    · unfold f_X7_refuses
      rw [rd_at (i := (-2 : Int32) - (-3)) 1 (by decide) (by omega) (by omega), wr_at (i := (-2 : Int32) - (-3)) 1 (by decide) (by omega) (by omega)]
    · exact ⟨(upd_n (by omega)).symm, upd_s.symm, (upd_n (by omega)).symm⟩
  · refine ⟨_, _, _, upd rf 2 (rf 2 + 1), rfl, ?_, ?_⟩
    · unfold f_X7_refuses
      rw [rd_at (i := (-2 : Int32) - (-4)) 2 (by decide) (by omega) (by omega), wr_at (i := (-2 : Int32) - (-4)) 2 (by decide) (by omega) (by omega)]
    · exact ⟨(upd_n (by omega)).symm, (upd_n (by omega)).symm, upd_s.symm⟩
