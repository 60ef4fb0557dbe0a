/-! rows shuffled by a seed: the class's and the reference's are one -/
def lcg (x : Nat) : Nat := (x * 1103515245 + 12345) % 2147483648
def jx (x i : Nat) : Nat := x / 65536 % (i + 1)
def swp (g : Nat → Nat) (i j : Nat) : Nat → Nat := fun k => if k = j then g i else if k = i then g j else g k
def shf : Nat → Nat → (Nat → Nat) → Nat → Nat
  | 0, _, g => g
  | i + 1, x, g => shf i (lcg x) (swp g (i + 1) (jx (lcg x) (i + 1)))
def shL (T s : Nat) : List Nat := (List.range T).map (shf (T - 1) s (fun k => k))
theorem lcg_lt (x : Nat) : lcg x < 2 ^ 31 := Nat.mod_lt _ (by omega)
theorem jx_le (x i : Nat) : jx x i ≤ i := Nat.le_of_lt_succ (Nat.mod_lt _ (by omega))
def PI (T : Nat) (g : Nat → Nat) : Prop := (∀ k, k < T → g k < T) ∧ ∀ i j, i < T → j < T → g i = g j → i = j
theorem swp_PI {T i j : Nat} {g : Nat → Nat} (h : PI T g) (hi : i < T) (hj : j < T) : PI T (swp g i j) := by
  refine ⟨fun k hk => ?_, fun a b ha hb hab => ?_⟩
  · unfold swp
    split
    · exact h.1 i hi
    · split
      · exact h.1 j hj
      · exact h.1 k hk
  · unfold swp at hab
    have inj := h.2
    by_cases a1 : a = j <;> by_cases b1 : b = j
    · omega
    · rw [if_pos a1, if_neg b1] at hab
      by_cases b2 : b = i
      · rw [if_pos b2] at hab
        have := inj i j hi hj hab
        omega
      · rw [if_neg b2] at hab
        have := inj i b hi hb hab
        omega
    · rw [if_neg a1, if_pos b1] at hab
      by_cases a2 : a = i
      · rw [if_pos a2] at hab
        have := inj j i hj hi hab
        omega
      · rw [if_neg a2] at hab
        have := inj a i ha hi hab
        omega
    · rw [if_neg a1, if_neg b1] at hab
      by_cases a2 : a = i <;> by_cases b2 : b = i
      · omega
      · rw [if_pos a2, if_neg b2] at hab
        have := inj j b hj hb hab
        omega
      · rw [if_neg a2, if_pos b2] at hab
        have := inj a j ha hj hab
        omega
      · rw [if_neg a2, if_neg b2] at hab
        exact inj a b ha hb hab
theorem shf_PI {T : Nat} : ∀ (i x : Nat) (g : Nat → Nat), i < T → PI T g → PI T (shf i x g) := by
  intro i
  induction i with
  | zero => intro x g _ h; exact h
  | succ i ih =>
    intro x g hi h
    have := jx_le (lcg x) (i + 1)
    exact ih _ _ (by omega) (swp_PI h hi (by omega))
theorem shL_len (T s : Nat) : (shL T s).length = T := by simp [shL]
theorem shL_at {T s k : Nat} (hk : k < T) : (shL T s)[k]? = some (shf (T - 1) s (fun k => k) k) := by
  unfold shL
  rw [List.getElem?_map, List.getElem?_range hk]
  rfl
theorem shL_PI {T s : Nat} (hT : 0 < T) : PI T (shf (T - 1) s (fun k => k)) := shf_PI _ _ _ (by omega) ⟨fun _ h => h, fun _ _ _ _ h => h⟩
theorem shL_lt {T s t : Nat} (h : t ∈ shL T s) : t < T := by
  unfold shL at h
  obtain ⟨k, hk, rfl⟩ := List.mem_map.mp h
  have hk := List.mem_range.mp hk
  exact (shL_PI (by omega)).1 k hk
theorem shL_nodup (T s : Nat) : (shL T s).Nodup := by
  unfold shL
  rw [List.nodup_iff_pairwise_ne, List.pairwise_map]
  refine List.Pairwise.imp_of_mem ?_ (List.nodup_iff_pairwise_ne.mp List.nodup_range)
  intro a b ha hb hab q
  have ha := List.mem_range.mp ha
  have hb := List.mem_range.mp hb
  exact hab ((shL_PI (by omega)).2 a b ha hb q)
theorem dvl_ok {α : Type} {y : Int64} {k : Option α} (h : ¬ y = 0) : dvl y k = k := by
  unfold dvl
  rw [if_neg h]
theorem lcg_eq {x : Nat} (hx : x < 2 ^ 31) : ((lN x * (1103515245 : Int64)) + (12345 : Int64)) - ((lN x * (1103515245 : Int64)) + (12345 : Int64)) / (2147483648 : Int64) * (2147483648 : Int64) = lN (lcg x) := by
  have e : (lN x * (1103515245 : Int64)) + (12345 : Int64) = lN (x * 1103515245 + 12345) := by
    rw [show (1103515245 : Int64) = lN 1103515245 from rfl, show (12345 : Int64) = lN 12345 from rfl, lN_mul, lN_add]
  rw [e, show (2147483648 : Int64) = lN 2147483648 from rfl]
  exact pk_lRem (by omega) (by omega) (by omega)
theorem i1_l {i : Nat} (hi : i < 8) : (nI i + (1 : Int32)).toInt64 = lN (i + 1) := by rw [nI_1, nI_l (by omega)]
theorem jx_eq {x i : Nat} (hx : x < 2 ^ 31) (hi : i < 8) : ((lN x / (65536 : Int64)) - (lN x / (65536 : Int64)) / ((nI i + (1 : Int32)).toInt64) * ((nI i + (1 : Int32)).toInt64)).toInt32 = nI (jx x i) := by
  rw [i1_l hi, show (65536 : Int64) = lN 65536 from rfl, pk_lDiv (by omega) (by omega) (by omega), pk_lRem (by omega) (by omega) (by omega), lN_i]
  rfl
theorem i1_n0 {i : Nat} (hi : i < 8) : ¬ (nI i + (1 : Int32)).toInt64 = 0 := by
  rw [i1_l hi]
  intro h
  have := (lN_eq (a := i + 1) (b := 0) (by omega) (by omega)).mp h
  omega
theorem swp_upd {g : Nat → Nat} {f : Ar} {i j T : Nat} (h : ∀ k, k < T → f k = nI (g k)) (hi : i < T) (hj : j < T) : ∀ k, k < T → upd (upd f i (f j)) j (f i) k = nI (swp g i j k) := by
  intro k hk
  unfold swp
  by_cases h1 : k = j
  · subst h1
    rw [upd_s, if_pos rfl, h i hi]
  · rw [upd_n h1, if_neg h1]
    by_cases h2 : k = i
    · subst h2
      rw [upd_s, if_pos rfl, h j hj]
    · rw [upd_n h2, if_neg h2, h k hk]
theorem swap_eq {f : Ar} {i j : Nat} (hi : i < 8) (hj : j < 8) : f_X3_swap f (nI i) (nI j) = some (upd (upd f i (f j)) j (f i)) := by
  unfold f_X3_swap
  rw [if_neg (nI_pos (by omega)), if_neg (c8 hi), if_neg (nI_pos (by omega)), if_neg (c8 hj), rd_at i rfl hi (by omega), rd_at j rfl hj (by omega), wr_at i rfl hi (by omega), wr_at j rfl hj (by omega)]
theorem m1_n (i : Nat) : nI (i + 1) + (-1 : Int32) = nI i := pk_m1 i
theorem shufC_go {T : Nat} {sz : Int32} (hT : T ≤ 8) : ∀ (i n x : Nat) (g : Nat → Nat) (f : Ar), i < T → i < n → x < 2 ^ 31 → (∀ k, k < T → f k = nI (g k)) → ∃ f', b_X3_layShuffled_33 n (lN x) (nI i) sz f = some (sz, f') ∧ ∀ k, k < T → f' k = nI (shf i x g k) := by
  intro i
  induction i with
  | zero =>
    intro n x g f hi hn hx hf
    obtain ⟨n, rfl⟩ : ∃ z, n = z + 1 := ⟨n - 1, by omega⟩
    exact ⟨f, by rw [b_X3_layShuffled_33, if_pos (show nI 0 < (1 : Int32) by decide)], hf⟩
  | succ i ih =>
    intro n x g f hi hn hx hf
    obtain ⟨n, rfl⟩ : ∃ z, n = z + 1 := ⟨n - 1, by omega⟩
    have hj := jx_le (lcg x) (i + 1)
    obtain ⟨f', e1, e2⟩ := ih n (lcg x) (swp g (i + 1) (jx (lcg x) (i + 1))) _ (by omega) (by omega) (lcg_lt x) (swp_upd hf hi (show jx (lcg x) (i + 1) < T by omega))
    refine ⟨f', ?_, e2⟩
    rw [b_X3_layShuffled_33, if_neg (c1 (by omega) (by omega)), lcg_eq hx]
    simp only [nm]
    rw [dvl_ok (i1_n0 (by omega)), jx_eq (lcg_lt x) (by omega), swap_eq (by omega) (by omega)]
    simp only [bd1, nm]
    rw [m1_n]
    exact e1
theorem fillC_go {T : Nat} {seed : Int32} (hT : T ≤ 8) : ∀ (d t n : Nat) (f : Ar), t + d = T → d < n → RW (List.range t) (nI t) f → ∃ f', b_X3_layShuffled_6 (nI T) seed n (nI t) (nI t) f = b_X3_layShuffled_33 FU seed.toInt64 (nI T - 1) (nI T) f' ∧ RW (List.range T) (nI T) f' := by
  intro d
  induction d with
  | zero =>
    intro t n f htd hn hR
    obtain ⟨n, rfl⟩ : ∃ z, n = z + 1 := ⟨n - 1, by omega⟩
    have : t = T := by omega
    subst this
    exact ⟨f, by rw [b_X3_layShuffled_6, if_pos (nI_le (Nat.le_refl _) (by omega))]; rfl, hR⟩
  | succ d ih =>
    intro t n f htd hn hR
    obtain ⟨n, rfl⟩ : ∃ z, n = z + 1 := ⟨n - 1, by omega⟩
    obtain ⟨e1, e2⟩ := append_eq hR (by simp; omega) (show t < 8 by omega)
    rw [List.length_range] at e1 e2
    rw [← List.range_succ] at e2
    obtain ⟨f', g1, g2⟩ := ih (t + 1) n _ (by omega) (by omega) e2
    refine ⟨f', ?_, g2⟩
    rw [b_X3_layShuffled_6, if_neg (nI_ge (by omega) (by omega)), e1]
    simp only [bd2, nm, nI_1]
    exact g1
theorem layC_eq {T sd : Nat} {rn : Int32} {rt : Ar} (hT : T ≤ 8) (hs : sd ≤ 999999) : ∃ f', f_X3_layShuffled rn rt (nI T) (nI sd) = some (nI T, f') ∧ RW (shL T sd) (nI T) f' := by
  have h0 : RW (List.range 0) (nI 0) rt := ⟨by simp, rfl, by simp, by simp⟩
  obtain ⟨f1, g1, g2⟩ := fillC_go (seed := nI sd) hT T 0 FU rt (by omega) (FU_big (by omega)) h0
  have e0 : f_X3_layShuffled rn rt (nI T) (nI sd) = b_X3_layShuffled_33 FU (nI sd).toInt64 (nI T - 1) (nI T) f1 := by
    rw [← g1]
    rfl
  rw [e0, nI_l (by omega)]
  rcases Nat.eq_zero_or_pos T with h | h
  · subst h
    refine ⟨f1, ?_, by simp [shL], rfl, by simp [shL], by simp [shL]⟩
    have hF : FU = 999 + 1 := rfl
    rw [hF, b_X3_layShuffled_33, if_pos (show nI 0 - 1 < (1 : Int32) by decide)]
  · obtain ⟨f', e1, e2⟩ := shufC_go (sz := nI T) hT (T - 1) FU sd (fun k => k) f1 (by omega) (FU_big (by omega)) (by omega) (fun k hk => g2.2.2.1 k k (List.getElem?_range hk))
    refine ⟨f', ?_, by rw [shL_len]; exact hT, by rw [shL_len], fun k t hk => ?_, fun t ht => Nat.lt_of_lt_of_le (shL_lt ht) hT⟩
    · rw [show nI T - 1 = nI (T - 1) by
        obtain ⟨z, rfl⟩ : ∃ z, T = z + 1 := ⟨T - 1, by omega⟩
        exact nI_pred z]
      exact e1
    · have hlt : k < T := by
        have := (List.getElem?_eq_some_iff.mp hk).1
        rw [shL_len] at this
        exact this
      rw [shL_at hlt] at hk
      cases hk
      exact e2 k hlt
theorem shufM_go {T : Nat} (hT : T ≤ 8) : ∀ (i n x : Nat) (g : Nat → Nat) (f : Ar), i < T → i < n → x < 2 ^ 31 → (∀ k, k < T → f k = nI (g k)) → ∃ f', b_X7_laysShuffled_38 n (lN x) (nI i) f = some f' ∧ ∀ k, k < T → f' k = nI (shf i x g k) := by
  intro i
  induction i with
  | zero =>
    intro n x g f hi hn hx hf
    obtain ⟨n, rfl⟩ : ∃ z, n = z + 1 := ⟨n - 1, by omega⟩
    exact ⟨f, by rw [b_X7_laysShuffled_38, if_pos (show nI 0 ≤ (0 : Int32) by decide)], hf⟩
  | succ i ih =>
    intro n x g f hi hn hx hf
    obtain ⟨n, rfl⟩ : ∃ z, n = z + 1 := ⟨n - 1, by omega⟩
    have hj := jx_le (lcg x) (i + 1)
    obtain ⟨f', e1, e2⟩ := ih n (lcg x) (swp g (i + 1) (jx (lcg x) (i + 1))) _ (by omega) (by omega) (lcg_lt x) (swp_upd hf hi (show jx (lcg x) (i + 1) < T by omega))
    refine ⟨f', ?_, e2⟩
    rw [b_X7_laysShuffled_38, if_neg (nI_nle (n := i + 1) (by omega) (by omega)), lcg_eq hx]
    simp only [nm]
    rw [dvl_ok (i1_n0 (by omega)), jx_eq (lcg_lt x) (by omega), rd_at (i + 1) rfl (by omega) (by omega), rd_at (jx (lcg x) (i + 1)) rfl (by omega) (by omega), wr_at (i + 1) rfl (by omega) (by omega), wr_at (jx (lcg x) (i + 1)) rfl (by omega) (by omega), m1_n]
    exact e1
theorem fillM_go {T : Nat} {seed : Int32} {now : Ar} (hT : T ≤ 8) (h0 : now 0 = nI T) : ∀ (d t n : Nat) (f : Ar), t + d = T → d < n → (∀ k, k < t → f k = nI k) → ∃ f', b_X7_laysShuffled_2 now seed n (nI t) f = b_X7_laysShuffled_38 FU seed.toInt64 (nI T - 1) f' ∧ ∀ k, k < T → f' k = nI k := by
  intro d
  induction d with
  | zero =>
    intro t n f htd hn hf
    obtain ⟨n, rfl⟩ : ∃ z, n = z + 1 := ⟨n - 1, by omega⟩
    have : t = T := by omega
    subst this
    refine ⟨f, ?_, hf⟩
    rw [b_X7_laysShuffled_2, r0, h0, if_pos (nI_le (Nat.le_refl _) (by omega))]
    simp only [nm]
    rw [r0, h0]
  | succ d ih =>
    intro t n f htd hn hf
    obtain ⟨n, rfl⟩ : ∃ z, n = z + 1 := ⟨n - 1, by omega⟩
    obtain ⟨f', g1, g2⟩ := ih (t + 1) n (upd f t (nI t)) (by omega) (by omega) (fun k hk => by
      by_cases h : k = t
      · subst h
        exact upd_s
      · rw [upd_n h]
        exact hf k (by omega))
    refine ⟨f', ?_, g2⟩
    rw [b_X7_laysShuffled_2, r0, h0, if_neg (nI_ge (by omega) (by omega)), wr_at t rfl (by omega) (by omega)]
    simp only [nm, nI_1]
    exact g1
theorem layM_eq {T sd : Nat} {now sh : Ar} (hT : T ≤ 8) (h0 : now 0 = nI T) (hs : sd ≤ 999999) : ∃ f', f_X7_laysShuffled now sh (nI sd) = some f' ∧ ∀ k t, (shL T sd)[k]? = some t → f' k = nI t := by
  obtain ⟨f1, g1, g2⟩ := fillM_go (seed := nI sd) hT h0 T 0 FU sh (by omega) (FU_big (by omega)) (fun k hk => by omega)
  have e0 : f_X7_laysShuffled now sh (nI sd) = b_X7_laysShuffled_38 FU (nI sd).toInt64 (nI T - 1) f1 := by
    rw [← g1]
    rfl
  rw [e0, nI_l (by omega)]
  rcases Nat.eq_zero_or_pos T with h | h
  · subst h
    refine ⟨f1, ?_, by simp [shL]⟩
    have hF : FU = 999 + 1 := rfl
    rw [hF, b_X7_laysShuffled_38, if_pos (show nI 0 - 1 ≤ (0 : Int32) by decide)]
  · obtain ⟨f', e1, e2⟩ := shufM_go hT (T - 1) FU sd (fun k => k) f1 (by omega) (FU_big (by omega)) (by omega) g2
    refine ⟨f', ?_, fun k t hk => ?_⟩
    · rw [show nI T - 1 = nI (T - 1) by
        obtain ⟨z, rfl⟩ : ∃ z, T = z + 1 := ⟨T - 1, by omega⟩
        exact nI_pred z]
      exact e1
    · have hlt : k < T := by
        have := (List.getElem?_eq_some_iff.mp hk).1
        rw [shL_len] at this
        exact this
      rw [shL_at hlt] at hk
      cases hk
      exact e2 k hlt
