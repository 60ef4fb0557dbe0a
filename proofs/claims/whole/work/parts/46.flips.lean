/-! flips by a seed, the first seed, the counts -/
def psL (M : Ar) (o : Int32) : Int32 → List Nat → List Nat
  | _, [] => []
  | c, t :: l => if pss M t c then t :: psL M o (act M o t c) l else psL M o (act M o t c) l
def flL (M : Ar) (o st : Int32) : Int32 → List Nat → List Nat
  | _, [] => []
  | c, t :: l => if flp M st t c then t :: flL M o st (act M o t c) l else flL M o st (act M o t c) l
theorem psL_c (M : Ar) (o c : Int32) (t : Nat) (l : List Nat) : psL M o c (t :: l) = if pss M t c then t :: psL M o (act M o t c) l else psL M o (act M o t c) l := rfl
theorem flL_c (M : Ar) (o st c : Int32) (t : Nat) (l : List Nat) : flL M o st c (t :: l) = if flp M st t c then t :: flL M o st (act M o t c) l else flL M o st (act M o t c) l := rfl
theorem psL_sub {M : Ar} {o : Int32} : ∀ (l : List Nat) (c : Int32), (psL M o c l).Sublist l := by
  intro l
  induction l with
  | nil => intro c; exact List.Sublist.refl _
  | cons t l ih =>
    intro c
    rw [psL_c]
    split
    · exact (ih _).cons₂ t
    · exact (ih _).cons t
theorem flL_sub {M : Ar} {o st : Int32} : ∀ (l : List Nat) (c : Int32), (flL M o st c l).Sublist l := by
  intro l
  induction l with
  | nil => intro c; exact List.Sublist.refl _
  | cons t l ih =>
    intro c
    rw [flL_c]
    split
    · exact (ih _).cons₂ t
    · exact (ih _).cons t
theorem fl_bits {M : Ar} {o st : Int32} {u : Nat} : ∀ (l : List Nat) (c : Int32), l.Nodup → (decide (u ∈ psL M o c l) ^^ (pss M u st && decide (u ∈ l))) = decide (u ∈ flL M o st c l) := by
  intro l
  induction l with
  | nil => intro c _; simp [psL, flL]
  | cons t l ih =>
    intro c hn
    rw [List.nodup_cons] at hn
    have h := ih (act M o t c) hn.2
    rw [psL_c, flL_c]
    by_cases hu : u = t
    · subst hu
      have n1 : u ∉ psL M o (act M o u c) l := fun w => hn.1 ((psL_sub _ _).subset w)
      have n2 : u ∉ flL M o st (act M o u c) l := fun w => hn.1 ((flL_sub _ _).subset w)
      unfold flp
      cases pss M u c <;> cases pss M u st <;> simp [n1, n2]
    · have e1 : decide (u ∈ (if pss M t c then t :: psL M o (act M o t c) l else psL M o (act M o t c) l)) = decide (u ∈ psL M o (act M o t c) l) := by split <;> simp [hu]
      have e2 : decide (u ∈ (if flp M st t c then t :: flL M o st (act M o t c) l else flL M o st (act M o t c) l)) = decide (u ∈ flL M o st (act M o t c) l) := by split <;> simp [hu]
      rw [e1, e2, ← h]
      simp [hu]
theorem zsh : ∀ t, t < 8 → (0 : Int32) <<< (nI t &&& 31) = 0 := by decide
theorem add_bit {s t : Nat} (hs : s < 256) (ht : t < 8) : nI s ||| ((1 : Int32) <<< (nI t &&& 31)) = nI (s ||| 2 ^ t) ∧ s ||| 2 ^ t < 256 := by
  have h2 : 2 ^ t < 2 ^ 8 := Nat.pow_lt_pow_right (by omega) ht
  refine ⟨?_, Nat.or_lt_two_pow (n := 8) hs h2⟩
  rw [show (1 : Int32) <<< (nI t &&& 31) = nI (2 ^ t) from bitB_nat t ht, or_nat _ _ (by omega) (by omega)]
theorem passIn_go {T : Nat} {L : List Nat} {M ms rt : Ar} {o rn : Int32} (hR : RW L rn rt) (hL : ∀ t ∈ L, t < T) (hM : CM T M ms) (hT : T ≤ 8) : ∀ (l : List Nat) (k n s : Nat) (c : Int32), L.drop k = l → k ≤ L.length → l.length < n → s < 256 → b_X4_passingIn_10 o ms rn rt n (nI s) c (nI k) = some (nI (setF s (psL M o c l))) := by
  intro l
  have h8 := hR.1
  induction l with
  | nil =>
    intro k n s c hd hk hn hs
    obtain ⟨n, rfl⟩ : ∃ z, n = z + 1 := ⟨n - 1, by simp at hn; omega⟩
    have h1 := drop_n hd
    rw [b_X4_passingIn_10, hR.2.1, if_pos (nI_le h1 (by omega))]
    rfl
  | cons t l ih =>
    intro k n s c hd hk hn hs
    obtain ⟨n, rfl⟩ : ∃ z, n = z + 1 := ⟨n - 1, by simp at hn; omega⟩
    obtain ⟨g1, g2, g3, g4⟩ := drop_c hd
    have ht := hL t g4
    have ht8 : t < 8 := by omega
    rw [b_X4_passingIn_10, hR.2.1, if_neg (nI_ge g3 (by omega)), ← hR.2.1, nth_in hR g1, bd1_s, passC_eq hM ht hT, bd1_s, oneIf_eq, bd1_s, actC_eq hM ht hT]
    simp only [nm, nI_1, bd1_s]
    have hn2 : l.length < n := by simp at hn; omega
    rw [psL_c]
    cases pss M t c
    · rw [show b2i false = (0 : Int32) from rfl, zsh t ht8, or0, if_neg (by decide)]
      exact ih (k + 1) n s _ g2 (by omega) hn2 hs
    · obtain ⟨a1, a2⟩ := add_bit hs ht8
      rw [show b2i true = (1 : Int32) from rfl, a1, if_pos rfl]
      exact ih (k + 1) n (s ||| 2 ^ t) _ g2 (by omega) hn2 a2
theorem own_eq {o : Int32} {ms rt : Ar} {rn : Int32} : ∀ (n : Nat) (a c k : Int32), b_X4_passingIn_own_10 o ms rn rt n a c k = b_X4_passingIn_10 o ms rn rt n a c k := by
  intro n
  induction n with
  | zero => intro a c k; rfl
  | succ n ih =>
    intro a c k
    rw [b_X4_passingIn_own_10, b_X4_passingIn_10]
    simp only [ih]
theorem alone_go {T : Nat} {M ms : Ar} {st : Int32} (hM : CM T M ms) (hT : T ≤ 8) : ∀ (d k n s : Nat), k + d = T → d < n → s < 256 → b_X4_passingAlone_4 (nI T) st ms n (nI s) (nI k) = some (nI (setF s ((List.range' k d).filter (fun t => pss M t st)))) := by
  intro d
  induction d with
  | zero =>
    intro k n s hk hn hs
    obtain ⟨n, rfl⟩ : ∃ z, n = z + 1 := ⟨n - 1, by omega⟩
    rw [b_X4_passingAlone_4, if_pos (nI_le (by omega) (by omega))]
    rfl
  | succ d ih =>
    intro k n s hk hn hs
    obtain ⟨n, rfl⟩ : ∃ z, n = z + 1 := ⟨n - 1, by omega⟩
    have hk8 : k < 8 := by omega
    rw [b_X4_passingAlone_4, if_neg (nI_ge (by omega) (by omega)), passC_eq hM (by omega) hT, bd1_s, oneIf_eq, bd1_s]
    simp only [nm, nI_1]
    rw [List.range'_succ, List.filter_cons]
    cases pss M k st
    · rw [show b2i false = (0 : Int32) from rfl, zsh k hk8, or0, if_neg (by decide)]
      exact ih (k + 1) n s (by omega) (by omega) hs
    · obtain ⟨a1, a2⟩ := add_bit hs hk8
      rw [show b2i true = (1 : Int32) from rfl, a1, if_pos rfl]
      exact ih (k + 1) n (s ||| 2 ^ k) (by omega) (by omega) a2
theorem passAlone_eq {T : Nat} {M ms : Ar} {st : Int32} (hM : CM T M ms) (hT : T ≤ 8) : f_X4_passingAlone (nI T) st ms = some (nI (setF 0 ((List.range' 0 T).filter (fun t => pss M t st)))) := alone_go hM hT T 0 FU 0 (by omega) (FU_big (by omega)) (by omega)
theorem passIn_eq {T : Nat} {L : List Nat} {M ms rt : Ar} {o rn st : Int32} (hR : RW L rn rt) (hL : ∀ t ∈ L, t < T) (hM : CM T M ms) (hT : T ≤ 8) : f_X4_passingIn st o ms rn rt = some (nI (setF 0 (psL M o st L))) ∧ f_X4_passingIn_own st o ms rn rt = some (nI (setF 0 (psL M o st L))) := by
  have h8 := hR.1
  have h := passIn_go (o := o) hR hL hM hT L 0 FU 0 st rfl (by omega) (FU_big (by omega)) (by omega)
  refine ⟨h, ?_⟩
  unfold f_X4_passingIn_own
  rw [own_eq]
  exact h
theorem fl_set {T : Nat} {L : List Nat} {M : Ar} {o st : Int32} (hn : L.Nodup) (hL : ∀ t ∈ L, t < T) (hT : T ≤ 8) : nI (setF 0 (psL M o st L)) ^^^ (nI (setF 0 ((List.range' 0 T).filter (fun t => pss M t st))) &&& nI (setF 0 L)) = nI (setF 0 (flL M o st st L)) := by
  have hb : ∀ t ∈ L, t < 8 := fun t ht => by have := hL t ht; omega
  have b1 : setF 0 (psL M o st L) < 256 := set0_lt (fun t ht => hb t ((psL_sub _ _).subset ht))
  have b2 : setF 0 (flL M o st st L) < 256 := set0_lt (fun t ht => hb t ((flL_sub _ _).subset ht))
  have b3 : setF 0 L < 256 := set0_lt hb
  have b4 : setF 0 ((List.range' 0 T).filter (fun t => pss M t st)) < 256 := set0_lt (fun t ht => by
    have h1 := (List.mem_filter.mp ht).1
    rw [List.mem_range'_1] at h1
    omega)
  rw [and_nat _ _ (by omega) (by omega), xor_nat _ _ (by omega) (Nat.lt_of_le_of_lt Nat.and_le_right (by omega))]
  congr 1
  refine set_ext (Nat.xor_lt_two_pow (n := 8) b1 (Nat.lt_of_le_of_lt Nat.and_le_right b3)) b2 (fun u hu => ?_)
  rw [Nat.testBit_xor, Nat.testBit_and, set0_bit, set0_bit, set0_bit, set0_bit, ← fl_bits L st hn]
  congr 1
  by_cases hm : u ∈ L
  · have := hL u hm
    have e : (decide (u ∈ (List.range' 0 T).filter (fun t => pss M t st))) = pss M u st := by
      cases hp : pss M u st
      · rw [decide_eq_false_iff_not, List.mem_filter]
        simp [hp]
      · rw [decide_eq_true_iff, List.mem_filter, List.mem_range'_1]
        exact ⟨by omega, hp⟩
    rw [e]
  · simp [hm]
theorem flIn_eq {T : Nat} {L : List Nat} {M ms rt : Ar} {o rn st : Int32} (hR : RW L rn rt) (hn : L.Nodup) (hL : ∀ t ∈ L, t < T) (hM : CM T M ms) (hT : T ≤ 8) : f_X4_flippedIn (nI T) st o ms rn rt = some (nI (setF 0 (flL M o st st L))) ∧ f_X4_flippedIn_own (nI T) st o ms rn rt = some (nI (setF 0 (flL M o st st L))) := by
  have hA : f_X3_setAhead rn rt rn = some (nI (setF 0 L)) := by
    have h := setAhead_eq hR (Nat.le_refl L.length)
    rw [List.take_length, ← hR.2.1] at h
    exact h
  obtain ⟨p1, p2⟩ := passIn_eq (o := o) (st := st) hR hL hM hT
  unfold f_X4_flippedIn f_X4_flippedIn_own
  rw [p1, p2, passAlone_eq hM hT, hA]
  simp only [bd1_s]
  rw [fl_set hn hL hT]
  exact ⟨rfl, rfl⟩
theorem flBy_go {T : Nat} {L : List Nat} {M now sh : Ar} {o st : Int32} (hLT : L.length = T) (hsh : ∀ k t, L[k]? = some t → sh k = nI t) (hL : ∀ t ∈ L, t < T) (hM : MM T M now) (hT : T ≤ 8) (h0 : now 0 = nI T) (h1 : now 1 = st) (h2 : now 2 = o) (ho : o = 0 ∨ o = 1) : ∀ (l : List Nat) (k n s : Nat) (c : Int32), L.drop k = l → k ≤ L.length → l.length < n → s < 256 → b_X7_flipsBy_17 now n (nI s) c (nI k) sh = some (nI (setF s (flL M o st c l)), sh) := by
  intro l
  induction l with
  | nil =>
    intro k n s c hd hk hn hs
    obtain ⟨n, rfl⟩ : ∃ z, n = z + 1 := ⟨n - 1, by simp at hn; omega⟩
    have h1 := drop_n hd
    rw [b_X7_flipsBy_17, r0, h0, if_pos (nI_le (by omega) (by omega))]
    rfl
  | cons t l ih =>
    intro k n s c hd hk hn hs
    obtain ⟨n, rfl⟩ : ∃ z, n = z + 1 := ⟨n - 1, by simp at hn; omega⟩
    obtain ⟨g1, g2, g3, g4⟩ := drop_c hd
    have ht := hL t g4
    have ht8 : t < 8 := by omega
    rw [b_X7_flipsBy_17, r0, h0, if_neg (nI_ge (by omega) (by omega)), rd_at k rfl (by omega) (by omega), hsh k t g1, passM_eq hM ht hT, bd1_s, aloneM_eq hM ht hT h1, bd1_s, if_be, actM_eq hM ht hT h2 ho]
    simp only [nm, nI_1, bd1_s]
    have hn2 : l.length < n := by simp at hn; omega
    rw [flL_c]
    unfold flp
    cases (pss M t c != pss M t st)
    · rw [or0, if_neg (by decide), if_neg (by decide)]
      exact ih (k + 1) n s _ g2 (by omega) hn2 hs
    · obtain ⟨a1, a2⟩ := add_bit hs ht8
      rw [a1, if_pos rfl, if_pos rfl]
      exact ih (k + 1) n (s ||| 2 ^ t) _ g2 (by omega) hn2 a2
theorem bySeed_eq {T sd : Nat} {M ms : Ar} {o st sz : Int32} {sp now sh : Ar} (hC : CM T M ms) (hM : MM T M now) (hT : T ≤ 8) (h0 : now 0 = nI T) (h1 : now 1 = st) (h2 : now 2 = o) (ho : o = 0 ∨ o = 1) (hs : sd ≤ 999999) : ∃ S sz' sp' sh', S < 256 ∧ f_X6_flippedBySeed (nI T) st o ms sz sp (nI sd) = some (nI S, sz', sp') ∧ f_X7_flipsBy now sh (nI sd) = some (nI S, sh') := by
  obtain ⟨sp', q1, q2⟩ := layC_eq (rn := sz) (rt := sp) hT hs
  obtain ⟨sh', q3, q4⟩ := layM_eq (sh := sh) hT h0 hs
  have hL : ∀ t ∈ shL T sd, t < T := fun t ht => shL_lt ht
  refine ⟨setF 0 (flL M o st st (shL T sd)), nI T, sp', sh', set0_lt (fun t ht => by have := hL t ((flL_sub _ _).subset ht); omega), ?_, ?_⟩
  · unfold f_X6_flippedBySeed
    rw [q1, bd2_s, (flIn_eq q2 (shL_nodup T sd) hL hC hT).1, bd1_s]
  · unfold f_X7_flipsBy
    rw [q3, bd1_s, r1, h1]
    exact flBy_go (shL_len T sd) q4 hL hM hT h0 h1 h2 ho (shL T sd) 0 FU 0 st rfl (by omega) (FU_big (by rw [shL_len]; omega)) (by omega)
theorem flips_sim {σ : Sv} {b n f sz st mo rn sps : Int32} {ms rt now rf sp sh : Ar} (x : Int32) (hok : okS σ) (hC : CS σ sz st mo ms rn rt) (hM : MS σ now) (hc : Cnt b n f rf) : ∃ r b' n' f' sps' sp' rf' sh', f_X6_flips b n f sz st mo ms sps sp x = some (r, b', n', f', sps', sp') ∧ f_X7_flips now rf sh x = some (r, rf', sh') ∧ Cnt b' n' f' rf' := by
  obtain ⟨T, L, s, o, M⟩ := σ
  obtain ⟨rfl, rfl, rfl, h4, h5⟩ := hC
  obtain ⟨m0, m1, m2, m3, m4, m5⟩ := hM
  dsimp only at h4 h5 m0 m1 m2 m3 m4 m5
  have hT : T ≤ 8 := hok.1
  have ho := hok.2.2.2.2
  dsimp only at ho
  unfold f_X6_flips f_X7_flips
  rw [isSeed_eq]
  rcases rng (x := x) 999999 (m := 999999) rfl (by omega) with ⟨j, hj, rfl, a1⟩ | ⟨a1, a2⟩
  · obtain ⟨S, sz', sp', sh', hS, q1, q2⟩ := bySeed_eq (sz := sps) (sp := sp) (sh := sh) h4 m5 hT m0 m1 m2 ho hj
    dsimp only
    rw [a1, bd1_s, bd1_s, if_b0, if_b0, if_pos rfl, if_pos rfl, q1, bd3_s, q2, bd2_s]
    exact ⟨nI S, b, n, f, sz', sp', rf, sh', rfl, rfl, hc⟩
  · obtain ⟨b', n', f', rf', q1, q2, q3⟩ := ref_sim (x := -2) hc (by simp)
    rw [a1, bd1_s, bd1_s, if_b0, if_b0, if_neg (by decide), if_neg (by decide), q1, bd4_s, q2, bd2_s]
    exact ⟨-2, b', n', f', sps, sp, rf', sh, rfl, rfl, q3⟩
theorem seed_go {T v sd : Nat} {M ms : Ar} {o st b n f : Int32} {now rf : Ar} (hC : CM T M ms) (hM : MM T M now) (hT : T ≤ 8) (h0 : now 0 = nI T) (h1 : now 1 = st) (h2 : now 2 = o) (ho : o = 0 ∨ o = 1) (hs : sd ≤ 999999) : ∀ (d i k m : Nat) (sz : Int32) (sp sh : Ar), i + d = 200 → d < k → d < m → ∃ r sz' sp' sh', b_X6_seed_27 (nI T) st o ms (nI sd) (nI v) k (nI i) b n f sz sp = some (r, b, n, f, sz', sp') ∧ b_X7_seed_27 now (nI sd) (nI v) m (nI (sd + i)) rf sh = some (r, rf, sh') := by
  intro d
  induction d with
  | zero =>
    intro i k m sz sp sh hi hk hm
    obtain ⟨k, rfl⟩ : ∃ z, k = z + 1 := ⟨k - 1, by omega⟩
    obtain ⟨m, rfl⟩ : ∃ z, m = z + 1 := ⟨m - 1, by omega⟩
    refine ⟨-1, sz, sp, sh, ?_, ?_⟩
    · rw [b_X6_seed_27, if_pos (show (200 : Int32) ≤ nI i from nI_le (a := 200) (by omega) (by omega))]
    · rw [b_X7_seed_27, show nI sd + (200 : Int32) = nI (sd + 200) from nI_add sd 200, if_pos (nI_le (by omega) (by omega))]
  | succ d ih =>
    intro i k m sz sp sh hi hk hm
    obtain ⟨k, rfl⟩ : ∃ z, k = z + 1 := ⟨k - 1, by omega⟩
    obtain ⟨m, rfl⟩ : ∃ z, m = z + 1 := ⟨m - 1, by omega⟩
    rw [b_X6_seed_27, if_neg (show ¬ (200 : Int32) ≤ nI i from nI_ge (b := 200) (by omega) (by omega)), b_X7_seed_27, show nI sd + (200 : Int32) = nI (sd + 200) from nI_add sd 200, if_neg (nI_ge (by omega) (by omega)), nI_add]
    by_cases hx : 999999 < sd + i
    · rw [if_pos (show (999999 : Int32) < nI (sd + i) from nI_lt (a := 999999) hx (by omega)), if_pos (show (999999 : Int32) < nI (sd + i) from nI_lt (a := 999999) hx (by omega))]
      exact ⟨-1, sz, sp, sh, rfl, rfl⟩
    · have hx2 : ¬ (999999 : Int32) < nI (sd + i) := nI_nlt (b := sd + i) (a := 999999) (by omega) (by omega)
      obtain ⟨S, sz', sp', sh', hS, q1, q2⟩ := bySeed_eq (sz := sz) (sp := sp) (sh := sh) hC hM hT h0 h1 h2 ho (show sd + i ≤ 999999 by omega)
      rw [if_neg hx2, if_neg hx2, q1, bd3_s, q2, bd2_s, isIn_eq, bd1_s, has_eq, bd1_s, if_b0, if_b0]
      cases hasB (nI S) (nI v)
      · rw [if_neg (by decide), if_neg (by decide)]
        simp only [nm, nI_1]
        exact ih (i + 1) k m sz' sp' sh' (by omega) (by omega) (by omega)
      · rw [if_pos rfl, if_pos rfl]
        exact ⟨nI (sd + i), sz', sp', sh', rfl, rfl⟩
theorem seed_sim {σ : Sv} {b n f sz st mo rn sps : Int32} {ms rt now rf sp sh : Ar} (x y : Int32) (hok : okS σ) (hC : CS σ sz st mo ms rn rt) (hM : MS σ now) (hc : Cnt b n f rf) : ∃ r b' n' f' sps' sp' rf' sh', f_X6_seed b n f sz st mo ms sps sp x y = some (r, b', n', f', sps', sp') ∧ f_X7_seed now rf sh x y = some (r, rf', sh') ∧ Cnt b' n' f' rf' := by
  obtain ⟨T, L, s, o, M⟩ := σ
  obtain ⟨rfl, rfl, rfl, h4, h5⟩ := hC
  obtain ⟨m0, m1, m2, m3, m4, m5⟩ := hM
  dsimp only at h4 h5 m0 m1 m2 m3 m4 m5
  have hT : T ≤ 8 := hok.1
  have ho := hok.2.2.2.2
  dsimp only at ho
  unfold f_X6_seed f_X7_seed
  rw [isSeed_eq]
  obtain ⟨b', n', f', rf', q1, q2, q3⟩ := ref_sim (x := -2) hc (by simp)
  rcases rng (x := x) 999999 (m := 999999) rfl (by omega) with ⟨j, hj, rfl, a1⟩ | ⟨a1, a2⟩
  · dsimp only
    rw [a1, bd1_s, bd1_s, if_b0, if_b0, if_pos rfl, if_pos rfl]
    rcases tests_eq hT m0 y with ⟨v, hv, rfl, e1, e2⟩ | ⟨e1, e2⟩
    · rw [e1, e2, bd1_s, bd1_s, if_b0, if_b0, if_pos rfl, if_pos rfl]
      obtain ⟨r, sz', sp', sh', g1, g2⟩ := seed_go (v := v) (b := b) (n := n) (f := f) (rf := rf) h4 m5 hT m0 m1 m2 ho hj 200 0 FU FU sps sp sh (by omega) (FU_big (by omega)) (FU_big (by omega))
      exact ⟨r, b, n, f, sz', sp', rf, sh', g1, g2, hc⟩
    · rw [e1, e2, bd1_s, bd1_s, if_b0, if_b0, if_neg (by decide), if_neg (by decide), q1, bd4_s, q2, bd2_s]
      exact ⟨-2, b', n', f', sps, sp, rf', sh, rfl, rfl, q3⟩
  · rw [a1, bd1_s, bd1_s, if_b0, if_b0, if_neg (by decide), if_neg (by decide), q1, bd4_s, q2, bd2_s]
    exact ⟨-2, b', n', f', sps, sp, rf', sh, rfl, rfl, q3⟩
