/-! the digest -/
def Ctx (T : Nat) (L : List Nat) (st o : Int32) (M ms : Ar) (rn : Int32) (rt now : Ar) : Prop := okS (T, L, st, o, M) ∧ CS (T, L, st, o, M) (nI T) st o ms rn rt ∧ MS (T, L, st, o, M) now
def Dg (b n f : Int32) (X : Option (Int64 × Int32 × Int32 × Int32 × Int32 × Ar)) (Y : Option (Int64 × Int32 × Int64 × Ar × Ar)) : Prop := ∃ r sz sp tm tr sh, X = some (r, b, n, f, sz, sp) ∧ Y = some (r, tm, r, tr, sh)
theorem fnd_at {L : List Nat} {p v : Nat} (hn : L.Nodup) (hp : L[p]? = some v) : fnd v L 0 = some p := by
  cases hf : fnd v L 0 with
  | none => exact absurd (List.mem_of_getElem? hp) (fnd_none.mp hf)
  | some q =>
    obtain ⟨h1, h2⟩ := fnd_lt hf
    rw [(List.getElem?_inj h1 hn).mp (h2.trans hp.symm)]
theorem told_v {P : List Sv} {k : Nat} {b n f len bytes pz mk sn : Int32} {rf tb tx past : Ar} {pM pT : Nat → Ar} {pN pS pB pO : Nat → Int32} {j : Nat} (hj : j ≤ 4) (hR : Ring P pz mk pM pT pN pS pB pO) (hS : Stk P sn past) (hc : Cnt b n f rf) (ht : Txt k len tb bytes tx) : ∃ r, f_X6_told b n f pz len (nI j) = some (r, b, n, f) ∧ f_X7_toldAt sn bytes rf (nI j) = some r := by
  obtain ⟨c1, c2, c3⟩ := hc
  rcases (by omega : j = 0 ∨ j = 1 ∨ j = 2 ∨ j = 3 ∨ j = 4) with rfl | rfl | rfl | rfl | rfl
  · exact ⟨b, rfl, by rw [c1]; rfl⟩
  · exact ⟨n, rfl, by rw [c2]; rfl⟩
  · exact ⟨f, rfl, by rw [c3]; rfl⟩
  · exact ⟨len, rfl, by rw [ht.2.1, ht.2.2.1]; rfl⟩
  · exact ⟨pz, rfl, by rw [hR.2.1, hS.1]; rfl⟩
theorem of_v {T : Nat} {L : List Nat} {b n f st o rn : Int32} {M ms rt now : Ar} (hx : Ctx T L st o M ms rn rt now) {v j : Nat} (hv : v < T) (hj : j ≤ 5) : ∃ r, f_X6_of b n f (nI T) st ms (nI v) (nI j) = some (r, b, n, f) ∧ f_X7_testTold now (nI v) (nI j) = some r := by
  obtain ⟨hok, ⟨-, -, -, h4, h5⟩, m0, m1, m2, m3, m4, m5⟩ := hx
  dsimp only at h4 h5 m0 m1 m2 m3 m4 m5
  have hT : T ≤ 8 := hok.1
  unfold f_X6_of f_X7_testTold
  have e1 : f_X4_hasTest (nI T) (nI v) = some true := by
    unfold f_X4_hasTest
    rw [if_neg (nI_pos (by omega)), if_neg (nI_ge hv (by omega))]
  rw [e1, bd1_s, if_b0, if_pos rfl, if_neg (nI_pos (by omega)), if_pos (show nI j ≤ (5 : Int32) from nI_le (b := 5) hj (by omega))]
  by_cases h : j = 5
  · subst h
    rw [if_pos (show nI 5 = (5 : Int32) from rfl), if_pos (show (5 : Int32) ≤ nI 5 by decide), passC_eq h4 hv hT, aloneM_eq m5 hv hT m1]
    simp only [bd1_s, oneIf_eq, if_b0]
    refine ⟨_, rfl, ?_⟩
    cases pss M v st <;> rfl
  · have hj5 : j < 5 := by omega
    rw [if_neg (show ¬ nI j = (5 : Int32) by rw [show (5 : Int32) = nI 5 from rfl, nI_eq (by omega) (by omega)]; omega), if_neg (show ¬ (5 : Int32) ≤ nI j from nI_ge (a := j) (b := 5) hj5 (by omega)), ofTest_eq m5 hv hT hj5 rfl, bd1_s]
    refine ⟨M (5 * v + j), ?_, rfl⟩
    unfold f_X4_mask
    rw [show nI v * (5 : Int32) + nI j = nI (5 * v + j) from ix5 v j]
    simp only [nm]
    rw [if_neg (nI_pos (by omega)), if_neg (c40 (by omega)), rd_at (5 * v + j) rfl (by omega) (by omega), h4 _ (by omega), bd1_s]
theorem inRow_v {T : Nat} {L : List Nat} {b n f st o rn : Int32} {M ms rt now : Ar} (hx : Ctx T L st o M ms rn rt now) {p v j : Nat} (hp : L[p]? = some v) (hj : j ≤ 4) (tm : Int32) (tr : Ar) : ∃ r tm' tr', f_X6_inRow b n f (nI T) st o ms rn rt (nI v) (nI j) = some (r, b, n, f) ∧ f_X7_placeTold tm now tr (nI p) (nI j) = some (r, tm', tr') := by
  obtain ⟨hok, ⟨-, -, -, h4, h5⟩, m0, m1, m2, m3, m4, m5⟩ := hx
  dsimp only at h4 h5 m0 m1 m2 m3 m4 m5
  have hT : T ≤ 8 := hok.1
  have h8 := h5.1
  have hpl : Plc T L st o M ms rn rt now p v := ⟨hT, hok.2.1, hok.2.2.1, h5, h4, m1, m2, hok.2.2.2.2, m3, m4, m5, hp⟩
  have hl := hpl.lt
  have hv := hl.2.2.1
  obtain ⟨tm', tr', g⟩ := placeTold_eq hpl hj tm tr
  refine ⟨tlP M st o (run M o st (L.take p)) v p j, tm', tr', ?_, g⟩
  have e1 : f_X4_hasTest (nI T) (nI v) = some true := by
    unfold f_X4_hasTest
    rw [if_neg (nI_pos (by omega)), if_neg (nI_ge hv (by omega))]
  unfold f_X6_inRow
  rw [e1, bd1_s, if_b0, if_pos rfl, if_neg (nI_pos (by omega)), if_pos (show nI j ≤ (4 : Int32) from nI_le (b := 4) hj (by omega)), placeOf_eq h5 (show v < 8 by omega), bd1_s, fnd_at hok.2.1 hp]
  rw [if_neg (show ¬ ansO (some p) = -1 from not_neg1 (by omega)), show ansO (some p) = nI p from rfl, setAhead_eq h5 (show p ≤ L.length by omega), bd1_s, cellsAt hpl, bd1_s]
  generalize run M o st (L.take p) = c
  rcases (by omega : j = 0 ∨ j = 1 ∨ j = 2 ∨ j = 3 ∨ j = 4) with rfl | rfl | rfl | rfl | rfl
  · rfl
  · rw [if_neg (by decide), if_pos (by decide), passC_eq h4 hv hT, bd1_s, oneIf_eq, bd1_s]
    rfl
  · rw [if_neg (by decide), if_neg (by decide), if_pos (by decide), flpC_eq h4 hv hT, bd1_s, oneIf_eq, bd1_s]
    rfl
  · rw [if_neg (by decide), if_neg (by decide), if_neg (by decide), if_pos (by decide), wrong_eq h4 hv hT, bd1_s]
    rfl
  · rw [if_neg (by decide), if_neg (by decide), if_neg (by decide), if_neg (by decide), actC_eq h4 hv hT, bd1_s]
    rfl
theorem flips_v {T : Nat} {L : List Nat} {b n f st o rn sz : Int32} {M ms rt now sp sh : Ar} (hx : Ctx T L st o M ms rn rt now) {j : Nat} (hj : j ≤ 999999) : ∃ r sz' sp' sh', f_X6_flips b n f (nI T) st o ms sz sp (nI j) = some (r, b, n, f, sz', sp') ∧ f_X7_flipsBy now sh (nI j) = some (r, sh') := by
  obtain ⟨hok, ⟨-, -, -, h4, h5⟩, m0, m1, m2, m3, m4, m5⟩ := hx
  dsimp only at h4 h5 m0 m1 m2 m3 m4 m5
  obtain ⟨S, sz', sp', sh', hS, q1, q2⟩ := bySeed_eq (sz := sz) (sp := sp) (sh := sh) h4 m5 hok.1 m0 m1 m2 hok.2.2.2.2 hj
  refine ⟨nI S, sz', sp', sh', ?_, q2⟩
  unfold f_X6_flips
  rw [isSeed_eq]
  rcases rng (x := nI j) 999999 (m := 999999) rfl (by omega) with ⟨i, hi, -, a1⟩ | ⟨-, a2⟩
  · rw [a1, bd1_s, if_b0, if_pos rfl, q1, bd3_s]
  · rcases a2 with a2 | ⟨-, a2⟩
    · exact absurd a2 (nI_pos (by omega))
    · exact absurd a2 (nI_ge (by omega) (by omega))
theorem mix_eq (h : Int64) (x : Int64) : f_X7_mix h x = some ((31 : Int64) * h + x) := rfl
theorem dg_fl {T : Nat} {L : List Nat} {b n f st o rn : Int32} {M ms rt now : Ar} (hx : Ctx T L st o M ms rn rt now) : ∀ (d k i m : Nat) (h : Int64) (sz tm : Int32) (sp tr sh : Ar), k + d = 4 → d < i → d < m → Dg b n f (b_X6_digest_184 (nI T) st o ms i h (nI k) b n f sz sp) (b_X7_digest_154 now m (nI k) tm h tr sh) := by
  intro d
  induction d with
  | zero =>
    intro k i m h sz tm sp tr sh hk hi hm
    obtain ⟨i, rfl⟩ : ∃ z, i = z + 1 := ⟨i - 1, by omega⟩
    obtain ⟨m, rfl⟩ : ∃ z, m = z + 1 := ⟨m - 1, by omega⟩
    rw [b_X6_digest_184, b_X7_digest_154, if_pos (show (3 : Int32) < nI k from nI_lt (a := 3) (by omega) (by omega)), if_pos (show (4 : Int32) ≤ nI k from nI_le (a := 4) (by omega) (by omega))]
    exact ⟨h, sz, sp, tm, tr, sh, rfl, rfl⟩
  | succ d ih =>
    intro k i m h sz tm sp tr sh hk hi hm
    obtain ⟨i, rfl⟩ : ∃ z, i = z + 1 := ⟨i - 1, by omega⟩
    obtain ⟨m, rfl⟩ : ∃ z, m = z + 1 := ⟨m - 1, by omega⟩
    obtain ⟨r, sz', sp', sh', q1, q2⟩ := flips_v (b := b) (n := n) (f := f) (sz := sz) (sp := sp) (sh := sh) hx (show k ≤ 999999 by omega)
    rw [b_X6_digest_184, b_X7_digest_154, if_neg (show ¬ (3 : Int32) < nI k from nI_nlt (b := k) (a := 3) (by omega) (by omega)), if_neg (show ¬ (4 : Int32) ≤ nI k from nI_ge (b := 4) (by omega) (by omega)), q1, bd6_s, q2, bd2_s, mix_eq, bd1_s]
    simp only [nm, nI_1]
    exact ih (k + 1) i m _ sz' tm sp' tr sh' (by omega) (by omega) (by omega)
theorem dg_pl {T : Nat} {L : List Nat} {b n f st o rn : Int32} {M ms rt now : Ar} {p v : Nat} {kC : Int64 → Int32 → Int32 → Int32 → Int32 → Int32 → Ar → Option (Int64 × Int32 × Int32 × Int32 × Int32 × Ar)} {kM : Int32 → Int32 → Int64 → Ar → Ar → Option (Int64 × Int32 × Int64 × Ar × Ar)} (hx : Ctx T L st o M ms rn rt now) (hp : L[p]? = some v) (hk : ∀ (h : Int64) (sz tm : Int32) (sp tr sh : Ar), Dg b n f (kC h (nI (p + 1)) b n f sz sp) (kM (nI (p + 1)) tm h tr sh)) : ∀ (d k i m : Nat) (h : Int64) (sz tm : Int32) (sp tr sh : Ar), k + d = 5 → d < i → d < m → Dg b n f (b_X6_digest_148 (nI T) st o ms rn rt kC i h (nI p) (nI v) (nI k) b n f sz sp) (b_X7_digest_124 now kM m (nI p) (nI k) tm h tr sh) := by
  intro d
  induction d with
  | zero =>
    intro k i m h sz tm sp tr sh hk5 hi hm
    obtain ⟨i, rfl⟩ : ∃ z, i = z + 1 := ⟨i - 1, by omega⟩
    obtain ⟨m, rfl⟩ : ∃ z, m = z + 1 := ⟨m - 1, by omega⟩
    rw [b_X6_digest_148, b_X7_digest_124, if_pos (show (4 : Int32) < nI k from nI_lt (a := 4) (by omega) (by omega)), if_pos (show (5 : Int32) ≤ nI k from nI_le (a := 5) (by omega) (by omega))]
    simp only [nm, nI_1]
    exact hk h sz tm sp tr sh
  | succ d ih =>
    intro k i m h sz tm sp tr sh hk5 hi hm
    obtain ⟨i, rfl⟩ : ∃ z, i = z + 1 := ⟨i - 1, by omega⟩
    obtain ⟨m, rfl⟩ : ∃ z, m = z + 1 := ⟨m - 1, by omega⟩
    obtain ⟨r, tm', tr', q1, q2⟩ := inRow_v (b := b) (n := n) (f := f) hx hp (show k ≤ 4 by omega) tm tr
    rw [b_X6_digest_148, b_X7_digest_124, if_neg (show ¬ (4 : Int32) < nI k from nI_nlt (b := k) (a := 4) (by omega) (by omega)), if_neg (show ¬ (5 : Int32) ≤ nI k from nI_ge (b := 5) (by omega) (by omega)), q1, bd4_s, q2, bd3_s, mix_eq, bd1_s]
    simp only [nm, nI_1]
    exact ih (k + 1) i m _ sz tm' sp tr' sh (by omega) (by omega) (by omega)
theorem dg_row {T : Nat} {L : List Nat} {b n f st o rn : Int32} {M ms rt now : Ar} (hx : Ctx T L st o M ms rn rt now) : ∀ (l : List Nat) (k i m : Nat) (h : Int64) (sz tm : Int32) (sp tr sh : Ar), L.drop k = l → k ≤ L.length → l.length < i → l.length < m → Dg b n f (b_X6_digest_108 (nI T) st o ms rn rt i h (nI k) b n f sz sp) (b_X7_digest_99 now m (nI k) tm h tr sh) := by
  have h5 : RW L rn rt := hx.2.1.2.2.2.2
  have m3 : now 3 = nI L.length := hx.2.2.2.2.2.1
  have m4 : ∀ k t, L[k]? = some t → now (4 + k) = nI t := hx.2.2.2.2.2.2.1
  have h8 := h5.1
  intro l
  induction l with
  | nil =>
    intro k i m h sz tm sp tr sh hd hk hi hm
    obtain ⟨i, rfl⟩ : ∃ z, i = z + 1 := ⟨i - 1, by simp at hi; omega⟩
    obtain ⟨m, rfl⟩ : ∃ z, m = z + 1 := ⟨m - 1, by simp at hm; omega⟩
    have h1 := drop_n hd
    rw [b_X6_digest_108, b_X7_digest_99, r3, m3, h5.2.1, if_pos (nI_le h1 (by omega)), if_pos (nI_le h1 (by omega))]
    exact dg_fl hx 3 1 FU FU h sz tm sp tr sh (by omega) (FU_big (by omega)) (FU_big (by omega))
  | cons t l ih =>
    intro k i m h sz tm sp tr sh hd hk hi hm
    obtain ⟨i, rfl⟩ : ∃ z, i = z + 1 := ⟨i - 1, by simp at hi; omega⟩
    obtain ⟨m, rfl⟩ : ∃ z, m = z + 1 := ⟨m - 1, by simp at hm; omega⟩
    obtain ⟨g1, g2, g3, g4⟩ := drop_c hd
    have hi2 : l.length < i := by simp at hi; omega
    have hm2 : l.length < m := by simp at hm; omega
    rw [b_X6_digest_108, b_X7_digest_99, r3, m3, if_neg (show ¬ rn ≤ nI k by rw [h5.2.1]; exact nI_ge g3 (by omega)), if_neg (nI_ge g3 (by omega)), nth_in h5 g1, bd1_s, r4 (by omega), m4 k t g1, mix_eq, bd1_s]
    exact dg_pl hx g1 (fun h sz tm sp tr sh => ih (k + 1) i m h sz tm sp tr sh g2 (by omega) hi2 hm2) 4 1 FU FU _ sz tm sp tr sh (by omega) (FU_big (by omega)) (FU_big (by omega))
theorem dg_of {T : Nat} {L : List Nat} {b n f st o rn : Int32} {M ms rt now : Ar} {v : Nat} {kC : Int64 → Int32 → Int32 → Int32 → Int32 → Int32 → Ar → Option (Int64 × Int32 × Int32 × Int32 × Int32 × Ar)} {kM : Int32 → Int32 → Int64 → Ar → Ar → Option (Int64 × Int32 × Int64 × Ar × Ar)} (hx : Ctx T L st o M ms rn rt now) (hv : v < T) (hk : ∀ (h : Int64) (sz tm : Int32) (sp tr sh : Ar), Dg b n f (kC h (nI (v + 1)) b n f sz sp) (kM (nI (v + 1)) tm h tr sh)) : ∀ (d k i m : Nat) (h : Int64) (sz tm : Int32) (sp tr sh : Ar), k + d = 6 → d < i → d < m → Dg b n f (b_X6_digest_73 (nI T) st ms kC i h (nI v) (nI k) b n f sz sp) (b_X7_digest_68 now kM m (nI v) (nI k) tm h tr sh) := by
  intro d
  induction d with
  | zero =>
    intro k i m h sz tm sp tr sh hk5 hi hm
    obtain ⟨i, rfl⟩ : ∃ z, i = z + 1 := ⟨i - 1, by omega⟩
    obtain ⟨m, rfl⟩ : ∃ z, m = z + 1 := ⟨m - 1, by omega⟩
    rw [b_X6_digest_73, b_X7_digest_68, if_pos (show (5 : Int32) < nI k from nI_lt (a := 5) (by omega) (by omega)), if_pos (show (6 : Int32) ≤ nI k from nI_le (a := 6) (by omega) (by omega))]
    simp only [nm, nI_1]
    exact hk h sz tm sp tr sh
  | succ d ih =>
    intro k i m h sz tm sp tr sh hk5 hi hm
    obtain ⟨i, rfl⟩ : ∃ z, i = z + 1 := ⟨i - 1, by omega⟩
    obtain ⟨m, rfl⟩ : ∃ z, m = z + 1 := ⟨m - 1, by omega⟩
    obtain ⟨r, q1, q2⟩ := of_v (b := b) (n := n) (f := f) hx hv (show k ≤ 5 by omega)
    rw [b_X6_digest_73, b_X7_digest_68, if_neg (show ¬ (5 : Int32) < nI k from nI_nlt (b := k) (a := 5) (by omega) (by omega)), if_neg (show ¬ (6 : Int32) ≤ nI k from nI_ge (b := 6) (by omega) (by omega)), q1, bd4_s, q2, bd1_s, mix_eq, bd1_s]
    simp only [nm, nI_1]
    exact ih (k + 1) i m _ sz tm sp tr sh (by omega) (by omega) (by omega)
theorem dg_tests {T : Nat} {L : List Nat} {b n f st o rn : Int32} {M ms rt now : Ar} (hx : Ctx T L st o M ms rn rt now) : ∀ (d k i m : Nat) (h : Int64) (sz tm : Int32) (sp tr sh : Ar), k + d = T → d < i → d < m → Dg b n f (b_X6_digest_59 (nI T) st o ms rn rt i h (nI k) b n f sz sp) (b_X7_digest_56 now m (nI k) tm h tr sh) := by
  have hT : T ≤ 8 := hx.1.1
  have h5 : RW L rn rt := hx.2.1.2.2.2.2
  have m0 : now 0 = nI T := hx.2.2.1
  have h8 := h5.1
  intro d
  induction d with
  | zero =>
    intro k i m h sz tm sp tr sh hd hi hm
    obtain ⟨i, rfl⟩ : ∃ z, i = z + 1 := ⟨i - 1, by omega⟩
    obtain ⟨m, rfl⟩ : ∃ z, m = z + 1 := ⟨m - 1, by omega⟩
    rw [b_X6_digest_59, b_X7_digest_56, r0, m0, if_pos (nI_le (by omega) (by omega)), if_pos (nI_le (by omega) (by omega))]
    exact dg_row hx L 0 FU FU h sz tm sp tr sh rfl (by omega) (FU_big (by omega)) (FU_big (by omega))
  | succ d ih =>
    intro k i m h sz tm sp tr sh hd hi hm
    obtain ⟨i, rfl⟩ : ∃ z, i = z + 1 := ⟨i - 1, by omega⟩
    obtain ⟨m, rfl⟩ : ∃ z, m = z + 1 := ⟨m - 1, by omega⟩
    rw [b_X6_digest_59, b_X7_digest_56, r0, m0, if_neg (nI_ge (by omega) (by omega)), if_neg (nI_ge (by omega) (by omega))]
    exact dg_of hx (show k < T by omega) (fun h sz tm sp tr sh => ih (k + 1) i m h sz tm sp tr sh (by omega) (by omega) (by omega)) 6 0 FU FU h sz tm sp tr sh (by omega) (FU_big (by omega)) (FU_big (by omega))
theorem dg_cnt {T : Nat} {L : List Nat} {b n f st o rn : Int32} {M ms rt now : Ar} (hx : Ctx T L st o M ms rn rt now) : ∀ (d k i m : Nat) (h : Int64) (sz tm : Int32) (sp tr sh : Ar), k + d = 8 → d < i → d < m → Dg b n f (b_X6_digest_32 (nI T) st o ms rn rt i h (nI k) b n f sz sp) (b_X7_digest_32 now m (nI k) tm h tr sh) := by
  have hT : T ≤ 8 := hx.1.1
  intro d
  induction d with
  | zero =>
    intro k i m h sz tm sp tr sh hd hi hm
    obtain ⟨i, rfl⟩ : ∃ z, i = z + 1 := ⟨i - 1, by omega⟩
    obtain ⟨m, rfl⟩ : ∃ z, m = z + 1 := ⟨m - 1, by omega⟩
    rw [b_X6_digest_32, b_X7_digest_32, if_pos (show (7 : Int32) < nI k from nI_lt (a := 7) (by omega) (by omega)), if_pos (show (8 : Int32) ≤ nI k from nI_le (a := 8) (by omega) (by omega))]
    exact dg_tests hx T 0 FU FU h sz tm sp tr sh (by omega) (FU_big (by omega)) (FU_big (by omega))
  | succ d ih =>
    intro k i m h sz tm sp tr sh hd hi hm
    obtain ⟨i, rfl⟩ : ∃ z, i = z + 1 := ⟨i - 1, by omega⟩
    obtain ⟨m, rfl⟩ : ∃ z, m = z + 1 := ⟨m - 1, by omega⟩
    obtain ⟨r, tm', tr', q1, q2⟩ := count_v (b := b) (n := n) (f := f) (tm := tm) (tr := tr) hx.1 hx.2.1 hx.2.2 (show k ≤ 7 by omega)
    rw [b_X6_digest_32, b_X7_digest_32, if_neg (show ¬ (7 : Int32) < nI k from nI_nlt (b := k) (a := 7) (by omega) (by omega)), if_neg (show ¬ (8 : Int32) ≤ nI k from nI_ge (b := 8) (by omega) (by omega)), q1, bd4_s, q2, bd3_s, mix_eq, bd1_s]
    simp only [nm, nI_1]
    exact ih (k + 1) i m _ sz tm' sp tr' sh (by omega) (by omega) (by omega)
theorem dg_told {T : Nat} {L : List Nat} {b n f st o rn : Int32} {M ms rt now : Ar} {P : List Sv} {K : Nat} {len bytes pz mk sn : Int32} {rf tb tx past : Ar} {pM pT : Nat → Ar} {pN pS pB pO : Nat → Int32} (hx : Ctx T L st o M ms rn rt now) (hR : Ring P pz mk pM pT pN pS pB pO) (hS : Stk P sn past) (hc : Cnt b n f rf) (ht : Txt K len tb bytes tx) : ∀ (d k i m : Nat) (h : Int64) (sz tm : Int32) (sp tr sh : Ar), k + d = 5 → d < i → d < m → Dg b n f (b_X6_digest_6 (nI T) st o ms rn rt pz len i h (nI k) b n f sz sp) (b_X7_digest_9 sn bytes now rf m (nI k) tm h tr sh) := by
  intro d
  induction d with
  | zero =>
    intro k i m h sz tm sp tr sh hd hi hm
    obtain ⟨i, rfl⟩ : ∃ z, i = z + 1 := ⟨i - 1, by omega⟩
    obtain ⟨m, rfl⟩ : ∃ z, m = z + 1 := ⟨m - 1, by omega⟩
    rw [b_X6_digest_6, b_X7_digest_9, if_pos (show (4 : Int32) < nI k from nI_lt (a := 4) (by omega) (by omega)), if_pos (show (5 : Int32) ≤ nI k from nI_le (a := 5) (by omega) (by omega))]
    exact dg_cnt hx 8 0 FU FU h sz tm sp tr sh (by omega) (FU_big (by omega)) (FU_big (by omega))
  | succ d ih =>
    intro k i m h sz tm sp tr sh hd hi hm
    obtain ⟨i, rfl⟩ : ∃ z, i = z + 1 := ⟨i - 1, by omega⟩
    obtain ⟨m, rfl⟩ : ∃ z, m = z + 1 := ⟨m - 1, by omega⟩
    obtain ⟨r, q1, q2⟩ := told_v (show k ≤ 4 by omega) hR hS hc ht
    rw [b_X6_digest_6, b_X7_digest_9, if_neg (show ¬ (4 : Int32) < nI k from nI_nlt (b := k) (a := 4) (by omega) (by omega)), if_neg (show ¬ (5 : Int32) ≤ nI k from nI_ge (b := 5) (by omega) (by omega)), q1, bd4_s, q2, bd1_s, mix_eq, bd1_s]
    simp only [nm, nI_1]
    exact ih (k + 1) i m _ sz tm sp tr sh (by omega) (by omega) (by omega)
theorem digest_sim {σ : Sv} {b n f sz st mo rn sps tm : Int32} {hs : Int64} {ms rt now sp tr sh : Ar} {P : List Sv} {K : Nat} {len bytes pz mk sn : Int32} {rf tb tx past : Ar} {pM pT : Nat → Ar} {pN pS pB pO : Nat → Int32} (hok : okS σ) (hC : CS σ sz st mo ms rn rt) (hM : MS σ now) (hR : Ring P pz mk pM pT pN pS pB pO) (hS : Stk P sn past) (hc : Cnt b n f rf) (ht : Txt K len tb bytes tx) : ∃ r sps' sp' tm' hs' tr' sh', f_X6_digest b n f sz st mo ms rn rt pz len sps sp = some (r, b, n, f, sps', sp') ∧ f_X7_digest sn bytes tm hs now rf tr sh = some (r, tm', hs', tr', sh') := by
  obtain ⟨T, L, s, o, M⟩ := σ
  have hC0 := hC
  obtain ⟨rfl, h2, h3, h4, h5⟩ := hC
  dsimp only at h2 h3
  subst h2 h3
  obtain ⟨r, sz', sp', tm', tr', sh', q1, q2⟩ := dg_told (b := b) (n := n) (f := f) ⟨hok, hC0, hM⟩ hR hS hc ht 5 0 FU FU 18056 sps tm sp tr sh (by omega) (FU_big (by omega)) (FU_big (by omega))
  exact ⟨r, sz', sp', tm', r, tr', sh', q1, q2⟩
