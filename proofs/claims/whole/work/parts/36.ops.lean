/-! what the orders do to a suite: class and reference -/
def okA (a : Int32) : Prop := (∃ n, n ≤ 1000 ∧ a = nI n) ∨ a = -2 ∨ a = -3 ∨ a = -4
theorem up1 {f g : Ar} {n : Nat} (x : Int32) (h : ∀ i, i < n → f i = g i) : ∀ i, i < n + 1 → upd f n x i = upd g n x i := by
  intro i hi
  by_cases e : i = n
  · subst e; rw [upd_s, upd_s]
  · rw [upd_n e, upd_n e]; exact h i (by omega)
theorem up12 {f g : Ar} {n : Nat} (x : Int32) (h : ∀ i, i < n → f (12 + i) = g i) : ∀ i, i < n + 1 → upd f (12 + n) x (12 + i) = upd g n x i := by
  intro i hi
  by_cases e : i = n
  · subst e; rw [upd_s, upd_s]
  · rw [upd_n (by omega), upd_n e]; exact h i (by omega)
def put5 (M : Ar) (n : Nat) (a b c d e : Int32) : Ar := upd (upd (upd (upd (upd M n a) (n + 1) b) (n + 2) c) (n + 3) d) (n + 4) e
theorem put5_C {f g : Ar} {n : Nat} (a b c d e : Int32) (h : ∀ i, i < n → f i = g i) : ∀ i, i < n + 5 → put5 f n a b c d e i = put5 g n a b c d e i := up1 e (up1 d (up1 c (up1 b (up1 a h))))
theorem put5_M {f g : Ar} {n : Nat} (a b c d e : Int32) (h : ∀ i, i < n → f (12 + i) = g i) : ∀ i, i < n + 5 → put5 f (12 + n) a b c d e (12 + i) = put5 g n a b c d e i := up12 e (up12 d (up12 c (up12 b (up12 a h))))
theorem put5_lo {f : Ar} {n j : Nat} {a b c d e : Int32} (h : j < n) : put5 f n a b c d e j = f j := by
  unfold put5
  rw [upd_n (by omega), upd_n (by omega), upd_n (by omega), upd_n (by omega), upd_n (by omega)]
theorem ix12z (t : Nat) : nI 12 + nI 5 * nI t = nI (12 + (5 * t + 0)) := by rw [pk_mul, nI_add]; rfl
theorem addTest_sim {σ : Sv} {sz st mo rn : Int32} {ms rt now : Ar} (x1 x2 x3 x4 x5 : Int32) (hok : okS σ) (hC : CS σ sz st mo ms rn rt) (hM : MS σ now) : ∃ ans σ' sz' ms' now', f_X4_addTest sz ms x1 x2 x3 x4 x5 = some (ans, sz', ms') ∧ f_X7_putTest now x1 x2 x3 x4 x5 = some (ans, now') ∧ CS σ' sz' st mo ms' rn rt ∧ MS σ' now' ∧ okS σ' ∧ okA ans := by
  obtain ⟨T, L, s, o, M⟩ := σ
  obtain ⟨rfl, h2, h3, h4, h5⟩ := hC
  obtain ⟨m0, m1, m2, m3, m4, m5⟩ := hM
  have hT : T ≤ 8 := hok.1
  dsimp only at h2 h3 h4 h5 m0 m1 m2 m3 m4 m5
  have bad : ∃ ans σ' sz' ms' now', some ((-2 : Int32), nI T, ms) = some (ans, sz', ms') ∧ some ((-2 : Int32), now) = some (ans, now') ∧ CS σ' sz' st mo ms' rn rt ∧ MS σ' now' ∧ okS σ' ∧ okA ans := ⟨-2, (T, L, s, o, M), nI T, ms, now, rfl, rfl, ⟨rfl, h2, h3, h4, h5⟩, ⟨m0, m1, m2, m3, m4, m5⟩, hok, Or.inr (Or.inl rfl)⟩
  unfold f_X4_addTest f_X7_putTest
  simp only [areCells_eq]
  obtain ⟨b1, e1⟩ : ∃ b, f_X7_in x1 0 63 = some b := ⟨_, in_eq _ _ _⟩
  obtain ⟨b2, e2⟩ : ∃ b, f_X7_in x2 0 63 = some b := ⟨_, in_eq _ _ _⟩
  obtain ⟨b3, e3⟩ : ∃ b, f_X7_in x3 0 63 = some b := ⟨_, in_eq _ _ _⟩
  obtain ⟨b4, e4⟩ : ∃ b, f_X7_in x4 0 63 = some b := ⟨_, in_eq _ _ _⟩
  obtain ⟨b5, e5⟩ : ∃ b, f_X7_in x5 0 63 = some b := ⟨_, in_eq _ _ _⟩
  rw [e1, e2, e3, e4, e5]
  simp only [bd1, if_b0]
  unfold b_X7_putTest_57
  rw [if_pos (show (0 : Int32) = 0 from rfl), if_neg (show ¬ (1 : Int32) = 0 by decide)]
  cases b1
  · exact bad
  cases b2
  · exact bad
  cases b3
  · exact bad
  cases b4
  · exact bad
  cases b5
  · exact bad
  simp only [if_true]
  by_cases c1 : x1 &&& x2 = 0
  case neg => rw [if_neg c1, if_neg c1]; exact bad
  rw [if_pos c1, if_pos c1]
  by_cases c2 : x3 &&& x4 = 0
  case neg => rw [if_neg c2, if_neg c2]; exact bad
  rw [if_pos c2, if_pos c2]
  by_cases c3 : x3 &&& x5 = 0
  case neg => rw [if_neg c3, if_neg c3]; exact bad
  rw [if_pos c3, if_pos c3]
  by_cases c4 : x4 &&& x5 = 0
  case neg => rw [if_neg c4, if_neg c4]; exact bad
  rw [if_pos c4, if_pos c4, if_neg (nI_pos (by omega)), r0, m0]
  by_cases hT8 : T = 8
  · subst hT8
    rw [if_neg (show ¬ nI 8 < (8 : Int32) by decide), if_pos (show nI 8 = (8 : Int32) from rfl)]
    exact ⟨-4, (8, L, s, o, M), nI 8, ms, now, rfl, rfl, ⟨rfl, h2, h3, h4, h5⟩, ⟨m0, m1, m2, m3, m4, m5⟩, hok, Or.inr (Or.inr (Or.inr rfl))⟩
  · rw [if_pos (c8l (by omega)), if_neg (show ¬ nI T = (8 : Int32) from fun q => hT8 ((nI_eq (b := 8) (by omega) (by omega)).mp q)), r0, m0]
    simp only [nm]
    rw [wr_at (i := nI T * 5 + 0) (5 * T + 0) (ix5 T 0) (by omega) (by omega), wr_at (i := nI T * 5 + 1) (5 * T + 1) (ix5 T 1) (by omega) (by omega), wr_at (i := nI T * 5 + 2) (5 * T + 2) (ix5 T 2) (by omega) (by omega), wr_at (i := nI T * 5 + 3) (5 * T + 3) (ix5 T 3) (by omega) (by omega), wr_at (i := nI T * 5 + 4) (5 * T + 4) (ix5 T 4) (by omega) (by omega)]
    rw [wr_at (i := 12 + 5 * nI T) (12 + (5 * T + 0)) (ix12z T) (by omega) (by omega), wr_at (i := 12 + 5 * nI T + 1) (12 + (5 * T + 1)) (ix12 T 1) (by omega) (by omega), wr_at (i := 12 + 5 * nI T + 2) (12 + (5 * T + 2)) (ix12 T 2) (by omega) (by omega), wr_at (i := 12 + 5 * nI T + 3) (12 + (5 * T + 3)) (ix12 T 3) (by omega) (by omega), wr_at (i := 12 + 5 * nI T + 4) (12 + (5 * T + 4)) (ix12 T 4) (by omega) (by omega)]
    rw [r0, w0, r0, upd_s]
    have hz : put5 now (12 + 5 * T) x1 x2 x3 x4 x5 0 = nI T := by rw [put5_lo (by omega)]; exact m0
    have hz' : upd (upd (upd (upd (upd now (12 + (5 * T + 0)) x1) (12 + (5 * T + 1)) x2) (12 + (5 * T + 2)) x3) (12 + (5 * T + 3)) x4) (12 + (5 * T + 4)) x5 0 = nI T := hz
    rw [hz', nI_1, nI_pred]
    refine ⟨nI T, (T + 1, L, s, o, put5 M (5 * T) x1 x2 x3 x4 x5), nI (T + 1), put5 ms (5 * T) x1 x2 x3 x4 x5, upd (put5 now (12 + 5 * T) x1 x2 x3 x4 x5) 0 (nI (T + 1)), rfl, rfl, ⟨rfl, h2, h3, ?_, h5⟩, ⟨upd_s, ?_, ?_, ?_, ?_, ?_⟩, ⟨?_, hok.2.1, ?_, hok.2.2.2.1, hok.2.2.2.2⟩, Or.inl ⟨T, by omega, rfl⟩⟩
    · intro i hi
      exact put5_C x1 x2 x3 x4 x5 h4 i (by dsimp only at hi; omega)
    · rw [upd_n (by omega), put5_lo (by omega)]; exact m1
    · rw [upd_n (by omega), put5_lo (by omega)]; exact m2
    · rw [upd_n (by omega), put5_lo (by omega)]; exact m3
    · intro k t hk
      have hlt := (List.getElem?_eq_some_iff.mp hk).1
      have h8 := okS_len hok
      dsimp only at hlt h8
      rw [upd_n (by omega), put5_lo (by omega)]
      exact m4 k t hk
    · intro i hi
      rw [upd_n (by omega)]
      exact put5_M x1 x2 x3 x4 x5 m5 i (by dsimp only at hi; omega)
    · show T + 1 ≤ 8
      omega
    · intro t ht
      have := hok.2.2.1 t ht
      show t < T + 1
      dsimp only at this
      omega
theorem change_ok {now : Ar} {x m : Int32} {j : Nat} {p : Int32} (hp : p = nI j) (hj : j < 52) : f_X7_change now p x m = bd1 (f_X7_in x 0 m) (fun r1 => if b2i r1 = 0 then some (-2, now) else some (now j, upd now j x)) := by
  unfold f_X7_change
  rw [rd_at j hp hj (by omega), wr_at j hp hj (by omega)]
theorem start_sim {σ : Sv} {sz st mo rn : Int32} {ms rt now : Ar} (x : Int32) (hok : okS σ) (hC : CS σ sz st mo ms rn rt) (hM : MS σ now) : ∃ ans σ' st' now', f_X4_changeStart st x = some (ans, st') ∧ f_X7_change now 1 x 63 = some (ans, now') ∧ CS σ' sz st' mo ms rn rt ∧ MS σ' now' ∧ okS σ' ∧ okA ans := by
  obtain ⟨T, L, s, o, M⟩ := σ
  have hC0 := hC
  have hM0 := hM
  obtain ⟨rfl, h2, h3, h4, h5⟩ := hC
  obtain ⟨m0, m1, m2, m3, m4, m5⟩ := hM
  dsimp only at h2 h3 h4 h5 m0 m1 m2 m3 m4 m5
  have hT : T ≤ 8 := hok.1
  have h8 := okS_len hok
  dsimp only at h8
  rw [change_ok (p := 1) (j := 1) rfl (by omega)]
  unfold f_X4_changeStart
  simp only [areCells_eq]
  rcases in_num (x := x) (m := 63) (M := 63) rfl (by omega) with ⟨j, hj, ej, e⟩ | e
  · rw [e]
    simp only [bd1, if_b0, if_true]
    obtain ⟨js, hjs, es⟩ := hok.2.2.2.1
    dsimp only at es
    refine ⟨s, (T, L, x, o, M), x, upd now 1 x, by rw [h2], by rw [m1], ⟨rfl, rfl, h3, h4, h5⟩, ⟨?_, upd_s, ?_, ?_, ?_, ?_⟩, ⟨hT, hok.2.1, hok.2.2.1, ⟨j, hj, ej⟩, hok.2.2.2.2⟩, Or.inl ⟨js, by omega, es⟩⟩
    · rw [upd_n (by omega)]; exact m0
    · rw [upd_n (by omega)]; exact m2
    · rw [upd_n (by omega)]; exact m3
    · intro k t hk
      rw [upd_n (by omega)]; exact m4 k t hk
    · intro i hi
      rw [upd_n (by omega)]; exact m5 i hi
  · rw [e]
    exact ⟨-2, (T, L, s, o, M), st, now, rfl, rfl, hC0, hM0, hok, Or.inr (Or.inl rfl)⟩
theorem mode_sim {σ : Sv} {sz st mo rn : Int32} {ms rt now : Ar} (x : Int32) (hok : okS σ) (hC : CS σ sz st mo ms rn rt) (hM : MS σ now) : ∃ ans σ' mo' now', f_X4_changeMode mo x = some (ans, mo') ∧ f_X7_change now 2 x 1 = some (ans, now') ∧ CS σ' sz st mo' ms rn rt ∧ MS σ' now' ∧ okS σ' ∧ okA ans := by
  obtain ⟨T, L, s, o, M⟩ := σ
  have hC0 := hC
  have hM0 := hM
  obtain ⟨rfl, h2, h3, h4, h5⟩ := hC
  obtain ⟨m0, m1, m2, m3, m4, m5⟩ := hM
  dsimp only at h2 h3 h4 h5 m0 m1 m2 m3 m4 m5
  have hT : T ≤ 8 := hok.1
  rw [change_ok (p := 2) (j := 2) rfl (by omega)]
  have good : ∀ x : Int32, x = 0 ∨ x = 1 → ∃ ans σ' mo' now', some (mo, x) = some (ans, mo') ∧ some (now 2, upd now 2 x) = some (ans, now') ∧ CS σ' (nI T) st mo' ms rn rt ∧ MS σ' now' ∧ okS σ' ∧ okA ans := by
    intro x hx
    have hm := hok.2.2.2.2
    dsimp only at hm
    refine ⟨o, (T, L, s, x, M), x, upd now 2 x, by rw [h3], by rw [m2], ⟨rfl, h2, rfl, h4, h5⟩, ⟨?_, ?_, upd_s, ?_, ?_, ?_⟩, ⟨hT, hok.2.1, hok.2.2.1, hok.2.2.2.1, hx⟩, ?_⟩
    · rw [upd_n (by omega)]; exact m0
    · rw [upd_n (by omega)]; exact m1
    · rw [upd_n (by omega)]; exact m3
    · intro k t hk
      rw [upd_n (by omega)]; exact m4 k t hk
    · intro i hi
      rw [upd_n (by omega)]; exact m5 i hi
    · rcases hm with h | h
      · exact Or.inl ⟨0, by omega, h⟩
      · exact Or.inl ⟨1, by omega, h⟩
  unfold f_X4_changeMode
  rcases in_num (x := x) (m := 1) (M := 1) rfl (by omega) with ⟨j, hj, ej, e⟩ | e
  · rw [e]
    simp only [bd1, if_b0, if_true]
    rcases (show j = 0 ∨ j = 1 by omega) with rfl | rfl
    · rw [if_pos (show x = 0 from ej)]
      exact good x (Or.inl ej)
    · rw [if_neg (show ¬ x = 0 by rw [ej]; decide), if_pos (show x = 1 from ej)]
      exact good x (Or.inr ej)
  · rw [e]
    have n0 : ¬ x = 0 := fun q => by rw [q] at e; cases e
    have n1 : ¬ x = 1 := fun q => by rw [q] at e; cases e
    rw [if_neg n0, if_neg n1]
    exact ⟨-2, (T, L, s, o, M), mo, now, rfl, rfl, hC0, hM0, hok, Or.inr (Or.inl rfl)⟩
theorem wipe_sim {σ : Sv} {sz st mo rn : Int32} {ms rt now : Ar} (hok : okS σ) (hC : CS σ sz st mo ms rn rt) (hM : MS σ now) : ∃ ans σ' rn' now', f_X4_wipeRow rn = some (ans, rn') ∧ f_X7_putWiped now = some (ans, now') ∧ CS σ' sz st mo ms rn' rt ∧ MS σ' now' ∧ okS σ' ∧ okA ans := by
  obtain ⟨T, L, s, o, M⟩ := σ
  obtain ⟨rfl, h2, h3, h4, h5⟩ := hC
  obtain ⟨m0, m1, m2, m3, m4, m5⟩ := hM
  dsimp only at h2 h3 h4 h5 m0 m1 m2 m3 m4 m5
  have h8 := h5.1
  refine ⟨nI L.length, (T, [], s, o, M), 0, upd now 3 0, ?_, ?_, ⟨rfl, h2, h3, h4, ⟨by simp, rfl, by simp, by simp⟩⟩, ⟨?_, ?_, ?_, upd_s, by simp, ?_⟩, ⟨hok.1, by simp, by simp, hok.2.2.2.1, hok.2.2.2.2⟩, Or.inl ⟨L.length, by omega, rfl⟩⟩
  · unfold f_X4_wipeRow f_X3_makeEmpty
    rw [h5.2.1]
    rfl
  · unfold f_X7_putWiped
    rw [r3, w3, m3]
  · rw [upd_n (by omega)]; exact m0
  · rw [upd_n (by omega)]; exact m1
  · rw [upd_n (by omega)]; exact m2
  · intro i hi
    rw [upd_n (by omega)]; exact m5 i hi
theorem placeM_go {L : List Nat} {now : Ar} {t : Nat} (h8 : L.length ≤ 8) (hb : ∀ a ∈ L, a < 8) (h3 : now 3 = nI L.length) (h4 : ∀ k t, L[k]? = some t → now (4 + k) = nI t) (ht : t < 8) : ∀ (l : List Nat) (k n : Nat), L.drop k = l → k ≤ L.length → l.length < n → b_X7_placeOf_2 now (nI t) n (nI k) = some (ansO (fnd t l k)) := by
  intro l
  induction l with
  | nil =>
    intro k n hl hk hn
    obtain ⟨n, rfl⟩ : ∃ z, n = z + 1 := ⟨n - 1, by omega⟩
    rw [b_X7_placeOf_2, r3, h3, if_pos (nI_le (drop_n hl) (by omega))]
    rfl
  | cons a l ih =>
    intro k n hl hk hn
    obtain ⟨n, rfl⟩ : ∃ z, n = z + 1 := ⟨n - 1, by omega⟩
    obtain ⟨g1, g2, g3, g4⟩ := drop_c hl
    have ha := hb a g4
    rw [b_X7_placeOf_2, r3, h3, if_neg (nI_ge g3 (by omega)), r4 (by omega), h4 k a g1]
    simp only [nm, nI_1, fnd]
    by_cases hat : a = t
    · rw [if_pos hat, if_pos (by rw [hat])]
      rfl
    · rw [if_neg hat, if_neg (fun q => hat ((nI_eq (by omega) (by omega)).mp q))]
      exact ih (k + 1) n g2 (by omega) (by simpa using hn)
theorem placeM_eq {L : List Nat} {now : Ar} {t : Nat} (h8 : L.length ≤ 8) (hb : ∀ a ∈ L, a < 8) (h3 : now 3 = nI L.length) (h4 : ∀ k t, L[k]? = some t → now (4 + k) = nI t) (ht : t < 8) : f_X7_placeOf now (nI t) = some (ansO (fnd t L 0)) := placeM_go h8 hb h3 h4 ht L 0 FU rfl (by omega) (FU_big (by omega))
theorem ansO_n {o : Option Nat} (h : ∀ k, o = some k → k < 1000) : (ansO o = -1) ↔ o = none := by
  cases o with
  | none => simp [ansO]
  | some k =>
    have hk := h k rfl
    simp only [ansO, reduceCtorEq, iff_false]
    intro q
    have h1 := congrArg Int32.toInt q
    rw [nI_toInt (by omega)] at h1
    have h2 : (-1 : Int32).toInt = -1 := by decide
    omega
theorem fnd_lt {t : Nat} {L : List Nat} {k : Nat} (h : fnd t L 0 = some k) : k < L.length ∧ L[k]? = some t := by
  have h1 := fnd_some h
  exact ⟨(List.getElem?_eq_some_iff.mp h1.2).1, by simpa using h1.2⟩
theorem lay_sim {σ : Sv} {sz st mo rn : Int32} {ms rt now : Ar} (x : Int32) (hok : okS σ) (hC : CS σ sz st mo ms rn rt) (hM : MS σ now) : ∃ ans σ' rn' rt' now', f_X4_layTest sz rn rt x = some (ans, rn', rt') ∧ f_X7_putLaid now x = some (ans, now') ∧ CS σ' sz st mo ms rn' rt' ∧ MS σ' now' ∧ okS σ' ∧ okA ans := by
  obtain ⟨T, L, s, o, M⟩ := σ
  have hC0 := hC
  have hM0 := hM
  obtain ⟨rfl, h2, h3, h4, h5⟩ := hC
  obtain ⟨m0, m1, m2, m3, m4, m5⟩ := hM
  dsimp only at h2 h3 h4 h5 m0 m1 m2 m3 m4 m5
  have hT : T ≤ 8 := hok.1
  have h8 := h5.1
  unfold f_X4_layTest f_X7_putLaid
  rcases tests_eq hT m0 x with ⟨t, ht, rfl, e1, e2⟩ | ⟨e1, e2⟩
  · rw [e1, e2]
    simp only [bd1, if_b0, if_true]
    rw [placeOf_eq h5 (by omega), placeM_eq h8 h5.2.2.2 m3 m4 (by omega)]
    simp only [bd1]
    have hn := ansO_n (o := fnd t L 0) (fun k hk => by have := (fnd_lt hk).1; omega)
    by_cases hf : fnd t L 0 = none
    · rw [if_pos (hn.mpr hf), if_pos (hn.mpr hf)]
      have hnot : t ∉ L := fnd_none.mp hf
      have hlen : (t :: L).length ≤ T := pigeon T (t :: L) (List.nodup_cons.mpr ⟨hnot, hok.2.1⟩) (fun y hy => by
        rcases List.mem_cons.mp hy with rfl | hy
        · exact ht
        · exact hok.2.2.1 y hy)
      simp at hlen
      obtain ⟨g1, g2⟩ := append_eq h5 (by omega) (show t < 8 by omega)
      rw [g1, r3, m3, w4 (by omega), r3, upd_n (by omega), m3, w3, r3, upd_s, nI_1]
      refine ⟨nI (L.length + 1), (T, L ++ [t], s, o, M), _, _, upd (upd now (4 + L.length) (nI t)) 3 (nI (L.length + 1)), rfl, rfl, ⟨rfl, h2, h3, h4, g2⟩, ⟨?_, ?_, ?_, ?_, ?_, ?_⟩, ⟨hT, ?_, ?_, hok.2.2.2.1, hok.2.2.2.2⟩, Or.inl ⟨L.length + 1, by omega, rfl⟩⟩
      · rw [upd_n (by omega), upd_n (by omega)]; exact m0
      · rw [upd_n (by omega), upd_n (by omega)]; exact m1
      · rw [upd_n (by omega), upd_n (by omega)]; exact m2
      · rw [upd_s]; simp
      · intro k u hk
        rw [upd_n (by omega)]
        dsimp only at hk
        by_cases hkl : k = L.length
        · subst hkl
          rw [List.getElem?_append_right (Nat.le_refl _)] at hk
          simp at hk
          rw [upd_s, hk]
        · have h1 : k < L.length := by
            have := (List.getElem?_eq_some_iff.mp hk).1
            simp at this
            omega
          rw [List.getElem?_append_left h1] at hk
          rw [upd_n (by omega)]
          exact m4 k u hk
      · intro i hi
        rw [upd_n (by omega), upd_n (by omega)]; exact m5 i hi
      · show (L ++ [t]).Nodup
        rw [List.nodup_append]
        refine ⟨hok.2.1, by simp, fun a ha b hb => ?_⟩
        simp at hb
        subst hb
        exact fun q => hnot (q ▸ ha)
      · intro y hy
        rcases List.mem_append.mp hy with q | q
        · exact hok.2.2.1 y q
        · simp at q
          subst q
          exact ht
    · rw [if_neg (fun q => hf (hn.mp q)), if_neg (fun q => hf (hn.mp q))]
      exact ⟨-3, (T, L, s, o, M), rn, rt, now, rfl, rfl, hC0, hM0, hok, Or.inr (Or.inr (Or.inl rfl))⟩
  · rw [e1, e2]
    exact ⟨-2, (T, L, s, o, M), rn, rt, now, rfl, rfl, hC0, hM0, hok, Or.inr (Or.inl rfl)⟩
