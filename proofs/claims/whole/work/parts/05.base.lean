/-! the form of the contracts: pure words, worlds, calls -/
abbrev Ar : Type := Nat → Int32
def b2i (b : Bool) : Int32 := cond b 1 0
def FU : Nat := 1000
def rd {α : Type} (f : Ar) (n : Nat) (i : Int32) (k : Int32 → Option α) : Option α := if i < 0 then none else if n ≤ i.toNatClampNeg then none else k (f i.toNatClampNeg)
def wr {α : Type} (f : Ar) (n : Nat) (i x : Int32) (k : Ar → Option α) : Option α := if i < 0 then none else if n ≤ i.toNatClampNeg then none else k (upd f i.toNatClampNeg x)
def dv {α : Type} (y : Int32) (k : Option α) : Option α := if y = 0 then none else k
def dvl {α : Type} (y : Int64) (k : Option α) : Option α := if y = 0 then none else k
def nm {α β : Type} (x : α) (k : α → β) : β := k x
theorem nm_use {α β : Type} {x v : α} {k : α → β} {o : β} (h : nm x k = o) (e : v = x) : k v = o := by
  subst e
  exact h
theorem rd_use {α : Type} {f : Ar} {n : Nat} {i : Int32} {k : Int32 → Option α} {o : α} (h : rd f n i k = some o) : vp_in i n ∧ k (f i.toNatClampNeg) = some o := by
  unfold rd at h
  by_cases h1 : i < 0
  · rw [if_pos h1] at h
    cases h
  · rw [if_neg h1] at h
    by_cases h2 : n ≤ i.toNatClampNeg
    · rw [if_pos h2] at h
      cases h
    · rw [if_neg h2] at h
      exact ⟨fun q => q.elim h1 h2, h⟩
theorem wr_use {α : Type} {f : Ar} {n : Nat} {i x : Int32} {k : Ar → Option α} {o : α} (h : wr f n i x k = some o) : vp_in i n ∧ k (upd f i.toNatClampNeg x) = some o := by
  unfold wr at h
  by_cases h1 : i < 0
  · rw [if_pos h1] at h
    cases h
  · rw [if_neg h1] at h
    by_cases h2 : n ≤ i.toNatClampNeg
    · rw [if_pos h2] at h
      cases h
    · rw [if_neg h2] at h
      exact ⟨fun q => q.elim h1 h2, h⟩
theorem dv_use {α : Type} {y : Int32} {k : Option α} {o : α} (h : dv y k = some o) : ¬ y = 0 ∧ k = some o := by
  unfold dv at h
  by_cases h1 : y = 0
  · rw [if_pos h1] at h
    cases h
  · rw [if_neg h1] at h
    exact ⟨h1, h⟩
theorem dvl_use {α : Type} {y : Int64} {k : Option α} {o : α} (h : dvl y k = some o) : ¬ y = 0 ∧ k = some o := by
  unfold dvl at h
  by_cases h1 : y = 0
  · rw [if_pos h1] at h
    cases h
  · rw [if_neg h1] at h
    exact ⟨h1, h⟩
theorem it_t {α : Type} {c : Prop} [Decidable c] {x y o : α} (hc : c) (h : (if c then x else y) = o) : x = o := by rw [if_pos hc] at h; exact h
theorem it_f {α : Type} {c : Prop} [Decidable c] {x y o : α} (hc : ¬ c) (h : (if c then x else y) = o) : y = o := by rw [if_neg hc] at h; exact h
theorem nn_no {α : Type} {o : α} {p : Prop} (h : (none : Option α) = some o) : p := by cases h
theorem b2i_nar (b : Bool) : narrow .boolean (.int (b2i b)) = .int (b2i b) := by cases b <;> rfl
def bd1 {α1 β : Type} (x : Option (α1)) (k : α1 → Option β) : Option β := match x with | none => none | some (a1) => k a1
theorem bd1_use {α1 β : Type} {x : Option (α1)} {k : α1 → Option β} {o : β} (h : bd1 x k = some o) : ∃ a1, x = some (a1) ∧ k a1 = some o := by
  cases x with
  | none => cases h
  | some q => exact ⟨q, rfl, h⟩
def bd2 {α1 α2 β : Type} (x : Option (α1 × α2)) (k : α1 → α2 → Option β) : Option β := match x with | none => none | some (a1, a2) => k a1 a2
theorem bd2_use {α1 α2 β : Type} {x : Option (α1 × α2)} {k : α1 → α2 → Option β} {o : β} (h : bd2 x k = some o) : ∃ a1 a2, x = some (a1, a2) ∧ k a1 a2 = some o := by
  cases x with
  | none => cases h
  | some q =>
    obtain ⟨a1, a2⟩ := q
    exact ⟨a1, a2, rfl, h⟩
def bd3 {α1 α2 α3 β : Type} (x : Option (α1 × α2 × α3)) (k : α1 → α2 → α3 → Option β) : Option β := match x with | none => none | some (a1, a2, a3) => k a1 a2 a3
theorem bd3_use {α1 α2 α3 β : Type} {x : Option (α1 × α2 × α3)} {k : α1 → α2 → α3 → Option β} {o : β} (h : bd3 x k = some o) : ∃ a1 a2 a3, x = some (a1, a2, a3) ∧ k a1 a2 a3 = some o := by
  cases x with
  | none => cases h
  | some q =>
    obtain ⟨a1, a2, a3⟩ := q
    exact ⟨a1, a2, a3, rfl, h⟩
def bd4 {α1 α2 α3 α4 β : Type} (x : Option (α1 × α2 × α3 × α4)) (k : α1 → α2 → α3 → α4 → Option β) : Option β := match x with | none => none | some (a1, a2, a3, a4) => k a1 a2 a3 a4
theorem bd4_use {α1 α2 α3 α4 β : Type} {x : Option (α1 × α2 × α3 × α4)} {k : α1 → α2 → α3 → α4 → Option β} {o : β} (h : bd4 x k = some o) : ∃ a1 a2 a3 a4, x = some (a1, a2, a3, a4) ∧ k a1 a2 a3 a4 = some o := by
  cases x with
  | none => cases h
  | some q =>
    obtain ⟨a1, a2, a3, a4⟩ := q
    exact ⟨a1, a2, a3, a4, rfl, h⟩
def bd5 {α1 α2 α3 α4 α5 β : Type} (x : Option (α1 × α2 × α3 × α4 × α5)) (k : α1 → α2 → α3 → α4 → α5 → Option β) : Option β := match x with | none => none | some (a1, a2, a3, a4, a5) => k a1 a2 a3 a4 a5
theorem bd5_use {α1 α2 α3 α4 α5 β : Type} {x : Option (α1 × α2 × α3 × α4 × α5)} {k : α1 → α2 → α3 → α4 → α5 → Option β} {o : β} (h : bd5 x k = some o) : ∃ a1 a2 a3 a4 a5, x = some (a1, a2, a3, a4, a5) ∧ k a1 a2 a3 a4 a5 = some o := by
  cases x with
  | none => cases h
  | some q =>
    obtain ⟨a1, a2, a3, a4, a5⟩ := q
    exact ⟨a1, a2, a3, a4, a5, rfl, h⟩
def bd6 {α1 α2 α3 α4 α5 α6 β : Type} (x : Option (α1 × α2 × α3 × α4 × α5 × α6)) (k : α1 → α2 → α3 → α4 → α5 → α6 → Option β) : Option β := match x with | none => none | some (a1, a2, a3, a4, a5, a6) => k a1 a2 a3 a4 a5 a6
theorem bd6_use {α1 α2 α3 α4 α5 α6 β : Type} {x : Option (α1 × α2 × α3 × α4 × α5 × α6)} {k : α1 → α2 → α3 → α4 → α5 → α6 → Option β} {o : β} (h : bd6 x k = some o) : ∃ a1 a2 a3 a4 a5 a6, x = some (a1, a2, a3, a4, a5, a6) ∧ k a1 a2 a3 a4 a5 a6 = some o := by
  cases x with
  | none => cases h
  | some q =>
    obtain ⟨a1, a2, a3, a4, a5, a6⟩ := q
    exact ⟨a1, a2, a3, a4, a5, a6, rfl, h⟩
def bd7 {α1 α2 α3 α4 α5 α6 α7 β : Type} (x : Option (α1 × α2 × α3 × α4 × α5 × α6 × α7)) (k : α1 → α2 → α3 → α4 → α5 → α6 → α7 → Option β) : Option β := match x with | none => none | some (a1, a2, a3, a4, a5, a6, a7) => k a1 a2 a3 a4 a5 a6 a7
theorem bd7_use {α1 α2 α3 α4 α5 α6 α7 β : Type} {x : Option (α1 × α2 × α3 × α4 × α5 × α6 × α7)} {k : α1 → α2 → α3 → α4 → α5 → α6 → α7 → Option β} {o : β} (h : bd7 x k = some o) : ∃ a1 a2 a3 a4 a5 a6 a7, x = some (a1, a2, a3, a4, a5, a6, a7) ∧ k a1 a2 a3 a4 a5 a6 a7 = some o := by
  cases x with
  | none => cases h
  | some q =>
    obtain ⟨a1, a2, a3, a4, a5, a6, a7⟩ := q
    exact ⟨a1, a2, a3, a4, a5, a6, a7, rfl, h⟩
def bd8 {α1 α2 α3 α4 α5 α6 α7 α8 β : Type} (x : Option (α1 × α2 × α3 × α4 × α5 × α6 × α7 × α8)) (k : α1 → α2 → α3 → α4 → α5 → α6 → α7 → α8 → Option β) : Option β := match x with | none => none | some (a1, a2, a3, a4, a5, a6, a7, a8) => k a1 a2 a3 a4 a5 a6 a7 a8
theorem bd8_use {α1 α2 α3 α4 α5 α6 α7 α8 β : Type} {x : Option (α1 × α2 × α3 × α4 × α5 × α6 × α7 × α8)} {k : α1 → α2 → α3 → α4 → α5 → α6 → α7 → α8 → Option β} {o : β} (h : bd8 x k = some o) : ∃ a1 a2 a3 a4 a5 a6 a7 a8, x = some (a1, a2, a3, a4, a5, a6, a7, a8) ∧ k a1 a2 a3 a4 a5 a6 a7 a8 = some o := by
  cases x with
  | none => cases h
  | some q =>
    obtain ⟨a1, a2, a3, a4, a5, a6, a7, a8⟩ := q
    exact ⟨a1, a2, a3, a4, a5, a6, a7, a8, rfl, h⟩
def bd9 {α1 α2 α3 α4 α5 α6 α7 α8 α9 β : Type} (x : Option (α1 × α2 × α3 × α4 × α5 × α6 × α7 × α8 × α9)) (k : α1 → α2 → α3 → α4 → α5 → α6 → α7 → α8 → α9 → Option β) : Option β := match x with | none => none | some (a1, a2, a3, a4, a5, a6, a7, a8, a9) => k a1 a2 a3 a4 a5 a6 a7 a8 a9
theorem bd9_use {α1 α2 α3 α4 α5 α6 α7 α8 α9 β : Type} {x : Option (α1 × α2 × α3 × α4 × α5 × α6 × α7 × α8 × α9)} {k : α1 → α2 → α3 → α4 → α5 → α6 → α7 → α8 → α9 → Option β} {o : β} (h : bd9 x k = some o) : ∃ a1 a2 a3 a4 a5 a6 a7 a8 a9, x = some (a1, a2, a3, a4, a5, a6, a7, a8, a9) ∧ k a1 a2 a3 a4 a5 a6 a7 a8 a9 = some o := by
  cases x with
  | none => cases h
  | some q =>
    obtain ⟨a1, a2, a3, a4, a5, a6, a7, a8, a9⟩ := q
    exact ⟨a1, a2, a3, a4, a5, a6, a7, a8, a9, rfl, h⟩
def bd10 {α1 α2 α3 α4 α5 α6 α7 α8 α9 α10 β : Type} (x : Option (α1 × α2 × α3 × α4 × α5 × α6 × α7 × α8 × α9 × α10)) (k : α1 → α2 → α3 → α4 → α5 → α6 → α7 → α8 → α9 → α10 → Option β) : Option β := match x with | none => none | some (a1, a2, a3, a4, a5, a6, a7, a8, a9, a10) => k a1 a2 a3 a4 a5 a6 a7 a8 a9 a10
theorem bd10_use {α1 α2 α3 α4 α5 α6 α7 α8 α9 α10 β : Type} {x : Option (α1 × α2 × α3 × α4 × α5 × α6 × α7 × α8 × α9 × α10)} {k : α1 → α2 → α3 → α4 → α5 → α6 → α7 → α8 → α9 → α10 → Option β} {o : β} (h : bd10 x k = some o) : ∃ a1 a2 a3 a4 a5 a6 a7 a8 a9 a10, x = some (a1, a2, a3, a4, a5, a6, a7, a8, a9, a10) ∧ k a1 a2 a3 a4 a5 a6 a7 a8 a9 a10 = some o := by
  cases x with
  | none => cases h
  | some q =>
    obtain ⟨a1, a2, a3, a4, a5, a6, a7, a8, a9, a10⟩ := q
    exact ⟨a1, a2, a3, a4, a5, a6, a7, a8, a9, a10, rfl, h⟩
def bd11 {α1 α2 α3 α4 α5 α6 α7 α8 α9 α10 α11 β : Type} (x : Option (α1 × α2 × α3 × α4 × α5 × α6 × α7 × α8 × α9 × α10 × α11)) (k : α1 → α2 → α3 → α4 → α5 → α6 → α7 → α8 → α9 → α10 → α11 → Option β) : Option β := match x with | none => none | some (a1, a2, a3, a4, a5, a6, a7, a8, a9, a10, a11) => k a1 a2 a3 a4 a5 a6 a7 a8 a9 a10 a11
theorem bd11_use {α1 α2 α3 α4 α5 α6 α7 α8 α9 α10 α11 β : Type} {x : Option (α1 × α2 × α3 × α4 × α5 × α6 × α7 × α8 × α9 × α10 × α11)} {k : α1 → α2 → α3 → α4 → α5 → α6 → α7 → α8 → α9 → α10 → α11 → Option β} {o : β} (h : bd11 x k = some o) : ∃ a1 a2 a3 a4 a5 a6 a7 a8 a9 a10 a11, x = some (a1, a2, a3, a4, a5, a6, a7, a8, a9, a10, a11) ∧ k a1 a2 a3 a4 a5 a6 a7 a8 a9 a10 a11 = some o := by
  cases x with
  | none => cases h
  | some q =>
    obtain ⟨a1, a2, a3, a4, a5, a6, a7, a8, a9, a10, a11⟩ := q
    exact ⟨a1, a2, a3, a4, a5, a6, a7, a8, a9, a10, a11, rfl, h⟩
def bd12 {α1 α2 α3 α4 α5 α6 α7 α8 α9 α10 α11 α12 β : Type} (x : Option (α1 × α2 × α3 × α4 × α5 × α6 × α7 × α8 × α9 × α10 × α11 × α12)) (k : α1 → α2 → α3 → α4 → α5 → α6 → α7 → α8 → α9 → α10 → α11 → α12 → Option β) : Option β := match x with | none => none | some (a1, a2, a3, a4, a5, a6, a7, a8, a9, a10, a11, a12) => k a1 a2 a3 a4 a5 a6 a7 a8 a9 a10 a11 a12
theorem bd12_use {α1 α2 α3 α4 α5 α6 α7 α8 α9 α10 α11 α12 β : Type} {x : Option (α1 × α2 × α3 × α4 × α5 × α6 × α7 × α8 × α9 × α10 × α11 × α12)} {k : α1 → α2 → α3 → α4 → α5 → α6 → α7 → α8 → α9 → α10 → α11 → α12 → Option β} {o : β} (h : bd12 x k = some o) : ∃ a1 a2 a3 a4 a5 a6 a7 a8 a9 a10 a11 a12, x = some (a1, a2, a3, a4, a5, a6, a7, a8, a9, a10, a11, a12) ∧ k a1 a2 a3 a4 a5 a6 a7 a8 a9 a10 a11 a12 = some o := by
  cases x with
  | none => cases h
  | some q =>
    obtain ⟨a1, a2, a3, a4, a5, a6, a7, a8, a9, a10, a11, a12⟩ := q
    exact ⟨a1, a2, a3, a4, a5, a6, a7, a8, a9, a10, a11, a12, rfl, h⟩
def bd13 {α1 α2 α3 α4 α5 α6 α7 α8 α9 α10 α11 α12 α13 β : Type} (x : Option (α1 × α2 × α3 × α4 × α5 × α6 × α7 × α8 × α9 × α10 × α11 × α12 × α13)) (k : α1 → α2 → α3 → α4 → α5 → α6 → α7 → α8 → α9 → α10 → α11 → α12 → α13 → Option β) : Option β := match x with | none => none | some (a1, a2, a3, a4, a5, a6, a7, a8, a9, a10, a11, a12, a13) => k a1 a2 a3 a4 a5 a6 a7 a8 a9 a10 a11 a12 a13
theorem bd13_use {α1 α2 α3 α4 α5 α6 α7 α8 α9 α10 α11 α12 α13 β : Type} {x : Option (α1 × α2 × α3 × α4 × α5 × α6 × α7 × α8 × α9 × α10 × α11 × α12 × α13)} {k : α1 → α2 → α3 → α4 → α5 → α6 → α7 → α8 → α9 → α10 → α11 → α12 → α13 → Option β} {o : β} (h : bd13 x k = some o) : ∃ a1 a2 a3 a4 a5 a6 a7 a8 a9 a10 a11 a12 a13, x = some (a1, a2, a3, a4, a5, a6, a7, a8, a9, a10, a11, a12, a13) ∧ k a1 a2 a3 a4 a5 a6 a7 a8 a9 a10 a11 a12 a13 = some o := by
  cases x with
  | none => cases h
  | some q =>
    obtain ⟨a1, a2, a3, a4, a5, a6, a7, a8, a9, a10, a11, a12, a13⟩ := q
    exact ⟨a1, a2, a3, a4, a5, a6, a7, a8, a9, a10, a11, a12, a13, rfl, h⟩
theorem ti1 {α1 : Type} {a1 b1 : α1} (h : some (a1) = some (b1)) : a1 = b1 := by
  exact Option.some.inj h
theorem ti2 {α1 α2 : Type} {a1 b1 : α1} {a2 b2 : α2} (h : some (a1, a2) = some (b1, b2)) : a1 = b1 ∧ a2 = b2 := by
  have h := Option.some.inj h
  have q1 := (Prod.mk.inj h).1
  have h := (Prod.mk.inj h).2
  exact ⟨q1, h⟩
theorem ti3 {α1 α2 α3 : Type} {a1 b1 : α1} {a2 b2 : α2} {a3 b3 : α3} (h : some (a1, a2, a3) = some (b1, b2, b3)) : a1 = b1 ∧ a2 = b2 ∧ a3 = b3 := by
  have h := Option.some.inj h
  have q1 := (Prod.mk.inj h).1
  have h := (Prod.mk.inj h).2
  have q2 := (Prod.mk.inj h).1
  have h := (Prod.mk.inj h).2
  exact ⟨q1, q2, h⟩
theorem ti4 {α1 α2 α3 α4 : Type} {a1 b1 : α1} {a2 b2 : α2} {a3 b3 : α3} {a4 b4 : α4} (h : some (a1, a2, a3, a4) = some (b1, b2, b3, b4)) : a1 = b1 ∧ a2 = b2 ∧ a3 = b3 ∧ a4 = b4 := by
  have h := Option.some.inj h
  have q1 := (Prod.mk.inj h).1
  have h := (Prod.mk.inj h).2
  have q2 := (Prod.mk.inj h).1
  have h := (Prod.mk.inj h).2
  have q3 := (Prod.mk.inj h).1
  have h := (Prod.mk.inj h).2
  exact ⟨q1, q2, q3, h⟩
theorem ti5 {α1 α2 α3 α4 α5 : Type} {a1 b1 : α1} {a2 b2 : α2} {a3 b3 : α3} {a4 b4 : α4} {a5 b5 : α5} (h : some (a1, a2, a3, a4, a5) = some (b1, b2, b3, b4, b5)) : a1 = b1 ∧ a2 = b2 ∧ a3 = b3 ∧ a4 = b4 ∧ a5 = b5 := by
  have h := Option.some.inj h
  have q1 := (Prod.mk.inj h).1
  have h := (Prod.mk.inj h).2
  have q2 := (Prod.mk.inj h).1
  have h := (Prod.mk.inj h).2
  have q3 := (Prod.mk.inj h).1
  have h := (Prod.mk.inj h).2
  have q4 := (Prod.mk.inj h).1
  have h := (Prod.mk.inj h).2
  exact ⟨q1, q2, q3, q4, h⟩
theorem ti6 {α1 α2 α3 α4 α5 α6 : Type} {a1 b1 : α1} {a2 b2 : α2} {a3 b3 : α3} {a4 b4 : α4} {a5 b5 : α5} {a6 b6 : α6} (h : some (a1, a2, a3, a4, a5, a6) = some (b1, b2, b3, b4, b5, b6)) : a1 = b1 ∧ a2 = b2 ∧ a3 = b3 ∧ a4 = b4 ∧ a5 = b5 ∧ a6 = b6 := by
  have h := Option.some.inj h
  have q1 := (Prod.mk.inj h).1
  have h := (Prod.mk.inj h).2
  have q2 := (Prod.mk.inj h).1
  have h := (Prod.mk.inj h).2
  have q3 := (Prod.mk.inj h).1
  have h := (Prod.mk.inj h).2
  have q4 := (Prod.mk.inj h).1
  have h := (Prod.mk.inj h).2
  have q5 := (Prod.mk.inj h).1
  have h := (Prod.mk.inj h).2
  exact ⟨q1, q2, q3, q4, q5, h⟩
theorem ti7 {α1 α2 α3 α4 α5 α6 α7 : Type} {a1 b1 : α1} {a2 b2 : α2} {a3 b3 : α3} {a4 b4 : α4} {a5 b5 : α5} {a6 b6 : α6} {a7 b7 : α7} (h : some (a1, a2, a3, a4, a5, a6, a7) = some (b1, b2, b3, b4, b5, b6, b7)) : a1 = b1 ∧ a2 = b2 ∧ a3 = b3 ∧ a4 = b4 ∧ a5 = b5 ∧ a6 = b6 ∧ a7 = b7 := by
  have h := Option.some.inj h
  have q1 := (Prod.mk.inj h).1
  have h := (Prod.mk.inj h).2
  have q2 := (Prod.mk.inj h).1
  have h := (Prod.mk.inj h).2
  have q3 := (Prod.mk.inj h).1
  have h := (Prod.mk.inj h).2
  have q4 := (Prod.mk.inj h).1
  have h := (Prod.mk.inj h).2
  have q5 := (Prod.mk.inj h).1
  have h := (Prod.mk.inj h).2
  have q6 := (Prod.mk.inj h).1
  have h := (Prod.mk.inj h).2
  exact ⟨q1, q2, q3, q4, q5, q6, h⟩
theorem ti8 {α1 α2 α3 α4 α5 α6 α7 α8 : Type} {a1 b1 : α1} {a2 b2 : α2} {a3 b3 : α3} {a4 b4 : α4} {a5 b5 : α5} {a6 b6 : α6} {a7 b7 : α7} {a8 b8 : α8} (h : some (a1, a2, a3, a4, a5, a6, a7, a8) = some (b1, b2, b3, b4, b5, b6, b7, b8)) : a1 = b1 ∧ a2 = b2 ∧ a3 = b3 ∧ a4 = b4 ∧ a5 = b5 ∧ a6 = b6 ∧ a7 = b7 ∧ a8 = b8 := by
  have h := Option.some.inj h
  have q1 := (Prod.mk.inj h).1
  have h := (Prod.mk.inj h).2
  have q2 := (Prod.mk.inj h).1
  have h := (Prod.mk.inj h).2
  have q3 := (Prod.mk.inj h).1
  have h := (Prod.mk.inj h).2
  have q4 := (Prod.mk.inj h).1
  have h := (Prod.mk.inj h).2
  have q5 := (Prod.mk.inj h).1
  have h := (Prod.mk.inj h).2
  have q6 := (Prod.mk.inj h).1
  have h := (Prod.mk.inj h).2
  have q7 := (Prod.mk.inj h).1
  have h := (Prod.mk.inj h).2
  exact ⟨q1, q2, q3, q4, q5, q6, q7, h⟩
theorem ti9 {α1 α2 α3 α4 α5 α6 α7 α8 α9 : Type} {a1 b1 : α1} {a2 b2 : α2} {a3 b3 : α3} {a4 b4 : α4} {a5 b5 : α5} {a6 b6 : α6} {a7 b7 : α7} {a8 b8 : α8} {a9 b9 : α9} (h : some (a1, a2, a3, a4, a5, a6, a7, a8, a9) = some (b1, b2, b3, b4, b5, b6, b7, b8, b9)) : a1 = b1 ∧ a2 = b2 ∧ a3 = b3 ∧ a4 = b4 ∧ a5 = b5 ∧ a6 = b6 ∧ a7 = b7 ∧ a8 = b8 ∧ a9 = b9 := by
  have h := Option.some.inj h
  have q1 := (Prod.mk.inj h).1
  have h := (Prod.mk.inj h).2
  have q2 := (Prod.mk.inj h).1
  have h := (Prod.mk.inj h).2
  have q3 := (Prod.mk.inj h).1
  have h := (Prod.mk.inj h).2
  have q4 := (Prod.mk.inj h).1
  have h := (Prod.mk.inj h).2
  have q5 := (Prod.mk.inj h).1
  have h := (Prod.mk.inj h).2
  have q6 := (Prod.mk.inj h).1
  have h := (Prod.mk.inj h).2
  have q7 := (Prod.mk.inj h).1
  have h := (Prod.mk.inj h).2
  have q8 := (Prod.mk.inj h).1
  have h := (Prod.mk.inj h).2
  exact ⟨q1, q2, q3, q4, q5, q6, q7, q8, h⟩
theorem ti10 {α1 α2 α3 α4 α5 α6 α7 α8 α9 α10 : Type} {a1 b1 : α1} {a2 b2 : α2} {a3 b3 : α3} {a4 b4 : α4} {a5 b5 : α5} {a6 b6 : α6} {a7 b7 : α7} {a8 b8 : α8} {a9 b9 : α9} {a10 b10 : α10} (h : some (a1, a2, a3, a4, a5, a6, a7, a8, a9, a10) = some (b1, b2, b3, b4, b5, b6, b7, b8, b9, b10)) : a1 = b1 ∧ a2 = b2 ∧ a3 = b3 ∧ a4 = b4 ∧ a5 = b5 ∧ a6 = b6 ∧ a7 = b7 ∧ a8 = b8 ∧ a9 = b9 ∧ a10 = b10 := by
  have h := Option.some.inj h
  have q1 := (Prod.mk.inj h).1
  have h := (Prod.mk.inj h).2
  have q2 := (Prod.mk.inj h).1
  have h := (Prod.mk.inj h).2
  have q3 := (Prod.mk.inj h).1
  have h := (Prod.mk.inj h).2
  have q4 := (Prod.mk.inj h).1
  have h := (Prod.mk.inj h).2
  have q5 := (Prod.mk.inj h).1
  have h := (Prod.mk.inj h).2
  have q6 := (Prod.mk.inj h).1
  have h := (Prod.mk.inj h).2
  have q7 := (Prod.mk.inj h).1
  have h := (Prod.mk.inj h).2
  have q8 := (Prod.mk.inj h).1
  have h := (Prod.mk.inj h).2
  have q9 := (Prod.mk.inj h).1
  have h := (Prod.mk.inj h).2
  exact ⟨q1, q2, q3, q4, q5, q6, q7, q8, q9, h⟩
theorem ti11 {α1 α2 α3 α4 α5 α6 α7 α8 α9 α10 α11 : Type} {a1 b1 : α1} {a2 b2 : α2} {a3 b3 : α3} {a4 b4 : α4} {a5 b5 : α5} {a6 b6 : α6} {a7 b7 : α7} {a8 b8 : α8} {a9 b9 : α9} {a10 b10 : α10} {a11 b11 : α11} (h : some (a1, a2, a3, a4, a5, a6, a7, a8, a9, a10, a11) = some (b1, b2, b3, b4, b5, b6, b7, b8, b9, b10, b11)) : a1 = b1 ∧ a2 = b2 ∧ a3 = b3 ∧ a4 = b4 ∧ a5 = b5 ∧ a6 = b6 ∧ a7 = b7 ∧ a8 = b8 ∧ a9 = b9 ∧ a10 = b10 ∧ a11 = b11 := by
  have h := Option.some.inj h
  have q1 := (Prod.mk.inj h).1
  have h := (Prod.mk.inj h).2
  have q2 := (Prod.mk.inj h).1
  have h := (Prod.mk.inj h).2
  have q3 := (Prod.mk.inj h).1
  have h := (Prod.mk.inj h).2
  have q4 := (Prod.mk.inj h).1
  have h := (Prod.mk.inj h).2
  have q5 := (Prod.mk.inj h).1
  have h := (Prod.mk.inj h).2
  have q6 := (Prod.mk.inj h).1
  have h := (Prod.mk.inj h).2
  have q7 := (Prod.mk.inj h).1
  have h := (Prod.mk.inj h).2
  have q8 := (Prod.mk.inj h).1
  have h := (Prod.mk.inj h).2
  have q9 := (Prod.mk.inj h).1
  have h := (Prod.mk.inj h).2
  have q10 := (Prod.mk.inj h).1
  have h := (Prod.mk.inj h).2
  exact ⟨q1, q2, q3, q4, q5, q6, q7, q8, q9, q10, h⟩
theorem ti12 {α1 α2 α3 α4 α5 α6 α7 α8 α9 α10 α11 α12 : Type} {a1 b1 : α1} {a2 b2 : α2} {a3 b3 : α3} {a4 b4 : α4} {a5 b5 : α5} {a6 b6 : α6} {a7 b7 : α7} {a8 b8 : α8} {a9 b9 : α9} {a10 b10 : α10} {a11 b11 : α11} {a12 b12 : α12} (h : some (a1, a2, a3, a4, a5, a6, a7, a8, a9, a10, a11, a12) = some (b1, b2, b3, b4, b5, b6, b7, b8, b9, b10, b11, b12)) : a1 = b1 ∧ a2 = b2 ∧ a3 = b3 ∧ a4 = b4 ∧ a5 = b5 ∧ a6 = b6 ∧ a7 = b7 ∧ a8 = b8 ∧ a9 = b9 ∧ a10 = b10 ∧ a11 = b11 ∧ a12 = b12 := by
  have h := Option.some.inj h
  have q1 := (Prod.mk.inj h).1
  have h := (Prod.mk.inj h).2
  have q2 := (Prod.mk.inj h).1
  have h := (Prod.mk.inj h).2
  have q3 := (Prod.mk.inj h).1
  have h := (Prod.mk.inj h).2
  have q4 := (Prod.mk.inj h).1
  have h := (Prod.mk.inj h).2
  have q5 := (Prod.mk.inj h).1
  have h := (Prod.mk.inj h).2
  have q6 := (Prod.mk.inj h).1
  have h := (Prod.mk.inj h).2
  have q7 := (Prod.mk.inj h).1
  have h := (Prod.mk.inj h).2
  have q8 := (Prod.mk.inj h).1
  have h := (Prod.mk.inj h).2
  have q9 := (Prod.mk.inj h).1
  have h := (Prod.mk.inj h).2
  have q10 := (Prod.mk.inj h).1
  have h := (Prod.mk.inj h).2
  have q11 := (Prod.mk.inj h).1
  have h := (Prod.mk.inj h).2
  exact ⟨q1, q2, q3, q4, q5, q6, q7, q8, q9, q10, q11, h⟩
theorem ti13 {α1 α2 α3 α4 α5 α6 α7 α8 α9 α10 α11 α12 α13 : Type} {a1 b1 : α1} {a2 b2 : α2} {a3 b3 : α3} {a4 b4 : α4} {a5 b5 : α5} {a6 b6 : α6} {a7 b7 : α7} {a8 b8 : α8} {a9 b9 : α9} {a10 b10 : α10} {a11 b11 : α11} {a12 b12 : α12} {a13 b13 : α13} (h : some (a1, a2, a3, a4, a5, a6, a7, a8, a9, a10, a11, a12, a13) = some (b1, b2, b3, b4, b5, b6, b7, b8, b9, b10, b11, b12, b13)) : a1 = b1 ∧ a2 = b2 ∧ a3 = b3 ∧ a4 = b4 ∧ a5 = b5 ∧ a6 = b6 ∧ a7 = b7 ∧ a8 = b8 ∧ a9 = b9 ∧ a10 = b10 ∧ a11 = b11 ∧ a12 = b12 ∧ a13 = b13 := by
  have h := Option.some.inj h
  have q1 := (Prod.mk.inj h).1
  have h := (Prod.mk.inj h).2
  have q2 := (Prod.mk.inj h).1
  have h := (Prod.mk.inj h).2
  have q3 := (Prod.mk.inj h).1
  have h := (Prod.mk.inj h).2
  have q4 := (Prod.mk.inj h).1
  have h := (Prod.mk.inj h).2
  have q5 := (Prod.mk.inj h).1
  have h := (Prod.mk.inj h).2
  have q6 := (Prod.mk.inj h).1
  have h := (Prod.mk.inj h).2
  have q7 := (Prod.mk.inj h).1
  have h := (Prod.mk.inj h).2
  have q8 := (Prod.mk.inj h).1
  have h := (Prod.mk.inj h).2
  have q9 := (Prod.mk.inj h).1
  have h := (Prod.mk.inj h).2
  have q10 := (Prod.mk.inj h).1
  have h := (Prod.mk.inj h).2
  have q11 := (Prod.mk.inj h).1
  have h := (Prod.mk.inj h).2
  have q12 := (Prod.mk.inj h).1
  have h := (Prod.mk.inj h).2
  exact ⟨q1, q2, q3, q4, q5, q6, q7, q8, q9, q10, q11, q12, h⟩
def mws (y : MethodName) (b : ByteArray) (n : Nat) (r : Option FieldType) : List Cond := Cond.code y b n r :: GW
def inW (ws : va_W) : Nat → Prop := fun q => ∃ (k : Nat) (e : va_E), ws[k]? = some (q, e)
def isNest : Cond → Bool
  | .fieldLinkNest _ _ _ _ _ _ => true
  | .methodLinkNest _ _ _ _ => true
  | _ => false
theorem nW_nest : ∀ w ∈ nW, isNest w = true := by decide +kernel
theorem nw_warm {w : Cond} (hw : isNest w = true) {s U : State} (hW : s.WarmedH U.vm) (h : va_Nw w s) : va_Nw w U := by
  cases w <;> first | exact va_Nw.warmF hW h | exact va_Nw.warmM hW h | cases hw
theorem nw_same {w : Cond} (hw : isNest w = true) {u U : State} (h : u.vm = U.vm) (hZ : va_Nw w u) : va_Nw w U := by
  cases w <;> first | cases hw; done | exact va_Nw.same rfl h hZ
abbrev KT (cI cS : ClassId) : List (ClassId × FieldType) := [(cI, .int), (cS, .object "SoiledTests$Suite")]
def KK (D : va_G) (cI cS : ClassId) (U : State) : Prop := va_K D vwCl (KT cI cS) U ∧ (∀ w ∈ nW, va_Nw w U) ∧ va_AO "SoiledTests$Suite" U
theorem KK.warm {D : va_G} {cI cS : ClassId} {s U : State} (hW : s.WarmedH U.vm) (h : KK D cI cS s) : KK D cI cS U := ⟨va_K.moved hW.alike h.1, fun w hw => nw_warm (nW_nest w hw) hW (h.2.1 w hw), va_AO.moved hW.alike h.2.2⟩
theorem KK.calling {D : va_G} {cI cS : ClassId} {U : State} {g : JFrame} {mk : MethodId} {a : Array Value} (h : KK D cI cS U) : KK D cI cS (U.calling g mk a) := ⟨va_K.moved (u := U) (U := U.calling g mk a) (Vm.Alike.refl U.vm) h.1, fun w hw => nw_same (u := U) (U := U.calling g mk a) (nW_nest w hw) rfl (h.2.1 w hw), va_AO.moved (u := U) (U := U.calling g mk a) (Vm.Alike.refl U.vm) h.2.2⟩
/-- a method that only reads -/
def roP (D : va_G) (cI cS : ClassId) (ws : va_W) : State → Prop := fun U => va_P D vwCl ws U.heap ∧ KK D cI cS U
def roQ (v : Option Value) : Array Value → State → Outcome → State → Prop := fun _ st oc t => oc = .returned v ∧ t.heap = st.heap
/-- a method that writes into cells that are there -/
def wrP (D : va_G) (cI cS : ClassId) (ws : va_W) : State → Prop := fun U => va_P D vwCl ws U.heap ∧ KK D cI cS U ∧ va_D (fun _ => True) ws
def wrQ (D : va_G) (A : Nat → Prop) (ws : va_W) (v : Option Value) : Array Value → State → Outcome → State → Prop := fun _ st oc t => oc = .returned v ∧ va_P D vwCl ws t.heap ∧ va_F A st t
abbrev noF : Addr → Prop := fun _ => False
abbrev roM (l : Launch) (D : va_G) (cI cS : ClassId) (y : MethodName) (b : ByteArray) (n : Nat) (r : Option FieldType) (fr lo : Nat) (av : List Value) (ws : va_W) (v : Option Value) : Prop := Met l y (mws y b n r) { frames := fr, cells := 0, slots := 0, locals := lo } (va_Pc av (roP D cI cS ws)) (roQ v) 0 0 noF
abbrev wrM (l : Launch) (D : va_G) (cI cS : ClassId) (y : MethodName) (b : ByteArray) (n : Nat) (r : Option FieldType) (fr lo : Nat) (av : List Value) (ws ws' : va_W) (v : Option Value) : Prop := Met l y (mws y b n r) { frames := fr, cells := 0, slots := 0, locals := lo } (va_Pc av (wrP D cI cS ws)) (wrQ D (inW ws) ws' v) 0 0 (inW ws)
theorem roP_blind {D : va_G} {cI cS : ClassId} {ws : va_W} {av : List Value} : FrameBlind (va_Pc av (roP D cI cS ws)) := fun _ _ _ _ q => ⟨q.1, q.2.1, q.2.2.calling⟩
theorem wrP_blind {D : va_G} {cI cS : ClassId} {ws : va_W} {av : List Value} : FrameBlind (va_Pc av (wrP D cI cS ws)) := fun _ _ _ _ q => ⟨q.1, q.2.1, q.2.2.1.calling, q.2.2.2⟩
theorem inW_self {ws : va_W} {A : Nat → Prop} (h : va_D A ws) : va_D (inW ws) ws := ⟨h.1, fun k q hk => ⟨k, q.2, hk⟩⟩
/-- what a callee's words are -/
abbrev plainY (y : MethodName) (n : Nat) : Prop := y.cls ≠ "java/lang/invoke/MethodHandle" ∧ y.cls ≠ "java/lang/invoke/VarHandle" ∧ (parseMethodDescriptor y.desc).map (fun d => d.parameters.length) = some n
def CYV (C : String) (y : MethodName) (b : ByteArray) (maxL : Nat) (ret : Option FieldType) (n : Nat) : Prop := (Cond.instanceMethod y ∈ GW ∧ Cond.selects C y y ∈ GW) ∧ Cond.initialized y.cls ∈ GW ∧ Cond.code y b maxL ret ∈ GW ∧ plainY y n
def CYS (y : MethodName) (b : ByteArray) (maxL : Nat) (ret : Option FieldType) (n : Nat) : Prop := Cond.static y ∈ GW ∧ Cond.initialized y.cls ∈ GW ∧ Cond.code y b maxL ret ∈ GW ∧ plainY y n
def CYI (y : MethodName) (b : ByteArray) (maxL : Nat) (n : Nat) : Prop := Cond.instanceMethod y ∈ GW ∧ Cond.initialized y.cls ∈ GW ∧ Cond.code y b maxL none ∈ GW ∧ plainY y n ∧ y.name = "<init>"
theorem mws_good {Ts : List Cond} {y : MethodName} {b : ByteArray} {n : Nat} {r : Option FieldType} (h : ∀ w ∈ GW, w ∈ Ts) (hc : Cond.code y b n r ∈ GW) : GoodIn Ts (mws y b n r) := by
  intro w hw
  rcases List.mem_cons.mp hw with rfl | hw
  · exact ⟨h _ hc, good_of_word (List.mem_filter.mp hc).2⟩
  · exact ⟨h _ hw, good_of_word (List.mem_filter.mp hw).2⟩
section CW
variable {R : Room} {s : State} {args : Array Value} {own C host : String} {index maxL n mc ms : Nat} {y : MethodName} {bytes : ByteArray} {ret : Option FieldType} {rm : Room}
theorem cwV1 (hts : ∀ w ∈ GW, w.before args s = true) (hy : CYV C y bytes maxL ret n) (hl : Cond.methodLink own index y ∈ GW) (hrc : rm.cells = mc) (hrs : rm.slots = ms) (hR : rm.frames + 1 ≤ R.frames ∧ 8 + (maxL + 11) + rm.locals ≤ R.locals) : CallW R s args own C index y bytes maxL ret (mws y bytes maxL ret) rm mc ms n :=
  ⟨callB_of n hts (mws_good (fun _ h => h) hy.2.2.1) rfl hrc hrs (hts _ hy.2.1) (hts _ hl) hy.2.2.2 hR, hts _ hy.1.1, hts _ hy.1.2⟩
theorem cwS1 (hts : ∀ w ∈ GW, w.before args s = true) (hy : CYS y bytes maxL ret n) (hl : Cond.methodLink own index y ∈ GW) (hrc : rm.cells = mc) (hrs : rm.slots = ms) (hR : rm.frames + 1 ≤ R.frames ∧ 8 + (maxL + 11) + rm.locals ≤ R.locals) : CallB R s args own index y bytes maxL ret (mws y bytes maxL ret) rm mc ms n ∧ (Cond.static y).before args s = true :=
  ⟨callB_of n hts (mws_good (fun _ h => h) hy.2.2.1) rfl hrc hrs (hts _ hy.2.1) (hts _ hl) hy.2.2.2 hR, hts _ hy.1⟩
theorem cwSN1 (hts : ∀ w ∈ GW, w.before args s = true) (hN : ∀ w ∈ nW, va_Nw w s) (hy : CYS y bytes maxL ret n) (hl : Cond.methodLinkNest own index y host ∈ nW) (hrc : rm.cells = mc) (hrs : rm.slots = ms) (hR : rm.frames + 1 ≤ R.frames ∧ 8 + (maxL + 11) + rm.locals ≤ R.locals) : va_CN R s args own index y host bytes maxL ret (mws y bytes maxL ret) rm mc ms n ∧ (Cond.static y).before args s = true ∧ True :=
  ⟨va_cnB n hts (mws_good (fun _ h => h) hy.2.2.1) rfl hrc hrs (hN _ hl) (hts _ hy.2.1) hy.2.2.2 hR, hts _ hy.1, trivial⟩
theorem cwI1 (hts : ∀ w ∈ GW, w.before args s = true) (hy : CYI y bytes maxL n) (hl : Cond.methodLink own index y ∈ GW) (hrc : rm.cells = mc) (hrs : rm.slots = ms) (hR : rm.frames + 1 ≤ R.frames ∧ 8 + (maxL + 11) + rm.locals ≤ R.locals) : CallB R s args own index y bytes maxL none (mws y bytes maxL none) rm mc ms n ∧ y.name = "<init>" ∧ (Cond.instanceMethod y).before args s = true :=
  ⟨callB_of n hts (mws_good (fun _ h => h) hy.2.2.1) rfl hrc hrs (hts _ hy.2.1) (hts _ hl) hy.2.2.2.1 hR, hy.2.2.2.2, hts _ hy.1⟩
theorem cwIN1 (hts : ∀ w ∈ GW, w.before args s = true) (hN : ∀ w ∈ nW, va_Nw w s) (hy : CYI y bytes maxL n) (hl : Cond.methodLinkNest own index y host ∈ nW) (hrc : rm.cells = mc) (hrs : rm.slots = ms) (hR : rm.frames + 1 ≤ R.frames ∧ 8 + (maxL + 11) + rm.locals ≤ R.locals) : va_CN R s args own index y host bytes maxL none (mws y bytes maxL none) rm mc ms n ∧ y.name = "<init>" ∧ (Cond.instanceMethod y).before args s = true :=
  ⟨va_cnB n hts (mws_good (fun _ h => h) hy.2.2.1) rfl hrc hrs (hN _ hl) (hts _ hy.2.1) hy.2.2.2.1 hR, hy.2.2.2.2, hts _ hy.1⟩
end CW
section RC
variable {p : Program} {l : Launch} {e : Env} {R : Room} {s : State} {m : MethodId} {args : Array Value} {below : List Frame} {meth : Method} {c : Code} {H : Heap} {locs : List Loc} {cells slots : Nat} {Q : State → Prop}
variable {pc : Nat} {ls : Array Slot} {rest st0 st1 As : List Value} {a : Array Value} {A0 : Nat → Prop} {H0 : Heap}
variable {D : va_G} {cI cS : ClassId} {ws wc wc' ws' : va_W} {v : Option Value}
variable {y : MethodName} {bytes cc : ByteArray} {maxL nL n index ci : Nat} {ret : Option FieldType} {rm : Room} {own C host : String} {b : Nat} {r : vw_C} {fs : List Value}
theorem ro_go (hr : va_Run p l e R s m args below meth c H locs cells slots 0 0 (F0 m pc ls st0) rest (roQ v a) noF) (hv : v.toList ++ rest = st1)
    (kk : W p l e R s m args below meth c H locs cells slots Q (F0 m (pc + 3) ls st1)) : W p l e R s m args below meth c H locs cells slots Q (F0 m pc ls st0) := by
  subst hv
  intro T hT X
  obtain ⟨v', st₀, t, T', L, h0, X', hL, e1, -, ⟨hv, hh⟩, st⟩ := hr T hT X
  cases hv
  obtain ⟨t2, a1, b1⟩ := kk T' (by rw [e1, hh, h0]) (Stand.forget X' (fun q h => (hL q h).elim))
  exact ⟨t2, st t2 a1, b1⟩
theorem recv1 (hK : KK D cI cS s) (hP : va_P D vwCl ws H) (q0 : Nat) (he : ws[q0]? = some (b, .inr (ci, fs))) (hc : vwCl[ci]? = some r) (hCr : r.1 = C) : ∃ cell : Cell, H[b]? = some cell ∧ cell.vm.isStatics = false ∧ s.vm.findClass C = some cell.cls := by
  subst hCr
  exact va_recv hK.1 hP hc he
theorem ro_V (S : CallFix p m c cc nL s args GW own) (hM : Met l y (mws y bytes maxL ret) rm (va_Pc (.ref b :: As) (roP D cI cS wc)) (roQ v) 0 0 noF) (cw : CallW R s args own C index y bytes maxL ret (mws y bytes maxL ret) rm 0 0 n) (hK : KK D cI cS s) (hP : va_P D vwCl ws H) (is : List Nat) (hs : is.filterMap (fun i => ws[i]?) = wc) (q0 : Nat) (he : ws[q0]? = some (b, .inr (ci, fs))) (hc : vwCl[ci]? = some r) (hCr : r.1 = C)
    (hn : As.length = n) (hsize : ls.size = nL) (hst : st0 = As.reverse ++ .ref b :: rest) (hW : (rest.map fun v => v.category).sum ≤ 8) (hdg : decode cc pc = .ok (.invokevirtual index, 3)) (hcs : cells + 0 ≤ R.cells ∧ slots + 0 ≤ R.slots) (hv : v.toList ++ rest = st1)
    (kk : W p l e R s m args below meth c H locs cells slots Q (F0 m (pc + 3) ls st1)) : W p l e R s m args below meth c H locs cells slots Q (F0 m pc ls st0) := by
  subst hst
  exact ro_go (va_runV S hM cw ⟨roP_blind, recv1 hK hP q0 he hc hCr, fun U hU hW => ⟨rfl, by rw [hU]; exact hP.sub is hs, hK.warm hW⟩⟩ rfl hn hsize rfl (lv_room hW) hdg hcs) hv kk
theorem ro_S (S : CallFix p m c cc nL s args GW own) (hM : Met l y (mws y bytes maxL ret) rm (va_Pc As (roP D cI cS wc)) (roQ v) 0 0 noF) (cw : CallB R s args own index y bytes maxL ret (mws y bytes maxL ret) rm 0 0 n ∧ (Cond.static y).before args s = true) (hK : KK D cI cS s) (hP : va_P D vwCl ws H) (is : List Nat) (hs : is.filterMap (fun i => ws[i]?) = wc)
    (hn : As.length = n) (hsize : ls.size = nL) (hst : st0 = As.reverse ++ rest) (hW : (rest.map fun v => v.category).sum ≤ 8) (hdg : decode cc pc = .ok (.invokestatic index, 3)) (hcs : cells + 0 ≤ R.cells ∧ slots + 0 ≤ R.slots) (hv : v.toList ++ rest = st1)
    (kk : W p l e R s m args below meth c H locs cells slots Q (F0 m (pc + 3) ls st1)) : W p l e R s m args below meth c H locs cells slots Q (F0 m pc ls st0) := by
  subst hst
  exact ro_go (va_runS S hM cw ⟨roP_blind, fun U hU hW => ⟨rfl, by rw [hU]; exact hP.sub is hs, hK.warm hW⟩⟩ rfl hn hsize rfl (lv_room hW) hdg hcs) hv kk
theorem ro_SN (S : CallFix p m c cc nL s args GW own) (hM : Met l y (mws y bytes maxL ret) rm (va_Pc As (roP D cI cS wc)) (roQ v) 0 0 noF) (cw : va_CN R s args own index y host bytes maxL ret (mws y bytes maxL ret) rm 0 0 n ∧ (Cond.static y).before args s = true ∧ True) (hK : KK D cI cS s) (hP : va_P D vwCl ws H) (is : List Nat) (hs : is.filterMap (fun i => ws[i]?) = wc)
    (hn : As.length = n) (hsize : ls.size = nL) (hst : st0 = As.reverse ++ rest) (hW : (rest.map fun v => v.category).sum ≤ 8) (hdg : decode cc pc = .ok (.invokestatic index, 3)) (hcs : cells + 0 ≤ R.cells ∧ slots + 0 ≤ R.slots) (hv : v.toList ++ rest = st1)
    (kk : W p l e R s m args below meth c H locs cells slots Q (F0 m (pc + 3) ls st1)) : W p l e R s m args below meth c H locs cells slots Q (F0 m pc ls st0) := by
  subst hst
  exact ro_go (va_runSN S hM cw ⟨roP_blind, fun U hU hW => ⟨rfl, by rw [hU]; exact hP.sub is hs, hK.warm hW⟩⟩ rfl hn hsize rfl (lv_room hW) hdg hcs) hv kk
/-- the world behind a call that wrote: of the callee's cells the new contents, the rest as it was, in the old order -/
def mixW (ws wc' : va_W) (src : List (Bool × Nat)) : List (Option (Nat × va_E)) := src.map (fun x => cond x.1 (wc'[x.2]?) (ws[x.2]?))
theorem adr_D {A : Nat → Prop} {w w' : va_W} (hD : va_D A w) (h : w'.map Prod.fst = w.map Prod.fst) : va_D A w' := by
  have key : ∀ (k : Nat) (q : Nat × va_E), w'[k]? = some q → ∃ q0, w[k]? = some q0 ∧ q0.1 = q.1 := by
    intro k q hk
    have h1 : (w'.map Prod.fst)[k]? = some q.1 := by rw [List.getElem?_map, hk]; rfl
    rw [h, List.getElem?_map] at h1
    cases hw : w[k]? with
    | none => rw [hw] at h1; cases h1
    | some q0 => rw [hw] at h1; exact ⟨q0, rfl, Option.some.inj h1⟩
  refine ⟨fun i j x y hi hj hxy => ?_, fun k q hk => ?_⟩
  · obtain ⟨x0, h1, h2⟩ := key i x hi
    obtain ⟨y0, h3, h4⟩ := key j y hj
    exact hD.1 i j x0 y0 h1 h3 (h2.trans (hxy.trans h4.symm))
  · obtain ⟨q0, h1, h2⟩ := key k q hk
    rw [← h2]
    exact hD.2 k q0 h1
theorem mix_P {H1 : Heap} (hP : va_P D vwCl ws H) (hD : va_D A0 ws) (isC : List Nat) (hC : isC.map (fun i => ws[i]?) = wc.map some) (src : List (Bool × Nat)) (hsrc : mixW ws wc' src = ws'.map some) (hno : src.all (fun x => x.1 || !(isC.contains x.2)) = true) (hk : ∀ q : Nat, q < H.size → ¬ inW wc q → H1[q]? = H[q]?) (hP1 : va_P D vwCl wc' H1) : va_P D vwCl ws' H1 := by
  intro k q hq
  have h1 : (ws'.map some)[k]? = some (some q) := by rw [List.getElem?_map, hq]; rfl
  rw [← hsrc, mixW, List.getElem?_map] at h1
  cases hx : src[k]? with
  | none => rw [hx] at h1; cases h1
  | some x =>
    rw [hx] at h1
    have h2 : cond x.1 (wc'[x.2]?) (ws[x.2]?) = some q := Option.some.inj h1
    obtain ⟨bx, i⟩ := x
    cases bx with
    | true => exact hP1 i q h2
    | false =>
      have h3 : ws[i]? = some q := h2
      have hn := List.all_eq_true.mp hno _ (List.mem_of_getElem? hx)
      have hni : i ∉ isC := by simpa using hn
      refine (hP i q h3).kept (hk q.1 (hP i q h3).lt (fun hin => ?_))
      obtain ⟨k2, e2, h4⟩ := hin
      have h5 : (isC.map (fun i => ws[i]?))[k2]? = some (some (q.1, e2)) := by rw [hC, List.getElem?_map, h4]; rfl
      rw [List.getElem?_map] at h5
      cases h6 : isC[k2]? with
      | none => rw [h6] at h5; cases h5
      | some j =>
        rw [h6] at h5
        have h7 : ws[j]? = some (q.1, e2) := Option.some.inj h5
        have h8 := hD.1 i j q (q.1, e2) h3 h7 rfl
        subst h8
        exact hni (List.mem_of_getElem? h6)
theorem wr_go (hr : va_Run p l e R s m args below meth c H locs cells slots 0 0 (F0 m pc ls st0) rest (wrQ D (inW wc) wc' v a) (inW wc)) (hP : va_P D vwCl ws H) (hD : va_D A0 ws) (hS : va_S A0 H0 H locs) (isC : List Nat) (hC : isC.map (fun i => ws[i]?) = wc.map some) (src : List (Bool × Nat)) (hsrc : mixW ws wc' src = ws'.map some) (hno : src.all (fun x => x.1 || !(isC.contains x.2)) = true) (had : ws'.map Prod.fst = ws.map Prod.fst) (hv : v.toList ++ rest = st1)
    (kk : ∀ (H1 : Heap) (locs1 : List Loc), va_P D vwCl ws' H1 → va_D A0 ws' → va_S A0 H0 H1 locs1 → W p l e R s m args below meth c H1 locs1 cells slots Q (F0 m (pc + 3) ls st1)) : W p l e R s m args below meth c H locs cells slots Q (F0 m pc ls st0) := by
  subst hv
  intro T hT X
  obtain ⟨v', st₀, t, T', L, h0, X', hL, e1, -, ⟨hv, hp1, hz, hk⟩, st⟩ := hr T hT X
  cases hv
  rw [h0] at hz hk
  have hin : ∀ q, inW wc q → A0 q := by
    intro q hq
    obtain ⟨k2, e2, h4⟩ := hq
    have h5 : (isC.map (fun i => ws[i]?))[k2]? = some (some (q, e2)) := by rw [hC, List.getElem?_map, h4]; rfl
    rw [List.getElem?_map] at h5
    cases h6 : isC[k2]? with
    | none => rw [h6] at h5; cases h5
    | some j => rw [h6] at h5; exact hD.2 j (q, e2) (Option.some.inj h5)
  obtain ⟨t2, a1, b1⟩ := kk T'.heap (locs ++ L) (by rw [e1]; exact mix_P hP hD isC hC src hsrc hno hk hp1) (adr_D hD had)
    ⟨Nat.le_trans hS.1 (by rw [e1]; exact hz), fun q h1 h2 => by rw [e1, hk q (Nat.lt_of_lt_of_le h1 hS.1) (fun z => h2 (hin q z))]; exact hS.2.1 q h1 h2, fun q hq => by
      rcases List.mem_append.mp hq with h | h
      · exact hS.2.2 q h
      · exact hin _ (hL q h)⟩ T' rfl X'
  exact ⟨t2, st t2 a1, b1⟩
theorem sub_D {A : Nat → Prop} (hD : va_D A ws) (isC : List Nat) (hn : va_nd isC = true) (hC : isC.map (fun i => ws[i]?) = wc.map some) : va_D (fun _ => True) wc := (hD.sub isC hn hC).weaken (fun _ _ _ _ => trivial)
theorem sub_P {H : Heap} (hP : va_P D vwCl ws H) (isC : List Nat) (hC : isC.map (fun i => ws[i]?) = wc.map some) : va_P D vwCl wc H := by
  intro k q hk
  have h5 : (isC.map (fun i => ws[i]?))[k]? = some (some q) := by rw [hC, List.getElem?_map, hk]; rfl
  rw [List.getElem?_map] at h5
  cases h6 : isC[k]? with
  | none => rw [h6] at h5; cases h5
  | some j => rw [h6] at h5; exact hP j q (Option.some.inj h5)
theorem wr_V (S : CallFix p m c cc nL s args GW own) (hM : Met l y (mws y bytes maxL ret) rm (va_Pc (.ref b :: As) (wrP D cI cS wc)) (wrQ D (inW wc) wc' v) 0 0 (inW wc)) (cw : CallW R s args own C index y bytes maxL ret (mws y bytes maxL ret) rm 0 0 n) (hK : KK D cI cS s) (hP : va_P D vwCl ws H) (hD : va_D A0 ws) (hS : va_S A0 H0 H locs) (isC : List Nat) (hnd : va_nd isC = true) (hC : isC.map (fun i => ws[i]?) = wc.map some) (src : List (Bool × Nat)) (hsrc : mixW ws wc' src = ws'.map some) (hno : src.all (fun x => x.1 || !(isC.contains x.2)) = true) (had : ws'.map Prod.fst = ws.map Prod.fst)
    (q0 : Nat) (he : ws[q0]? = some (b, .inr (ci, fs))) (hc : vwCl[ci]? = some r) (hCr : r.1 = C) (hn : As.length = n) (hsize : ls.size = nL) (hst : st0 = As.reverse ++ .ref b :: rest) (hW : (rest.map fun v => v.category).sum ≤ 8) (hdg : decode cc pc = .ok (.invokevirtual index, 3)) (hcs : cells + 0 ≤ R.cells ∧ slots + 0 ≤ R.slots) (hv : v.toList ++ rest = st1)
    (kk : ∀ (H1 : Heap) (locs1 : List Loc), va_P D vwCl ws' H1 → va_D A0 ws' → va_S A0 H0 H1 locs1 → W p l e R s m args below meth c H1 locs1 cells slots Q (F0 m (pc + 3) ls st1)) : W p l e R s m args below meth c H locs cells slots Q (F0 m pc ls st0) := by
  subst hst
  exact wr_go (va_runV S hM cw ⟨wrP_blind, recv1 hK hP q0 he hc hCr, fun U hU hW => ⟨rfl, by rw [hU]; exact sub_P hP isC hC, hK.warm hW, sub_D hD isC hnd hC⟩⟩ rfl hn hsize rfl (lv_room hW) hdg hcs) hP hD hS isC hC src hsrc hno had hv kk
theorem ia_ {f : Ar} {i : Int32} (hexec : p.tables.exec = Jvm.exec) (hb : c.code = cc) (hK : KK D cI cS s) (hP : va_P D vwCl ws H) (q0 : Nat) (he : ws[q0]? = some (b, .inl (cI, n, .inl f))) (hin : vp_in i n) (hdg : decode cc pc = .ok (.iaload, 1))
    (kk : W p l e R s m args below meth c H locs cells slots Q (F0 m (pc + 1) ls (.int (f i.toNatClampNeg) :: rest))) : W p l e R s m args below meth c H locs cells slots Q (F0 m pc ls (.int i :: .ref b :: rest)) := va_iald hexec hb hK.1 hP q0 0 he rfl hin hdg kk
theorem al_ {x : vp_A} {w : Int32} (hexec : p.tables.exec = Jvm.exec) (hb : c.code = cc) (hK : KK D cI cS s) (hP : va_P D vwCl ws H) (q0 : Nat) (he : ws[q0]? = some (b, .inl (cI, x))) (hv : Int32.ofNat x.1 = w) (hdg : decode cc pc = .ok (.arraylength, 1))
    (kk : W p l e R s m args below meth c H locs cells slots Q (F0 m (pc + 1) ls (.int w :: rest))) : W p l e R s m args below meth c H locs cells slots Q (F0 m pc ls (.ref b :: rest)) := va_alen hexec hb hK.1 hP q0 0 he rfl hv hdg kk
theorem is_ {f : Ar} {i x : Int32} (hexec : p.tables.exec = Jvm.exec) (hb : c.code = cc) (hK : KK D cI cS s) (hP : va_P D vwCl ws H) (hD : va_D A0 ws) (hS : va_S A0 H0 H locs) (q0 : Nat) (he : ws[q0]? = some (b, .inl (cI, n, .inl f))) (hU : ws.set q0 (b, .inl (cI, n, .inl (upd f i.toNatClampNeg x))) = ws') (hin : vp_in i n) (hdg : decode cc pc = .ok (.iastore, 1))
    (kk : ∀ (H1 : Heap) (locs1 : List Loc), va_P D vwCl ws' H1 → va_D A0 ws' → va_S A0 H0 H1 locs1 → W p l e R s m args below meth c H1 locs1 cells slots Q (F0 m (pc + 1) ls rest)) : W p l e R s m args below meth c H locs cells slots Q (F0 m pc ls (.int x :: .int i :: .ref b :: rest)) := by
  subst hU
  exact va_iast hexec hb hK.1 hP hD hS q0 0 he rfl hin hdg kk
theorem cp_ {a0 n0 : Nat} {f g : Ar} {sp dp k : Int32} (hexec : p.tables.exec = Jvm.exec) (hb : c.code = cc) (hml : c.maxLocals = ls.size) (hts : ∀ w ∈ GW, w.before args s = true) (hown : s.vm.findClass own = some m.cls) (hlink : Cond.methodLink own index arraycopyName ∈ GW) (hini : Cond.initialized "java/lang/System" ∈ GW) (hK : KK D cI cS s) (hP : va_P D vwCl ws H) (hD : va_D A0 ws) (hS : va_S A0 H0 H locs) (q0 q1 : Nat) (ha0 : ws[q0]? = some (a0, .inl (cI, n0, .inl f))) (ha1 : ws[q1]? = some (b, .inl (cI, n, .inl g)))
    (h1 : ¬ sp < 0) (h2 : ¬ dp < 0) (h3 : ¬ k < 0) (h4 : sp.toNatClampNeg + k.toNatClampNeg ≤ n0) (h5 : dp.toNatClampNeg + k.toNatClampNeg ≤ n) (hU : ws.set q1 (b, .inl (cI, n, .inl (va_cpy f g sp.toNatClampNeg dp.toNatClampNeg k.toNatClampNeg))) = ws') (hframes : 1 ≤ R.frames) (hlocals : (rest.map fun v => v.category).sum + (nativeFrameWords "java/lang/System" "arraycopy" 5 + 11) ≤ R.locals) (hdg : decode cc pc = .ok (.invokestatic index, 3))
    (kk : ∀ (H1 : Heap) (locs1 : List Loc), va_P D vwCl ws' H1 → va_D A0 ws' → va_S A0 H0 H1 locs1 → W p l e R s m args below meth c H1 locs1 cells slots Q (F0 m (pc + 3) ls rest)) : W p l e R s m args below meth c H locs cells slots Q (F0 m pc ls (.int k :: .int dp :: .ref b :: .int sp :: .ref a0 :: rest)) := by
  subst hU
  exact va_copyi hexec hb hml hown (hts _ hlink) (hts _ w_natCopy) (hts _ w_stCopy) (hts _ hini) hK.1 hP hD hS q0 q1 0 0 ha0 ha1 rfl rfl rfl h1 h2 h3 h4 h5 (fun _ _ => rfl) hframes hlocals hdg kk
end RC
section FL
variable {p : Program} {l : Launch} {e : Env} {R : Room} {s : State} {m : MethodId} {args : Array Value} {below : List Frame} {meth : Method} {c : Code} {H : Heap} {locs : List Loc} {cells slots : Nat} {Q : State → Prop}
variable {pc : Nat} {ls : Array Slot} {rest : List Value} {A0 : Nat → Prop} {H0 : Heap}
variable {D : va_G} {cI cS : ClassId} {ws ws' : va_W} {cc : ByteArray} {index : Nat} {own host : String} {b : Nat}
theorem gfX0_0 {f0 f1 f2 f3 f4 f5 : Value} (hexec : p.tables.exec = Jvm.exec) (hb : c.code = cc) (hts : ∀ w ∈ GW, w.before args s = true) (hown : s.vm.findClass own = some m.cls) (hK : KK D cI cS s) (hP : va_P D vwCl ws H) (q0 : Nat) (he : ws[q0]? = some (b, .inr (0, [f0, f1, f2, f3, f4, f5]))) (hl : Cond.fieldLink own index "SoiledTests$Orders" "letters" "[I" ∈ GW) (hdg : decode cc pc = .ok (.getfield index, 3)) (kk : W p l e R s m args below meth c H locs cells slots Q (F0 m (pc + 3) ls (f0 :: rest))) : W p l e R s m args below meth c H locs cells slots Q (F0 m pc ls (.ref b :: rest)) := va_get (T := TX0) (N := 6) hexec hb hts inX0 hown hK.1 hP q0 he rfl 0 (Nat.le_of_ble_eq_true rfl) (hts _ hl) (fun _ h9 => h9) rfl hdg kk
theorem gnX0_0 {f0 f1 f2 f3 f4 f5 : Value} (hexec : p.tables.exec = Jvm.exec) (hb : c.code = cc) (hts : ∀ w ∈ GW, w.before args s = true) (hown : s.vm.findClass own = some m.cls) (hK : KK D cI cS s) (hP : va_P D vwCl ws H) (q0 : Nat) (he : ws[q0]? = some (b, .inr (0, [f0, f1, f2, f3, f4, f5]))) (hl : Cond.fieldLinkNest own index "SoiledTests$Orders" "letters" "[I" host ∈ nW) (hdg : decode cc pc = .ok (.getfield index, 3)) (kk : W p l e R s m args below meth c H locs cells slots Q (F0 m (pc + 3) ls (f0 :: rest))) : W p l e R s m args below meth c H locs cells slots Q (F0 m pc ls (.ref b :: rest)) := va_getN (T := TX0) (N := 6) hexec hb hts inX0 hown hK.1 hP q0 he rfl 0 (Nat.le_of_ble_eq_true rfl) (va_Nw.use rfl (hK.2.1 _ hl)) (fun _ h9 => h9) rfl hdg kk
theorem gfX0_1 {f0 f1 f2 f3 f4 f5 : Value} (hexec : p.tables.exec = Jvm.exec) (hb : c.code = cc) (hts : ∀ w ∈ GW, w.before args s = true) (hown : s.vm.findClass own = some m.cls) (hK : KK D cI cS s) (hP : va_P D vwCl ws H) (q0 : Nat) (he : ws[q0]? = some (b, .inr (0, [f0, f1, f2, f3, f4, f5]))) (hl : Cond.fieldLink own index "SoiledTests$Orders" "numbers" "[I" ∈ GW) (hdg : decode cc pc = .ok (.getfield index, 3)) (kk : W p l e R s m args below meth c H locs cells slots Q (F0 m (pc + 3) ls (f1 :: rest))) : W p l e R s m args below meth c H locs cells slots Q (F0 m pc ls (.ref b :: rest)) := va_get (T := TX0) (N := 6) hexec hb hts inX0 hown hK.1 hP q0 he rfl 1 (Nat.le_of_ble_eq_true rfl) (hts _ hl) (fun _ h9 => h9) rfl hdg kk
theorem gnX0_1 {f0 f1 f2 f3 f4 f5 : Value} (hexec : p.tables.exec = Jvm.exec) (hb : c.code = cc) (hts : ∀ w ∈ GW, w.before args s = true) (hown : s.vm.findClass own = some m.cls) (hK : KK D cI cS s) (hP : va_P D vwCl ws H) (q0 : Nat) (he : ws[q0]? = some (b, .inr (0, [f0, f1, f2, f3, f4, f5]))) (hl : Cond.fieldLinkNest own index "SoiledTests$Orders" "numbers" "[I" host ∈ nW) (hdg : decode cc pc = .ok (.getfield index, 3)) (kk : W p l e R s m args below meth c H locs cells slots Q (F0 m (pc + 3) ls (f1 :: rest))) : W p l e R s m args below meth c H locs cells slots Q (F0 m pc ls (.ref b :: rest)) := va_getN (T := TX0) (N := 6) hexec hb hts inX0 hown hK.1 hP q0 he rfl 1 (Nat.le_of_ble_eq_true rfl) (va_Nw.use rfl (hK.2.1 _ hl)) (fun _ h9 => h9) rfl hdg kk
theorem gfX0_2 {f0 f1 f2 f3 f4 f5 : Value} (hexec : p.tables.exec = Jvm.exec) (hb : c.code = cc) (hts : ∀ w ∈ GW, w.before args s = true) (hown : s.vm.findClass own = some m.cls) (hK : KK D cI cS s) (hP : va_P D vwCl ws H) (q0 : Nat) (he : ws[q0]? = some (b, .inr (0, [f0, f1, f2, f3, f4, f5]))) (hl : Cond.fieldLink own index "SoiledTests$Orders" "size" "I" ∈ GW) (hdg : decode cc pc = .ok (.getfield index, 3)) (kk : W p l e R s m args below meth c H locs cells slots Q (F0 m (pc + 3) ls (f2 :: rest))) : W p l e R s m args below meth c H locs cells slots Q (F0 m pc ls (.ref b :: rest)) := va_get (T := TX0) (N := 6) hexec hb hts inX0 hown hK.1 hP q0 he rfl 2 (Nat.le_of_ble_eq_true rfl) (hts _ hl) (fun _ h9 => h9) rfl hdg kk
theorem gnX0_2 {f0 f1 f2 f3 f4 f5 : Value} (hexec : p.tables.exec = Jvm.exec) (hb : c.code = cc) (hts : ∀ w ∈ GW, w.before args s = true) (hown : s.vm.findClass own = some m.cls) (hK : KK D cI cS s) (hP : va_P D vwCl ws H) (q0 : Nat) (he : ws[q0]? = some (b, .inr (0, [f0, f1, f2, f3, f4, f5]))) (hl : Cond.fieldLinkNest own index "SoiledTests$Orders" "size" "I" host ∈ nW) (hdg : decode cc pc = .ok (.getfield index, 3)) (kk : W p l e R s m args below meth c H locs cells slots Q (F0 m (pc + 3) ls (f2 :: rest))) : W p l e R s m args below meth c H locs cells slots Q (F0 m pc ls (.ref b :: rest)) := va_getN (T := TX0) (N := 6) hexec hb hts inX0 hown hK.1 hP q0 he rfl 2 (Nat.le_of_ble_eq_true rfl) (va_Nw.use rfl (hK.2.1 _ hl)) (fun _ h9 => h9) rfl hdg kk
theorem pfX0_2 {f0 f1 f2 f3 f4 f5 : Value} {v : Int32} (hexec : p.tables.exec = Jvm.exec) (hb : c.code = cc) (hts : ∀ w ∈ GW, w.before args s = true) (hown : s.vm.findClass own = some m.cls) (hK : KK D cI cS s) (hP : va_P D vwCl ws H) (hD : va_D A0 ws) (hS : va_S A0 H0 H locs) (q0 : Nat) (he : ws[q0]? = some (b, .inr (0, [f0, f1, f2, f3, f4, f5]))) (hU : ws.set q0 (b, .inr (0, [f0, f1, .int v, f3, f4, f5])) = ws') (hl : Cond.fieldLink own index "SoiledTests$Orders" "size" "I" ∈ GW) (hdg : decode cc pc = .ok (.putfield index, 3)) (kk : ∀ (H1 : Heap) (locs1 : List Loc), va_P D vwCl ws' H1 → va_D A0 ws' → va_S A0 H0 H1 locs1 → W p l e R s m args below meth c H1 locs1 cells slots Q (F0 m (pc + 3) ls rest)) : W p l e R s m args below meth c H locs cells slots Q (F0 m pc ls (.int v :: .ref b :: rest)) := by
  subst hU
  exact va_put (T := TX0) (N := 6) (ty := .int) hexec hb hts inX0 tyX0 tyX0_ok nmX0 hown hK.1 hP hD hS q0 he rfl 2 (Nat.le_of_ble_eq_true rfl) (hts _ hl) (fun _ h9 => h9) rfl (by decide +kernel) rfl rfl (Nat.le_of_ble_eq_true rfl) hdg kk
theorem gfX0_3 {f0 f1 f2 f3 f4 f5 : Value} (hexec : p.tables.exec = Jvm.exec) (hb : c.code = cc) (hts : ∀ w ∈ GW, w.before args s = true) (hown : s.vm.findClass own = some m.cls) (hK : KK D cI cS s) (hP : va_P D vwCl ws H) (q0 : Nat) (he : ws[q0]? = some (b, .inr (0, [f0, f1, f2, f3, f4, f5]))) (hl : Cond.fieldLink own index "SoiledTests$Orders" "wanted" "I" ∈ GW) (hdg : decode cc pc = .ok (.getfield index, 3)) (kk : W p l e R s m args below meth c H locs cells slots Q (F0 m (pc + 3) ls (f3 :: rest))) : W p l e R s m args below meth c H locs cells slots Q (F0 m pc ls (.ref b :: rest)) := va_get (T := TX0) (N := 6) hexec hb hts inX0 hown hK.1 hP q0 he rfl 3 (Nat.le_of_ble_eq_true rfl) (hts _ hl) (fun _ h9 => h9) rfl hdg kk
theorem gnX0_3 {f0 f1 f2 f3 f4 f5 : Value} (hexec : p.tables.exec = Jvm.exec) (hb : c.code = cc) (hts : ∀ w ∈ GW, w.before args s = true) (hown : s.vm.findClass own = some m.cls) (hK : KK D cI cS s) (hP : va_P D vwCl ws H) (q0 : Nat) (he : ws[q0]? = some (b, .inr (0, [f0, f1, f2, f3, f4, f5]))) (hl : Cond.fieldLinkNest own index "SoiledTests$Orders" "wanted" "I" host ∈ nW) (hdg : decode cc pc = .ok (.getfield index, 3)) (kk : W p l e R s m args below meth c H locs cells slots Q (F0 m (pc + 3) ls (f3 :: rest))) : W p l e R s m args below meth c H locs cells slots Q (F0 m pc ls (.ref b :: rest)) := va_getN (T := TX0) (N := 6) hexec hb hts inX0 hown hK.1 hP q0 he rfl 3 (Nat.le_of_ble_eq_true rfl) (va_Nw.use rfl (hK.2.1 _ hl)) (fun _ h9 => h9) rfl hdg kk
theorem pfX0_3 {f0 f1 f2 f3 f4 f5 : Value} {v : Int32} (hexec : p.tables.exec = Jvm.exec) (hb : c.code = cc) (hts : ∀ w ∈ GW, w.before args s = true) (hown : s.vm.findClass own = some m.cls) (hK : KK D cI cS s) (hP : va_P D vwCl ws H) (hD : va_D A0 ws) (hS : va_S A0 H0 H locs) (q0 : Nat) (he : ws[q0]? = some (b, .inr (0, [f0, f1, f2, f3, f4, f5]))) (hU : ws.set q0 (b, .inr (0, [f0, f1, f2, .int v, f4, f5])) = ws') (hl : Cond.fieldLink own index "SoiledTests$Orders" "wanted" "I" ∈ GW) (hdg : decode cc pc = .ok (.putfield index, 3)) (kk : ∀ (H1 : Heap) (locs1 : List Loc), va_P D vwCl ws' H1 → va_D A0 ws' → va_S A0 H0 H1 locs1 → W p l e R s m args below meth c H1 locs1 cells slots Q (F0 m (pc + 3) ls rest)) : W p l e R s m args below meth c H locs cells slots Q (F0 m pc ls (.int v :: .ref b :: rest)) := by
  subst hU
  exact va_put (T := TX0) (N := 6) (ty := .int) hexec hb hts inX0 tyX0 tyX0_ok nmX0 hown hK.1 hP hD hS q0 he rfl 3 (Nat.le_of_ble_eq_true rfl) (hts _ hl) (fun _ h9 => h9) rfl (by decide +kernel) rfl rfl (Nat.le_of_ble_eq_true rfl) hdg kk
theorem gfX0_4 {f0 f1 f2 f3 f4 f5 : Value} (hexec : p.tables.exec = Jvm.exec) (hb : c.code = cc) (hts : ∀ w ∈ GW, w.before args s = true) (hown : s.vm.findClass own = some m.cls) (hK : KK D cI cS s) (hP : va_P D vwCl ws H) (q0 : Nat) (he : ws[q0]? = some (b, .inr (0, [f0, f1, f2, f3, f4, f5]))) (hl : Cond.fieldLink own index "SoiledTests$Orders" "begun" "I" ∈ GW) (hdg : decode cc pc = .ok (.getfield index, 3)) (kk : W p l e R s m args below meth c H locs cells slots Q (F0 m (pc + 3) ls (f4 :: rest))) : W p l e R s m args below meth c H locs cells slots Q (F0 m pc ls (.ref b :: rest)) := va_get (T := TX0) (N := 6) hexec hb hts inX0 hown hK.1 hP q0 he rfl 4 (Nat.le_of_ble_eq_true rfl) (hts _ hl) (fun _ h9 => h9) rfl hdg kk
theorem gnX0_4 {f0 f1 f2 f3 f4 f5 : Value} (hexec : p.tables.exec = Jvm.exec) (hb : c.code = cc) (hts : ∀ w ∈ GW, w.before args s = true) (hown : s.vm.findClass own = some m.cls) (hK : KK D cI cS s) (hP : va_P D vwCl ws H) (q0 : Nat) (he : ws[q0]? = some (b, .inr (0, [f0, f1, f2, f3, f4, f5]))) (hl : Cond.fieldLinkNest own index "SoiledTests$Orders" "begun" "I" host ∈ nW) (hdg : decode cc pc = .ok (.getfield index, 3)) (kk : W p l e R s m args below meth c H locs cells slots Q (F0 m (pc + 3) ls (f4 :: rest))) : W p l e R s m args below meth c H locs cells slots Q (F0 m pc ls (.ref b :: rest)) := va_getN (T := TX0) (N := 6) hexec hb hts inX0 hown hK.1 hP q0 he rfl 4 (Nat.le_of_ble_eq_true rfl) (va_Nw.use rfl (hK.2.1 _ hl)) (fun _ h9 => h9) rfl hdg kk
theorem pfX0_4 {f0 f1 f2 f3 f4 f5 : Value} {v : Int32} (hexec : p.tables.exec = Jvm.exec) (hb : c.code = cc) (hts : ∀ w ∈ GW, w.before args s = true) (hown : s.vm.findClass own = some m.cls) (hK : KK D cI cS s) (hP : va_P D vwCl ws H) (hD : va_D A0 ws) (hS : va_S A0 H0 H locs) (q0 : Nat) (he : ws[q0]? = some (b, .inr (0, [f0, f1, f2, f3, f4, f5]))) (hU : ws.set q0 (b, .inr (0, [f0, f1, f2, f3, .int v, f5])) = ws') (hl : Cond.fieldLink own index "SoiledTests$Orders" "begun" "I" ∈ GW) (hdg : decode cc pc = .ok (.putfield index, 3)) (kk : ∀ (H1 : Heap) (locs1 : List Loc), va_P D vwCl ws' H1 → va_D A0 ws' → va_S A0 H0 H1 locs1 → W p l e R s m args below meth c H1 locs1 cells slots Q (F0 m (pc + 3) ls rest)) : W p l e R s m args below meth c H locs cells slots Q (F0 m pc ls (.int v :: .ref b :: rest)) := by
  subst hU
  exact va_put (T := TX0) (N := 6) (ty := .int) hexec hb hts inX0 tyX0 tyX0_ok nmX0 hown hK.1 hP hD hS q0 he rfl 4 (Nat.le_of_ble_eq_true rfl) (hts _ hl) (fun _ h9 => h9) rfl (by decide +kernel) rfl rfl (Nat.le_of_ble_eq_true rfl) hdg kk
theorem gfX0_5 {f0 f1 f2 f3 f4 f5 : Value} (hexec : p.tables.exec = Jvm.exec) (hb : c.code = cc) (hts : ∀ w ∈ GW, w.before args s = true) (hown : s.vm.findClass own = some m.cls) (hK : KK D cI cS s) (hP : va_P D vwCl ws H) (q0 : Nat) (he : ws[q0]? = some (b, .inr (0, [f0, f1, f2, f3, f4, f5]))) (hl : Cond.fieldLink own index "SoiledTests$Orders" "figures" "I" ∈ GW) (hdg : decode cc pc = .ok (.getfield index, 3)) (kk : W p l e R s m args below meth c H locs cells slots Q (F0 m (pc + 3) ls (f5 :: rest))) : W p l e R s m args below meth c H locs cells slots Q (F0 m pc ls (.ref b :: rest)) := va_get (T := TX0) (N := 6) hexec hb hts inX0 hown hK.1 hP q0 he rfl 5 (Nat.le_of_ble_eq_true rfl) (hts _ hl) (fun _ h9 => h9) rfl hdg kk
theorem gnX0_5 {f0 f1 f2 f3 f4 f5 : Value} (hexec : p.tables.exec = Jvm.exec) (hb : c.code = cc) (hts : ∀ w ∈ GW, w.before args s = true) (hown : s.vm.findClass own = some m.cls) (hK : KK D cI cS s) (hP : va_P D vwCl ws H) (q0 : Nat) (he : ws[q0]? = some (b, .inr (0, [f0, f1, f2, f3, f4, f5]))) (hl : Cond.fieldLinkNest own index "SoiledTests$Orders" "figures" "I" host ∈ nW) (hdg : decode cc pc = .ok (.getfield index, 3)) (kk : W p l e R s m args below meth c H locs cells slots Q (F0 m (pc + 3) ls (f5 :: rest))) : W p l e R s m args below meth c H locs cells slots Q (F0 m pc ls (.ref b :: rest)) := va_getN (T := TX0) (N := 6) hexec hb hts inX0 hown hK.1 hP q0 he rfl 5 (Nat.le_of_ble_eq_true rfl) (va_Nw.use rfl (hK.2.1 _ hl)) (fun _ h9 => h9) rfl hdg kk
theorem pfX0_5 {f0 f1 f2 f3 f4 f5 : Value} {v : Int32} (hexec : p.tables.exec = Jvm.exec) (hb : c.code = cc) (hts : ∀ w ∈ GW, w.before args s = true) (hown : s.vm.findClass own = some m.cls) (hK : KK D cI cS s) (hP : va_P D vwCl ws H) (hD : va_D A0 ws) (hS : va_S A0 H0 H locs) (q0 : Nat) (he : ws[q0]? = some (b, .inr (0, [f0, f1, f2, f3, f4, f5]))) (hU : ws.set q0 (b, .inr (0, [f0, f1, f2, f3, f4, .int v])) = ws') (hl : Cond.fieldLink own index "SoiledTests$Orders" "figures" "I" ∈ GW) (hdg : decode cc pc = .ok (.putfield index, 3)) (kk : ∀ (H1 : Heap) (locs1 : List Loc), va_P D vwCl ws' H1 → va_D A0 ws' → va_S A0 H0 H1 locs1 → W p l e R s m args below meth c H1 locs1 cells slots Q (F0 m (pc + 3) ls rest)) : W p l e R s m args below meth c H locs cells slots Q (F0 m pc ls (.int v :: .ref b :: rest)) := by
  subst hU
  exact va_put (T := TX0) (N := 6) (ty := .int) hexec hb hts inX0 tyX0 tyX0_ok nmX0 hown hK.1 hP hD hS q0 he rfl 5 (Nat.le_of_ble_eq_true rfl) (hts _ hl) (fun _ h9 => h9) rfl (by decide +kernel) rfl rfl (Nat.le_of_ble_eq_true rfl) hdg kk
theorem gfX1_0 {f0 f1 f2 : Value} (hexec : p.tables.exec = Jvm.exec) (hb : c.code = cc) (hts : ∀ w ∈ GW, w.before args s = true) (hown : s.vm.findClass own = some m.cls) (hK : KK D cI cS s) (hP : va_P D vwCl ws H) (q0 : Nat) (he : ws[q0]? = some (b, .inr (1, [f0, f1, f2]))) (hl : Cond.fieldLink own index "SoiledTests$Past" "slots" "[LSoiledTests$Suite;" ∈ GW) (hdg : decode cc pc = .ok (.getfield index, 3)) (kk : W p l e R s m args below meth c H locs cells slots Q (F0 m (pc + 3) ls (f0 :: rest))) : W p l e R s m args below meth c H locs cells slots Q (F0 m pc ls (.ref b :: rest)) := va_get (T := TX1) (N := 3) hexec hb hts inX1 hown hK.1 hP q0 he rfl 0 (Nat.le_of_ble_eq_true rfl) (hts _ hl) (fun _ h9 => h9) rfl hdg kk
theorem gnX1_0 {f0 f1 f2 : Value} (hexec : p.tables.exec = Jvm.exec) (hb : c.code = cc) (hts : ∀ w ∈ GW, w.before args s = true) (hown : s.vm.findClass own = some m.cls) (hK : KK D cI cS s) (hP : va_P D vwCl ws H) (q0 : Nat) (he : ws[q0]? = some (b, .inr (1, [f0, f1, f2]))) (hl : Cond.fieldLinkNest own index "SoiledTests$Past" "slots" "[LSoiledTests$Suite;" host ∈ nW) (hdg : decode cc pc = .ok (.getfield index, 3)) (kk : W p l e R s m args below meth c H locs cells slots Q (F0 m (pc + 3) ls (f0 :: rest))) : W p l e R s m args below meth c H locs cells slots Q (F0 m pc ls (.ref b :: rest)) := va_getN (T := TX1) (N := 3) hexec hb hts inX1 hown hK.1 hP q0 he rfl 0 (Nat.le_of_ble_eq_true rfl) (va_Nw.use rfl (hK.2.1 _ hl)) (fun _ h9 => h9) rfl hdg kk
theorem gfX1_1 {f0 f1 f2 : Value} (hexec : p.tables.exec = Jvm.exec) (hb : c.code = cc) (hts : ∀ w ∈ GW, w.before args s = true) (hown : s.vm.findClass own = some m.cls) (hK : KK D cI cS s) (hP : va_P D vwCl ws H) (q0 : Nat) (he : ws[q0]? = some (b, .inr (1, [f0, f1, f2]))) (hl : Cond.fieldLink own index "SoiledTests$Past" "size" "I" ∈ GW) (hdg : decode cc pc = .ok (.getfield index, 3)) (kk : W p l e R s m args below meth c H locs cells slots Q (F0 m (pc + 3) ls (f1 :: rest))) : W p l e R s m args below meth c H locs cells slots Q (F0 m pc ls (.ref b :: rest)) := va_get (T := TX1) (N := 3) hexec hb hts inX1 hown hK.1 hP q0 he rfl 1 (Nat.le_of_ble_eq_true rfl) (hts _ hl) (fun _ h9 => h9) rfl hdg kk
theorem gnX1_1 {f0 f1 f2 : Value} (hexec : p.tables.exec = Jvm.exec) (hb : c.code = cc) (hts : ∀ w ∈ GW, w.before args s = true) (hown : s.vm.findClass own = some m.cls) (hK : KK D cI cS s) (hP : va_P D vwCl ws H) (q0 : Nat) (he : ws[q0]? = some (b, .inr (1, [f0, f1, f2]))) (hl : Cond.fieldLinkNest own index "SoiledTests$Past" "size" "I" host ∈ nW) (hdg : decode cc pc = .ok (.getfield index, 3)) (kk : W p l e R s m args below meth c H locs cells slots Q (F0 m (pc + 3) ls (f1 :: rest))) : W p l e R s m args below meth c H locs cells slots Q (F0 m pc ls (.ref b :: rest)) := va_getN (T := TX1) (N := 3) hexec hb hts inX1 hown hK.1 hP q0 he rfl 1 (Nat.le_of_ble_eq_true rfl) (va_Nw.use rfl (hK.2.1 _ hl)) (fun _ h9 => h9) rfl hdg kk
theorem pfX1_1 {f0 f1 f2 : Value} {v : Int32} (hexec : p.tables.exec = Jvm.exec) (hb : c.code = cc) (hts : ∀ w ∈ GW, w.before args s = true) (hown : s.vm.findClass own = some m.cls) (hK : KK D cI cS s) (hP : va_P D vwCl ws H) (hD : va_D A0 ws) (hS : va_S A0 H0 H locs) (q0 : Nat) (he : ws[q0]? = some (b, .inr (1, [f0, f1, f2]))) (hU : ws.set q0 (b, .inr (1, [f0, .int v, f2])) = ws') (hl : Cond.fieldLink own index "SoiledTests$Past" "size" "I" ∈ GW) (hdg : decode cc pc = .ok (.putfield index, 3)) (kk : ∀ (H1 : Heap) (locs1 : List Loc), va_P D vwCl ws' H1 → va_D A0 ws' → va_S A0 H0 H1 locs1 → W p l e R s m args below meth c H1 locs1 cells slots Q (F0 m (pc + 3) ls rest)) : W p l e R s m args below meth c H locs cells slots Q (F0 m pc ls (.int v :: .ref b :: rest)) := by
  subst hU
  exact va_put (T := TX1) (N := 3) (ty := .int) hexec hb hts inX1 tyX1 tyX1_ok nmX1 hown hK.1 hP hD hS q0 he rfl 1 (Nat.le_of_ble_eq_true rfl) (hts _ hl) (fun _ h9 => h9) rfl (by decide +kernel) rfl rfl (Nat.le_of_ble_eq_true rfl) hdg kk
theorem gfX1_2 {f0 f1 f2 : Value} (hexec : p.tables.exec = Jvm.exec) (hb : c.code = cc) (hts : ∀ w ∈ GW, w.before args s = true) (hown : s.vm.findClass own = some m.cls) (hK : KK D cI cS s) (hP : va_P D vwCl ws H) (q0 : Nat) (he : ws[q0]? = some (b, .inr (1, [f0, f1, f2]))) (hl : Cond.fieldLink own index "SoiledTests$Past" "marked" "I" ∈ GW) (hdg : decode cc pc = .ok (.getfield index, 3)) (kk : W p l e R s m args below meth c H locs cells slots Q (F0 m (pc + 3) ls (f2 :: rest))) : W p l e R s m args below meth c H locs cells slots Q (F0 m pc ls (.ref b :: rest)) := va_get (T := TX1) (N := 3) hexec hb hts inX1 hown hK.1 hP q0 he rfl 2 (Nat.le_of_ble_eq_true rfl) (hts _ hl) (fun _ h9 => h9) rfl hdg kk
theorem gnX1_2 {f0 f1 f2 : Value} (hexec : p.tables.exec = Jvm.exec) (hb : c.code = cc) (hts : ∀ w ∈ GW, w.before args s = true) (hown : s.vm.findClass own = some m.cls) (hK : KK D cI cS s) (hP : va_P D vwCl ws H) (q0 : Nat) (he : ws[q0]? = some (b, .inr (1, [f0, f1, f2]))) (hl : Cond.fieldLinkNest own index "SoiledTests$Past" "marked" "I" host ∈ nW) (hdg : decode cc pc = .ok (.getfield index, 3)) (kk : W p l e R s m args below meth c H locs cells slots Q (F0 m (pc + 3) ls (f2 :: rest))) : W p l e R s m args below meth c H locs cells slots Q (F0 m pc ls (.ref b :: rest)) := va_getN (T := TX1) (N := 3) hexec hb hts inX1 hown hK.1 hP q0 he rfl 2 (Nat.le_of_ble_eq_true rfl) (va_Nw.use rfl (hK.2.1 _ hl)) (fun _ h9 => h9) rfl hdg kk
theorem pfX1_2 {f0 f1 f2 : Value} {v : Int32} (hexec : p.tables.exec = Jvm.exec) (hb : c.code = cc) (hts : ∀ w ∈ GW, w.before args s = true) (hown : s.vm.findClass own = some m.cls) (hK : KK D cI cS s) (hP : va_P D vwCl ws H) (hD : va_D A0 ws) (hS : va_S A0 H0 H locs) (q0 : Nat) (he : ws[q0]? = some (b, .inr (1, [f0, f1, f2]))) (hU : ws.set q0 (b, .inr (1, [f0, f1, .int v])) = ws') (hl : Cond.fieldLink own index "SoiledTests$Past" "marked" "I" ∈ GW) (hdg : decode cc pc = .ok (.putfield index, 3)) (kk : ∀ (H1 : Heap) (locs1 : List Loc), va_P D vwCl ws' H1 → va_D A0 ws' → va_S A0 H0 H1 locs1 → W p l e R s m args below meth c H1 locs1 cells slots Q (F0 m (pc + 3) ls rest)) : W p l e R s m args below meth c H locs cells slots Q (F0 m pc ls (.int v :: .ref b :: rest)) := by
  subst hU
  exact va_put (T := TX1) (N := 3) (ty := .int) hexec hb hts inX1 tyX1 tyX1_ok nmX1 hown hK.1 hP hD hS q0 he rfl 2 (Nat.le_of_ble_eq_true rfl) (hts _ hl) (fun _ h9 => h9) rfl (by decide +kernel) rfl rfl (Nat.le_of_ble_eq_true rfl) hdg kk
theorem gfX3_0 {f0 f1 : Value} (hexec : p.tables.exec = Jvm.exec) (hb : c.code = cc) (hts : ∀ w ∈ GW, w.before args s = true) (hown : s.vm.findClass own = some m.cls) (hK : KK D cI cS s) (hP : va_P D vwCl ws H) (q0 : Nat) (he : ws[q0]? = some (b, .inr (2, [f0, f1]))) (hl : Cond.fieldLink own index "SoiledTests$Row" "tests" "[I" ∈ GW) (hdg : decode cc pc = .ok (.getfield index, 3)) (kk : W p l e R s m args below meth c H locs cells slots Q (F0 m (pc + 3) ls (f0 :: rest))) : W p l e R s m args below meth c H locs cells slots Q (F0 m pc ls (.ref b :: rest)) := va_get (T := TX3) (N := 2) hexec hb hts inX3 hown hK.1 hP q0 he rfl 0 (Nat.le_of_ble_eq_true rfl) (hts _ hl) (fun _ h9 => h9) rfl hdg kk
theorem gnX3_0 {f0 f1 : Value} (hexec : p.tables.exec = Jvm.exec) (hb : c.code = cc) (hts : ∀ w ∈ GW, w.before args s = true) (hown : s.vm.findClass own = some m.cls) (hK : KK D cI cS s) (hP : va_P D vwCl ws H) (q0 : Nat) (he : ws[q0]? = some (b, .inr (2, [f0, f1]))) (hl : Cond.fieldLinkNest own index "SoiledTests$Row" "tests" "[I" host ∈ nW) (hdg : decode cc pc = .ok (.getfield index, 3)) (kk : W p l e R s m args below meth c H locs cells slots Q (F0 m (pc + 3) ls (f0 :: rest))) : W p l e R s m args below meth c H locs cells slots Q (F0 m pc ls (.ref b :: rest)) := va_getN (T := TX3) (N := 2) hexec hb hts inX3 hown hK.1 hP q0 he rfl 0 (Nat.le_of_ble_eq_true rfl) (va_Nw.use rfl (hK.2.1 _ hl)) (fun _ h9 => h9) rfl hdg kk
theorem gfX3_1 {f0 f1 : Value} (hexec : p.tables.exec = Jvm.exec) (hb : c.code = cc) (hts : ∀ w ∈ GW, w.before args s = true) (hown : s.vm.findClass own = some m.cls) (hK : KK D cI cS s) (hP : va_P D vwCl ws H) (q0 : Nat) (he : ws[q0]? = some (b, .inr (2, [f0, f1]))) (hl : Cond.fieldLink own index "SoiledTests$Row" "size" "I" ∈ GW) (hdg : decode cc pc = .ok (.getfield index, 3)) (kk : W p l e R s m args below meth c H locs cells slots Q (F0 m (pc + 3) ls (f1 :: rest))) : W p l e R s m args below meth c H locs cells slots Q (F0 m pc ls (.ref b :: rest)) := va_get (T := TX3) (N := 2) hexec hb hts inX3 hown hK.1 hP q0 he rfl 1 (Nat.le_of_ble_eq_true rfl) (hts _ hl) (fun _ h9 => h9) rfl hdg kk
theorem gnX3_1 {f0 f1 : Value} (hexec : p.tables.exec = Jvm.exec) (hb : c.code = cc) (hts : ∀ w ∈ GW, w.before args s = true) (hown : s.vm.findClass own = some m.cls) (hK : KK D cI cS s) (hP : va_P D vwCl ws H) (q0 : Nat) (he : ws[q0]? = some (b, .inr (2, [f0, f1]))) (hl : Cond.fieldLinkNest own index "SoiledTests$Row" "size" "I" host ∈ nW) (hdg : decode cc pc = .ok (.getfield index, 3)) (kk : W p l e R s m args below meth c H locs cells slots Q (F0 m (pc + 3) ls (f1 :: rest))) : W p l e R s m args below meth c H locs cells slots Q (F0 m pc ls (.ref b :: rest)) := va_getN (T := TX3) (N := 2) hexec hb hts inX3 hown hK.1 hP q0 he rfl 1 (Nat.le_of_ble_eq_true rfl) (va_Nw.use rfl (hK.2.1 _ hl)) (fun _ h9 => h9) rfl hdg kk
theorem pfX3_1 {f0 f1 : Value} {v : Int32} (hexec : p.tables.exec = Jvm.exec) (hb : c.code = cc) (hts : ∀ w ∈ GW, w.before args s = true) (hown : s.vm.findClass own = some m.cls) (hK : KK D cI cS s) (hP : va_P D vwCl ws H) (hD : va_D A0 ws) (hS : va_S A0 H0 H locs) (q0 : Nat) (he : ws[q0]? = some (b, .inr (2, [f0, f1]))) (hU : ws.set q0 (b, .inr (2, [f0, .int v])) = ws') (hl : Cond.fieldLink own index "SoiledTests$Row" "size" "I" ∈ GW) (hdg : decode cc pc = .ok (.putfield index, 3)) (kk : ∀ (H1 : Heap) (locs1 : List Loc), va_P D vwCl ws' H1 → va_D A0 ws' → va_S A0 H0 H1 locs1 → W p l e R s m args below meth c H1 locs1 cells slots Q (F0 m (pc + 3) ls rest)) : W p l e R s m args below meth c H locs cells slots Q (F0 m pc ls (.int v :: .ref b :: rest)) := by
  subst hU
  exact va_put (T := TX3) (N := 2) (ty := .int) hexec hb hts inX3 tyX3 tyX3_ok nmX3 hown hK.1 hP hD hS q0 he rfl 1 (Nat.le_of_ble_eq_true rfl) (hts _ hl) (fun _ h9 => h9) rfl (by decide +kernel) rfl rfl (Nat.le_of_ble_eq_true rfl) hdg kk
theorem gfX4_0 {f0 f1 f2 f3 f4 : Value} (hexec : p.tables.exec = Jvm.exec) (hb : c.code = cc) (hts : ∀ w ∈ GW, w.before args s = true) (hown : s.vm.findClass own = some m.cls) (hK : KK D cI cS s) (hP : va_P D vwCl ws H) (q0 : Nat) (he : ws[q0]? = some (b, .inr (3, [f0, f1, f2, f3, f4]))) (hl : Cond.fieldLink own index "SoiledTests$Suite" "masks" "[I" ∈ GW) (hdg : decode cc pc = .ok (.getfield index, 3)) (kk : W p l e R s m args below meth c H locs cells slots Q (F0 m (pc + 3) ls (f0 :: rest))) : W p l e R s m args below meth c H locs cells slots Q (F0 m pc ls (.ref b :: rest)) := va_get (T := TX4) (N := 5) hexec hb hts inX4 hown hK.1 hP q0 he rfl 0 (Nat.le_of_ble_eq_true rfl) (hts _ hl) (fun _ h9 => h9) rfl hdg kk
theorem gnX4_0 {f0 f1 f2 f3 f4 : Value} (hexec : p.tables.exec = Jvm.exec) (hb : c.code = cc) (hts : ∀ w ∈ GW, w.before args s = true) (hown : s.vm.findClass own = some m.cls) (hK : KK D cI cS s) (hP : va_P D vwCl ws H) (q0 : Nat) (he : ws[q0]? = some (b, .inr (3, [f0, f1, f2, f3, f4]))) (hl : Cond.fieldLinkNest own index "SoiledTests$Suite" "masks" "[I" host ∈ nW) (hdg : decode cc pc = .ok (.getfield index, 3)) (kk : W p l e R s m args below meth c H locs cells slots Q (F0 m (pc + 3) ls (f0 :: rest))) : W p l e R s m args below meth c H locs cells slots Q (F0 m pc ls (.ref b :: rest)) := va_getN (T := TX4) (N := 5) hexec hb hts inX4 hown hK.1 hP q0 he rfl 0 (Nat.le_of_ble_eq_true rfl) (va_Nw.use rfl (hK.2.1 _ hl)) (fun _ h9 => h9) rfl hdg kk
theorem gfX4_1 {f0 f1 f2 f3 f4 : Value} (hexec : p.tables.exec = Jvm.exec) (hb : c.code = cc) (hts : ∀ w ∈ GW, w.before args s = true) (hown : s.vm.findClass own = some m.cls) (hK : KK D cI cS s) (hP : va_P D vwCl ws H) (q0 : Nat) (he : ws[q0]? = some (b, .inr (3, [f0, f1, f2, f3, f4]))) (hl : Cond.fieldLink own index "SoiledTests$Suite" "row" "LSoiledTests$Row;" ∈ GW) (hdg : decode cc pc = .ok (.getfield index, 3)) (kk : W p l e R s m args below meth c H locs cells slots Q (F0 m (pc + 3) ls (f1 :: rest))) : W p l e R s m args below meth c H locs cells slots Q (F0 m pc ls (.ref b :: rest)) := va_get (T := TX4) (N := 5) hexec hb hts inX4 hown hK.1 hP q0 he rfl 1 (Nat.le_of_ble_eq_true rfl) (hts _ hl) (fun _ h9 => h9) rfl hdg kk
theorem gnX4_1 {f0 f1 f2 f3 f4 : Value} (hexec : p.tables.exec = Jvm.exec) (hb : c.code = cc) (hts : ∀ w ∈ GW, w.before args s = true) (hown : s.vm.findClass own = some m.cls) (hK : KK D cI cS s) (hP : va_P D vwCl ws H) (q0 : Nat) (he : ws[q0]? = some (b, .inr (3, [f0, f1, f2, f3, f4]))) (hl : Cond.fieldLinkNest own index "SoiledTests$Suite" "row" "LSoiledTests$Row;" host ∈ nW) (hdg : decode cc pc = .ok (.getfield index, 3)) (kk : W p l e R s m args below meth c H locs cells slots Q (F0 m (pc + 3) ls (f1 :: rest))) : W p l e R s m args below meth c H locs cells slots Q (F0 m pc ls (.ref b :: rest)) := va_getN (T := TX4) (N := 5) hexec hb hts inX4 hown hK.1 hP q0 he rfl 1 (Nat.le_of_ble_eq_true rfl) (va_Nw.use rfl (hK.2.1 _ hl)) (fun _ h9 => h9) rfl hdg kk
theorem gfX4_2 {f0 f1 f2 f3 f4 : Value} (hexec : p.tables.exec = Jvm.exec) (hb : c.code = cc) (hts : ∀ w ∈ GW, w.before args s = true) (hown : s.vm.findClass own = some m.cls) (hK : KK D cI cS s) (hP : va_P D vwCl ws H) (q0 : Nat) (he : ws[q0]? = some (b, .inr (3, [f0, f1, f2, f3, f4]))) (hl : Cond.fieldLink own index "SoiledTests$Suite" "size" "I" ∈ GW) (hdg : decode cc pc = .ok (.getfield index, 3)) (kk : W p l e R s m args below meth c H locs cells slots Q (F0 m (pc + 3) ls (f2 :: rest))) : W p l e R s m args below meth c H locs cells slots Q (F0 m pc ls (.ref b :: rest)) := va_get (T := TX4) (N := 5) hexec hb hts inX4 hown hK.1 hP q0 he rfl 2 (Nat.le_of_ble_eq_true rfl) (hts _ hl) (fun _ h9 => h9) rfl hdg kk
theorem gnX4_2 {f0 f1 f2 f3 f4 : Value} (hexec : p.tables.exec = Jvm.exec) (hb : c.code = cc) (hts : ∀ w ∈ GW, w.before args s = true) (hown : s.vm.findClass own = some m.cls) (hK : KK D cI cS s) (hP : va_P D vwCl ws H) (q0 : Nat) (he : ws[q0]? = some (b, .inr (3, [f0, f1, f2, f3, f4]))) (hl : Cond.fieldLinkNest own index "SoiledTests$Suite" "size" "I" host ∈ nW) (hdg : decode cc pc = .ok (.getfield index, 3)) (kk : W p l e R s m args below meth c H locs cells slots Q (F0 m (pc + 3) ls (f2 :: rest))) : W p l e R s m args below meth c H locs cells slots Q (F0 m pc ls (.ref b :: rest)) := va_getN (T := TX4) (N := 5) hexec hb hts inX4 hown hK.1 hP q0 he rfl 2 (Nat.le_of_ble_eq_true rfl) (va_Nw.use rfl (hK.2.1 _ hl)) (fun _ h9 => h9) rfl hdg kk
theorem pfX4_2 {f0 f1 f2 f3 f4 : Value} {v : Int32} (hexec : p.tables.exec = Jvm.exec) (hb : c.code = cc) (hts : ∀ w ∈ GW, w.before args s = true) (hown : s.vm.findClass own = some m.cls) (hK : KK D cI cS s) (hP : va_P D vwCl ws H) (hD : va_D A0 ws) (hS : va_S A0 H0 H locs) (q0 : Nat) (he : ws[q0]? = some (b, .inr (3, [f0, f1, f2, f3, f4]))) (hU : ws.set q0 (b, .inr (3, [f0, f1, .int v, f3, f4])) = ws') (hl : Cond.fieldLink own index "SoiledTests$Suite" "size" "I" ∈ GW) (hdg : decode cc pc = .ok (.putfield index, 3)) (kk : ∀ (H1 : Heap) (locs1 : List Loc), va_P D vwCl ws' H1 → va_D A0 ws' → va_S A0 H0 H1 locs1 → W p l e R s m args below meth c H1 locs1 cells slots Q (F0 m (pc + 3) ls rest)) : W p l e R s m args below meth c H locs cells slots Q (F0 m pc ls (.int v :: .ref b :: rest)) := by
  subst hU
  exact va_put (T := TX4) (N := 5) (ty := .int) hexec hb hts inX4 tyX4 tyX4_ok nmX4 hown hK.1 hP hD hS q0 he rfl 2 (Nat.le_of_ble_eq_true rfl) (hts _ hl) (fun _ h9 => h9) rfl (by decide +kernel) rfl rfl (Nat.le_of_ble_eq_true rfl) hdg kk
theorem gfX4_3 {f0 f1 f2 f3 f4 : Value} (hexec : p.tables.exec = Jvm.exec) (hb : c.code = cc) (hts : ∀ w ∈ GW, w.before args s = true) (hown : s.vm.findClass own = some m.cls) (hK : KK D cI cS s) (hP : va_P D vwCl ws H) (q0 : Nat) (he : ws[q0]? = some (b, .inr (3, [f0, f1, f2, f3, f4]))) (hl : Cond.fieldLink own index "SoiledTests$Suite" "startCells" "I" ∈ GW) (hdg : decode cc pc = .ok (.getfield index, 3)) (kk : W p l e R s m args below meth c H locs cells slots Q (F0 m (pc + 3) ls (f3 :: rest))) : W p l e R s m args below meth c H locs cells slots Q (F0 m pc ls (.ref b :: rest)) := va_get (T := TX4) (N := 5) hexec hb hts inX4 hown hK.1 hP q0 he rfl 3 (Nat.le_of_ble_eq_true rfl) (hts _ hl) (fun _ h9 => h9) rfl hdg kk
theorem gnX4_3 {f0 f1 f2 f3 f4 : Value} (hexec : p.tables.exec = Jvm.exec) (hb : c.code = cc) (hts : ∀ w ∈ GW, w.before args s = true) (hown : s.vm.findClass own = some m.cls) (hK : KK D cI cS s) (hP : va_P D vwCl ws H) (q0 : Nat) (he : ws[q0]? = some (b, .inr (3, [f0, f1, f2, f3, f4]))) (hl : Cond.fieldLinkNest own index "SoiledTests$Suite" "startCells" "I" host ∈ nW) (hdg : decode cc pc = .ok (.getfield index, 3)) (kk : W p l e R s m args below meth c H locs cells slots Q (F0 m (pc + 3) ls (f3 :: rest))) : W p l e R s m args below meth c H locs cells slots Q (F0 m pc ls (.ref b :: rest)) := va_getN (T := TX4) (N := 5) hexec hb hts inX4 hown hK.1 hP q0 he rfl 3 (Nat.le_of_ble_eq_true rfl) (va_Nw.use rfl (hK.2.1 _ hl)) (fun _ h9 => h9) rfl hdg kk
theorem pfX4_3 {f0 f1 f2 f3 f4 : Value} {v : Int32} (hexec : p.tables.exec = Jvm.exec) (hb : c.code = cc) (hts : ∀ w ∈ GW, w.before args s = true) (hown : s.vm.findClass own = some m.cls) (hK : KK D cI cS s) (hP : va_P D vwCl ws H) (hD : va_D A0 ws) (hS : va_S A0 H0 H locs) (q0 : Nat) (he : ws[q0]? = some (b, .inr (3, [f0, f1, f2, f3, f4]))) (hU : ws.set q0 (b, .inr (3, [f0, f1, f2, .int v, f4])) = ws') (hl : Cond.fieldLink own index "SoiledTests$Suite" "startCells" "I" ∈ GW) (hdg : decode cc pc = .ok (.putfield index, 3)) (kk : ∀ (H1 : Heap) (locs1 : List Loc), va_P D vwCl ws' H1 → va_D A0 ws' → va_S A0 H0 H1 locs1 → W p l e R s m args below meth c H1 locs1 cells slots Q (F0 m (pc + 3) ls rest)) : W p l e R s m args below meth c H locs cells slots Q (F0 m pc ls (.int v :: .ref b :: rest)) := by
  subst hU
  exact va_put (T := TX4) (N := 5) (ty := .int) hexec hb hts inX4 tyX4 tyX4_ok nmX4 hown hK.1 hP hD hS q0 he rfl 3 (Nat.le_of_ble_eq_true rfl) (hts _ hl) (fun _ h9 => h9) rfl (by decide +kernel) rfl rfl (Nat.le_of_ble_eq_true rfl) hdg kk
theorem gfX4_4 {f0 f1 f2 f3 f4 : Value} (hexec : p.tables.exec = Jvm.exec) (hb : c.code = cc) (hts : ∀ w ∈ GW, w.before args s = true) (hown : s.vm.findClass own = some m.cls) (hK : KK D cI cS s) (hP : va_P D vwCl ws H) (q0 : Nat) (he : ws[q0]? = some (b, .inr (3, [f0, f1, f2, f3, f4]))) (hl : Cond.fieldLink own index "SoiledTests$Suite" "modeNow" "I" ∈ GW) (hdg : decode cc pc = .ok (.getfield index, 3)) (kk : W p l e R s m args below meth c H locs cells slots Q (F0 m (pc + 3) ls (f4 :: rest))) : W p l e R s m args below meth c H locs cells slots Q (F0 m pc ls (.ref b :: rest)) := va_get (T := TX4) (N := 5) hexec hb hts inX4 hown hK.1 hP q0 he rfl 4 (Nat.le_of_ble_eq_true rfl) (hts _ hl) (fun _ h9 => h9) rfl hdg kk
theorem gnX4_4 {f0 f1 f2 f3 f4 : Value} (hexec : p.tables.exec = Jvm.exec) (hb : c.code = cc) (hts : ∀ w ∈ GW, w.before args s = true) (hown : s.vm.findClass own = some m.cls) (hK : KK D cI cS s) (hP : va_P D vwCl ws H) (q0 : Nat) (he : ws[q0]? = some (b, .inr (3, [f0, f1, f2, f3, f4]))) (hl : Cond.fieldLinkNest own index "SoiledTests$Suite" "modeNow" "I" host ∈ nW) (hdg : decode cc pc = .ok (.getfield index, 3)) (kk : W p l e R s m args below meth c H locs cells slots Q (F0 m (pc + 3) ls (f4 :: rest))) : W p l e R s m args below meth c H locs cells slots Q (F0 m pc ls (.ref b :: rest)) := va_getN (T := TX4) (N := 5) hexec hb hts inX4 hown hK.1 hP q0 he rfl 4 (Nat.le_of_ble_eq_true rfl) (va_Nw.use rfl (hK.2.1 _ hl)) (fun _ h9 => h9) rfl hdg kk
theorem pfX4_4 {f0 f1 f2 f3 f4 : Value} {v : Int32} (hexec : p.tables.exec = Jvm.exec) (hb : c.code = cc) (hts : ∀ w ∈ GW, w.before args s = true) (hown : s.vm.findClass own = some m.cls) (hK : KK D cI cS s) (hP : va_P D vwCl ws H) (hD : va_D A0 ws) (hS : va_S A0 H0 H locs) (q0 : Nat) (he : ws[q0]? = some (b, .inr (3, [f0, f1, f2, f3, f4]))) (hU : ws.set q0 (b, .inr (3, [f0, f1, f2, f3, .int v])) = ws') (hl : Cond.fieldLink own index "SoiledTests$Suite" "modeNow" "I" ∈ GW) (hdg : decode cc pc = .ok (.putfield index, 3)) (kk : ∀ (H1 : Heap) (locs1 : List Loc), va_P D vwCl ws' H1 → va_D A0 ws' → va_S A0 H0 H1 locs1 → W p l e R s m args below meth c H1 locs1 cells slots Q (F0 m (pc + 3) ls rest)) : W p l e R s m args below meth c H locs cells slots Q (F0 m pc ls (.int v :: .ref b :: rest)) := by
  subst hU
  exact va_put (T := TX4) (N := 5) (ty := .int) hexec hb hts inX4 tyX4 tyX4_ok nmX4 hown hK.1 hP hD hS q0 he rfl 4 (Nat.le_of_ble_eq_true rfl) (hts _ hl) (fun _ h9 => h9) rfl (by decide +kernel) rfl rfl (Nat.le_of_ble_eq_true rfl) hdg kk
theorem gfX5_0 {f0 f1 : Value} (hexec : p.tables.exec = Jvm.exec) (hb : c.code = cc) (hts : ∀ w ∈ GW, w.before args s = true) (hown : s.vm.findClass own = some m.cls) (hK : KK D cI cS s) (hP : va_P D vwCl ws H) (q0 : Nat) (he : ws[q0]? = some (b, .inr (4, [f0, f1]))) (hl : Cond.fieldLink own index "SoiledTests$Text" "bytes" "[I" ∈ GW) (hdg : decode cc pc = .ok (.getfield index, 3)) (kk : W p l e R s m args below meth c H locs cells slots Q (F0 m (pc + 3) ls (f0 :: rest))) : W p l e R s m args below meth c H locs cells slots Q (F0 m pc ls (.ref b :: rest)) := va_get (T := TX5) (N := 2) hexec hb hts inX5 hown hK.1 hP q0 he rfl 0 (Nat.le_of_ble_eq_true rfl) (hts _ hl) (fun _ h9 => h9) rfl hdg kk
theorem gnX5_0 {f0 f1 : Value} (hexec : p.tables.exec = Jvm.exec) (hb : c.code = cc) (hts : ∀ w ∈ GW, w.before args s = true) (hown : s.vm.findClass own = some m.cls) (hK : KK D cI cS s) (hP : va_P D vwCl ws H) (q0 : Nat) (he : ws[q0]? = some (b, .inr (4, [f0, f1]))) (hl : Cond.fieldLinkNest own index "SoiledTests$Text" "bytes" "[I" host ∈ nW) (hdg : decode cc pc = .ok (.getfield index, 3)) (kk : W p l e R s m args below meth c H locs cells slots Q (F0 m (pc + 3) ls (f0 :: rest))) : W p l e R s m args below meth c H locs cells slots Q (F0 m pc ls (.ref b :: rest)) := va_getN (T := TX5) (N := 2) hexec hb hts inX5 hown hK.1 hP q0 he rfl 0 (Nat.le_of_ble_eq_true rfl) (va_Nw.use rfl (hK.2.1 _ hl)) (fun _ h9 => h9) rfl hdg kk
theorem gfX5_1 {f0 f1 : Value} (hexec : p.tables.exec = Jvm.exec) (hb : c.code = cc) (hts : ∀ w ∈ GW, w.before args s = true) (hown : s.vm.findClass own = some m.cls) (hK : KK D cI cS s) (hP : va_P D vwCl ws H) (q0 : Nat) (he : ws[q0]? = some (b, .inr (4, [f0, f1]))) (hl : Cond.fieldLink own index "SoiledTests$Text" "length" "I" ∈ GW) (hdg : decode cc pc = .ok (.getfield index, 3)) (kk : W p l e R s m args below meth c H locs cells slots Q (F0 m (pc + 3) ls (f1 :: rest))) : W p l e R s m args below meth c H locs cells slots Q (F0 m pc ls (.ref b :: rest)) := va_get (T := TX5) (N := 2) hexec hb hts inX5 hown hK.1 hP q0 he rfl 1 (Nat.le_of_ble_eq_true rfl) (hts _ hl) (fun _ h9 => h9) rfl hdg kk
theorem gnX5_1 {f0 f1 : Value} (hexec : p.tables.exec = Jvm.exec) (hb : c.code = cc) (hts : ∀ w ∈ GW, w.before args s = true) (hown : s.vm.findClass own = some m.cls) (hK : KK D cI cS s) (hP : va_P D vwCl ws H) (q0 : Nat) (he : ws[q0]? = some (b, .inr (4, [f0, f1]))) (hl : Cond.fieldLinkNest own index "SoiledTests$Text" "length" "I" host ∈ nW) (hdg : decode cc pc = .ok (.getfield index, 3)) (kk : W p l e R s m args below meth c H locs cells slots Q (F0 m (pc + 3) ls (f1 :: rest))) : W p l e R s m args below meth c H locs cells slots Q (F0 m pc ls (.ref b :: rest)) := va_getN (T := TX5) (N := 2) hexec hb hts inX5 hown hK.1 hP q0 he rfl 1 (Nat.le_of_ble_eq_true rfl) (va_Nw.use rfl (hK.2.1 _ hl)) (fun _ h9 => h9) rfl hdg kk
theorem pfX5_1 {f0 f1 : Value} {v : Int32} (hexec : p.tables.exec = Jvm.exec) (hb : c.code = cc) (hts : ∀ w ∈ GW, w.before args s = true) (hown : s.vm.findClass own = some m.cls) (hK : KK D cI cS s) (hP : va_P D vwCl ws H) (hD : va_D A0 ws) (hS : va_S A0 H0 H locs) (q0 : Nat) (he : ws[q0]? = some (b, .inr (4, [f0, f1]))) (hU : ws.set q0 (b, .inr (4, [f0, .int v])) = ws') (hl : Cond.fieldLink own index "SoiledTests$Text" "length" "I" ∈ GW) (hdg : decode cc pc = .ok (.putfield index, 3)) (kk : ∀ (H1 : Heap) (locs1 : List Loc), va_P D vwCl ws' H1 → va_D A0 ws' → va_S A0 H0 H1 locs1 → W p l e R s m args below meth c H1 locs1 cells slots Q (F0 m (pc + 3) ls rest)) : W p l e R s m args below meth c H locs cells slots Q (F0 m pc ls (.int v :: .ref b :: rest)) := by
  subst hU
  exact va_put (T := TX5) (N := 2) (ty := .int) hexec hb hts inX5 tyX5 tyX5_ok nmX5 hown hK.1 hP hD hS q0 he rfl 1 (Nat.le_of_ble_eq_true rfl) (hts _ hl) (fun _ h9 => h9) rfl (by decide +kernel) rfl rfl (Nat.le_of_ble_eq_true rfl) hdg kk
theorem gfX6_0 {f0 f1 f2 f3 f4 f5 f6 f7 : Value} (hexec : p.tables.exec = Jvm.exec) (hb : c.code = cc) (hts : ∀ w ∈ GW, w.before args s = true) (hown : s.vm.findClass own = some m.cls) (hK : KK D cI cS s) (hP : va_P D vwCl ws H) (q0 : Nat) (he : ws[q0]? = some (b, .inr (5, [f0, f1, f2, f3, f4, f5, f6, f7]))) (hl : Cond.fieldLink own index "SoiledTests" "suite" "LSoiledTests$Suite;" ∈ GW) (hdg : decode cc pc = .ok (.getfield index, 3)) (kk : W p l e R s m args below meth c H locs cells slots Q (F0 m (pc + 3) ls (f0 :: rest))) : W p l e R s m args below meth c H locs cells slots Q (F0 m pc ls (.ref b :: rest)) := va_get (T := TX6) (N := 8) hexec hb hts inX6 hown hK.1 hP q0 he rfl 0 (Nat.le_of_ble_eq_true rfl) (hts _ hl) (fun _ h9 => h9) rfl hdg kk
theorem gnX6_0 {f0 f1 f2 f3 f4 f5 f6 f7 : Value} (hexec : p.tables.exec = Jvm.exec) (hb : c.code = cc) (hts : ∀ w ∈ GW, w.before args s = true) (hown : s.vm.findClass own = some m.cls) (hK : KK D cI cS s) (hP : va_P D vwCl ws H) (q0 : Nat) (he : ws[q0]? = some (b, .inr (5, [f0, f1, f2, f3, f4, f5, f6, f7]))) (hl : Cond.fieldLinkNest own index "SoiledTests" "suite" "LSoiledTests$Suite;" host ∈ nW) (hdg : decode cc pc = .ok (.getfield index, 3)) (kk : W p l e R s m args below meth c H locs cells slots Q (F0 m (pc + 3) ls (f0 :: rest))) : W p l e R s m args below meth c H locs cells slots Q (F0 m pc ls (.ref b :: rest)) := va_getN (T := TX6) (N := 8) hexec hb hts inX6 hown hK.1 hP q0 he rfl 0 (Nat.le_of_ble_eq_true rfl) (va_Nw.use rfl (hK.2.1 _ hl)) (fun _ h9 => h9) rfl hdg kk
theorem gfX6_1 {f0 f1 f2 f3 f4 f5 f6 f7 : Value} (hexec : p.tables.exec = Jvm.exec) (hb : c.code = cc) (hts : ∀ w ∈ GW, w.before args s = true) (hown : s.vm.findClass own = some m.cls) (hK : KK D cI cS s) (hP : va_P D vwCl ws H) (q0 : Nat) (he : ws[q0]? = some (b, .inr (5, [f0, f1, f2, f3, f4, f5, f6, f7]))) (hl : Cond.fieldLink own index "SoiledTests" "past" "LSoiledTests$Past;" ∈ GW) (hdg : decode cc pc = .ok (.getfield index, 3)) (kk : W p l e R s m args below meth c H locs cells slots Q (F0 m (pc + 3) ls (f1 :: rest))) : W p l e R s m args below meth c H locs cells slots Q (F0 m pc ls (.ref b :: rest)) := va_get (T := TX6) (N := 8) hexec hb hts inX6 hown hK.1 hP q0 he rfl 1 (Nat.le_of_ble_eq_true rfl) (hts _ hl) (fun _ h9 => h9) rfl hdg kk
theorem gnX6_1 {f0 f1 f2 f3 f4 f5 f6 f7 : Value} (hexec : p.tables.exec = Jvm.exec) (hb : c.code = cc) (hts : ∀ w ∈ GW, w.before args s = true) (hown : s.vm.findClass own = some m.cls) (hK : KK D cI cS s) (hP : va_P D vwCl ws H) (q0 : Nat) (he : ws[q0]? = some (b, .inr (5, [f0, f1, f2, f3, f4, f5, f6, f7]))) (hl : Cond.fieldLinkNest own index "SoiledTests" "past" "LSoiledTests$Past;" host ∈ nW) (hdg : decode cc pc = .ok (.getfield index, 3)) (kk : W p l e R s m args below meth c H locs cells slots Q (F0 m (pc + 3) ls (f1 :: rest))) : W p l e R s m args below meth c H locs cells slots Q (F0 m pc ls (.ref b :: rest)) := va_getN (T := TX6) (N := 8) hexec hb hts inX6 hown hK.1 hP q0 he rfl 1 (Nat.le_of_ble_eq_true rfl) (va_Nw.use rfl (hK.2.1 _ hl)) (fun _ h9 => h9) rfl hdg kk
theorem gfX6_2 {f0 f1 f2 f3 f4 f5 f6 f7 : Value} (hexec : p.tables.exec = Jvm.exec) (hb : c.code = cc) (hts : ∀ w ∈ GW, w.before args s = true) (hown : s.vm.findClass own = some m.cls) (hK : KK D cI cS s) (hP : va_P D vwCl ws H) (q0 : Nat) (he : ws[q0]? = some (b, .inr (5, [f0, f1, f2, f3, f4, f5, f6, f7]))) (hl : Cond.fieldLink own index "SoiledTests" "text" "LSoiledTests$Text;" ∈ GW) (hdg : decode cc pc = .ok (.getfield index, 3)) (kk : W p l e R s m args below meth c H locs cells slots Q (F0 m (pc + 3) ls (f2 :: rest))) : W p l e R s m args below meth c H locs cells slots Q (F0 m pc ls (.ref b :: rest)) := va_get (T := TX6) (N := 8) hexec hb hts inX6 hown hK.1 hP q0 he rfl 2 (Nat.le_of_ble_eq_true rfl) (hts _ hl) (fun _ h9 => h9) rfl hdg kk
theorem gnX6_2 {f0 f1 f2 f3 f4 f5 f6 f7 : Value} (hexec : p.tables.exec = Jvm.exec) (hb : c.code = cc) (hts : ∀ w ∈ GW, w.before args s = true) (hown : s.vm.findClass own = some m.cls) (hK : KK D cI cS s) (hP : va_P D vwCl ws H) (q0 : Nat) (he : ws[q0]? = some (b, .inr (5, [f0, f1, f2, f3, f4, f5, f6, f7]))) (hl : Cond.fieldLinkNest own index "SoiledTests" "text" "LSoiledTests$Text;" host ∈ nW) (hdg : decode cc pc = .ok (.getfield index, 3)) (kk : W p l e R s m args below meth c H locs cells slots Q (F0 m (pc + 3) ls (f2 :: rest))) : W p l e R s m args below meth c H locs cells slots Q (F0 m pc ls (.ref b :: rest)) := va_getN (T := TX6) (N := 8) hexec hb hts inX6 hown hK.1 hP q0 he rfl 2 (Nat.le_of_ble_eq_true rfl) (va_Nw.use rfl (hK.2.1 _ hl)) (fun _ h9 => h9) rfl hdg kk
theorem gfX6_3 {f0 f1 f2 f3 f4 f5 f6 f7 : Value} (hexec : p.tables.exec = Jvm.exec) (hb : c.code = cc) (hts : ∀ w ∈ GW, w.before args s = true) (hown : s.vm.findClass own = some m.cls) (hK : KK D cI cS s) (hP : va_P D vwCl ws H) (q0 : Nat) (he : ws[q0]? = some (b, .inr (5, [f0, f1, f2, f3, f4, f5, f6, f7]))) (hl : Cond.fieldLink own index "SoiledTests" "orders" "LSoiledTests$Orders;" ∈ GW) (hdg : decode cc pc = .ok (.getfield index, 3)) (kk : W p l e R s m args below meth c H locs cells slots Q (F0 m (pc + 3) ls (f3 :: rest))) : W p l e R s m args below meth c H locs cells slots Q (F0 m pc ls (.ref b :: rest)) := va_get (T := TX6) (N := 8) hexec hb hts inX6 hown hK.1 hP q0 he rfl 3 (Nat.le_of_ble_eq_true rfl) (hts _ hl) (fun _ h9 => h9) rfl hdg kk
theorem gnX6_3 {f0 f1 f2 f3 f4 f5 f6 f7 : Value} (hexec : p.tables.exec = Jvm.exec) (hb : c.code = cc) (hts : ∀ w ∈ GW, w.before args s = true) (hown : s.vm.findClass own = some m.cls) (hK : KK D cI cS s) (hP : va_P D vwCl ws H) (q0 : Nat) (he : ws[q0]? = some (b, .inr (5, [f0, f1, f2, f3, f4, f5, f6, f7]))) (hl : Cond.fieldLinkNest own index "SoiledTests" "orders" "LSoiledTests$Orders;" host ∈ nW) (hdg : decode cc pc = .ok (.getfield index, 3)) (kk : W p l e R s m args below meth c H locs cells slots Q (F0 m (pc + 3) ls (f3 :: rest))) : W p l e R s m args below meth c H locs cells slots Q (F0 m pc ls (.ref b :: rest)) := va_getN (T := TX6) (N := 8) hexec hb hts inX6 hown hK.1 hP q0 he rfl 3 (Nat.le_of_ble_eq_true rfl) (va_Nw.use rfl (hK.2.1 _ hl)) (fun _ h9 => h9) rfl hdg kk
theorem gfX6_4 {f0 f1 f2 f3 f4 f5 f6 f7 : Value} (hexec : p.tables.exec = Jvm.exec) (hb : c.code = cc) (hts : ∀ w ∈ GW, w.before args s = true) (hown : s.vm.findClass own = some m.cls) (hK : KK D cI cS s) (hP : va_P D vwCl ws H) (q0 : Nat) (he : ws[q0]? = some (b, .inr (5, [f0, f1, f2, f3, f4, f5, f6, f7]))) (hl : Cond.fieldLink own index "SoiledTests" "spare" "LSoiledTests$Row;" ∈ GW) (hdg : decode cc pc = .ok (.getfield index, 3)) (kk : W p l e R s m args below meth c H locs cells slots Q (F0 m (pc + 3) ls (f4 :: rest))) : W p l e R s m args below meth c H locs cells slots Q (F0 m pc ls (.ref b :: rest)) := va_get (T := TX6) (N := 8) hexec hb hts inX6 hown hK.1 hP q0 he rfl 4 (Nat.le_of_ble_eq_true rfl) (hts _ hl) (fun _ h9 => h9) rfl hdg kk
theorem gnX6_4 {f0 f1 f2 f3 f4 f5 f6 f7 : Value} (hexec : p.tables.exec = Jvm.exec) (hb : c.code = cc) (hts : ∀ w ∈ GW, w.before args s = true) (hown : s.vm.findClass own = some m.cls) (hK : KK D cI cS s) (hP : va_P D vwCl ws H) (q0 : Nat) (he : ws[q0]? = some (b, .inr (5, [f0, f1, f2, f3, f4, f5, f6, f7]))) (hl : Cond.fieldLinkNest own index "SoiledTests" "spare" "LSoiledTests$Row;" host ∈ nW) (hdg : decode cc pc = .ok (.getfield index, 3)) (kk : W p l e R s m args below meth c H locs cells slots Q (F0 m (pc + 3) ls (f4 :: rest))) : W p l e R s m args below meth c H locs cells slots Q (F0 m pc ls (.ref b :: rest)) := va_getN (T := TX6) (N := 8) hexec hb hts inX6 hown hK.1 hP q0 he rfl 4 (Nat.le_of_ble_eq_true rfl) (va_Nw.use rfl (hK.2.1 _ hl)) (fun _ h9 => h9) rfl hdg kk
theorem gfX6_5 {f0 f1 f2 f3 f4 f5 f6 f7 : Value} (hexec : p.tables.exec = Jvm.exec) (hb : c.code = cc) (hts : ∀ w ∈ GW, w.before args s = true) (hown : s.vm.findClass own = some m.cls) (hK : KK D cI cS s) (hP : va_P D vwCl ws H) (q0 : Nat) (he : ws[q0]? = some (b, .inr (5, [f0, f1, f2, f3, f4, f5, f6, f7]))) (hl : Cond.fieldLink own index "SoiledTests" "timesBad" "I" ∈ GW) (hdg : decode cc pc = .ok (.getfield index, 3)) (kk : W p l e R s m args below meth c H locs cells slots Q (F0 m (pc + 3) ls (f5 :: rest))) : W p l e R s m args below meth c H locs cells slots Q (F0 m pc ls (.ref b :: rest)) := va_get (T := TX6) (N := 8) hexec hb hts inX6 hown hK.1 hP q0 he rfl 5 (Nat.le_of_ble_eq_true rfl) (hts _ hl) (fun _ h9 => h9) rfl hdg kk
theorem gnX6_5 {f0 f1 f2 f3 f4 f5 f6 f7 : Value} (hexec : p.tables.exec = Jvm.exec) (hb : c.code = cc) (hts : ∀ w ∈ GW, w.before args s = true) (hown : s.vm.findClass own = some m.cls) (hK : KK D cI cS s) (hP : va_P D vwCl ws H) (q0 : Nat) (he : ws[q0]? = some (b, .inr (5, [f0, f1, f2, f3, f4, f5, f6, f7]))) (hl : Cond.fieldLinkNest own index "SoiledTests" "timesBad" "I" host ∈ nW) (hdg : decode cc pc = .ok (.getfield index, 3)) (kk : W p l e R s m args below meth c H locs cells slots Q (F0 m (pc + 3) ls (f5 :: rest))) : W p l e R s m args below meth c H locs cells slots Q (F0 m pc ls (.ref b :: rest)) := va_getN (T := TX6) (N := 8) hexec hb hts inX6 hown hK.1 hP q0 he rfl 5 (Nat.le_of_ble_eq_true rfl) (va_Nw.use rfl (hK.2.1 _ hl)) (fun _ h9 => h9) rfl hdg kk
theorem pfX6_5 {f0 f1 f2 f3 f4 f5 f6 f7 : Value} {v : Int32} (hexec : p.tables.exec = Jvm.exec) (hb : c.code = cc) (hts : ∀ w ∈ GW, w.before args s = true) (hown : s.vm.findClass own = some m.cls) (hK : KK D cI cS s) (hP : va_P D vwCl ws H) (hD : va_D A0 ws) (hS : va_S A0 H0 H locs) (q0 : Nat) (he : ws[q0]? = some (b, .inr (5, [f0, f1, f2, f3, f4, f5, f6, f7]))) (hU : ws.set q0 (b, .inr (5, [f0, f1, f2, f3, f4, .int v, f6, f7])) = ws') (hl : Cond.fieldLink own index "SoiledTests" "timesBad" "I" ∈ GW) (hdg : decode cc pc = .ok (.putfield index, 3)) (kk : ∀ (H1 : Heap) (locs1 : List Loc), va_P D vwCl ws' H1 → va_D A0 ws' → va_S A0 H0 H1 locs1 → W p l e R s m args below meth c H1 locs1 cells slots Q (F0 m (pc + 3) ls rest)) : W p l e R s m args below meth c H locs cells slots Q (F0 m pc ls (.int v :: .ref b :: rest)) := by
  subst hU
  exact va_put (T := TX6) (N := 8) (ty := .int) hexec hb hts inX6 tyX6 tyX6_ok nmX6 hown hK.1 hP hD hS q0 he rfl 5 (Nat.le_of_ble_eq_true rfl) (hts _ hl) (fun _ h9 => h9) rfl (by decide +kernel) rfl rfl (Nat.le_of_ble_eq_true rfl) hdg kk
theorem gfX6_6 {f0 f1 f2 f3 f4 f5 f6 f7 : Value} (hexec : p.tables.exec = Jvm.exec) (hb : c.code = cc) (hts : ∀ w ∈ GW, w.before args s = true) (hown : s.vm.findClass own = some m.cls) (hK : KK D cI cS s) (hP : va_P D vwCl ws H) (q0 : Nat) (he : ws[q0]? = some (b, .inr (5, [f0, f1, f2, f3, f4, f5, f6, f7]))) (hl : Cond.fieldLink own index "SoiledTests" "timesNo" "I" ∈ GW) (hdg : decode cc pc = .ok (.getfield index, 3)) (kk : W p l e R s m args below meth c H locs cells slots Q (F0 m (pc + 3) ls (f6 :: rest))) : W p l e R s m args below meth c H locs cells slots Q (F0 m pc ls (.ref b :: rest)) := va_get (T := TX6) (N := 8) hexec hb hts inX6 hown hK.1 hP q0 he rfl 6 (Nat.le_of_ble_eq_true rfl) (hts _ hl) (fun _ h9 => h9) rfl hdg kk
theorem gnX6_6 {f0 f1 f2 f3 f4 f5 f6 f7 : Value} (hexec : p.tables.exec = Jvm.exec) (hb : c.code = cc) (hts : ∀ w ∈ GW, w.before args s = true) (hown : s.vm.findClass own = some m.cls) (hK : KK D cI cS s) (hP : va_P D vwCl ws H) (q0 : Nat) (he : ws[q0]? = some (b, .inr (5, [f0, f1, f2, f3, f4, f5, f6, f7]))) (hl : Cond.fieldLinkNest own index "SoiledTests" "timesNo" "I" host ∈ nW) (hdg : decode cc pc = .ok (.getfield index, 3)) (kk : W p l e R s m args below meth c H locs cells slots Q (F0 m (pc + 3) ls (f6 :: rest))) : W p l e R s m args below meth c H locs cells slots Q (F0 m pc ls (.ref b :: rest)) := va_getN (T := TX6) (N := 8) hexec hb hts inX6 hown hK.1 hP q0 he rfl 6 (Nat.le_of_ble_eq_true rfl) (va_Nw.use rfl (hK.2.1 _ hl)) (fun _ h9 => h9) rfl hdg kk
theorem pfX6_6 {f0 f1 f2 f3 f4 f5 f6 f7 : Value} {v : Int32} (hexec : p.tables.exec = Jvm.exec) (hb : c.code = cc) (hts : ∀ w ∈ GW, w.before args s = true) (hown : s.vm.findClass own = some m.cls) (hK : KK D cI cS s) (hP : va_P D vwCl ws H) (hD : va_D A0 ws) (hS : va_S A0 H0 H locs) (q0 : Nat) (he : ws[q0]? = some (b, .inr (5, [f0, f1, f2, f3, f4, f5, f6, f7]))) (hU : ws.set q0 (b, .inr (5, [f0, f1, f2, f3, f4, f5, .int v, f7])) = ws') (hl : Cond.fieldLink own index "SoiledTests" "timesNo" "I" ∈ GW) (hdg : decode cc pc = .ok (.putfield index, 3)) (kk : ∀ (H1 : Heap) (locs1 : List Loc), va_P D vwCl ws' H1 → va_D A0 ws' → va_S A0 H0 H1 locs1 → W p l e R s m args below meth c H1 locs1 cells slots Q (F0 m (pc + 3) ls rest)) : W p l e R s m args below meth c H locs cells slots Q (F0 m pc ls (.int v :: .ref b :: rest)) := by
  subst hU
  exact va_put (T := TX6) (N := 8) (ty := .int) hexec hb hts inX6 tyX6 tyX6_ok nmX6 hown hK.1 hP hD hS q0 he rfl 6 (Nat.le_of_ble_eq_true rfl) (hts _ hl) (fun _ h9 => h9) rfl (by decide +kernel) rfl rfl (Nat.le_of_ble_eq_true rfl) hdg kk
theorem gfX6_7 {f0 f1 f2 f3 f4 f5 f6 f7 : Value} (hexec : p.tables.exec = Jvm.exec) (hb : c.code = cc) (hts : ∀ w ∈ GW, w.before args s = true) (hown : s.vm.findClass own = some m.cls) (hK : KK D cI cS s) (hP : va_P D vwCl ws H) (q0 : Nat) (he : ws[q0]? = some (b, .inr (5, [f0, f1, f2, f3, f4, f5, f6, f7]))) (hl : Cond.fieldLink own index "SoiledTests" "timesFull" "I" ∈ GW) (hdg : decode cc pc = .ok (.getfield index, 3)) (kk : W p l e R s m args below meth c H locs cells slots Q (F0 m (pc + 3) ls (f7 :: rest))) : W p l e R s m args below meth c H locs cells slots Q (F0 m pc ls (.ref b :: rest)) := va_get (T := TX6) (N := 8) hexec hb hts inX6 hown hK.1 hP q0 he rfl 7 (Nat.le_of_ble_eq_true rfl) (hts _ hl) (fun _ h9 => h9) rfl hdg kk
theorem gnX6_7 {f0 f1 f2 f3 f4 f5 f6 f7 : Value} (hexec : p.tables.exec = Jvm.exec) (hb : c.code = cc) (hts : ∀ w ∈ GW, w.before args s = true) (hown : s.vm.findClass own = some m.cls) (hK : KK D cI cS s) (hP : va_P D vwCl ws H) (q0 : Nat) (he : ws[q0]? = some (b, .inr (5, [f0, f1, f2, f3, f4, f5, f6, f7]))) (hl : Cond.fieldLinkNest own index "SoiledTests" "timesFull" "I" host ∈ nW) (hdg : decode cc pc = .ok (.getfield index, 3)) (kk : W p l e R s m args below meth c H locs cells slots Q (F0 m (pc + 3) ls (f7 :: rest))) : W p l e R s m args below meth c H locs cells slots Q (F0 m pc ls (.ref b :: rest)) := va_getN (T := TX6) (N := 8) hexec hb hts inX6 hown hK.1 hP q0 he rfl 7 (Nat.le_of_ble_eq_true rfl) (va_Nw.use rfl (hK.2.1 _ hl)) (fun _ h9 => h9) rfl hdg kk
theorem pfX6_7 {f0 f1 f2 f3 f4 f5 f6 f7 : Value} {v : Int32} (hexec : p.tables.exec = Jvm.exec) (hb : c.code = cc) (hts : ∀ w ∈ GW, w.before args s = true) (hown : s.vm.findClass own = some m.cls) (hK : KK D cI cS s) (hP : va_P D vwCl ws H) (hD : va_D A0 ws) (hS : va_S A0 H0 H locs) (q0 : Nat) (he : ws[q0]? = some (b, .inr (5, [f0, f1, f2, f3, f4, f5, f6, f7]))) (hU : ws.set q0 (b, .inr (5, [f0, f1, f2, f3, f4, f5, f6, .int v])) = ws') (hl : Cond.fieldLink own index "SoiledTests" "timesFull" "I" ∈ GW) (hdg : decode cc pc = .ok (.putfield index, 3)) (kk : ∀ (H1 : Heap) (locs1 : List Loc), va_P D vwCl ws' H1 → va_D A0 ws' → va_S A0 H0 H1 locs1 → W p l e R s m args below meth c H1 locs1 cells slots Q (F0 m (pc + 3) ls rest)) : W p l e R s m args below meth c H locs cells slots Q (F0 m pc ls (.int v :: .ref b :: rest)) := by
  subst hU
  exact va_put (T := TX6) (N := 8) (ty := .int) hexec hb hts inX6 tyX6 tyX6_ok nmX6 hown hK.1 hP hD hS q0 he rfl 7 (Nat.le_of_ble_eq_true rfl) (hts _ hl) (fun _ h9 => h9) rfl (by decide +kernel) rfl rfl (Nat.le_of_ble_eq_true rfl) hdg kk
theorem gfX7_0 {f0 f1 f2 f3 f4 f5 f6 f7 f8 f9 f10 f11 f12 f13 f14 f15 : Value} (hexec : p.tables.exec = Jvm.exec) (hb : c.code = cc) (hts : ∀ w ∈ GW, w.before args s = true) (hown : s.vm.findClass own = some m.cls) (hK : KK D cI cS s) (hP : va_P D vwCl ws H) (q0 : Nat) (he : ws[q0]? = some (b, .inr (6, [f0, f1, f2, f3, f4, f5, f6, f7, f8, f9, f10, f11, f12, f13, f14, f15]))) (hl : Cond.fieldLink own index "SoiledTestsModel" "now" "[I" ∈ GW) (hdg : decode cc pc = .ok (.getfield index, 3)) (kk : W p l e R s m args below meth c H locs cells slots Q (F0 m (pc + 3) ls (f0 :: rest))) : W p l e R s m args below meth c H locs cells slots Q (F0 m pc ls (.ref b :: rest)) := va_get (T := TX7) (N := 16) hexec hb hts inX7 hown hK.1 hP q0 he rfl 0 (Nat.le_of_ble_eq_true rfl) (hts _ hl) (fun _ h9 => h9) rfl hdg kk
theorem gnX7_0 {f0 f1 f2 f3 f4 f5 f6 f7 f8 f9 f10 f11 f12 f13 f14 f15 : Value} (hexec : p.tables.exec = Jvm.exec) (hb : c.code = cc) (hts : ∀ w ∈ GW, w.before args s = true) (hown : s.vm.findClass own = some m.cls) (hK : KK D cI cS s) (hP : va_P D vwCl ws H) (q0 : Nat) (he : ws[q0]? = some (b, .inr (6, [f0, f1, f2, f3, f4, f5, f6, f7, f8, f9, f10, f11, f12, f13, f14, f15]))) (hl : Cond.fieldLinkNest own index "SoiledTestsModel" "now" "[I" host ∈ nW) (hdg : decode cc pc = .ok (.getfield index, 3)) (kk : W p l e R s m args below meth c H locs cells slots Q (F0 m (pc + 3) ls (f0 :: rest))) : W p l e R s m args below meth c H locs cells slots Q (F0 m pc ls (.ref b :: rest)) := va_getN (T := TX7) (N := 16) hexec hb hts inX7 hown hK.1 hP q0 he rfl 0 (Nat.le_of_ble_eq_true rfl) (va_Nw.use rfl (hK.2.1 _ hl)) (fun _ h9 => h9) rfl hdg kk
theorem gfX7_1 {f0 f1 f2 f3 f4 f5 f6 f7 f8 f9 f10 f11 f12 f13 f14 f15 : Value} (hexec : p.tables.exec = Jvm.exec) (hb : c.code = cc) (hts : ∀ w ∈ GW, w.before args s = true) (hown : s.vm.findClass own = some m.cls) (hK : KK D cI cS s) (hP : va_P D vwCl ws H) (q0 : Nat) (he : ws[q0]? = some (b, .inr (6, [f0, f1, f2, f3, f4, f5, f6, f7, f8, f9, f10, f11, f12, f13, f14, f15]))) (hl : Cond.fieldLink own index "SoiledTestsModel" "aside" "[I" ∈ GW) (hdg : decode cc pc = .ok (.getfield index, 3)) (kk : W p l e R s m args below meth c H locs cells slots Q (F0 m (pc + 3) ls (f1 :: rest))) : W p l e R s m args below meth c H locs cells slots Q (F0 m pc ls (.ref b :: rest)) := va_get (T := TX7) (N := 16) hexec hb hts inX7 hown hK.1 hP q0 he rfl 1 (Nat.le_of_ble_eq_true rfl) (hts _ hl) (fun _ h9 => h9) rfl hdg kk
theorem gnX7_1 {f0 f1 f2 f3 f4 f5 f6 f7 f8 f9 f10 f11 f12 f13 f14 f15 : Value} (hexec : p.tables.exec = Jvm.exec) (hb : c.code = cc) (hts : ∀ w ∈ GW, w.before args s = true) (hown : s.vm.findClass own = some m.cls) (hK : KK D cI cS s) (hP : va_P D vwCl ws H) (q0 : Nat) (he : ws[q0]? = some (b, .inr (6, [f0, f1, f2, f3, f4, f5, f6, f7, f8, f9, f10, f11, f12, f13, f14, f15]))) (hl : Cond.fieldLinkNest own index "SoiledTestsModel" "aside" "[I" host ∈ nW) (hdg : decode cc pc = .ok (.getfield index, 3)) (kk : W p l e R s m args below meth c H locs cells slots Q (F0 m (pc + 3) ls (f1 :: rest))) : W p l e R s m args below meth c H locs cells slots Q (F0 m pc ls (.ref b :: rest)) := va_getN (T := TX7) (N := 16) hexec hb hts inX7 hown hK.1 hP q0 he rfl 1 (Nat.le_of_ble_eq_true rfl) (va_Nw.use rfl (hK.2.1 _ hl)) (fun _ h9 => h9) rfl hdg kk
theorem gfX7_2 {f0 f1 f2 f3 f4 f5 f6 f7 f8 f9 f10 f11 f12 f13 f14 f15 : Value} (hexec : p.tables.exec = Jvm.exec) (hb : c.code = cc) (hts : ∀ w ∈ GW, w.before args s = true) (hown : s.vm.findClass own = some m.cls) (hK : KK D cI cS s) (hP : va_P D vwCl ws H) (q0 : Nat) (he : ws[q0]? = some (b, .inr (6, [f0, f1, f2, f3, f4, f5, f6, f7, f8, f9, f10, f11, f12, f13, f14, f15]))) (hl : Cond.fieldLink own index "SoiledTestsModel" "past" "[I" ∈ GW) (hdg : decode cc pc = .ok (.getfield index, 3)) (kk : W p l e R s m args below meth c H locs cells slots Q (F0 m (pc + 3) ls (f2 :: rest))) : W p l e R s m args below meth c H locs cells slots Q (F0 m pc ls (.ref b :: rest)) := va_get (T := TX7) (N := 16) hexec hb hts inX7 hown hK.1 hP q0 he rfl 2 (Nat.le_of_ble_eq_true rfl) (hts _ hl) (fun _ h9 => h9) rfl hdg kk
theorem gnX7_2 {f0 f1 f2 f3 f4 f5 f6 f7 f8 f9 f10 f11 f12 f13 f14 f15 : Value} (hexec : p.tables.exec = Jvm.exec) (hb : c.code = cc) (hts : ∀ w ∈ GW, w.before args s = true) (hown : s.vm.findClass own = some m.cls) (hK : KK D cI cS s) (hP : va_P D vwCl ws H) (q0 : Nat) (he : ws[q0]? = some (b, .inr (6, [f0, f1, f2, f3, f4, f5, f6, f7, f8, f9, f10, f11, f12, f13, f14, f15]))) (hl : Cond.fieldLinkNest own index "SoiledTestsModel" "past" "[I" host ∈ nW) (hdg : decode cc pc = .ok (.getfield index, 3)) (kk : W p l e R s m args below meth c H locs cells slots Q (F0 m (pc + 3) ls (f2 :: rest))) : W p l e R s m args below meth c H locs cells slots Q (F0 m pc ls (.ref b :: rest)) := va_getN (T := TX7) (N := 16) hexec hb hts inX7 hown hK.1 hP q0 he rfl 2 (Nat.le_of_ble_eq_true rfl) (va_Nw.use rfl (hK.2.1 _ hl)) (fun _ h9 => h9) rfl hdg kk
theorem gfX7_3 {f0 f1 f2 f3 f4 f5 f6 f7 f8 f9 f10 f11 f12 f13 f14 f15 : Value} (hexec : p.tables.exec = Jvm.exec) (hb : c.code = cc) (hts : ∀ w ∈ GW, w.before args s = true) (hown : s.vm.findClass own = some m.cls) (hK : KK D cI cS s) (hP : va_P D vwCl ws H) (q0 : Nat) (he : ws[q0]? = some (b, .inr (6, [f0, f1, f2, f3, f4, f5, f6, f7, f8, f9, f10, f11, f12, f13, f14, f15]))) (hl : Cond.fieldLink own index "SoiledTestsModel" "states" "I" ∈ GW) (hdg : decode cc pc = .ok (.getfield index, 3)) (kk : W p l e R s m args below meth c H locs cells slots Q (F0 m (pc + 3) ls (f3 :: rest))) : W p l e R s m args below meth c H locs cells slots Q (F0 m pc ls (.ref b :: rest)) := va_get (T := TX7) (N := 16) hexec hb hts inX7 hown hK.1 hP q0 he rfl 3 (Nat.le_of_ble_eq_true rfl) (hts _ hl) (fun _ h9 => h9) rfl hdg kk
theorem gnX7_3 {f0 f1 f2 f3 f4 f5 f6 f7 f8 f9 f10 f11 f12 f13 f14 f15 : Value} (hexec : p.tables.exec = Jvm.exec) (hb : c.code = cc) (hts : ∀ w ∈ GW, w.before args s = true) (hown : s.vm.findClass own = some m.cls) (hK : KK D cI cS s) (hP : va_P D vwCl ws H) (q0 : Nat) (he : ws[q0]? = some (b, .inr (6, [f0, f1, f2, f3, f4, f5, f6, f7, f8, f9, f10, f11, f12, f13, f14, f15]))) (hl : Cond.fieldLinkNest own index "SoiledTestsModel" "states" "I" host ∈ nW) (hdg : decode cc pc = .ok (.getfield index, 3)) (kk : W p l e R s m args below meth c H locs cells slots Q (F0 m (pc + 3) ls (f3 :: rest))) : W p l e R s m args below meth c H locs cells slots Q (F0 m pc ls (.ref b :: rest)) := va_getN (T := TX7) (N := 16) hexec hb hts inX7 hown hK.1 hP q0 he rfl 3 (Nat.le_of_ble_eq_true rfl) (va_Nw.use rfl (hK.2.1 _ hl)) (fun _ h9 => h9) rfl hdg kk
theorem pfX7_3 {f0 f1 f2 f3 f4 f5 f6 f7 f8 f9 f10 f11 f12 f13 f14 f15 : Value} {v : Int32} (hexec : p.tables.exec = Jvm.exec) (hb : c.code = cc) (hts : ∀ w ∈ GW, w.before args s = true) (hown : s.vm.findClass own = some m.cls) (hK : KK D cI cS s) (hP : va_P D vwCl ws H) (hD : va_D A0 ws) (hS : va_S A0 H0 H locs) (q0 : Nat) (he : ws[q0]? = some (b, .inr (6, [f0, f1, f2, f3, f4, f5, f6, f7, f8, f9, f10, f11, f12, f13, f14, f15]))) (hU : ws.set q0 (b, .inr (6, [f0, f1, f2, .int v, f4, f5, f6, f7, f8, f9, f10, f11, f12, f13, f14, f15])) = ws') (hl : Cond.fieldLink own index "SoiledTestsModel" "states" "I" ∈ GW) (hdg : decode cc pc = .ok (.putfield index, 3)) (kk : ∀ (H1 : Heap) (locs1 : List Loc), va_P D vwCl ws' H1 → va_D A0 ws' → va_S A0 H0 H1 locs1 → W p l e R s m args below meth c H1 locs1 cells slots Q (F0 m (pc + 3) ls rest)) : W p l e R s m args below meth c H locs cells slots Q (F0 m pc ls (.int v :: .ref b :: rest)) := by
  subst hU
  exact va_put (T := TX7) (N := 16) (ty := .int) hexec hb hts inX7 tyX7 tyX7_ok nmX7 hown hK.1 hP hD hS q0 he rfl 3 (Nat.le_of_ble_eq_true rfl) (hts _ hl) (fun _ h9 => h9) rfl (by decide +kernel) rfl rfl (Nat.le_of_ble_eq_true rfl) hdg kk
theorem gfX7_4 {f0 f1 f2 f3 f4 f5 f6 f7 f8 f9 f10 f11 f12 f13 f14 f15 : Value} (hexec : p.tables.exec = Jvm.exec) (hb : c.code = cc) (hts : ∀ w ∈ GW, w.before args s = true) (hown : s.vm.findClass own = some m.cls) (hK : KK D cI cS s) (hP : va_P D vwCl ws H) (q0 : Nat) (he : ws[q0]? = some (b, .inr (6, [f0, f1, f2, f3, f4, f5, f6, f7, f8, f9, f10, f11, f12, f13, f14, f15]))) (hl : Cond.fieldLink own index "SoiledTestsModel" "refusals" "[I" ∈ GW) (hdg : decode cc pc = .ok (.getfield index, 3)) (kk : W p l e R s m args below meth c H locs cells slots Q (F0 m (pc + 3) ls (f4 :: rest))) : W p l e R s m args below meth c H locs cells slots Q (F0 m pc ls (.ref b :: rest)) := va_get (T := TX7) (N := 16) hexec hb hts inX7 hown hK.1 hP q0 he rfl 4 (Nat.le_of_ble_eq_true rfl) (hts _ hl) (fun _ h9 => h9) rfl hdg kk
theorem gnX7_4 {f0 f1 f2 f3 f4 f5 f6 f7 f8 f9 f10 f11 f12 f13 f14 f15 : Value} (hexec : p.tables.exec = Jvm.exec) (hb : c.code = cc) (hts : ∀ w ∈ GW, w.before args s = true) (hown : s.vm.findClass own = some m.cls) (hK : KK D cI cS s) (hP : va_P D vwCl ws H) (q0 : Nat) (he : ws[q0]? = some (b, .inr (6, [f0, f1, f2, f3, f4, f5, f6, f7, f8, f9, f10, f11, f12, f13, f14, f15]))) (hl : Cond.fieldLinkNest own index "SoiledTestsModel" "refusals" "[I" host ∈ nW) (hdg : decode cc pc = .ok (.getfield index, 3)) (kk : W p l e R s m args below meth c H locs cells slots Q (F0 m (pc + 3) ls (f4 :: rest))) : W p l e R s m args below meth c H locs cells slots Q (F0 m pc ls (.ref b :: rest)) := va_getN (T := TX7) (N := 16) hexec hb hts inX7 hown hK.1 hP q0 he rfl 4 (Nat.le_of_ble_eq_true rfl) (va_Nw.use rfl (hK.2.1 _ hl)) (fun _ h9 => h9) rfl hdg kk
theorem gfX7_5 {f0 f1 f2 f3 f4 f5 f6 f7 f8 f9 f10 f11 f12 f13 f14 f15 : Value} (hexec : p.tables.exec = Jvm.exec) (hb : c.code = cc) (hts : ∀ w ∈ GW, w.before args s = true) (hown : s.vm.findClass own = some m.cls) (hK : KK D cI cS s) (hP : va_P D vwCl ws H) (q0 : Nat) (he : ws[q0]? = some (b, .inr (6, [f0, f1, f2, f3, f4, f5, f6, f7, f8, f9, f10, f11, f12, f13, f14, f15]))) (hl : Cond.fieldLink own index "SoiledTestsModel" "text" "[I" ∈ GW) (hdg : decode cc pc = .ok (.getfield index, 3)) (kk : W p l e R s m args below meth c H locs cells slots Q (F0 m (pc + 3) ls (f5 :: rest))) : W p l e R s m args below meth c H locs cells slots Q (F0 m pc ls (.ref b :: rest)) := va_get (T := TX7) (N := 16) hexec hb hts inX7 hown hK.1 hP q0 he rfl 5 (Nat.le_of_ble_eq_true rfl) (hts _ hl) (fun _ h9 => h9) rfl hdg kk
theorem gnX7_5 {f0 f1 f2 f3 f4 f5 f6 f7 f8 f9 f10 f11 f12 f13 f14 f15 : Value} (hexec : p.tables.exec = Jvm.exec) (hb : c.code = cc) (hts : ∀ w ∈ GW, w.before args s = true) (hown : s.vm.findClass own = some m.cls) (hK : KK D cI cS s) (hP : va_P D vwCl ws H) (q0 : Nat) (he : ws[q0]? = some (b, .inr (6, [f0, f1, f2, f3, f4, f5, f6, f7, f8, f9, f10, f11, f12, f13, f14, f15]))) (hl : Cond.fieldLinkNest own index "SoiledTestsModel" "text" "[I" host ∈ nW) (hdg : decode cc pc = .ok (.getfield index, 3)) (kk : W p l e R s m args below meth c H locs cells slots Q (F0 m (pc + 3) ls (f5 :: rest))) : W p l e R s m args below meth c H locs cells slots Q (F0 m pc ls (.ref b :: rest)) := va_getN (T := TX7) (N := 16) hexec hb hts inX7 hown hK.1 hP q0 he rfl 5 (Nat.le_of_ble_eq_true rfl) (va_Nw.use rfl (hK.2.1 _ hl)) (fun _ h9 => h9) rfl hdg kk
theorem gfX7_6 {f0 f1 f2 f3 f4 f5 f6 f7 f8 f9 f10 f11 f12 f13 f14 f15 : Value} (hexec : p.tables.exec = Jvm.exec) (hb : c.code = cc) (hts : ∀ w ∈ GW, w.before args s = true) (hown : s.vm.findClass own = some m.cls) (hK : KK D cI cS s) (hP : va_P D vwCl ws H) (q0 : Nat) (he : ws[q0]? = some (b, .inr (6, [f0, f1, f2, f3, f4, f5, f6, f7, f8, f9, f10, f11, f12, f13, f14, f15]))) (hl : Cond.fieldLink own index "SoiledTestsModel" "bytes" "I" ∈ GW) (hdg : decode cc pc = .ok (.getfield index, 3)) (kk : W p l e R s m args below meth c H locs cells slots Q (F0 m (pc + 3) ls (f6 :: rest))) : W p l e R s m args below meth c H locs cells slots Q (F0 m pc ls (.ref b :: rest)) := va_get (T := TX7) (N := 16) hexec hb hts inX7 hown hK.1 hP q0 he rfl 6 (Nat.le_of_ble_eq_true rfl) (hts _ hl) (fun _ h9 => h9) rfl hdg kk
theorem gnX7_6 {f0 f1 f2 f3 f4 f5 f6 f7 f8 f9 f10 f11 f12 f13 f14 f15 : Value} (hexec : p.tables.exec = Jvm.exec) (hb : c.code = cc) (hts : ∀ w ∈ GW, w.before args s = true) (hown : s.vm.findClass own = some m.cls) (hK : KK D cI cS s) (hP : va_P D vwCl ws H) (q0 : Nat) (he : ws[q0]? = some (b, .inr (6, [f0, f1, f2, f3, f4, f5, f6, f7, f8, f9, f10, f11, f12, f13, f14, f15]))) (hl : Cond.fieldLinkNest own index "SoiledTestsModel" "bytes" "I" host ∈ nW) (hdg : decode cc pc = .ok (.getfield index, 3)) (kk : W p l e R s m args below meth c H locs cells slots Q (F0 m (pc + 3) ls (f6 :: rest))) : W p l e R s m args below meth c H locs cells slots Q (F0 m pc ls (.ref b :: rest)) := va_getN (T := TX7) (N := 16) hexec hb hts inX7 hown hK.1 hP q0 he rfl 6 (Nat.le_of_ble_eq_true rfl) (va_Nw.use rfl (hK.2.1 _ hl)) (fun _ h9 => h9) rfl hdg kk
theorem pfX7_6 {f0 f1 f2 f3 f4 f5 f6 f7 f8 f9 f10 f11 f12 f13 f14 f15 : Value} {v : Int32} (hexec : p.tables.exec = Jvm.exec) (hb : c.code = cc) (hts : ∀ w ∈ GW, w.before args s = true) (hown : s.vm.findClass own = some m.cls) (hK : KK D cI cS s) (hP : va_P D vwCl ws H) (hD : va_D A0 ws) (hS : va_S A0 H0 H locs) (q0 : Nat) (he : ws[q0]? = some (b, .inr (6, [f0, f1, f2, f3, f4, f5, f6, f7, f8, f9, f10, f11, f12, f13, f14, f15]))) (hU : ws.set q0 (b, .inr (6, [f0, f1, f2, f3, f4, f5, .int v, f7, f8, f9, f10, f11, f12, f13, f14, f15])) = ws') (hl : Cond.fieldLink own index "SoiledTestsModel" "bytes" "I" ∈ GW) (hdg : decode cc pc = .ok (.putfield index, 3)) (kk : ∀ (H1 : Heap) (locs1 : List Loc), va_P D vwCl ws' H1 → va_D A0 ws' → va_S A0 H0 H1 locs1 → W p l e R s m args below meth c H1 locs1 cells slots Q (F0 m (pc + 3) ls rest)) : W p l e R s m args below meth c H locs cells slots Q (F0 m pc ls (.int v :: .ref b :: rest)) := by
  subst hU
  exact va_put (T := TX7) (N := 16) (ty := .int) hexec hb hts inX7 tyX7 tyX7_ok nmX7 hown hK.1 hP hD hS q0 he rfl 6 (Nat.le_of_ble_eq_true rfl) (hts _ hl) (fun _ h9 => h9) rfl (by decide +kernel) rfl rfl (Nat.le_of_ble_eq_true rfl) hdg kk
theorem gfX7_7 {f0 f1 f2 f3 f4 f5 f6 f7 f8 f9 f10 f11 f12 f13 f14 f15 : Value} (hexec : p.tables.exec = Jvm.exec) (hb : c.code = cc) (hts : ∀ w ∈ GW, w.before args s = true) (hown : s.vm.findClass own = some m.cls) (hK : KK D cI cS s) (hP : va_P D vwCl ws H) (q0 : Nat) (he : ws[q0]? = some (b, .inr (6, [f0, f1, f2, f3, f4, f5, f6, f7, f8, f9, f10, f11, f12, f13, f14, f15]))) (hl : Cond.fieldLink own index "SoiledTestsModel" "tried" "[I" ∈ GW) (hdg : decode cc pc = .ok (.getfield index, 3)) (kk : W p l e R s m args below meth c H locs cells slots Q (F0 m (pc + 3) ls (f7 :: rest))) : W p l e R s m args below meth c H locs cells slots Q (F0 m pc ls (.ref b :: rest)) := va_get (T := TX7) (N := 16) hexec hb hts inX7 hown hK.1 hP q0 he rfl 7 (Nat.le_of_ble_eq_true rfl) (hts _ hl) (fun _ h9 => h9) rfl hdg kk
theorem gnX7_7 {f0 f1 f2 f3 f4 f5 f6 f7 f8 f9 f10 f11 f12 f13 f14 f15 : Value} (hexec : p.tables.exec = Jvm.exec) (hb : c.code = cc) (hts : ∀ w ∈ GW, w.before args s = true) (hown : s.vm.findClass own = some m.cls) (hK : KK D cI cS s) (hP : va_P D vwCl ws H) (q0 : Nat) (he : ws[q0]? = some (b, .inr (6, [f0, f1, f2, f3, f4, f5, f6, f7, f8, f9, f10, f11, f12, f13, f14, f15]))) (hl : Cond.fieldLinkNest own index "SoiledTestsModel" "tried" "[I" host ∈ nW) (hdg : decode cc pc = .ok (.getfield index, 3)) (kk : W p l e R s m args below meth c H locs cells slots Q (F0 m (pc + 3) ls (f7 :: rest))) : W p l e R s m args below meth c H locs cells slots Q (F0 m pc ls (.ref b :: rest)) := va_getN (T := TX7) (N := 16) hexec hb hts inX7 hown hK.1 hP q0 he rfl 7 (Nat.le_of_ble_eq_true rfl) (va_Nw.use rfl (hK.2.1 _ hl)) (fun _ h9 => h9) rfl hdg kk
theorem gfX7_8 {f0 f1 f2 f3 f4 f5 f6 f7 f8 f9 f10 f11 f12 f13 f14 f15 : Value} (hexec : p.tables.exec = Jvm.exec) (hb : c.code = cc) (hts : ∀ w ∈ GW, w.before args s = true) (hown : s.vm.findClass own = some m.cls) (hK : KK D cI cS s) (hP : va_P D vwCl ws H) (q0 : Nat) (he : ws[q0]? = some (b, .inr (6, [f0, f1, f2, f3, f4, f5, f6, f7, f8, f9, f10, f11, f12, f13, f14, f15]))) (hl : Cond.fieldLink own index "SoiledTestsModel" "triedMany" "I" ∈ GW) (hdg : decode cc pc = .ok (.getfield index, 3)) (kk : W p l e R s m args below meth c H locs cells slots Q (F0 m (pc + 3) ls (f8 :: rest))) : W p l e R s m args below meth c H locs cells slots Q (F0 m pc ls (.ref b :: rest)) := va_get (T := TX7) (N := 16) hexec hb hts inX7 hown hK.1 hP q0 he rfl 8 (Nat.le_of_ble_eq_true rfl) (hts _ hl) (fun _ h9 => h9) rfl hdg kk
theorem gnX7_8 {f0 f1 f2 f3 f4 f5 f6 f7 f8 f9 f10 f11 f12 f13 f14 f15 : Value} (hexec : p.tables.exec = Jvm.exec) (hb : c.code = cc) (hts : ∀ w ∈ GW, w.before args s = true) (hown : s.vm.findClass own = some m.cls) (hK : KK D cI cS s) (hP : va_P D vwCl ws H) (q0 : Nat) (he : ws[q0]? = some (b, .inr (6, [f0, f1, f2, f3, f4, f5, f6, f7, f8, f9, f10, f11, f12, f13, f14, f15]))) (hl : Cond.fieldLinkNest own index "SoiledTestsModel" "triedMany" "I" host ∈ nW) (hdg : decode cc pc = .ok (.getfield index, 3)) (kk : W p l e R s m args below meth c H locs cells slots Q (F0 m (pc + 3) ls (f8 :: rest))) : W p l e R s m args below meth c H locs cells slots Q (F0 m pc ls (.ref b :: rest)) := va_getN (T := TX7) (N := 16) hexec hb hts inX7 hown hK.1 hP q0 he rfl 8 (Nat.le_of_ble_eq_true rfl) (va_Nw.use rfl (hK.2.1 _ hl)) (fun _ h9 => h9) rfl hdg kk
theorem pfX7_8 {f0 f1 f2 f3 f4 f5 f6 f7 f8 f9 f10 f11 f12 f13 f14 f15 : Value} {v : Int32} (hexec : p.tables.exec = Jvm.exec) (hb : c.code = cc) (hts : ∀ w ∈ GW, w.before args s = true) (hown : s.vm.findClass own = some m.cls) (hK : KK D cI cS s) (hP : va_P D vwCl ws H) (hD : va_D A0 ws) (hS : va_S A0 H0 H locs) (q0 : Nat) (he : ws[q0]? = some (b, .inr (6, [f0, f1, f2, f3, f4, f5, f6, f7, f8, f9, f10, f11, f12, f13, f14, f15]))) (hU : ws.set q0 (b, .inr (6, [f0, f1, f2, f3, f4, f5, f6, f7, .int v, f9, f10, f11, f12, f13, f14, f15])) = ws') (hl : Cond.fieldLink own index "SoiledTestsModel" "triedMany" "I" ∈ GW) (hdg : decode cc pc = .ok (.putfield index, 3)) (kk : ∀ (H1 : Heap) (locs1 : List Loc), va_P D vwCl ws' H1 → va_D A0 ws' → va_S A0 H0 H1 locs1 → W p l e R s m args below meth c H1 locs1 cells slots Q (F0 m (pc + 3) ls rest)) : W p l e R s m args below meth c H locs cells slots Q (F0 m pc ls (.int v :: .ref b :: rest)) := by
  subst hU
  exact va_put (T := TX7) (N := 16) (ty := .int) hexec hb hts inX7 tyX7 tyX7_ok nmX7 hown hK.1 hP hD hS q0 he rfl 8 (Nat.le_of_ble_eq_true rfl) (hts _ hl) (fun _ h9 => h9) rfl (by decide +kernel) rfl rfl (Nat.le_of_ble_eq_true rfl) hdg kk
theorem gfX7_9 {f0 f1 f2 f3 f4 f5 f6 f7 f8 f9 f10 f11 f12 f13 f14 f15 : Value} (hexec : p.tables.exec = Jvm.exec) (hb : c.code = cc) (hts : ∀ w ∈ GW, w.before args s = true) (hown : s.vm.findClass own = some m.cls) (hK : KK D cI cS s) (hP : va_P D vwCl ws H) (q0 : Nat) (he : ws[q0]? = some (b, .inr (6, [f0, f1, f2, f3, f4, f5, f6, f7, f8, f9, f10, f11, f12, f13, f14, f15]))) (hl : Cond.fieldLink own index "SoiledTestsModel" "shuffled" "[I" ∈ GW) (hdg : decode cc pc = .ok (.getfield index, 3)) (kk : W p l e R s m args below meth c H locs cells slots Q (F0 m (pc + 3) ls (f9 :: rest))) : W p l e R s m args below meth c H locs cells slots Q (F0 m pc ls (.ref b :: rest)) := va_get (T := TX7) (N := 16) hexec hb hts inX7 hown hK.1 hP q0 he rfl 9 (Nat.le_of_ble_eq_true rfl) (hts _ hl) (fun _ h9 => h9) rfl hdg kk
theorem gnX7_9 {f0 f1 f2 f3 f4 f5 f6 f7 f8 f9 f10 f11 f12 f13 f14 f15 : Value} (hexec : p.tables.exec = Jvm.exec) (hb : c.code = cc) (hts : ∀ w ∈ GW, w.before args s = true) (hown : s.vm.findClass own = some m.cls) (hK : KK D cI cS s) (hP : va_P D vwCl ws H) (q0 : Nat) (he : ws[q0]? = some (b, .inr (6, [f0, f1, f2, f3, f4, f5, f6, f7, f8, f9, f10, f11, f12, f13, f14, f15]))) (hl : Cond.fieldLinkNest own index "SoiledTestsModel" "shuffled" "[I" host ∈ nW) (hdg : decode cc pc = .ok (.getfield index, 3)) (kk : W p l e R s m args below meth c H locs cells slots Q (F0 m (pc + 3) ls (f9 :: rest))) : W p l e R s m args below meth c H locs cells slots Q (F0 m pc ls (.ref b :: rest)) := va_getN (T := TX7) (N := 16) hexec hb hts inX7 hown hK.1 hP q0 he rfl 9 (Nat.le_of_ble_eq_true rfl) (va_Nw.use rfl (hK.2.1 _ hl)) (fun _ h9 => h9) rfl hdg kk
theorem gfX7_10 {f0 f1 f2 f3 f4 f5 f6 f7 f8 f9 f10 f11 f12 f13 f14 f15 : Value} (hexec : p.tables.exec = Jvm.exec) (hb : c.code = cc) (hts : ∀ w ∈ GW, w.before args s = true) (hown : s.vm.findClass own = some m.cls) (hK : KK D cI cS s) (hP : va_P D vwCl ws H) (q0 : Nat) (he : ws[q0]? = some (b, .inr (6, [f0, f1, f2, f3, f4, f5, f6, f7, f8, f9, f10, f11, f12, f13, f14, f15]))) (hl : Cond.fieldLink own index "SoiledTestsModel" "letters" "[I" ∈ GW) (hdg : decode cc pc = .ok (.getfield index, 3)) (kk : W p l e R s m args below meth c H locs cells slots Q (F0 m (pc + 3) ls (f10 :: rest))) : W p l e R s m args below meth c H locs cells slots Q (F0 m pc ls (.ref b :: rest)) := va_get (T := TX7) (N := 16) hexec hb hts inX7 hown hK.1 hP q0 he rfl 10 (Nat.le_of_ble_eq_true rfl) (hts _ hl) (fun _ h9 => h9) rfl hdg kk
theorem gnX7_10 {f0 f1 f2 f3 f4 f5 f6 f7 f8 f9 f10 f11 f12 f13 f14 f15 : Value} (hexec : p.tables.exec = Jvm.exec) (hb : c.code = cc) (hts : ∀ w ∈ GW, w.before args s = true) (hown : s.vm.findClass own = some m.cls) (hK : KK D cI cS s) (hP : va_P D vwCl ws H) (q0 : Nat) (he : ws[q0]? = some (b, .inr (6, [f0, f1, f2, f3, f4, f5, f6, f7, f8, f9, f10, f11, f12, f13, f14, f15]))) (hl : Cond.fieldLinkNest own index "SoiledTestsModel" "letters" "[I" host ∈ nW) (hdg : decode cc pc = .ok (.getfield index, 3)) (kk : W p l e R s m args below meth c H locs cells slots Q (F0 m (pc + 3) ls (f10 :: rest))) : W p l e R s m args below meth c H locs cells slots Q (F0 m pc ls (.ref b :: rest)) := va_getN (T := TX7) (N := 16) hexec hb hts inX7 hown hK.1 hP q0 he rfl 10 (Nat.le_of_ble_eq_true rfl) (va_Nw.use rfl (hK.2.1 _ hl)) (fun _ h9 => h9) rfl hdg kk
theorem gfX7_11 {f0 f1 f2 f3 f4 f5 f6 f7 f8 f9 f10 f11 f12 f13 f14 f15 : Value} (hexec : p.tables.exec = Jvm.exec) (hb : c.code = cc) (hts : ∀ w ∈ GW, w.before args s = true) (hown : s.vm.findClass own = some m.cls) (hK : KK D cI cS s) (hP : va_P D vwCl ws H) (q0 : Nat) (he : ws[q0]? = some (b, .inr (6, [f0, f1, f2, f3, f4, f5, f6, f7, f8, f9, f10, f11, f12, f13, f14, f15]))) (hl : Cond.fieldLink own index "SoiledTestsModel" "numbers" "[I" ∈ GW) (hdg : decode cc pc = .ok (.getfield index, 3)) (kk : W p l e R s m args below meth c H locs cells slots Q (F0 m (pc + 3) ls (f11 :: rest))) : W p l e R s m args below meth c H locs cells slots Q (F0 m pc ls (.ref b :: rest)) := va_get (T := TX7) (N := 16) hexec hb hts inX7 hown hK.1 hP q0 he rfl 11 (Nat.le_of_ble_eq_true rfl) (hts _ hl) (fun _ h9 => h9) rfl hdg kk
theorem gnX7_11 {f0 f1 f2 f3 f4 f5 f6 f7 f8 f9 f10 f11 f12 f13 f14 f15 : Value} (hexec : p.tables.exec = Jvm.exec) (hb : c.code = cc) (hts : ∀ w ∈ GW, w.before args s = true) (hown : s.vm.findClass own = some m.cls) (hK : KK D cI cS s) (hP : va_P D vwCl ws H) (q0 : Nat) (he : ws[q0]? = some (b, .inr (6, [f0, f1, f2, f3, f4, f5, f6, f7, f8, f9, f10, f11, f12, f13, f14, f15]))) (hl : Cond.fieldLinkNest own index "SoiledTestsModel" "numbers" "[I" host ∈ nW) (hdg : decode cc pc = .ok (.getfield index, 3)) (kk : W p l e R s m args below meth c H locs cells slots Q (F0 m (pc + 3) ls (f11 :: rest))) : W p l e R s m args below meth c H locs cells slots Q (F0 m pc ls (.ref b :: rest)) := va_getN (T := TX7) (N := 16) hexec hb hts inX7 hown hK.1 hP q0 he rfl 11 (Nat.le_of_ble_eq_true rfl) (va_Nw.use rfl (hK.2.1 _ hl)) (fun _ h9 => h9) rfl hdg kk
theorem gfX7_12 {f0 f1 f2 f3 f4 f5 f6 f7 f8 f9 f10 f11 f12 f13 f14 f15 : Value} (hexec : p.tables.exec = Jvm.exec) (hb : c.code = cc) (hts : ∀ w ∈ GW, w.before args s = true) (hown : s.vm.findClass own = some m.cls) (hK : KK D cI cS s) (hP : va_P D vwCl ws H) (q0 : Nat) (he : ws[q0]? = some (b, .inr (6, [f0, f1, f2, f3, f4, f5, f6, f7, f8, f9, f10, f11, f12, f13, f14, f15]))) (hl : Cond.fieldLink own index "SoiledTestsModel" "orders" "I" ∈ GW) (hdg : decode cc pc = .ok (.getfield index, 3)) (kk : W p l e R s m args below meth c H locs cells slots Q (F0 m (pc + 3) ls (f12 :: rest))) : W p l e R s m args below meth c H locs cells slots Q (F0 m pc ls (.ref b :: rest)) := va_get (T := TX7) (N := 16) hexec hb hts inX7 hown hK.1 hP q0 he rfl 12 (Nat.le_of_ble_eq_true rfl) (hts _ hl) (fun _ h9 => h9) rfl hdg kk
theorem gnX7_12 {f0 f1 f2 f3 f4 f5 f6 f7 f8 f9 f10 f11 f12 f13 f14 f15 : Value} (hexec : p.tables.exec = Jvm.exec) (hb : c.code = cc) (hts : ∀ w ∈ GW, w.before args s = true) (hown : s.vm.findClass own = some m.cls) (hK : KK D cI cS s) (hP : va_P D vwCl ws H) (q0 : Nat) (he : ws[q0]? = some (b, .inr (6, [f0, f1, f2, f3, f4, f5, f6, f7, f8, f9, f10, f11, f12, f13, f14, f15]))) (hl : Cond.fieldLinkNest own index "SoiledTestsModel" "orders" "I" host ∈ nW) (hdg : decode cc pc = .ok (.getfield index, 3)) (kk : W p l e R s m args below meth c H locs cells slots Q (F0 m (pc + 3) ls (f12 :: rest))) : W p l e R s m args below meth c H locs cells slots Q (F0 m pc ls (.ref b :: rest)) := va_getN (T := TX7) (N := 16) hexec hb hts inX7 hown hK.1 hP q0 he rfl 12 (Nat.le_of_ble_eq_true rfl) (va_Nw.use rfl (hK.2.1 _ hl)) (fun _ h9 => h9) rfl hdg kk
theorem pfX7_12 {f0 f1 f2 f3 f4 f5 f6 f7 f8 f9 f10 f11 f12 f13 f14 f15 : Value} {v : Int32} (hexec : p.tables.exec = Jvm.exec) (hb : c.code = cc) (hts : ∀ w ∈ GW, w.before args s = true) (hown : s.vm.findClass own = some m.cls) (hK : KK D cI cS s) (hP : va_P D vwCl ws H) (hD : va_D A0 ws) (hS : va_S A0 H0 H locs) (q0 : Nat) (he : ws[q0]? = some (b, .inr (6, [f0, f1, f2, f3, f4, f5, f6, f7, f8, f9, f10, f11, f12, f13, f14, f15]))) (hU : ws.set q0 (b, .inr (6, [f0, f1, f2, f3, f4, f5, f6, f7, f8, f9, f10, f11, .int v, f13, f14, f15])) = ws') (hl : Cond.fieldLink own index "SoiledTestsModel" "orders" "I" ∈ GW) (hdg : decode cc pc = .ok (.putfield index, 3)) (kk : ∀ (H1 : Heap) (locs1 : List Loc), va_P D vwCl ws' H1 → va_D A0 ws' → va_S A0 H0 H1 locs1 → W p l e R s m args below meth c H1 locs1 cells slots Q (F0 m (pc + 3) ls rest)) : W p l e R s m args below meth c H locs cells slots Q (F0 m pc ls (.int v :: .ref b :: rest)) := by
  subst hU
  exact va_put (T := TX7) (N := 16) (ty := .int) hexec hb hts inX7 tyX7 tyX7_ok nmX7 hown hK.1 hP hD hS q0 he rfl 12 (Nat.le_of_ble_eq_true rfl) (hts _ hl) (fun _ h9 => h9) rfl (by decide +kernel) rfl rfl (Nat.le_of_ble_eq_true rfl) hdg kk
theorem gfX7_13 {f0 f1 f2 f3 f4 f5 f6 f7 f8 f9 f10 f11 f12 f13 f14 f15 : Value} (hexec : p.tables.exec = Jvm.exec) (hb : c.code = cc) (hts : ∀ w ∈ GW, w.before args s = true) (hown : s.vm.findClass own = some m.cls) (hK : KK D cI cS s) (hP : va_P D vwCl ws H) (q0 : Nat) (he : ws[q0]? = some (b, .inr (6, [f0, f1, f2, f3, f4, f5, f6, f7, f8, f9, f10, f11, f12, f13, f14, f15]))) (hl : Cond.fieldLink own index "SoiledTestsModel" "spot" "I" ∈ GW) (hdg : decode cc pc = .ok (.getfield index, 3)) (kk : W p l e R s m args below meth c H locs cells slots Q (F0 m (pc + 3) ls (f13 :: rest))) : W p l e R s m args below meth c H locs cells slots Q (F0 m pc ls (.ref b :: rest)) := va_get (T := TX7) (N := 16) hexec hb hts inX7 hown hK.1 hP q0 he rfl 13 (Nat.le_of_ble_eq_true rfl) (hts _ hl) (fun _ h9 => h9) rfl hdg kk
theorem gnX7_13 {f0 f1 f2 f3 f4 f5 f6 f7 f8 f9 f10 f11 f12 f13 f14 f15 : Value} (hexec : p.tables.exec = Jvm.exec) (hb : c.code = cc) (hts : ∀ w ∈ GW, w.before args s = true) (hown : s.vm.findClass own = some m.cls) (hK : KK D cI cS s) (hP : va_P D vwCl ws H) (q0 : Nat) (he : ws[q0]? = some (b, .inr (6, [f0, f1, f2, f3, f4, f5, f6, f7, f8, f9, f10, f11, f12, f13, f14, f15]))) (hl : Cond.fieldLinkNest own index "SoiledTestsModel" "spot" "I" host ∈ nW) (hdg : decode cc pc = .ok (.getfield index, 3)) (kk : W p l e R s m args below meth c H locs cells slots Q (F0 m (pc + 3) ls (f13 :: rest))) : W p l e R s m args below meth c H locs cells slots Q (F0 m pc ls (.ref b :: rest)) := va_getN (T := TX7) (N := 16) hexec hb hts inX7 hown hK.1 hP q0 he rfl 13 (Nat.le_of_ble_eq_true rfl) (va_Nw.use rfl (hK.2.1 _ hl)) (fun _ h9 => h9) rfl hdg kk
theorem pfX7_13 {f0 f1 f2 f3 f4 f5 f6 f7 f8 f9 f10 f11 f12 f13 f14 f15 : Value} {v : Int32} (hexec : p.tables.exec = Jvm.exec) (hb : c.code = cc) (hts : ∀ w ∈ GW, w.before args s = true) (hown : s.vm.findClass own = some m.cls) (hK : KK D cI cS s) (hP : va_P D vwCl ws H) (hD : va_D A0 ws) (hS : va_S A0 H0 H locs) (q0 : Nat) (he : ws[q0]? = some (b, .inr (6, [f0, f1, f2, f3, f4, f5, f6, f7, f8, f9, f10, f11, f12, f13, f14, f15]))) (hU : ws.set q0 (b, .inr (6, [f0, f1, f2, f3, f4, f5, f6, f7, f8, f9, f10, f11, f12, .int v, f14, f15])) = ws') (hl : Cond.fieldLink own index "SoiledTestsModel" "spot" "I" ∈ GW) (hdg : decode cc pc = .ok (.putfield index, 3)) (kk : ∀ (H1 : Heap) (locs1 : List Loc), va_P D vwCl ws' H1 → va_D A0 ws' → va_S A0 H0 H1 locs1 → W p l e R s m args below meth c H1 locs1 cells slots Q (F0 m (pc + 3) ls rest)) : W p l e R s m args below meth c H locs cells slots Q (F0 m pc ls (.int v :: .ref b :: rest)) := by
  subst hU
  exact va_put (T := TX7) (N := 16) (ty := .int) hexec hb hts inX7 tyX7 tyX7_ok nmX7 hown hK.1 hP hD hS q0 he rfl 13 (Nat.le_of_ble_eq_true rfl) (hts _ hl) (fun _ h9 => h9) rfl (by decide +kernel) rfl rfl (Nat.le_of_ble_eq_true rfl) hdg kk
theorem gfX7_14 {f0 f1 f2 f3 f4 f5 f6 f7 f8 f9 f10 f11 f12 f13 f14 f15 : Value} (hexec : p.tables.exec = Jvm.exec) (hb : c.code = cc) (hts : ∀ w ∈ GW, w.before args s = true) (hown : s.vm.findClass own = some m.cls) (hK : KK D cI cS s) (hP : va_P D vwCl ws H) (q0 : Nat) (he : ws[q0]? = some (b, .inr (6, [f0, f1, f2, f3, f4, f5, f6, f7, f8, f9, f10, f11, f12, f13, f14, f15]))) (hl : Cond.fieldLink own index "SoiledTestsModel" "wrongAt" "I" ∈ GW) (hdg : decode cc pc = .ok (.getfield index, 3)) (kk : W p l e R s m args below meth c H locs cells slots Q (F0 m (pc + 3) ls (f14 :: rest))) : W p l e R s m args below meth c H locs cells slots Q (F0 m pc ls (.ref b :: rest)) := va_get (T := TX7) (N := 16) hexec hb hts inX7 hown hK.1 hP q0 he rfl 14 (Nat.le_of_ble_eq_true rfl) (hts _ hl) (fun _ h9 => h9) rfl hdg kk
theorem gnX7_14 {f0 f1 f2 f3 f4 f5 f6 f7 f8 f9 f10 f11 f12 f13 f14 f15 : Value} (hexec : p.tables.exec = Jvm.exec) (hb : c.code = cc) (hts : ∀ w ∈ GW, w.before args s = true) (hown : s.vm.findClass own = some m.cls) (hK : KK D cI cS s) (hP : va_P D vwCl ws H) (q0 : Nat) (he : ws[q0]? = some (b, .inr (6, [f0, f1, f2, f3, f4, f5, f6, f7, f8, f9, f10, f11, f12, f13, f14, f15]))) (hl : Cond.fieldLinkNest own index "SoiledTestsModel" "wrongAt" "I" host ∈ nW) (hdg : decode cc pc = .ok (.getfield index, 3)) (kk : W p l e R s m args below meth c H locs cells slots Q (F0 m (pc + 3) ls (f14 :: rest))) : W p l e R s m args below meth c H locs cells slots Q (F0 m pc ls (.ref b :: rest)) := va_getN (T := TX7) (N := 16) hexec hb hts inX7 hown hK.1 hP q0 he rfl 14 (Nat.le_of_ble_eq_true rfl) (va_Nw.use rfl (hK.2.1 _ hl)) (fun _ h9 => h9) rfl hdg kk
theorem pfX7_14 {f0 f1 f2 f3 f4 f5 f6 f7 f8 f9 f10 f11 f12 f13 f14 f15 : Value} {v : Int32} (hexec : p.tables.exec = Jvm.exec) (hb : c.code = cc) (hts : ∀ w ∈ GW, w.before args s = true) (hown : s.vm.findClass own = some m.cls) (hK : KK D cI cS s) (hP : va_P D vwCl ws H) (hD : va_D A0 ws) (hS : va_S A0 H0 H locs) (q0 : Nat) (he : ws[q0]? = some (b, .inr (6, [f0, f1, f2, f3, f4, f5, f6, f7, f8, f9, f10, f11, f12, f13, f14, f15]))) (hU : ws.set q0 (b, .inr (6, [f0, f1, f2, f3, f4, f5, f6, f7, f8, f9, f10, f11, f12, f13, .int v, f15])) = ws') (hl : Cond.fieldLink own index "SoiledTestsModel" "wrongAt" "I" ∈ GW) (hdg : decode cc pc = .ok (.putfield index, 3)) (kk : ∀ (H1 : Heap) (locs1 : List Loc), va_P D vwCl ws' H1 → va_D A0 ws' → va_S A0 H0 H1 locs1 → W p l e R s m args below meth c H1 locs1 cells slots Q (F0 m (pc + 3) ls rest)) : W p l e R s m args below meth c H locs cells slots Q (F0 m pc ls (.int v :: .ref b :: rest)) := by
  subst hU
  exact va_put (T := TX7) (N := 16) (ty := .int) hexec hb hts inX7 tyX7 tyX7_ok nmX7 hown hK.1 hP hD hS q0 he rfl 14 (Nat.le_of_ble_eq_true rfl) (hts _ hl) (fun _ h9 => h9) rfl (by decide +kernel) rfl rfl (Nat.le_of_ble_eq_true rfl) hdg kk
theorem gfX7_15 {f0 f1 f2 f3 f4 f5 f6 f7 f8 f9 f10 f11 f12 f13 f14 f15 : Value} (hexec : p.tables.exec = Jvm.exec) (hb : c.code = cc) (hts : ∀ w ∈ GW, w.before args s = true) (hown : s.vm.findClass own = some m.cls) (hK : KK D cI cS s) (hP : va_P D vwCl ws H) (q0 : Nat) (he : ws[q0]? = some (b, .inr (6, [f0, f1, f2, f3, f4, f5, f6, f7, f8, f9, f10, f11, f12, f13, f14, f15]))) (hl : Cond.fieldLink own index "SoiledTestsModel" "hash" "J" ∈ GW) (hdg : decode cc pc = .ok (.getfield index, 3)) (kk : W p l e R s m args below meth c H locs cells slots Q (F0 m (pc + 3) ls (f15 :: rest))) : W p l e R s m args below meth c H locs cells slots Q (F0 m pc ls (.ref b :: rest)) := va_get (T := TX7) (N := 16) hexec hb hts inX7 hown hK.1 hP q0 he rfl 15 (Nat.le_of_ble_eq_true rfl) (hts _ hl) (fun _ h9 => h9) rfl hdg kk
theorem gnX7_15 {f0 f1 f2 f3 f4 f5 f6 f7 f8 f9 f10 f11 f12 f13 f14 f15 : Value} (hexec : p.tables.exec = Jvm.exec) (hb : c.code = cc) (hts : ∀ w ∈ GW, w.before args s = true) (hown : s.vm.findClass own = some m.cls) (hK : KK D cI cS s) (hP : va_P D vwCl ws H) (q0 : Nat) (he : ws[q0]? = some (b, .inr (6, [f0, f1, f2, f3, f4, f5, f6, f7, f8, f9, f10, f11, f12, f13, f14, f15]))) (hl : Cond.fieldLinkNest own index "SoiledTestsModel" "hash" "J" host ∈ nW) (hdg : decode cc pc = .ok (.getfield index, 3)) (kk : W p l e R s m args below meth c H locs cells slots Q (F0 m (pc + 3) ls (f15 :: rest))) : W p l e R s m args below meth c H locs cells slots Q (F0 m pc ls (.ref b :: rest)) := va_getN (T := TX7) (N := 16) hexec hb hts inX7 hown hK.1 hP q0 he rfl 15 (Nat.le_of_ble_eq_true rfl) (va_Nw.use rfl (hK.2.1 _ hl)) (fun _ h9 => h9) rfl hdg kk
theorem pfX7_15 {f0 f1 f2 f3 f4 f5 f6 f7 f8 f9 f10 f11 f12 f13 f14 f15 : Value} {v : Int64} (hexec : p.tables.exec = Jvm.exec) (hb : c.code = cc) (hts : ∀ w ∈ GW, w.before args s = true) (hown : s.vm.findClass own = some m.cls) (hK : KK D cI cS s) (hP : va_P D vwCl ws H) (hD : va_D A0 ws) (hS : va_S A0 H0 H locs) (q0 : Nat) (he : ws[q0]? = some (b, .inr (6, [f0, f1, f2, f3, f4, f5, f6, f7, f8, f9, f10, f11, f12, f13, f14, f15]))) (hU : ws.set q0 (b, .inr (6, [f0, f1, f2, f3, f4, f5, f6, f7, f8, f9, f10, f11, f12, f13, f14, .long v])) = ws') (hl : Cond.fieldLink own index "SoiledTestsModel" "hash" "J" ∈ GW) (hdg : decode cc pc = .ok (.putfield index, 3)) (kk : ∀ (H1 : Heap) (locs1 : List Loc), va_P D vwCl ws' H1 → va_D A0 ws' → va_S A0 H0 H1 locs1 → W p l e R s m args below meth c H1 locs1 cells slots Q (F0 m (pc + 3) ls rest)) : W p l e R s m args below meth c H locs cells slots Q (F0 m pc ls (.long v :: .ref b :: rest)) := by
  subst hU
  exact va_put (T := TX7) (N := 16) (ty := .long) hexec hb hts inX7 tyX7 tyX7_ok nmX7 hown hK.1 hP hD hS q0 he rfl 15 (Nat.le_of_ble_eq_true rfl) (hts _ hl) (fun _ h9 => h9) rfl (by decide +kernel) rfl rfl (Nat.le_of_ble_eq_true rfl) hdg kk
end FL
theorem ciX0_init : CYI yX0_init cX0_init 1 0 := ⟨wvX0_init, wiX0, wbX0_init, ⟨by decide +kernel, by decide +kernel, by decide +kernel⟩, rfl⟩
theorem cvX0_read : CYV RX0 yX0_read cX0_read 3 (some .int) 1 := ⟨⟨wvX0_read, weX0_read⟩, wiX0, wbX0_read, by decide +kernel, by decide +kernel, by decide +kernel⟩
theorem cvX0_takes : CYV RX0 yX0_takes cX0_takes 2 (some .boolean) 1 := ⟨⟨wvX0_takes, weX0_takes⟩, wiX0, wbX0_takes, by decide +kernel, by decide +kernel, by decide +kernel⟩
theorem cvX0_opensOrder : CYV RX0 yX0_opensOrder cX0_opensOrder 2 (some .boolean) 1 := ⟨⟨wvX0_opensOrder, weX0_opensOrder⟩, wiX0, wbX0_opensOrder, by decide +kernel, by decide +kernel, by decide +kernel⟩
theorem cvX0_endsOrder : CYV RX0 yX0_endsOrder cX0_endsOrder 1 (some .boolean) 0 := ⟨⟨wvX0_endsOrder, weX0_endsOrder⟩, wiX0, wbX0_endsOrder, by decide +kernel, by decide +kernel, by decide +kernel⟩
theorem cvX0_takesFigure : CYV RX0 yX0_takesFigure cX0_takesFigure 2 (some .boolean) 1 := ⟨⟨wvX0_takesFigure, weX0_takesFigure⟩, wiX0, wbX0_takesFigure, by decide +kernel, by decide +kernel, by decide +kernel⟩
theorem cvX0_setNumber : CYV RX0 yX0_setNumber cX0_setNumber 3 none 1 := ⟨⟨wvX0_setNumber, weX0_setNumber⟩, wiX0, wbX0_setNumber, by decide +kernel, by decide +kernel, by decide +kernel⟩
theorem csX0_numbersOf : CYS yX0_numbersOf cX0_numbersOf 1 (some .int) 1 := ⟨wsX0_numbersOf, wiX0, wbX0_numbersOf, by decide +kernel, by decide +kernel, by decide +kernel⟩
theorem cvX0_letter : CYV RX0 yX0_letter cX0_letter 2 (some .int) 1 := ⟨⟨wvX0_letter, weX0_letter⟩, wiX0, wbX0_letter, by decide +kernel, by decide +kernel, by decide +kernel⟩
theorem cvX0_number : CYV RX0 yX0_number cX0_number 4 (some .int) 2 := ⟨⟨wvX0_number, weX0_number⟩, wiX0, wbX0_number, by decide +kernel, by decide +kernel, by decide +kernel⟩
theorem ciX1_init : CYI yX1_init cX1_init 2 0 := ⟨wvX1_init, wiX1, wbX1_init, ⟨by decide +kernel, by decide +kernel, by decide +kernel⟩, rfl⟩
theorem cvX1_markedSlot : CYV RX1 yX1_markedSlot cX1_markedSlot 1 (some (.object "SoiledTests$Suite")) 0 := ⟨⟨wvX1_markedSlot, weX1_markedSlot⟩, wiX1, wbX1_markedSlot, by decide +kernel, by decide +kernel, by decide +kernel⟩
theorem cvX1_mark : CYV RX1 yX1_mark cX1_mark 3 none 1 := ⟨⟨wvX1_mark, weX1_mark⟩, wiX1, wbX1_mark, by decide +kernel, by decide +kernel, by decide +kernel⟩
theorem cvX1_recall : CYV RX1 yX1_recall cX1_recall 3 none 1 := ⟨⟨wvX1_recall, weX1_recall⟩, wiX1, wbX1_recall, by decide +kernel, by decide +kernel, by decide +kernel⟩
theorem cvX1_keep : CYV RX1 yX1_keep cX1_keep 1 none 0 := ⟨⟨wvX1_keep, weX1_keep⟩, wiX1, wbX1_keep, by decide +kernel, by decide +kernel, by decide +kernel⟩
theorem cvX1_stepBack : CYV RX1 yX1_stepBack cX1_stepBack 2 (some .int) 1 := ⟨⟨wvX1_stepBack, weX1_stepBack⟩, wiX1, wbX1_stepBack, by decide +kernel, by decide +kernel, by decide +kernel⟩
theorem csX2_least : CYS yX2_least cX2_least 9 (some .int) 3 := ⟨wsX2_least, wiX2, wbX2_least, by decide +kernel, by decide +kernel, by decide +kernel⟩
theorem csX2_fewest : CYS yX2_fewest cX2_fewest 6 (some .int) 3 := ⟨wsX2_fewest, wiX2, wbX2_fewest, by decide +kernel, by decide +kernel, by decide +kernel⟩
theorem csX2_halves : CYS yX2_halves cX2_halves 7 (some .int) 3 := ⟨wsX2_halves, wiX2, wbX2_halves, by decide +kernel, by decide +kernel, by decide +kernel⟩
theorem csX2_firstHalf : CYS yX2_firstHalf cX2_firstHalf 6 (some .int) 2 := ⟨wsX2_firstHalf, wiX2, wbX2_firstHalf, by decide +kernel, by decide +kernel, by decide +kernel⟩
theorem ciX3_init : CYI yX3_init cX3_init 1 0 := ⟨wvX3_init, wiX3, wbX3_init, ⟨by decide +kernel, by decide +kernel, by decide +kernel⟩, rfl⟩
theorem cvX3_nth : CYV RX3 yX3_nth cX3_nth 2 (some .int) 1 := ⟨⟨wvX3_nth, weX3_nth⟩, wiX3, wbX3_nth, by decide +kernel, by decide +kernel, by decide +kernel⟩
theorem cvX3_placeOf : CYV RX3 yX3_placeOf cX3_placeOf 3 (some .int) 1 := ⟨⟨wvX3_placeOf, weX3_placeOf⟩, wiX3, wbX3_placeOf, by decide +kernel, by decide +kernel, by decide +kernel⟩
theorem cvX3_setAhead : CYV RX3 yX3_setAhead cX3_setAhead 4 (some .int) 1 := ⟨⟨wvX3_setAhead, weX3_setAhead⟩, wiX3, wbX3_setAhead, by decide +kernel, by decide +kernel, by decide +kernel⟩
theorem cvX3_append : CYV RX3 yX3_append cX3_append 2 none 1 := ⟨⟨wvX3_append, weX3_append⟩, wiX3, wbX3_append, by decide +kernel, by decide +kernel, by decide +kernel⟩
theorem cvX3_makeEmpty : CYV RX3 yX3_makeEmpty cX3_makeEmpty 1 none 0 := ⟨⟨wvX3_makeEmpty, weX3_makeEmpty⟩, wiX3, wbX3_makeEmpty, by decide +kernel, by decide +kernel, by decide +kernel⟩
theorem cvX3_takeOut : CYV RX3 yX3_takeOut cX3_takeOut 5 none 1 := ⟨⟨wvX3_takeOut, weX3_takeOut⟩, wiX3, wbX3_takeOut, by decide +kernel, by decide +kernel, by decide +kernel⟩
theorem cvX3_layShuffled : CYV RX3 yX3_layShuffled cX3_layShuffled 6 none 2 := ⟨⟨wvX3_layShuffled, weX3_layShuffled⟩, wiX3, wbX3_layShuffled, by decide +kernel, by decide +kernel, by decide +kernel⟩
theorem cvX3_swap : CYV RX3 yX3_swap cX3_swap 4 none 2 := ⟨⟨wvX3_swap, weX3_swap⟩, wiX3, wbX3_swap, by decide +kernel, by decide +kernel, by decide +kernel⟩
theorem cvX3_copyFrom : CYV RX3 yX3_copyFrom cX3_copyFrom 2 none 1 := ⟨⟨wvX3_copyFrom, weX3_copyFrom⟩, wiX3, wbX3_copyFrom, by decide +kernel, by decide +kernel, by decide +kernel⟩
theorem ciX4_init : CYI yX4_init cX4_init 1 0 := ⟨wvX4_init, wiX4, wbX4_init, ⟨by decide +kernel, by decide +kernel, by decide +kernel⟩, rfl⟩
theorem cvX4_addTest : CYV RX4 yX4_addTest cX4_addTest 7 (some .int) 5 := ⟨⟨wvX4_addTest, weX4_addTest⟩, wiX4, wbX4_addTest, by decide +kernel, by decide +kernel, by decide +kernel⟩
theorem cvX4_cutLast : CYV RX4 yX4_cutLast cX4_cutLast 1 (some .int) 0 := ⟨⟨wvX4_cutLast, weX4_cutLast⟩, wiX4, wbX4_cutLast, by decide +kernel, by decide +kernel, by decide +kernel⟩
theorem cvX4_layTest : CYV RX4 yX4_layTest cX4_layTest 2 (some .int) 1 := ⟨⟨wvX4_layTest, weX4_layTest⟩, wiX4, wbX4_layTest, by decide +kernel, by decide +kernel, by decide +kernel⟩
theorem cvX4_wipeRow : CYV RX4 yX4_wipeRow cX4_wipeRow 2 (some .int) 0 := ⟨⟨wvX4_wipeRow, weX4_wipeRow⟩, wiX4, wbX4_wipeRow, by decide +kernel, by decide +kernel, by decide +kernel⟩
theorem cvX4_changeStart : CYV RX4 yX4_changeStart cX4_changeStart 3 (some .int) 1 := ⟨⟨wvX4_changeStart, weX4_changeStart⟩, wiX4, wbX4_changeStart, by decide +kernel, by decide +kernel, by decide +kernel⟩
theorem cvX4_changeMode : CYV RX4 yX4_changeMode cX4_changeMode 3 (some .int) 1 := ⟨⟨wvX4_changeMode, weX4_changeMode⟩, wiX4, wbX4_changeMode, by decide +kernel, by decide +kernel, by decide +kernel⟩
theorem cvX4_shuffleRow : CYV RX4 yX4_shuffleRow cX4_shuffleRow 2 (some .int) 1 := ⟨⟨wvX4_shuffleRow, weX4_shuffleRow⟩, wiX4, wbX4_shuffleRow, by decide +kernel, by decide +kernel, by decide +kernel⟩
theorem cvX4_trimAhead : CYV RX4 yX4_trimAhead cX4_trimAhead 4 (some .int) 1 := ⟨⟨wvX4_trimAhead, weX4_trimAhead⟩, wiX4, wbX4_trimAhead, by decide +kernel, by decide +kernel, by decide +kernel⟩
theorem cvX4_hasTest : CYV RX4 yX4_hasTest cX4_hasTest 2 (some .boolean) 1 := ⟨⟨wvX4_hasTest, weX4_hasTest⟩, wiX4, wbX4_hasTest, by decide +kernel, by decide +kernel, by decide +kernel⟩
theorem cvX4_mask : CYV RX4 yX4_mask cX4_mask 4 (some .int) 2 := ⟨⟨wvX4_mask, weX4_mask⟩, wiX4, wbX4_mask, by decide +kernel, by decide +kernel, by decide +kernel⟩
theorem cvX4_wrongCells : CYV RX4 yX4_wrongCells cX4_wrongCells 4 (some .int) 2 := ⟨⟨wvX4_wrongCells, weX4_wrongCells⟩, wiX4, wbX4_wrongCells, by decide +kernel, by decide +kernel, by decide +kernel⟩
theorem cvX4_passesOn : CYV RX4 yX4_passesOn cX4_passesOn 3 (some .boolean) 2 := ⟨⟨wvX4_passesOn, weX4_passesOn⟩, wiX4, wbX4_passesOn, by decide +kernel, by decide +kernel, by decide +kernel⟩
theorem cvX4_isFlippedOn : CYV RX4 yX4_isFlippedOn cX4_isFlippedOn 3 (some .boolean) 2 := ⟨⟨wvX4_isFlippedOn, weX4_isFlippedOn⟩, wiX4, wbX4_isFlippedOn, by decide +kernel, by decide +kernel, by decide +kernel⟩
theorem cvX4_cellsAfter : CYV RX4 yX4_cellsAfter cX4_cellsAfter 4 (some .int) 2 := ⟨⟨wvX4_cellsAfter, weX4_cellsAfter⟩, wiX4, wbX4_cellsAfter, by decide +kernel, by decide +kernel, by decide +kernel⟩
theorem cvX4_cellsBehind : CYV RX4 yX4_cellsBehind cX4_cellsBehind 5 (some .int) 1 := ⟨⟨wvX4_cellsBehind, weX4_cellsBehind⟩, wiX4, wbX4_cellsBehind, by decide +kernel, by decide +kernel, by decide +kernel⟩
theorem cvX4_isFlippedBehind : CYV RX4 yX4_isFlippedBehind cX4_isFlippedBehind 3 (some .boolean) 2 := ⟨⟨wvX4_isFlippedBehind, weX4_isFlippedBehind⟩, wiX4, wbX4_isFlippedBehind, by decide +kernel, by decide +kernel, by decide +kernel⟩
theorem cvX4_flippingAhead : CYV RX4 yX4_flippingAhead cX4_flippingAhead 4 (some .int) 1 := ⟨⟨wvX4_flippingAhead, weX4_flippingAhead⟩, wiX4, wbX4_flippingAhead, by decide +kernel, by decide +kernel, by decide +kernel⟩
theorem cvX4_passingIn : CYV RX4 yX4_passingIn cX4_passingIn 6 (some .int) 1 := ⟨⟨wvX4_passingIn, weX4_passingIn⟩, wiX4, wbX4_passingIn, by decide +kernel, by decide +kernel, by decide +kernel⟩
theorem cvX4_passingAlone : CYV RX4 yX4_passingAlone cX4_passingAlone 3 (some .int) 0 := ⟨⟨wvX4_passingAlone, weX4_passingAlone⟩, wiX4, wbX4_passingAlone, by decide +kernel, by decide +kernel, by decide +kernel⟩
theorem cvX4_flippedIn : CYV RX4 yX4_flippedIn cX4_flippedIn 2 (some .int) 1 := ⟨⟨wvX4_flippedIn, weX4_flippedIn⟩, wiX4, wbX4_flippedIn, by decide +kernel, by decide +kernel, by decide +kernel⟩
theorem cvX4_lastToChange : CYV RX4 yX4_lastToChange cX4_lastToChange 8 (some .int) 2 := ⟨⟨wvX4_lastToChange, weX4_lastToChange⟩, wiX4, wbX4_lastToChange, by decide +kernel, by decide +kernel, by decide +kernel⟩
theorem cvX4_doesSoil : CYV RX4 yX4_doesSoil cX4_doesSoil 3 (some .boolean) 2 := ⟨⟨wvX4_doesSoil, weX4_doesSoil⟩, wiX4, wbX4_doesSoil, by decide +kernel, by decide +kernel, by decide +kernel⟩
theorem cvX4_soilingPairs : CYV RX4 yX4_soilingPairs cX4_soilingPairs 4 (some .int) 0 := ⟨⟨wvX4_soilingPairs, weX4_soilingPairs⟩, wiX4, wbX4_soilingPairs, by decide +kernel, by decide +kernel, by decide +kernel⟩
theorem cvX4_cleaners : CYV RX4 yX4_cleaners cX4_cleaners 6 (some .int) 2 := ⟨⟨wvX4_cleaners, weX4_cleaners⟩, wiX4, wbX4_cleaners, by decide +kernel, by decide +kernel, by decide +kernel⟩
theorem cvX4_copyFrom : CYV RX4 yX4_copyFrom cX4_copyFrom 2 none 1 := ⟨⟨wvX4_copyFrom, weX4_copyFrom⟩, wiX4, wbX4_copyFrom, by decide +kernel, by decide +kernel, by decide +kernel⟩
theorem ciX5_init : CYI yX5_init cX5_init 1 0 := ⟨wvX5_init, wiX5, wbX5_init, ⟨by decide +kernel, by decide +kernel, by decide +kernel⟩, rfl⟩
theorem cvX5_isFull : CYV RX5 yX5_isFull cX5_isFull 1 (some .boolean) 0 := ⟨⟨wvX5_isFull, weX5_isFull⟩, wiX5, wbX5_isFull, by decide +kernel, by decide +kernel, by decide +kernel⟩
theorem cvX5_append : CYV RX5 yX5_append cX5_append 2 (some .int) 1 := ⟨⟨wvX5_append, weX5_append⟩, wiX5, wbX5_append, by decide +kernel, by decide +kernel, by decide +kernel⟩
theorem cvX5_makeEmpty : CYV RX5 yX5_makeEmpty cX5_makeEmpty 2 (some .int) 0 := ⟨⟨wvX5_makeEmpty, weX5_makeEmpty⟩, wiX5, wbX5_makeEmpty, by decide +kernel, by decide +kernel, by decide +kernel⟩
theorem cvX5_nth : CYV RX5 yX5_nth cX5_nth 2 (some .int) 1 := ⟨⟨wvX5_nth, weX5_nth⟩, wiX5, wbX5_nth, by decide +kernel, by decide +kernel, by decide +kernel⟩
theorem ciX6_init : CYI yX6_init cX6_init 1 0 := ⟨wvX6_init, wiX6, wbX6_init, ⟨by decide +kernel, by decide +kernel, by decide +kernel⟩, rfl⟩
theorem cvX6_test : CYV RX6 yX6_test cX6_test 6 (some .int) 5 := ⟨⟨wvX6_test, weX6_test⟩, wiX6, wbX6_test, by decide +kernel, by decide +kernel, by decide +kernel⟩
theorem cvX6_cuts : CYV RX6 yX6_cuts cX6_cuts 1 (some .int) 0 := ⟨⟨wvX6_cuts, weX6_cuts⟩, wiX6, wbX6_cuts, by decide +kernel, by decide +kernel, by decide +kernel⟩
theorem cvX6_lays : CYV RX6 yX6_lays cX6_lays 2 (some .int) 1 := ⟨⟨wvX6_lays, weX6_lays⟩, wiX6, wbX6_lays, by decide +kernel, by decide +kernel, by decide +kernel⟩
theorem cvX6_wipes : CYV RX6 yX6_wipes cX6_wipes 1 (some .int) 0 := ⟨⟨wvX6_wipes, weX6_wipes⟩, wiX6, wbX6_wipes, by decide +kernel, by decide +kernel, by decide +kernel⟩
theorem cvX6_start : CYV RX6 yX6_start cX6_start 2 (some .int) 1 := ⟨⟨wvX6_start, weX6_start⟩, wiX6, wbX6_start, by decide +kernel, by decide +kernel, by decide +kernel⟩
theorem cvX6_mode : CYV RX6 yX6_mode cX6_mode 2 (some .int) 1 := ⟨⟨wvX6_mode, weX6_mode⟩, wiX6, wbX6_mode, by decide +kernel, by decide +kernel, by decide +kernel⟩
theorem cvX6_shuffles : CYV RX6 yX6_shuffles cX6_shuffles 2 (some .int) 1 := ⟨⟨wvX6_shuffles, weX6_shuffles⟩, wiX6, wbX6_shuffles, by decide +kernel, by decide +kernel, by decide +kernel⟩
theorem cvX6_trims : CYV RX6 yX6_trims cX6_trims 2 (some .int) 1 := ⟨⟨wvX6_trims, weX6_trims⟩, wiX6, wbX6_trims, by decide +kernel, by decide +kernel, by decide +kernel⟩
theorem cvX6_of : CYV RX6 yX6_of cX6_of 3 (some .int) 2 := ⟨⟨wvX6_of, weX6_of⟩, wiX6, wbX6_of, by decide +kernel, by decide +kernel, by decide +kernel⟩
theorem cvX6_soils : CYV RX6 yX6_soils cX6_soils 3 (some .int) 2 := ⟨⟨wvX6_soils, weX6_soils⟩, wiX6, wbX6_soils, by decide +kernel, by decide +kernel, by decide +kernel⟩
theorem cvX6_cleans : CYV RX6 yX6_cleans cX6_cleans 3 (some .int) 2 := ⟨⟨wvX6_cleans, weX6_cleans⟩, wiX6, wbX6_cleans, by decide +kernel, by decide +kernel, by decide +kernel⟩
theorem cvX6_flips : CYV RX6 yX6_flips cX6_flips 2 (some .int) 1 := ⟨⟨wvX6_flips, weX6_flips⟩, wiX6, wbX6_flips, by decide +kernel, by decide +kernel, by decide +kernel⟩
theorem cvX6_seed : CYV RX6 yX6_seed cX6_seed 4 (some .int) 2 := ⟨⟨wvX6_seed, weX6_seed⟩, wiX6, wbX6_seed, by decide +kernel, by decide +kernel, by decide +kernel⟩
theorem cvX6_at : CYV RX6 yX6_at cX6_at 2 (some .int) 1 := ⟨⟨wvX6_at, weX6_at⟩, wiX6, wbX6_at, by decide +kernel, by decide +kernel, by decide +kernel⟩
theorem cvX6_inRow : CYV RX6 yX6_inRow cX6_inRow 5 (some .int) 2 := ⟨⟨wvX6_inRow, weX6_inRow⟩, wiX6, wbX6_inRow, by decide +kernel, by decide +kernel, by decide +kernel⟩
theorem cvX6_who : CYV RX6 yX6_who cX6_who 4 (some .int) 2 := ⟨⟨wvX6_who, weX6_who⟩, wiX6, wbX6_who, by decide +kernel, by decide +kernel, by decide +kernel⟩
theorem cvX6_left : CYV RX6 yX6_left cX6_left 4 (some .int) 2 := ⟨⟨wvX6_left, weX6_left⟩, wiX6, wbX6_left, by decide +kernel, by decide +kernel, by decide +kernel⟩
theorem cvX6_count : CYV RX6 yX6_count cX6_count 2 (some .int) 1 := ⟨⟨wvX6_count, weX6_count⟩, wiX6, wbX6_count, by decide +kernel, by decide +kernel, by decide +kernel⟩
theorem cvX6_type : CYV RX6 yX6_type cX6_type 2 (some .int) 1 := ⟨⟨wvX6_type, weX6_type⟩, wiX6, wbX6_type, by decide +kernel, by decide +kernel, by decide +kernel⟩
theorem cvX6_clear : CYV RX6 yX6_clear cX6_clear 1 (some .int) 0 := ⟨⟨wvX6_clear, weX6_clear⟩, wiX6, wbX6_clear, by decide +kernel, by decide +kernel, by decide +kernel⟩
theorem cvX6_does : CYV RX6 yX6_does cX6_does 3 (some .int) 0 := ⟨⟨wvX6_does, weX6_does⟩, wiX6, wbX6_does, by decide +kernel, by decide +kernel, by decide +kernel⟩
theorem cvX6_back : CYV RX6 yX6_back cX6_back 1 (some .int) 0 := ⟨⟨wvX6_back, weX6_back⟩, wiX6, wbX6_back, by decide +kernel, by decide +kernel, by decide +kernel⟩
theorem cvX6_told : CYV RX6 yX6_told cX6_told 2 (some .int) 1 := ⟨⟨wvX6_told, weX6_told⟩, wiX6, wbX6_told, by decide +kernel, by decide +kernel, by decide +kernel⟩
theorem cvX6_digest : CYV RX6 yX6_digest cX6_digest 6 (some .long) 0 := ⟨⟨wvX6_digest, weX6_digest⟩, wiX6, wbX6_digest, by decide +kernel, by decide +kernel, by decide +kernel⟩
theorem cvX6_refused : CYV RX6 yX6_refused cX6_refused 2 (some .int) 1 := ⟨⟨wvX6_refused, weX6_refused⟩, wiX6, wbX6_refused, by decide +kernel, by decide +kernel, by decide +kernel⟩
theorem cvX6_settled : CYV RX6 yX6_settled cX6_settled 2 (some .int) 1 := ⟨⟨wvX6_settled, weX6_settled⟩, wiX6, wbX6_settled, by decide +kernel, by decide +kernel, by decide +kernel⟩
theorem cvX6_carryOut : CYV RX6 yX6_carryOut cX6_carryOut 3 (some .int) 1 := ⟨⟨wvX6_carryOut, weX6_carryOut⟩, wiX6, wbX6_carryOut, by decide +kernel, by decide +kernel, by decide +kernel⟩
theorem cvX6_areTwoTests : CYV RX6 yX6_areTwoTests cX6_areTwoTests 3 (some .boolean) 2 := ⟨⟨wvX6_areTwoTests, weX6_areTwoTests⟩, wiX6, wbX6_areTwoTests, by decide +kernel, by decide +kernel, by decide +kernel⟩
theorem cvX6_flippedBySeed : CYV RX6 yX6_flippedBySeed cX6_flippedBySeed 2 (some .int) 1 := ⟨⟨wvX6_flippedBySeed, weX6_flippedBySeed⟩, wiX6, wbX6_flippedBySeed, by decide +kernel, by decide +kernel, by decide +kernel⟩
theorem csX6_isSeed : CYS yX6_isSeed cX6_isSeed 1 (some .boolean) 1 := ⟨wsX6_isSeed, wiX6, wbX6_isSeed, by decide +kernel, by decide +kernel, by decide +kernel⟩
theorem csX6_areCells : CYS yX6_areCells cX6_areCells 1 (some .boolean) 1 := ⟨wsX6_areCells, wiX6, wbX6_areCells, by decide +kernel, by decide +kernel, by decide +kernel⟩
theorem csX6_isIn : CYS yX6_isIn cX6_isIn 2 (some .boolean) 2 := ⟨wsX6_isIn, wiX6, wbX6_isIn, by decide +kernel, by decide +kernel, by decide +kernel⟩
theorem csX6_oneIf : CYS yX6_oneIf cX6_oneIf 1 (some .int) 1 := ⟨wsX6_oneIf, wiX6, wbX6_oneIf, by decide +kernel, by decide +kernel, by decide +kernel⟩
theorem ciX7_init : CYI yX7_init cX7_init 1 0 := ⟨wvX7_init, wiX7, wbX7_init, ⟨by decide +kernel, by decide +kernel, by decide +kernel⟩, rfl⟩
theorem csX7_in : CYS yX7_in cX7_in 3 (some .boolean) 3 := ⟨wsX7_in, wiX7, wbX7_in, by decide +kernel, by decide +kernel, by decide +kernel⟩
theorem csX7_has : CYS yX7_has cX7_has 2 (some .boolean) 2 := ⟨wsX7_has, wiX7, wbX7_has, by decide +kernel, by decide +kernel, by decide +kernel⟩
theorem csX7_ones : CYS yX7_ones cX7_ones 3 (some .int) 1 := ⟨wsX7_ones, wiX7, wbX7_ones, by decide +kernel, by decide +kernel, by decide +kernel⟩
theorem cvX7_refuses : CYV RX7 yX7_refuses cX7_refuses 2 (some .int) 1 := ⟨⟨wvX7_refuses, weX7_refuses⟩, wiX7, wbX7_refuses, by decide +kernel, by decide +kernel, by decide +kernel⟩
theorem cvX7_laysAside : CYV RX7 yX7_laysAside cX7_laysAside 2 none 0 := ⟨⟨wvX7_laysAside, weX7_laysAside⟩, wiX7, wbX7_laysAside, by decide +kernel, by decide +kernel, by decide +kernel⟩
theorem cvX7_takesBack : CYV RX7 yX7_takesBack cX7_takesBack 2 none 0 := ⟨⟨wvX7_takesBack, weX7_takesBack⟩, wiX7, wbX7_takesBack, by decide +kernel, by decide +kernel, by decide +kernel⟩
theorem cvX7_remembers : CYV RX7 yX7_remembers cX7_remembers 2 none 0 := ⟨⟨wvX7_remembers, weX7_remembers⟩, wiX7, wbX7_remembers, by decide +kernel, by decide +kernel, by decide +kernel⟩
theorem cvX7_finished : CYV RX7 yX7_finished cX7_finished 2 (some .int) 1 := ⟨⟨wvX7_finished, weX7_finished⟩, wiX7, wbX7_finished, by decide +kernel, by decide +kernel, by decide +kernel⟩
theorem cvX7_back : CYV RX7 yX7_back cX7_back 2 (some .int) 0 := ⟨⟨wvX7_back, weX7_back⟩, wiX7, wbX7_back, by decide +kernel, by decide +kernel, by decide +kernel⟩
theorem cvX7_isTest : CYV RX7 yX7_isTest cX7_isTest 2 (some .boolean) 1 := ⟨⟨wvX7_isTest, weX7_isTest⟩, wiX7, wbX7_isTest, by decide +kernel, by decide +kernel, by decide +kernel⟩
theorem cvX7_ofTest : CYV RX7 yX7_ofTest cX7_ofTest 3 (some .int) 2 := ⟨⟨wvX7_ofTest, weX7_ofTest⟩, wiX7, wbX7_ofTest, by decide +kernel, by decide +kernel, by decide +kernel⟩
theorem cvX7_passes : CYV RX7 yX7_passes cX7_passes 3 (some .boolean) 2 := ⟨⟨wvX7_passes, weX7_passes⟩, wiX7, wbX7_passes, by decide +kernel, by decide +kernel, by decide +kernel⟩
theorem cvX7_behind : CYV RX7 yX7_behind cX7_behind 4 (some .int) 2 := ⟨⟨wvX7_behind, weX7_behind⟩, wiX7, wbX7_behind, by decide +kernel, by decide +kernel, by decide +kernel⟩
theorem cvX7_isAlone : CYV RX7 yX7_isAlone cX7_isAlone 2 (some .boolean) 1 := ⟨⟨wvX7_isAlone, weX7_isAlone⟩, wiX7, wbX7_isAlone, by decide +kernel, by decide +kernel, by decide +kernel⟩
theorem cvX7_behindTried : CYV RX7 yX7_behindTried cX7_behindTried 3 (some .int) 0 := ⟨⟨wvX7_behindTried, weX7_behindTried⟩, wiX7, wbX7_behindTried, by decide +kernel, by decide +kernel, by decide +kernel⟩
theorem cvX7_isFlipped : CYV RX7 yX7_isFlipped cX7_isFlipped 2 (some .boolean) 1 := ⟨⟨wvX7_isFlipped, weX7_isFlipped⟩, wiX7, wbX7_isFlipped, by decide +kernel, by decide +kernel, by decide +kernel⟩
theorem cvX7_soilsFor : CYV RX7 yX7_soilsFor cX7_soilsFor 3 (some .boolean) 2 := ⟨⟨wvX7_soilsFor, weX7_soilsFor⟩, wiX7, wbX7_soilsFor, by decide +kernel, by decide +kernel, by decide +kernel⟩
theorem cvX7_cleansFor : CYV RX7 yX7_cleansFor cX7_cleansFor 4 (some .boolean) 3 := ⟨⟨wvX7_cleansFor, weX7_cleansFor⟩, wiX7, wbX7_cleansFor, by decide +kernel, by decide +kernel, by decide +kernel⟩
theorem cvX7_placeOf : CYV RX7 yX7_placeOf cX7_placeOf 3 (some .int) 1 := ⟨⟨wvX7_placeOf, weX7_placeOf⟩, wiX7, wbX7_placeOf, by decide +kernel, by decide +kernel, by decide +kernel⟩
theorem cvX7_tries : CYV RX7 yX7_tries cX7_tries 4 none 2 := ⟨⟨wvX7_tries, weX7_tries⟩, wiX7, wbX7_tries, by decide +kernel, by decide +kernel, by decide +kernel⟩
theorem cvX7_flipsIn : CYV RX7 yX7_flipsIn cX7_flipsIn 3 (some .boolean) 2 := ⟨⟨wvX7_flipsIn, weX7_flipsIn⟩, wiX7, wbX7_flipsIn, by decide +kernel, by decide +kernel, by decide +kernel⟩
theorem cvX7_ahead : CYV RX7 yX7_ahead cX7_ahead 4 (some .int) 1 := ⟨⟨wvX7_ahead, weX7_ahead⟩, wiX7, wbX7_ahead, by decide +kernel, by decide +kernel, by decide +kernel⟩
theorem cvX7_leastOf : CYV RX7 yX7_leastOf cX7_leastOf 6 (some .int) 1 := ⟨⟨wvX7_leastOf, weX7_leastOf⟩, wiX7, wbX7_leastOf, by decide +kernel, by decide +kernel, by decide +kernel⟩
theorem cvX7_fewestOf : CYV RX7 yX7_fewestOf cX7_fewestOf 5 (some .int) 1 := ⟨⟨wvX7_fewestOf, weX7_fewestOf⟩, wiX7, wbX7_fewestOf, by decide +kernel, by decide +kernel, by decide +kernel⟩
theorem cvX7_halvesOf : CYV RX7 yX7_halvesOf cX7_halvesOf 8 (some .int) 1 := ⟨⟨wvX7_halvesOf, weX7_halvesOf⟩, wiX7, wbX7_halvesOf, by decide +kernel, by decide +kernel, by decide +kernel⟩
theorem cvX7_isFlippedInRow : CYV RX7 yX7_isFlippedInRow cX7_isFlippedInRow 3 (some .boolean) 1 := ⟨⟨wvX7_isFlippedInRow, weX7_isFlippedInRow⟩, wiX7, wbX7_isFlippedInRow, by decide +kernel, by decide +kernel, by decide +kernel⟩
theorem cvX7_putTest : CYV RX7 yX7_putTest cX7_putTest 8 (some .int) 5 := ⟨⟨wvX7_putTest, weX7_putTest⟩, wiX7, wbX7_putTest, by decide +kernel, by decide +kernel, by decide +kernel⟩
theorem cvX7_takesOut : CYV RX7 yX7_takesOut cX7_takesOut 3 none 1 := ⟨⟨wvX7_takesOut, weX7_takesOut⟩, wiX7, wbX7_takesOut, by decide +kernel, by decide +kernel, by decide +kernel⟩
theorem cvX7_putCut : CYV RX7 yX7_putCut cX7_putCut 2 (some .int) 0 := ⟨⟨wvX7_putCut, weX7_putCut⟩, wiX7, wbX7_putCut, by decide +kernel, by decide +kernel, by decide +kernel⟩
theorem cvX7_putLaid : CYV RX7 yX7_putLaid cX7_putLaid 2 (some .int) 1 := ⟨⟨wvX7_putLaid, weX7_putLaid⟩, wiX7, wbX7_putLaid, by decide +kernel, by decide +kernel, by decide +kernel⟩
theorem cvX7_putWiped : CYV RX7 yX7_putWiped cX7_putWiped 2 (some .int) 0 := ⟨⟨wvX7_putWiped, weX7_putWiped⟩, wiX7, wbX7_putWiped, by decide +kernel, by decide +kernel, by decide +kernel⟩
theorem cvX7_change : CYV RX7 yX7_change cX7_change 5 (some .int) 3 := ⟨⟨wvX7_change, weX7_change⟩, wiX7, wbX7_change, by decide +kernel, by decide +kernel, by decide +kernel⟩
theorem cvX7_laysShuffled : CYV RX7 yX7_laysShuffled cX7_laysShuffled 7 none 1 := ⟨⟨wvX7_laysShuffled, weX7_laysShuffled⟩, wiX7, wbX7_laysShuffled, by decide +kernel, by decide +kernel, by decide +kernel⟩
theorem cvX7_putShuffled : CYV RX7 yX7_putShuffled cX7_putShuffled 3 (some .int) 1 := ⟨⟨wvX7_putShuffled, weX7_putShuffled⟩, wiX7, wbX7_putShuffled, by decide +kernel, by decide +kernel, by decide +kernel⟩
theorem cvX7_putTrimmed : CYV RX7 yX7_putTrimmed cX7_putTrimmed 6 (some .int) 1 := ⟨⟨wvX7_putTrimmed, weX7_putTrimmed⟩, wiX7, wbX7_putTrimmed, by decide +kernel, by decide +kernel, by decide +kernel⟩
theorem cvX7_test : CYV RX7 yX7_test cX7_test 6 (some .int) 5 := ⟨⟨wvX7_test, weX7_test⟩, wiX7, wbX7_test, by decide +kernel, by decide +kernel, by decide +kernel⟩
theorem cvX7_cuts : CYV RX7 yX7_cuts cX7_cuts 1 (some .int) 0 := ⟨⟨wvX7_cuts, weX7_cuts⟩, wiX7, wbX7_cuts, by decide +kernel, by decide +kernel, by decide +kernel⟩
theorem cvX7_lays : CYV RX7 yX7_lays cX7_lays 2 (some .int) 1 := ⟨⟨wvX7_lays, weX7_lays⟩, wiX7, wbX7_lays, by decide +kernel, by decide +kernel, by decide +kernel⟩
theorem cvX7_wipes : CYV RX7 yX7_wipes cX7_wipes 1 (some .int) 0 := ⟨⟨wvX7_wipes, weX7_wipes⟩, wiX7, wbX7_wipes, by decide +kernel, by decide +kernel, by decide +kernel⟩
theorem cvX7_start : CYV RX7 yX7_start cX7_start 2 (some .int) 1 := ⟨⟨wvX7_start, weX7_start⟩, wiX7, wbX7_start, by decide +kernel, by decide +kernel, by decide +kernel⟩
theorem cvX7_mode : CYV RX7 yX7_mode cX7_mode 2 (some .int) 1 := ⟨⟨wvX7_mode, weX7_mode⟩, wiX7, wbX7_mode, by decide +kernel, by decide +kernel, by decide +kernel⟩
theorem cvX7_shuffles : CYV RX7 yX7_shuffles cX7_shuffles 2 (some .int) 1 := ⟨⟨wvX7_shuffles, weX7_shuffles⟩, wiX7, wbX7_shuffles, by decide +kernel, by decide +kernel, by decide +kernel⟩
theorem cvX7_trims : CYV RX7 yX7_trims cX7_trims 2 (some .int) 1 := ⟨⟨wvX7_trims, weX7_trims⟩, wiX7, wbX7_trims, by decide +kernel, by decide +kernel, by decide +kernel⟩
theorem cvX7_testTold : CYV RX7 yX7_testTold cX7_testTold 3 (some .int) 2 := ⟨⟨wvX7_testTold, weX7_testTold⟩, wiX7, wbX7_testTold, by decide +kernel, by decide +kernel, by decide +kernel⟩
theorem cvX7_of : CYV RX7 yX7_of cX7_of 3 (some .int) 2 := ⟨⟨wvX7_of, weX7_of⟩, wiX7, wbX7_of, by decide +kernel, by decide +kernel, by decide +kernel⟩
theorem cvX7_areTwo : CYV RX7 yX7_areTwo cX7_areTwo 3 (some .boolean) 2 := ⟨⟨wvX7_areTwo, weX7_areTwo⟩, wiX7, wbX7_areTwo, by decide +kernel, by decide +kernel, by decide +kernel⟩
theorem cvX7_soils : CYV RX7 yX7_soils cX7_soils 3 (some .int) 2 := ⟨⟨wvX7_soils, weX7_soils⟩, wiX7, wbX7_soils, by decide +kernel, by decide +kernel, by decide +kernel⟩
theorem cvX7_cleans : CYV RX7 yX7_cleans cX7_cleans 5 (some .int) 2 := ⟨⟨wvX7_cleans, weX7_cleans⟩, wiX7, wbX7_cleans, by decide +kernel, by decide +kernel, by decide +kernel⟩
theorem cvX7_flipsBy : CYV RX7 yX7_flipsBy cX7_flipsBy 6 (some .int) 1 := ⟨⟨wvX7_flipsBy, weX7_flipsBy⟩, wiX7, wbX7_flipsBy, by decide +kernel, by decide +kernel, by decide +kernel⟩
theorem cvX7_flips : CYV RX7 yX7_flips cX7_flips 2 (some .int) 1 := ⟨⟨wvX7_flips, weX7_flips⟩, wiX7, wbX7_flips, by decide +kernel, by decide +kernel, by decide +kernel⟩
theorem cvX7_seed : CYV RX7 yX7_seed cX7_seed 4 (some .int) 2 := ⟨⟨wvX7_seed, weX7_seed⟩, wiX7, wbX7_seed, by decide +kernel, by decide +kernel, by decide +kernel⟩
theorem cvX7_at : CYV RX7 yX7_at cX7_at 2 (some .int) 1 := ⟨⟨wvX7_at, weX7_at⟩, wiX7, wbX7_at, by decide +kernel, by decide +kernel, by decide +kernel⟩
theorem cvX7_placeTold : CYV RX7 yX7_placeTold cX7_placeTold 5 (some .int) 2 := ⟨⟨wvX7_placeTold, weX7_placeTold⟩, wiX7, wbX7_placeTold, by decide +kernel, by decide +kernel, by decide +kernel⟩
theorem cvX7_inRow : CYV RX7 yX7_inRow cX7_inRow 4 (some .int) 2 := ⟨⟨wvX7_inRow, weX7_inRow⟩, wiX7, wbX7_inRow, by decide +kernel, by decide +kernel, by decide +kernel⟩
theorem cvX7_who : CYV RX7 yX7_who cX7_who 8 (some .int) 2 := ⟨⟨wvX7_who, weX7_who⟩, wiX7, wbX7_who, by decide +kernel, by decide +kernel, by decide +kernel⟩
theorem cvX7_left : CYV RX7 yX7_left cX7_left 4 (some .int) 2 := ⟨⟨wvX7_left, weX7_left⟩, wiX7, wbX7_left, by decide +kernel, by decide +kernel, by decide +kernel⟩
theorem cvX7_soilsAll : CYV RX7 yX7_soilsAll cX7_soilsAll 4 (some .int) 0 := ⟨⟨wvX7_soilsAll, weX7_soilsAll⟩, wiX7, wbX7_soilsAll, by decide +kernel, by decide +kernel, by decide +kernel⟩
theorem cvX7_countTold : CYV RX7 yX7_countTold cX7_countTold 5 (some .int) 1 := ⟨⟨wvX7_countTold, weX7_countTold⟩, wiX7, wbX7_countTold, by decide +kernel, by decide +kernel, by decide +kernel⟩
theorem cvX7_count : CYV RX7 yX7_count cX7_count 2 (some .int) 1 := ⟨⟨wvX7_count, weX7_count⟩, wiX7, wbX7_count, by decide +kernel, by decide +kernel, by decide +kernel⟩
theorem cvX7_type : CYV RX7 yX7_type cX7_type 2 (some .int) 1 := ⟨⟨wvX7_type, weX7_type⟩, wiX7, wbX7_type, by decide +kernel, by decide +kernel, by decide +kernel⟩
theorem cvX7_clear : CYV RX7 yX7_clear cX7_clear 2 (some .int) 0 := ⟨⟨wvX7_clear, weX7_clear⟩, wiX7, wbX7_clear, by decide +kernel, by decide +kernel, by decide +kernel⟩
theorem cvX7_isAt : CYV RX7 yX7_isAt cX7_isAt 3 (some .boolean) 2 := ⟨⟨wvX7_isAt, weX7_isAt⟩, wiX7, wbX7_isAt, by decide +kernel, by decide +kernel, by decide +kernel⟩
theorem cvX7_blanks : CYV RX7 yX7_blanks cX7_blanks 1 none 0 := ⟨⟨wvX7_blanks, weX7_blanks⟩, wiX7, wbX7_blanks, by decide +kernel, by decide +kernel, by decide +kernel⟩
theorem cvX7_fails : CYV RX7 yX7_fails cX7_fails 1 (some .boolean) 0 := ⟨⟨wvX7_fails, weX7_fails⟩, wiX7, wbX7_fails, by decide +kernel, by decide +kernel, by decide +kernel⟩
theorem csX7_manyOf : CYS yX7_manyOf cX7_manyOf 1 (some .int) 1 := ⟨wsX7_manyOf, wiX7, wbX7_manyOf, by decide +kernel, by decide +kernel, by decide +kernel⟩
theorem cvX7_takesNumber : CYV RX7 yX7_takesNumber cX7_takesNumber 4 (some .boolean) 1 := ⟨⟨wvX7_takesNumber, weX7_takesNumber⟩, wiX7, wbX7_takesNumber, by decide +kernel, by decide +kernel, by decide +kernel⟩
theorem cvX7_takesOrder : CYV RX7 yX7_takesOrder cX7_takesOrder 3 (some .boolean) 0 := ⟨⟨wvX7_takesOrder, weX7_takesOrder⟩, wiX7, wbX7_takesOrder, by decide +kernel, by decide +kernel, by decide +kernel⟩
theorem cvX7_isRead : CYV RX7 yX7_isRead cX7_isRead 1 (some .boolean) 0 := ⟨⟨wvX7_isRead, weX7_isRead⟩, wiX7, wbX7_isRead, by decide +kernel, by decide +kernel, by decide +kernel⟩
theorem cvX7_doneOne : CYV RX7 yX7_doneOne cX7_doneOne 4 (some .int) 1 := ⟨⟨wvX7_doneOne, weX7_doneOne⟩, wiX7, wbX7_doneOne, by decide +kernel, by decide +kernel, by decide +kernel⟩
theorem cvX7_does : CYV RX7 yX7_does cX7_does 2 (some .int) 0 := ⟨⟨wvX7_does, weX7_does⟩, wiX7, wbX7_does, by decide +kernel, by decide +kernel, by decide +kernel⟩
theorem cvX7_toldAt : CYV RX7 yX7_toldAt cX7_toldAt 2 (some .int) 1 := ⟨⟨wvX7_toldAt, weX7_toldAt⟩, wiX7, wbX7_toldAt, by decide +kernel, by decide +kernel, by decide +kernel⟩
theorem cvX7_told : CYV RX7 yX7_told cX7_told 2 (some .int) 1 := ⟨⟨wvX7_told, weX7_told⟩, wiX7, wbX7_told, by decide +kernel, by decide +kernel, by decide +kernel⟩
theorem cvX7_mix : CYV RX7 yX7_mix cX7_mix 3 none 1 := ⟨⟨wvX7_mix, weX7_mix⟩, wiX7, wbX7_mix, by decide +kernel, by decide +kernel, by decide +kernel⟩
theorem cvX7_digest : CYV RX7 yX7_digest cX7_digest 3 (some .long) 0 := ⟨⟨wvX7_digest, weX7_digest⟩, wiX7, wbX7_digest, by decide +kernel, by decide +kernel, by decide +kernel⟩
theorem csJ6_bitCount_0f7a4 : CYS yJ6_bitCount_0f7a4 cJ6_bitCount_0f7a4 1 (some .int) 1 := ⟨wsJ6_bitCount_0f7a4, wiJ6, wbJ6_bitCount_0f7a4, by decide +kernel, by decide +kernel, by decide +kernel⟩
