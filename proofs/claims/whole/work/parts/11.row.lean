/-! Row -/
def f_X3_nth (o_size : Int32) (o_tests : Ar) (x1 : Int32) : Option (Int32) := (if x1 < (0 : Int32) then some ((-1 : Int32)) else (if o_size ≤ x1 then some ((-1 : Int32)) else (if (8 : Int32) ≤ x1 then some ((-1 : Int32)) else rd o_tests 8 x1 (fun rv4 => some (rv4)))))
set_option maxHeartbeats 4000000 in
set_option maxRecDepth 100000 in
theorem c_X3_nth (l : Launch) (D : va_G) (cI cS : ClassId) (a_o : Nat) (a_o_tests : Nat) (o_size : Int32) (o_tests : Ar) (x1 : Int32) (r0 : Int32) (h : f_X3_nth o_size o_tests x1 = some r0) : roM l D cI cS yX3_nth cX3_nth 2 (some .int) 0 0 [.ref a_o, .int x1] [(a_o, .inr (2, [.ref a_o_tests, .int (o_size)])), (a_o_tests, .inl (cI, 8, .inl (o_tests)))] (some (.int r0)) := by
  refine Met.ofW (cc := cX3_nth) (maxL := 2) (ret := (some .int)) (by decide) rfl ?_
  intro p e s m args below meth c s₁ B hml hv
  obtain ⟨rfl, hP, hK⟩ := hv
  have hx := B.exec
  have hb := B.bytes
  have hr := B.returns
  have hts : ∀ w ∈ GW, w.before _ s = true := fun w hw => atoms_spec (ws := mws yX3_nth cX3_nth 2 (some .int)) B.pre w (List.mem_cons_of_mem _ hw)
  have hown : s.vm.findClass RX3 = some m.cls := findClass_of_methodNamed B.named
  have hlocks := B.notSynchronized
  have hl := lv_entry ([.ref a_o, .int x1]) (n := 2) (Nat.le_of_ble_eq_true rfl)
  rw [lg_entry_eq]
  generalize (lg_sl ([.ref a_o, .int x1]) ++ List.replicate (2 - (lg_sl ([.ref a_o, .int x1])).length) Slot.unset).toArray = ls at hl ⊢
  have hl : lv_has ls 2 [(0, .ref a_o), (1, .int x1)] := hl
  have S : CallFix p m c cX3_nth 2 s _ GW RX3 := ⟨hx, hb, hml, hown, hts⟩
  unfold f_X3_nth at h
  refine lv_iload_n hx hb dX3_nth_0 rfl (lv_at hl 1 rfl) ?_
  refine lv_if_lt (tgt := 30) hx hb dX3_nth_1 (by decide) (fun c1 => ?_) (fun c1 => ?_)
  · have h := it_t c1 h
    refine lv_iconst (v := (-1 : Int32)) hx hb dX3_nth_30 (by decide) ?_
    exact W.iret hx hb hr (fun t ht _ => ⟨congrArg (fun z => Outcome.returned (some (Value.int z))) (Option.some.inj h), ht⟩) (fun q hq => by cases hq) dX3_nth_31
  · have h := it_f c1 h
    refine lv_iload_n hx hb dX3_nth_4 rfl (lv_at hl 1 rfl) ?_
    refine lv_aload_n hx hb dX3_nth_5 rfl (lv_at hl 0 rfl) ?_
    refine gfX3_1 hx hb hts hown hK hP 0 rfl wfX3_15 dX3_nth_6 ?_
    refine lv_icmp_ge (tgt := 30) hx hb dX3_nth_9 (by decide) (fun c2 => ?_) (fun c2 => ?_)
    · have h := it_t c2 h
      refine lv_iconst (v := (-1 : Int32)) hx hb dX3_nth_30 (by decide) ?_
      exact W.iret hx hb hr (fun t ht _ => ⟨congrArg (fun z => Outcome.returned (some (Value.int z))) (Option.some.inj h), ht⟩) (fun q hq => by cases hq) dX3_nth_31
    · have h := it_f c2 h
      refine lv_iload_n hx hb dX3_nth_12 rfl (lv_at hl 1 rfl) ?_
      refine lv_aload_n hx hb dX3_nth_13 rfl (lv_at hl 0 rfl) ?_
      refine gfX3_0 hx hb hts hown hK hP 0 rfl wfX3_9 dX3_nth_14 ?_
      refine al_ (w := (8 : Int32)) hx hb hK hP 1 rfl rfl dX3_nth_17 ?_
      refine lv_icmp_ge (tgt := 30) hx hb dX3_nth_18 (by decide) (fun c3 => ?_) (fun c3 => ?_)
      · have h := it_t c3 h
        refine lv_iconst (v := (-1 : Int32)) hx hb dX3_nth_30 (by decide) ?_
        exact W.iret hx hb hr (fun t ht _ => ⟨congrArg (fun z => Outcome.returned (some (Value.int z))) (Option.some.inj h), ht⟩) (fun q hq => by cases hq) dX3_nth_31
      · have h := it_f c3 h
        refine lv_aload_n hx hb dX3_nth_21 rfl (lv_at hl 0 rfl) ?_
        refine gfX3_0 hx hb hts hown hK hP 0 rfl wfX3_9 dX3_nth_22 ?_
        refine lv_iload_n hx hb dX3_nth_25 rfl (lv_at hl 1 rfl) ?_
        obtain ⟨hi5, h⟩ := rd_use h
        refine ia_ hx hb hK hP 1 rfl hi5 dX3_nth_26 ?_
        refine lv_goto (tgt := 31) hx hb dX3_nth_27 (by decide) ?_
        exact W.iret hx hb hr (fun t ht _ => ⟨congrArg (fun z => Outcome.returned (some (Value.int z))) (Option.some.inj h), ht⟩) (fun q hq => by cases hq) dX3_nth_31
def b_X3_placeOf_2 (o_size : Int32) (o_tests : Ar) (x1 : Int32) : Nat → Int32 → Option (Int32)
  | 0, _ => none
  | n + 1, v2 => (if o_size ≤ v2 then some ((-1 : Int32)) else bd1 (f_X3_nth o_size o_tests v2) (fun r2 => (if r2 = x1 then some (v2) else nm (v2 + (1 : Int32)) (fun y5 => b_X3_placeOf_2 o_size o_tests x1 n y5))))
def f_X3_placeOf (o_size : Int32) (o_tests : Ar) (x1 : Int32) : Option (Int32) := b_X3_placeOf_2 o_size o_tests x1 FU (0 : Int32)
set_option maxHeartbeats 4000000 in
set_option maxRecDepth 100000 in
theorem c_X3_placeOf (l : Launch) (D : va_G) (cI cS : ClassId) (a_o : Nat) (a_o_tests : Nat) (o_size : Int32) (o_tests : Ar) (x1 : Int32) (r0 : Int32) (h : f_X3_placeOf o_size o_tests x1 = some r0) : roM l D cI cS yX3_placeOf cX3_placeOf 3 (some .int) 1 21 [.ref a_o, .int x1] [(a_o, .inr (2, [.ref a_o_tests, .int (o_size)])), (a_o_tests, .inl (cI, 8, .inl (o_tests)))] (some (.int r0)) := by
  refine Met.ofW (cc := cX3_placeOf) (maxL := 3) (ret := (some .int)) (by decide) rfl ?_
  intro p e s m args below meth c s₁ B hml hv
  obtain ⟨rfl, hP, hK⟩ := hv
  have hx := B.exec
  have hb := B.bytes
  have hr := B.returns
  have hts : ∀ w ∈ GW, w.before _ s = true := fun w hw => atoms_spec (ws := mws yX3_placeOf cX3_placeOf 3 (some .int)) B.pre w (List.mem_cons_of_mem _ hw)
  have hown : s.vm.findClass RX3 = some m.cls := findClass_of_methodNamed B.named
  have hlocks := B.notSynchronized
  have hl := lv_entry ([.ref a_o, .int x1]) (n := 3) (Nat.le_of_ble_eq_true rfl)
  rw [lg_entry_eq]
  generalize (lg_sl ([.ref a_o, .int x1]) ++ List.replicate (3 - (lg_sl ([.ref a_o, .int x1])).length) Slot.unset).toArray = ls at hl ⊢
  have hl : lv_has ls 3 [(0, .ref a_o), (1, .int x1)] := hl
  have S : CallFix p m c cX3_placeOf 3 s _ GW RX3 := ⟨hx, hb, hml, hown, hts⟩
  have L_2 : ∀ (n : Nat) (v2 : Int32), b_X3_placeOf_2 o_size o_tests x1 n v2 = some r0 → ∀ (ls : Array Slot), lv_has ls 3 [(0, .ref a_o), (1, .int x1), (2, .int v2)] → W p l e (headSpec (mws yX3_placeOf cX3_placeOf 3 (some .int)) { frames := 1, cells := 0, slots := 0, locals := 21 }).room s m [.ref a_o, .int x1].toArray below meth c s.heap [] 0 0 (MQ below (roQ (some (.int r0))) [.ref a_o, .int x1].toArray s 0 0 noF) (F0 m 2 ls []) := by
    intro n
    induction n with
    | zero =>
      intro v2 h
      exact nn_no h
    | succ n ih =>
      intro v2 h ls hl
      rw [b_X3_placeOf_2] at h
      refine lv_iload_n hx hb dX3_placeOf_2 rfl (lv_at hl 2 rfl) ?_
      refine lv_aload_n hx hb dX3_placeOf_3 rfl (lv_at hl 0 rfl) ?_
      refine gfX3_1 hx hb hts hown hK hP 0 rfl wfX3_15 dX3_placeOf_4 ?_
      refine lv_icmp_ge (tgt := 27) hx hb dX3_placeOf_7 (by decide) (fun c1 => ?_) (fun c1 => ?_)
      · have h := it_t c1 h
        refine lv_iconst (v := (-1 : Int32)) hx hb dX3_placeOf_27 (by decide) ?_
        exact W.iret hx hb hr (fun t ht _ => ⟨congrArg (fun z => Outcome.returned (some (Value.int z))) (Option.some.inj h), ht⟩) (fun q hq => by cases hq) dX3_placeOf_28
      · have h := it_f c1 h
        refine lv_aload_n hx hb dX3_placeOf_10 rfl (lv_at hl 0 rfl) ?_
        refine lv_iload_n hx hb dX3_placeOf_11 rfl (lv_at hl 2 rfl) ?_
        obtain ⟨r2, hc3, h⟩ := bd1_use h
        refine ro_V (As := [.int v2]) (rest := []) S (c_X3_nth l D cI cS a_o a_o_tests o_size o_tests v2 r2 hc3) (cwV1 hts cvX3_nth wmX3_19 rfl rfl ⟨(Nat.le_of_ble_eq_true rfl), (Nat.le_of_ble_eq_true rfl)⟩) hK hP [0, 1] rfl 0 rfl rfl rfl rfl hl.1 rfl (Nat.le_of_ble_eq_true rfl) dX3_placeOf_12 ⟨Nat.zero_le _, Nat.zero_le _⟩ rfl ?_
        refine lv_iload_n hx hb dX3_placeOf_15 rfl (lv_at hl 1 rfl) ?_
        refine lv_icmp_ne (tgt := 21) hx hb dX3_placeOf_16 (by decide) (fun c4 => ?_) (fun c4 => ?_)
        · have h := it_f c4 h
          obtain ⟨y5, ey5⟩ : ∃ z : Int32, z = v2 + (1 : Int32) := ⟨_, rfl⟩
          have h := nm_use h ey5
          refine lv_iinc (v := y5) (lv' := [(2, .int y5), (0, .ref a_o), (1, .int x1)]) hx hb dX3_placeOf_21 hl (k := 2) rfl (by rw [ey5]; rfl) (by decide) rfl (fun ls hl => ?_)
          refine lv_goto (tgt := 2) hx hb dX3_placeOf_24 (by decide) ?_
          exact ih _ h _ (lv_sub hl [1, 2, 0] rfl)
        · have h := it_t c4 h
          refine lv_iload_n hx hb dX3_placeOf_19 rfl (lv_at hl 2 rfl) ?_
          exact W.iret hx hb hr (fun t ht _ => ⟨congrArg (fun z => Outcome.returned (some (Value.int z))) (Option.some.inj h), ht⟩) (fun q hq => by cases hq) dX3_placeOf_20
  unfold f_X3_placeOf at h
  refine lv_iconst (v := (0 : Int32)) hx hb dX3_placeOf_0 (by decide) ?_
  refine lv_istore_n (lv' := [(2, .int (0 : Int32)), (0, .ref a_o), (1, .int x1)]) hx hb dX3_placeOf_1 rfl hl (by decide) rfl (fun ls hl => ?_)
  exact L_2 _ _ h _ (lv_sub hl [1, 2, 0] rfl)
def b_X3_setAhead_4 (o_size : Int32) (o_tests : Ar) (x1 : Int32) : Nat → Int32 → Int32 → Option (Int32)
  | 0, _, _ => none
  | n + 1, v2, v3 => (if x1 ≤ v3 then some (v2) else (if o_size ≤ v3 then some (v2) else bd1 (f_X3_nth o_size o_tests v3) (fun r3 => nm (v2 ||| ((1 : Int32) <<< (r3 &&& (31 : Int32)))) (fun y5 => nm (v3 + (1 : Int32)) (fun y6 => b_X3_setAhead_4 o_size o_tests x1 n y5 y6)))))
def f_X3_setAhead (o_size : Int32) (o_tests : Ar) (x1 : Int32) : Option (Int32) := b_X3_setAhead_4 o_size o_tests x1 FU (0 : Int32) (0 : Int32)
set_option maxHeartbeats 4000000 in
set_option maxRecDepth 100000 in
theorem c_X3_setAhead (l : Launch) (D : va_G) (cI cS : ClassId) (a_o : Nat) (a_o_tests : Nat) (o_size : Int32) (o_tests : Ar) (x1 : Int32) (r0 : Int32) (h : f_X3_setAhead o_size o_tests x1 = some r0) : roM l D cI cS yX3_setAhead cX3_setAhead 4 (some .int) 1 21 [.ref a_o, .int x1] [(a_o, .inr (2, [.ref a_o_tests, .int (o_size)])), (a_o_tests, .inl (cI, 8, .inl (o_tests)))] (some (.int r0)) := by
  refine Met.ofW (cc := cX3_setAhead) (maxL := 4) (ret := (some .int)) (by decide) rfl ?_
  intro p e s m args below meth c s₁ B hml hv
  obtain ⟨rfl, hP, hK⟩ := hv
  have hx := B.exec
  have hb := B.bytes
  have hr := B.returns
  have hts : ∀ w ∈ GW, w.before _ s = true := fun w hw => atoms_spec (ws := mws yX3_setAhead cX3_setAhead 4 (some .int)) B.pre w (List.mem_cons_of_mem _ hw)
  have hown : s.vm.findClass RX3 = some m.cls := findClass_of_methodNamed B.named
  have hlocks := B.notSynchronized
  have hl := lv_entry ([.ref a_o, .int x1]) (n := 4) (Nat.le_of_ble_eq_true rfl)
  rw [lg_entry_eq]
  generalize (lg_sl ([.ref a_o, .int x1]) ++ List.replicate (4 - (lg_sl ([.ref a_o, .int x1])).length) Slot.unset).toArray = ls at hl ⊢
  have hl : lv_has ls 4 [(0, .ref a_o), (1, .int x1)] := hl
  have S : CallFix p m c cX3_setAhead 4 s _ GW RX3 := ⟨hx, hb, hml, hown, hts⟩
  have L_4 : ∀ (n : Nat) (v2 : Int32) (v3 : Int32), b_X3_setAhead_4 o_size o_tests x1 n v2 v3 = some r0 → ∀ (ls : Array Slot), lv_has ls 4 [(0, .ref a_o), (1, .int x1), (2, .int v2), (3, .int v3)] → W p l e (headSpec (mws yX3_setAhead cX3_setAhead 4 (some .int)) { frames := 1, cells := 0, slots := 0, locals := 21 }).room s m [.ref a_o, .int x1].toArray below meth c s.heap [] 0 0 (MQ below (roQ (some (.int r0))) [.ref a_o, .int x1].toArray s 0 0 noF) (F0 m 4 ls []) := by
    intro n
    induction n with
    | zero =>
      intro v2 v3 h
      exact nn_no h
    | succ n ih =>
      intro v2 v3 h ls hl
      rw [b_X3_setAhead_4] at h
      refine lv_iload_n hx hb dX3_setAhead_4 rfl (lv_at hl 3 rfl) ?_
      refine lv_iload_n hx hb dX3_setAhead_5 rfl (lv_at hl 1 rfl) ?_
      refine lv_icmp_ge (tgt := 33) hx hb dX3_setAhead_6 (by decide) (fun c1 => ?_) (fun c1 => ?_)
      · have h := it_t c1 h
        refine lv_iload_n hx hb dX3_setAhead_33 rfl (lv_at hl 2 rfl) ?_
        exact W.iret hx hb hr (fun t ht _ => ⟨congrArg (fun z => Outcome.returned (some (Value.int z))) (Option.some.inj h), ht⟩) (fun q hq => by cases hq) dX3_setAhead_34
      · have h := it_f c1 h
        refine lv_iload_n hx hb dX3_setAhead_9 rfl (lv_at hl 3 rfl) ?_
        refine lv_aload_n hx hb dX3_setAhead_10 rfl (lv_at hl 0 rfl) ?_
        refine gfX3_1 hx hb hts hown hK hP 0 rfl wfX3_15 dX3_setAhead_11 ?_
        refine lv_icmp_ge (tgt := 33) hx hb dX3_setAhead_14 (by decide) (fun c2 => ?_) (fun c2 => ?_)
        · have h := it_t c2 h
          refine lv_iload_n hx hb dX3_setAhead_33 rfl (lv_at hl 2 rfl) ?_
          exact W.iret hx hb hr (fun t ht _ => ⟨congrArg (fun z => Outcome.returned (some (Value.int z))) (Option.some.inj h), ht⟩) (fun q hq => by cases hq) dX3_setAhead_34
        · have h := it_f c2 h
          refine lv_iload_n hx hb dX3_setAhead_17 rfl (lv_at hl 2 rfl) ?_
          refine lv_iconst (v := (1 : Int32)) hx hb dX3_setAhead_18 (by decide) ?_
          refine lv_aload_n hx hb dX3_setAhead_19 rfl (lv_at hl 0 rfl) ?_
          refine lv_iload_n hx hb dX3_setAhead_20 rfl (lv_at hl 3 rfl) ?_
          obtain ⟨r3, hc4, h⟩ := bd1_use h
          refine ro_V (As := [.int v3]) (rest := [.int (1 : Int32), .int v2]) S (c_X3_nth l D cI cS a_o a_o_tests o_size o_tests v3 r3 hc4) (cwV1 hts cvX3_nth wmX3_19 rfl rfl ⟨(Nat.le_of_ble_eq_true rfl), (Nat.le_of_ble_eq_true rfl)⟩) hK hP [0, 1] rfl 0 rfl rfl rfl rfl hl.1 rfl (Nat.le_of_ble_eq_true rfl) dX3_setAhead_21 ⟨Nat.zero_le _, Nat.zero_le _⟩ rfl ?_
          refine lv_ishl hx hb dX3_setAhead_24 ?_
          refine lv_ior hx hb dX3_setAhead_25 ?_
          refine lv_topi (fun y5 ey5 => ?_)
          have h := nm_use h ey5
          refine lv_istore_n (lv' := [(2, .int y5), (0, .ref a_o), (1, .int x1), (3, .int v3)]) hx hb dX3_setAhead_26 rfl hl (by decide) rfl (fun ls hl => ?_)
          obtain ⟨y6, ey6⟩ : ∃ z : Int32, z = v3 + (1 : Int32) := ⟨_, rfl⟩
          have h := nm_use h ey6
          refine lv_iinc (v := y6) (lv' := [(3, .int y6), (2, .int y5), (0, .ref a_o), (1, .int x1)]) hx hb dX3_setAhead_27 hl (k := 3) rfl (by rw [ey6]; rfl) (by decide) rfl (fun ls hl => ?_)
          refine lv_goto (tgt := 4) hx hb dX3_setAhead_30 (by decide) ?_
          exact ih _ _ h _ (lv_sub hl [2, 3, 1, 0] rfl)
  unfold f_X3_setAhead at h
  refine lv_iconst (v := (0 : Int32)) hx hb dX3_setAhead_0 (by decide) ?_
  refine lv_istore_n (lv' := [(2, .int (0 : Int32)), (0, .ref a_o), (1, .int x1)]) hx hb dX3_setAhead_1 rfl hl (by decide) rfl (fun ls hl => ?_)
  refine lv_iconst (v := (0 : Int32)) hx hb dX3_setAhead_2 (by decide) ?_
  refine lv_istore_n (lv' := [(3, .int (0 : Int32)), (2, .int (0 : Int32)), (0, .ref a_o), (1, .int x1)]) hx hb dX3_setAhead_3 rfl hl (by decide) rfl (fun ls hl => ?_)
  exact L_4 _ _ _ h _ (lv_sub hl [2, 3, 1, 0] rfl)
def f_X3_append (o_size : Int32) (o_tests : Ar) (x1 : Int32) : Option (Int32 × Ar) := (if o_size < (0 : Int32) then some (o_size, o_tests) else (if (8 : Int32) ≤ o_size then some (o_size, o_tests) else wr o_tests 8 o_size x1 (fun fv3 => nm (o_size + (1 : Int32)) (fun y5 => some (y5, fv3)))))
set_option maxHeartbeats 4000000 in
set_option maxRecDepth 100000 in
theorem c_X3_append (l : Launch) (D : va_G) (cI cS : ClassId) (a_o : Nat) (a_o_tests : Nat) (o_size : Int32) (o_tests : Ar) (x1 : Int32) (o_size' : Int32) (o_tests' : Ar) (h : f_X3_append o_size o_tests x1 = some (o_size', o_tests')) : wrM l D cI cS yX3_append cX3_append 2 none 0 0 [.ref a_o, .int x1] [(a_o, .inr (2, [.ref a_o_tests, .int (o_size)])), (a_o_tests, .inl (cI, 8, .inl (o_tests)))] [(a_o, .inr (2, [.ref a_o_tests, .int (o_size')])), (a_o_tests, .inl (cI, 8, .inl (o_tests')))] none := by
  refine Met.ofW (cc := cX3_append) (maxL := 2) (ret := none) (by decide) rfl ?_
  intro p e s m args below meth c s₁ B hml hv
  obtain ⟨rfl, hP, hK, hD0⟩ := hv
  have hx := B.exec
  have hb := B.bytes
  have hr := B.returns
  have hts : ∀ w ∈ GW, w.before _ s = true := fun w hw => atoms_spec (ws := mws yX3_append cX3_append 2 none) B.pre w (List.mem_cons_of_mem _ hw)
  have hown : s.vm.findClass RX3 = some m.cls := findClass_of_methodNamed B.named
  have hlocks := B.notSynchronized
  have hD := inW_self hD0
  generalize hAe : inW [(a_o, .inr (2, [.ref a_o_tests, .int (o_size)])), (a_o_tests, .inl (cI, 8, .inl (o_tests)))] = A at hD ⊢
  have hS : va_S A s.heap s.heap [] := va_S.rf
  have hl := lv_entry ([.ref a_o, .int x1]) (n := 2) (Nat.le_of_ble_eq_true rfl)
  rw [lg_entry_eq]
  generalize (lg_sl ([.ref a_o, .int x1]) ++ List.replicate (2 - (lg_sl ([.ref a_o, .int x1])).length) Slot.unset).toArray = ls at hl ⊢
  have hl : lv_has ls 2 [(0, .ref a_o), (1, .int x1)] := hl
  have S : CallFix p m c cX3_append 2 s _ GW RX3 := ⟨hx, hb, hml, hown, hts⟩
  unfold f_X3_append at h
  refine lv_aload_n hx hb dX3_append_0 rfl (lv_at hl 0 rfl) ?_
  refine gfX3_1 hx hb hts hown hK hP 0 rfl wfX3_15 dX3_append_1 ?_
  refine lv_if_lt (tgt := 39) hx hb dX3_append_4 (by decide) (fun c1 => ?_) (fun c1 => ?_)
  · have h := it_t c1 h
    cases h
    exact W.vret hx hb hr (fun t ht _ => ⟨rfl, by rw [ht]; exact hP, hS.F ht⟩) hS.2.2 dX3_append_39
  · have h := it_f c1 h
    refine lv_aload_n hx hb dX3_append_7 rfl (lv_at hl 0 rfl) ?_
    refine gfX3_1 hx hb hts hown hK hP 0 rfl wfX3_15 dX3_append_8 ?_
    refine lv_aload_n hx hb dX3_append_11 rfl (lv_at hl 0 rfl) ?_
    refine gfX3_0 hx hb hts hown hK hP 0 rfl wfX3_9 dX3_append_12 ?_
    refine al_ (w := (8 : Int32)) hx hb hK hP 1 rfl rfl dX3_append_15 ?_
    refine lv_icmp_ge (tgt := 39) hx hb dX3_append_16 (by decide) (fun c2 => ?_) (fun c2 => ?_)
    · have h := it_t c2 h
      cases h
      exact W.vret hx hb hr (fun t ht _ => ⟨rfl, by rw [ht]; exact hP, hS.F ht⟩) hS.2.2 dX3_append_39
    · have h := it_f c2 h
      refine lv_aload_n hx hb dX3_append_19 rfl (lv_at hl 0 rfl) ?_
      refine gfX3_0 hx hb hts hown hK hP 0 rfl wfX3_9 dX3_append_20 ?_
      refine lv_aload_n hx hb dX3_append_23 rfl (lv_at hl 0 rfl) ?_
      refine gfX3_1 hx hb hts hown hK hP 0 rfl wfX3_15 dX3_append_24 ?_
      refine lv_iload_n hx hb dX3_append_27 rfl (lv_at hl 1 rfl) ?_
      obtain ⟨hi4, h⟩ := wr_use h
      refine is_ (ws' := [(a_o, .inr (2, [.ref a_o_tests, .int (o_size)])), (a_o_tests, .inl (cI, 8, .inl ((upd o_tests o_size.toNatClampNeg x1))))]) hx hb hK hP hD hS 1 rfl rfl hi4 dX3_append_28 (fun H locs hP hD hS => ?_)
      refine lv_aload_n hx hb dX3_append_29 rfl (lv_at hl 0 rfl) ?_
      refine lv_dup hx hb dX3_append_30 rfl ?_
      refine gfX3_1 hx hb hts hown hK hP 0 rfl wfX3_15 dX3_append_31 ?_
      refine lv_iconst (v := (1 : Int32)) hx hb dX3_append_34 (by decide) ?_
      refine lv_iadd hx hb dX3_append_35 ?_
      refine lv_topi (fun y5 ey5 => ?_)
      have h := nm_use h ey5
      refine pfX3_1 (ws' := [(a_o, .inr (2, [.ref a_o_tests, .int (y5)])), (a_o_tests, .inl (cI, 8, .inl ((upd o_tests o_size.toNatClampNeg x1))))]) hx hb hts hown hK hP hD hS 0 rfl rfl wfX3_15 dX3_append_36 (fun H locs hP hD hS => ?_)
      cases h
      exact W.vret hx hb hr (fun t ht _ => ⟨rfl, by rw [ht]; exact hP, hS.F ht⟩) hS.2.2 dX3_append_39
def f_X3_makeEmpty (o_size : Int32) : Option (Int32) := some ((0 : Int32))
set_option maxHeartbeats 4000000 in
set_option maxRecDepth 100000 in
theorem c_X3_makeEmpty (l : Launch) (D : va_G) (cI cS : ClassId) (a_o : Nat) (a_o_tests : Nat) (o_size : Int32) (o_size' : Int32) (h : f_X3_makeEmpty o_size = some o_size') : wrM l D cI cS yX3_makeEmpty cX3_makeEmpty 1 none 0 0 [.ref a_o] [(a_o, .inr (2, [.ref a_o_tests, .int (o_size)]))] [(a_o, .inr (2, [.ref a_o_tests, .int (o_size')]))] none := by
  refine Met.ofW (cc := cX3_makeEmpty) (maxL := 1) (ret := none) (by decide) rfl ?_
  intro p e s m args below meth c s₁ B hml hv
  obtain ⟨rfl, hP, hK, hD0⟩ := hv
  have hx := B.exec
  have hb := B.bytes
  have hr := B.returns
  have hts : ∀ w ∈ GW, w.before _ s = true := fun w hw => atoms_spec (ws := mws yX3_makeEmpty cX3_makeEmpty 1 none) B.pre w (List.mem_cons_of_mem _ hw)
  have hown : s.vm.findClass RX3 = some m.cls := findClass_of_methodNamed B.named
  have hlocks := B.notSynchronized
  have hD := inW_self hD0
  generalize hAe : inW [(a_o, .inr (2, [.ref a_o_tests, .int (o_size)]))] = A at hD ⊢
  have hS : va_S A s.heap s.heap [] := va_S.rf
  have hl := lv_entry ([.ref a_o]) (n := 1) (Nat.le_of_ble_eq_true rfl)
  rw [lg_entry_eq]
  generalize (lg_sl ([.ref a_o]) ++ List.replicate (1 - (lg_sl ([.ref a_o])).length) Slot.unset).toArray = ls at hl ⊢
  have hl : lv_has ls 1 [(0, .ref a_o)] := hl
  have S : CallFix p m c cX3_makeEmpty 1 s _ GW RX3 := ⟨hx, hb, hml, hown, hts⟩
  unfold f_X3_makeEmpty at h
  refine lv_aload_n hx hb dX3_makeEmpty_0 rfl (lv_at hl 0 rfl) ?_
  refine lv_iconst (v := (0 : Int32)) hx hb dX3_makeEmpty_1 (by decide) ?_
  refine pfX3_1 (ws' := [(a_o, .inr (2, [.ref a_o_tests, .int ((0 : Int32))]))]) hx hb hts hown hK hP hD hS 0 rfl rfl wfX3_15 dX3_makeEmpty_2 (fun H locs hP hD hS => ?_)
  cases h
  exact W.vret hx hb hr (fun t ht _ => ⟨rfl, by rw [ht]; exact hP, hS.F ht⟩) hS.2.2 dX3_makeEmpty_5
def b_X3_takeOut_12 (x1 : Int32) : Nat → Int32 → Int32 → Int32 → Ar → Option (Int32 × Ar)
  | 0, _, _, _, _ => none
  | n + 1, v2, v3, o_size, o_tests => (if v2 ≤ v3 then some (o_size, o_tests) else (if (8 : Int32) ≤ v3 then some (o_size, o_tests) else rd o_tests 8 v3 (fun rv3 => bd1 (f_X6_isIn rv3 x1) (fun r5 => (if (b2i r5) = (0 : Int32) then bd2 (f_X3_append o_size o_tests rv3) (fun w9 w10 => nm (v3 + (1 : Int32)) (fun y12 => b_X3_takeOut_12 x1 n v2 y12 w9 w10)) else nm (v3 + (1 : Int32)) (fun y8 => b_X3_takeOut_12 x1 n v2 y8 o_size o_tests))))))
def f_X3_takeOut (o_size : Int32) (o_tests : Ar) (x1 : Int32) : Option (Int32 × Ar) := b_X3_takeOut_12 x1 FU o_size (0 : Int32) (0 : Int32) o_tests
set_option maxHeartbeats 4000000 in
set_option maxRecDepth 100000 in
theorem c_X3_takeOut (l : Launch) (D : va_G) (cI cS : ClassId) (a_o : Nat) (a_o_tests : Nat) (o_size : Int32) (o_tests : Ar) (x1 : Int32) (o_size' : Int32) (o_tests' : Ar) (h : f_X3_takeOut o_size o_tests x1 = some (o_size', o_tests')) : wrM l D cI cS yX3_takeOut cX3_takeOut 5 none 1 21 [.ref a_o, .int x1] [(a_o, .inr (2, [.ref a_o_tests, .int (o_size)])), (a_o_tests, .inl (cI, 8, .inl (o_tests)))] [(a_o, .inr (2, [.ref a_o_tests, .int (o_size')])), (a_o_tests, .inl (cI, 8, .inl (o_tests')))] none := by
  refine Met.ofW (cc := cX3_takeOut) (maxL := 5) (ret := none) (by decide) rfl ?_
  intro p e s m args below meth c s₁ B hml hv
  obtain ⟨rfl, hP, hK, hD0⟩ := hv
  have hx := B.exec
  have hb := B.bytes
  have hr := B.returns
  have hts : ∀ w ∈ GW, w.before _ s = true := fun w hw => atoms_spec (ws := mws yX3_takeOut cX3_takeOut 5 none) B.pre w (List.mem_cons_of_mem _ hw)
  have hown : s.vm.findClass RX3 = some m.cls := findClass_of_methodNamed B.named
  have hlocks := B.notSynchronized
  have hD := inW_self hD0
  generalize hAe : inW [(a_o, .inr (2, [.ref a_o_tests, .int (o_size)])), (a_o_tests, .inl (cI, 8, .inl (o_tests)))] = A at hD ⊢
  have hS : va_S A s.heap s.heap [] := va_S.rf
  have hl := lv_entry ([.ref a_o, .int x1]) (n := 5) (Nat.le_of_ble_eq_true rfl)
  rw [lg_entry_eq]
  generalize (lg_sl ([.ref a_o, .int x1]) ++ List.replicate (5 - (lg_sl ([.ref a_o, .int x1])).length) Slot.unset).toArray = ls at hl ⊢
  have hl : lv_has ls 5 [(0, .ref a_o), (1, .int x1)] := hl
  have S : CallFix p m c cX3_takeOut 5 s _ GW RX3 := ⟨hx, hb, hml, hown, hts⟩
  have L_12 : ∀ (n : Nat) (v2 : Int32) (v3 : Int32) (o_size : Int32) (o_tests : Ar), b_X3_takeOut_12 x1 n v2 v3 o_size o_tests = some (o_size', o_tests') → ∀ (H : Heap) (locs : List Loc), va_P D vwCl [(a_o, .inr (2, [.ref a_o_tests, .int (o_size)])), (a_o_tests, .inl (cI, 8, .inl (o_tests)))] H → va_D A [(a_o, .inr (2, [.ref a_o_tests, .int (o_size)])), (a_o_tests, .inl (cI, 8, .inl (o_tests)))] → va_S A s.heap H locs → ∀ (ls : Array Slot), lv_has ls 5 [(0, .ref a_o), (1, .int x1), (2, .int v2), (3, .int v3)] → W p l e (headSpec (mws yX3_takeOut cX3_takeOut 5 none) { frames := 1, cells := 0, slots := 0, locals := 21 }).room s m [.ref a_o, .int x1].toArray below meth c H locs 0 0 (MQ below (wrQ D A [(a_o, .inr (2, [.ref a_o_tests, .int (o_size')])), (a_o_tests, .inl (cI, 8, .inl (o_tests')))] none) [.ref a_o, .int x1].toArray s 0 0 A) (F0 m 12 ls []) := by
    intro n
    induction n with
    | zero =>
      intro v2 v3 o_size o_tests h
      exact nn_no h
    | succ n ih =>
      intro v2 v3 o_size o_tests h H locs hP hD hS ls hl
      rw [b_X3_takeOut_12] at h
      refine lv_iload_n hx hb dX3_takeOut_12 rfl (lv_at hl 3 rfl) ?_
      refine lv_iload_n hx hb dX3_takeOut_13 rfl (lv_at hl 2 rfl) ?_
      refine lv_icmp_ge (tgt := 55) hx hb dX3_takeOut_14 (by decide) (fun c1 => ?_) (fun c1 => ?_)
      · have h := it_t c1 h
        cases h
        exact W.vret hx hb hr (fun t ht _ => ⟨rfl, by rw [ht]; exact hP, hS.F ht⟩) hS.2.2 dX3_takeOut_55
      · have h := it_f c1 h
        refine lv_iload_n hx hb dX3_takeOut_17 rfl (lv_at hl 3 rfl) ?_
        refine lv_aload_n hx hb dX3_takeOut_18 rfl (lv_at hl 0 rfl) ?_
        refine gfX3_0 hx hb hts hown hK hP 0 rfl wfX3_9 dX3_takeOut_19 ?_
        refine al_ (w := (8 : Int32)) hx hb hK hP 1 rfl rfl dX3_takeOut_22 ?_
        refine lv_icmp_ge (tgt := 55) hx hb dX3_takeOut_23 (by decide) (fun c2 => ?_) (fun c2 => ?_)
        · have h := it_t c2 h
          cases h
          exact W.vret hx hb hr (fun t ht _ => ⟨rfl, by rw [ht]; exact hP, hS.F ht⟩) hS.2.2 dX3_takeOut_55
        · have h := it_f c2 h
          refine lv_aload_n hx hb dX3_takeOut_26 rfl (lv_at hl 0 rfl) ?_
          refine gfX3_0 hx hb hts hown hK hP 0 rfl wfX3_9 dX3_takeOut_27 ?_
          refine lv_iload_n hx hb dX3_takeOut_30 rfl (lv_at hl 3 rfl) ?_
          obtain ⟨hi4, h⟩ := rd_use h
          refine ia_ hx hb hK hP 1 rfl hi4 dX3_takeOut_31 ?_
          refine lv_istore (lv' := [(4, .int (o_tests v3.toNatClampNeg)), (0, .ref a_o), (1, .int x1), (2, .int v2), (3, .int v3)]) hx hb dX3_takeOut_32 hl (by decide) rfl (fun ls hl => ?_)
          refine lv_iload hx hb dX3_takeOut_34 (lv_at hl 0 rfl) ?_
          refine lv_iload_n hx hb dX3_takeOut_36 rfl (lv_at hl 2 rfl) ?_
          obtain ⟨r5, hc6, h⟩ := bd1_use h
          refine ro_SN (As := [.int (o_tests v3.toNatClampNeg), .int x1]) (rest := []) S (c_X6_isIn l D cI cS (o_tests v3.toNatClampNeg) x1 r5 hc6) (cwSN1 hts hK.2.1 csX6_isIn wnX3_23 rfl rfl ⟨(Nat.le_of_ble_eq_true rfl), (Nat.le_of_ble_eq_true rfl)⟩) hK hP [] rfl rfl hl.1 rfl (Nat.le_of_ble_eq_true rfl) dX3_takeOut_37 ⟨Nat.zero_le _, Nat.zero_le _⟩ rfl ?_
          refine lv_if_ne (tgt := 49) hx hb dX3_takeOut_40 (by decide) (fun c7 => ?_) (fun c7 => ?_)
          · have h := it_f c7 h
            obtain ⟨y8, ey8⟩ : ∃ z : Int32, z = v3 + (1 : Int32) := ⟨_, rfl⟩
            have h := nm_use h ey8
            refine lv_iinc (v := y8) (lv' := [(3, .int y8), (4, .int (o_tests v3.toNatClampNeg)), (0, .ref a_o), (1, .int x1), (2, .int v2)]) hx hb dX3_takeOut_49 hl (k := 4) rfl (by rw [ey8]; rfl) (by decide) rfl (fun ls hl => ?_)
            refine lv_goto (tgt := 12) hx hb dX3_takeOut_52 (by decide) ?_
            exact ih _ _ _ _ h _ _ hP hD hS _ (lv_sub hl [2, 3, 4, 0] rfl)
          · have h := it_t c7 h
            refine lv_aload_n hx hb dX3_takeOut_43 rfl (lv_at hl 1 rfl) ?_
            refine lv_iload hx hb dX3_takeOut_44 (lv_at hl 0 rfl) ?_
            obtain ⟨w9, w10, hc11, h⟩ := bd2_use h
            refine wr_V (As := [.int (o_tests v3.toNatClampNeg)]) (rest := []) (ws' := [(a_o, .inr (2, [.ref a_o_tests, .int (w9)])), (a_o_tests, .inl (cI, 8, .inl (w10)))]) S (c_X3_append l D cI cS a_o a_o_tests o_size o_tests (o_tests v3.toNatClampNeg) w9 w10 hc11) (cwV1 hts cvX3_append wmX3_27 rfl rfl ⟨(Nat.le_of_ble_eq_true rfl), (Nat.le_of_ble_eq_true rfl)⟩) hK hP hD hS [0, 1] rfl rfl [(true, 0), (true, 1)] rfl rfl rfl 0 rfl rfl rfl rfl hl.1 rfl (Nat.le_of_ble_eq_true rfl) dX3_takeOut_46 ⟨Nat.zero_le _, Nat.zero_le _⟩ rfl (fun H locs hP hD hS => ?_)
            obtain ⟨y12, ey12⟩ : ∃ z : Int32, z = v3 + (1 : Int32) := ⟨_, rfl⟩
            have h := nm_use h ey12
            refine lv_iinc (v := y12) (lv' := [(3, .int y12), (4, .int (o_tests v3.toNatClampNeg)), (0, .ref a_o), (1, .int x1), (2, .int v2)]) hx hb dX3_takeOut_49 hl (k := 4) rfl (by rw [ey12]; rfl) (by decide) rfl (fun ls hl => ?_)
            refine lv_goto (tgt := 12) hx hb dX3_takeOut_52 (by decide) ?_
            exact ih _ _ _ _ h _ _ hP hD hS _ (lv_sub hl [2, 3, 4, 0] rfl)
  unfold f_X3_takeOut at h
  refine lv_aload_n hx hb dX3_takeOut_0 rfl (lv_at hl 0 rfl) ?_
  refine gfX3_1 hx hb hts hown hK hP 0 rfl wfX3_15 dX3_takeOut_1 ?_
  refine lv_istore_n (lv' := [(2, .int o_size), (0, .ref a_o), (1, .int x1)]) hx hb dX3_takeOut_4 rfl hl (by decide) rfl (fun ls hl => ?_)
  refine lv_aload_n hx hb dX3_takeOut_5 rfl (lv_at hl 1 rfl) ?_
  refine lv_iconst (v := (0 : Int32)) hx hb dX3_takeOut_6 (by decide) ?_
  refine pfX3_1 (ws' := [(a_o, .inr (2, [.ref a_o_tests, .int ((0 : Int32))])), (a_o_tests, .inl (cI, 8, .inl (o_tests)))]) hx hb hts hown hK hP hD hS 0 rfl rfl wfX3_15 dX3_takeOut_7 (fun H locs hP hD hS => ?_)
  refine lv_iconst (v := (0 : Int32)) hx hb dX3_takeOut_10 (by decide) ?_
  refine lv_istore_n (lv' := [(3, .int (0 : Int32)), (2, .int o_size), (0, .ref a_o), (1, .int x1)]) hx hb dX3_takeOut_11 rfl hl (by decide) rfl (fun ls hl => ?_)
  exact L_12 _ _ _ _ _ h _ _ hP hD hS _ (lv_sub hl [2, 3, 1, 0] rfl)
def f_X3_swap (o_tests : Ar) (x1 : Int32) (x2 : Int32) : Option (Ar) := (if x1 < (0 : Int32) then some (o_tests) else (if (8 : Int32) ≤ x1 then some (o_tests) else (if x2 < (0 : Int32) then some (o_tests) else (if (8 : Int32) ≤ x2 then some (o_tests) else rd o_tests 8 x1 (fun rv5 => rd o_tests 8 x2 (fun rv7 => wr o_tests 8 x1 rv7 (fun fv9 => wr fv9 8 x2 rv5 (fun fv11 => some (fv11)))))))))
set_option maxHeartbeats 4000000 in
set_option maxRecDepth 100000 in
theorem c_X3_swap (l : Launch) (D : va_G) (cI cS : ClassId) (a_o : Nat) (a_o_tests : Nat) (o_size : Int32) (o_tests : Ar) (x1 : Int32) (x2 : Int32) (o_tests' : Ar) (h : f_X3_swap o_tests x1 x2 = some o_tests') : wrM l D cI cS yX3_swap cX3_swap 4 none 0 0 [.ref a_o, .int x1, .int x2] [(a_o, .inr (2, [.ref a_o_tests, .int (o_size)])), (a_o_tests, .inl (cI, 8, .inl (o_tests)))] [(a_o, .inr (2, [.ref a_o_tests, .int (o_size)])), (a_o_tests, .inl (cI, 8, .inl (o_tests')))] none := by
  refine Met.ofW (cc := cX3_swap) (maxL := 4) (ret := none) (by decide) rfl ?_
  intro p e s m args below meth c s₁ B hml hv
  obtain ⟨rfl, hP, hK, hD0⟩ := hv
  have hx := B.exec
  have hb := B.bytes
  have hr := B.returns
  have hts : ∀ w ∈ GW, w.before _ s = true := fun w hw => atoms_spec (ws := mws yX3_swap cX3_swap 4 none) B.pre w (List.mem_cons_of_mem _ hw)
  have hown : s.vm.findClass RX3 = some m.cls := findClass_of_methodNamed B.named
  have hlocks := B.notSynchronized
  have hD := inW_self hD0
  generalize hAe : inW [(a_o, .inr (2, [.ref a_o_tests, .int (o_size)])), (a_o_tests, .inl (cI, 8, .inl (o_tests)))] = A at hD ⊢
  have hS : va_S A s.heap s.heap [] := va_S.rf
  have hl := lv_entry ([.ref a_o, .int x1, .int x2]) (n := 4) (Nat.le_of_ble_eq_true rfl)
  rw [lg_entry_eq]
  generalize (lg_sl ([.ref a_o, .int x1, .int x2]) ++ List.replicate (4 - (lg_sl ([.ref a_o, .int x1, .int x2])).length) Slot.unset).toArray = ls at hl ⊢
  have hl : lv_has ls 4 [(0, .ref a_o), (1, .int x1), (2, .int x2)] := hl
  have S : CallFix p m c cX3_swap 4 s _ GW RX3 := ⟨hx, hb, hml, hown, hts⟩
  unfold f_X3_swap at h
  refine lv_iload_n hx hb dX3_swap_0 rfl (lv_at hl 1 rfl) ?_
  refine lv_if_lt (tgt := 52) hx hb dX3_swap_1 (by decide) (fun c1 => ?_) (fun c1 => ?_)
  · have h := it_t c1 h
    cases h
    exact W.vret hx hb hr (fun t ht _ => ⟨rfl, by rw [ht]; exact hP, hS.F ht⟩) hS.2.2 dX3_swap_52
  · have h := it_f c1 h
    refine lv_iload_n hx hb dX3_swap_4 rfl (lv_at hl 1 rfl) ?_
    refine lv_aload_n hx hb dX3_swap_5 rfl (lv_at hl 0 rfl) ?_
    refine gfX3_0 hx hb hts hown hK hP 0 rfl wfX3_9 dX3_swap_6 ?_
    refine al_ (w := (8 : Int32)) hx hb hK hP 1 rfl rfl dX3_swap_9 ?_
    refine lv_icmp_ge (tgt := 52) hx hb dX3_swap_10 (by decide) (fun c2 => ?_) (fun c2 => ?_)
    · have h := it_t c2 h
      cases h
      exact W.vret hx hb hr (fun t ht _ => ⟨rfl, by rw [ht]; exact hP, hS.F ht⟩) hS.2.2 dX3_swap_52
    · have h := it_f c2 h
      refine lv_iload_n hx hb dX3_swap_13 rfl (lv_at hl 2 rfl) ?_
      refine lv_if_lt (tgt := 52) hx hb dX3_swap_14 (by decide) (fun c3 => ?_) (fun c3 => ?_)
      · have h := it_t c3 h
        cases h
        exact W.vret hx hb hr (fun t ht _ => ⟨rfl, by rw [ht]; exact hP, hS.F ht⟩) hS.2.2 dX3_swap_52
      · have h := it_f c3 h
        refine lv_iload_n hx hb dX3_swap_17 rfl (lv_at hl 2 rfl) ?_
        refine lv_aload_n hx hb dX3_swap_18 rfl (lv_at hl 0 rfl) ?_
        refine gfX3_0 hx hb hts hown hK hP 0 rfl wfX3_9 dX3_swap_19 ?_
        refine al_ (w := (8 : Int32)) hx hb hK hP 1 rfl rfl dX3_swap_22 ?_
        refine lv_icmp_ge (tgt := 52) hx hb dX3_swap_23 (by decide) (fun c4 => ?_) (fun c4 => ?_)
        · have h := it_t c4 h
          cases h
          exact W.vret hx hb hr (fun t ht _ => ⟨rfl, by rw [ht]; exact hP, hS.F ht⟩) hS.2.2 dX3_swap_52
        · have h := it_f c4 h
          refine lv_aload_n hx hb dX3_swap_26 rfl (lv_at hl 0 rfl) ?_
          refine gfX3_0 hx hb hts hown hK hP 0 rfl wfX3_9 dX3_swap_27 ?_
          refine lv_iload_n hx hb dX3_swap_30 rfl (lv_at hl 1 rfl) ?_
          obtain ⟨hi6, h⟩ := rd_use h
          refine ia_ hx hb hK hP 1 rfl hi6 dX3_swap_31 ?_
          refine lv_istore_n (lv' := [(3, .int (o_tests x1.toNatClampNeg)), (0, .ref a_o), (1, .int x1), (2, .int x2)]) hx hb dX3_swap_32 rfl hl (by decide) rfl (fun ls hl => ?_)
          refine lv_aload_n hx hb dX3_swap_33 rfl (lv_at hl 1 rfl) ?_
          refine gfX3_0 hx hb hts hown hK hP 0 rfl wfX3_9 dX3_swap_34 ?_
          refine lv_iload_n hx hb dX3_swap_37 rfl (lv_at hl 2 rfl) ?_
          refine lv_aload_n hx hb dX3_swap_38 rfl (lv_at hl 1 rfl) ?_
          refine gfX3_0 hx hb hts hown hK hP 0 rfl wfX3_9 dX3_swap_39 ?_
          refine lv_iload_n hx hb dX3_swap_42 rfl (lv_at hl 3 rfl) ?_
          obtain ⟨hi8, h⟩ := rd_use h
          refine ia_ hx hb hK hP 1 rfl hi8 dX3_swap_43 ?_
          obtain ⟨hi10, h⟩ := wr_use h
          refine is_ (ws' := [(a_o, .inr (2, [.ref a_o_tests, .int (o_size)])), (a_o_tests, .inl (cI, 8, .inl ((upd o_tests x1.toNatClampNeg (o_tests x2.toNatClampNeg)))))]) hx hb hK hP hD hS 1 rfl rfl hi10 dX3_swap_44 (fun H locs hP hD hS => ?_)
          refine lv_aload_n hx hb dX3_swap_45 rfl (lv_at hl 1 rfl) ?_
          refine gfX3_0 hx hb hts hown hK hP 0 rfl wfX3_9 dX3_swap_46 ?_
          refine lv_iload_n hx hb dX3_swap_49 rfl (lv_at hl 3 rfl) ?_
          refine lv_iload_n hx hb dX3_swap_50 rfl (lv_at hl 0 rfl) ?_
          obtain ⟨hi12, h⟩ := wr_use h
          refine is_ (ws' := [(a_o, .inr (2, [.ref a_o_tests, .int (o_size)])), (a_o_tests, .inl (cI, 8, .inl ((upd (upd o_tests x1.toNatClampNeg (o_tests x2.toNatClampNeg)) x2.toNatClampNeg (o_tests x1.toNatClampNeg)))))]) hx hb hK hP hD hS 1 rfl rfl hi12 dX3_swap_51 (fun H locs hP hD hS => ?_)
          cases h
          exact W.vret hx hb hr (fun t ht _ => ⟨rfl, by rw [ht]; exact hP, hS.F ht⟩) hS.2.2 dX3_swap_52
def b_X3_layShuffled_33 : Nat → Int64 → Int32 → Int32 → Ar → Option (Int32 × Ar)
  | 0, _, _, _, _ => none
  | n + 1, v3, v5, o_size, o_tests => (if v5 < (1 : Int32) then some (o_size, o_tests) else nm (((v3 * (1103515245 : Int64)) + (12345 : Int64)) - ((v3 * (1103515245 : Int64)) + (12345 : Int64)) / (2147483648 : Int64) * (2147483648 : Int64)) (fun y2 => dvl ((v5 + (1 : Int32)).toInt64) (bd1 (f_X3_swap o_tests v5 (((y2 / (65536 : Int64)) - (y2 / (65536 : Int64)) / ((v5 + (1 : Int32)).toInt64) * ((v5 + (1 : Int32)).toInt64)).toInt32)) (fun w4 => nm (v5 + (-1 : Int32)) (fun y6 => b_X3_layShuffled_33  n y2 y6 o_size w4)))))
def b_X3_layShuffled_6 (x1 : Int32) (x2 : Int32) : Nat → Int32 → Int32 → Ar → Option (Int32 × Ar)
  | 0, _, _, _ => none
  | n + 1, v3, o_size, o_tests => (if x1 ≤ v3 then nm (x2.toInt64) (fun y8 => nm (o_size - (1 : Int32)) (fun y9 => b_X3_layShuffled_33  FU y8 y9 o_size o_tests)) else bd2 (f_X3_append o_size o_tests v3) (fun w10 w11 => nm (v3 + (1 : Int32)) (fun y13 => b_X3_layShuffled_6 x1 x2 n y13 w10 w11)))
def f_X3_layShuffled (o_size : Int32) (o_tests : Ar) (x1 : Int32) (x2 : Int32) : Option (Int32 × Ar) := bd1 (f_X3_makeEmpty o_size) (fun w14 => b_X3_layShuffled_6 x1 x2 FU (0 : Int32) w14 o_tests)
set_option maxHeartbeats 4000000 in
set_option maxRecDepth 100000 in
theorem c_X3_layShuffled (l : Launch) (D : va_G) (cI cS : ClassId) (a_o : Nat) (a_o_tests : Nat) (o_size : Int32) (o_tests : Ar) (x1 : Int32) (x2 : Int32) (o_size' : Int32) (o_tests' : Ar) (h : f_X3_layShuffled o_size o_tests x1 x2 = some (o_size', o_tests')) : wrM l D cI cS yX3_layShuffled cX3_layShuffled 6 none 1 23 [.ref a_o, .int x1, .int x2] [(a_o, .inr (2, [.ref a_o_tests, .int (o_size)])), (a_o_tests, .inl (cI, 8, .inl (o_tests)))] [(a_o, .inr (2, [.ref a_o_tests, .int (o_size')])), (a_o_tests, .inl (cI, 8, .inl (o_tests')))] none := by
  refine Met.ofW (cc := cX3_layShuffled) (maxL := 6) (ret := none) (by decide) rfl ?_
  intro p e s m args below meth c s₁ B hml hv
  obtain ⟨rfl, hP, hK, hD0⟩ := hv
  have hx := B.exec
  have hb := B.bytes
  have hr := B.returns
  have hts : ∀ w ∈ GW, w.before _ s = true := fun w hw => atoms_spec (ws := mws yX3_layShuffled cX3_layShuffled 6 none) B.pre w (List.mem_cons_of_mem _ hw)
  have hown : s.vm.findClass RX3 = some m.cls := findClass_of_methodNamed B.named
  have hlocks := B.notSynchronized
  have hD := inW_self hD0
  generalize hAe : inW [(a_o, .inr (2, [.ref a_o_tests, .int (o_size)])), (a_o_tests, .inl (cI, 8, .inl (o_tests)))] = A at hD ⊢
  have hS : va_S A s.heap s.heap [] := va_S.rf
  have hl := lv_entry ([.ref a_o, .int x1, .int x2]) (n := 6) (Nat.le_of_ble_eq_true rfl)
  rw [lg_entry_eq]
  generalize (lg_sl ([.ref a_o, .int x1, .int x2]) ++ List.replicate (6 - (lg_sl ([.ref a_o, .int x1, .int x2])).length) Slot.unset).toArray = ls at hl ⊢
  have hl : lv_has ls 6 [(0, .ref a_o), (1, .int x1), (2, .int x2)] := hl
  have S : CallFix p m c cX3_layShuffled 6 s _ GW RX3 := ⟨hx, hb, hml, hown, hts⟩
  have L_33 : ∀ (n : Nat) (v3 : Int64) (v5 : Int32) (o_size : Int32) (o_tests : Ar), b_X3_layShuffled_33  n v3 v5 o_size o_tests = some (o_size', o_tests') → ∀ (H : Heap) (locs : List Loc), va_P D vwCl [(a_o, .inr (2, [.ref a_o_tests, .int (o_size)])), (a_o_tests, .inl (cI, 8, .inl (o_tests)))] H → va_D A [(a_o, .inr (2, [.ref a_o_tests, .int (o_size)])), (a_o_tests, .inl (cI, 8, .inl (o_tests)))] → va_S A s.heap H locs → ∀ (ls : Array Slot), lv_has ls 6 [(0, .ref a_o), (3, .long v3), (5, .int v5)] → W p l e (headSpec (mws yX3_layShuffled cX3_layShuffled 6 none) { frames := 1, cells := 0, slots := 0, locals := 23 }).room s m [.ref a_o, .int x1, .int x2].toArray below meth c H locs 0 0 (MQ below (wrQ D A [(a_o, .inr (2, [.ref a_o_tests, .int (o_size')])), (a_o_tests, .inl (cI, 8, .inl (o_tests')))] none) [.ref a_o, .int x1, .int x2].toArray s 0 0 A) (F0 m 33 ls []) := by
    intro n
    induction n with
    | zero =>
      intro v3 v5 o_size o_tests h
      exact nn_no h
    | succ n ih =>
      intro v3 v5 o_size o_tests h H locs hP hD hS ls hl
      rw [b_X3_layShuffled_33] at h
      refine lv_iload hx hb dX3_layShuffled_33 (lv_at hl 2 rfl) ?_
      refine lv_iconst (v := (1 : Int32)) hx hb dX3_layShuffled_35 (by decide) ?_
      refine lv_icmp_lt (tgt := 77) hx hb dX3_layShuffled_36 (by decide) (fun c1 => ?_) (fun c1 => ?_)
      · have h := it_t c1 h
        cases h
        exact W.vret hx hb hr (fun t ht _ => ⟨rfl, by rw [ht]; exact hP, hS.F ht⟩) hS.2.2 dX3_layShuffled_77
      · have h := it_f c1 h
        refine lv_lload_n hx hb dX3_layShuffled_39 rfl (lv_at hl 1 rfl) ?_
        refine lv_ldc2 (v := (1103515245 : Int64)) hx hb hown (hts _ wkX3_34) dX3_layShuffled_40 ?_
        refine lv_lmul hx hb dX3_layShuffled_43 ?_
        refine lv_ldc2 (v := (12345 : Int64)) hx hb hown (hts _ wkX3_36) dX3_layShuffled_44 ?_
        refine lv_ladd hx hb dX3_layShuffled_47 ?_
        refine lv_ldc2 (v := (2147483648 : Int64)) hx hb hown (hts _ wkX3_38) dX3_layShuffled_48 ?_
        refine lv_lrem hx hb dX3_layShuffled_51 (by decide) ?_
        refine lv_topl (fun y2 ey2 => ?_)
        have h := nm_use h ey2
        refine lv_lstore_n (lv' := [(3, .long y2), (0, .ref a_o), (5, .int v5)]) hx hb dX3_layShuffled_52 rfl hl (by decide) rfl (fun ls hl => ?_)
        refine lv_aload_n hx hb dX3_layShuffled_53 rfl (lv_at hl 1 rfl) ?_
        refine lv_iload hx hb dX3_layShuffled_54 (lv_at hl 2 rfl) ?_
        refine lv_lload_n hx hb dX3_layShuffled_56 rfl (lv_at hl 0 rfl) ?_
        refine lv_ldc2 (v := (65536 : Int64)) hx hb hown (hts _ wkX3_40) dX3_layShuffled_57 ?_
        refine lv_ldiv hx hb dX3_layShuffled_60 (by decide) ?_
        refine lv_iload hx hb dX3_layShuffled_61 (lv_at hl 2 rfl) ?_
        refine lv_iconst (v := (1 : Int32)) hx hb dX3_layShuffled_63 (by decide) ?_
        refine lv_iadd hx hb dX3_layShuffled_64 ?_
        refine lv_i2l (v := ((v5 + (1 : Int32)).toInt64)) hx hb dX3_layShuffled_65 rfl ?_
        obtain ⟨hz3, h⟩ := dvl_use h
        refine lv_lrem hx hb dX3_layShuffled_66 hz3 ?_
        refine lv_l2i (v := (((y2 / (65536 : Int64)) - (y2 / (65536 : Int64)) / ((v5 + (1 : Int32)).toInt64) * ((v5 + (1 : Int32)).toInt64)).toInt32)) hx hb dX3_layShuffled_67 rfl ?_
        obtain ⟨w4, hc5, h⟩ := bd1_use h
        refine wr_V (As := [.int v5, .int (((y2 / (65536 : Int64)) - (y2 / (65536 : Int64)) / ((v5 + (1 : Int32)).toInt64) * ((v5 + (1 : Int32)).toInt64)).toInt32)]) (rest := []) (ws' := [(a_o, .inr (2, [.ref a_o_tests, .int (o_size)])), (a_o_tests, .inl (cI, 8, .inl (w4)))]) S (c_X3_swap l D cI cS a_o a_o_tests o_size o_tests v5 (((y2 / (65536 : Int64)) - (y2 / (65536 : Int64)) / ((v5 + (1 : Int32)).toInt64) * ((v5 + (1 : Int32)).toInt64)).toInt32) w4 hc5) (cwV1 hts cvX3_swap wmX3_42 rfl rfl ⟨(Nat.le_of_ble_eq_true rfl), (Nat.le_of_ble_eq_true rfl)⟩) hK hP hD hS [0, 1] rfl rfl [(true, 0), (true, 1)] rfl rfl rfl 0 rfl rfl rfl rfl hl.1 rfl (Nat.le_of_ble_eq_true rfl) dX3_layShuffled_68 ⟨Nat.zero_le _, Nat.zero_le _⟩ rfl (fun H locs hP hD hS => ?_)
        obtain ⟨y6, ey6⟩ : ∃ z : Int32, z = v5 + (-1 : Int32) := ⟨_, rfl⟩
        have h := nm_use h ey6
        refine lv_iinc (v := y6) (lv' := [(5, .int y6), (3, .long y2), (0, .ref a_o)]) hx hb dX3_layShuffled_71 hl (k := 2) rfl (by rw [ey6]; rfl) (by decide) rfl (fun ls hl => ?_)
        refine lv_goto (tgt := 33) hx hb dX3_layShuffled_74 (by decide) ?_
        exact ih _ _ _ _ h _ _ hP hD hS _ (lv_sub hl [2, 1, 0] rfl)
  have L_6 : ∀ (n : Nat) (v3 : Int32) (o_size : Int32) (o_tests : Ar), b_X3_layShuffled_6 x1 x2 n v3 o_size o_tests = some (o_size', o_tests') → ∀ (H : Heap) (locs : List Loc), va_P D vwCl [(a_o, .inr (2, [.ref a_o_tests, .int (o_size)])), (a_o_tests, .inl (cI, 8, .inl (o_tests)))] H → va_D A [(a_o, .inr (2, [.ref a_o_tests, .int (o_size)])), (a_o_tests, .inl (cI, 8, .inl (o_tests)))] → va_S A s.heap H locs → ∀ (ls : Array Slot), lv_has ls 6 [(0, .ref a_o), (1, .int x1), (2, .int x2), (3, .int v3)] → W p l e (headSpec (mws yX3_layShuffled cX3_layShuffled 6 none) { frames := 1, cells := 0, slots := 0, locals := 23 }).room s m [.ref a_o, .int x1, .int x2].toArray below meth c H locs 0 0 (MQ below (wrQ D A [(a_o, .inr (2, [.ref a_o_tests, .int (o_size')])), (a_o_tests, .inl (cI, 8, .inl (o_tests')))] none) [.ref a_o, .int x1, .int x2].toArray s 0 0 A) (F0 m 6 ls []) := by
    intro n
    induction n with
    | zero =>
      intro v3 o_size o_tests h
      exact nn_no h
    | succ n ih =>
      intro v3 o_size o_tests h H locs hP hD hS ls hl
      rw [b_X3_layShuffled_6] at h
      refine lv_iload_n hx hb dX3_layShuffled_6 rfl (lv_at hl 3 rfl) ?_
      refine lv_iload_n hx hb dX3_layShuffled_7 rfl (lv_at hl 1 rfl) ?_
      refine lv_icmp_ge (tgt := 22) hx hb dX3_layShuffled_8 (by decide) (fun c7 => ?_) (fun c7 => ?_)
      · have h := it_t c7 h
        refine lv_iload_n hx hb dX3_layShuffled_22 rfl (lv_at hl 2 rfl) ?_
        refine lv_i2l (v := (x2.toInt64)) hx hb dX3_layShuffled_23 rfl ?_
        refine lv_topl (fun y8 ey8 => ?_)
        have h := nm_use h ey8
        refine lv_lstore_n (lv' := [(3, .long y8), (0, .ref a_o), (1, .int x1), (2, .int x2)]) hx hb dX3_layShuffled_24 rfl hl (by decide) rfl (fun ls hl => ?_)
        refine lv_aload_n hx hb dX3_layShuffled_25 rfl (lv_at hl 1 rfl) ?_
        refine gfX3_1 hx hb hts hown hK hP 0 rfl wfX3_15 dX3_layShuffled_26 ?_
        refine lv_iconst (v := (1 : Int32)) hx hb dX3_layShuffled_29 (by decide) ?_
        refine lv_isub hx hb dX3_layShuffled_30 ?_
        refine lv_topi (fun y9 ey9 => ?_)
        have h := nm_use h ey9
        refine lv_istore (lv' := [(5, .int y9), (3, .long y8), (0, .ref a_o), (1, .int x1), (2, .int x2)]) hx hb dX3_layShuffled_31 hl (by decide) rfl (fun ls hl => ?_)
        exact L_33 _ _ _ _ _ h _ _ hP hD hS _ (lv_sub hl [2, 1, 0] rfl)
      · have h := it_f c7 h
        refine lv_aload_n hx hb dX3_layShuffled_11 rfl (lv_at hl 0 rfl) ?_
        refine lv_iload_n hx hb dX3_layShuffled_12 rfl (lv_at hl 3 rfl) ?_
        obtain ⟨w10, w11, hc12, h⟩ := bd2_use h
        refine wr_V (As := [.int v3]) (rest := []) (ws' := [(a_o, .inr (2, [.ref a_o_tests, .int (w10)])), (a_o_tests, .inl (cI, 8, .inl (w11)))]) S (c_X3_append l D cI cS a_o a_o_tests o_size o_tests v3 w10 w11 hc12) (cwV1 hts cvX3_append wmX3_27 rfl rfl ⟨(Nat.le_of_ble_eq_true rfl), (Nat.le_of_ble_eq_true rfl)⟩) hK hP hD hS [0, 1] rfl rfl [(true, 0), (true, 1)] rfl rfl rfl 0 rfl rfl rfl rfl hl.1 rfl (Nat.le_of_ble_eq_true rfl) dX3_layShuffled_13 ⟨Nat.zero_le _, Nat.zero_le _⟩ rfl (fun H locs hP hD hS => ?_)
        obtain ⟨y13, ey13⟩ : ∃ z : Int32, z = v3 + (1 : Int32) := ⟨_, rfl⟩
        have h := nm_use h ey13
        refine lv_iinc (v := y13) (lv' := [(3, .int y13), (0, .ref a_o), (1, .int x1), (2, .int x2)]) hx hb dX3_layShuffled_16 hl (k := 3) rfl (by rw [ey13]; rfl) (by decide) rfl (fun ls hl => ?_)
        refine lv_goto (tgt := 6) hx hb dX3_layShuffled_19 (by decide) ?_
        exact ih _ _ _ h _ _ hP hD hS _ (lv_sub hl [1, 2, 3, 0] rfl)
  unfold f_X3_layShuffled at h
  refine lv_aload_n hx hb dX3_layShuffled_0 rfl (lv_at hl 0 rfl) ?_
  obtain ⟨w14, hc15, h⟩ := bd1_use h
  refine wr_V (As := []) (rest := []) (ws' := [(a_o, .inr (2, [.ref a_o_tests, .int (w14)])), (a_o_tests, .inl (cI, 8, .inl (o_tests)))]) S (c_X3_makeEmpty l D cI cS a_o a_o_tests o_size w14 hc15) (cwV1 hts cvX3_makeEmpty wmX3_31 rfl rfl ⟨(Nat.le_of_ble_eq_true rfl), (Nat.le_of_ble_eq_true rfl)⟩) hK hP hD hS [0] rfl rfl [(true, 0), (false, 1)] rfl rfl rfl 0 rfl rfl rfl rfl hl.1 rfl (Nat.le_of_ble_eq_true rfl) dX3_layShuffled_1 ⟨Nat.zero_le _, Nat.zero_le _⟩ rfl (fun H locs hP hD hS => ?_)
  refine lv_iconst (v := (0 : Int32)) hx hb dX3_layShuffled_4 (by decide) ?_
  refine lv_istore_n (lv' := [(3, .int (0 : Int32)), (0, .ref a_o), (1, .int x1), (2, .int x2)]) hx hb dX3_layShuffled_5 rfl hl (by decide) rfl (fun ls hl => ?_)
  exact L_6 _ _ _ _ h _ _ hP hD hS _ (lv_sub hl [1, 2, 3, 0] rfl)
def f_X3_copyFrom (o_size : Int32) (o_tests : Ar) (p1_size : Int32) (p1_tests : Ar) : Option (Int32 × Ar) := nm (va_cpy p1_tests o_tests (0 : Int32).toNatClampNeg (0 : Int32).toNatClampNeg (8 : Int32).toNatClampNeg) (fun fv1 => some (p1_size, fv1))
set_option maxHeartbeats 4000000 in
set_option maxRecDepth 100000 in
theorem c_X3_copyFrom (l : Launch) (D : va_G) (cI cS : ClassId) (a_o : Nat) (a_o_tests : Nat) (a_p1 : Nat) (a_p1_tests : Nat) (o_size : Int32) (o_tests : Ar) (p1_size : Int32) (p1_tests : Ar) (o_size' : Int32) (o_tests' : Ar) (h : f_X3_copyFrom o_size o_tests p1_size p1_tests = some (o_size', o_tests')) : wrM l D cI cS yX3_copyFrom cX3_copyFrom 2 none 1 40 [.ref a_o, .ref a_p1] [(a_o, .inr (2, [.ref a_o_tests, .int (o_size)])), (a_o_tests, .inl (cI, 8, .inl (o_tests))), (a_p1, .inr (2, [.ref a_p1_tests, .int (p1_size)])), (a_p1_tests, .inl (cI, 8, .inl (p1_tests)))] [(a_o, .inr (2, [.ref a_o_tests, .int (o_size')])), (a_o_tests, .inl (cI, 8, .inl (o_tests'))), (a_p1, .inr (2, [.ref a_p1_tests, .int (p1_size)])), (a_p1_tests, .inl (cI, 8, .inl (p1_tests)))] none := by
  refine Met.ofW (cc := cX3_copyFrom) (maxL := 2) (ret := none) (by decide) rfl ?_
  intro p e s m args below meth c s₁ B hml hv
  obtain ⟨rfl, hP, hK, hD0⟩ := hv
  have hx := B.exec
  have hb := B.bytes
  have hr := B.returns
  have hts : ∀ w ∈ GW, w.before _ s = true := fun w hw => atoms_spec (ws := mws yX3_copyFrom cX3_copyFrom 2 none) B.pre w (List.mem_cons_of_mem _ hw)
  have hown : s.vm.findClass RX3 = some m.cls := findClass_of_methodNamed B.named
  have hlocks := B.notSynchronized
  have hD := inW_self hD0
  generalize hAe : inW [(a_o, .inr (2, [.ref a_o_tests, .int (o_size)])), (a_o_tests, .inl (cI, 8, .inl (o_tests))), (a_p1, .inr (2, [.ref a_p1_tests, .int (p1_size)])), (a_p1_tests, .inl (cI, 8, .inl (p1_tests)))] = A at hD ⊢
  have hS : va_S A s.heap s.heap [] := va_S.rf
  have hl := lv_entry ([.ref a_o, .ref a_p1]) (n := 2) (Nat.le_of_ble_eq_true rfl)
  rw [lg_entry_eq]
  generalize (lg_sl ([.ref a_o, .ref a_p1]) ++ List.replicate (2 - (lg_sl ([.ref a_o, .ref a_p1])).length) Slot.unset).toArray = ls at hl ⊢
  have hl : lv_has ls 2 [(0, .ref a_o), (1, .ref a_p1)] := hl
  have S : CallFix p m c cX3_copyFrom 2 s _ GW RX3 := ⟨hx, hb, hml, hown, hts⟩
  unfold f_X3_copyFrom at h
  refine lv_aload_n hx hb dX3_copyFrom_0 rfl (lv_at hl 1 rfl) ?_
  refine gfX3_0 hx hb hts hown hK hP 2 rfl wfX3_9 dX3_copyFrom_1 ?_
  refine lv_iconst (v := (0 : Int32)) hx hb dX3_copyFrom_4 (by decide) ?_
  refine lv_aload_n hx hb dX3_copyFrom_5 rfl (lv_at hl 0 rfl) ?_
  refine gfX3_0 hx hb hts hown hK hP 0 rfl wfX3_9 dX3_copyFrom_6 ?_
  refine lv_iconst (v := (0 : Int32)) hx hb dX3_copyFrom_9 (by decide) ?_
  refine lv_bipush (v := (8 : Int32)) hx hb dX3_copyFrom_10 (by decide) ?_
  have h := nm_use h rfl
  refine cp_ (ws' := [(a_o, .inr (2, [.ref a_o_tests, .int (o_size)])), (a_o_tests, .inl (cI, 8, .inl ((va_cpy p1_tests o_tests (0 : Int32).toNatClampNeg (0 : Int32).toNatClampNeg (8 : Int32).toNatClampNeg)))), (a_p1, .inr (2, [.ref a_p1_tests, .int (p1_size)])), (a_p1_tests, .inl (cI, 8, .inl (p1_tests)))]) hx hb (hml.trans hl.1.symm) hts hown wmX3_46 wiJ10 hK hP hD hS 3 1 rfl rfl (by decide) (by decide) (by decide) (by decide) (by decide) rfl (Nat.le_of_ble_eq_true rfl) (Nat.le_of_ble_eq_true rfl) dX3_copyFrom_12 (fun H locs hP hD hS => ?_)
  refine lv_aload_n hx hb dX3_copyFrom_15 rfl (lv_at hl 0 rfl) ?_
  refine lv_aload_n hx hb dX3_copyFrom_16 rfl (lv_at hl 1 rfl) ?_
  refine gfX3_1 hx hb hts hown hK hP 2 rfl wfX3_15 dX3_copyFrom_17 ?_
  refine pfX3_1 (ws' := [(a_o, .inr (2, [.ref a_o_tests, .int (p1_size)])), (a_o_tests, .inl (cI, 8, .inl ((va_cpy p1_tests o_tests (0 : Int32).toNatClampNeg (0 : Int32).toNatClampNeg (8 : Int32).toNatClampNeg)))), (a_p1, .inr (2, [.ref a_p1_tests, .int (p1_size)])), (a_p1_tests, .inl (cI, 8, .inl (p1_tests)))]) hx hb hts hown hK hP hD hS 0 rfl rfl wfX3_15 dX3_copyFrom_20 (fun H locs hP hD hS => ?_)
  cases h
  exact W.vret hx hb hr (fun t ht _ => ⟨rfl, by rw [ht]; exact hP, hS.F ht⟩) hS.2.2 dX3_copyFrom_23
