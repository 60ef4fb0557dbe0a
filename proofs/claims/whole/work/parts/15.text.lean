/-! Text -/
def f_X5_isFull (o_length : Int32) : Option (Bool) := (if o_length < (150 : Int32) then some (false) else some (true))
set_option maxHeartbeats 4000000 in
set_option maxRecDepth 100000 in
theorem c_X5_isFull (l : Launch) (D : va_G) (cI cS : ClassId) (a_o : Nat) (a_o_bytes : Nat) (o_length : Int32) (r0 : Bool) (h : f_X5_isFull o_length = some r0) : roM l D cI cS yX5_isFull cX5_isFull 1 (some .boolean) 0 0 [.ref a_o] [(a_o, .inr (4, [.ref a_o_bytes, .int (o_length)]))] (some (.int (b2i r0))) := by
  refine Met.ofW (cc := cX5_isFull) (maxL := 1) (ret := (some .boolean)) (by decide) rfl ?_
  intro p e s m args below meth c s₁ B hml hv
  obtain ⟨rfl, hP, hK⟩ := hv
  have hx := B.exec
  have hb := B.bytes
  have hr := B.returns
  have hts : ∀ w ∈ GW, w.before _ s = true := fun w hw => atoms_spec (ws := mws yX5_isFull cX5_isFull 1 (some .boolean)) B.pre w (List.mem_cons_of_mem _ hw)
  have hown : s.vm.findClass RX5 = some m.cls := findClass_of_methodNamed B.named
  have hlocks := B.notSynchronized
  have hl := lv_entry ([.ref a_o]) (n := 1) (Nat.le_of_ble_eq_true rfl)
  rw [lg_entry_eq]
  generalize (lg_sl ([.ref a_o]) ++ List.replicate (1 - (lg_sl ([.ref a_o])).length) Slot.unset).toArray = ls at hl ⊢
  have hl : lv_has ls 1 [(0, .ref a_o)] := hl
  have S : CallFix p m c cX5_isFull 1 s _ GW RX5 := ⟨hx, hb, hml, hown, hts⟩
  unfold f_X5_isFull at h
  refine lv_aload_n hx hb dX5_isFull_0 rfl (lv_at hl 0 rfl) ?_
  refine gfX5_1 hx hb hts hown hK hP 0 rfl wfX5_15 dX5_isFull_1 ?_
  refine lv_sipush (v := (150 : Int32)) hx hb dX5_isFull_4 (by decide) ?_
  refine lv_icmp_lt (tgt := 14) hx hb dX5_isFull_7 (by decide) (fun c1 => ?_) (fun c1 => ?_)
  · have h := it_t c1 h
    refine lv_iconst (v := (0 : Int32)) hx hb dX5_isFull_14 (by decide) ?_
    exact W.zret hx hb hr rfl (fun t ht _ => ⟨congrArg (fun z => Outcome.returned (some (Value.int (b2i z)))) (Option.some.inj h), ht⟩) (fun q hq => by cases hq) dX5_isFull_15
  · have h := it_f c1 h
    refine lv_iconst (v := (1 : Int32)) hx hb dX5_isFull_10 (by decide) ?_
    refine lv_goto (tgt := 15) hx hb dX5_isFull_11 (by decide) ?_
    exact W.zret hx hb hr rfl (fun t ht _ => ⟨congrArg (fun z => Outcome.returned (some (Value.int (b2i z)))) (Option.some.inj h), ht⟩) (fun q hq => by cases hq) dX5_isFull_15
def f_X5_append (o_length : Int32) (o_bytes : Ar) (x1 : Int32) : Option (Int32 × Int32 × Ar) := (if o_length < (0 : Int32) then some (o_length, o_length, o_bytes) else (if (150 : Int32) ≤ o_length then some (o_length, o_length, o_bytes) else wr o_bytes 150 o_length x1 (fun fv3 => nm (o_length + (1 : Int32)) (fun y5 => some (y5, y5, fv3)))))
set_option maxHeartbeats 4000000 in
set_option maxRecDepth 100000 in
theorem c_X5_append (l : Launch) (D : va_G) (cI cS : ClassId) (a_o : Nat) (a_o_bytes : Nat) (o_length : Int32) (o_bytes : Ar) (x1 : Int32) (r0 : Int32) (o_length' : Int32) (o_bytes' : Ar) (h : f_X5_append o_length o_bytes x1 = some (r0, o_length', o_bytes')) : wrM l D cI cS yX5_append cX5_append 2 (some .int) 0 0 [.ref a_o, .int x1] [(a_o, .inr (4, [.ref a_o_bytes, .int (o_length)])), (a_o_bytes, .inl (cI, 150, .inl (o_bytes)))] [(a_o, .inr (4, [.ref a_o_bytes, .int (o_length')])), (a_o_bytes, .inl (cI, 150, .inl (o_bytes')))] (some (.int r0)) := by
  refine Met.ofW (cc := cX5_append) (maxL := 2) (ret := (some .int)) (by decide) rfl ?_
  intro p e s m args below meth c s₁ B hml hv
  obtain ⟨rfl, hP, hK, hD0⟩ := hv
  have hx := B.exec
  have hb := B.bytes
  have hr := B.returns
  have hts : ∀ w ∈ GW, w.before _ s = true := fun w hw => atoms_spec (ws := mws yX5_append cX5_append 2 (some .int)) B.pre w (List.mem_cons_of_mem _ hw)
  have hown : s.vm.findClass RX5 = some m.cls := findClass_of_methodNamed B.named
  have hlocks := B.notSynchronized
  have hD := inW_self hD0
  generalize hAe : inW [(a_o, .inr (4, [.ref a_o_bytes, .int (o_length)])), (a_o_bytes, .inl (cI, 150, .inl (o_bytes)))] = A at hD ⊢
  have hS : va_S A s.heap s.heap [] := va_S.rf
  have hl := lv_entry ([.ref a_o, .int x1]) (n := 2) (Nat.le_of_ble_eq_true rfl)
  rw [lg_entry_eq]
  generalize (lg_sl ([.ref a_o, .int x1]) ++ List.replicate (2 - (lg_sl ([.ref a_o, .int x1])).length) Slot.unset).toArray = ls at hl ⊢
  have hl : lv_has ls 2 [(0, .ref a_o), (1, .int x1)] := hl
  have S : CallFix p m c cX5_append 2 s _ GW RX5 := ⟨hx, hb, hml, hown, hts⟩
  unfold f_X5_append at h
  refine lv_aload_n hx hb dX5_append_0 rfl (lv_at hl 0 rfl) ?_
  refine gfX5_1 hx hb hts hown hK hP 0 rfl wfX5_15 dX5_append_1 ?_
  refine lv_if_lt (tgt := 39) hx hb dX5_append_4 (by decide) (fun c1 => ?_) (fun c1 => ?_)
  · have h := it_t c1 h
    refine lv_aload_n hx hb dX5_append_39 rfl (lv_at hl 0 rfl) ?_
    refine gfX5_1 hx hb hts hown hK hP 0 rfl wfX5_15 dX5_append_40 ?_
    cases h
    exact W.iret hx hb hr (fun t ht _ => ⟨rfl, by rw [ht]; exact hP, hS.F ht⟩) hS.2.2 dX5_append_43
  · have h := it_f c1 h
    refine lv_aload_n hx hb dX5_append_7 rfl (lv_at hl 0 rfl) ?_
    refine gfX5_1 hx hb hts hown hK hP 0 rfl wfX5_15 dX5_append_8 ?_
    refine lv_aload_n hx hb dX5_append_11 rfl (lv_at hl 0 rfl) ?_
    refine gfX5_0 hx hb hts hown hK hP 0 rfl wfX5_9 dX5_append_12 ?_
    refine al_ (w := (150 : Int32)) hx hb hK hP 1 rfl rfl dX5_append_15 ?_
    refine lv_icmp_ge (tgt := 39) hx hb dX5_append_16 (by decide) (fun c2 => ?_) (fun c2 => ?_)
    · have h := it_t c2 h
      refine lv_aload_n hx hb dX5_append_39 rfl (lv_at hl 0 rfl) ?_
      refine gfX5_1 hx hb hts hown hK hP 0 rfl wfX5_15 dX5_append_40 ?_
      cases h
      exact W.iret hx hb hr (fun t ht _ => ⟨rfl, by rw [ht]; exact hP, hS.F ht⟩) hS.2.2 dX5_append_43
    · have h := it_f c2 h
      refine lv_aload_n hx hb dX5_append_19 rfl (lv_at hl 0 rfl) ?_
      refine gfX5_0 hx hb hts hown hK hP 0 rfl wfX5_9 dX5_append_20 ?_
      refine lv_aload_n hx hb dX5_append_23 rfl (lv_at hl 0 rfl) ?_
      refine gfX5_1 hx hb hts hown hK hP 0 rfl wfX5_15 dX5_append_24 ?_
      refine lv_iload_n hx hb dX5_append_27 rfl (lv_at hl 1 rfl) ?_
      obtain ⟨hi4, h⟩ := wr_use h
      refine is_ (ws' := [(a_o, .inr (4, [.ref a_o_bytes, .int (o_length)])), (a_o_bytes, .inl (cI, 150, .inl ((upd o_bytes o_length.toNatClampNeg x1))))]) hx hb hK hP hD hS 1 rfl rfl hi4 dX5_append_28 (fun H locs hP hD hS => ?_)
      refine lv_aload_n hx hb dX5_append_29 rfl (lv_at hl 0 rfl) ?_
      refine lv_dup hx hb dX5_append_30 rfl ?_
      refine gfX5_1 hx hb hts hown hK hP 0 rfl wfX5_15 dX5_append_31 ?_
      refine lv_iconst (v := (1 : Int32)) hx hb dX5_append_34 (by decide) ?_
      refine lv_iadd hx hb dX5_append_35 ?_
      refine lv_topi (fun y5 ey5 => ?_)
      have h := nm_use h ey5
      refine pfX5_1 (ws' := [(a_o, .inr (4, [.ref a_o_bytes, .int (y5)])), (a_o_bytes, .inl (cI, 150, .inl ((upd o_bytes o_length.toNatClampNeg x1))))]) hx hb hts hown hK hP hD hS 0 rfl rfl wfX5_15 dX5_append_36 (fun H locs hP hD hS => ?_)
      refine lv_aload_n hx hb dX5_append_39 rfl (lv_at hl 0 rfl) ?_
      refine gfX5_1 hx hb hts hown hK hP 0 rfl wfX5_15 dX5_append_40 ?_
      cases h
      exact W.iret hx hb hr (fun t ht _ => ⟨rfl, by rw [ht]; exact hP, hS.F ht⟩) hS.2.2 dX5_append_43
def f_X5_makeEmpty (o_length : Int32) : Option (Int32 × Int32) := some (o_length, (0 : Int32))
set_option maxHeartbeats 4000000 in
set_option maxRecDepth 100000 in
theorem c_X5_makeEmpty (l : Launch) (D : va_G) (cI cS : ClassId) (a_o : Nat) (a_o_bytes : Nat) (o_length : Int32) (r0 : Int32) (o_length' : Int32) (h : f_X5_makeEmpty o_length = some (r0, o_length')) : wrM l D cI cS yX5_makeEmpty cX5_makeEmpty 2 (some .int) 0 0 [.ref a_o] [(a_o, .inr (4, [.ref a_o_bytes, .int (o_length)]))] [(a_o, .inr (4, [.ref a_o_bytes, .int (o_length')]))] (some (.int r0)) := by
  refine Met.ofW (cc := cX5_makeEmpty) (maxL := 2) (ret := (some .int)) (by decide) rfl ?_
  intro p e s m args below meth c s₁ B hml hv
  obtain ⟨rfl, hP, hK, hD0⟩ := hv
  have hx := B.exec
  have hb := B.bytes
  have hr := B.returns
  have hts : ∀ w ∈ GW, w.before _ s = true := fun w hw => atoms_spec (ws := mws yX5_makeEmpty cX5_makeEmpty 2 (some .int)) B.pre w (List.mem_cons_of_mem _ hw)
  have hown : s.vm.findClass RX5 = some m.cls := findClass_of_methodNamed B.named
  have hlocks := B.notSynchronized
  have hD := inW_self hD0
  generalize hAe : inW [(a_o, .inr (4, [.ref a_o_bytes, .int (o_length)]))] = A at hD ⊢
  have hS : va_S A s.heap s.heap [] := va_S.rf
  have hl := lv_entry ([.ref a_o]) (n := 2) (Nat.le_of_ble_eq_true rfl)
  rw [lg_entry_eq]
  generalize (lg_sl ([.ref a_o]) ++ List.replicate (2 - (lg_sl ([.ref a_o])).length) Slot.unset).toArray = ls at hl ⊢
  have hl : lv_has ls 2 [(0, .ref a_o)] := hl
  have S : CallFix p m c cX5_makeEmpty 2 s _ GW RX5 := ⟨hx, hb, hml, hown, hts⟩
  unfold f_X5_makeEmpty at h
  refine lv_aload_n hx hb dX5_makeEmpty_0 rfl (lv_at hl 0 rfl) ?_
  refine gfX5_1 hx hb hts hown hK hP 0 rfl wfX5_15 dX5_makeEmpty_1 ?_
  refine lv_istore_n (lv' := [(1, .int o_length), (0, .ref a_o)]) hx hb dX5_makeEmpty_4 rfl hl (by decide) rfl (fun ls hl => ?_)
  refine lv_aload_n hx hb dX5_makeEmpty_5 rfl (lv_at hl 1 rfl) ?_
  refine lv_iconst (v := (0 : Int32)) hx hb dX5_makeEmpty_6 (by decide) ?_
  refine pfX5_1 (ws' := [(a_o, .inr (4, [.ref a_o_bytes, .int ((0 : Int32))]))]) hx hb hts hown hK hP hD hS 0 rfl rfl wfX5_15 dX5_makeEmpty_7 (fun H locs hP hD hS => ?_)
  refine lv_iload_n hx hb dX5_makeEmpty_10 rfl (lv_at hl 0 rfl) ?_
  cases h
  exact W.iret hx hb hr (fun t ht _ => ⟨rfl, by rw [ht]; exact hP, hS.F ht⟩) hS.2.2 dX5_makeEmpty_11
def f_X5_nth (o_length : Int32) (o_bytes : Ar) (x1 : Int32) : Option (Int32) := (if x1 < (0 : Int32) then some ((-1 : Int32)) else (if o_length ≤ x1 then some ((-1 : Int32)) else (if (150 : Int32) ≤ x1 then some ((-1 : Int32)) else rd o_bytes 150 x1 (fun rv4 => some (rv4)))))
set_option maxHeartbeats 4000000 in
set_option maxRecDepth 100000 in
theorem c_X5_nth (l : Launch) (D : va_G) (cI cS : ClassId) (a_o : Nat) (a_o_bytes : Nat) (o_length : Int32) (o_bytes : Ar) (x1 : Int32) (r0 : Int32) (h : f_X5_nth o_length o_bytes x1 = some r0) : roM l D cI cS yX5_nth cX5_nth 2 (some .int) 0 0 [.ref a_o, .int x1] [(a_o, .inr (4, [.ref a_o_bytes, .int (o_length)])), (a_o_bytes, .inl (cI, 150, .inl (o_bytes)))] (some (.int r0)) := by
  refine Met.ofW (cc := cX5_nth) (maxL := 2) (ret := (some .int)) (by decide) rfl ?_
  intro p e s m args below meth c s₁ B hml hv
  obtain ⟨rfl, hP, hK⟩ := hv
  have hx := B.exec
  have hb := B.bytes
  have hr := B.returns
  have hts : ∀ w ∈ GW, w.before _ s = true := fun w hw => atoms_spec (ws := mws yX5_nth cX5_nth 2 (some .int)) B.pre w (List.mem_cons_of_mem _ hw)
  have hown : s.vm.findClass RX5 = some m.cls := findClass_of_methodNamed B.named
  have hlocks := B.notSynchronized
  have hl := lv_entry ([.ref a_o, .int x1]) (n := 2) (Nat.le_of_ble_eq_true rfl)
  rw [lg_entry_eq]
  generalize (lg_sl ([.ref a_o, .int x1]) ++ List.replicate (2 - (lg_sl ([.ref a_o, .int x1])).length) Slot.unset).toArray = ls at hl ⊢
  have hl : lv_has ls 2 [(0, .ref a_o), (1, .int x1)] := hl
  have S : CallFix p m c cX5_nth 2 s _ GW RX5 := ⟨hx, hb, hml, hown, hts⟩
  unfold f_X5_nth at h
  refine lv_iload_n hx hb dX5_nth_0 rfl (lv_at hl 1 rfl) ?_
  refine lv_if_lt (tgt := 30) hx hb dX5_nth_1 (by decide) (fun c1 => ?_) (fun c1 => ?_)
  · have h := it_t c1 h
    refine lv_iconst (v := (-1 : Int32)) hx hb dX5_nth_30 (by decide) ?_
    exact W.iret hx hb hr (fun t ht _ => ⟨congrArg (fun z => Outcome.returned (some (Value.int z))) (Option.some.inj h), ht⟩) (fun q hq => by cases hq) dX5_nth_31
  · have h := it_f c1 h
    refine lv_iload_n hx hb dX5_nth_4 rfl (lv_at hl 1 rfl) ?_
    refine lv_aload_n hx hb dX5_nth_5 rfl (lv_at hl 0 rfl) ?_
    refine gfX5_1 hx hb hts hown hK hP 0 rfl wfX5_15 dX5_nth_6 ?_
    refine lv_icmp_ge (tgt := 30) hx hb dX5_nth_9 (by decide) (fun c2 => ?_) (fun c2 => ?_)
    · have h := it_t c2 h
      refine lv_iconst (v := (-1 : Int32)) hx hb dX5_nth_30 (by decide) ?_
      exact W.iret hx hb hr (fun t ht _ => ⟨congrArg (fun z => Outcome.returned (some (Value.int z))) (Option.some.inj h), ht⟩) (fun q hq => by cases hq) dX5_nth_31
    · have h := it_f c2 h
      refine lv_iload_n hx hb dX5_nth_12 rfl (lv_at hl 1 rfl) ?_
      refine lv_aload_n hx hb dX5_nth_13 rfl (lv_at hl 0 rfl) ?_
      refine gfX5_0 hx hb hts hown hK hP 0 rfl wfX5_9 dX5_nth_14 ?_
      refine al_ (w := (150 : Int32)) hx hb hK hP 1 rfl rfl dX5_nth_17 ?_
      refine lv_icmp_ge (tgt := 30) hx hb dX5_nth_18 (by decide) (fun c3 => ?_) (fun c3 => ?_)
      · have h := it_t c3 h
        refine lv_iconst (v := (-1 : Int32)) hx hb dX5_nth_30 (by decide) ?_
        exact W.iret hx hb hr (fun t ht _ => ⟨congrArg (fun z => Outcome.returned (some (Value.int z))) (Option.some.inj h), ht⟩) (fun q hq => by cases hq) dX5_nth_31
      · have h := it_f c3 h
        refine lv_aload_n hx hb dX5_nth_21 rfl (lv_at hl 0 rfl) ?_
        refine gfX5_0 hx hb hts hown hK hP 0 rfl wfX5_9 dX5_nth_22 ?_
        refine lv_iload_n hx hb dX5_nth_25 rfl (lv_at hl 1 rfl) ?_
        obtain ⟨hi5, h⟩ := rd_use h
        refine ia_ hx hb hK hP 1 rfl hi5 dX5_nth_26 ?_
        refine lv_goto (tgt := 31) hx hb dX5_nth_27 (by decide) ?_
        exact W.iret hx hb hr (fun t ht _ => ⟨congrArg (fun z => Outcome.returned (some (Value.int z))) (Option.some.inj h), ht⟩) (fun q hq => by cases hq) dX5_nth_31
