/-! the class, first part -/
def f_X6_areTwoTests (o_suite_size : Int32) (x1 : Int32) (x2 : Int32) : Option (Bool) := bd1 (f_X4_hasTest o_suite_size x1) (fun r1 => (if (b2i r1) = (0 : Int32) then some (false) else bd1 (f_X4_hasTest o_suite_size x2) (fun r4 => (if (b2i r4) = (0 : Int32) then some (false) else (if x1 = x2 then some (false) else some (true))))))
set_option maxHeartbeats 4000000 in
set_option maxRecDepth 100000 in
theorem c_X6_areTwoTests (l : Launch) (D : va_G) (cI cS : ClassId) (a_o : Nat) (a_o_suite : Nat) (a_o_past : Nat) (a_o_text : Nat) (a_o_orders : Nat) (a_o_spare : Nat) (a_o_suite_masks : Nat) (a_o_suite_row : Nat) (o_timesBad : Int32) (o_timesNo : Int32) (o_timesFull : Int32) (o_suite_size : Int32) (o_suite_startCells : Int32) (o_suite_modeNow : Int32) (x1 : Int32) (x2 : Int32) (r0 : Bool) (h : f_X6_areTwoTests o_suite_size x1 x2 = some r0) : roM l D cI cS yX6_areTwoTests cX6_areTwoTests 3 (some .boolean) 1 21 [.ref a_o, .int x1, .int x2] [(a_o, .inr (5, [.ref a_o_suite, .ref a_o_past, .ref a_o_text, .ref a_o_orders, .ref a_o_spare, .int (o_timesBad), .int (o_timesNo), .int (o_timesFull)])), (a_o_suite, .inr (3, [.ref a_o_suite_masks, .ref a_o_suite_row, .int (o_suite_size), .int (o_suite_startCells), .int (o_suite_modeNow)]))] (some (.int (b2i r0))) := by
  refine Met.ofW (cc := cX6_areTwoTests) (maxL := 3) (ret := (some .boolean)) (by decide) rfl ?_
  intro p e s m args below meth c s₁ B hml hv
  obtain ⟨rfl, hP, hK⟩ := hv
  have hx := B.exec
  have hb := B.bytes
  have hr := B.returns
  have hts : ∀ w ∈ GW, w.before _ s = true := fun w hw => atoms_spec (ws := mws yX6_areTwoTests cX6_areTwoTests 3 (some .boolean)) B.pre w (List.mem_cons_of_mem _ hw)
  have hown : s.vm.findClass RX6 = some m.cls := findClass_of_methodNamed B.named
  have hlocks := B.notSynchronized
  have hl := lv_entry ([.ref a_o, .int x1, .int x2]) (n := 3) (Nat.le_of_ble_eq_true rfl)
  rw [lg_entry_eq]
  generalize (lg_sl ([.ref a_o, .int x1, .int x2]) ++ List.replicate (3 - (lg_sl ([.ref a_o, .int x1, .int x2])).length) Slot.unset).toArray = ls at hl ⊢
  have hl : lv_has ls 3 [(0, .ref a_o), (1, .int x1), (2, .int x2)] := hl
  have S : CallFix p m c cX6_areTwoTests 3 s _ GW RX6 := ⟨hx, hb, hml, hown, hts⟩
  unfold f_X6_areTwoTests at h
  refine lv_aload_n hx hb dX6_areTwoTests_0 rfl (lv_at hl 0 rfl) ?_
  refine gfX6_0 hx hb hts hown hK hP 0 rfl wfX6_10 dX6_areTwoTests_1 ?_
  refine lv_iload_n hx hb dX6_areTwoTests_4 rfl (lv_at hl 1 rfl) ?_
  obtain ⟨r1, hc2, h⟩ := bd1_use h
  refine ro_V (As := [.int x1]) (rest := []) S (c_X4_hasTest l D cI cS a_o_suite a_o_suite_masks a_o_suite_row o_suite_size o_suite_startCells o_suite_modeNow x1 r1 hc2) (cwV1 hts cvX4_hasTest wmX6_78 rfl rfl ⟨(Nat.le_of_ble_eq_true rfl), (Nat.le_of_ble_eq_true rfl)⟩) hK hP [1] rfl 1 rfl rfl rfl rfl hl.1 rfl (Nat.le_of_ble_eq_true rfl) dX6_areTwoTests_5 ⟨Nat.zero_le _, Nat.zero_le _⟩ rfl ?_
  refine lv_if_eq (tgt := 31) hx hb dX6_areTwoTests_8 (by decide) (fun c3 => ?_) (fun c3 => ?_)
  · have h := it_t c3 h
    refine lv_iconst (v := (0 : Int32)) hx hb dX6_areTwoTests_31 (by decide) ?_
    exact W.zret hx hb hr rfl (fun t ht _ => ⟨congrArg (fun z => Outcome.returned (some (Value.int (b2i z)))) (Option.some.inj h), ht⟩) (fun q hq => by cases hq) dX6_areTwoTests_32
  · have h := it_f c3 h
    refine lv_aload_n hx hb dX6_areTwoTests_11 rfl (lv_at hl 0 rfl) ?_
    refine gfX6_0 hx hb hts hown hK hP 0 rfl wfX6_10 dX6_areTwoTests_12 ?_
    refine lv_iload_n hx hb dX6_areTwoTests_15 rfl (lv_at hl 2 rfl) ?_
    obtain ⟨r4, hc5, h⟩ := bd1_use h
    refine ro_V (As := [.int x2]) (rest := []) S (c_X4_hasTest l D cI cS a_o_suite a_o_suite_masks a_o_suite_row o_suite_size o_suite_startCells o_suite_modeNow x2 r4 hc5) (cwV1 hts cvX4_hasTest wmX6_78 rfl rfl ⟨(Nat.le_of_ble_eq_true rfl), (Nat.le_of_ble_eq_true rfl)⟩) hK hP [1] rfl 1 rfl rfl rfl rfl hl.1 rfl (Nat.le_of_ble_eq_true rfl) dX6_areTwoTests_16 ⟨Nat.zero_le _, Nat.zero_le _⟩ rfl ?_
    refine lv_if_eq (tgt := 31) hx hb dX6_areTwoTests_19 (by decide) (fun c6 => ?_) (fun c6 => ?_)
    · have h := it_t c6 h
      refine lv_iconst (v := (0 : Int32)) hx hb dX6_areTwoTests_31 (by decide) ?_
      exact W.zret hx hb hr rfl (fun t ht _ => ⟨congrArg (fun z => Outcome.returned (some (Value.int (b2i z)))) (Option.some.inj h), ht⟩) (fun q hq => by cases hq) dX6_areTwoTests_32
    · have h := it_f c6 h
      refine lv_iload_n hx hb dX6_areTwoTests_22 rfl (lv_at hl 1 rfl) ?_
      refine lv_iload_n hx hb dX6_areTwoTests_23 rfl (lv_at hl 2 rfl) ?_
      refine lv_icmp_eq (tgt := 31) hx hb dX6_areTwoTests_24 (by decide) (fun c7 => ?_) (fun c7 => ?_)
      · have h := it_t c7 h
        refine lv_iconst (v := (0 : Int32)) hx hb dX6_areTwoTests_31 (by decide) ?_
        exact W.zret hx hb hr rfl (fun t ht _ => ⟨congrArg (fun z => Outcome.returned (some (Value.int (b2i z)))) (Option.some.inj h), ht⟩) (fun q hq => by cases hq) dX6_areTwoTests_32
      · have h := it_f c7 h
        refine lv_iconst (v := (1 : Int32)) hx hb dX6_areTwoTests_27 (by decide) ?_
        refine lv_goto (tgt := 32) hx hb dX6_areTwoTests_28 (by decide) ?_
        exact W.zret hx hb hr rfl (fun t ht _ => ⟨congrArg (fun z => Outcome.returned (some (Value.int (b2i z)))) (Option.some.inj h), ht⟩) (fun q hq => by cases hq) dX6_areTwoTests_32
def f_X6_refused (o_timesBad : Int32) (o_timesNo : Int32) (o_timesFull : Int32) (x1 : Int32) : Option (Int32 × Int32 × Int32 × Int32) := (if x1 = (-2 : Int32) then nm (o_timesBad + (1 : Int32)) (fun y5 => some (x1, y5, o_timesNo, o_timesFull)) else (if x1 = (-3 : Int32) then nm (o_timesNo + (1 : Int32)) (fun y4 => some (x1, o_timesBad, y4, o_timesFull)) else nm (o_timesFull + (1 : Int32)) (fun y3 => some (x1, o_timesBad, o_timesNo, y3))))
set_option maxHeartbeats 4000000 in
set_option maxRecDepth 100000 in
theorem c_X6_refused (l : Launch) (D : va_G) (cI cS : ClassId) (a_o : Nat) (a_o_suite : Nat) (a_o_past : Nat) (a_o_text : Nat) (a_o_orders : Nat) (a_o_spare : Nat) (o_timesBad : Int32) (o_timesNo : Int32) (o_timesFull : Int32) (x1 : Int32) (r0 : Int32) (o_timesBad' : Int32) (o_timesNo' : Int32) (o_timesFull' : Int32) (h : f_X6_refused o_timesBad o_timesNo o_timesFull x1 = some (r0, o_timesBad', o_timesNo', o_timesFull')) : wrM l D cI cS yX6_refused cX6_refused 2 (some .int) 0 0 [.ref a_o, .int x1] [(a_o, .inr (5, [.ref a_o_suite, .ref a_o_past, .ref a_o_text, .ref a_o_orders, .ref a_o_spare, .int (o_timesBad), .int (o_timesNo), .int (o_timesFull)]))] [(a_o, .inr (5, [.ref a_o_suite, .ref a_o_past, .ref a_o_text, .ref a_o_orders, .ref a_o_spare, .int (o_timesBad'), .int (o_timesNo'), .int (o_timesFull')]))] (some (.int r0)) := by
  refine Met.ofW (cc := cX6_refused) (maxL := 2) (ret := (some .int)) (by decide) rfl ?_
  intro p e s m args below meth c s₁ B hml hv
  obtain ⟨rfl, hP, hK, hD0⟩ := hv
  have hx := B.exec
  have hb := B.bytes
  have hr := B.returns
  have hts : ∀ w ∈ GW, w.before _ s = true := fun w hw => atoms_spec (ws := mws yX6_refused cX6_refused 2 (some .int)) B.pre w (List.mem_cons_of_mem _ hw)
  have hown : s.vm.findClass RX6 = some m.cls := findClass_of_methodNamed B.named
  have hlocks := B.notSynchronized
  have hD := inW_self hD0
  generalize hAe : inW [(a_o, .inr (5, [.ref a_o_suite, .ref a_o_past, .ref a_o_text, .ref a_o_orders, .ref a_o_spare, .int (o_timesBad), .int (o_timesNo), .int (o_timesFull)]))] = A at hD ⊢
  have hS : va_S A s.heap s.heap [] := va_S.rf
  have hl := lv_entry ([.ref a_o, .int x1]) (n := 2) (Nat.le_of_ble_eq_true rfl)
  rw [lg_entry_eq]
  generalize (lg_sl ([.ref a_o, .int x1]) ++ List.replicate (2 - (lg_sl ([.ref a_o, .int x1])).length) Slot.unset).toArray = ls at hl ⊢
  have hl : lv_has ls 2 [(0, .ref a_o), (1, .int x1)] := hl
  have S : CallFix p m c cX6_refused 2 s _ GW RX6 := ⟨hx, hb, hml, hown, hts⟩
  unfold f_X6_refused at h
  refine lv_iload_n hx hb dX6_refused_0 rfl (lv_at hl 1 rfl) ?_
  refine lv_bipush (v := (-2 : Int32)) hx hb dX6_refused_1 (by decide) ?_
  refine lv_icmp_ne (tgt := 19) hx hb dX6_refused_3 (by decide) (fun c1 => ?_) (fun c1 => ?_)
  · have h := it_f c1 h
    refine lv_iload_n hx hb dX6_refused_19 rfl (lv_at hl 1 rfl) ?_
    refine lv_bipush (v := (-3 : Int32)) hx hb dX6_refused_20 (by decide) ?_
    refine lv_icmp_ne (tgt := 38) hx hb dX6_refused_22 (by decide) (fun c2 => ?_) (fun c2 => ?_)
    · have h := it_f c2 h
      refine lv_aload_n hx hb dX6_refused_38 rfl (lv_at hl 0 rfl) ?_
      refine lv_dup hx hb dX6_refused_39 rfl ?_
      refine gfX6_7 hx hb hts hown hK hP 0 rfl wfX6_219 dX6_refused_40 ?_
      refine lv_iconst (v := (1 : Int32)) hx hb dX6_refused_43 (by decide) ?_
      refine lv_iadd hx hb dX6_refused_44 ?_
      refine lv_topi (fun y3 ey3 => ?_)
      have h := nm_use h ey3
      refine pfX6_7 (ws' := [(a_o, .inr (5, [.ref a_o_suite, .ref a_o_past, .ref a_o_text, .ref a_o_orders, .ref a_o_spare, .int (o_timesBad), .int (o_timesNo), .int (y3)]))]) hx hb hts hown hK hP hD hS 0 rfl rfl wfX6_219 dX6_refused_45 (fun H locs hP hD hS => ?_)
      refine lv_iload_n hx hb dX6_refused_48 rfl (lv_at hl 1 rfl) ?_
      cases h
      exact W.iret hx hb hr (fun t ht _ => ⟨rfl, by rw [ht]; exact hP, hS.F ht⟩) hS.2.2 dX6_refused_49
    · have h := it_t c2 h
      refine lv_aload_n hx hb dX6_refused_25 rfl (lv_at hl 0 rfl) ?_
      refine lv_dup hx hb dX6_refused_26 rfl ?_
      refine gfX6_6 hx hb hts hown hK hP 0 rfl wfX6_216 dX6_refused_27 ?_
      refine lv_iconst (v := (1 : Int32)) hx hb dX6_refused_30 (by decide) ?_
      refine lv_iadd hx hb dX6_refused_31 ?_
      refine lv_topi (fun y4 ey4 => ?_)
      have h := nm_use h ey4
      refine pfX6_6 (ws' := [(a_o, .inr (5, [.ref a_o_suite, .ref a_o_past, .ref a_o_text, .ref a_o_orders, .ref a_o_spare, .int (o_timesBad), .int (y4), .int (o_timesFull)]))]) hx hb hts hown hK hP hD hS 0 rfl rfl wfX6_216 dX6_refused_32 (fun H locs hP hD hS => ?_)
      refine lv_goto (tgt := 48) hx hb dX6_refused_35 (by decide) ?_
      refine lv_iload_n hx hb dX6_refused_48 rfl (lv_at hl 1 rfl) ?_
      cases h
      exact W.iret hx hb hr (fun t ht _ => ⟨rfl, by rw [ht]; exact hP, hS.F ht⟩) hS.2.2 dX6_refused_49
  · have h := it_t c1 h
    refine lv_aload_n hx hb dX6_refused_6 rfl (lv_at hl 0 rfl) ?_
    refine lv_dup hx hb dX6_refused_7 rfl ?_
    refine gfX6_5 hx hb hts hown hK hP 0 rfl wfX6_213 dX6_refused_8 ?_
    refine lv_iconst (v := (1 : Int32)) hx hb dX6_refused_11 (by decide) ?_
    refine lv_iadd hx hb dX6_refused_12 ?_
    refine lv_topi (fun y5 ey5 => ?_)
    have h := nm_use h ey5
    refine pfX6_5 (ws' := [(a_o, .inr (5, [.ref a_o_suite, .ref a_o_past, .ref a_o_text, .ref a_o_orders, .ref a_o_spare, .int (y5), .int (o_timesNo), .int (o_timesFull)]))]) hx hb hts hown hK hP hD hS 0 rfl rfl wfX6_213 dX6_refused_13 (fun H locs hP hD hS => ?_)
    refine lv_goto (tgt := 48) hx hb dX6_refused_16 (by decide) ?_
    refine lv_iload_n hx hb dX6_refused_48 rfl (lv_at hl 1 rfl) ?_
    cases h
    exact W.iret hx hb hr (fun t ht _ => ⟨rfl, by rw [ht]; exact hP, hS.F ht⟩) hS.2.2 dX6_refused_49
def f_X6_at (o_timesBad : Int32) (o_timesNo : Int32) (o_timesFull : Int32) (o_suite_row_size : Int32) (o_suite_row_tests : Ar) (x1 : Int32) : Option (Int32 × Int32 × Int32 × Int32) := (if (0 : Int32) ≤ x1 then bd1 (f_X3_nth o_suite_row_size o_suite_row_tests x1) (fun r2 => some (r2, o_timesBad, o_timesNo, o_timesFull)) else bd4 (f_X6_refused o_timesBad o_timesNo o_timesFull (-2 : Int32)) (fun r4 w5 w6 w7 => some (r4, w5, w6, w7)))
set_option maxHeartbeats 4000000 in
set_option maxRecDepth 100000 in
theorem c_X6_at (l : Launch) (D : va_G) (cI cS : ClassId) (a_o : Nat) (a_o_suite : Nat) (a_o_suite_row : Nat) (a_o_suite_row_tests : Nat) (a_o_past : Nat) (a_o_text : Nat) (a_o_orders : Nat) (a_o_spare : Nat) (a_o_suite_masks : Nat) (o_timesBad : Int32) (o_timesNo : Int32) (o_timesFull : Int32) (o_suite_size : Int32) (o_suite_startCells : Int32) (o_suite_modeNow : Int32) (o_suite_row_size : Int32) (o_suite_row_tests : Ar) (x1 : Int32) (r0 : Int32) (o_timesBad' : Int32) (o_timesNo' : Int32) (o_timesFull' : Int32) (h : f_X6_at o_timesBad o_timesNo o_timesFull o_suite_row_size o_suite_row_tests x1 = some (r0, o_timesBad', o_timesNo', o_timesFull')) : wrM l D cI cS yX6_at cX6_at 2 (some .int) 1 21 [.ref a_o, .int x1] [(a_o, .inr (5, [.ref a_o_suite, .ref a_o_past, .ref a_o_text, .ref a_o_orders, .ref a_o_spare, .int (o_timesBad), .int (o_timesNo), .int (o_timesFull)])), (a_o_suite, .inr (3, [.ref a_o_suite_masks, .ref a_o_suite_row, .int (o_suite_size), .int (o_suite_startCells), .int (o_suite_modeNow)])), (a_o_suite_row, .inr (2, [.ref a_o_suite_row_tests, .int (o_suite_row_size)])), (a_o_suite_row_tests, .inl (cI, 8, .inl (o_suite_row_tests)))] [(a_o, .inr (5, [.ref a_o_suite, .ref a_o_past, .ref a_o_text, .ref a_o_orders, .ref a_o_spare, .int (o_timesBad'), .int (o_timesNo'), .int (o_timesFull')])), (a_o_suite, .inr (3, [.ref a_o_suite_masks, .ref a_o_suite_row, .int (o_suite_size), .int (o_suite_startCells), .int (o_suite_modeNow)])), (a_o_suite_row, .inr (2, [.ref a_o_suite_row_tests, .int (o_suite_row_size)])), (a_o_suite_row_tests, .inl (cI, 8, .inl (o_suite_row_tests)))] (some (.int r0)) := by
  refine Met.ofW (cc := cX6_at) (maxL := 2) (ret := (some .int)) (by decide) rfl ?_
  intro p e s m args below meth c s₁ B hml hv
  obtain ⟨rfl, hP, hK, hD0⟩ := hv
  have hx := B.exec
  have hb := B.bytes
  have hr := B.returns
  have hts : ∀ w ∈ GW, w.before _ s = true := fun w hw => atoms_spec (ws := mws yX6_at cX6_at 2 (some .int)) B.pre w (List.mem_cons_of_mem _ hw)
  have hown : s.vm.findClass RX6 = some m.cls := findClass_of_methodNamed B.named
  have hlocks := B.notSynchronized
  have hD := inW_self hD0
  generalize hAe : inW [(a_o, .inr (5, [.ref a_o_suite, .ref a_o_past, .ref a_o_text, .ref a_o_orders, .ref a_o_spare, .int (o_timesBad), .int (o_timesNo), .int (o_timesFull)])), (a_o_suite, .inr (3, [.ref a_o_suite_masks, .ref a_o_suite_row, .int (o_suite_size), .int (o_suite_startCells), .int (o_suite_modeNow)])), (a_o_suite_row, .inr (2, [.ref a_o_suite_row_tests, .int (o_suite_row_size)])), (a_o_suite_row_tests, .inl (cI, 8, .inl (o_suite_row_tests)))] = A at hD ⊢
  have hS : va_S A s.heap s.heap [] := va_S.rf
  have hl := lv_entry ([.ref a_o, .int x1]) (n := 2) (Nat.le_of_ble_eq_true rfl)
  rw [lg_entry_eq]
  generalize (lg_sl ([.ref a_o, .int x1]) ++ List.replicate (2 - (lg_sl ([.ref a_o, .int x1])).length) Slot.unset).toArray = ls at hl ⊢
  have hl : lv_has ls 2 [(0, .ref a_o), (1, .int x1)] := hl
  have S : CallFix p m c cX6_at 2 s _ GW RX6 := ⟨hx, hb, hml, hown, hts⟩
  unfold f_X6_at at h
  refine lv_iload_n hx hb dX6_at_0 rfl (lv_at hl 1 rfl) ?_
  refine lv_if_ge (tgt := 11) hx hb dX6_at_1 (by decide) (fun c1 => ?_) (fun c1 => ?_)
  · have h := it_t c1 h
    refine lv_aload_n hx hb dX6_at_11 rfl (lv_at hl 0 rfl) ?_
    refine gfX6_0 hx hb hts hown hK hP 0 rfl wfX6_10 dX6_at_12 ?_
    refine gnX4_1 hx hb hts hown hK hP 1 rfl wnX6_120 dX6_at_15 ?_
    refine lv_iload_n hx hb dX6_at_18 rfl (lv_at hl 1 rfl) ?_
    obtain ⟨r2, hc3, h⟩ := bd1_use h
    refine ro_V (As := [.int x1]) (rest := []) S (c_X3_nth l D cI cS a_o_suite_row a_o_suite_row_tests o_suite_row_size o_suite_row_tests x1 r2 hc3) (cwV1 hts cvX3_nth wmX6_123 rfl rfl ⟨(Nat.le_of_ble_eq_true rfl), (Nat.le_of_ble_eq_true rfl)⟩) hK hP [2, 3] rfl 2 rfl rfl rfl rfl hl.1 rfl (Nat.le_of_ble_eq_true rfl) dX6_at_19 ⟨Nat.zero_le _, Nat.zero_le _⟩ rfl ?_
    cases h
    exact W.iret hx hb hr (fun t ht _ => ⟨rfl, by rw [ht]; exact hP, hS.F ht⟩) hS.2.2 dX6_at_22
  · have h := it_f c1 h
    refine lv_aload_n hx hb dX6_at_4 rfl (lv_at hl 0 rfl) ?_
    refine lv_bipush (v := (-2 : Int32)) hx hb dX6_at_5 (by decide) ?_
    obtain ⟨r4, w5, w6, w7, hc8, h⟩ := bd4_use h
    refine wr_V (As := [.int (-2 : Int32)]) (rest := []) (ws' := [(a_o, .inr (5, [.ref a_o_suite, .ref a_o_past, .ref a_o_text, .ref a_o_orders, .ref a_o_spare, .int (w5), .int (w6), .int (w7)])), (a_o_suite, .inr (3, [.ref a_o_suite_masks, .ref a_o_suite_row, .int (o_suite_size), .int (o_suite_startCells), .int (o_suite_modeNow)])), (a_o_suite_row, .inr (2, [.ref a_o_suite_row_tests, .int (o_suite_row_size)])), (a_o_suite_row_tests, .inl (cI, 8, .inl (o_suite_row_tests)))]) S (c_X6_refused l D cI cS a_o a_o_suite a_o_past a_o_text a_o_orders a_o_spare o_timesBad o_timesNo o_timesFull (-2 : Int32) r4 w5 w6 w7 hc8) (cwV1 hts cvX6_refused wmX6_82 rfl rfl ⟨(Nat.le_of_ble_eq_true rfl), (Nat.le_of_ble_eq_true rfl)⟩) hK hP hD hS [0] rfl rfl [(true, 0), (false, 1), (false, 2), (false, 3)] rfl rfl rfl 0 rfl rfl rfl rfl hl.1 rfl (Nat.le_of_ble_eq_true rfl) dX6_at_7 ⟨Nat.zero_le _, Nat.zero_le _⟩ rfl (fun H locs hP hD hS => ?_)
    cases h
    exact W.iret hx hb hr (fun t ht _ => ⟨rfl, by rw [ht]; exact hP, hS.F ht⟩) hS.2.2 dX6_at_10
def f_X6_back (o_timesBad : Int32) (o_timesNo : Int32) (o_timesFull : Int32) (o_suite_size : Int32) (o_suite_startCells : Int32) (o_suite_modeNow : Int32) (o_suite_masks : Ar) (o_suite_row_size : Int32) (o_suite_row_tests : Ar) (o_past_size : Int32) (o_past_marked : Int32) (o_past_F_pM : Nat → Ar) (o_past_F_pT : Nat → Ar) (o_past_F_pN : Nat → Int32) (o_past_F_pS : Nat → Int32) (o_past_F_pB : Nat → Int32) (o_past_F_pO : Nat → Int32) : Option (Int32 × Int32 × Int32 × Int32 × Int32 × Int32 × Int32 × Ar × Int32 × Ar × Int32 × Int32) := (if o_past_size = (0 : Int32) then bd4 (f_X6_refused o_timesBad o_timesNo o_timesFull (-3 : Int32)) (fun r12 w13 w14 w15 => some (r12, w13, w14, w15, o_suite_size, o_suite_startCells, o_suite_modeNow, o_suite_masks, o_suite_row_size, o_suite_row_tests, o_past_size, o_past_marked)) else bd9 (f_X1_stepBack o_past_size o_past_marked o_past_F_pM o_past_F_pT o_past_F_pN o_past_F_pS o_past_F_pB o_past_F_pO o_suite_size o_suite_startCells o_suite_modeNow o_suite_masks o_suite_row_size o_suite_row_tests) (fun r2 w3 w4 w5 w6 w7 w8 w9 w10 => some (r2, o_timesBad, o_timesNo, o_timesFull, w5, w6, w7, w8, w9, w10, w3, w4)))
set_option maxHeartbeats 4000000 in
set_option maxRecDepth 100000 in
theorem c_X6_back (l : Launch) (D : va_G) (cI cS : ClassId) (a_o : Nat) (a_o_suite : Nat) (a_o_suite_masks : Nat) (a_o_suite_row : Nat) (a_o_suite_row_tests : Nat) (a_o_past : Nat) (a_o_past_slots : Nat) (o_past_F_fa : Nat → Nat) (o_past_F_fm : Nat → Nat) (o_past_F_fr : Nat → Nat) (o_past_F_ft : Nat → Nat) (a_o_text : Nat) (a_o_orders : Nat) (a_o_spare : Nat) (o_timesBad : Int32) (o_timesNo : Int32) (o_timesFull : Int32) (o_suite_size : Int32) (o_suite_startCells : Int32) (o_suite_modeNow : Int32) (o_suite_masks : Ar) (o_suite_row_size : Int32) (o_suite_row_tests : Ar) (o_past_size : Int32) (o_past_marked : Int32) (o_past_F_pM : Nat → Ar) (o_past_F_pT : Nat → Ar) (o_past_F_pN : Nat → Int32) (o_past_F_pS : Nat → Int32) (o_past_F_pB : Nat → Int32) (o_past_F_pO : Nat → Int32) (r0 : Int32) (o_timesBad' : Int32) (o_timesNo' : Int32) (o_timesFull' : Int32) (o_suite_size' : Int32) (o_suite_startCells' : Int32) (o_suite_modeNow' : Int32) (o_suite_masks' : Ar) (o_suite_row_size' : Int32) (o_suite_row_tests' : Ar) (o_past_size' : Int32) (o_past_marked' : Int32) (h : f_X6_back o_timesBad o_timesNo o_timesFull o_suite_size o_suite_startCells o_suite_modeNow o_suite_masks o_suite_row_size o_suite_row_tests o_past_size o_past_marked o_past_F_pM o_past_F_pT o_past_F_pN o_past_F_pS o_past_F_pB o_past_F_pO = some (r0, o_timesBad', o_timesNo', o_timesFull', o_suite_size', o_suite_startCells', o_suite_modeNow', o_suite_masks', o_suite_row_size', o_suite_row_tests', o_past_size', o_past_marked')) : wrM l D cI cS yX6_back cX6_back 1 (some .int) 5 125 [.ref a_o] [(a_o, .inr (5, [.ref a_o_suite, .ref a_o_past, .ref a_o_text, .ref a_o_orders, .ref a_o_spare, .int (o_timesBad), .int (o_timesNo), .int (o_timesFull)])), (a_o_suite, .inr (3, [.ref a_o_suite_masks, .ref a_o_suite_row, .int (o_suite_size), .int (o_suite_startCells), .int (o_suite_modeNow)])), (a_o_suite_masks, .inl (cI, 40, .inl (o_suite_masks))), (a_o_suite_row, .inr (2, [.ref a_o_suite_row_tests, .int (o_suite_row_size)])), (a_o_suite_row_tests, .inl (cI, 8, .inl (o_suite_row_tests))), (a_o_past, .inr (1, [.ref a_o_past_slots, .int (o_past_size), .int (o_past_marked)])), (a_o_past_slots, .inl (cS, 6, .inr (.inr (.inr (.inr (fun j => some (o_past_F_fa j))))))), (o_past_F_fa 0, .inr (3, [.ref (o_past_F_fm 0), .ref (o_past_F_fr 0), .int (o_past_F_pS 0), .int (o_past_F_pB 0), .int (o_past_F_pO 0)])), (o_past_F_fm 0, .inl (cI, 40, .inl (o_past_F_pM 0))), (o_past_F_fr 0, .inr (2, [.ref (o_past_F_ft 0), .int (o_past_F_pN 0)])), (o_past_F_ft 0, .inl (cI, 8, .inl (o_past_F_pT 0))), (o_past_F_fa 1, .inr (3, [.ref (o_past_F_fm 1), .ref (o_past_F_fr 1), .int (o_past_F_pS 1), .int (o_past_F_pB 1), .int (o_past_F_pO 1)])), (o_past_F_fm 1, .inl (cI, 40, .inl (o_past_F_pM 1))), (o_past_F_fr 1, .inr (2, [.ref (o_past_F_ft 1), .int (o_past_F_pN 1)])), (o_past_F_ft 1, .inl (cI, 8, .inl (o_past_F_pT 1))), (o_past_F_fa 2, .inr (3, [.ref (o_past_F_fm 2), .ref (o_past_F_fr 2), .int (o_past_F_pS 2), .int (o_past_F_pB 2), .int (o_past_F_pO 2)])), (o_past_F_fm 2, .inl (cI, 40, .inl (o_past_F_pM 2))), (o_past_F_fr 2, .inr (2, [.ref (o_past_F_ft 2), .int (o_past_F_pN 2)])), (o_past_F_ft 2, .inl (cI, 8, .inl (o_past_F_pT 2))), (o_past_F_fa 3, .inr (3, [.ref (o_past_F_fm 3), .ref (o_past_F_fr 3), .int (o_past_F_pS 3), .int (o_past_F_pB 3), .int (o_past_F_pO 3)])), (o_past_F_fm 3, .inl (cI, 40, .inl (o_past_F_pM 3))), (o_past_F_fr 3, .inr (2, [.ref (o_past_F_ft 3), .int (o_past_F_pN 3)])), (o_past_F_ft 3, .inl (cI, 8, .inl (o_past_F_pT 3))), (o_past_F_fa 4, .inr (3, [.ref (o_past_F_fm 4), .ref (o_past_F_fr 4), .int (o_past_F_pS 4), .int (o_past_F_pB 4), .int (o_past_F_pO 4)])), (o_past_F_fm 4, .inl (cI, 40, .inl (o_past_F_pM 4))), (o_past_F_fr 4, .inr (2, [.ref (o_past_F_ft 4), .int (o_past_F_pN 4)])), (o_past_F_ft 4, .inl (cI, 8, .inl (o_past_F_pT 4))), (o_past_F_fa 5, .inr (3, [.ref (o_past_F_fm 5), .ref (o_past_F_fr 5), .int (o_past_F_pS 5), .int (o_past_F_pB 5), .int (o_past_F_pO 5)])), (o_past_F_fm 5, .inl (cI, 40, .inl (o_past_F_pM 5))), (o_past_F_fr 5, .inr (2, [.ref (o_past_F_ft 5), .int (o_past_F_pN 5)])), (o_past_F_ft 5, .inl (cI, 8, .inl (o_past_F_pT 5)))] [(a_o, .inr (5, [.ref a_o_suite, .ref a_o_past, .ref a_o_text, .ref a_o_orders, .ref a_o_spare, .int (o_timesBad'), .int (o_timesNo'), .int (o_timesFull')])), (a_o_suite, .inr (3, [.ref a_o_suite_masks, .ref a_o_suite_row, .int (o_suite_size'), .int (o_suite_startCells'), .int (o_suite_modeNow')])), (a_o_suite_masks, .inl (cI, 40, .inl (o_suite_masks'))), (a_o_suite_row, .inr (2, [.ref a_o_suite_row_tests, .int (o_suite_row_size')])), (a_o_suite_row_tests, .inl (cI, 8, .inl (o_suite_row_tests'))), (a_o_past, .inr (1, [.ref a_o_past_slots, .int (o_past_size'), .int (o_past_marked')])), (a_o_past_slots, .inl (cS, 6, .inr (.inr (.inr (.inr (fun j => some (o_past_F_fa j))))))), (o_past_F_fa 0, .inr (3, [.ref (o_past_F_fm 0), .ref (o_past_F_fr 0), .int (o_past_F_pS 0), .int (o_past_F_pB 0), .int (o_past_F_pO 0)])), (o_past_F_fm 0, .inl (cI, 40, .inl (o_past_F_pM 0))), (o_past_F_fr 0, .inr (2, [.ref (o_past_F_ft 0), .int (o_past_F_pN 0)])), (o_past_F_ft 0, .inl (cI, 8, .inl (o_past_F_pT 0))), (o_past_F_fa 1, .inr (3, [.ref (o_past_F_fm 1), .ref (o_past_F_fr 1), .int (o_past_F_pS 1), .int (o_past_F_pB 1), .int (o_past_F_pO 1)])), (o_past_F_fm 1, .inl (cI, 40, .inl (o_past_F_pM 1))), (o_past_F_fr 1, .inr (2, [.ref (o_past_F_ft 1), .int (o_past_F_pN 1)])), (o_past_F_ft 1, .inl (cI, 8, .inl (o_past_F_pT 1))), (o_past_F_fa 2, .inr (3, [.ref (o_past_F_fm 2), .ref (o_past_F_fr 2), .int (o_past_F_pS 2), .int (o_past_F_pB 2), .int (o_past_F_pO 2)])), (o_past_F_fm 2, .inl (cI, 40, .inl (o_past_F_pM 2))), (o_past_F_fr 2, .inr (2, [.ref (o_past_F_ft 2), .int (o_past_F_pN 2)])), (o_past_F_ft 2, .inl (cI, 8, .inl (o_past_F_pT 2))), (o_past_F_fa 3, .inr (3, [.ref (o_past_F_fm 3), .ref (o_past_F_fr 3), .int (o_past_F_pS 3), .int (o_past_F_pB 3), .int (o_past_F_pO 3)])), (o_past_F_fm 3, .inl (cI, 40, .inl (o_past_F_pM 3))), (o_past_F_fr 3, .inr (2, [.ref (o_past_F_ft 3), .int (o_past_F_pN 3)])), (o_past_F_ft 3, .inl (cI, 8, .inl (o_past_F_pT 3))), (o_past_F_fa 4, .inr (3, [.ref (o_past_F_fm 4), .ref (o_past_F_fr 4), .int (o_past_F_pS 4), .int (o_past_F_pB 4), .int (o_past_F_pO 4)])), (o_past_F_fm 4, .inl (cI, 40, .inl (o_past_F_pM 4))), (o_past_F_fr 4, .inr (2, [.ref (o_past_F_ft 4), .int (o_past_F_pN 4)])), (o_past_F_ft 4, .inl (cI, 8, .inl (o_past_F_pT 4))), (o_past_F_fa 5, .inr (3, [.ref (o_past_F_fm 5), .ref (o_past_F_fr 5), .int (o_past_F_pS 5), .int (o_past_F_pB 5), .int (o_past_F_pO 5)])), (o_past_F_fm 5, .inl (cI, 40, .inl (o_past_F_pM 5))), (o_past_F_fr 5, .inr (2, [.ref (o_past_F_ft 5), .int (o_past_F_pN 5)])), (o_past_F_ft 5, .inl (cI, 8, .inl (o_past_F_pT 5)))] (some (.int r0)) := by
  refine Met.ofW (cc := cX6_back) (maxL := 1) (ret := (some .int)) (by decide) rfl ?_
  intro p e s m args below meth c s₁ B hml hv
  obtain ⟨rfl, hP, hK, hD0⟩ := hv
  have hx := B.exec
  have hb := B.bytes
  have hr := B.returns
  have hts : ∀ w ∈ GW, w.before _ s = true := fun w hw => atoms_spec (ws := mws yX6_back cX6_back 1 (some .int)) B.pre w (List.mem_cons_of_mem _ hw)
  have hown : s.vm.findClass RX6 = some m.cls := findClass_of_methodNamed B.named
  have hlocks := B.notSynchronized
  have hD := inW_self hD0
  generalize hAe : inW [(a_o, .inr (5, [.ref a_o_suite, .ref a_o_past, .ref a_o_text, .ref a_o_orders, .ref a_o_spare, .int (o_timesBad), .int (o_timesNo), .int (o_timesFull)])), (a_o_suite, .inr (3, [.ref a_o_suite_masks, .ref a_o_suite_row, .int (o_suite_size), .int (o_suite_startCells), .int (o_suite_modeNow)])), (a_o_suite_masks, .inl (cI, 40, .inl (o_suite_masks))), (a_o_suite_row, .inr (2, [.ref a_o_suite_row_tests, .int (o_suite_row_size)])), (a_o_suite_row_tests, .inl (cI, 8, .inl (o_suite_row_tests))), (a_o_past, .inr (1, [.ref a_o_past_slots, .int (o_past_size), .int (o_past_marked)])), (a_o_past_slots, .inl (cS, 6, .inr (.inr (.inr (.inr (fun j => some (o_past_F_fa j))))))), (o_past_F_fa 0, .inr (3, [.ref (o_past_F_fm 0), .ref (o_past_F_fr 0), .int (o_past_F_pS 0), .int (o_past_F_pB 0), .int (o_past_F_pO 0)])), (o_past_F_fm 0, .inl (cI, 40, .inl (o_past_F_pM 0))), (o_past_F_fr 0, .inr (2, [.ref (o_past_F_ft 0), .int (o_past_F_pN 0)])), (o_past_F_ft 0, .inl (cI, 8, .inl (o_past_F_pT 0))), (o_past_F_fa 1, .inr (3, [.ref (o_past_F_fm 1), .ref (o_past_F_fr 1), .int (o_past_F_pS 1), .int (o_past_F_pB 1), .int (o_past_F_pO 1)])), (o_past_F_fm 1, .inl (cI, 40, .inl (o_past_F_pM 1))), (o_past_F_fr 1, .inr (2, [.ref (o_past_F_ft 1), .int (o_past_F_pN 1)])), (o_past_F_ft 1, .inl (cI, 8, .inl (o_past_F_pT 1))), (o_past_F_fa 2, .inr (3, [.ref (o_past_F_fm 2), .ref (o_past_F_fr 2), .int (o_past_F_pS 2), .int (o_past_F_pB 2), .int (o_past_F_pO 2)])), (o_past_F_fm 2, .inl (cI, 40, .inl (o_past_F_pM 2))), (o_past_F_fr 2, .inr (2, [.ref (o_past_F_ft 2), .int (o_past_F_pN 2)])), (o_past_F_ft 2, .inl (cI, 8, .inl (o_past_F_pT 2))), (o_past_F_fa 3, .inr (3, [.ref (o_past_F_fm 3), .ref (o_past_F_fr 3), .int (o_past_F_pS 3), .int (o_past_F_pB 3), .int (o_past_F_pO 3)])), (o_past_F_fm 3, .inl (cI, 40, .inl (o_past_F_pM 3))), (o_past_F_fr 3, .inr (2, [.ref (o_past_F_ft 3), .int (o_past_F_pN 3)])), (o_past_F_ft 3, .inl (cI, 8, .inl (o_past_F_pT 3))), (o_past_F_fa 4, .inr (3, [.ref (o_past_F_fm 4), .ref (o_past_F_fr 4), .int (o_past_F_pS 4), .int (o_past_F_pB 4), .int (o_past_F_pO 4)])), (o_past_F_fm 4, .inl (cI, 40, .inl (o_past_F_pM 4))), (o_past_F_fr 4, .inr (2, [.ref (o_past_F_ft 4), .int (o_past_F_pN 4)])), (o_past_F_ft 4, .inl (cI, 8, .inl (o_past_F_pT 4))), (o_past_F_fa 5, .inr (3, [.ref (o_past_F_fm 5), .ref (o_past_F_fr 5), .int (o_past_F_pS 5), .int (o_past_F_pB 5), .int (o_past_F_pO 5)])), (o_past_F_fm 5, .inl (cI, 40, .inl (o_past_F_pM 5))), (o_past_F_fr 5, .inr (2, [.ref (o_past_F_ft 5), .int (o_past_F_pN 5)])), (o_past_F_ft 5, .inl (cI, 8, .inl (o_past_F_pT 5)))] = A at hD ⊢
  have hS : va_S A s.heap s.heap [] := va_S.rf
  have hl := lv_entry ([.ref a_o]) (n := 1) (Nat.le_of_ble_eq_true rfl)
  rw [lg_entry_eq]
  generalize (lg_sl ([.ref a_o]) ++ List.replicate (1 - (lg_sl ([.ref a_o])).length) Slot.unset).toArray = ls at hl ⊢
  have hl : lv_has ls 1 [(0, .ref a_o)] := hl
  have S : CallFix p m c cX6_back 1 s _ GW RX6 := ⟨hx, hb, hml, hown, hts⟩
  unfold f_X6_back at h
  refine lv_aload_n hx hb dX6_back_0 rfl (lv_at hl 0 rfl) ?_
  refine gfX6_1 hx hb hts hown hK hP 0 rfl wfX6_19 dX6_back_1 ?_
  refine gnX1_1 hx hb hts hown hK hP 5 rfl wnX6_208 dX6_back_4 ?_
  refine lv_if_ne (tgt := 17) hx hb dX6_back_7 (by decide) (fun c1 => ?_) (fun c1 => ?_)
  · have h := it_f c1 h
    refine lv_aload_n hx hb dX6_back_17 rfl (lv_at hl 0 rfl) ?_
    refine gfX6_1 hx hb hts hown hK hP 0 rfl wfX6_19 dX6_back_18 ?_
    refine lv_aload_n hx hb dX6_back_21 rfl (lv_at hl 0 rfl) ?_
    refine gfX6_0 hx hb hts hown hK hP 0 rfl wfX6_10 dX6_back_22 ?_
    obtain ⟨r2, w3, w4, w5, w6, w7, w8, w9, w10, hc11, h⟩ := bd9_use h
    refine wr_V (As := [.ref a_o_suite]) (rest := []) (ws' := [(a_o, .inr (5, [.ref a_o_suite, .ref a_o_past, .ref a_o_text, .ref a_o_orders, .ref a_o_spare, .int (o_timesBad), .int (o_timesNo), .int (o_timesFull)])), (a_o_suite, .inr (3, [.ref a_o_suite_masks, .ref a_o_suite_row, .int (w5), .int (w6), .int (w7)])), (a_o_suite_masks, .inl (cI, 40, .inl (w8))), (a_o_suite_row, .inr (2, [.ref a_o_suite_row_tests, .int (w9)])), (a_o_suite_row_tests, .inl (cI, 8, .inl (w10))), (a_o_past, .inr (1, [.ref a_o_past_slots, .int (w3), .int (w4)])), (a_o_past_slots, .inl (cS, 6, .inr (.inr (.inr (.inr (fun j => some (o_past_F_fa j))))))), (o_past_F_fa 0, .inr (3, [.ref (o_past_F_fm 0), .ref (o_past_F_fr 0), .int (o_past_F_pS 0), .int (o_past_F_pB 0), .int (o_past_F_pO 0)])), (o_past_F_fm 0, .inl (cI, 40, .inl (o_past_F_pM 0))), (o_past_F_fr 0, .inr (2, [.ref (o_past_F_ft 0), .int (o_past_F_pN 0)])), (o_past_F_ft 0, .inl (cI, 8, .inl (o_past_F_pT 0))), (o_past_F_fa 1, .inr (3, [.ref (o_past_F_fm 1), .ref (o_past_F_fr 1), .int (o_past_F_pS 1), .int (o_past_F_pB 1), .int (o_past_F_pO 1)])), (o_past_F_fm 1, .inl (cI, 40, .inl (o_past_F_pM 1))), (o_past_F_fr 1, .inr (2, [.ref (o_past_F_ft 1), .int (o_past_F_pN 1)])), (o_past_F_ft 1, .inl (cI, 8, .inl (o_past_F_pT 1))), (o_past_F_fa 2, .inr (3, [.ref (o_past_F_fm 2), .ref (o_past_F_fr 2), .int (o_past_F_pS 2), .int (o_past_F_pB 2), .int (o_past_F_pO 2)])), (o_past_F_fm 2, .inl (cI, 40, .inl (o_past_F_pM 2))), (o_past_F_fr 2, .inr (2, [.ref (o_past_F_ft 2), .int (o_past_F_pN 2)])), (o_past_F_ft 2, .inl (cI, 8, .inl (o_past_F_pT 2))), (o_past_F_fa 3, .inr (3, [.ref (o_past_F_fm 3), .ref (o_past_F_fr 3), .int (o_past_F_pS 3), .int (o_past_F_pB 3), .int (o_past_F_pO 3)])), (o_past_F_fm 3, .inl (cI, 40, .inl (o_past_F_pM 3))), (o_past_F_fr 3, .inr (2, [.ref (o_past_F_ft 3), .int (o_past_F_pN 3)])), (o_past_F_ft 3, .inl (cI, 8, .inl (o_past_F_pT 3))), (o_past_F_fa 4, .inr (3, [.ref (o_past_F_fm 4), .ref (o_past_F_fr 4), .int (o_past_F_pS 4), .int (o_past_F_pB 4), .int (o_past_F_pO 4)])), (o_past_F_fm 4, .inl (cI, 40, .inl (o_past_F_pM 4))), (o_past_F_fr 4, .inr (2, [.ref (o_past_F_ft 4), .int (o_past_F_pN 4)])), (o_past_F_ft 4, .inl (cI, 8, .inl (o_past_F_pT 4))), (o_past_F_fa 5, .inr (3, [.ref (o_past_F_fm 5), .ref (o_past_F_fr 5), .int (o_past_F_pS 5), .int (o_past_F_pB 5), .int (o_past_F_pO 5)])), (o_past_F_fm 5, .inl (cI, 40, .inl (o_past_F_pM 5))), (o_past_F_fr 5, .inr (2, [.ref (o_past_F_ft 5), .int (o_past_F_pN 5)])), (o_past_F_ft 5, .inl (cI, 8, .inl (o_past_F_pT 5)))]) S (c_X1_stepBack l D cI cS a_o_past a_o_past_slots o_past_F_fa o_past_F_fm o_past_F_fr o_past_F_ft a_o_suite a_o_suite_masks a_o_suite_row a_o_suite_row_tests o_past_size o_past_marked o_past_F_pM o_past_F_pT o_past_F_pN o_past_F_pS o_past_F_pB o_past_F_pO o_suite_size o_suite_startCells o_suite_modeNow o_suite_masks o_suite_row_size o_suite_row_tests r2 w3 w4 w5 w6 w7 w8 w9 w10 hc11) (cwV1 hts cvX1_stepBack wmX6_209 rfl rfl ⟨(Nat.le_of_ble_eq_true rfl), (Nat.le_of_ble_eq_true rfl)⟩) hK hP hD hS [5, 6, 7, 8, 9, 10, 11, 12, 13, 14, 15, 16, 17, 18, 19, 20, 21, 22, 23, 24, 25, 26, 27, 28, 29, 30, 1, 2, 3, 4] rfl rfl [(false, 0), (true, 26), (true, 27), (true, 28), (true, 29), (true, 0), (true, 1), (true, 2), (true, 3), (true, 4), (true, 5), (true, 6), (true, 7), (true, 8), (true, 9), (true, 10), (true, 11), (true, 12), (true, 13), (true, 14), (true, 15), (true, 16), (true, 17), (true, 18), (true, 19), (true, 20), (true, 21), (true, 22), (true, 23), (true, 24), (true, 25)] rfl rfl rfl 5 rfl rfl rfl rfl hl.1 rfl (Nat.le_of_ble_eq_true rfl) dX6_back_25 ⟨Nat.zero_le _, Nat.zero_le _⟩ rfl (fun H locs hP hD hS => ?_)
    cases h
    exact W.iret hx hb hr (fun t ht _ => ⟨rfl, by rw [ht]; exact hP, hS.F ht⟩) hS.2.2 dX6_back_28
  · have h := it_t c1 h
    refine lv_aload_n hx hb dX6_back_10 rfl (lv_at hl 0 rfl) ?_
    refine lv_bipush (v := (-3 : Int32)) hx hb dX6_back_11 (by decide) ?_
    obtain ⟨r12, w13, w14, w15, hc16, h⟩ := bd4_use h
    refine wr_V (As := [.int (-3 : Int32)]) (rest := []) (ws' := [(a_o, .inr (5, [.ref a_o_suite, .ref a_o_past, .ref a_o_text, .ref a_o_orders, .ref a_o_spare, .int (w13), .int (w14), .int (w15)])), (a_o_suite, .inr (3, [.ref a_o_suite_masks, .ref a_o_suite_row, .int (o_suite_size), .int (o_suite_startCells), .int (o_suite_modeNow)])), (a_o_suite_masks, .inl (cI, 40, .inl (o_suite_masks))), (a_o_suite_row, .inr (2, [.ref a_o_suite_row_tests, .int (o_suite_row_size)])), (a_o_suite_row_tests, .inl (cI, 8, .inl (o_suite_row_tests))), (a_o_past, .inr (1, [.ref a_o_past_slots, .int (o_past_size), .int (o_past_marked)])), (a_o_past_slots, .inl (cS, 6, .inr (.inr (.inr (.inr (fun j => some (o_past_F_fa j))))))), (o_past_F_fa 0, .inr (3, [.ref (o_past_F_fm 0), .ref (o_past_F_fr 0), .int (o_past_F_pS 0), .int (o_past_F_pB 0), .int (o_past_F_pO 0)])), (o_past_F_fm 0, .inl (cI, 40, .inl (o_past_F_pM 0))), (o_past_F_fr 0, .inr (2, [.ref (o_past_F_ft 0), .int (o_past_F_pN 0)])), (o_past_F_ft 0, .inl (cI, 8, .inl (o_past_F_pT 0))), (o_past_F_fa 1, .inr (3, [.ref (o_past_F_fm 1), .ref (o_past_F_fr 1), .int (o_past_F_pS 1), .int (o_past_F_pB 1), .int (o_past_F_pO 1)])), (o_past_F_fm 1, .inl (cI, 40, .inl (o_past_F_pM 1))), (o_past_F_fr 1, .inr (2, [.ref (o_past_F_ft 1), .int (o_past_F_pN 1)])), (o_past_F_ft 1, .inl (cI, 8, .inl (o_past_F_pT 1))), (o_past_F_fa 2, .inr (3, [.ref (o_past_F_fm 2), .ref (o_past_F_fr 2), .int (o_past_F_pS 2), .int (o_past_F_pB 2), .int (o_past_F_pO 2)])), (o_past_F_fm 2, .inl (cI, 40, .inl (o_past_F_pM 2))), (o_past_F_fr 2, .inr (2, [.ref (o_past_F_ft 2), .int (o_past_F_pN 2)])), (o_past_F_ft 2, .inl (cI, 8, .inl (o_past_F_pT 2))), (o_past_F_fa 3, .inr (3, [.ref (o_past_F_fm 3), .ref (o_past_F_fr 3), .int (o_past_F_pS 3), .int (o_past_F_pB 3), .int (o_past_F_pO 3)])), (o_past_F_fm 3, .inl (cI, 40, .inl (o_past_F_pM 3))), (o_past_F_fr 3, .inr (2, [.ref (o_past_F_ft 3), .int (o_past_F_pN 3)])), (o_past_F_ft 3, .inl (cI, 8, .inl (o_past_F_pT 3))), (o_past_F_fa 4, .inr (3, [.ref (o_past_F_fm 4), .ref (o_past_F_fr 4), .int (o_past_F_pS 4), .int (o_past_F_pB 4), .int (o_past_F_pO 4)])), (o_past_F_fm 4, .inl (cI, 40, .inl (o_past_F_pM 4))), (o_past_F_fr 4, .inr (2, [.ref (o_past_F_ft 4), .int (o_past_F_pN 4)])), (o_past_F_ft 4, .inl (cI, 8, .inl (o_past_F_pT 4))), (o_past_F_fa 5, .inr (3, [.ref (o_past_F_fm 5), .ref (o_past_F_fr 5), .int (o_past_F_pS 5), .int (o_past_F_pB 5), .int (o_past_F_pO 5)])), (o_past_F_fm 5, .inl (cI, 40, .inl (o_past_F_pM 5))), (o_past_F_fr 5, .inr (2, [.ref (o_past_F_ft 5), .int (o_past_F_pN 5)])), (o_past_F_ft 5, .inl (cI, 8, .inl (o_past_F_pT 5)))]) S (c_X6_refused l D cI cS a_o a_o_suite a_o_past a_o_text a_o_orders a_o_spare o_timesBad o_timesNo o_timesFull (-3 : Int32) r12 w13 w14 w15 hc16) (cwV1 hts cvX6_refused wmX6_82 rfl rfl ⟨(Nat.le_of_ble_eq_true rfl), (Nat.le_of_ble_eq_true rfl)⟩) hK hP hD hS [0] rfl rfl [(true, 0), (false, 1), (false, 2), (false, 3), (false, 4), (false, 5), (false, 6), (false, 7), (false, 8), (false, 9), (false, 10), (false, 11), (false, 12), (false, 13), (false, 14), (false, 15), (false, 16), (false, 17), (false, 18), (false, 19), (false, 20), (false, 21), (false, 22), (false, 23), (false, 24), (false, 25), (false, 26), (false, 27), (false, 28), (false, 29), (false, 30)] rfl rfl rfl 0 rfl rfl rfl rfl hl.1 rfl (Nat.le_of_ble_eq_true rfl) dX6_back_13 ⟨Nat.zero_le _, Nat.zero_le _⟩ rfl (fun H locs hP hD hS => ?_)
    cases h
    exact W.iret hx hb hr (fun t ht _ => ⟨rfl, by rw [ht]; exact hP, hS.F ht⟩) hS.2.2 dX6_back_16
def f_X6_carryOut (o_suite_size : Int32) (o_suite_startCells : Int32) (o_suite_modeNow : Int32) (o_suite_masks : Ar) (o_suite_row_size : Int32) (o_suite_row_tests : Ar) (o_orders_letters : Ar) (o_orders_numbers : Ar) (x1 : Int32) : Option (Int32 × Int32 × Int32 × Int32 × Ar × Int32 × Ar) := bd1 (f_X0_number o_orders_numbers x1 (0 : Int32)) (fun r1 => bd1 (f_X0_letter o_orders_letters x1) (fun r3 => (if r3 = (99 : Int32) then bd4 (f_X4_cutLast o_suite_size o_suite_row_size o_suite_row_tests) (fun r36 w37 w38 w39 => some (r36, w37, o_suite_startCells, o_suite_modeNow, o_suite_masks, w38, w39)) else (if r3 = (109 : Int32) then bd2 (f_X4_changeMode o_suite_modeNow r1) (fun r33 w34 => some (r33, o_suite_size, o_suite_startCells, w34, o_suite_masks, o_suite_row_size, o_suite_row_tests)) else (if r3 = (114 : Int32) then bd3 (f_X4_layTest o_suite_size o_suite_row_size o_suite_row_tests r1) (fun r29 w30 w31 => some (r29, o_suite_size, o_suite_startCells, o_suite_modeNow, o_suite_masks, w30, w31)) else (if r3 = (115 : Int32) then bd2 (f_X4_changeStart o_suite_startCells r1) (fun r26 w27 => some (r26, o_suite_size, w27, o_suite_modeNow, o_suite_masks, o_suite_row_size, o_suite_row_tests)) else (if r3 = (116 : Int32) then bd1 (f_X0_number o_orders_numbers x1 (1 : Int32)) (fun r14 => bd1 (f_X0_number o_orders_numbers x1 (2 : Int32)) (fun r16 => bd1 (f_X0_number o_orders_numbers x1 (3 : Int32)) (fun r18 => bd1 (f_X0_number o_orders_numbers x1 (4 : Int32)) (fun r20 => bd3 (f_X4_addTest o_suite_size o_suite_masks r1 r14 r16 r18 r20) (fun r22 w23 w24 => some (r22, w23, o_suite_startCells, o_suite_modeNow, w24, o_suite_row_size, o_suite_row_tests)))))) else (if r3 = (119 : Int32) then bd2 (f_X4_wipeRow o_suite_row_size) (fun r11 w12 => some (r11, o_suite_size, o_suite_startCells, o_suite_modeNow, o_suite_masks, w12, o_suite_row_tests)) else some ((-2 : Int32), o_suite_size, o_suite_startCells, o_suite_modeNow, o_suite_masks, o_suite_row_size, o_suite_row_tests)))))))))
set_option maxHeartbeats 4000000 in
set_option maxRecDepth 100000 in
theorem c_X6_carryOut (l : Launch) (D : va_G) (cI cS : ClassId) (a_o : Nat) (a_o_suite : Nat) (a_o_suite_masks : Nat) (a_o_suite_row : Nat) (a_o_suite_row_tests : Nat) (a_o_orders : Nat) (a_o_orders_letters : Nat) (a_o_orders_numbers : Nat) (a_o_past : Nat) (a_o_text : Nat) (a_o_spare : Nat) (o_timesBad : Int32) (o_timesNo : Int32) (o_timesFull : Int32) (o_suite_size : Int32) (o_suite_startCells : Int32) (o_suite_modeNow : Int32) (o_suite_masks : Ar) (o_suite_row_size : Int32) (o_suite_row_tests : Ar) (o_orders_size : Int32) (o_orders_wanted : Int32) (o_orders_begun : Int32) (o_orders_figures : Int32) (o_orders_letters : Ar) (o_orders_numbers : Ar) (x1 : Int32) (r0 : Int32) (o_suite_size' : Int32) (o_suite_startCells' : Int32) (o_suite_modeNow' : Int32) (o_suite_masks' : Ar) (o_suite_row_size' : Int32) (o_suite_row_tests' : Ar) (h : f_X6_carryOut o_suite_size o_suite_startCells o_suite_modeNow o_suite_masks o_suite_row_size o_suite_row_tests o_orders_letters o_orders_numbers x1 = some (r0, o_suite_size', o_suite_startCells', o_suite_modeNow', o_suite_masks', o_suite_row_size', o_suite_row_tests')) : wrM l D cI cS yX6_carryOut cX6_carryOut 3 (some .int) 3 65 [.ref a_o, .int x1] [(a_o, .inr (5, [.ref a_o_suite, .ref a_o_past, .ref a_o_text, .ref a_o_orders, .ref a_o_spare, .int (o_timesBad), .int (o_timesNo), .int (o_timesFull)])), (a_o_suite, .inr (3, [.ref a_o_suite_masks, .ref a_o_suite_row, .int (o_suite_size), .int (o_suite_startCells), .int (o_suite_modeNow)])), (a_o_suite_masks, .inl (cI, 40, .inl (o_suite_masks))), (a_o_suite_row, .inr (2, [.ref a_o_suite_row_tests, .int (o_suite_row_size)])), (a_o_suite_row_tests, .inl (cI, 8, .inl (o_suite_row_tests))), (a_o_orders, .inr (0, [.ref a_o_orders_letters, .ref a_o_orders_numbers, .int (o_orders_size), .int (o_orders_wanted), .int (o_orders_begun), .int (o_orders_figures)])), (a_o_orders_letters, .inl (cI, 75, .inl (o_orders_letters))), (a_o_orders_numbers, .inl (cI, 375, .inl (o_orders_numbers)))] [(a_o, .inr (5, [.ref a_o_suite, .ref a_o_past, .ref a_o_text, .ref a_o_orders, .ref a_o_spare, .int (o_timesBad), .int (o_timesNo), .int (o_timesFull)])), (a_o_suite, .inr (3, [.ref a_o_suite_masks, .ref a_o_suite_row, .int (o_suite_size'), .int (o_suite_startCells'), .int (o_suite_modeNow')])), (a_o_suite_masks, .inl (cI, 40, .inl (o_suite_masks'))), (a_o_suite_row, .inr (2, [.ref a_o_suite_row_tests, .int (o_suite_row_size')])), (a_o_suite_row_tests, .inl (cI, 8, .inl (o_suite_row_tests'))), (a_o_orders, .inr (0, [.ref a_o_orders_letters, .ref a_o_orders_numbers, .int (o_orders_size), .int (o_orders_wanted), .int (o_orders_begun), .int (o_orders_figures)])), (a_o_orders_letters, .inl (cI, 75, .inl (o_orders_letters))), (a_o_orders_numbers, .inl (cI, 375, .inl (o_orders_numbers)))] (some (.int r0)) := by
  refine Met.ofW (cc := cX6_carryOut) (maxL := 3) (ret := (some .int)) (by decide) rfl ?_
  intro p e s m args below meth c s₁ B hml hv
  obtain ⟨rfl, hP, hK, hD0⟩ := hv
  have hx := B.exec
  have hb := B.bytes
  have hr := B.returns
  have hts : ∀ w ∈ GW, w.before _ s = true := fun w hw => atoms_spec (ws := mws yX6_carryOut cX6_carryOut 3 (some .int)) B.pre w (List.mem_cons_of_mem _ hw)
  have hown : s.vm.findClass RX6 = some m.cls := findClass_of_methodNamed B.named
  have hlocks := B.notSynchronized
  have hD := inW_self hD0
  generalize hAe : inW [(a_o, .inr (5, [.ref a_o_suite, .ref a_o_past, .ref a_o_text, .ref a_o_orders, .ref a_o_spare, .int (o_timesBad), .int (o_timesNo), .int (o_timesFull)])), (a_o_suite, .inr (3, [.ref a_o_suite_masks, .ref a_o_suite_row, .int (o_suite_size), .int (o_suite_startCells), .int (o_suite_modeNow)])), (a_o_suite_masks, .inl (cI, 40, .inl (o_suite_masks))), (a_o_suite_row, .inr (2, [.ref a_o_suite_row_tests, .int (o_suite_row_size)])), (a_o_suite_row_tests, .inl (cI, 8, .inl (o_suite_row_tests))), (a_o_orders, .inr (0, [.ref a_o_orders_letters, .ref a_o_orders_numbers, .int (o_orders_size), .int (o_orders_wanted), .int (o_orders_begun), .int (o_orders_figures)])), (a_o_orders_letters, .inl (cI, 75, .inl (o_orders_letters))), (a_o_orders_numbers, .inl (cI, 375, .inl (o_orders_numbers)))] = A at hD ⊢
  have hS : va_S A s.heap s.heap [] := va_S.rf
  have hl := lv_entry ([.ref a_o, .int x1]) (n := 3) (Nat.le_of_ble_eq_true rfl)
  rw [lg_entry_eq]
  generalize (lg_sl ([.ref a_o, .int x1]) ++ List.replicate (3 - (lg_sl ([.ref a_o, .int x1])).length) Slot.unset).toArray = ls at hl ⊢
  have hl : lv_has ls 3 [(0, .ref a_o), (1, .int x1)] := hl
  have S : CallFix p m c cX6_carryOut 3 s _ GW RX6 := ⟨hx, hb, hml, hown, hts⟩
  unfold f_X6_carryOut at h
  refine lv_aload_n hx hb dX6_carryOut_0 rfl (lv_at hl 0 rfl) ?_
  refine gfX6_3 hx hb hts hown hK hP 0 rfl wfX6_33 dX6_carryOut_1 ?_
  refine lv_iload_n hx hb dX6_carryOut_4 rfl (lv_at hl 1 rfl) ?_
  refine lv_iconst (v := (0 : Int32)) hx hb dX6_carryOut_5 (by decide) ?_
  obtain ⟨r1, hc2, h⟩ := bd1_use h
  refine ro_V (As := [.int x1, .int (0 : Int32)]) (rest := []) S (c_X0_number l D cI cS a_o_orders a_o_orders_numbers a_o_orders_letters o_orders_size o_orders_wanted o_orders_begun o_orders_figures o_orders_numbers x1 (0 : Int32) r1 hc2) (cwV1 hts cvX0_number wmX6_244 rfl rfl ⟨(Nat.le_of_ble_eq_true rfl), (Nat.le_of_ble_eq_true rfl)⟩) hK hP [5, 7] rfl 5 rfl rfl rfl rfl hl.1 rfl (Nat.le_of_ble_eq_true rfl) dX6_carryOut_6 ⟨Nat.zero_le _, Nat.zero_le _⟩ rfl ?_
  refine lv_istore_n (lv' := [(2, .int r1), (0, .ref a_o), (1, .int x1)]) hx hb dX6_carryOut_9 rfl hl (by decide) rfl (fun ls hl => ?_)
  refine lv_aload_n hx hb dX6_carryOut_10 rfl (lv_at hl 1 rfl) ?_
  refine gfX6_3 hx hb hts hown hK hP 0 rfl wfX6_33 dX6_carryOut_11 ?_
  refine lv_iload_n hx hb dX6_carryOut_14 rfl (lv_at hl 2 rfl) ?_
  obtain ⟨r3, hc4, h⟩ := bd1_use h
  refine ro_V (As := [.int x1]) (rest := []) S (c_X0_letter l D cI cS a_o_orders a_o_orders_letters a_o_orders_numbers o_orders_size o_orders_wanted o_orders_begun o_orders_figures o_orders_letters x1 r3 hc4) (cwV1 hts cvX0_letter wmX6_247 rfl rfl ⟨(Nat.le_of_ble_eq_true rfl), (Nat.le_of_ble_eq_true rfl)⟩) hK hP [5, 6] rfl 5 rfl rfl rfl rfl hl.1 rfl (Nat.le_of_ble_eq_true rfl) dX6_carryOut_15 ⟨Nat.zero_le _, Nat.zero_le _⟩ rfl ?_
  by_cases c5 : r3 = (99 : Int32)
  · have h := it_t c5 h
    refine lv_lookup (off := 138) (tgt := 156) hx hb dX6_carryOut_18 (by decide) (by rw [c5]; rfl) (by decide) ?_
    refine lv_aload_n hx hb dX6_carryOut_156 rfl (lv_at hl 1 rfl) ?_
    refine gfX6_0 hx hb hts hown hK hP 0 rfl wfX6_10 dX6_carryOut_157 ?_
    obtain ⟨r36, w37, w38, w39, hc40, h⟩ := bd4_use h
    refine wr_V (As := []) (rest := []) (ws' := [(a_o, .inr (5, [.ref a_o_suite, .ref a_o_past, .ref a_o_text, .ref a_o_orders, .ref a_o_spare, .int (o_timesBad), .int (o_timesNo), .int (o_timesFull)])), (a_o_suite, .inr (3, [.ref a_o_suite_masks, .ref a_o_suite_row, .int (w37), .int (o_suite_startCells), .int (o_suite_modeNow)])), (a_o_suite_masks, .inl (cI, 40, .inl (o_suite_masks))), (a_o_suite_row, .inr (2, [.ref a_o_suite_row_tests, .int (w38)])), (a_o_suite_row_tests, .inl (cI, 8, .inl (w39))), (a_o_orders, .inr (0, [.ref a_o_orders_letters, .ref a_o_orders_numbers, .int (o_orders_size), .int (o_orders_wanted), .int (o_orders_begun), .int (o_orders_figures)])), (a_o_orders_letters, .inl (cI, 75, .inl (o_orders_letters))), (a_o_orders_numbers, .inl (cI, 375, .inl (o_orders_numbers)))]) S (c_X4_cutLast l D cI cS a_o_suite a_o_suite_row a_o_suite_row_tests a_o_suite_masks o_suite_size o_suite_startCells o_suite_modeNow o_suite_row_size o_suite_row_tests r36 w37 w38 w39 hc40) (cwV1 hts cvX4_cutLast wmX6_56 rfl rfl ⟨(Nat.le_of_ble_eq_true rfl), (Nat.le_of_ble_eq_true rfl)⟩) hK hP hD hS [1, 3, 4] rfl rfl [(false, 0), (true, 0), (false, 2), (true, 1), (true, 2), (false, 5), (false, 6), (false, 7)] rfl rfl rfl 1 rfl rfl rfl rfl hl.1 rfl (Nat.le_of_ble_eq_true rfl) dX6_carryOut_160 ⟨Nat.zero_le _, Nat.zero_le _⟩ rfl (fun H locs hP hD hS => ?_)
    cases h
    exact W.iret hx hb hr (fun t ht _ => ⟨rfl, by rw [ht]; exact hP, hS.F ht⟩) hS.2.2 dX6_carryOut_163
  · have h := it_f c5 h
    by_cases c6 : r3 = (109 : Int32)
    · have h := it_t c6 h
      refine lv_lookup (off := 129) (tgt := 147) hx hb dX6_carryOut_18 (by decide) (by rw [c6]; rfl) (by decide) ?_
      refine lv_aload_n hx hb dX6_carryOut_147 rfl (lv_at hl 1 rfl) ?_
      refine gfX6_0 hx hb hts hown hK hP 0 rfl wfX6_10 dX6_carryOut_148 ?_
      refine lv_iload_n hx hb dX6_carryOut_151 rfl (lv_at hl 0 rfl) ?_
      obtain ⟨r33, w34, hc35, h⟩ := bd2_use h
      refine wr_V (As := [.int r1]) (rest := []) (ws' := [(a_o, .inr (5, [.ref a_o_suite, .ref a_o_past, .ref a_o_text, .ref a_o_orders, .ref a_o_spare, .int (o_timesBad), .int (o_timesNo), .int (o_timesFull)])), (a_o_suite, .inr (3, [.ref a_o_suite_masks, .ref a_o_suite_row, .int (o_suite_size), .int (o_suite_startCells), .int (w34)])), (a_o_suite_masks, .inl (cI, 40, .inl (o_suite_masks))), (a_o_suite_row, .inr (2, [.ref a_o_suite_row_tests, .int (o_suite_row_size)])), (a_o_suite_row_tests, .inl (cI, 8, .inl (o_suite_row_tests))), (a_o_orders, .inr (0, [.ref a_o_orders_letters, .ref a_o_orders_numbers, .int (o_orders_size), .int (o_orders_wanted), .int (o_orders_begun), .int (o_orders_figures)])), (a_o_orders_letters, .inl (cI, 75, .inl (o_orders_letters))), (a_o_orders_numbers, .inl (cI, 375, .inl (o_orders_numbers)))]) S (c_X4_changeMode l D cI cS a_o_suite a_o_suite_masks a_o_suite_row o_suite_size o_suite_startCells o_suite_modeNow r1 r33 w34 hc35) (cwV1 hts cvX4_changeMode wmX6_69 rfl rfl ⟨(Nat.le_of_ble_eq_true rfl), (Nat.le_of_ble_eq_true rfl)⟩) hK hP hD hS [1] rfl rfl [(false, 0), (true, 0), (false, 2), (false, 3), (false, 4), (false, 5), (false, 6), (false, 7)] rfl rfl rfl 1 rfl rfl rfl rfl hl.1 rfl (Nat.le_of_ble_eq_true rfl) dX6_carryOut_152 ⟨Nat.zero_le _, Nat.zero_le _⟩ rfl (fun H locs hP hD hS => ?_)
      cases h
      exact W.iret hx hb hr (fun t ht _ => ⟨rfl, by rw [ht]; exact hP, hS.F ht⟩) hS.2.2 dX6_carryOut_155
    · have h := it_f c6 h
      by_cases c7 : r3 = (114 : Int32)
      · have h := it_t c7 h
        refine lv_lookup (off := 103) (tgt := 121) hx hb dX6_carryOut_18 (by decide) (by rw [c7]; rfl) (by decide) ?_
        refine lv_aload_n hx hb dX6_carryOut_121 rfl (lv_at hl 1 rfl) ?_
        refine gfX6_0 hx hb hts hown hK hP 0 rfl wfX6_10 dX6_carryOut_122 ?_
        refine lv_iload_n hx hb dX6_carryOut_125 rfl (lv_at hl 0 rfl) ?_
        obtain ⟨r29, w30, w31, hc32, h⟩ := bd3_use h
        refine wr_V (As := [.int r1]) (rest := []) (ws' := [(a_o, .inr (5, [.ref a_o_suite, .ref a_o_past, .ref a_o_text, .ref a_o_orders, .ref a_o_spare, .int (o_timesBad), .int (o_timesNo), .int (o_timesFull)])), (a_o_suite, .inr (3, [.ref a_o_suite_masks, .ref a_o_suite_row, .int (o_suite_size), .int (o_suite_startCells), .int (o_suite_modeNow)])), (a_o_suite_masks, .inl (cI, 40, .inl (o_suite_masks))), (a_o_suite_row, .inr (2, [.ref a_o_suite_row_tests, .int (w30)])), (a_o_suite_row_tests, .inl (cI, 8, .inl (w31))), (a_o_orders, .inr (0, [.ref a_o_orders_letters, .ref a_o_orders_numbers, .int (o_orders_size), .int (o_orders_wanted), .int (o_orders_begun), .int (o_orders_figures)])), (a_o_orders_letters, .inl (cI, 75, .inl (o_orders_letters))), (a_o_orders_numbers, .inl (cI, 375, .inl (o_orders_numbers)))]) S (c_X4_layTest l D cI cS a_o_suite a_o_suite_row a_o_suite_row_tests a_o_suite_masks o_suite_size o_suite_startCells o_suite_modeNow o_suite_row_size o_suite_row_tests r1 r29 w30 w31 hc32) (cwV1 hts cvX4_layTest wmX6_60 rfl rfl ⟨(Nat.le_of_ble_eq_true rfl), (Nat.le_of_ble_eq_true rfl)⟩) hK hP hD hS [1, 3, 4] rfl rfl [(false, 0), (true, 0), (false, 2), (true, 1), (true, 2), (false, 5), (false, 6), (false, 7)] rfl rfl rfl 1 rfl rfl rfl rfl hl.1 rfl (Nat.le_of_ble_eq_true rfl) dX6_carryOut_126 ⟨Nat.zero_le _, Nat.zero_le _⟩ rfl (fun H locs hP hD hS => ?_)
        cases h
        exact W.iret hx hb hr (fun t ht _ => ⟨rfl, by rw [ht]; exact hP, hS.F ht⟩) hS.2.2 dX6_carryOut_129
      · have h := it_f c7 h
        by_cases c8 : r3 = (115 : Int32)
        · have h := it_t c8 h
          refine lv_lookup (off := 120) (tgt := 138) hx hb dX6_carryOut_18 (by decide) (by rw [c8]; rfl) (by decide) ?_
          refine lv_aload_n hx hb dX6_carryOut_138 rfl (lv_at hl 1 rfl) ?_
          refine gfX6_0 hx hb hts hown hK hP 0 rfl wfX6_10 dX6_carryOut_139 ?_
          refine lv_iload_n hx hb dX6_carryOut_142 rfl (lv_at hl 0 rfl) ?_
          obtain ⟨r26, w27, hc28, h⟩ := bd2_use h
          refine wr_V (As := [.int r1]) (rest := []) (ws' := [(a_o, .inr (5, [.ref a_o_suite, .ref a_o_past, .ref a_o_text, .ref a_o_orders, .ref a_o_spare, .int (o_timesBad), .int (o_timesNo), .int (o_timesFull)])), (a_o_suite, .inr (3, [.ref a_o_suite_masks, .ref a_o_suite_row, .int (o_suite_size), .int (w27), .int (o_suite_modeNow)])), (a_o_suite_masks, .inl (cI, 40, .inl (o_suite_masks))), (a_o_suite_row, .inr (2, [.ref a_o_suite_row_tests, .int (o_suite_row_size)])), (a_o_suite_row_tests, .inl (cI, 8, .inl (o_suite_row_tests))), (a_o_orders, .inr (0, [.ref a_o_orders_letters, .ref a_o_orders_numbers, .int (o_orders_size), .int (o_orders_wanted), .int (o_orders_begun), .int (o_orders_figures)])), (a_o_orders_letters, .inl (cI, 75, .inl (o_orders_letters))), (a_o_orders_numbers, .inl (cI, 375, .inl (o_orders_numbers)))]) S (c_X4_changeStart l D cI cS a_o_suite a_o_suite_masks a_o_suite_row o_suite_size o_suite_startCells o_suite_modeNow r1 r26 w27 hc28) (cwV1 hts cvX4_changeStart wmX6_66 rfl rfl ⟨(Nat.le_of_ble_eq_true rfl), (Nat.le_of_ble_eq_true rfl)⟩) hK hP hD hS [1] rfl rfl [(false, 0), (true, 0), (false, 2), (false, 3), (false, 4), (false, 5), (false, 6), (false, 7)] rfl rfl rfl 1 rfl rfl rfl rfl hl.1 rfl (Nat.le_of_ble_eq_true rfl) dX6_carryOut_143 ⟨Nat.zero_le _, Nat.zero_le _⟩ rfl (fun H locs hP hD hS => ?_)
          cases h
          exact W.iret hx hb hr (fun t ht _ => ⟨rfl, by rw [ht]; exact hP, hS.F ht⟩) hS.2.2 dX6_carryOut_146
        · have h := it_f c8 h
          by_cases c9 : r3 = (116 : Int32)
          · have h := it_t c9 h
            refine lv_lookup (off := 58) (tgt := 76) hx hb dX6_carryOut_18 (by decide) (by rw [c9]; rfl) (by decide) ?_
            refine lv_aload_n hx hb dX6_carryOut_76 rfl (lv_at hl 1 rfl) ?_
            refine gfX6_0 hx hb hts hown hK hP 0 rfl wfX6_10 dX6_carryOut_77 ?_
            refine lv_iload_n hx hb dX6_carryOut_80 rfl (lv_at hl 0 rfl) ?_
            refine lv_aload_n hx hb dX6_carryOut_81 rfl (lv_at hl 1 rfl) ?_
            refine gfX6_3 hx hb hts hown hK hP 0 rfl wfX6_33 dX6_carryOut_82 ?_
            refine lv_iload_n hx hb dX6_carryOut_85 rfl (lv_at hl 2 rfl) ?_
            refine lv_iconst (v := (1 : Int32)) hx hb dX6_carryOut_86 (by decide) ?_
            obtain ⟨r14, hc15, h⟩ := bd1_use h
            refine ro_V (As := [.int x1, .int (1 : Int32)]) (rest := [.int r1, .ref a_o_suite]) S (c_X0_number l D cI cS a_o_orders a_o_orders_numbers a_o_orders_letters o_orders_size o_orders_wanted o_orders_begun o_orders_figures o_orders_numbers x1 (1 : Int32) r14 hc15) (cwV1 hts cvX0_number wmX6_244 rfl rfl ⟨(Nat.le_of_ble_eq_true rfl), (Nat.le_of_ble_eq_true rfl)⟩) hK hP [5, 7] rfl 5 rfl rfl rfl rfl hl.1 rfl (Nat.le_of_ble_eq_true rfl) dX6_carryOut_87 ⟨Nat.zero_le _, Nat.zero_le _⟩ rfl ?_
            refine lv_aload_n hx hb dX6_carryOut_90 rfl (lv_at hl 1 rfl) ?_
            refine gfX6_3 hx hb hts hown hK hP 0 rfl wfX6_33 dX6_carryOut_91 ?_
            refine lv_iload_n hx hb dX6_carryOut_94 rfl (lv_at hl 2 rfl) ?_
            refine lv_iconst (v := (2 : Int32)) hx hb dX6_carryOut_95 (by decide) ?_
            obtain ⟨r16, hc17, h⟩ := bd1_use h
            refine ro_V (As := [.int x1, .int (2 : Int32)]) (rest := [.int r14, .int r1, .ref a_o_suite]) S (c_X0_number l D cI cS a_o_orders a_o_orders_numbers a_o_orders_letters o_orders_size o_orders_wanted o_orders_begun o_orders_figures o_orders_numbers x1 (2 : Int32) r16 hc17) (cwV1 hts cvX0_number wmX6_244 rfl rfl ⟨(Nat.le_of_ble_eq_true rfl), (Nat.le_of_ble_eq_true rfl)⟩) hK hP [5, 7] rfl 5 rfl rfl rfl rfl hl.1 rfl (Nat.le_of_ble_eq_true rfl) dX6_carryOut_96 ⟨Nat.zero_le _, Nat.zero_le _⟩ rfl ?_
            refine lv_aload_n hx hb dX6_carryOut_99 rfl (lv_at hl 1 rfl) ?_
            refine gfX6_3 hx hb hts hown hK hP 0 rfl wfX6_33 dX6_carryOut_100 ?_
            refine lv_iload_n hx hb dX6_carryOut_103 rfl (lv_at hl 2 rfl) ?_
            refine lv_iconst (v := (3 : Int32)) hx hb dX6_carryOut_104 (by decide) ?_
            obtain ⟨r18, hc19, h⟩ := bd1_use h
            refine ro_V (As := [.int x1, .int (3 : Int32)]) (rest := [.int r16, .int r14, .int r1, .ref a_o_suite]) S (c_X0_number l D cI cS a_o_orders a_o_orders_numbers a_o_orders_letters o_orders_size o_orders_wanted o_orders_begun o_orders_figures o_orders_numbers x1 (3 : Int32) r18 hc19) (cwV1 hts cvX0_number wmX6_244 rfl rfl ⟨(Nat.le_of_ble_eq_true rfl), (Nat.le_of_ble_eq_true rfl)⟩) hK hP [5, 7] rfl 5 rfl rfl rfl rfl hl.1 rfl (Nat.le_of_ble_eq_true rfl) dX6_carryOut_105 ⟨Nat.zero_le _, Nat.zero_le _⟩ rfl ?_
            refine lv_aload_n hx hb dX6_carryOut_108 rfl (lv_at hl 1 rfl) ?_
            refine gfX6_3 hx hb hts hown hK hP 0 rfl wfX6_33 dX6_carryOut_109 ?_
            refine lv_iload_n hx hb dX6_carryOut_112 rfl (lv_at hl 2 rfl) ?_
            refine lv_iconst (v := (4 : Int32)) hx hb dX6_carryOut_113 (by decide) ?_
            obtain ⟨r20, hc21, h⟩ := bd1_use h
            refine ro_V (As := [.int x1, .int (4 : Int32)]) (rest := [.int r18, .int r16, .int r14, .int r1, .ref a_o_suite]) S (c_X0_number l D cI cS a_o_orders a_o_orders_numbers a_o_orders_letters o_orders_size o_orders_wanted o_orders_begun o_orders_figures o_orders_numbers x1 (4 : Int32) r20 hc21) (cwV1 hts cvX0_number wmX6_244 rfl rfl ⟨(Nat.le_of_ble_eq_true rfl), (Nat.le_of_ble_eq_true rfl)⟩) hK hP [5, 7] rfl 5 rfl rfl rfl rfl hl.1 rfl (Nat.le_of_ble_eq_true rfl) dX6_carryOut_114 ⟨Nat.zero_le _, Nat.zero_le _⟩ rfl ?_
            obtain ⟨r22, w23, w24, hc25, h⟩ := bd3_use h
            refine wr_V (As := [.int r1, .int r14, .int r16, .int r18, .int r20]) (rest := []) (ws' := [(a_o, .inr (5, [.ref a_o_suite, .ref a_o_past, .ref a_o_text, .ref a_o_orders, .ref a_o_spare, .int (o_timesBad), .int (o_timesNo), .int (o_timesFull)])), (a_o_suite, .inr (3, [.ref a_o_suite_masks, .ref a_o_suite_row, .int (w23), .int (o_suite_startCells), .int (o_suite_modeNow)])), (a_o_suite_masks, .inl (cI, 40, .inl (w24))), (a_o_suite_row, .inr (2, [.ref a_o_suite_row_tests, .int (o_suite_row_size)])), (a_o_suite_row_tests, .inl (cI, 8, .inl (o_suite_row_tests))), (a_o_orders, .inr (0, [.ref a_o_orders_letters, .ref a_o_orders_numbers, .int (o_orders_size), .int (o_orders_wanted), .int (o_orders_begun), .int (o_orders_figures)])), (a_o_orders_letters, .inl (cI, 75, .inl (o_orders_letters))), (a_o_orders_numbers, .inl (cI, 375, .inl (o_orders_numbers)))]) S (c_X4_addTest l D cI cS a_o_suite a_o_suite_masks a_o_suite_row o_suite_size o_suite_startCells o_suite_modeNow o_suite_masks r1 r14 r16 r18 r20 r22 w23 w24 hc25) (cwV1 hts cvX4_addTest wmX6_48 rfl rfl ⟨(Nat.le_of_ble_eq_true rfl), (Nat.le_of_ble_eq_true rfl)⟩) hK hP hD hS [1, 2] rfl rfl [(false, 0), (true, 0), (true, 1), (false, 3), (false, 4), (false, 5), (false, 6), (false, 7)] rfl rfl rfl 1 rfl rfl rfl rfl hl.1 rfl (Nat.le_of_ble_eq_true rfl) dX6_carryOut_117 ⟨Nat.zero_le _, Nat.zero_le _⟩ rfl (fun H locs hP hD hS => ?_)
            cases h
            exact W.iret hx hb hr (fun t ht _ => ⟨rfl, by rw [ht]; exact hP, hS.F ht⟩) hS.2.2 dX6_carryOut_120
          · have h := it_f c9 h
            by_cases c10 : r3 = (119 : Int32)
            · have h := it_t c10 h
              refine lv_lookup (off := 112) (tgt := 130) hx hb dX6_carryOut_18 (by decide) (by rw [c10]; rfl) (by decide) ?_
              refine lv_aload_n hx hb dX6_carryOut_130 rfl (lv_at hl 1 rfl) ?_
              refine gfX6_0 hx hb hts hown hK hP 0 rfl wfX6_10 dX6_carryOut_131 ?_
              obtain ⟨r11, w12, hc13, h⟩ := bd2_use h
              refine wr_V (As := []) (rest := []) (ws' := [(a_o, .inr (5, [.ref a_o_suite, .ref a_o_past, .ref a_o_text, .ref a_o_orders, .ref a_o_spare, .int (o_timesBad), .int (o_timesNo), .int (o_timesFull)])), (a_o_suite, .inr (3, [.ref a_o_suite_masks, .ref a_o_suite_row, .int (o_suite_size), .int (o_suite_startCells), .int (o_suite_modeNow)])), (a_o_suite_masks, .inl (cI, 40, .inl (o_suite_masks))), (a_o_suite_row, .inr (2, [.ref a_o_suite_row_tests, .int (w12)])), (a_o_suite_row_tests, .inl (cI, 8, .inl (o_suite_row_tests))), (a_o_orders, .inr (0, [.ref a_o_orders_letters, .ref a_o_orders_numbers, .int (o_orders_size), .int (o_orders_wanted), .int (o_orders_begun), .int (o_orders_figures)])), (a_o_orders_letters, .inl (cI, 75, .inl (o_orders_letters))), (a_o_orders_numbers, .inl (cI, 375, .inl (o_orders_numbers)))]) S (c_X4_wipeRow l D cI cS a_o_suite a_o_suite_row a_o_suite_masks a_o_suite_row_tests o_suite_size o_suite_startCells o_suite_modeNow o_suite_row_size r11 w12 hc13) (cwV1 hts cvX4_wipeRow wmX6_63 rfl rfl ⟨(Nat.le_of_ble_eq_true rfl), (Nat.le_of_ble_eq_true rfl)⟩) hK hP hD hS [1, 3] rfl rfl [(false, 0), (true, 0), (false, 2), (true, 1), (false, 4), (false, 5), (false, 6), (false, 7)] rfl rfl rfl 1 rfl rfl rfl rfl hl.1 rfl (Nat.le_of_ble_eq_true rfl) dX6_carryOut_134 ⟨Nat.zero_le _, Nat.zero_le _⟩ rfl (fun H locs hP hD hS => ?_)
              cases h
              exact W.iret hx hb hr (fun t ht _ => ⟨rfl, by rw [ht]; exact hP, hS.F ht⟩) hS.2.2 dX6_carryOut_137
            · have h := it_f c10 h
              refine lv_lookup (off := 146) (tgt := 164) hx hb dX6_carryOut_18 (by decide) (by show Op.lookupswitch.offset [(99, 138), (109, 129), (114, 103), (115, 120), (116, 58), (119, 112)] 146 r3.toInt = 146; rw [lv_osw c5 (by decide), lv_osw c6 (by decide), lv_osw c7 (by decide), lv_osw c8 (by decide), lv_osw c9 (by decide), lv_osw c10 (by decide)]; rfl) (by decide) ?_
              refine lv_bipush (v := (-2 : Int32)) hx hb dX6_carryOut_164 (by decide) ?_
              cases h
              exact W.iret hx hb hr (fun t ht _ => ⟨rfl, by rw [ht]; exact hP, hS.F ht⟩) hS.2.2 dX6_carryOut_166
def f_X6_cleans (o_timesBad : Int32) (o_timesNo : Int32) (o_timesFull : Int32) (o_suite_size : Int32) (o_suite_startCells : Int32) (o_suite_modeNow : Int32) (o_suite_masks : Ar) (x1 : Int32) (x2 : Int32) : Option (Int32 × Int32 × Int32 × Int32) := bd1 (f_X6_areTwoTests o_suite_size x1 x2) (fun r1 => (if (b2i r1) = (0 : Int32) then bd4 (f_X6_refused o_timesBad o_timesNo o_timesFull (-2 : Int32)) (fun r14 w15 w16 w17 => some (r14, w15, w16, w17)) else bd1 (f_X4_doesSoil o_suite_startCells o_suite_modeNow o_suite_masks x1 x2) (fun r4 => (if (b2i r4) = (0 : Int32) then bd4 (f_X6_refused o_timesBad o_timesNo o_timesFull (-3 : Int32)) (fun r9 w10 w11 w12 => some (r9, w10, w11, w12)) else bd1 (f_X4_cleaners o_suite_size o_suite_startCells o_suite_modeNow o_suite_masks x1 x2) (fun r7 => some (r7, o_timesBad, o_timesNo, o_timesFull))))))
set_option maxHeartbeats 4000000 in
set_option maxRecDepth 100000 in
theorem c_X6_cleans (l : Launch) (D : va_G) (cI cS : ClassId) (a_o : Nat) (a_o_suite : Nat) (a_o_suite_masks : Nat) (a_o_past : Nat) (a_o_text : Nat) (a_o_orders : Nat) (a_o_spare : Nat) (a_o_suite_row : Nat) (o_timesBad : Int32) (o_timesNo : Int32) (o_timesFull : Int32) (o_suite_size : Int32) (o_suite_startCells : Int32) (o_suite_modeNow : Int32) (o_suite_masks : Ar) (x1 : Int32) (x2 : Int32) (r0 : Int32) (o_timesBad' : Int32) (o_timesNo' : Int32) (o_timesFull' : Int32) (h : f_X6_cleans o_timesBad o_timesNo o_timesFull o_suite_size o_suite_startCells o_suite_modeNow o_suite_masks x1 x2 = some (r0, o_timesBad', o_timesNo', o_timesFull')) : wrM l D cI cS yX6_cleans cX6_cleans 3 (some .int) 4 92 [.ref a_o, .int x1, .int x2] [(a_o, .inr (5, [.ref a_o_suite, .ref a_o_past, .ref a_o_text, .ref a_o_orders, .ref a_o_spare, .int (o_timesBad), .int (o_timesNo), .int (o_timesFull)])), (a_o_suite, .inr (3, [.ref a_o_suite_masks, .ref a_o_suite_row, .int (o_suite_size), .int (o_suite_startCells), .int (o_suite_modeNow)])), (a_o_suite_masks, .inl (cI, 40, .inl (o_suite_masks)))] [(a_o, .inr (5, [.ref a_o_suite, .ref a_o_past, .ref a_o_text, .ref a_o_orders, .ref a_o_spare, .int (o_timesBad'), .int (o_timesNo'), .int (o_timesFull')])), (a_o_suite, .inr (3, [.ref a_o_suite_masks, .ref a_o_suite_row, .int (o_suite_size), .int (o_suite_startCells), .int (o_suite_modeNow)])), (a_o_suite_masks, .inl (cI, 40, .inl (o_suite_masks)))] (some (.int r0)) := by
  refine Met.ofW (cc := cX6_cleans) (maxL := 3) (ret := (some .int)) (by decide) rfl ?_
  intro p e s m args below meth c s₁ B hml hv
  obtain ⟨rfl, hP, hK, hD0⟩ := hv
  have hx := B.exec
  have hb := B.bytes
  have hr := B.returns
  have hts : ∀ w ∈ GW, w.before _ s = true := fun w hw => atoms_spec (ws := mws yX6_cleans cX6_cleans 3 (some .int)) B.pre w (List.mem_cons_of_mem _ hw)
  have hown : s.vm.findClass RX6 = some m.cls := findClass_of_methodNamed B.named
  have hlocks := B.notSynchronized
  have hD := inW_self hD0
  generalize hAe : inW [(a_o, .inr (5, [.ref a_o_suite, .ref a_o_past, .ref a_o_text, .ref a_o_orders, .ref a_o_spare, .int (o_timesBad), .int (o_timesNo), .int (o_timesFull)])), (a_o_suite, .inr (3, [.ref a_o_suite_masks, .ref a_o_suite_row, .int (o_suite_size), .int (o_suite_startCells), .int (o_suite_modeNow)])), (a_o_suite_masks, .inl (cI, 40, .inl (o_suite_masks)))] = A at hD ⊢
  have hS : va_S A s.heap s.heap [] := va_S.rf
  have hl := lv_entry ([.ref a_o, .int x1, .int x2]) (n := 3) (Nat.le_of_ble_eq_true rfl)
  rw [lg_entry_eq]
  generalize (lg_sl ([.ref a_o, .int x1, .int x2]) ++ List.replicate (3 - (lg_sl ([.ref a_o, .int x1, .int x2])).length) Slot.unset).toArray = ls at hl ⊢
  have hl : lv_has ls 3 [(0, .ref a_o), (1, .int x1), (2, .int x2)] := hl
  have S : CallFix p m c cX6_cleans 3 s _ GW RX6 := ⟨hx, hb, hml, hown, hts⟩
  unfold f_X6_cleans at h
  refine lv_aload_n hx hb dX6_cleans_0 rfl (lv_at hl 0 rfl) ?_
  refine lv_iload_n hx hb dX6_cleans_1 rfl (lv_at hl 1 rfl) ?_
  refine lv_iload_n hx hb dX6_cleans_2 rfl (lv_at hl 2 rfl) ?_
  obtain ⟨r1, hc2, h⟩ := bd1_use h
  refine ro_V (As := [.int x1, .int x2]) (rest := []) S (c_X6_areTwoTests l D cI cS a_o a_o_suite a_o_past a_o_text a_o_orders a_o_spare a_o_suite_masks a_o_suite_row o_timesBad o_timesNo o_timesFull o_suite_size o_suite_startCells o_suite_modeNow x1 x2 r1 hc2) (cwV1 hts cvX6_areTwoTests wmX6_101 rfl rfl ⟨(Nat.le_of_ble_eq_true rfl), (Nat.le_of_ble_eq_true rfl)⟩) hK hP [0, 1] rfl 0 rfl rfl rfl rfl hl.1 rfl (Nat.le_of_ble_eq_true rfl) dX6_cleans_3 ⟨Nat.zero_le _, Nat.zero_le _⟩ rfl ?_
  refine lv_if_ne (tgt := 16) hx hb dX6_cleans_6 (by decide) (fun c3 => ?_) (fun c3 => ?_)
  · have h := it_f c3 h
    refine lv_aload_n hx hb dX6_cleans_16 rfl (lv_at hl 0 rfl) ?_
    refine gfX6_0 hx hb hts hown hK hP 0 rfl wfX6_10 dX6_cleans_17 ?_
    refine lv_iload_n hx hb dX6_cleans_20 rfl (lv_at hl 1 rfl) ?_
    refine lv_iload_n hx hb dX6_cleans_21 rfl (lv_at hl 2 rfl) ?_
    obtain ⟨r4, hc5, h⟩ := bd1_use h
    refine ro_V (As := [.int x1, .int x2]) (rest := []) S (c_X4_doesSoil l D cI cS a_o_suite a_o_suite_masks a_o_suite_row o_suite_size o_suite_startCells o_suite_modeNow o_suite_masks x1 x2 r4 hc5) (cwV1 hts cvX4_doesSoil wmX6_104 rfl rfl ⟨(Nat.le_of_ble_eq_true rfl), (Nat.le_of_ble_eq_true rfl)⟩) hK hP [1, 2] rfl 1 rfl rfl rfl rfl hl.1 rfl (Nat.le_of_ble_eq_true rfl) dX6_cleans_22 ⟨Nat.zero_le _, Nat.zero_le _⟩ rfl ?_
    refine lv_if_ne (tgt := 35) hx hb dX6_cleans_25 (by decide) (fun c6 => ?_) (fun c6 => ?_)
    · have h := it_f c6 h
      refine lv_aload_n hx hb dX6_cleans_35 rfl (lv_at hl 0 rfl) ?_
      refine gfX6_0 hx hb hts hown hK hP 0 rfl wfX6_10 dX6_cleans_36 ?_
      refine lv_iload_n hx hb dX6_cleans_39 rfl (lv_at hl 1 rfl) ?_
      refine lv_iload_n hx hb dX6_cleans_40 rfl (lv_at hl 2 rfl) ?_
      obtain ⟨r7, hc8, h⟩ := bd1_use h
      refine ro_V (As := [.int x1, .int x2]) (rest := []) S (c_X4_cleaners l D cI cS a_o_suite a_o_suite_masks a_o_suite_row o_suite_size o_suite_startCells o_suite_modeNow o_suite_masks x1 x2 r7 hc8) (cwV1 hts cvX4_cleaners wmX6_107 rfl rfl ⟨(Nat.le_of_ble_eq_true rfl), (Nat.le_of_ble_eq_true rfl)⟩) hK hP [1, 2] rfl 1 rfl rfl rfl rfl hl.1 rfl (Nat.le_of_ble_eq_true rfl) dX6_cleans_41 ⟨Nat.zero_le _, Nat.zero_le _⟩ rfl ?_
      cases h
      exact W.iret hx hb hr (fun t ht _ => ⟨rfl, by rw [ht]; exact hP, hS.F ht⟩) hS.2.2 dX6_cleans_44
    · have h := it_t c6 h
      refine lv_aload_n hx hb dX6_cleans_28 rfl (lv_at hl 0 rfl) ?_
      refine lv_bipush (v := (-3 : Int32)) hx hb dX6_cleans_29 (by decide) ?_
      obtain ⟨r9, w10, w11, w12, hc13, h⟩ := bd4_use h
      refine wr_V (As := [.int (-3 : Int32)]) (rest := []) (ws' := [(a_o, .inr (5, [.ref a_o_suite, .ref a_o_past, .ref a_o_text, .ref a_o_orders, .ref a_o_spare, .int (w10), .int (w11), .int (w12)])), (a_o_suite, .inr (3, [.ref a_o_suite_masks, .ref a_o_suite_row, .int (o_suite_size), .int (o_suite_startCells), .int (o_suite_modeNow)])), (a_o_suite_masks, .inl (cI, 40, .inl (o_suite_masks)))]) S (c_X6_refused l D cI cS a_o a_o_suite a_o_past a_o_text a_o_orders a_o_spare o_timesBad o_timesNo o_timesFull (-3 : Int32) r9 w10 w11 w12 hc13) (cwV1 hts cvX6_refused wmX6_82 rfl rfl ⟨(Nat.le_of_ble_eq_true rfl), (Nat.le_of_ble_eq_true rfl)⟩) hK hP hD hS [0] rfl rfl [(true, 0), (false, 1), (false, 2)] rfl rfl rfl 0 rfl rfl rfl rfl hl.1 rfl (Nat.le_of_ble_eq_true rfl) dX6_cleans_31 ⟨Nat.zero_le _, Nat.zero_le _⟩ rfl (fun H locs hP hD hS => ?_)
      cases h
      exact W.iret hx hb hr (fun t ht _ => ⟨rfl, by rw [ht]; exact hP, hS.F ht⟩) hS.2.2 dX6_cleans_34
  · have h := it_t c3 h
    refine lv_aload_n hx hb dX6_cleans_9 rfl (lv_at hl 0 rfl) ?_
    refine lv_bipush (v := (-2 : Int32)) hx hb dX6_cleans_10 (by decide) ?_
    obtain ⟨r14, w15, w16, w17, hc18, h⟩ := bd4_use h
    refine wr_V (As := [.int (-2 : Int32)]) (rest := []) (ws' := [(a_o, .inr (5, [.ref a_o_suite, .ref a_o_past, .ref a_o_text, .ref a_o_orders, .ref a_o_spare, .int (w15), .int (w16), .int (w17)])), (a_o_suite, .inr (3, [.ref a_o_suite_masks, .ref a_o_suite_row, .int (o_suite_size), .int (o_suite_startCells), .int (o_suite_modeNow)])), (a_o_suite_masks, .inl (cI, 40, .inl (o_suite_masks)))]) S (c_X6_refused l D cI cS a_o a_o_suite a_o_past a_o_text a_o_orders a_o_spare o_timesBad o_timesNo o_timesFull (-2 : Int32) r14 w15 w16 w17 hc18) (cwV1 hts cvX6_refused wmX6_82 rfl rfl ⟨(Nat.le_of_ble_eq_true rfl), (Nat.le_of_ble_eq_true rfl)⟩) hK hP hD hS [0] rfl rfl [(true, 0), (false, 1), (false, 2)] rfl rfl rfl 0 rfl rfl rfl rfl hl.1 rfl (Nat.le_of_ble_eq_true rfl) dX6_cleans_12 ⟨Nat.zero_le _, Nat.zero_le _⟩ rfl (fun H locs hP hD hS => ?_)
    cases h
    exact W.iret hx hb hr (fun t ht _ => ⟨rfl, by rw [ht]; exact hP, hS.F ht⟩) hS.2.2 dX6_cleans_15
def f_X6_clear (o_text_length : Int32) : Option (Int32 × Int32) := bd2 (f_X5_makeEmpty o_text_length) (fun r1 w2 => some (r1, w2))
set_option maxHeartbeats 4000000 in
set_option maxRecDepth 100000 in
theorem c_X6_clear (l : Launch) (D : va_G) (cI cS : ClassId) (a_o : Nat) (a_o_text : Nat) (a_o_suite : Nat) (a_o_past : Nat) (a_o_orders : Nat) (a_o_spare : Nat) (a_o_text_bytes : Nat) (o_timesBad : Int32) (o_timesNo : Int32) (o_timesFull : Int32) (o_text_length : Int32) (r0 : Int32) (o_text_length' : Int32) (h : f_X6_clear o_text_length = some (r0, o_text_length')) : wrM l D cI cS yX6_clear cX6_clear 1 (some .int) 1 21 [.ref a_o] [(a_o, .inr (5, [.ref a_o_suite, .ref a_o_past, .ref a_o_text, .ref a_o_orders, .ref a_o_spare, .int (o_timesBad), .int (o_timesNo), .int (o_timesFull)])), (a_o_text, .inr (4, [.ref a_o_text_bytes, .int (o_text_length)]))] [(a_o, .inr (5, [.ref a_o_suite, .ref a_o_past, .ref a_o_text, .ref a_o_orders, .ref a_o_spare, .int (o_timesBad), .int (o_timesNo), .int (o_timesFull)])), (a_o_text, .inr (4, [.ref a_o_text_bytes, .int (o_text_length')]))] (some (.int r0)) := by
  refine Met.ofW (cc := cX6_clear) (maxL := 1) (ret := (some .int)) (by decide) rfl ?_
  intro p e s m args below meth c s₁ B hml hv
  obtain ⟨rfl, hP, hK, hD0⟩ := hv
  have hx := B.exec
  have hb := B.bytes
  have hr := B.returns
  have hts : ∀ w ∈ GW, w.before _ s = true := fun w hw => atoms_spec (ws := mws yX6_clear cX6_clear 1 (some .int)) B.pre w (List.mem_cons_of_mem _ hw)
  have hown : s.vm.findClass RX6 = some m.cls := findClass_of_methodNamed B.named
  have hlocks := B.notSynchronized
  have hD := inW_self hD0
  generalize hAe : inW [(a_o, .inr (5, [.ref a_o_suite, .ref a_o_past, .ref a_o_text, .ref a_o_orders, .ref a_o_spare, .int (o_timesBad), .int (o_timesNo), .int (o_timesFull)])), (a_o_text, .inr (4, [.ref a_o_text_bytes, .int (o_text_length)]))] = A at hD ⊢
  have hS : va_S A s.heap s.heap [] := va_S.rf
  have hl := lv_entry ([.ref a_o]) (n := 1) (Nat.le_of_ble_eq_true rfl)
  rw [lg_entry_eq]
  generalize (lg_sl ([.ref a_o]) ++ List.replicate (1 - (lg_sl ([.ref a_o])).length) Slot.unset).toArray = ls at hl ⊢
  have hl : lv_has ls 1 [(0, .ref a_o)] := hl
  have S : CallFix p m c cX6_clear 1 s _ GW RX6 := ⟨hx, hb, hml, hown, hts⟩
  unfold f_X6_clear at h
  refine lv_aload_n hx hb dX6_clear_0 rfl (lv_at hl 0 rfl) ?_
  refine gfX6_2 hx hb hts hown hK hP 0 rfl wfX6_26 dX6_clear_1 ?_
  obtain ⟨r1, w2, hc3, h⟩ := bd2_use h
  refine wr_V (As := []) (rest := []) (ws' := [(a_o, .inr (5, [.ref a_o_suite, .ref a_o_past, .ref a_o_text, .ref a_o_orders, .ref a_o_spare, .int (o_timesBad), .int (o_timesNo), .int (o_timesFull)])), (a_o_text, .inr (4, [.ref a_o_text_bytes, .int (w2)]))]) S (c_X5_makeEmpty l D cI cS a_o_text a_o_text_bytes o_text_length r1 w2 hc3) (cwV1 hts cvX5_makeEmpty wmX6_191 rfl rfl ⟨(Nat.le_of_ble_eq_true rfl), (Nat.le_of_ble_eq_true rfl)⟩) hK hP hD hS [1] rfl rfl [(false, 0), (true, 0)] rfl rfl rfl 1 rfl rfl rfl rfl hl.1 rfl (Nat.le_of_ble_eq_true rfl) dX6_clear_4 ⟨Nat.zero_le _, Nat.zero_le _⟩ rfl (fun H locs hP hD hS => ?_)
  cases h
  exact W.iret hx hb hr (fun t ht _ => ⟨rfl, by rw [ht]; exact hP, hS.F ht⟩) hS.2.2 dX6_clear_7
def f_X6_count (o_timesBad : Int32) (o_timesNo : Int32) (o_timesFull : Int32) (o_suite_size : Int32) (o_suite_startCells : Int32) (o_suite_modeNow : Int32) (o_suite_masks : Ar) (o_suite_row_size : Int32) (o_suite_row_tests : Ar) (x1 : Int32) : Option (Int32 × Int32 × Int32 × Int32) := (if x1 = (0 : Int32) then some (o_suite_size, o_timesBad, o_timesNo, o_timesFull) else (if x1 = (1 : Int32) then some (o_suite_row_size, o_timesBad, o_timesNo, o_timesFull) else (if x1 = (2 : Int32) then some (o_suite_startCells, o_timesBad, o_timesNo, o_timesFull) else (if x1 = (3 : Int32) then some (o_suite_modeNow, o_timesBad, o_timesNo, o_timesFull) else (if x1 = (4 : Int32) then bd1 (f_X4_cellsBehind o_suite_startCells o_suite_modeNow o_suite_masks o_suite_row_size o_suite_row_tests (255 : Int32)) (fun r24 => some (r24, o_timesBad, o_timesNo, o_timesFull)) else (if x1 = (5 : Int32) then bd1 (f_X4_passingIn_own o_suite_startCells o_suite_modeNow o_suite_masks o_suite_row_size o_suite_row_tests) (fun r20 => bd1 (f_J6_bitCount_0f7a4 r20) (fun r22 => some (r22, o_timesBad, o_timesNo, o_timesFull))) else (if x1 = (6 : Int32) then bd1 (f_X4_flippedIn_own o_suite_size o_suite_startCells o_suite_modeNow o_suite_masks o_suite_row_size o_suite_row_tests) (fun r16 => bd1 (f_J6_bitCount_0f7a4 r16) (fun r18 => some (r18, o_timesBad, o_timesNo, o_timesFull))) else (if x1 = (7 : Int32) then bd1 (f_X4_soilingPairs o_suite_size o_suite_startCells o_suite_modeNow o_suite_masks) (fun r14 => some (r14, o_timesBad, o_timesNo, o_timesFull)) else bd4 (f_X6_refused o_timesBad o_timesNo o_timesFull (-2 : Int32)) (fun r1 w2 w3 w4 => some (r1, w2, w3, w4))))))))))
set_option maxHeartbeats 4000000 in
set_option maxRecDepth 100000 in
theorem c_X6_count (l : Launch) (D : va_G) (cI cS : ClassId) (a_o : Nat) (a_o_suite : Nat) (a_o_suite_masks : Nat) (a_o_suite_row : Nat) (a_o_suite_row_tests : Nat) (a_o_past : Nat) (a_o_text : Nat) (a_o_orders : Nat) (a_o_spare : Nat) (o_timesBad : Int32) (o_timesNo : Int32) (o_timesFull : Int32) (o_suite_size : Int32) (o_suite_startCells : Int32) (o_suite_modeNow : Int32) (o_suite_masks : Ar) (o_suite_row_size : Int32) (o_suite_row_tests : Ar) (x1 : Int32) (r0 : Int32) (o_timesBad' : Int32) (o_timesNo' : Int32) (o_timesFull' : Int32) (h : f_X6_count o_timesBad o_timesNo o_timesFull o_suite_size o_suite_startCells o_suite_modeNow o_suite_masks o_suite_row_size o_suite_row_tests x1 = some (r0, o_timesBad', o_timesNo', o_timesFull')) : wrM l D cI cS yX6_count cX6_count 2 (some .int) 5 112 [.ref a_o, .int x1] [(a_o, .inr (5, [.ref a_o_suite, .ref a_o_past, .ref a_o_text, .ref a_o_orders, .ref a_o_spare, .int (o_timesBad), .int (o_timesNo), .int (o_timesFull)])), (a_o_suite, .inr (3, [.ref a_o_suite_masks, .ref a_o_suite_row, .int (o_suite_size), .int (o_suite_startCells), .int (o_suite_modeNow)])), (a_o_suite_masks, .inl (cI, 40, .inl (o_suite_masks))), (a_o_suite_row, .inr (2, [.ref a_o_suite_row_tests, .int (o_suite_row_size)])), (a_o_suite_row_tests, .inl (cI, 8, .inl (o_suite_row_tests)))] [(a_o, .inr (5, [.ref a_o_suite, .ref a_o_past, .ref a_o_text, .ref a_o_orders, .ref a_o_spare, .int (o_timesBad'), .int (o_timesNo'), .int (o_timesFull')])), (a_o_suite, .inr (3, [.ref a_o_suite_masks, .ref a_o_suite_row, .int (o_suite_size), .int (o_suite_startCells), .int (o_suite_modeNow)])), (a_o_suite_masks, .inl (cI, 40, .inl (o_suite_masks))), (a_o_suite_row, .inr (2, [.ref a_o_suite_row_tests, .int (o_suite_row_size)])), (a_o_suite_row_tests, .inl (cI, 8, .inl (o_suite_row_tests)))] (some (.int r0)) := by
  refine Met.ofW (cc := cX6_count) (maxL := 2) (ret := (some .int)) (by decide) rfl ?_
  intro p e s m args below meth c s₁ B hml hv
  obtain ⟨rfl, hP, hK, hD0⟩ := hv
  have hx := B.exec
  have hb := B.bytes
  have hr := B.returns
  have hts : ∀ w ∈ GW, w.before _ s = true := fun w hw => atoms_spec (ws := mws yX6_count cX6_count 2 (some .int)) B.pre w (List.mem_cons_of_mem _ hw)
  have hown : s.vm.findClass RX6 = some m.cls := findClass_of_methodNamed B.named
  have hlocks := B.notSynchronized
  have hD := inW_self hD0
  generalize hAe : inW [(a_o, .inr (5, [.ref a_o_suite, .ref a_o_past, .ref a_o_text, .ref a_o_orders, .ref a_o_spare, .int (o_timesBad), .int (o_timesNo), .int (o_timesFull)])), (a_o_suite, .inr (3, [.ref a_o_suite_masks, .ref a_o_suite_row, .int (o_suite_size), .int (o_suite_startCells), .int (o_suite_modeNow)])), (a_o_suite_masks, .inl (cI, 40, .inl (o_suite_masks))), (a_o_suite_row, .inr (2, [.ref a_o_suite_row_tests, .int (o_suite_row_size)])), (a_o_suite_row_tests, .inl (cI, 8, .inl (o_suite_row_tests)))] = A at hD ⊢
  have hS : va_S A s.heap s.heap [] := va_S.rf
  have hl := lv_entry ([.ref a_o, .int x1]) (n := 2) (Nat.le_of_ble_eq_true rfl)
  rw [lg_entry_eq]
  generalize (lg_sl ([.ref a_o, .int x1]) ++ List.replicate (2 - (lg_sl ([.ref a_o, .int x1])).length) Slot.unset).toArray = ls at hl ⊢
  have hl : lv_has ls 2 [(0, .ref a_o), (1, .int x1)] := hl
  have S : CallFix p m c cX6_count 2 s _ GW RX6 := ⟨hx, hb, hml, hown, hts⟩
  unfold f_X6_count at h
  refine lv_iload_n hx hb dX6_count_0 rfl (lv_at hl 1 rfl) ?_
  by_cases c6 : x1 = (0 : Int32)
  · have h := it_t c6 h
    refine lv_tableIn (off := 47) (tgt := 48) hx hb dX6_count_1 (by rw [c6]; decide) (by rw [c6]; decide) (by rw [c6]; rfl) (by decide) ?_
    refine lv_aload_n hx hb dX6_count_48 rfl (lv_at hl 0 rfl) ?_
    refine gfX6_0 hx hb hts hown hK hP 0 rfl wfX6_10 dX6_count_49 ?_
    refine gnX4_2 hx hb hts hown hK hP 1 rfl wnX6_162 dX6_count_52 ?_
    cases h
    exact W.iret hx hb hr (fun t ht _ => ⟨rfl, by rw [ht]; exact hP, hS.F ht⟩) hS.2.2 dX6_count_55
  · have h := it_f c6 h
    by_cases c7 : x1 = (1 : Int32)
    · have h := it_t c7 h
      refine lv_tableIn (off := 55) (tgt := 56) hx hb dX6_count_1 (by rw [c7]; decide) (by rw [c7]; decide) (by rw [c7]; rfl) (by decide) ?_
      refine lv_aload_n hx hb dX6_count_56 rfl (lv_at hl 0 rfl) ?_
      refine gfX6_0 hx hb hts hown hK hP 0 rfl wfX6_10 dX6_count_57 ?_
      refine gnX4_1 hx hb hts hown hK hP 1 rfl wnX6_120 dX6_count_60 ?_
      refine gnX3_1 hx hb hts hown hK hP 3 rfl wnX6_165 dX6_count_63 ?_
      cases h
      exact W.iret hx hb hr (fun t ht _ => ⟨rfl, by rw [ht]; exact hP, hS.F ht⟩) hS.2.2 dX6_count_66
    · have h := it_f c7 h
      by_cases c8 : x1 = (2 : Int32)
      · have h := it_t c8 h
        refine lv_tableIn (off := 66) (tgt := 67) hx hb dX6_count_1 (by rw [c8]; decide) (by rw [c8]; decide) (by rw [c8]; rfl) (by decide) ?_
        refine lv_aload_n hx hb dX6_count_67 rfl (lv_at hl 0 rfl) ?_
        refine gfX6_0 hx hb hts hown hK hP 0 rfl wfX6_10 dX6_count_68 ?_
        refine gnX4_3 hx hb hts hown hK hP 1 rfl wnX6_85 dX6_count_71 ?_
        cases h
        exact W.iret hx hb hr (fun t ht _ => ⟨rfl, by rw [ht]; exact hP, hS.F ht⟩) hS.2.2 dX6_count_74
      · have h := it_f c8 h
        by_cases c9 : x1 = (3 : Int32)
        · have h := it_t c9 h
          refine lv_tableIn (off := 74) (tgt := 75) hx hb dX6_count_1 (by rw [c9]; decide) (by rw [c9]; decide) (by rw [c9]; rfl) (by decide) ?_
          refine lv_aload_n hx hb dX6_count_75 rfl (lv_at hl 0 rfl) ?_
          refine gfX6_0 hx hb hts hown hK hP 0 rfl wfX6_10 dX6_count_76 ?_
          refine gnX4_4 hx hb hts hown hK hP 1 rfl wnX6_166 dX6_count_79 ?_
          cases h
          exact W.iret hx hb hr (fun t ht _ => ⟨rfl, by rw [ht]; exact hP, hS.F ht⟩) hS.2.2 dX6_count_82
        · have h := it_f c9 h
          by_cases c10 : x1 = (4 : Int32)
          · have h := it_t c10 h
            refine lv_tableIn (off := 82) (tgt := 83) hx hb dX6_count_1 (by rw [c10]; decide) (by rw [c10]; decide) (by rw [c10]; rfl) (by decide) ?_
            refine lv_aload_n hx hb dX6_count_83 rfl (lv_at hl 0 rfl) ?_
            refine gfX6_0 hx hb hts hown hK hP 0 rfl wfX6_10 dX6_count_84 ?_
            refine lv_sipush (v := (255 : Int32)) hx hb dX6_count_87 (by decide) ?_
            obtain ⟨r24, hc25, h⟩ := bd1_use h
            refine ro_V (As := [.int (255 : Int32)]) (rest := []) S (c_X4_cellsBehind l D cI cS a_o_suite a_o_suite_masks a_o_suite_row a_o_suite_row_tests o_suite_size o_suite_startCells o_suite_modeNow o_suite_masks o_suite_row_size o_suite_row_tests (255 : Int32) r24 hc25) (cwV1 hts cvX4_cellsBehind wmX6_132 rfl rfl ⟨(Nat.le_of_ble_eq_true rfl), (Nat.le_of_ble_eq_true rfl)⟩) hK hP [1, 2, 3, 4] rfl 1 rfl rfl rfl rfl hl.1 rfl (Nat.le_of_ble_eq_true rfl) dX6_count_90 ⟨Nat.zero_le _, Nat.zero_le _⟩ rfl ?_
            cases h
            exact W.iret hx hb hr (fun t ht _ => ⟨rfl, by rw [ht]; exact hP, hS.F ht⟩) hS.2.2 dX6_count_93
          · have h := it_f c10 h
            by_cases c11 : x1 = (5 : Int32)
            · have h := it_t c11 h
              refine lv_tableIn (off := 93) (tgt := 94) hx hb dX6_count_1 (by rw [c11]; decide) (by rw [c11]; decide) (by rw [c11]; rfl) (by decide) ?_
              refine lv_aload_n hx hb dX6_count_94 rfl (lv_at hl 0 rfl) ?_
              refine gfX6_0 hx hb hts hown hK hP 0 rfl wfX6_10 dX6_count_95 ?_
              refine lv_aload_n hx hb dX6_count_98 rfl (lv_at hl 0 rfl) ?_
              refine gfX6_0 hx hb hts hown hK hP 0 rfl wfX6_10 dX6_count_99 ?_
              refine gnX4_1 hx hb hts hown hK hP 1 rfl wnX6_120 dX6_count_102 ?_
              obtain ⟨r20, hc21, h⟩ := bd1_use h
              refine ro_V (As := [.ref a_o_suite_row]) (rest := []) S (c_X4_passingIn_own l D cI cS a_o_suite a_o_suite_masks a_o_suite_row a_o_suite_row_tests o_suite_size o_suite_startCells o_suite_modeNow o_suite_masks o_suite_row_size o_suite_row_tests r20 hc21) (cwV1 hts cvX4_passingIn wmX6_169 rfl rfl ⟨(Nat.le_of_ble_eq_true rfl), (Nat.le_of_ble_eq_true rfl)⟩) hK hP [1, 2, 3, 4] rfl 1 rfl rfl rfl rfl hl.1 rfl (Nat.le_of_ble_eq_true rfl) dX6_count_105 ⟨Nat.zero_le _, Nat.zero_le _⟩ rfl ?_
              obtain ⟨r22, hc23, h⟩ := bd1_use h
              refine ro_S (As := [.int r20]) (rest := []) S (c_J6_bitCount_0f7a4 l D cI cS r20 r22 hc23) (cwS1 hts csJ6_bitCount_0f7a4 wmX6_173 rfl rfl ⟨(Nat.le_of_ble_eq_true rfl), (Nat.le_of_ble_eq_true rfl)⟩) hK hP [] rfl rfl hl.1 rfl (Nat.le_of_ble_eq_true rfl) dX6_count_108 ⟨Nat.zero_le _, Nat.zero_le _⟩ rfl ?_
              cases h
              exact W.iret hx hb hr (fun t ht _ => ⟨rfl, by rw [ht]; exact hP, hS.F ht⟩) hS.2.2 dX6_count_111
            · have h := it_f c11 h
              by_cases c12 : x1 = (6 : Int32)
              · have h := it_t c12 h
                refine lv_tableIn (off := 111) (tgt := 112) hx hb dX6_count_1 (by rw [c12]; decide) (by rw [c12]; decide) (by rw [c12]; rfl) (by decide) ?_
                refine lv_aload_n hx hb dX6_count_112 rfl (lv_at hl 0 rfl) ?_
                refine gfX6_0 hx hb hts hown hK hP 0 rfl wfX6_10 dX6_count_113 ?_
                refine lv_aload_n hx hb dX6_count_116 rfl (lv_at hl 0 rfl) ?_
                refine gfX6_0 hx hb hts hown hK hP 0 rfl wfX6_10 dX6_count_117 ?_
                refine gnX4_1 hx hb hts hown hK hP 1 rfl wnX6_120 dX6_count_120 ?_
                obtain ⟨r16, hc17, h⟩ := bd1_use h
                refine ro_V (As := [.ref a_o_suite_row]) (rest := []) S (c_X4_flippedIn_own l D cI cS a_o_suite a_o_suite_masks a_o_suite_row a_o_suite_row_tests o_suite_size o_suite_startCells o_suite_modeNow o_suite_masks o_suite_row_size o_suite_row_tests r16 hc17) (cwV1 hts cvX4_flippedIn wmX6_178 rfl rfl ⟨(Nat.le_of_ble_eq_true rfl), (Nat.le_of_ble_eq_true rfl)⟩) hK hP [1, 2, 3, 4] rfl 1 rfl rfl rfl rfl hl.1 rfl (Nat.le_of_ble_eq_true rfl) dX6_count_123 ⟨Nat.zero_le _, Nat.zero_le _⟩ rfl ?_
                obtain ⟨r18, hc19, h⟩ := bd1_use h
                refine ro_S (As := [.int r16]) (rest := []) S (c_J6_bitCount_0f7a4 l D cI cS r16 r18 hc19) (cwS1 hts csJ6_bitCount_0f7a4 wmX6_173 rfl rfl ⟨(Nat.le_of_ble_eq_true rfl), (Nat.le_of_ble_eq_true rfl)⟩) hK hP [] rfl rfl hl.1 rfl (Nat.le_of_ble_eq_true rfl) dX6_count_126 ⟨Nat.zero_le _, Nat.zero_le _⟩ rfl ?_
                cases h
                exact W.iret hx hb hr (fun t ht _ => ⟨rfl, by rw [ht]; exact hP, hS.F ht⟩) hS.2.2 dX6_count_129
              · have h := it_f c12 h
                by_cases c13 : x1 = (7 : Int32)
                · have h := it_t c13 h
                  refine lv_tableIn (off := 129) (tgt := 130) hx hb dX6_count_1 (by rw [c13]; decide) (by rw [c13]; decide) (by rw [c13]; rfl) (by decide) ?_
                  refine lv_aload_n hx hb dX6_count_130 rfl (lv_at hl 0 rfl) ?_
                  refine gfX6_0 hx hb hts hown hK hP 0 rfl wfX6_10 dX6_count_131 ?_
                  obtain ⟨r14, hc15, h⟩ := bd1_use h
                  refine ro_V (As := []) (rest := []) S (c_X4_soilingPairs l D cI cS a_o_suite a_o_suite_masks a_o_suite_row o_suite_size o_suite_startCells o_suite_modeNow o_suite_masks r14 hc15) (cwV1 hts cvX4_soilingPairs wmX6_181 rfl rfl ⟨(Nat.le_of_ble_eq_true rfl), (Nat.le_of_ble_eq_true rfl)⟩) hK hP [1, 2] rfl 1 rfl rfl rfl rfl hl.1 rfl (Nat.le_of_ble_eq_true rfl) dX6_count_134 ⟨Nat.zero_le _, Nat.zero_le _⟩ rfl ?_
                  cases h
                  exact W.iret hx hb hr (fun t ht _ => ⟨rfl, by rw [ht]; exact hP, hS.F ht⟩) hS.2.2 dX6_count_137
                · have h := it_f c13 h
                  refine lv_tableOut (tgt := 138) hx hb dX6_count_1 (by have q0 := lv_neT c6 (a := 0) (by decide); have q1 := lv_neT c7 (a := 1) (by decide); have q2 := lv_neT c8 (a := 2) (by decide); have q3 := lv_neT c9 (a := 3) (by decide); have q4 := lv_neT c10 (a := 4) (by decide); have q5 := lv_neT c11 (a := 5) (by decide); have q6 := lv_neT c12 (a := 6) (by decide); have q7 := lv_neT c13 (a := 7) (by decide); omega) (by decide) ?_
                  refine lv_aload_n hx hb dX6_count_138 rfl (lv_at hl 0 rfl) ?_
                  refine lv_bipush (v := (-2 : Int32)) hx hb dX6_count_139 (by decide) ?_
                  obtain ⟨r1, w2, w3, w4, hc5, h⟩ := bd4_use h
                  refine wr_V (As := [.int (-2 : Int32)]) (rest := []) (ws' := [(a_o, .inr (5, [.ref a_o_suite, .ref a_o_past, .ref a_o_text, .ref a_o_orders, .ref a_o_spare, .int (w2), .int (w3), .int (w4)])), (a_o_suite, .inr (3, [.ref a_o_suite_masks, .ref a_o_suite_row, .int (o_suite_size), .int (o_suite_startCells), .int (o_suite_modeNow)])), (a_o_suite_masks, .inl (cI, 40, .inl (o_suite_masks))), (a_o_suite_row, .inr (2, [.ref a_o_suite_row_tests, .int (o_suite_row_size)])), (a_o_suite_row_tests, .inl (cI, 8, .inl (o_suite_row_tests)))]) S (c_X6_refused l D cI cS a_o a_o_suite a_o_past a_o_text a_o_orders a_o_spare o_timesBad o_timesNo o_timesFull (-2 : Int32) r1 w2 w3 w4 hc5) (cwV1 hts cvX6_refused wmX6_82 rfl rfl ⟨(Nat.le_of_ble_eq_true rfl), (Nat.le_of_ble_eq_true rfl)⟩) hK hP hD hS [0] rfl rfl [(true, 0), (false, 1), (false, 2), (false, 3), (false, 4)] rfl rfl rfl 0 rfl rfl rfl rfl hl.1 rfl (Nat.le_of_ble_eq_true rfl) dX6_count_141 ⟨Nat.zero_le _, Nat.zero_le _⟩ rfl (fun H locs hP hD hS => ?_)
                  cases h
                  exact W.iret hx hb hr (fun t ht _ => ⟨rfl, by rw [ht]; exact hP, hS.F ht⟩) hS.2.2 dX6_count_144
def f_X6_settled (o_timesBad : Int32) (o_timesNo : Int32) (o_timesFull : Int32) (o_past_size : Int32) (o_past_marked : Int32) (x1 : Int32) : Option (Int32 × Int32 × Int32 × Int32 × Int32 × Int32) := (if (0 : Int32) ≤ x1 then bd2 (f_X1_keep o_past_size o_past_marked) (fun w2 w3 => some (x1, o_timesBad, o_timesNo, o_timesFull, w2, w3)) else bd4 (f_X6_refused o_timesBad o_timesNo o_timesFull x1) (fun r5 w6 w7 w8 => some (r5, w6, w7, w8, o_past_size, o_past_marked)))
set_option maxHeartbeats 4000000 in
set_option maxRecDepth 100000 in
theorem c_X6_settled (l : Launch) (D : va_G) (cI cS : ClassId) (a_o : Nat) (a_o_past : Nat) (a_o_suite : Nat) (a_o_text : Nat) (a_o_orders : Nat) (a_o_spare : Nat) (a_o_past_slots : Nat) (o_timesBad : Int32) (o_timesNo : Int32) (o_timesFull : Int32) (o_past_size : Int32) (o_past_marked : Int32) (x1 : Int32) (r0 : Int32) (o_timesBad' : Int32) (o_timesNo' : Int32) (o_timesFull' : Int32) (o_past_size' : Int32) (o_past_marked' : Int32) (h : f_X6_settled o_timesBad o_timesNo o_timesFull o_past_size o_past_marked x1 = some (r0, o_timesBad', o_timesNo', o_timesFull', o_past_size', o_past_marked')) : wrM l D cI cS yX6_settled cX6_settled 2 (some .int) 2 50 [.ref a_o, .int x1] [(a_o, .inr (5, [.ref a_o_suite, .ref a_o_past, .ref a_o_text, .ref a_o_orders, .ref a_o_spare, .int (o_timesBad), .int (o_timesNo), .int (o_timesFull)])), (a_o_past, .inr (1, [.ref a_o_past_slots, .int (o_past_size), .int (o_past_marked)]))] [(a_o, .inr (5, [.ref a_o_suite, .ref a_o_past, .ref a_o_text, .ref a_o_orders, .ref a_o_spare, .int (o_timesBad'), .int (o_timesNo'), .int (o_timesFull')])), (a_o_past, .inr (1, [.ref a_o_past_slots, .int (o_past_size'), .int (o_past_marked')]))] (some (.int r0)) := by
  refine Met.ofW (cc := cX6_settled) (maxL := 2) (ret := (some .int)) (by decide) rfl ?_
  intro p e s m args below meth c s₁ B hml hv
  obtain ⟨rfl, hP, hK, hD0⟩ := hv
  have hx := B.exec
  have hb := B.bytes
  have hr := B.returns
  have hts : ∀ w ∈ GW, w.before _ s = true := fun w hw => atoms_spec (ws := mws yX6_settled cX6_settled 2 (some .int)) B.pre w (List.mem_cons_of_mem _ hw)
  have hown : s.vm.findClass RX6 = some m.cls := findClass_of_methodNamed B.named
  have hlocks := B.notSynchronized
  have hD := inW_self hD0
  generalize hAe : inW [(a_o, .inr (5, [.ref a_o_suite, .ref a_o_past, .ref a_o_text, .ref a_o_orders, .ref a_o_spare, .int (o_timesBad), .int (o_timesNo), .int (o_timesFull)])), (a_o_past, .inr (1, [.ref a_o_past_slots, .int (o_past_size), .int (o_past_marked)]))] = A at hD ⊢
  have hS : va_S A s.heap s.heap [] := va_S.rf
  have hl := lv_entry ([.ref a_o, .int x1]) (n := 2) (Nat.le_of_ble_eq_true rfl)
  rw [lg_entry_eq]
  generalize (lg_sl ([.ref a_o, .int x1]) ++ List.replicate (2 - (lg_sl ([.ref a_o, .int x1])).length) Slot.unset).toArray = ls at hl ⊢
  have hl : lv_has ls 2 [(0, .ref a_o), (1, .int x1)] := hl
  have S : CallFix p m c cX6_settled 2 s _ GW RX6 := ⟨hx, hb, hml, hown, hts⟩
  unfold f_X6_settled at h
  refine lv_iload_n hx hb dX6_settled_0 rfl (lv_at hl 1 rfl) ?_
  refine lv_if_ge (tgt := 10) hx hb dX6_settled_1 (by decide) (fun c1 => ?_) (fun c1 => ?_)
  · have h := it_t c1 h
    refine lv_aload_n hx hb dX6_settled_10 rfl (lv_at hl 0 rfl) ?_
    refine gfX6_1 hx hb hts hown hK hP 0 rfl wfX6_19 dX6_settled_11 ?_
    obtain ⟨w2, w3, hc4, h⟩ := bd2_use h
    refine wr_V (As := []) (rest := []) (ws' := [(a_o, .inr (5, [.ref a_o_suite, .ref a_o_past, .ref a_o_text, .ref a_o_orders, .ref a_o_spare, .int (o_timesBad), .int (o_timesNo), .int (o_timesFull)])), (a_o_past, .inr (1, [.ref a_o_past_slots, .int (w2), .int (w3)]))]) S (c_X1_keep l D cI cS a_o_past a_o_past_slots o_past_size o_past_marked w2 w3 hc4) (cwV1 hts cvX1_keep wmX6_205 rfl rfl ⟨(Nat.le_of_ble_eq_true rfl), (Nat.le_of_ble_eq_true rfl)⟩) hK hP hD hS [1] rfl rfl [(false, 0), (true, 0)] rfl rfl rfl 1 rfl rfl rfl rfl hl.1 rfl (Nat.le_of_ble_eq_true rfl) dX6_settled_14 ⟨Nat.zero_le _, Nat.zero_le _⟩ rfl (fun H locs hP hD hS => ?_)
    refine lv_iload_n hx hb dX6_settled_17 rfl (lv_at hl 1 rfl) ?_
    cases h
    exact W.iret hx hb hr (fun t ht _ => ⟨rfl, by rw [ht]; exact hP, hS.F ht⟩) hS.2.2 dX6_settled_18
  · have h := it_f c1 h
    refine lv_aload_n hx hb dX6_settled_4 rfl (lv_at hl 0 rfl) ?_
    refine lv_iload_n hx hb dX6_settled_5 rfl (lv_at hl 1 rfl) ?_
    obtain ⟨r5, w6, w7, w8, hc9, h⟩ := bd4_use h
    refine wr_V (As := [.int x1]) (rest := []) (ws' := [(a_o, .inr (5, [.ref a_o_suite, .ref a_o_past, .ref a_o_text, .ref a_o_orders, .ref a_o_spare, .int (w6), .int (w7), .int (w8)])), (a_o_past, .inr (1, [.ref a_o_past_slots, .int (o_past_size), .int (o_past_marked)]))]) S (c_X6_refused l D cI cS a_o a_o_suite a_o_past a_o_text a_o_orders a_o_spare o_timesBad o_timesNo o_timesFull x1 r5 w6 w7 w8 hc9) (cwV1 hts cvX6_refused wmX6_82 rfl rfl ⟨(Nat.le_of_ble_eq_true rfl), (Nat.le_of_ble_eq_true rfl)⟩) hK hP hD hS [0] rfl rfl [(true, 0), (false, 1)] rfl rfl rfl 0 rfl rfl rfl rfl hl.1 rfl (Nat.le_of_ble_eq_true rfl) dX6_settled_6 ⟨Nat.zero_le _, Nat.zero_le _⟩ rfl (fun H locs hP hD hS => ?_)
    cases h
    exact W.iret hx hb hr (fun t ht _ => ⟨rfl, by rw [ht]; exact hP, hS.F ht⟩) hS.2.2 dX6_settled_9
def f_X6_cuts (o_timesBad : Int32) (o_timesNo : Int32) (o_timesFull : Int32) (o_suite_size : Int32) (o_suite_startCells : Int32) (o_suite_modeNow : Int32) (o_suite_masks : Ar) (o_suite_row_size : Int32) (o_suite_row_tests : Ar) (o_past_size : Int32) (o_past_marked : Int32) (o_past_F_pM : Nat → Ar) (o_past_F_pT : Nat → Ar) (o_past_F_pN : Nat → Int32) (o_past_F_pS : Nat → Int32) (o_past_F_pB : Nat → Int32) (o_past_F_pO : Nat → Int32) : Option (Int32 × Int32 × Int32 × Int32 × Int32 × Int32 × Ar × Int32 × Int32 × (Nat → Ar) × (Nat → Ar) × (Nat → Int32) × (Nat → Int32) × (Nat → Int32) × (Nat → Int32)) := bd6 (f_X1_mark o_past_marked o_past_F_pM o_past_F_pT o_past_F_pN o_past_F_pS o_past_F_pB o_past_F_pO o_suite_size o_suite_startCells o_suite_modeNow o_suite_masks o_suite_row_size o_suite_row_tests) (fun w1 w2 w3 w4 w5 w6 => bd4 (f_X4_cutLast o_suite_size o_suite_row_size o_suite_row_tests) (fun r8 w9 w10 w11 => bd6 (f_X6_settled o_timesBad o_timesNo o_timesFull o_past_size o_past_marked r8) (fun r13 w14 w15 w16 w17 w18 => some (r13, w14, w15, w16, w9, w10, w11, w17, w18, w1, w2, w3, w4, w5, w6))))
set_option maxHeartbeats 4000000 in
set_option maxRecDepth 100000 in
theorem c_X6_cuts (l : Launch) (D : va_G) (cI cS : ClassId) (a_o : Nat) (a_o_suite : Nat) (a_o_suite_masks : Nat) (a_o_suite_row : Nat) (a_o_suite_row_tests : Nat) (a_o_past : Nat) (a_o_past_slots : Nat) (o_past_F_fa : Nat → Nat) (o_past_F_fm : Nat → Nat) (o_past_F_fr : Nat → Nat) (o_past_F_ft : Nat → Nat) (a_o_text : Nat) (a_o_orders : Nat) (a_o_spare : Nat) (o_timesBad : Int32) (o_timesNo : Int32) (o_timesFull : Int32) (o_suite_size : Int32) (o_suite_startCells : Int32) (o_suite_modeNow : Int32) (o_suite_masks : Ar) (o_suite_row_size : Int32) (o_suite_row_tests : Ar) (o_past_size : Int32) (o_past_marked : Int32) (o_past_F_pM : Nat → Ar) (o_past_F_pT : Nat → Ar) (o_past_F_pN : Nat → Int32) (o_past_F_pS : Nat → Int32) (o_past_F_pB : Nat → Int32) (o_past_F_pO : Nat → Int32) (r0 : Int32) (o_timesBad' : Int32) (o_timesNo' : Int32) (o_timesFull' : Int32) (o_suite_size' : Int32) (o_suite_row_size' : Int32) (o_suite_row_tests' : Ar) (o_past_size' : Int32) (o_past_marked' : Int32) (o_past_F_pM' : Nat → Ar) (o_past_F_pT' : Nat → Ar) (o_past_F_pN' : Nat → Int32) (o_past_F_pS' : Nat → Int32) (o_past_F_pB' : Nat → Int32) (o_past_F_pO' : Nat → Int32) (h : f_X6_cuts o_timesBad o_timesNo o_timesFull o_suite_size o_suite_startCells o_suite_modeNow o_suite_masks o_suite_row_size o_suite_row_tests o_past_size o_past_marked o_past_F_pM o_past_F_pT o_past_F_pN o_past_F_pS o_past_F_pB o_past_F_pO = some (r0, o_timesBad', o_timesNo', o_timesFull', o_suite_size', o_suite_row_size', o_suite_row_tests', o_past_size', o_past_marked', o_past_F_pM', o_past_F_pT', o_past_F_pN', o_past_F_pS', o_past_F_pB', o_past_F_pO')) : wrM l D cI cS yX6_cuts cX6_cuts 1 (some .int) 4 104 [.ref a_o] [(a_o, .inr (5, [.ref a_o_suite, .ref a_o_past, .ref a_o_text, .ref a_o_orders, .ref a_o_spare, .int (o_timesBad), .int (o_timesNo), .int (o_timesFull)])), (a_o_suite, .inr (3, [.ref a_o_suite_masks, .ref a_o_suite_row, .int (o_suite_size), .int (o_suite_startCells), .int (o_suite_modeNow)])), (a_o_suite_masks, .inl (cI, 40, .inl (o_suite_masks))), (a_o_suite_row, .inr (2, [.ref a_o_suite_row_tests, .int (o_suite_row_size)])), (a_o_suite_row_tests, .inl (cI, 8, .inl (o_suite_row_tests))), (a_o_past, .inr (1, [.ref a_o_past_slots, .int (o_past_size), .int (o_past_marked)])), (a_o_past_slots, .inl (cS, 6, .inr (.inr (.inr (.inr (fun j => some (o_past_F_fa j))))))), (o_past_F_fa 0, .inr (3, [.ref (o_past_F_fm 0), .ref (o_past_F_fr 0), .int (o_past_F_pS 0), .int (o_past_F_pB 0), .int (o_past_F_pO 0)])), (o_past_F_fm 0, .inl (cI, 40, .inl (o_past_F_pM 0))), (o_past_F_fr 0, .inr (2, [.ref (o_past_F_ft 0), .int (o_past_F_pN 0)])), (o_past_F_ft 0, .inl (cI, 8, .inl (o_past_F_pT 0))), (o_past_F_fa 1, .inr (3, [.ref (o_past_F_fm 1), .ref (o_past_F_fr 1), .int (o_past_F_pS 1), .int (o_past_F_pB 1), .int (o_past_F_pO 1)])), (o_past_F_fm 1, .inl (cI, 40, .inl (o_past_F_pM 1))), (o_past_F_fr 1, .inr (2, [.ref (o_past_F_ft 1), .int (o_past_F_pN 1)])), (o_past_F_ft 1, .inl (cI, 8, .inl (o_past_F_pT 1))), (o_past_F_fa 2, .inr (3, [.ref (o_past_F_fm 2), .ref (o_past_F_fr 2), .int (o_past_F_pS 2), .int (o_past_F_pB 2), .int (o_past_F_pO 2)])), (o_past_F_fm 2, .inl (cI, 40, .inl (o_past_F_pM 2))), (o_past_F_fr 2, .inr (2, [.ref (o_past_F_ft 2), .int (o_past_F_pN 2)])), (o_past_F_ft 2, .inl (cI, 8, .inl (o_past_F_pT 2))), (o_past_F_fa 3, .inr (3, [.ref (o_past_F_fm 3), .ref (o_past_F_fr 3), .int (o_past_F_pS 3), .int (o_past_F_pB 3), .int (o_past_F_pO 3)])), (o_past_F_fm 3, .inl (cI, 40, .inl (o_past_F_pM 3))), (o_past_F_fr 3, .inr (2, [.ref (o_past_F_ft 3), .int (o_past_F_pN 3)])), (o_past_F_ft 3, .inl (cI, 8, .inl (o_past_F_pT 3))), (o_past_F_fa 4, .inr (3, [.ref (o_past_F_fm 4), .ref (o_past_F_fr 4), .int (o_past_F_pS 4), .int (o_past_F_pB 4), .int (o_past_F_pO 4)])), (o_past_F_fm 4, .inl (cI, 40, .inl (o_past_F_pM 4))), (o_past_F_fr 4, .inr (2, [.ref (o_past_F_ft 4), .int (o_past_F_pN 4)])), (o_past_F_ft 4, .inl (cI, 8, .inl (o_past_F_pT 4))), (o_past_F_fa 5, .inr (3, [.ref (o_past_F_fm 5), .ref (o_past_F_fr 5), .int (o_past_F_pS 5), .int (o_past_F_pB 5), .int (o_past_F_pO 5)])), (o_past_F_fm 5, .inl (cI, 40, .inl (o_past_F_pM 5))), (o_past_F_fr 5, .inr (2, [.ref (o_past_F_ft 5), .int (o_past_F_pN 5)])), (o_past_F_ft 5, .inl (cI, 8, .inl (o_past_F_pT 5)))] [(a_o, .inr (5, [.ref a_o_suite, .ref a_o_past, .ref a_o_text, .ref a_o_orders, .ref a_o_spare, .int (o_timesBad'), .int (o_timesNo'), .int (o_timesFull')])), (a_o_suite, .inr (3, [.ref a_o_suite_masks, .ref a_o_suite_row, .int (o_suite_size'), .int (o_suite_startCells), .int (o_suite_modeNow)])), (a_o_suite_masks, .inl (cI, 40, .inl (o_suite_masks))), (a_o_suite_row, .inr (2, [.ref a_o_suite_row_tests, .int (o_suite_row_size')])), (a_o_suite_row_tests, .inl (cI, 8, .inl (o_suite_row_tests'))), (a_o_past, .inr (1, [.ref a_o_past_slots, .int (o_past_size'), .int (o_past_marked')])), (a_o_past_slots, .inl (cS, 6, .inr (.inr (.inr (.inr (fun j => some (o_past_F_fa j))))))), (o_past_F_fa 0, .inr (3, [.ref (o_past_F_fm 0), .ref (o_past_F_fr 0), .int (o_past_F_pS' 0), .int (o_past_F_pB' 0), .int (o_past_F_pO' 0)])), (o_past_F_fm 0, .inl (cI, 40, .inl (o_past_F_pM' 0))), (o_past_F_fr 0, .inr (2, [.ref (o_past_F_ft 0), .int (o_past_F_pN' 0)])), (o_past_F_ft 0, .inl (cI, 8, .inl (o_past_F_pT' 0))), (o_past_F_fa 1, .inr (3, [.ref (o_past_F_fm 1), .ref (o_past_F_fr 1), .int (o_past_F_pS' 1), .int (o_past_F_pB' 1), .int (o_past_F_pO' 1)])), (o_past_F_fm 1, .inl (cI, 40, .inl (o_past_F_pM' 1))), (o_past_F_fr 1, .inr (2, [.ref (o_past_F_ft 1), .int (o_past_F_pN' 1)])), (o_past_F_ft 1, .inl (cI, 8, .inl (o_past_F_pT' 1))), (o_past_F_fa 2, .inr (3, [.ref (o_past_F_fm 2), .ref (o_past_F_fr 2), .int (o_past_F_pS' 2), .int (o_past_F_pB' 2), .int (o_past_F_pO' 2)])), (o_past_F_fm 2, .inl (cI, 40, .inl (o_past_F_pM' 2))), (o_past_F_fr 2, .inr (2, [.ref (o_past_F_ft 2), .int (o_past_F_pN' 2)])), (o_past_F_ft 2, .inl (cI, 8, .inl (o_past_F_pT' 2))), (o_past_F_fa 3, .inr (3, [.ref (o_past_F_fm 3), .ref (o_past_F_fr 3), .int (o_past_F_pS' 3), .int (o_past_F_pB' 3), .int (o_past_F_pO' 3)])), (o_past_F_fm 3, .inl (cI, 40, .inl (o_past_F_pM' 3))), (o_past_F_fr 3, .inr (2, [.ref (o_past_F_ft 3), .int (o_past_F_pN' 3)])), (o_past_F_ft 3, .inl (cI, 8, .inl (o_past_F_pT' 3))), (o_past_F_fa 4, .inr (3, [.ref (o_past_F_fm 4), .ref (o_past_F_fr 4), .int (o_past_F_pS' 4), .int (o_past_F_pB' 4), .int (o_past_F_pO' 4)])), (o_past_F_fm 4, .inl (cI, 40, .inl (o_past_F_pM' 4))), (o_past_F_fr 4, .inr (2, [.ref (o_past_F_ft 4), .int (o_past_F_pN' 4)])), (o_past_F_ft 4, .inl (cI, 8, .inl (o_past_F_pT' 4))), (o_past_F_fa 5, .inr (3, [.ref (o_past_F_fm 5), .ref (o_past_F_fr 5), .int (o_past_F_pS' 5), .int (o_past_F_pB' 5), .int (o_past_F_pO' 5)])), (o_past_F_fm 5, .inl (cI, 40, .inl (o_past_F_pM' 5))), (o_past_F_fr 5, .inr (2, [.ref (o_past_F_ft 5), .int (o_past_F_pN' 5)])), (o_past_F_ft 5, .inl (cI, 8, .inl (o_past_F_pT' 5)))] (some (.int r0)) := by
  refine Met.ofW (cc := cX6_cuts) (maxL := 1) (ret := (some .int)) (by decide) rfl ?_
  intro p e s m args below meth c s₁ B hml hv
  obtain ⟨rfl, hP, hK, hD0⟩ := hv
  have hx := B.exec
  have hb := B.bytes
  have hr := B.returns
  have hts : ∀ w ∈ GW, w.before _ s = true := fun w hw => atoms_spec (ws := mws yX6_cuts cX6_cuts 1 (some .int)) B.pre w (List.mem_cons_of_mem _ hw)
  have hown : s.vm.findClass RX6 = some m.cls := findClass_of_methodNamed B.named
  have hlocks := B.notSynchronized
  have hD := inW_self hD0
  generalize hAe : inW [(a_o, .inr (5, [.ref a_o_suite, .ref a_o_past, .ref a_o_text, .ref a_o_orders, .ref a_o_spare, .int (o_timesBad), .int (o_timesNo), .int (o_timesFull)])), (a_o_suite, .inr (3, [.ref a_o_suite_masks, .ref a_o_suite_row, .int (o_suite_size), .int (o_suite_startCells), .int (o_suite_modeNow)])), (a_o_suite_masks, .inl (cI, 40, .inl (o_suite_masks))), (a_o_suite_row, .inr (2, [.ref a_o_suite_row_tests, .int (o_suite_row_size)])), (a_o_suite_row_tests, .inl (cI, 8, .inl (o_suite_row_tests))), (a_o_past, .inr (1, [.ref a_o_past_slots, .int (o_past_size), .int (o_past_marked)])), (a_o_past_slots, .inl (cS, 6, .inr (.inr (.inr (.inr (fun j => some (o_past_F_fa j))))))), (o_past_F_fa 0, .inr (3, [.ref (o_past_F_fm 0), .ref (o_past_F_fr 0), .int (o_past_F_pS 0), .int (o_past_F_pB 0), .int (o_past_F_pO 0)])), (o_past_F_fm 0, .inl (cI, 40, .inl (o_past_F_pM 0))), (o_past_F_fr 0, .inr (2, [.ref (o_past_F_ft 0), .int (o_past_F_pN 0)])), (o_past_F_ft 0, .inl (cI, 8, .inl (o_past_F_pT 0))), (o_past_F_fa 1, .inr (3, [.ref (o_past_F_fm 1), .ref (o_past_F_fr 1), .int (o_past_F_pS 1), .int (o_past_F_pB 1), .int (o_past_F_pO 1)])), (o_past_F_fm 1, .inl (cI, 40, .inl (o_past_F_pM 1))), (o_past_F_fr 1, .inr (2, [.ref (o_past_F_ft 1), .int (o_past_F_pN 1)])), (o_past_F_ft 1, .inl (cI, 8, .inl (o_past_F_pT 1))), (o_past_F_fa 2, .inr (3, [.ref (o_past_F_fm 2), .ref (o_past_F_fr 2), .int (o_past_F_pS 2), .int (o_past_F_pB 2), .int (o_past_F_pO 2)])), (o_past_F_fm 2, .inl (cI, 40, .inl (o_past_F_pM 2))), (o_past_F_fr 2, .inr (2, [.ref (o_past_F_ft 2), .int (o_past_F_pN 2)])), (o_past_F_ft 2, .inl (cI, 8, .inl (o_past_F_pT 2))), (o_past_F_fa 3, .inr (3, [.ref (o_past_F_fm 3), .ref (o_past_F_fr 3), .int (o_past_F_pS 3), .int (o_past_F_pB 3), .int (o_past_F_pO 3)])), (o_past_F_fm 3, .inl (cI, 40, .inl (o_past_F_pM 3))), (o_past_F_fr 3, .inr (2, [.ref (o_past_F_ft 3), .int (o_past_F_pN 3)])), (o_past_F_ft 3, .inl (cI, 8, .inl (o_past_F_pT 3))), (o_past_F_fa 4, .inr (3, [.ref (o_past_F_fm 4), .ref (o_past_F_fr 4), .int (o_past_F_pS 4), .int (o_past_F_pB 4), .int (o_past_F_pO 4)])), (o_past_F_fm 4, .inl (cI, 40, .inl (o_past_F_pM 4))), (o_past_F_fr 4, .inr (2, [.ref (o_past_F_ft 4), .int (o_past_F_pN 4)])), (o_past_F_ft 4, .inl (cI, 8, .inl (o_past_F_pT 4))), (o_past_F_fa 5, .inr (3, [.ref (o_past_F_fm 5), .ref (o_past_F_fr 5), .int (o_past_F_pS 5), .int (o_past_F_pB 5), .int (o_past_F_pO 5)])), (o_past_F_fm 5, .inl (cI, 40, .inl (o_past_F_pM 5))), (o_past_F_fr 5, .inr (2, [.ref (o_past_F_ft 5), .int (o_past_F_pN 5)])), (o_past_F_ft 5, .inl (cI, 8, .inl (o_past_F_pT 5)))] = A at hD ⊢
  have hS : va_S A s.heap s.heap [] := va_S.rf
  have hl := lv_entry ([.ref a_o]) (n := 1) (Nat.le_of_ble_eq_true rfl)
  rw [lg_entry_eq]
  generalize (lg_sl ([.ref a_o]) ++ List.replicate (1 - (lg_sl ([.ref a_o])).length) Slot.unset).toArray = ls at hl ⊢
  have hl : lv_has ls 1 [(0, .ref a_o)] := hl
  have S : CallFix p m c cX6_cuts 1 s _ GW RX6 := ⟨hx, hb, hml, hown, hts⟩
  unfold f_X6_cuts at h
  refine lv_aload_n hx hb dX6_cuts_0 rfl (lv_at hl 0 rfl) ?_
  refine gfX6_1 hx hb hts hown hK hP 0 rfl wfX6_19 dX6_cuts_1 ?_
  refine lv_aload_n hx hb dX6_cuts_4 rfl (lv_at hl 0 rfl) ?_
  refine gfX6_0 hx hb hts hown hK hP 0 rfl wfX6_10 dX6_cuts_5 ?_
  obtain ⟨w1, w2, w3, w4, w5, w6, hc7, h⟩ := bd6_use h
  refine wr_V (As := [.ref a_o_suite]) (rest := []) (ws' := [(a_o, .inr (5, [.ref a_o_suite, .ref a_o_past, .ref a_o_text, .ref a_o_orders, .ref a_o_spare, .int (o_timesBad), .int (o_timesNo), .int (o_timesFull)])), (a_o_suite, .inr (3, [.ref a_o_suite_masks, .ref a_o_suite_row, .int (o_suite_size), .int (o_suite_startCells), .int (o_suite_modeNow)])), (a_o_suite_masks, .inl (cI, 40, .inl (o_suite_masks))), (a_o_suite_row, .inr (2, [.ref a_o_suite_row_tests, .int (o_suite_row_size)])), (a_o_suite_row_tests, .inl (cI, 8, .inl (o_suite_row_tests))), (a_o_past, .inr (1, [.ref a_o_past_slots, .int (o_past_size), .int (o_past_marked)])), (a_o_past_slots, .inl (cS, 6, .inr (.inr (.inr (.inr (fun j => some (o_past_F_fa j))))))), (o_past_F_fa 0, .inr (3, [.ref (o_past_F_fm 0), .ref (o_past_F_fr 0), .int (w4 0), .int (w5 0), .int (w6 0)])), (o_past_F_fm 0, .inl (cI, 40, .inl (w1 0))), (o_past_F_fr 0, .inr (2, [.ref (o_past_F_ft 0), .int (w3 0)])), (o_past_F_ft 0, .inl (cI, 8, .inl (w2 0))), (o_past_F_fa 1, .inr (3, [.ref (o_past_F_fm 1), .ref (o_past_F_fr 1), .int (w4 1), .int (w5 1), .int (w6 1)])), (o_past_F_fm 1, .inl (cI, 40, .inl (w1 1))), (o_past_F_fr 1, .inr (2, [.ref (o_past_F_ft 1), .int (w3 1)])), (o_past_F_ft 1, .inl (cI, 8, .inl (w2 1))), (o_past_F_fa 2, .inr (3, [.ref (o_past_F_fm 2), .ref (o_past_F_fr 2), .int (w4 2), .int (w5 2), .int (w6 2)])), (o_past_F_fm 2, .inl (cI, 40, .inl (w1 2))), (o_past_F_fr 2, .inr (2, [.ref (o_past_F_ft 2), .int (w3 2)])), (o_past_F_ft 2, .inl (cI, 8, .inl (w2 2))), (o_past_F_fa 3, .inr (3, [.ref (o_past_F_fm 3), .ref (o_past_F_fr 3), .int (w4 3), .int (w5 3), .int (w6 3)])), (o_past_F_fm 3, .inl (cI, 40, .inl (w1 3))), (o_past_F_fr 3, .inr (2, [.ref (o_past_F_ft 3), .int (w3 3)])), (o_past_F_ft 3, .inl (cI, 8, .inl (w2 3))), (o_past_F_fa 4, .inr (3, [.ref (o_past_F_fm 4), .ref (o_past_F_fr 4), .int (w4 4), .int (w5 4), .int (w6 4)])), (o_past_F_fm 4, .inl (cI, 40, .inl (w1 4))), (o_past_F_fr 4, .inr (2, [.ref (o_past_F_ft 4), .int (w3 4)])), (o_past_F_ft 4, .inl (cI, 8, .inl (w2 4))), (o_past_F_fa 5, .inr (3, [.ref (o_past_F_fm 5), .ref (o_past_F_fr 5), .int (w4 5), .int (w5 5), .int (w6 5)])), (o_past_F_fm 5, .inl (cI, 40, .inl (w1 5))), (o_past_F_fr 5, .inr (2, [.ref (o_past_F_ft 5), .int (w3 5)])), (o_past_F_ft 5, .inl (cI, 8, .inl (w2 5)))]) S (c_X1_mark l D cI cS a_o_past a_o_past_slots o_past_F_fa o_past_F_fm o_past_F_fr o_past_F_ft a_o_suite a_o_suite_masks a_o_suite_row a_o_suite_row_tests o_past_size o_past_marked o_past_F_pM o_past_F_pT o_past_F_pN o_past_F_pS o_past_F_pB o_past_F_pO o_suite_size o_suite_startCells o_suite_modeNow o_suite_masks o_suite_row_size o_suite_row_tests w1 w2 w3 w4 w5 w6 hc7) (cwV1 hts cvX1_mark wmX6_44 rfl rfl ⟨(Nat.le_of_ble_eq_true rfl), (Nat.le_of_ble_eq_true rfl)⟩) hK hP hD hS [5, 6, 7, 8, 9, 10, 11, 12, 13, 14, 15, 16, 17, 18, 19, 20, 21, 22, 23, 24, 25, 26, 27, 28, 29, 30, 1, 2, 3, 4] rfl rfl [(false, 0), (true, 26), (true, 27), (true, 28), (true, 29), (true, 0), (true, 1), (true, 2), (true, 3), (true, 4), (true, 5), (true, 6), (true, 7), (true, 8), (true, 9), (true, 10), (true, 11), (true, 12), (true, 13), (true, 14), (true, 15), (true, 16), (true, 17), (true, 18), (true, 19), (true, 20), (true, 21), (true, 22), (true, 23), (true, 24), (true, 25)] rfl rfl rfl 5 rfl rfl rfl rfl hl.1 rfl (Nat.le_of_ble_eq_true rfl) dX6_cuts_8 ⟨Nat.zero_le _, Nat.zero_le _⟩ rfl (fun H locs hP hD hS => ?_)
  refine lv_aload_n hx hb dX6_cuts_11 rfl (lv_at hl 0 rfl) ?_
  refine lv_aload_n hx hb dX6_cuts_12 rfl (lv_at hl 0 rfl) ?_
  refine gfX6_0 hx hb hts hown hK hP 0 rfl wfX6_10 dX6_cuts_13 ?_
  obtain ⟨r8, w9, w10, w11, hc12, h⟩ := bd4_use h
  refine wr_V (As := []) (rest := [.ref a_o]) (ws' := [(a_o, .inr (5, [.ref a_o_suite, .ref a_o_past, .ref a_o_text, .ref a_o_orders, .ref a_o_spare, .int (o_timesBad), .int (o_timesNo), .int (o_timesFull)])), (a_o_suite, .inr (3, [.ref a_o_suite_masks, .ref a_o_suite_row, .int (w9), .int (o_suite_startCells), .int (o_suite_modeNow)])), (a_o_suite_masks, .inl (cI, 40, .inl (o_suite_masks))), (a_o_suite_row, .inr (2, [.ref a_o_suite_row_tests, .int (w10)])), (a_o_suite_row_tests, .inl (cI, 8, .inl (w11))), (a_o_past, .inr (1, [.ref a_o_past_slots, .int (o_past_size), .int (o_past_marked)])), (a_o_past_slots, .inl (cS, 6, .inr (.inr (.inr (.inr (fun j => some (o_past_F_fa j))))))), (o_past_F_fa 0, .inr (3, [.ref (o_past_F_fm 0), .ref (o_past_F_fr 0), .int (w4 0), .int (w5 0), .int (w6 0)])), (o_past_F_fm 0, .inl (cI, 40, .inl (w1 0))), (o_past_F_fr 0, .inr (2, [.ref (o_past_F_ft 0), .int (w3 0)])), (o_past_F_ft 0, .inl (cI, 8, .inl (w2 0))), (o_past_F_fa 1, .inr (3, [.ref (o_past_F_fm 1), .ref (o_past_F_fr 1), .int (w4 1), .int (w5 1), .int (w6 1)])), (o_past_F_fm 1, .inl (cI, 40, .inl (w1 1))), (o_past_F_fr 1, .inr (2, [.ref (o_past_F_ft 1), .int (w3 1)])), (o_past_F_ft 1, .inl (cI, 8, .inl (w2 1))), (o_past_F_fa 2, .inr (3, [.ref (o_past_F_fm 2), .ref (o_past_F_fr 2), .int (w4 2), .int (w5 2), .int (w6 2)])), (o_past_F_fm 2, .inl (cI, 40, .inl (w1 2))), (o_past_F_fr 2, .inr (2, [.ref (o_past_F_ft 2), .int (w3 2)])), (o_past_F_ft 2, .inl (cI, 8, .inl (w2 2))), (o_past_F_fa 3, .inr (3, [.ref (o_past_F_fm 3), .ref (o_past_F_fr 3), .int (w4 3), .int (w5 3), .int (w6 3)])), (o_past_F_fm 3, .inl (cI, 40, .inl (w1 3))), (o_past_F_fr 3, .inr (2, [.ref (o_past_F_ft 3), .int (w3 3)])), (o_past_F_ft 3, .inl (cI, 8, .inl (w2 3))), (o_past_F_fa 4, .inr (3, [.ref (o_past_F_fm 4), .ref (o_past_F_fr 4), .int (w4 4), .int (w5 4), .int (w6 4)])), (o_past_F_fm 4, .inl (cI, 40, .inl (w1 4))), (o_past_F_fr 4, .inr (2, [.ref (o_past_F_ft 4), .int (w3 4)])), (o_past_F_ft 4, .inl (cI, 8, .inl (w2 4))), (o_past_F_fa 5, .inr (3, [.ref (o_past_F_fm 5), .ref (o_past_F_fr 5), .int (w4 5), .int (w5 5), .int (w6 5)])), (o_past_F_fm 5, .inl (cI, 40, .inl (w1 5))), (o_past_F_fr 5, .inr (2, [.ref (o_past_F_ft 5), .int (w3 5)])), (o_past_F_ft 5, .inl (cI, 8, .inl (w2 5)))]) S (c_X4_cutLast l D cI cS a_o_suite a_o_suite_row a_o_suite_row_tests a_o_suite_masks o_suite_size o_suite_startCells o_suite_modeNow o_suite_row_size o_suite_row_tests r8 w9 w10 w11 hc12) (cwV1 hts cvX4_cutLast wmX6_56 rfl rfl ⟨(Nat.le_of_ble_eq_true rfl), (Nat.le_of_ble_eq_true rfl)⟩) hK hP hD hS [1, 3, 4] rfl rfl [(false, 0), (true, 0), (false, 2), (true, 1), (true, 2), (false, 5), (false, 6), (false, 7), (false, 8), (false, 9), (false, 10), (false, 11), (false, 12), (false, 13), (false, 14), (false, 15), (false, 16), (false, 17), (false, 18), (false, 19), (false, 20), (false, 21), (false, 22), (false, 23), (false, 24), (false, 25), (false, 26), (false, 27), (false, 28), (false, 29), (false, 30)] rfl rfl rfl 1 rfl rfl rfl rfl hl.1 rfl (Nat.le_of_ble_eq_true rfl) dX6_cuts_16 ⟨Nat.zero_le _, Nat.zero_le _⟩ rfl (fun H locs hP hD hS => ?_)
  obtain ⟨r13, w14, w15, w16, w17, w18, hc19, h⟩ := bd6_use h
  refine wr_V (As := [.int r8]) (rest := []) (ws' := [(a_o, .inr (5, [.ref a_o_suite, .ref a_o_past, .ref a_o_text, .ref a_o_orders, .ref a_o_spare, .int (w14), .int (w15), .int (w16)])), (a_o_suite, .inr (3, [.ref a_o_suite_masks, .ref a_o_suite_row, .int (w9), .int (o_suite_startCells), .int (o_suite_modeNow)])), (a_o_suite_masks, .inl (cI, 40, .inl (o_suite_masks))), (a_o_suite_row, .inr (2, [.ref a_o_suite_row_tests, .int (w10)])), (a_o_suite_row_tests, .inl (cI, 8, .inl (w11))), (a_o_past, .inr (1, [.ref a_o_past_slots, .int (w17), .int (w18)])), (a_o_past_slots, .inl (cS, 6, .inr (.inr (.inr (.inr (fun j => some (o_past_F_fa j))))))), (o_past_F_fa 0, .inr (3, [.ref (o_past_F_fm 0), .ref (o_past_F_fr 0), .int (w4 0), .int (w5 0), .int (w6 0)])), (o_past_F_fm 0, .inl (cI, 40, .inl (w1 0))), (o_past_F_fr 0, .inr (2, [.ref (o_past_F_ft 0), .int (w3 0)])), (o_past_F_ft 0, .inl (cI, 8, .inl (w2 0))), (o_past_F_fa 1, .inr (3, [.ref (o_past_F_fm 1), .ref (o_past_F_fr 1), .int (w4 1), .int (w5 1), .int (w6 1)])), (o_past_F_fm 1, .inl (cI, 40, .inl (w1 1))), (o_past_F_fr 1, .inr (2, [.ref (o_past_F_ft 1), .int (w3 1)])), (o_past_F_ft 1, .inl (cI, 8, .inl (w2 1))), (o_past_F_fa 2, .inr (3, [.ref (o_past_F_fm 2), .ref (o_past_F_fr 2), .int (w4 2), .int (w5 2), .int (w6 2)])), (o_past_F_fm 2, .inl (cI, 40, .inl (w1 2))), (o_past_F_fr 2, .inr (2, [.ref (o_past_F_ft 2), .int (w3 2)])), (o_past_F_ft 2, .inl (cI, 8, .inl (w2 2))), (o_past_F_fa 3, .inr (3, [.ref (o_past_F_fm 3), .ref (o_past_F_fr 3), .int (w4 3), .int (w5 3), .int (w6 3)])), (o_past_F_fm 3, .inl (cI, 40, .inl (w1 3))), (o_past_F_fr 3, .inr (2, [.ref (o_past_F_ft 3), .int (w3 3)])), (o_past_F_ft 3, .inl (cI, 8, .inl (w2 3))), (o_past_F_fa 4, .inr (3, [.ref (o_past_F_fm 4), .ref (o_past_F_fr 4), .int (w4 4), .int (w5 4), .int (w6 4)])), (o_past_F_fm 4, .inl (cI, 40, .inl (w1 4))), (o_past_F_fr 4, .inr (2, [.ref (o_past_F_ft 4), .int (w3 4)])), (o_past_F_ft 4, .inl (cI, 8, .inl (w2 4))), (o_past_F_fa 5, .inr (3, [.ref (o_past_F_fm 5), .ref (o_past_F_fr 5), .int (w4 5), .int (w5 5), .int (w6 5)])), (o_past_F_fm 5, .inl (cI, 40, .inl (w1 5))), (o_past_F_fr 5, .inr (2, [.ref (o_past_F_ft 5), .int (w3 5)])), (o_past_F_ft 5, .inl (cI, 8, .inl (w2 5)))]) S (c_X6_settled l D cI cS a_o a_o_past a_o_suite a_o_text a_o_orders a_o_spare a_o_past_slots o_timesBad o_timesNo o_timesFull o_past_size o_past_marked r8 r13 w14 w15 w16 w17 w18 hc19) (cwV1 hts cvX6_settled wmX6_52 rfl rfl ⟨(Nat.le_of_ble_eq_true rfl), (Nat.le_of_ble_eq_true rfl)⟩) hK hP hD hS [0, 5] rfl rfl [(true, 0), (false, 1), (false, 2), (false, 3), (false, 4), (true, 1), (false, 6), (false, 7), (false, 8), (false, 9), (false, 10), (false, 11), (false, 12), (false, 13), (false, 14), (false, 15), (false, 16), (false, 17), (false, 18), (false, 19), (false, 20), (false, 21), (false, 22), (false, 23), (false, 24), (false, 25), (false, 26), (false, 27), (false, 28), (false, 29), (false, 30)] rfl rfl rfl 0 rfl rfl rfl rfl hl.1 rfl (Nat.le_of_ble_eq_true rfl) dX6_cuts_19 ⟨Nat.zero_le _, Nat.zero_le _⟩ rfl (fun H locs hP hD hS => ?_)
  cases h
  exact W.iret hx hb hr (fun t ht _ => ⟨rfl, by rw [ht]; exact hP, hS.F ht⟩) hS.2.2 dX6_cuts_22
def f_X6_told (o_timesBad : Int32) (o_timesNo : Int32) (o_timesFull : Int32) (o_past_size : Int32) (o_text_length : Int32) (x1 : Int32) : Option (Int32 × Int32 × Int32 × Int32) := (if x1 = (0 : Int32) then some (o_timesBad, o_timesBad, o_timesNo, o_timesFull) else (if x1 = (1 : Int32) then some (o_timesNo, o_timesBad, o_timesNo, o_timesFull) else (if x1 = (2 : Int32) then some (o_timesFull, o_timesBad, o_timesNo, o_timesFull) else (if x1 = (3 : Int32) then some (o_text_length, o_timesBad, o_timesNo, o_timesFull) else (if x1 = (4 : Int32) then some (o_past_size, o_timesBad, o_timesNo, o_timesFull) else bd4 (f_X6_refused o_timesBad o_timesNo o_timesFull (-2 : Int32)) (fun r1 w2 w3 w4 => some (r1, w2, w3, w4)))))))
set_option maxHeartbeats 4000000 in
set_option maxRecDepth 100000 in
theorem c_X6_told (l : Launch) (D : va_G) (cI cS : ClassId) (a_o : Nat) (a_o_past : Nat) (a_o_text : Nat) (a_o_suite : Nat) (a_o_orders : Nat) (a_o_spare : Nat) (a_o_past_slots : Nat) (a_o_text_bytes : Nat) (o_timesBad : Int32) (o_timesNo : Int32) (o_timesFull : Int32) (o_past_size : Int32) (o_past_marked : Int32) (o_text_length : Int32) (x1 : Int32) (r0 : Int32) (o_timesBad' : Int32) (o_timesNo' : Int32) (o_timesFull' : Int32) (h : f_X6_told o_timesBad o_timesNo o_timesFull o_past_size o_text_length x1 = some (r0, o_timesBad', o_timesNo', o_timesFull')) : wrM l D cI cS yX6_told cX6_told 2 (some .int) 1 21 [.ref a_o, .int x1] [(a_o, .inr (5, [.ref a_o_suite, .ref a_o_past, .ref a_o_text, .ref a_o_orders, .ref a_o_spare, .int (o_timesBad), .int (o_timesNo), .int (o_timesFull)])), (a_o_past, .inr (1, [.ref a_o_past_slots, .int (o_past_size), .int (o_past_marked)])), (a_o_text, .inr (4, [.ref a_o_text_bytes, .int (o_text_length)]))] [(a_o, .inr (5, [.ref a_o_suite, .ref a_o_past, .ref a_o_text, .ref a_o_orders, .ref a_o_spare, .int (o_timesBad'), .int (o_timesNo'), .int (o_timesFull')])), (a_o_past, .inr (1, [.ref a_o_past_slots, .int (o_past_size), .int (o_past_marked)])), (a_o_text, .inr (4, [.ref a_o_text_bytes, .int (o_text_length)]))] (some (.int r0)) := by
  refine Met.ofW (cc := cX6_told) (maxL := 2) (ret := (some .int)) (by decide) rfl ?_
  intro p e s m args below meth c s₁ B hml hv
  obtain ⟨rfl, hP, hK, hD0⟩ := hv
  have hx := B.exec
  have hb := B.bytes
  have hr := B.returns
  have hts : ∀ w ∈ GW, w.before _ s = true := fun w hw => atoms_spec (ws := mws yX6_told cX6_told 2 (some .int)) B.pre w (List.mem_cons_of_mem _ hw)
  have hown : s.vm.findClass RX6 = some m.cls := findClass_of_methodNamed B.named
  have hlocks := B.notSynchronized
  have hD := inW_self hD0
  generalize hAe : inW [(a_o, .inr (5, [.ref a_o_suite, .ref a_o_past, .ref a_o_text, .ref a_o_orders, .ref a_o_spare, .int (o_timesBad), .int (o_timesNo), .int (o_timesFull)])), (a_o_past, .inr (1, [.ref a_o_past_slots, .int (o_past_size), .int (o_past_marked)])), (a_o_text, .inr (4, [.ref a_o_text_bytes, .int (o_text_length)]))] = A at hD ⊢
  have hS : va_S A s.heap s.heap [] := va_S.rf
  have hl := lv_entry ([.ref a_o, .int x1]) (n := 2) (Nat.le_of_ble_eq_true rfl)
  rw [lg_entry_eq]
  generalize (lg_sl ([.ref a_o, .int x1]) ++ List.replicate (2 - (lg_sl ([.ref a_o, .int x1])).length) Slot.unset).toArray = ls at hl ⊢
  have hl : lv_has ls 2 [(0, .ref a_o), (1, .int x1)] := hl
  have S : CallFix p m c cX6_told 2 s _ GW RX6 := ⟨hx, hb, hml, hown, hts⟩
  unfold f_X6_told at h
  refine lv_iload_n hx hb dX6_told_0 rfl (lv_at hl 1 rfl) ?_
  by_cases c6 : x1 = (0 : Int32)
  · have h := it_t c6 h
    refine lv_tableIn (off := 35) (tgt := 36) hx hb dX6_told_1 (by rw [c6]; decide) (by rw [c6]; decide) (by rw [c6]; rfl) (by decide) ?_
    refine lv_aload_n hx hb dX6_told_36 rfl (lv_at hl 0 rfl) ?_
    refine gfX6_5 hx hb hts hown hK hP 0 rfl wfX6_213 dX6_told_37 ?_
    cases h
    exact W.iret hx hb hr (fun t ht _ => ⟨rfl, by rw [ht]; exact hP, hS.F ht⟩) hS.2.2 dX6_told_40
  · have h := it_f c6 h
    by_cases c7 : x1 = (1 : Int32)
    · have h := it_t c7 h
      refine lv_tableIn (off := 40) (tgt := 41) hx hb dX6_told_1 (by rw [c7]; decide) (by rw [c7]; decide) (by rw [c7]; rfl) (by decide) ?_
      refine lv_aload_n hx hb dX6_told_41 rfl (lv_at hl 0 rfl) ?_
      refine gfX6_6 hx hb hts hown hK hP 0 rfl wfX6_216 dX6_told_42 ?_
      cases h
      exact W.iret hx hb hr (fun t ht _ => ⟨rfl, by rw [ht]; exact hP, hS.F ht⟩) hS.2.2 dX6_told_45
    · have h := it_f c7 h
      by_cases c8 : x1 = (2 : Int32)
      · have h := it_t c8 h
        refine lv_tableIn (off := 45) (tgt := 46) hx hb dX6_told_1 (by rw [c8]; decide) (by rw [c8]; decide) (by rw [c8]; rfl) (by decide) ?_
        refine lv_aload_n hx hb dX6_told_46 rfl (lv_at hl 0 rfl) ?_
        refine gfX6_7 hx hb hts hown hK hP 0 rfl wfX6_219 dX6_told_47 ?_
        cases h
        exact W.iret hx hb hr (fun t ht _ => ⟨rfl, by rw [ht]; exact hP, hS.F ht⟩) hS.2.2 dX6_told_50
      · have h := it_f c8 h
        by_cases c9 : x1 = (3 : Int32)
        · have h := it_t c9 h
          refine lv_tableIn (off := 50) (tgt := 51) hx hb dX6_told_1 (by rw [c9]; decide) (by rw [c9]; decide) (by rw [c9]; rfl) (by decide) ?_
          refine lv_aload_n hx hb dX6_told_51 rfl (lv_at hl 0 rfl) ?_
          refine gfX6_2 hx hb hts hown hK hP 0 rfl wfX6_26 dX6_told_52 ?_
          refine gnX5_1 hx hb hts hown hK hP 2 rfl wnX6_222 dX6_told_55 ?_
          cases h
          exact W.iret hx hb hr (fun t ht _ => ⟨rfl, by rw [ht]; exact hP, hS.F ht⟩) hS.2.2 dX6_told_58
        · have h := it_f c9 h
          by_cases c10 : x1 = (4 : Int32)
          · have h := it_t c10 h
            refine lv_tableIn (off := 58) (tgt := 59) hx hb dX6_told_1 (by rw [c10]; decide) (by rw [c10]; decide) (by rw [c10]; rfl) (by decide) ?_
            refine lv_aload_n hx hb dX6_told_59 rfl (lv_at hl 0 rfl) ?_
            refine gfX6_1 hx hb hts hown hK hP 0 rfl wfX6_19 dX6_told_60 ?_
            refine gnX1_1 hx hb hts hown hK hP 1 rfl wnX6_208 dX6_told_63 ?_
            cases h
            exact W.iret hx hb hr (fun t ht _ => ⟨rfl, by rw [ht]; exact hP, hS.F ht⟩) hS.2.2 dX6_told_66
          · have h := it_f c10 h
            refine lv_tableOut (tgt := 67) hx hb dX6_told_1 (by have q0 := lv_neT c6 (a := 0) (by decide); have q1 := lv_neT c7 (a := 1) (by decide); have q2 := lv_neT c8 (a := 2) (by decide); have q3 := lv_neT c9 (a := 3) (by decide); have q4 := lv_neT c10 (a := 4) (by decide); omega) (by decide) ?_
            refine lv_aload_n hx hb dX6_told_67 rfl (lv_at hl 0 rfl) ?_
            refine lv_bipush (v := (-2 : Int32)) hx hb dX6_told_68 (by decide) ?_
            obtain ⟨r1, w2, w3, w4, hc5, h⟩ := bd4_use h
            refine wr_V (As := [.int (-2 : Int32)]) (rest := []) (ws' := [(a_o, .inr (5, [.ref a_o_suite, .ref a_o_past, .ref a_o_text, .ref a_o_orders, .ref a_o_spare, .int (w2), .int (w3), .int (w4)])), (a_o_past, .inr (1, [.ref a_o_past_slots, .int (o_past_size), .int (o_past_marked)])), (a_o_text, .inr (4, [.ref a_o_text_bytes, .int (o_text_length)]))]) S (c_X6_refused l D cI cS a_o a_o_suite a_o_past a_o_text a_o_orders a_o_spare o_timesBad o_timesNo o_timesFull (-2 : Int32) r1 w2 w3 w4 hc5) (cwV1 hts cvX6_refused wmX6_82 rfl rfl ⟨(Nat.le_of_ble_eq_true rfl), (Nat.le_of_ble_eq_true rfl)⟩) hK hP hD hS [0] rfl rfl [(true, 0), (false, 1), (false, 2)] rfl rfl rfl 0 rfl rfl rfl rfl hl.1 rfl (Nat.le_of_ble_eq_true rfl) dX6_told_70 ⟨Nat.zero_le _, Nat.zero_le _⟩ rfl (fun H locs hP hD hS => ?_)
            cases h
            exact W.iret hx hb hr (fun t ht _ => ⟨rfl, by rw [ht]; exact hP, hS.F ht⟩) hS.2.2 dX6_told_73
def f_X6_of (o_timesBad : Int32) (o_timesNo : Int32) (o_timesFull : Int32) (o_suite_size : Int32) (o_suite_startCells : Int32) (o_suite_masks : Ar) (x1 : Int32) (x2 : Int32) : Option (Int32 × Int32 × Int32 × Int32) := bd1 (f_X4_hasTest o_suite_size x1) (fun r1 => (if (b2i r1) = (0 : Int32) then bd4 (f_X6_refused o_timesBad o_timesNo o_timesFull (-2 : Int32)) (fun r4 w5 w6 w7 => some (r4, w5, w6, w7)) else (if x2 < (0 : Int32) then bd4 (f_X6_refused o_timesBad o_timesNo o_timesFull (-2 : Int32)) (fun r10 w11 w12 w13 => some (r10, w11, w12, w13)) else (if x2 ≤ (5 : Int32) then (if x2 = (5 : Int32) then bd1 (f_X4_passesOn o_suite_masks x1 o_suite_startCells) (fun r19 => bd1 (f_X6_oneIf (b2i r19)) (fun r21 => some (r21, o_timesBad, o_timesNo, o_timesFull))) else bd1 (f_X4_mask o_suite_masks x1 x2) (fun r17 => some (r17, o_timesBad, o_timesNo, o_timesFull))) else bd4 (f_X6_refused o_timesBad o_timesNo o_timesFull (-2 : Int32)) (fun r23 w24 w25 w26 => some (r23, w24, w25, w26))))))
set_option maxHeartbeats 4000000 in
set_option maxRecDepth 100000 in
theorem c_X6_of (l : Launch) (D : va_G) (cI cS : ClassId) (a_o : Nat) (a_o_suite : Nat) (a_o_suite_masks : Nat) (a_o_past : Nat) (a_o_text : Nat) (a_o_orders : Nat) (a_o_spare : Nat) (a_o_suite_row : Nat) (o_timesBad : Int32) (o_timesNo : Int32) (o_timesFull : Int32) (o_suite_size : Int32) (o_suite_startCells : Int32) (o_suite_modeNow : Int32) (o_suite_masks : Ar) (x1 : Int32) (x2 : Int32) (r0 : Int32) (o_timesBad' : Int32) (o_timesNo' : Int32) (o_timesFull' : Int32) (h : f_X6_of o_timesBad o_timesNo o_timesFull o_suite_size o_suite_startCells o_suite_masks x1 x2 = some (r0, o_timesBad', o_timesNo', o_timesFull')) : wrM l D cI cS yX6_of cX6_of 3 (some .int) 2 45 [.ref a_o, .int x1, .int x2] [(a_o, .inr (5, [.ref a_o_suite, .ref a_o_past, .ref a_o_text, .ref a_o_orders, .ref a_o_spare, .int (o_timesBad), .int (o_timesNo), .int (o_timesFull)])), (a_o_suite, .inr (3, [.ref a_o_suite_masks, .ref a_o_suite_row, .int (o_suite_size), .int (o_suite_startCells), .int (o_suite_modeNow)])), (a_o_suite_masks, .inl (cI, 40, .inl (o_suite_masks)))] [(a_o, .inr (5, [.ref a_o_suite, .ref a_o_past, .ref a_o_text, .ref a_o_orders, .ref a_o_spare, .int (o_timesBad'), .int (o_timesNo'), .int (o_timesFull')])), (a_o_suite, .inr (3, [.ref a_o_suite_masks, .ref a_o_suite_row, .int (o_suite_size), .int (o_suite_startCells), .int (o_suite_modeNow)])), (a_o_suite_masks, .inl (cI, 40, .inl (o_suite_masks)))] (some (.int r0)) := by
  refine Met.ofW (cc := cX6_of) (maxL := 3) (ret := (some .int)) (by decide) rfl ?_
  intro p e s m args below meth c s₁ B hml hv
  obtain ⟨rfl, hP, hK, hD0⟩ := hv
  have hx := B.exec
  have hb := B.bytes
  have hr := B.returns
  have hts : ∀ w ∈ GW, w.before _ s = true := fun w hw => atoms_spec (ws := mws yX6_of cX6_of 3 (some .int)) B.pre w (List.mem_cons_of_mem _ hw)
  have hown : s.vm.findClass RX6 = some m.cls := findClass_of_methodNamed B.named
  have hlocks := B.notSynchronized
  have hD := inW_self hD0
  generalize hAe : inW [(a_o, .inr (5, [.ref a_o_suite, .ref a_o_past, .ref a_o_text, .ref a_o_orders, .ref a_o_spare, .int (o_timesBad), .int (o_timesNo), .int (o_timesFull)])), (a_o_suite, .inr (3, [.ref a_o_suite_masks, .ref a_o_suite_row, .int (o_suite_size), .int (o_suite_startCells), .int (o_suite_modeNow)])), (a_o_suite_masks, .inl (cI, 40, .inl (o_suite_masks)))] = A at hD ⊢
  have hS : va_S A s.heap s.heap [] := va_S.rf
  have hl := lv_entry ([.ref a_o, .int x1, .int x2]) (n := 3) (Nat.le_of_ble_eq_true rfl)
  rw [lg_entry_eq]
  generalize (lg_sl ([.ref a_o, .int x1, .int x2]) ++ List.replicate (3 - (lg_sl ([.ref a_o, .int x1, .int x2])).length) Slot.unset).toArray = ls at hl ⊢
  have hl : lv_has ls 3 [(0, .ref a_o), (1, .int x1), (2, .int x2)] := hl
  have S : CallFix p m c cX6_of 3 s _ GW RX6 := ⟨hx, hb, hml, hown, hts⟩
  unfold f_X6_of at h
  refine lv_aload_n hx hb dX6_of_0 rfl (lv_at hl 0 rfl) ?_
  refine gfX6_0 hx hb hts hown hK hP 0 rfl wfX6_10 dX6_of_1 ?_
  refine lv_iload_n hx hb dX6_of_4 rfl (lv_at hl 1 rfl) ?_
  obtain ⟨r1, hc2, h⟩ := bd1_use h
  refine ro_V (As := [.int x1]) (rest := []) S (c_X4_hasTest l D cI cS a_o_suite a_o_suite_masks a_o_suite_row o_suite_size o_suite_startCells o_suite_modeNow x1 r1 hc2) (cwV1 hts cvX4_hasTest wmX6_78 rfl rfl ⟨(Nat.le_of_ble_eq_true rfl), (Nat.le_of_ble_eq_true rfl)⟩) hK hP [1] rfl 1 rfl rfl rfl rfl hl.1 rfl (Nat.le_of_ble_eq_true rfl) dX6_of_5 ⟨Nat.zero_le _, Nat.zero_le _⟩ rfl ?_
  refine lv_if_eq (tgt := 20) hx hb dX6_of_8 (by decide) (fun c3 => ?_) (fun c3 => ?_)
  · have h := it_t c3 h
    refine lv_aload_n hx hb dX6_of_20 rfl (lv_at hl 0 rfl) ?_
    refine lv_bipush (v := (-2 : Int32)) hx hb dX6_of_21 (by decide) ?_
    obtain ⟨r4, w5, w6, w7, hc8, h⟩ := bd4_use h
    refine wr_V (As := [.int (-2 : Int32)]) (rest := []) (ws' := [(a_o, .inr (5, [.ref a_o_suite, .ref a_o_past, .ref a_o_text, .ref a_o_orders, .ref a_o_spare, .int (w5), .int (w6), .int (w7)])), (a_o_suite, .inr (3, [.ref a_o_suite_masks, .ref a_o_suite_row, .int (o_suite_size), .int (o_suite_startCells), .int (o_suite_modeNow)])), (a_o_suite_masks, .inl (cI, 40, .inl (o_suite_masks)))]) S (c_X6_refused l D cI cS a_o a_o_suite a_o_past a_o_text a_o_orders a_o_spare o_timesBad o_timesNo o_timesFull (-2 : Int32) r4 w5 w6 w7 hc8) (cwV1 hts cvX6_refused wmX6_82 rfl rfl ⟨(Nat.le_of_ble_eq_true rfl), (Nat.le_of_ble_eq_true rfl)⟩) hK hP hD hS [0] rfl rfl [(true, 0), (false, 1), (false, 2)] rfl rfl rfl 0 rfl rfl rfl rfl hl.1 rfl (Nat.le_of_ble_eq_true rfl) dX6_of_23 ⟨Nat.zero_le _, Nat.zero_le _⟩ rfl (fun H locs hP hD hS => ?_)
    cases h
    exact W.iret hx hb hr (fun t ht _ => ⟨rfl, by rw [ht]; exact hP, hS.F ht⟩) hS.2.2 dX6_of_26
  · have h := it_f c3 h
    refine lv_iload_n hx hb dX6_of_11 rfl (lv_at hl 2 rfl) ?_
    refine lv_if_lt (tgt := 20) hx hb dX6_of_12 (by decide) (fun c9 => ?_) (fun c9 => ?_)
    · have h := it_t c9 h
      refine lv_aload_n hx hb dX6_of_20 rfl (lv_at hl 0 rfl) ?_
      refine lv_bipush (v := (-2 : Int32)) hx hb dX6_of_21 (by decide) ?_
      obtain ⟨r10, w11, w12, w13, hc14, h⟩ := bd4_use h
      refine wr_V (As := [.int (-2 : Int32)]) (rest := []) (ws' := [(a_o, .inr (5, [.ref a_o_suite, .ref a_o_past, .ref a_o_text, .ref a_o_orders, .ref a_o_spare, .int (w11), .int (w12), .int (w13)])), (a_o_suite, .inr (3, [.ref a_o_suite_masks, .ref a_o_suite_row, .int (o_suite_size), .int (o_suite_startCells), .int (o_suite_modeNow)])), (a_o_suite_masks, .inl (cI, 40, .inl (o_suite_masks)))]) S (c_X6_refused l D cI cS a_o a_o_suite a_o_past a_o_text a_o_orders a_o_spare o_timesBad o_timesNo o_timesFull (-2 : Int32) r10 w11 w12 w13 hc14) (cwV1 hts cvX6_refused wmX6_82 rfl rfl ⟨(Nat.le_of_ble_eq_true rfl), (Nat.le_of_ble_eq_true rfl)⟩) hK hP hD hS [0] rfl rfl [(true, 0), (false, 1), (false, 2)] rfl rfl rfl 0 rfl rfl rfl rfl hl.1 rfl (Nat.le_of_ble_eq_true rfl) dX6_of_23 ⟨Nat.zero_le _, Nat.zero_le _⟩ rfl (fun H locs hP hD hS => ?_)
      cases h
      exact W.iret hx hb hr (fun t ht _ => ⟨rfl, by rw [ht]; exact hP, hS.F ht⟩) hS.2.2 dX6_of_26
    · have h := it_f c9 h
      refine lv_iload_n hx hb dX6_of_15 rfl (lv_at hl 2 rfl) ?_
      refine lv_iconst (v := (5 : Int32)) hx hb dX6_of_16 (by decide) ?_
      refine lv_icmp_le (tgt := 27) hx hb dX6_of_17 (by decide) (fun c15 => ?_) (fun c15 => ?_)
      · have h := it_t c15 h
        refine lv_iload_n hx hb dX6_of_27 rfl (lv_at hl 2 rfl) ?_
        refine lv_iconst (v := (5 : Int32)) hx hb dX6_of_28 (by decide) ?_
        refine lv_icmp_ne (tgt := 53) hx hb dX6_of_29 (by decide) (fun c16 => ?_) (fun c16 => ?_)
        · have h := it_f c16 h
          refine lv_aload_n hx hb dX6_of_53 rfl (lv_at hl 0 rfl) ?_
          refine gfX6_0 hx hb hts hown hK hP 0 rfl wfX6_10 dX6_of_54 ?_
          refine lv_iload_n hx hb dX6_of_57 rfl (lv_at hl 1 rfl) ?_
          refine lv_iload_n hx hb dX6_of_58 rfl (lv_at hl 2 rfl) ?_
          obtain ⟨r17, hc18, h⟩ := bd1_use h
          refine ro_V (As := [.int x1, .int x2]) (rest := []) S (c_X4_mask l D cI cS a_o_suite a_o_suite_masks a_o_suite_row o_suite_size o_suite_startCells o_suite_modeNow o_suite_masks x1 x2 r17 hc18) (cwV1 hts cvX4_mask wmX6_97 rfl rfl ⟨(Nat.le_of_ble_eq_true rfl), (Nat.le_of_ble_eq_true rfl)⟩) hK hP [1, 2] rfl 1 rfl rfl rfl rfl hl.1 rfl (Nat.le_of_ble_eq_true rfl) dX6_of_59 ⟨Nat.zero_le _, Nat.zero_le _⟩ rfl ?_
          cases h
          exact W.iret hx hb hr (fun t ht _ => ⟨rfl, by rw [ht]; exact hP, hS.F ht⟩) hS.2.2 dX6_of_62
        · have h := it_t c16 h
          refine lv_aload_n hx hb dX6_of_32 rfl (lv_at hl 0 rfl) ?_
          refine gfX6_0 hx hb hts hown hK hP 0 rfl wfX6_10 dX6_of_33 ?_
          refine lv_iload_n hx hb dX6_of_36 rfl (lv_at hl 1 rfl) ?_
          refine lv_aload_n hx hb dX6_of_37 rfl (lv_at hl 0 rfl) ?_
          refine gfX6_0 hx hb hts hown hK hP 0 rfl wfX6_10 dX6_of_38 ?_
          refine gnX4_3 hx hb hts hown hK hP 1 rfl wnX6_85 dX6_of_41 ?_
          obtain ⟨r19, hc20, h⟩ := bd1_use h
          refine ro_V (As := [.int x1, .int o_suite_startCells]) (rest := []) S (c_X4_passesOn l D cI cS a_o_suite a_o_suite_masks a_o_suite_row o_suite_size o_suite_startCells o_suite_modeNow o_suite_masks x1 o_suite_startCells r19 hc20) (cwV1 hts cvX4_passesOn wmX6_89 rfl rfl ⟨(Nat.le_of_ble_eq_true rfl), (Nat.le_of_ble_eq_true rfl)⟩) hK hP [1, 2] rfl 1 rfl rfl rfl rfl hl.1 rfl (Nat.le_of_ble_eq_true rfl) dX6_of_44 ⟨Nat.zero_le _, Nat.zero_le _⟩ rfl ?_
          obtain ⟨r21, hc22, h⟩ := bd1_use h
          refine ro_S (As := [.int (b2i r19)]) (rest := []) S (c_X6_oneIf l D cI cS (b2i r19) r21 hc22) (cwS1 hts csX6_oneIf wmX6_93 rfl rfl ⟨(Nat.le_of_ble_eq_true rfl), (Nat.le_of_ble_eq_true rfl)⟩) hK hP [] rfl rfl hl.1 rfl (Nat.le_of_ble_eq_true rfl) dX6_of_47 ⟨Nat.zero_le _, Nat.zero_le _⟩ rfl ?_
          refine lv_goto (tgt := 62) hx hb dX6_of_50 (by decide) ?_
          cases h
          exact W.iret hx hb hr (fun t ht _ => ⟨rfl, by rw [ht]; exact hP, hS.F ht⟩) hS.2.2 dX6_of_62
      · have h := it_f c15 h
        refine lv_aload_n hx hb dX6_of_20 rfl (lv_at hl 0 rfl) ?_
        refine lv_bipush (v := (-2 : Int32)) hx hb dX6_of_21 (by decide) ?_
        obtain ⟨r23, w24, w25, w26, hc27, h⟩ := bd4_use h
        refine wr_V (As := [.int (-2 : Int32)]) (rest := []) (ws' := [(a_o, .inr (5, [.ref a_o_suite, .ref a_o_past, .ref a_o_text, .ref a_o_orders, .ref a_o_spare, .int (w24), .int (w25), .int (w26)])), (a_o_suite, .inr (3, [.ref a_o_suite_masks, .ref a_o_suite_row, .int (o_suite_size), .int (o_suite_startCells), .int (o_suite_modeNow)])), (a_o_suite_masks, .inl (cI, 40, .inl (o_suite_masks)))]) S (c_X6_refused l D cI cS a_o a_o_suite a_o_past a_o_text a_o_orders a_o_spare o_timesBad o_timesNo o_timesFull (-2 : Int32) r23 w24 w25 w26 hc27) (cwV1 hts cvX6_refused wmX6_82 rfl rfl ⟨(Nat.le_of_ble_eq_true rfl), (Nat.le_of_ble_eq_true rfl)⟩) hK hP hD hS [0] rfl rfl [(true, 0), (false, 1), (false, 2)] rfl rfl rfl 0 rfl rfl rfl rfl hl.1 rfl (Nat.le_of_ble_eq_true rfl) dX6_of_23 ⟨Nat.zero_le _, Nat.zero_le _⟩ rfl (fun H locs hP hD hS => ?_)
        cases h
        exact W.iret hx hb hr (fun t ht _ => ⟨rfl, by rw [ht]; exact hP, hS.F ht⟩) hS.2.2 dX6_of_26
def f_X6_inRow (o_timesBad : Int32) (o_timesNo : Int32) (o_timesFull : Int32) (o_suite_size : Int32) (o_suite_startCells : Int32) (o_suite_modeNow : Int32) (o_suite_masks : Ar) (o_suite_row_size : Int32) (o_suite_row_tests : Ar) (x1 : Int32) (x2 : Int32) : Option (Int32 × Int32 × Int32 × Int32) := bd1 (f_X4_hasTest o_suite_size x1) (fun r1 => (if (b2i r1) = (0 : Int32) then bd4 (f_X6_refused o_timesBad o_timesNo o_timesFull (-2 : Int32)) (fun r4 w5 w6 w7 => some (r4, w5, w6, w7)) else (if x2 < (0 : Int32) then bd4 (f_X6_refused o_timesBad o_timesNo o_timesFull (-2 : Int32)) (fun r10 w11 w12 w13 => some (r10, w11, w12, w13)) else (if x2 ≤ (4 : Int32) then bd1 (f_X3_placeOf o_suite_row_size o_suite_row_tests x1) (fun r16 => (if r16 = (-1 : Int32) then bd4 (f_X6_refused o_timesBad o_timesNo o_timesFull (-3 : Int32)) (fun r39 w40 w41 w42 => some (r39, w40, w41, w42)) else bd1 (f_X3_setAhead o_suite_row_size o_suite_row_tests r16) (fun r19 => bd1 (f_X4_cellsBehind o_suite_startCells o_suite_modeNow o_suite_masks o_suite_row_size o_suite_row_tests r19) (fun r21 => (if x2 = (0 : Int32) then some (r16, o_timesBad, o_timesNo, o_timesFull) else (if x2 = (1 : Int32) then bd1 (f_X4_passesOn o_suite_masks x1 r21) (fun r35 => bd1 (f_X6_oneIf (b2i r35)) (fun r37 => some (r37, o_timesBad, o_timesNo, o_timesFull))) else (if x2 = (2 : Int32) then bd1 (f_X4_isFlippedOn o_suite_startCells o_suite_masks x1 r21) (fun r31 => bd1 (f_X6_oneIf (b2i r31)) (fun r33 => some (r33, o_timesBad, o_timesNo, o_timesFull))) else (if x2 = (3 : Int32) then bd1 (f_X4_wrongCells o_suite_masks x1 r21) (fun r29 => some (r29, o_timesBad, o_timesNo, o_timesFull)) else bd1 (f_X4_cellsAfter o_suite_modeNow o_suite_masks x1 r21) (fun r23 => some (r23, o_timesBad, o_timesNo, o_timesFull)))))))))) else bd4 (f_X6_refused o_timesBad o_timesNo o_timesFull (-2 : Int32)) (fun r44 w45 w46 w47 => some (r44, w45, w46, w47))))))
set_option maxHeartbeats 4000000 in
set_option maxRecDepth 100000 in
theorem c_X6_inRow (l : Launch) (D : va_G) (cI cS : ClassId) (a_o : Nat) (a_o_suite : Nat) (a_o_suite_masks : Nat) (a_o_suite_row : Nat) (a_o_suite_row_tests : Nat) (a_o_past : Nat) (a_o_text : Nat) (a_o_orders : Nat) (a_o_spare : Nat) (o_timesBad : Int32) (o_timesNo : Int32) (o_timesFull : Int32) (o_suite_size : Int32) (o_suite_startCells : Int32) (o_suite_modeNow : Int32) (o_suite_masks : Ar) (o_suite_row_size : Int32) (o_suite_row_tests : Ar) (x1 : Int32) (x2 : Int32) (r0 : Int32) (o_timesBad' : Int32) (o_timesNo' : Int32) (o_timesFull' : Int32) (h : f_X6_inRow o_timesBad o_timesNo o_timesFull o_suite_size o_suite_startCells o_suite_modeNow o_suite_masks o_suite_row_size o_suite_row_tests x1 x2 = some (r0, o_timesBad', o_timesNo', o_timesFull')) : wrM l D cI cS yX6_inRow cX6_inRow 5 (some .int) 3 70 [.ref a_o, .int x1, .int x2] [(a_o, .inr (5, [.ref a_o_suite, .ref a_o_past, .ref a_o_text, .ref a_o_orders, .ref a_o_spare, .int (o_timesBad), .int (o_timesNo), .int (o_timesFull)])), (a_o_suite, .inr (3, [.ref a_o_suite_masks, .ref a_o_suite_row, .int (o_suite_size), .int (o_suite_startCells), .int (o_suite_modeNow)])), (a_o_suite_masks, .inl (cI, 40, .inl (o_suite_masks))), (a_o_suite_row, .inr (2, [.ref a_o_suite_row_tests, .int (o_suite_row_size)])), (a_o_suite_row_tests, .inl (cI, 8, .inl (o_suite_row_tests)))] [(a_o, .inr (5, [.ref a_o_suite, .ref a_o_past, .ref a_o_text, .ref a_o_orders, .ref a_o_spare, .int (o_timesBad'), .int (o_timesNo'), .int (o_timesFull')])), (a_o_suite, .inr (3, [.ref a_o_suite_masks, .ref a_o_suite_row, .int (o_suite_size), .int (o_suite_startCells), .int (o_suite_modeNow)])), (a_o_suite_masks, .inl (cI, 40, .inl (o_suite_masks))), (a_o_suite_row, .inr (2, [.ref a_o_suite_row_tests, .int (o_suite_row_size)])), (a_o_suite_row_tests, .inl (cI, 8, .inl (o_suite_row_tests)))] (some (.int r0)) := by
  refine Met.ofW (cc := cX6_inRow) (maxL := 5) (ret := (some .int)) (by decide) rfl ?_
  intro p e s m args below meth c s₁ B hml hv
  obtain ⟨rfl, hP, hK, hD0⟩ := hv
  have hx := B.exec
  have hb := B.bytes
  have hr := B.returns
  have hts : ∀ w ∈ GW, w.before _ s = true := fun w hw => atoms_spec (ws := mws yX6_inRow cX6_inRow 5 (some .int)) B.pre w (List.mem_cons_of_mem _ hw)
  have hown : s.vm.findClass RX6 = some m.cls := findClass_of_methodNamed B.named
  have hlocks := B.notSynchronized
  have hD := inW_self hD0
  generalize hAe : inW [(a_o, .inr (5, [.ref a_o_suite, .ref a_o_past, .ref a_o_text, .ref a_o_orders, .ref a_o_spare, .int (o_timesBad), .int (o_timesNo), .int (o_timesFull)])), (a_o_suite, .inr (3, [.ref a_o_suite_masks, .ref a_o_suite_row, .int (o_suite_size), .int (o_suite_startCells), .int (o_suite_modeNow)])), (a_o_suite_masks, .inl (cI, 40, .inl (o_suite_masks))), (a_o_suite_row, .inr (2, [.ref a_o_suite_row_tests, .int (o_suite_row_size)])), (a_o_suite_row_tests, .inl (cI, 8, .inl (o_suite_row_tests)))] = A at hD ⊢
  have hS : va_S A s.heap s.heap [] := va_S.rf
  have hl := lv_entry ([.ref a_o, .int x1, .int x2]) (n := 5) (Nat.le_of_ble_eq_true rfl)
  rw [lg_entry_eq]
  generalize (lg_sl ([.ref a_o, .int x1, .int x2]) ++ List.replicate (5 - (lg_sl ([.ref a_o, .int x1, .int x2])).length) Slot.unset).toArray = ls at hl ⊢
  have hl : lv_has ls 5 [(0, .ref a_o), (1, .int x1), (2, .int x2)] := hl
  have S : CallFix p m c cX6_inRow 5 s _ GW RX6 := ⟨hx, hb, hml, hown, hts⟩
  unfold f_X6_inRow at h
  refine lv_aload_n hx hb dX6_inRow_0 rfl (lv_at hl 0 rfl) ?_
  refine gfX6_0 hx hb hts hown hK hP 0 rfl wfX6_10 dX6_inRow_1 ?_
  refine lv_iload_n hx hb dX6_inRow_4 rfl (lv_at hl 1 rfl) ?_
  obtain ⟨r1, hc2, h⟩ := bd1_use h
  refine ro_V (As := [.int x1]) (rest := []) S (c_X4_hasTest l D cI cS a_o_suite a_o_suite_masks a_o_suite_row o_suite_size o_suite_startCells o_suite_modeNow x1 r1 hc2) (cwV1 hts cvX4_hasTest wmX6_78 rfl rfl ⟨(Nat.le_of_ble_eq_true rfl), (Nat.le_of_ble_eq_true rfl)⟩) hK hP [1] rfl 1 rfl rfl rfl rfl hl.1 rfl (Nat.le_of_ble_eq_true rfl) dX6_inRow_5 ⟨Nat.zero_le _, Nat.zero_le _⟩ rfl ?_
  refine lv_if_eq (tgt := 20) hx hb dX6_inRow_8 (by decide) (fun c3 => ?_) (fun c3 => ?_)
  · have h := it_t c3 h
    refine lv_aload_n hx hb dX6_inRow_20 rfl (lv_at hl 0 rfl) ?_
    refine lv_bipush (v := (-2 : Int32)) hx hb dX6_inRow_21 (by decide) ?_
    obtain ⟨r4, w5, w6, w7, hc8, h⟩ := bd4_use h
    refine wr_V (As := [.int (-2 : Int32)]) (rest := []) (ws' := [(a_o, .inr (5, [.ref a_o_suite, .ref a_o_past, .ref a_o_text, .ref a_o_orders, .ref a_o_spare, .int (w5), .int (w6), .int (w7)])), (a_o_suite, .inr (3, [.ref a_o_suite_masks, .ref a_o_suite_row, .int (o_suite_size), .int (o_suite_startCells), .int (o_suite_modeNow)])), (a_o_suite_masks, .inl (cI, 40, .inl (o_suite_masks))), (a_o_suite_row, .inr (2, [.ref a_o_suite_row_tests, .int (o_suite_row_size)])), (a_o_suite_row_tests, .inl (cI, 8, .inl (o_suite_row_tests)))]) S (c_X6_refused l D cI cS a_o a_o_suite a_o_past a_o_text a_o_orders a_o_spare o_timesBad o_timesNo o_timesFull (-2 : Int32) r4 w5 w6 w7 hc8) (cwV1 hts cvX6_refused wmX6_82 rfl rfl ⟨(Nat.le_of_ble_eq_true rfl), (Nat.le_of_ble_eq_true rfl)⟩) hK hP hD hS [0] rfl rfl [(true, 0), (false, 1), (false, 2), (false, 3), (false, 4)] rfl rfl rfl 0 rfl rfl rfl rfl hl.1 rfl (Nat.le_of_ble_eq_true rfl) dX6_inRow_23 ⟨Nat.zero_le _, Nat.zero_le _⟩ rfl (fun H locs hP hD hS => ?_)
    cases h
    exact W.iret hx hb hr (fun t ht _ => ⟨rfl, by rw [ht]; exact hP, hS.F ht⟩) hS.2.2 dX6_inRow_26
  · have h := it_f c3 h
    refine lv_iload_n hx hb dX6_inRow_11 rfl (lv_at hl 2 rfl) ?_
    refine lv_if_lt (tgt := 20) hx hb dX6_inRow_12 (by decide) (fun c9 => ?_) (fun c9 => ?_)
    · have h := it_t c9 h
      refine lv_aload_n hx hb dX6_inRow_20 rfl (lv_at hl 0 rfl) ?_
      refine lv_bipush (v := (-2 : Int32)) hx hb dX6_inRow_21 (by decide) ?_
      obtain ⟨r10, w11, w12, w13, hc14, h⟩ := bd4_use h
      refine wr_V (As := [.int (-2 : Int32)]) (rest := []) (ws' := [(a_o, .inr (5, [.ref a_o_suite, .ref a_o_past, .ref a_o_text, .ref a_o_orders, .ref a_o_spare, .int (w11), .int (w12), .int (w13)])), (a_o_suite, .inr (3, [.ref a_o_suite_masks, .ref a_o_suite_row, .int (o_suite_size), .int (o_suite_startCells), .int (o_suite_modeNow)])), (a_o_suite_masks, .inl (cI, 40, .inl (o_suite_masks))), (a_o_suite_row, .inr (2, [.ref a_o_suite_row_tests, .int (o_suite_row_size)])), (a_o_suite_row_tests, .inl (cI, 8, .inl (o_suite_row_tests)))]) S (c_X6_refused l D cI cS a_o a_o_suite a_o_past a_o_text a_o_orders a_o_spare o_timesBad o_timesNo o_timesFull (-2 : Int32) r10 w11 w12 w13 hc14) (cwV1 hts cvX6_refused wmX6_82 rfl rfl ⟨(Nat.le_of_ble_eq_true rfl), (Nat.le_of_ble_eq_true rfl)⟩) hK hP hD hS [0] rfl rfl [(true, 0), (false, 1), (false, 2), (false, 3), (false, 4)] rfl rfl rfl 0 rfl rfl rfl rfl hl.1 rfl (Nat.le_of_ble_eq_true rfl) dX6_inRow_23 ⟨Nat.zero_le _, Nat.zero_le _⟩ rfl (fun H locs hP hD hS => ?_)
      cases h
      exact W.iret hx hb hr (fun t ht _ => ⟨rfl, by rw [ht]; exact hP, hS.F ht⟩) hS.2.2 dX6_inRow_26
    · have h := it_f c9 h
      refine lv_iload_n hx hb dX6_inRow_15 rfl (lv_at hl 2 rfl) ?_
      refine lv_iconst (v := (4 : Int32)) hx hb dX6_inRow_16 (by decide) ?_
      refine lv_icmp_le (tgt := 27) hx hb dX6_inRow_17 (by decide) (fun c15 => ?_) (fun c15 => ?_)
      · have h := it_t c15 h
        refine lv_aload_n hx hb dX6_inRow_27 rfl (lv_at hl 0 rfl) ?_
        refine gfX6_0 hx hb hts hown hK hP 0 rfl wfX6_10 dX6_inRow_28 ?_
        refine gnX4_1 hx hb hts hown hK hP 1 rfl wnX6_120 dX6_inRow_31 ?_
        refine lv_iload_n hx hb dX6_inRow_34 rfl (lv_at hl 1 rfl) ?_
        obtain ⟨r16, hc17, h⟩ := bd1_use h
        refine ro_V (As := [.int x1]) (rest := []) S (c_X3_placeOf l D cI cS a_o_suite_row a_o_suite_row_tests o_suite_row_size o_suite_row_tests x1 r16 hc17) (cwV1 hts cvX3_placeOf wmX6_126 rfl rfl ⟨(Nat.le_of_ble_eq_true rfl), (Nat.le_of_ble_eq_true rfl)⟩) hK hP [3, 4] rfl 3 rfl rfl rfl rfl hl.1 rfl (Nat.le_of_ble_eq_true rfl) dX6_inRow_35 ⟨Nat.zero_le _, Nat.zero_le _⟩ rfl ?_
        refine lv_istore_n (lv' := [(3, .int r16), (0, .ref a_o), (1, .int x1), (2, .int x2)]) hx hb dX6_inRow_38 rfl hl (by decide) rfl (fun ls hl => ?_)
        refine lv_iload_n hx hb dX6_inRow_39 rfl (lv_at hl 0 rfl) ?_
        refine lv_iconst (v := (-1 : Int32)) hx hb dX6_inRow_40 (by decide) ?_
        refine lv_icmp_ne (tgt := 51) hx hb dX6_inRow_41 (by decide) (fun c18 => ?_) (fun c18 => ?_)
        · have h := it_f c18 h
          refine lv_aload_n hx hb dX6_inRow_51 rfl (lv_at hl 1 rfl) ?_
          refine gfX6_0 hx hb hts hown hK hP 0 rfl wfX6_10 dX6_inRow_52 ?_
          refine lv_aload_n hx hb dX6_inRow_55 rfl (lv_at hl 1 rfl) ?_
          refine gfX6_0 hx hb hts hown hK hP 0 rfl wfX6_10 dX6_inRow_56 ?_
          refine gnX4_1 hx hb hts hown hK hP 1 rfl wnX6_120 dX6_inRow_59 ?_
          refine lv_iload_n hx hb dX6_inRow_62 rfl (lv_at hl 0 rfl) ?_
          obtain ⟨r19, hc20, h⟩ := bd1_use h
          refine ro_V (As := [.int r16]) (rest := [.ref a_o_suite]) S (c_X3_setAhead l D cI cS a_o_suite_row a_o_suite_row_tests o_suite_row_size o_suite_row_tests r16 r19 hc20) (cwV1 hts cvX3_setAhead wmX6_129 rfl rfl ⟨(Nat.le_of_ble_eq_true rfl), (Nat.le_of_ble_eq_true rfl)⟩) hK hP [3, 4] rfl 3 rfl rfl rfl rfl hl.1 rfl (Nat.le_of_ble_eq_true rfl) dX6_inRow_63 ⟨Nat.zero_le _, Nat.zero_le _⟩ rfl ?_
          obtain ⟨r21, hc22, h⟩ := bd1_use h
          refine ro_V (As := [.int r19]) (rest := []) S (c_X4_cellsBehind l D cI cS a_o_suite a_o_suite_masks a_o_suite_row a_o_suite_row_tests o_suite_size o_suite_startCells o_suite_modeNow o_suite_masks o_suite_row_size o_suite_row_tests r19 r21 hc22) (cwV1 hts cvX4_cellsBehind wmX6_132 rfl rfl ⟨(Nat.le_of_ble_eq_true rfl), (Nat.le_of_ble_eq_true rfl)⟩) hK hP [1, 2, 3, 4] rfl 1 rfl rfl rfl rfl hl.1 rfl (Nat.le_of_ble_eq_true rfl) dX6_inRow_66 ⟨Nat.zero_le _, Nat.zero_le _⟩ rfl ?_
          refine lv_istore (lv' := [(4, .int r21), (3, .int r16), (0, .ref a_o), (1, .int x1), (2, .int x2)]) hx hb dX6_inRow_69 hl (by decide) rfl (fun ls hl => ?_)
          refine lv_iload_n hx hb dX6_inRow_71 rfl (lv_at hl 4 rfl) ?_
          by_cases c25 : x2 = (0 : Int32)
          · have h := it_t c25 h
            refine lv_tableIn (off := 32) (tgt := 104) hx hb dX6_inRow_72 (by rw [c25]; decide) (by rw [c25]; decide) (by rw [c25]; rfl) (by decide) ?_
            refine lv_iload_n hx hb dX6_inRow_104 rfl (lv_at hl 1 rfl) ?_
            cases h
            exact W.iret hx hb hr (fun t ht _ => ⟨rfl, by rw [ht]; exact hP, hS.F ht⟩) hS.2.2 dX6_inRow_105
          · have h := it_f c25 h
            by_cases c26 : x2 = (1 : Int32)
            · have h := it_t c26 h
              refine lv_tableIn (off := 34) (tgt := 106) hx hb dX6_inRow_72 (by rw [c26]; decide) (by rw [c26]; decide) (by rw [c26]; rfl) (by decide) ?_
              refine lv_aload_n hx hb dX6_inRow_106 rfl (lv_at hl 2 rfl) ?_
              refine gfX6_0 hx hb hts hown hK hP 0 rfl wfX6_10 dX6_inRow_107 ?_
              refine lv_iload_n hx hb dX6_inRow_110 rfl (lv_at hl 3 rfl) ?_
              refine lv_iload hx hb dX6_inRow_111 (lv_at hl 0 rfl) ?_
              obtain ⟨r35, hc36, h⟩ := bd1_use h
              refine ro_V (As := [.int x1, .int r21]) (rest := []) S (c_X4_passesOn l D cI cS a_o_suite a_o_suite_masks a_o_suite_row o_suite_size o_suite_startCells o_suite_modeNow o_suite_masks x1 r21 r35 hc36) (cwV1 hts cvX4_passesOn wmX6_89 rfl rfl ⟨(Nat.le_of_ble_eq_true rfl), (Nat.le_of_ble_eq_true rfl)⟩) hK hP [1, 2] rfl 1 rfl rfl rfl rfl hl.1 rfl (Nat.le_of_ble_eq_true rfl) dX6_inRow_113 ⟨Nat.zero_le _, Nat.zero_le _⟩ rfl ?_
              obtain ⟨r37, hc38, h⟩ := bd1_use h
              refine ro_S (As := [.int (b2i r35)]) (rest := []) S (c_X6_oneIf l D cI cS (b2i r35) r37 hc38) (cwS1 hts csX6_oneIf wmX6_93 rfl rfl ⟨(Nat.le_of_ble_eq_true rfl), (Nat.le_of_ble_eq_true rfl)⟩) hK hP [] rfl rfl hl.1 rfl (Nat.le_of_ble_eq_true rfl) dX6_inRow_116 ⟨Nat.zero_le _, Nat.zero_le _⟩ rfl ?_
              cases h
              exact W.iret hx hb hr (fun t ht _ => ⟨rfl, by rw [ht]; exact hP, hS.F ht⟩) hS.2.2 dX6_inRow_119
            · have h := it_f c26 h
              by_cases c27 : x2 = (2 : Int32)
              · have h := it_t c27 h
                refine lv_tableIn (off := 48) (tgt := 120) hx hb dX6_inRow_72 (by rw [c27]; decide) (by rw [c27]; decide) (by rw [c27]; rfl) (by decide) ?_
                refine lv_aload_n hx hb dX6_inRow_120 rfl (lv_at hl 2 rfl) ?_
                refine gfX6_0 hx hb hts hown hK hP 0 rfl wfX6_10 dX6_inRow_121 ?_
                refine lv_iload_n hx hb dX6_inRow_124 rfl (lv_at hl 3 rfl) ?_
                refine lv_iload hx hb dX6_inRow_125 (lv_at hl 0 rfl) ?_
                obtain ⟨r31, hc32, h⟩ := bd1_use h
                refine ro_V (As := [.int x1, .int r21]) (rest := []) S (c_X4_isFlippedOn l D cI cS a_o_suite a_o_suite_masks a_o_suite_row o_suite_size o_suite_startCells o_suite_modeNow o_suite_masks x1 r21 r31 hc32) (cwV1 hts cvX4_isFlippedOn wmX6_135 rfl rfl ⟨(Nat.le_of_ble_eq_true rfl), (Nat.le_of_ble_eq_true rfl)⟩) hK hP [1, 2] rfl 1 rfl rfl rfl rfl hl.1 rfl (Nat.le_of_ble_eq_true rfl) dX6_inRow_127 ⟨Nat.zero_le _, Nat.zero_le _⟩ rfl ?_
                obtain ⟨r33, hc34, h⟩ := bd1_use h
                refine ro_S (As := [.int (b2i r31)]) (rest := []) S (c_X6_oneIf l D cI cS (b2i r31) r33 hc34) (cwS1 hts csX6_oneIf wmX6_93 rfl rfl ⟨(Nat.le_of_ble_eq_true rfl), (Nat.le_of_ble_eq_true rfl)⟩) hK hP [] rfl rfl hl.1 rfl (Nat.le_of_ble_eq_true rfl) dX6_inRow_130 ⟨Nat.zero_le _, Nat.zero_le _⟩ rfl ?_
                cases h
                exact W.iret hx hb hr (fun t ht _ => ⟨rfl, by rw [ht]; exact hP, hS.F ht⟩) hS.2.2 dX6_inRow_133
              · have h := it_f c27 h
                by_cases c28 : x2 = (3 : Int32)
                · have h := it_t c28 h
                  refine lv_tableIn (off := 62) (tgt := 134) hx hb dX6_inRow_72 (by rw [c28]; decide) (by rw [c28]; decide) (by rw [c28]; rfl) (by decide) ?_
                  refine lv_aload_n hx hb dX6_inRow_134 rfl (lv_at hl 2 rfl) ?_
                  refine gfX6_0 hx hb hts hown hK hP 0 rfl wfX6_10 dX6_inRow_135 ?_
                  refine lv_iload_n hx hb dX6_inRow_138 rfl (lv_at hl 3 rfl) ?_
                  refine lv_iload hx hb dX6_inRow_139 (lv_at hl 0 rfl) ?_
                  obtain ⟨r29, hc30, h⟩ := bd1_use h
                  refine ro_V (As := [.int x1, .int r21]) (rest := []) S (c_X4_wrongCells l D cI cS a_o_suite a_o_suite_masks a_o_suite_row o_suite_size o_suite_startCells o_suite_modeNow o_suite_masks x1 r21 r29 hc30) (cwV1 hts cvX4_wrongCells wmX6_138 rfl rfl ⟨(Nat.le_of_ble_eq_true rfl), (Nat.le_of_ble_eq_true rfl)⟩) hK hP [1, 2] rfl 1 rfl rfl rfl rfl hl.1 rfl (Nat.le_of_ble_eq_true rfl) dX6_inRow_141 ⟨Nat.zero_le _, Nat.zero_le _⟩ rfl ?_
                  cases h
                  exact W.iret hx hb hr (fun t ht _ => ⟨rfl, by rw [ht]; exact hP, hS.F ht⟩) hS.2.2 dX6_inRow_144
                · have h := it_f c28 h
                  refine lv_tableOut (tgt := 145) hx hb dX6_inRow_72 (by have q0 := lv_neT c25 (a := 0) (by decide); have q1 := lv_neT c26 (a := 1) (by decide); have q2 := lv_neT c27 (a := 2) (by decide); have q3 := lv_neT c28 (a := 3) (by decide); omega) (by decide) ?_
                  refine lv_aload_n hx hb dX6_inRow_145 rfl (lv_at hl 2 rfl) ?_
                  refine gfX6_0 hx hb hts hown hK hP 0 rfl wfX6_10 dX6_inRow_146 ?_
                  refine lv_iload_n hx hb dX6_inRow_149 rfl (lv_at hl 3 rfl) ?_
                  refine lv_iload hx hb dX6_inRow_150 (lv_at hl 0 rfl) ?_
                  obtain ⟨r23, hc24, h⟩ := bd1_use h
                  refine ro_V (As := [.int x1, .int r21]) (rest := []) S (c_X4_cellsAfter l D cI cS a_o_suite a_o_suite_masks a_o_suite_row o_suite_size o_suite_startCells o_suite_modeNow o_suite_masks x1 r21 r23 hc24) (cwV1 hts cvX4_cellsAfter wmX6_141 rfl rfl ⟨(Nat.le_of_ble_eq_true rfl), (Nat.le_of_ble_eq_true rfl)⟩) hK hP [1, 2] rfl 1 rfl rfl rfl rfl hl.1 rfl (Nat.le_of_ble_eq_true rfl) dX6_inRow_152 ⟨Nat.zero_le _, Nat.zero_le _⟩ rfl ?_
                  cases h
                  exact W.iret hx hb hr (fun t ht _ => ⟨rfl, by rw [ht]; exact hP, hS.F ht⟩) hS.2.2 dX6_inRow_155
        · have h := it_t c18 h
          refine lv_aload_n hx hb dX6_inRow_44 rfl (lv_at hl 1 rfl) ?_
          refine lv_bipush (v := (-3 : Int32)) hx hb dX6_inRow_45 (by decide) ?_
          obtain ⟨r39, w40, w41, w42, hc43, h⟩ := bd4_use h
          refine wr_V (As := [.int (-3 : Int32)]) (rest := []) (ws' := [(a_o, .inr (5, [.ref a_o_suite, .ref a_o_past, .ref a_o_text, .ref a_o_orders, .ref a_o_spare, .int (w40), .int (w41), .int (w42)])), (a_o_suite, .inr (3, [.ref a_o_suite_masks, .ref a_o_suite_row, .int (o_suite_size), .int (o_suite_startCells), .int (o_suite_modeNow)])), (a_o_suite_masks, .inl (cI, 40, .inl (o_suite_masks))), (a_o_suite_row, .inr (2, [.ref a_o_suite_row_tests, .int (o_suite_row_size)])), (a_o_suite_row_tests, .inl (cI, 8, .inl (o_suite_row_tests)))]) S (c_X6_refused l D cI cS a_o a_o_suite a_o_past a_o_text a_o_orders a_o_spare o_timesBad o_timesNo o_timesFull (-3 : Int32) r39 w40 w41 w42 hc43) (cwV1 hts cvX6_refused wmX6_82 rfl rfl ⟨(Nat.le_of_ble_eq_true rfl), (Nat.le_of_ble_eq_true rfl)⟩) hK hP hD hS [0] rfl rfl [(true, 0), (false, 1), (false, 2), (false, 3), (false, 4)] rfl rfl rfl 0 rfl rfl rfl rfl hl.1 rfl (Nat.le_of_ble_eq_true rfl) dX6_inRow_47 ⟨Nat.zero_le _, Nat.zero_le _⟩ rfl (fun H locs hP hD hS => ?_)
          cases h
          exact W.iret hx hb hr (fun t ht _ => ⟨rfl, by rw [ht]; exact hP, hS.F ht⟩) hS.2.2 dX6_inRow_50
      · have h := it_f c15 h
        refine lv_aload_n hx hb dX6_inRow_20 rfl (lv_at hl 0 rfl) ?_
        refine lv_bipush (v := (-2 : Int32)) hx hb dX6_inRow_21 (by decide) ?_
        obtain ⟨r44, w45, w46, w47, hc48, h⟩ := bd4_use h
        refine wr_V (As := [.int (-2 : Int32)]) (rest := []) (ws' := [(a_o, .inr (5, [.ref a_o_suite, .ref a_o_past, .ref a_o_text, .ref a_o_orders, .ref a_o_spare, .int (w45), .int (w46), .int (w47)])), (a_o_suite, .inr (3, [.ref a_o_suite_masks, .ref a_o_suite_row, .int (o_suite_size), .int (o_suite_startCells), .int (o_suite_modeNow)])), (a_o_suite_masks, .inl (cI, 40, .inl (o_suite_masks))), (a_o_suite_row, .inr (2, [.ref a_o_suite_row_tests, .int (o_suite_row_size)])), (a_o_suite_row_tests, .inl (cI, 8, .inl (o_suite_row_tests)))]) S (c_X6_refused l D cI cS a_o a_o_suite a_o_past a_o_text a_o_orders a_o_spare o_timesBad o_timesNo o_timesFull (-2 : Int32) r44 w45 w46 w47 hc48) (cwV1 hts cvX6_refused wmX6_82 rfl rfl ⟨(Nat.le_of_ble_eq_true rfl), (Nat.le_of_ble_eq_true rfl)⟩) hK hP hD hS [0] rfl rfl [(true, 0), (false, 1), (false, 2), (false, 3), (false, 4)] rfl rfl rfl 0 rfl rfl rfl rfl hl.1 rfl (Nat.le_of_ble_eq_true rfl) dX6_inRow_23 ⟨Nat.zero_le _, Nat.zero_le _⟩ rfl (fun H locs hP hD hS => ?_)
        cases h
        exact W.iret hx hb hr (fun t ht _ => ⟨rfl, by rw [ht]; exact hP, hS.F ht⟩) hS.2.2 dX6_inRow_26
def f_X6_flippedBySeed (o_suite_size : Int32) (o_suite_startCells : Int32) (o_suite_modeNow : Int32) (o_suite_masks : Ar) (o_spare_size : Int32) (o_spare_tests : Ar) (x1 : Int32) : Option (Int32 × Int32 × Ar) := bd2 (f_X3_layShuffled o_spare_size o_spare_tests o_suite_size x1) (fun w1 w2 => bd1 (f_X4_flippedIn o_suite_size o_suite_startCells o_suite_modeNow o_suite_masks w1 w2) (fun r4 => some (r4, w1, w2)))
set_option maxHeartbeats 4000000 in
set_option maxRecDepth 100000 in
theorem c_X6_flippedBySeed (l : Launch) (D : va_G) (cI cS : ClassId) (a_o : Nat) (a_o_suite : Nat) (a_o_suite_masks : Nat) (a_o_spare : Nat) (a_o_spare_tests : Nat) (a_o_past : Nat) (a_o_text : Nat) (a_o_orders : Nat) (a_o_suite_row : Nat) (o_timesBad : Int32) (o_timesNo : Int32) (o_timesFull : Int32) (o_suite_size : Int32) (o_suite_startCells : Int32) (o_suite_modeNow : Int32) (o_suite_masks : Ar) (o_spare_size : Int32) (o_spare_tests : Ar) (x1 : Int32) (r0 : Int32) (o_spare_size' : Int32) (o_spare_tests' : Ar) (h : f_X6_flippedBySeed o_suite_size o_suite_startCells o_suite_modeNow o_suite_masks o_spare_size o_spare_tests x1 = some (r0, o_spare_size', o_spare_tests')) : wrM l D cI cS yX6_flippedBySeed cX6_flippedBySeed 2 (some .int) 4 92 [.ref a_o, .int x1] [(a_o, .inr (5, [.ref a_o_suite, .ref a_o_past, .ref a_o_text, .ref a_o_orders, .ref a_o_spare, .int (o_timesBad), .int (o_timesNo), .int (o_timesFull)])), (a_o_suite, .inr (3, [.ref a_o_suite_masks, .ref a_o_suite_row, .int (o_suite_size), .int (o_suite_startCells), .int (o_suite_modeNow)])), (a_o_suite_masks, .inl (cI, 40, .inl (o_suite_masks))), (a_o_spare, .inr (2, [.ref a_o_spare_tests, .int (o_spare_size)])), (a_o_spare_tests, .inl (cI, 8, .inl (o_spare_tests)))] [(a_o, .inr (5, [.ref a_o_suite, .ref a_o_past, .ref a_o_text, .ref a_o_orders, .ref a_o_spare, .int (o_timesBad), .int (o_timesNo), .int (o_timesFull)])), (a_o_suite, .inr (3, [.ref a_o_suite_masks, .ref a_o_suite_row, .int (o_suite_size), .int (o_suite_startCells), .int (o_suite_modeNow)])), (a_o_suite_masks, .inl (cI, 40, .inl (o_suite_masks))), (a_o_spare, .inr (2, [.ref a_o_spare_tests, .int (o_spare_size')])), (a_o_spare_tests, .inl (cI, 8, .inl (o_spare_tests')))] (some (.int r0)) := by
  refine Met.ofW (cc := cX6_flippedBySeed) (maxL := 2) (ret := (some .int)) (by decide) rfl ?_
  intro p e s m args below meth c s₁ B hml hv
  obtain ⟨rfl, hP, hK, hD0⟩ := hv
  have hx := B.exec
  have hb := B.bytes
  have hr := B.returns
  have hts : ∀ w ∈ GW, w.before _ s = true := fun w hw => atoms_spec (ws := mws yX6_flippedBySeed cX6_flippedBySeed 2 (some .int)) B.pre w (List.mem_cons_of_mem _ hw)
  have hown : s.vm.findClass RX6 = some m.cls := findClass_of_methodNamed B.named
  have hlocks := B.notSynchronized
  have hD := inW_self hD0
  generalize hAe : inW [(a_o, .inr (5, [.ref a_o_suite, .ref a_o_past, .ref a_o_text, .ref a_o_orders, .ref a_o_spare, .int (o_timesBad), .int (o_timesNo), .int (o_timesFull)])), (a_o_suite, .inr (3, [.ref a_o_suite_masks, .ref a_o_suite_row, .int (o_suite_size), .int (o_suite_startCells), .int (o_suite_modeNow)])), (a_o_suite_masks, .inl (cI, 40, .inl (o_suite_masks))), (a_o_spare, .inr (2, [.ref a_o_spare_tests, .int (o_spare_size)])), (a_o_spare_tests, .inl (cI, 8, .inl (o_spare_tests)))] = A at hD ⊢
  have hS : va_S A s.heap s.heap [] := va_S.rf
  have hl := lv_entry ([.ref a_o, .int x1]) (n := 2) (Nat.le_of_ble_eq_true rfl)
  rw [lg_entry_eq]
  generalize (lg_sl ([.ref a_o, .int x1]) ++ List.replicate (2 - (lg_sl ([.ref a_o, .int x1])).length) Slot.unset).toArray = ls at hl ⊢
  have hl : lv_has ls 2 [(0, .ref a_o), (1, .int x1)] := hl
  have S : CallFix p m c cX6_flippedBySeed 2 s _ GW RX6 := ⟨hx, hb, hml, hown, hts⟩
  unfold f_X6_flippedBySeed at h
  refine lv_aload_n hx hb dX6_flippedBySeed_0 rfl (lv_at hl 0 rfl) ?_
  refine gfX6_4 hx hb hts hown hK hP 0 rfl wfX6_40 dX6_flippedBySeed_1 ?_
  refine lv_aload_n hx hb dX6_flippedBySeed_4 rfl (lv_at hl 0 rfl) ?_
  refine gfX6_0 hx hb hts hown hK hP 0 rfl wfX6_10 dX6_flippedBySeed_5 ?_
  refine gnX4_2 hx hb hts hown hK hP 1 rfl wnX6_162 dX6_flippedBySeed_8 ?_
  refine lv_iload_n hx hb dX6_flippedBySeed_11 rfl (lv_at hl 1 rfl) ?_
  obtain ⟨w1, w2, hc3, h⟩ := bd2_use h
  refine wr_V (As := [.int o_suite_size, .int x1]) (rest := []) (ws' := [(a_o, .inr (5, [.ref a_o_suite, .ref a_o_past, .ref a_o_text, .ref a_o_orders, .ref a_o_spare, .int (o_timesBad), .int (o_timesNo), .int (o_timesFull)])), (a_o_suite, .inr (3, [.ref a_o_suite_masks, .ref a_o_suite_row, .int (o_suite_size), .int (o_suite_startCells), .int (o_suite_modeNow)])), (a_o_suite_masks, .inl (cI, 40, .inl (o_suite_masks))), (a_o_spare, .inr (2, [.ref a_o_spare_tests, .int (w1)])), (a_o_spare_tests, .inl (cI, 8, .inl (w2)))]) S (c_X3_layShuffled l D cI cS a_o_spare a_o_spare_tests o_spare_size o_spare_tests o_suite_size x1 w1 w2 hc3) (cwV1 hts cvX3_layShuffled wmX6_250 rfl rfl ⟨(Nat.le_of_ble_eq_true rfl), (Nat.le_of_ble_eq_true rfl)⟩) hK hP hD hS [3, 4] rfl rfl [(false, 0), (false, 1), (false, 2), (true, 0), (true, 1)] rfl rfl rfl 3 rfl rfl rfl rfl hl.1 rfl (Nat.le_of_ble_eq_true rfl) dX6_flippedBySeed_12 ⟨Nat.zero_le _, Nat.zero_le _⟩ rfl (fun H locs hP hD hS => ?_)
  refine lv_aload_n hx hb dX6_flippedBySeed_15 rfl (lv_at hl 0 rfl) ?_
  refine gfX6_0 hx hb hts hown hK hP 0 rfl wfX6_10 dX6_flippedBySeed_16 ?_
  refine lv_aload_n hx hb dX6_flippedBySeed_19 rfl (lv_at hl 0 rfl) ?_
  refine gfX6_4 hx hb hts hown hK hP 0 rfl wfX6_40 dX6_flippedBySeed_20 ?_
  obtain ⟨r4, hc5, h⟩ := bd1_use h
  refine ro_V (As := [.ref a_o_spare]) (rest := []) S (c_X4_flippedIn l D cI cS a_o_suite a_o_suite_masks a_o_spare a_o_spare_tests a_o_suite_row o_suite_size o_suite_startCells o_suite_modeNow o_suite_masks w1 w2 r4 hc5) (cwV1 hts cvX4_flippedIn wmX6_178 rfl rfl ⟨(Nat.le_of_ble_eq_true rfl), (Nat.le_of_ble_eq_true rfl)⟩) hK hP [1, 2, 3, 4] rfl 1 rfl rfl rfl rfl hl.1 rfl (Nat.le_of_ble_eq_true rfl) dX6_flippedBySeed_23 ⟨Nat.zero_le _, Nat.zero_le _⟩ rfl ?_
  cases h
  exact W.iret hx hb hr (fun t ht _ => ⟨rfl, by rw [ht]; exact hP, hS.F ht⟩) hS.2.2 dX6_flippedBySeed_26
def f_X6_flips (o_timesBad : Int32) (o_timesNo : Int32) (o_timesFull : Int32) (o_suite_size : Int32) (o_suite_startCells : Int32) (o_suite_modeNow : Int32) (o_suite_masks : Ar) (o_spare_size : Int32) (o_spare_tests : Ar) (x1 : Int32) : Option (Int32 × Int32 × Int32 × Int32 × Int32 × Ar) := bd1 (f_X6_isSeed x1) (fun r1 => (if (b2i r1) = (0 : Int32) then bd4 (f_X6_refused o_timesBad o_timesNo o_timesFull (-2 : Int32)) (fun r8 w9 w10 w11 => some (r8, w9, w10, w11, o_spare_size, o_spare_tests)) else bd3 (f_X6_flippedBySeed o_suite_size o_suite_startCells o_suite_modeNow o_suite_masks o_spare_size o_spare_tests x1) (fun r4 w5 w6 => some (r4, o_timesBad, o_timesNo, o_timesFull, w5, w6))))
set_option maxHeartbeats 4000000 in
set_option maxRecDepth 100000 in
theorem c_X6_flips (l : Launch) (D : va_G) (cI cS : ClassId) (a_o : Nat) (a_o_suite : Nat) (a_o_suite_masks : Nat) (a_o_spare : Nat) (a_o_spare_tests : Nat) (a_o_past : Nat) (a_o_text : Nat) (a_o_orders : Nat) (a_o_suite_row : Nat) (o_timesBad : Int32) (o_timesNo : Int32) (o_timesFull : Int32) (o_suite_size : Int32) (o_suite_startCells : Int32) (o_suite_modeNow : Int32) (o_suite_masks : Ar) (o_spare_size : Int32) (o_spare_tests : Ar) (x1 : Int32) (r0 : Int32) (o_timesBad' : Int32) (o_timesNo' : Int32) (o_timesFull' : Int32) (o_spare_size' : Int32) (o_spare_tests' : Ar) (h : f_X6_flips o_timesBad o_timesNo o_timesFull o_suite_size o_suite_startCells o_suite_modeNow o_suite_masks o_spare_size o_spare_tests x1 = some (r0, o_timesBad', o_timesNo', o_timesFull', o_spare_size', o_spare_tests')) : wrM l D cI cS yX6_flips cX6_flips 2 (some .int) 5 113 [.ref a_o, .int x1] [(a_o, .inr (5, [.ref a_o_suite, .ref a_o_past, .ref a_o_text, .ref a_o_orders, .ref a_o_spare, .int (o_timesBad), .int (o_timesNo), .int (o_timesFull)])), (a_o_suite, .inr (3, [.ref a_o_suite_masks, .ref a_o_suite_row, .int (o_suite_size), .int (o_suite_startCells), .int (o_suite_modeNow)])), (a_o_suite_masks, .inl (cI, 40, .inl (o_suite_masks))), (a_o_spare, .inr (2, [.ref a_o_spare_tests, .int (o_spare_size)])), (a_o_spare_tests, .inl (cI, 8, .inl (o_spare_tests)))] [(a_o, .inr (5, [.ref a_o_suite, .ref a_o_past, .ref a_o_text, .ref a_o_orders, .ref a_o_spare, .int (o_timesBad'), .int (o_timesNo'), .int (o_timesFull')])), (a_o_suite, .inr (3, [.ref a_o_suite_masks, .ref a_o_suite_row, .int (o_suite_size), .int (o_suite_startCells), .int (o_suite_modeNow)])), (a_o_suite_masks, .inl (cI, 40, .inl (o_suite_masks))), (a_o_spare, .inr (2, [.ref a_o_spare_tests, .int (o_spare_size')])), (a_o_spare_tests, .inl (cI, 8, .inl (o_spare_tests')))] (some (.int r0)) := by
  refine Met.ofW (cc := cX6_flips) (maxL := 2) (ret := (some .int)) (by decide) rfl ?_
  intro p e s m args below meth c s₁ B hml hv
  obtain ⟨rfl, hP, hK, hD0⟩ := hv
  have hx := B.exec
  have hb := B.bytes
  have hr := B.returns
  have hts : ∀ w ∈ GW, w.before _ s = true := fun w hw => atoms_spec (ws := mws yX6_flips cX6_flips 2 (some .int)) B.pre w (List.mem_cons_of_mem _ hw)
  have hown : s.vm.findClass RX6 = some m.cls := findClass_of_methodNamed B.named
  have hlocks := B.notSynchronized
  have hD := inW_self hD0
  generalize hAe : inW [(a_o, .inr (5, [.ref a_o_suite, .ref a_o_past, .ref a_o_text, .ref a_o_orders, .ref a_o_spare, .int (o_timesBad), .int (o_timesNo), .int (o_timesFull)])), (a_o_suite, .inr (3, [.ref a_o_suite_masks, .ref a_o_suite_row, .int (o_suite_size), .int (o_suite_startCells), .int (o_suite_modeNow)])), (a_o_suite_masks, .inl (cI, 40, .inl (o_suite_masks))), (a_o_spare, .inr (2, [.ref a_o_spare_tests, .int (o_spare_size)])), (a_o_spare_tests, .inl (cI, 8, .inl (o_spare_tests)))] = A at hD ⊢
  have hS : va_S A s.heap s.heap [] := va_S.rf
  have hl := lv_entry ([.ref a_o, .int x1]) (n := 2) (Nat.le_of_ble_eq_true rfl)
  rw [lg_entry_eq]
  generalize (lg_sl ([.ref a_o, .int x1]) ++ List.replicate (2 - (lg_sl ([.ref a_o, .int x1])).length) Slot.unset).toArray = ls at hl ⊢
  have hl : lv_has ls 2 [(0, .ref a_o), (1, .int x1)] := hl
  have S : CallFix p m c cX6_flips 2 s _ GW RX6 := ⟨hx, hb, hml, hown, hts⟩
  unfold f_X6_flips at h
  refine lv_iload_n hx hb dX6_flips_0 rfl (lv_at hl 1 rfl) ?_
  obtain ⟨r1, hc2, h⟩ := bd1_use h
  refine ro_S (As := [.int x1]) (rest := []) S (c_X6_isSeed l D cI cS x1 r1 hc2) (cwS1 hts csX6_isSeed wmX6_110 rfl rfl ⟨(Nat.le_of_ble_eq_true rfl), (Nat.le_of_ble_eq_true rfl)⟩) hK hP [] rfl rfl hl.1 rfl (Nat.le_of_ble_eq_true rfl) dX6_flips_1 ⟨Nat.zero_le _, Nat.zero_le _⟩ rfl ?_
  refine lv_if_ne (tgt := 14) hx hb dX6_flips_4 (by decide) (fun c3 => ?_) (fun c3 => ?_)
  · have h := it_f c3 h
    refine lv_aload_n hx hb dX6_flips_14 rfl (lv_at hl 0 rfl) ?_
    refine lv_iload_n hx hb dX6_flips_15 rfl (lv_at hl 1 rfl) ?_
    obtain ⟨r4, w5, w6, hc7, h⟩ := bd3_use h
    refine wr_V (As := [.int x1]) (rest := []) (ws' := [(a_o, .inr (5, [.ref a_o_suite, .ref a_o_past, .ref a_o_text, .ref a_o_orders, .ref a_o_spare, .int (o_timesBad), .int (o_timesNo), .int (o_timesFull)])), (a_o_suite, .inr (3, [.ref a_o_suite_masks, .ref a_o_suite_row, .int (o_suite_size), .int (o_suite_startCells), .int (o_suite_modeNow)])), (a_o_suite_masks, .inl (cI, 40, .inl (o_suite_masks))), (a_o_spare, .inr (2, [.ref a_o_spare_tests, .int (w5)])), (a_o_spare_tests, .inl (cI, 8, .inl (w6)))]) S (c_X6_flippedBySeed l D cI cS a_o a_o_suite a_o_suite_masks a_o_spare a_o_spare_tests a_o_past a_o_text a_o_orders a_o_suite_row o_timesBad o_timesNo o_timesFull o_suite_size o_suite_startCells o_suite_modeNow o_suite_masks o_spare_size o_spare_tests x1 r4 w5 w6 hc7) (cwV1 hts cvX6_flippedBySeed wmX6_113 rfl rfl ⟨(Nat.le_of_ble_eq_true rfl), (Nat.le_of_ble_eq_true rfl)⟩) hK hP hD hS [0, 1, 2, 3, 4] rfl rfl [(true, 0), (true, 1), (true, 2), (true, 3), (true, 4)] rfl rfl rfl 0 rfl rfl rfl rfl hl.1 rfl (Nat.le_of_ble_eq_true rfl) dX6_flips_16 ⟨Nat.zero_le _, Nat.zero_le _⟩ rfl (fun H locs hP hD hS => ?_)
    cases h
    exact W.iret hx hb hr (fun t ht _ => ⟨rfl, by rw [ht]; exact hP, hS.F ht⟩) hS.2.2 dX6_flips_19
  · have h := it_t c3 h
    refine lv_aload_n hx hb dX6_flips_7 rfl (lv_at hl 0 rfl) ?_
    refine lv_bipush (v := (-2 : Int32)) hx hb dX6_flips_8 (by decide) ?_
    obtain ⟨r8, w9, w10, w11, hc12, h⟩ := bd4_use h
    refine wr_V (As := [.int (-2 : Int32)]) (rest := []) (ws' := [(a_o, .inr (5, [.ref a_o_suite, .ref a_o_past, .ref a_o_text, .ref a_o_orders, .ref a_o_spare, .int (w9), .int (w10), .int (w11)])), (a_o_suite, .inr (3, [.ref a_o_suite_masks, .ref a_o_suite_row, .int (o_suite_size), .int (o_suite_startCells), .int (o_suite_modeNow)])), (a_o_suite_masks, .inl (cI, 40, .inl (o_suite_masks))), (a_o_spare, .inr (2, [.ref a_o_spare_tests, .int (o_spare_size)])), (a_o_spare_tests, .inl (cI, 8, .inl (o_spare_tests)))]) S (c_X6_refused l D cI cS a_o a_o_suite a_o_past a_o_text a_o_orders a_o_spare o_timesBad o_timesNo o_timesFull (-2 : Int32) r8 w9 w10 w11 hc12) (cwV1 hts cvX6_refused wmX6_82 rfl rfl ⟨(Nat.le_of_ble_eq_true rfl), (Nat.le_of_ble_eq_true rfl)⟩) hK hP hD hS [0] rfl rfl [(true, 0), (false, 1), (false, 2), (false, 3), (false, 4)] rfl rfl rfl 0 rfl rfl rfl rfl hl.1 rfl (Nat.le_of_ble_eq_true rfl) dX6_flips_10 ⟨Nat.zero_le _, Nat.zero_le _⟩ rfl (fun H locs hP hD hS => ?_)
    cases h
    exact W.iret hx hb hr (fun t ht _ => ⟨rfl, by rw [ht]; exact hP, hS.F ht⟩) hS.2.2 dX6_flips_13
def b_X6_digest_184 (o_suite_size : Int32) (o_suite_startCells : Int32) (o_suite_modeNow : Int32) (o_suite_masks : Ar) : Nat → Int64 → Int32 → Int32 → Int32 → Int32 → Int32 → Ar → Option (Int64 × Int32 × Int32 × Int32 × Int32 × Ar)
  | 0, _, _, _, _, _, _, _ => none
  | n + 1, v1, v3, o_timesBad, o_timesNo, o_timesFull, o_spare_size, o_spare_tests => (if (3 : Int32) < v3 then some (v1, o_timesBad, o_timesNo, o_timesFull, o_spare_size, o_spare_tests) else bd6 (f_X6_flips o_timesBad o_timesNo o_timesFull o_suite_size o_suite_startCells o_suite_modeNow o_suite_masks o_spare_size o_spare_tests v3) (fun r2 w3 w4 w5 w6 w7 => nm (((31 : Int64) * v1) + (r2.toInt64)) (fun y9 => nm (v3 + (1 : Int32)) (fun y10 => b_X6_digest_184 o_suite_size o_suite_startCells o_suite_modeNow o_suite_masks n y9 y10 w3 w4 w5 w6 w7))))
def b_X6_digest_148 (o_suite_size : Int32) (o_suite_startCells : Int32) (o_suite_modeNow : Int32) (o_suite_masks : Ar) (o_suite_row_size : Int32) (o_suite_row_tests : Ar) (k_108 : Int64 → Int32 → Int32 → Int32 → Int32 → Int32 → Ar → Option (Int64 × Int32 × Int32 × Int32 × Int32 × Ar)) : Nat → Int64 → Int32 → Int32 → Int32 → Int32 → Int32 → Int32 → Int32 → Ar → Option (Int64 × Int32 × Int32 × Int32 × Int32 × Ar)
  | 0, _, _, _, _, _, _, _, _, _ => none
  | n + 1, v1, v3, v4, v5, o_timesBad, o_timesNo, o_timesFull, o_spare_size, o_spare_tests => (if (4 : Int32) < v5 then nm (v3 + (1 : Int32)) (fun y12 => k_108 v1 y12 o_timesBad o_timesNo o_timesFull o_spare_size o_spare_tests) else bd4 (f_X6_inRow o_timesBad o_timesNo o_timesFull o_suite_size o_suite_startCells o_suite_modeNow o_suite_masks o_suite_row_size o_suite_row_tests v4 v5) (fun r13 w14 w15 w16 => nm (((31 : Int64) * v1) + (r13.toInt64)) (fun y18 => nm (v5 + (1 : Int32)) (fun y19 => b_X6_digest_148 o_suite_size o_suite_startCells o_suite_modeNow o_suite_masks o_suite_row_size o_suite_row_tests k_108 n y18 v3 v4 y19 w14 w15 w16 o_spare_size o_spare_tests))))
def b_X6_digest_108 (o_suite_size : Int32) (o_suite_startCells : Int32) (o_suite_modeNow : Int32) (o_suite_masks : Ar) (o_suite_row_size : Int32) (o_suite_row_tests : Ar) : Nat → Int64 → Int32 → Int32 → Int32 → Int32 → Int32 → Ar → Option (Int64 × Int32 × Int32 × Int32 × Int32 × Ar)
  | 0, _, _, _, _, _, _, _ => none
  | n + 1, v1, v3, o_timesBad, o_timesNo, o_timesFull, o_spare_size, o_spare_tests => (if o_suite_row_size ≤ v3 then b_X6_digest_184 o_suite_size o_suite_startCells o_suite_modeNow o_suite_masks FU v1 (1 : Int32) o_timesBad o_timesNo o_timesFull o_spare_size o_spare_tests else bd1 (f_X3_nth o_suite_row_size o_suite_row_tests v3) (fun r21 => nm (((31 : Int64) * v1) + (r21.toInt64)) (fun y23 => b_X6_digest_148 o_suite_size o_suite_startCells o_suite_modeNow o_suite_masks o_suite_row_size o_suite_row_tests (fun z0 z1 z2 z3 z4 z5 z6 => b_X6_digest_108 o_suite_size o_suite_startCells o_suite_modeNow o_suite_masks o_suite_row_size o_suite_row_tests n z0 z1 z2 z3 z4 z5 z6) FU y23 v3 r21 (1 : Int32) o_timesBad o_timesNo o_timesFull o_spare_size o_spare_tests)))
def b_X6_digest_73 (o_suite_size : Int32) (o_suite_startCells : Int32) (o_suite_masks : Ar) (k_59 : Int64 → Int32 → Int32 → Int32 → Int32 → Int32 → Ar → Option (Int64 × Int32 × Int32 × Int32 × Int32 × Ar)) : Nat → Int64 → Int32 → Int32 → Int32 → Int32 → Int32 → Int32 → Ar → Option (Int64 × Int32 × Int32 × Int32 × Int32 × Ar)
  | 0, _, _, _, _, _, _, _, _ => none
  | n + 1, v1, v3, v4, o_timesBad, o_timesNo, o_timesFull, o_spare_size, o_spare_tests => (if (5 : Int32) < v4 then nm (v3 + (1 : Int32)) (fun y25 => k_59 v1 y25 o_timesBad o_timesNo o_timesFull o_spare_size o_spare_tests) else bd4 (f_X6_of o_timesBad o_timesNo o_timesFull o_suite_size o_suite_startCells o_suite_masks v3 v4) (fun r26 w27 w28 w29 => nm (((31 : Int64) * v1) + (r26.toInt64)) (fun y31 => nm (v4 + (1 : Int32)) (fun y32 => b_X6_digest_73 o_suite_size o_suite_startCells o_suite_masks k_59 n y31 v3 y32 w27 w28 w29 o_spare_size o_spare_tests))))
def b_X6_digest_59 (o_suite_size : Int32) (o_suite_startCells : Int32) (o_suite_modeNow : Int32) (o_suite_masks : Ar) (o_suite_row_size : Int32) (o_suite_row_tests : Ar) : Nat → Int64 → Int32 → Int32 → Int32 → Int32 → Int32 → Ar → Option (Int64 × Int32 × Int32 × Int32 × Int32 × Ar)
  | 0, _, _, _, _, _, _, _ => none
  | n + 1, v1, v3, o_timesBad, o_timesNo, o_timesFull, o_spare_size, o_spare_tests => (if o_suite_size ≤ v3 then b_X6_digest_108 o_suite_size o_suite_startCells o_suite_modeNow o_suite_masks o_suite_row_size o_suite_row_tests FU v1 (0 : Int32) o_timesBad o_timesNo o_timesFull o_spare_size o_spare_tests else b_X6_digest_73 o_suite_size o_suite_startCells o_suite_masks (fun z0 z1 z2 z3 z4 z5 z6 => b_X6_digest_59 o_suite_size o_suite_startCells o_suite_modeNow o_suite_masks o_suite_row_size o_suite_row_tests n z0 z1 z2 z3 z4 z5 z6) FU v1 v3 (0 : Int32) o_timesBad o_timesNo o_timesFull o_spare_size o_spare_tests)
def b_X6_digest_32 (o_suite_size : Int32) (o_suite_startCells : Int32) (o_suite_modeNow : Int32) (o_suite_masks : Ar) (o_suite_row_size : Int32) (o_suite_row_tests : Ar) : Nat → Int64 → Int32 → Int32 → Int32 → Int32 → Int32 → Ar → Option (Int64 × Int32 × Int32 × Int32 × Int32 × Ar)
  | 0, _, _, _, _, _, _, _ => none
  | n + 1, v1, v3, o_timesBad, o_timesNo, o_timesFull, o_spare_size, o_spare_tests => (if (7 : Int32) < v3 then b_X6_digest_59 o_suite_size o_suite_startCells o_suite_modeNow o_suite_masks o_suite_row_size o_suite_row_tests FU v1 (0 : Int32) o_timesBad o_timesNo o_timesFull o_spare_size o_spare_tests else bd4 (f_X6_count o_timesBad o_timesNo o_timesFull o_suite_size o_suite_startCells o_suite_modeNow o_suite_masks o_suite_row_size o_suite_row_tests v3) (fun r35 w36 w37 w38 => nm (((31 : Int64) * v1) + (r35.toInt64)) (fun y40 => nm (v3 + (1 : Int32)) (fun y41 => b_X6_digest_32 o_suite_size o_suite_startCells o_suite_modeNow o_suite_masks o_suite_row_size o_suite_row_tests n y40 y41 w36 w37 w38 o_spare_size o_spare_tests))))
def b_X6_digest_6 (o_suite_size : Int32) (o_suite_startCells : Int32) (o_suite_modeNow : Int32) (o_suite_masks : Ar) (o_suite_row_size : Int32) (o_suite_row_tests : Ar) (o_past_size : Int32) (o_text_length : Int32) : Nat → Int64 → Int32 → Int32 → Int32 → Int32 → Int32 → Ar → Option (Int64 × Int32 × Int32 × Int32 × Int32 × Ar)
  | 0, _, _, _, _, _, _, _ => none
  | n + 1, v1, v3, o_timesBad, o_timesNo, o_timesFull, o_spare_size, o_spare_tests => (if (4 : Int32) < v3 then b_X6_digest_32 o_suite_size o_suite_startCells o_suite_modeNow o_suite_masks o_suite_row_size o_suite_row_tests FU v1 (0 : Int32) o_timesBad o_timesNo o_timesFull o_spare_size o_spare_tests else bd4 (f_X6_told o_timesBad o_timesNo o_timesFull o_past_size o_text_length v3) (fun r43 w44 w45 w46 => nm (((31 : Int64) * v1) + (r43.toInt64)) (fun y48 => nm (v3 + (1 : Int32)) (fun y49 => b_X6_digest_6 o_suite_size o_suite_startCells o_suite_modeNow o_suite_masks o_suite_row_size o_suite_row_tests o_past_size o_text_length n y48 y49 w44 w45 w46 o_spare_size o_spare_tests))))
def f_X6_digest (o_timesBad : Int32) (o_timesNo : Int32) (o_timesFull : Int32) (o_suite_size : Int32) (o_suite_startCells : Int32) (o_suite_modeNow : Int32) (o_suite_masks : Ar) (o_suite_row_size : Int32) (o_suite_row_tests : Ar) (o_past_size : Int32) (o_text_length : Int32) (o_spare_size : Int32) (o_spare_tests : Ar) : Option (Int64 × Int32 × Int32 × Int32 × Int32 × Ar) := b_X6_digest_6 o_suite_size o_suite_startCells o_suite_modeNow o_suite_masks o_suite_row_size o_suite_row_tests o_past_size o_text_length FU (18056 : Int64) (0 : Int32) o_timesBad o_timesNo o_timesFull o_spare_size o_spare_tests
set_option maxHeartbeats 4000000 in
set_option maxRecDepth 100000 in
theorem c_X6_digest (l : Launch) (D : va_G) (cI cS : ClassId) (a_o : Nat) (a_o_suite : Nat) (a_o_suite_masks : Nat) (a_o_suite_row : Nat) (a_o_suite_row_tests : Nat) (a_o_past : Nat) (a_o_text : Nat) (a_o_spare : Nat) (a_o_spare_tests : Nat) (a_o_orders : Nat) (a_o_past_slots : Nat) (a_o_text_bytes : Nat) (o_timesBad : Int32) (o_timesNo : Int32) (o_timesFull : Int32) (o_suite_size : Int32) (o_suite_startCells : Int32) (o_suite_modeNow : Int32) (o_suite_masks : Ar) (o_suite_row_size : Int32) (o_suite_row_tests : Ar) (o_past_size : Int32) (o_past_marked : Int32) (o_text_length : Int32) (o_spare_size : Int32) (o_spare_tests : Ar) (r0 : Int64) (o_timesBad' : Int32) (o_timesNo' : Int32) (o_timesFull' : Int32) (o_spare_size' : Int32) (o_spare_tests' : Ar) (h : f_X6_digest o_timesBad o_timesNo o_timesFull o_suite_size o_suite_startCells o_suite_modeNow o_suite_masks o_suite_row_size o_suite_row_tests o_past_size o_text_length o_spare_size o_spare_tests = some (r0, o_timesBad', o_timesNo', o_timesFull', o_spare_size', o_spare_tests')) : wrM l D cI cS yX6_digest cX6_digest 6 (some .long) 6 134 [.ref a_o] [(a_o, .inr (5, [.ref a_o_suite, .ref a_o_past, .ref a_o_text, .ref a_o_orders, .ref a_o_spare, .int (o_timesBad), .int (o_timesNo), .int (o_timesFull)])), (a_o_suite, .inr (3, [.ref a_o_suite_masks, .ref a_o_suite_row, .int (o_suite_size), .int (o_suite_startCells), .int (o_suite_modeNow)])), (a_o_suite_masks, .inl (cI, 40, .inl (o_suite_masks))), (a_o_suite_row, .inr (2, [.ref a_o_suite_row_tests, .int (o_suite_row_size)])), (a_o_suite_row_tests, .inl (cI, 8, .inl (o_suite_row_tests))), (a_o_past, .inr (1, [.ref a_o_past_slots, .int (o_past_size), .int (o_past_marked)])), (a_o_text, .inr (4, [.ref a_o_text_bytes, .int (o_text_length)])), (a_o_spare, .inr (2, [.ref a_o_spare_tests, .int (o_spare_size)])), (a_o_spare_tests, .inl (cI, 8, .inl (o_spare_tests)))] [(a_o, .inr (5, [.ref a_o_suite, .ref a_o_past, .ref a_o_text, .ref a_o_orders, .ref a_o_spare, .int (o_timesBad'), .int (o_timesNo'), .int (o_timesFull')])), (a_o_suite, .inr (3, [.ref a_o_suite_masks, .ref a_o_suite_row, .int (o_suite_size), .int (o_suite_startCells), .int (o_suite_modeNow)])), (a_o_suite_masks, .inl (cI, 40, .inl (o_suite_masks))), (a_o_suite_row, .inr (2, [.ref a_o_suite_row_tests, .int (o_suite_row_size)])), (a_o_suite_row_tests, .inl (cI, 8, .inl (o_suite_row_tests))), (a_o_past, .inr (1, [.ref a_o_past_slots, .int (o_past_size), .int (o_past_marked)])), (a_o_text, .inr (4, [.ref a_o_text_bytes, .int (o_text_length)])), (a_o_spare, .inr (2, [.ref a_o_spare_tests, .int (o_spare_size')])), (a_o_spare_tests, .inl (cI, 8, .inl (o_spare_tests')))] (some (.long r0)) := by
  refine Met.ofW (cc := cX6_digest) (maxL := 6) (ret := (some .long)) (by decide) rfl ?_
  intro p e s m args below meth c s₁ B hml hv
  obtain ⟨rfl, hP, hK, hD0⟩ := hv
  have hx := B.exec
  have hb := B.bytes
  have hr := B.returns
  have hts : ∀ w ∈ GW, w.before _ s = true := fun w hw => atoms_spec (ws := mws yX6_digest cX6_digest 6 (some .long)) B.pre w (List.mem_cons_of_mem _ hw)
  have hown : s.vm.findClass RX6 = some m.cls := findClass_of_methodNamed B.named
  have hlocks := B.notSynchronized
  have hD := inW_self hD0
  generalize hAe : inW [(a_o, .inr (5, [.ref a_o_suite, .ref a_o_past, .ref a_o_text, .ref a_o_orders, .ref a_o_spare, .int (o_timesBad), .int (o_timesNo), .int (o_timesFull)])), (a_o_suite, .inr (3, [.ref a_o_suite_masks, .ref a_o_suite_row, .int (o_suite_size), .int (o_suite_startCells), .int (o_suite_modeNow)])), (a_o_suite_masks, .inl (cI, 40, .inl (o_suite_masks))), (a_o_suite_row, .inr (2, [.ref a_o_suite_row_tests, .int (o_suite_row_size)])), (a_o_suite_row_tests, .inl (cI, 8, .inl (o_suite_row_tests))), (a_o_past, .inr (1, [.ref a_o_past_slots, .int (o_past_size), .int (o_past_marked)])), (a_o_text, .inr (4, [.ref a_o_text_bytes, .int (o_text_length)])), (a_o_spare, .inr (2, [.ref a_o_spare_tests, .int (o_spare_size)])), (a_o_spare_tests, .inl (cI, 8, .inl (o_spare_tests)))] = A at hD ⊢
  have hS : va_S A s.heap s.heap [] := va_S.rf
  have hl := lv_entry ([.ref a_o]) (n := 6) (Nat.le_of_ble_eq_true rfl)
  rw [lg_entry_eq]
  generalize (lg_sl ([.ref a_o]) ++ List.replicate (6 - (lg_sl ([.ref a_o])).length) Slot.unset).toArray = ls at hl ⊢
  have hl : lv_has ls 6 [(0, .ref a_o)] := hl
  have S : CallFix p m c cX6_digest 6 s _ GW RX6 := ⟨hx, hb, hml, hown, hts⟩
  have L_184 : ∀ (n : Nat) (v1 : Int64) (v3 : Int32) (o_timesBad : Int32) (o_timesNo : Int32) (o_timesFull : Int32) (o_spare_size : Int32) (o_spare_tests : Ar), b_X6_digest_184 o_suite_size o_suite_startCells o_suite_modeNow o_suite_masks n v1 v3 o_timesBad o_timesNo o_timesFull o_spare_size o_spare_tests = some (r0, o_timesBad', o_timesNo', o_timesFull', o_spare_size', o_spare_tests') → ∀ (H : Heap) (locs : List Loc), va_P D vwCl [(a_o, .inr (5, [.ref a_o_suite, .ref a_o_past, .ref a_o_text, .ref a_o_orders, .ref a_o_spare, .int (o_timesBad), .int (o_timesNo), .int (o_timesFull)])), (a_o_suite, .inr (3, [.ref a_o_suite_masks, .ref a_o_suite_row, .int (o_suite_size), .int (o_suite_startCells), .int (o_suite_modeNow)])), (a_o_suite_masks, .inl (cI, 40, .inl (o_suite_masks))), (a_o_suite_row, .inr (2, [.ref a_o_suite_row_tests, .int (o_suite_row_size)])), (a_o_suite_row_tests, .inl (cI, 8, .inl (o_suite_row_tests))), (a_o_past, .inr (1, [.ref a_o_past_slots, .int (o_past_size), .int (o_past_marked)])), (a_o_text, .inr (4, [.ref a_o_text_bytes, .int (o_text_length)])), (a_o_spare, .inr (2, [.ref a_o_spare_tests, .int (o_spare_size)])), (a_o_spare_tests, .inl (cI, 8, .inl (o_spare_tests)))] H → va_D A [(a_o, .inr (5, [.ref a_o_suite, .ref a_o_past, .ref a_o_text, .ref a_o_orders, .ref a_o_spare, .int (o_timesBad), .int (o_timesNo), .int (o_timesFull)])), (a_o_suite, .inr (3, [.ref a_o_suite_masks, .ref a_o_suite_row, .int (o_suite_size), .int (o_suite_startCells), .int (o_suite_modeNow)])), (a_o_suite_masks, .inl (cI, 40, .inl (o_suite_masks))), (a_o_suite_row, .inr (2, [.ref a_o_suite_row_tests, .int (o_suite_row_size)])), (a_o_suite_row_tests, .inl (cI, 8, .inl (o_suite_row_tests))), (a_o_past, .inr (1, [.ref a_o_past_slots, .int (o_past_size), .int (o_past_marked)])), (a_o_text, .inr (4, [.ref a_o_text_bytes, .int (o_text_length)])), (a_o_spare, .inr (2, [.ref a_o_spare_tests, .int (o_spare_size)])), (a_o_spare_tests, .inl (cI, 8, .inl (o_spare_tests)))] → va_S A s.heap H locs → ∀ (ls : Array Slot), lv_has ls 6 [(0, .ref a_o), (1, .long v1), (3, .int v3)] → W p l e (headSpec (mws yX6_digest cX6_digest 6 (some .long)) { frames := 6, cells := 0, slots := 0, locals := 134 }).room s m [.ref a_o].toArray below meth c H locs 0 0 (MQ below (wrQ D A [(a_o, .inr (5, [.ref a_o_suite, .ref a_o_past, .ref a_o_text, .ref a_o_orders, .ref a_o_spare, .int (o_timesBad'), .int (o_timesNo'), .int (o_timesFull')])), (a_o_suite, .inr (3, [.ref a_o_suite_masks, .ref a_o_suite_row, .int (o_suite_size), .int (o_suite_startCells), .int (o_suite_modeNow)])), (a_o_suite_masks, .inl (cI, 40, .inl (o_suite_masks))), (a_o_suite_row, .inr (2, [.ref a_o_suite_row_tests, .int (o_suite_row_size)])), (a_o_suite_row_tests, .inl (cI, 8, .inl (o_suite_row_tests))), (a_o_past, .inr (1, [.ref a_o_past_slots, .int (o_past_size), .int (o_past_marked)])), (a_o_text, .inr (4, [.ref a_o_text_bytes, .int (o_text_length)])), (a_o_spare, .inr (2, [.ref a_o_spare_tests, .int (o_spare_size')])), (a_o_spare_tests, .inl (cI, 8, .inl (o_spare_tests')))] (some (.long r0))) [.ref a_o].toArray s 0 0 A) (F0 m 184 ls []) := by
    intro n
    induction n with
    | zero =>
      intro v1 v3 o_timesBad o_timesNo o_timesFull o_spare_size o_spare_tests h
      exact nn_no h
    | succ n ih =>
      intro v1 v3 o_timesBad o_timesNo o_timesFull o_spare_size o_spare_tests h H locs hP hD hS ls hl
      rw [b_X6_digest_184] at h
      refine lv_iload_n hx hb dX6_digest_184 rfl (lv_at hl 2 rfl) ?_
      refine lv_iconst (v := (3 : Int32)) hx hb dX6_digest_185 (by decide) ?_
      refine lv_icmp_gt (tgt := 208) hx hb dX6_digest_186 (by decide) (fun c1 => ?_) (fun c1 => ?_)
      · have h := it_t c1 h
        refine lv_lload_n hx hb dX6_digest_208 rfl (lv_at hl 1 rfl) ?_
        cases h
        exact W.lret hx hb hr (fun t ht _ => ⟨rfl, by rw [ht]; exact hP, hS.F ht⟩) hS.2.2 dX6_digest_209
      · have h := it_f c1 h
        refine lv_ldc2 (v := (31 : Int64)) hx hb hown (hts _ wkX6_227) dX6_digest_189 ?_
        refine lv_lload_n hx hb dX6_digest_192 rfl (lv_at hl 1 rfl) ?_
        refine lv_lmul hx hb dX6_digest_193 ?_
        refine lv_aload_n hx hb dX6_digest_194 rfl (lv_at hl 0 rfl) ?_
        refine lv_iload_n hx hb dX6_digest_195 rfl (lv_at hl 2 rfl) ?_
        obtain ⟨r2, w3, w4, w5, w6, w7, hc8, h⟩ := bd6_use h
        refine wr_V (As := [.int v3]) (rest := [.long ((31 : Int64) * v1)]) (ws' := [(a_o, .inr (5, [.ref a_o_suite, .ref a_o_past, .ref a_o_text, .ref a_o_orders, .ref a_o_spare, .int (w3), .int (w4), .int (w5)])), (a_o_suite, .inr (3, [.ref a_o_suite_masks, .ref a_o_suite_row, .int (o_suite_size), .int (o_suite_startCells), .int (o_suite_modeNow)])), (a_o_suite_masks, .inl (cI, 40, .inl (o_suite_masks))), (a_o_suite_row, .inr (2, [.ref a_o_suite_row_tests, .int (o_suite_row_size)])), (a_o_suite_row_tests, .inl (cI, 8, .inl (o_suite_row_tests))), (a_o_past, .inr (1, [.ref a_o_past_slots, .int (o_past_size), .int (o_past_marked)])), (a_o_text, .inr (4, [.ref a_o_text_bytes, .int (o_text_length)])), (a_o_spare, .inr (2, [.ref a_o_spare_tests, .int (w6)])), (a_o_spare_tests, .inl (cI, 8, .inl (w7)))]) S (c_X6_flips l D cI cS a_o a_o_suite a_o_suite_masks a_o_spare a_o_spare_tests a_o_past a_o_text a_o_orders a_o_suite_row o_timesBad o_timesNo o_timesFull o_suite_size o_suite_startCells o_suite_modeNow o_suite_masks o_spare_size o_spare_tests v3 r2 w3 w4 w5 w6 w7 hc8) (cwV1 hts cvX6_flips wmX6_241 rfl rfl ⟨(Nat.le_of_ble_eq_true rfl), (Nat.le_of_ble_eq_true rfl)⟩) hK hP hD hS [0, 1, 2, 7, 8] rfl rfl [(true, 0), (true, 1), (true, 2), (false, 3), (false, 4), (false, 5), (false, 6), (true, 3), (true, 4)] rfl rfl rfl 0 rfl rfl rfl rfl hl.1 rfl (Nat.le_of_ble_eq_true rfl) dX6_digest_196 ⟨Nat.zero_le _, Nat.zero_le _⟩ rfl (fun H locs hP hD hS => ?_)
        refine lv_i2l (v := (r2.toInt64)) hx hb dX6_digest_199 rfl ?_
        refine lv_ladd hx hb dX6_digest_200 ?_
        refine lv_topl (fun y9 ey9 => ?_)
        have h := nm_use h ey9
        refine lv_lstore_n (lv' := [(1, .long y9), (0, .ref a_o), (3, .int v3)]) hx hb dX6_digest_201 rfl hl (by decide) rfl (fun ls hl => ?_)
        obtain ⟨y10, ey10⟩ : ∃ z : Int32, z = v3 + (1 : Int32) := ⟨_, rfl⟩
        have h := nm_use h ey10
        refine lv_iinc (v := y10) (lv' := [(3, .int y10), (1, .long y9), (0, .ref a_o)]) hx hb dX6_digest_202 hl (k := 2) rfl (by rw [ey10]; rfl) (by decide) rfl (fun ls hl => ?_)
        refine lv_goto (tgt := 184) hx hb dX6_digest_205 (by decide) ?_
        exact ih _ _ _ _ _ _ _ h _ _ hP hD hS _ (lv_sub hl [2, 1, 0] rfl)
  have L_148 : ∀ (k_108 : Int64 → Int32 → Int32 → Int32 → Int32 → Int32 → Ar → Option (Int64 × Int32 × Int32 × Int32 × Int32 × Ar)) (hk_108 : ∀ (v1 : Int64) (v3 : Int32) (o_timesBad : Int32) (o_timesNo : Int32) (o_timesFull : Int32) (o_spare_size : Int32) (o_spare_tests : Ar), k_108 v1 v3 o_timesBad o_timesNo o_timesFull o_spare_size o_spare_tests = some (r0, o_timesBad', o_timesNo', o_timesFull', o_spare_size', o_spare_tests') → ∀ (H : Heap) (locs : List Loc), va_P D vwCl [(a_o, .inr (5, [.ref a_o_suite, .ref a_o_past, .ref a_o_text, .ref a_o_orders, .ref a_o_spare, .int (o_timesBad), .int (o_timesNo), .int (o_timesFull)])), (a_o_suite, .inr (3, [.ref a_o_suite_masks, .ref a_o_suite_row, .int (o_suite_size), .int (o_suite_startCells), .int (o_suite_modeNow)])), (a_o_suite_masks, .inl (cI, 40, .inl (o_suite_masks))), (a_o_suite_row, .inr (2, [.ref a_o_suite_row_tests, .int (o_suite_row_size)])), (a_o_suite_row_tests, .inl (cI, 8, .inl (o_suite_row_tests))), (a_o_past, .inr (1, [.ref a_o_past_slots, .int (o_past_size), .int (o_past_marked)])), (a_o_text, .inr (4, [.ref a_o_text_bytes, .int (o_text_length)])), (a_o_spare, .inr (2, [.ref a_o_spare_tests, .int (o_spare_size)])), (a_o_spare_tests, .inl (cI, 8, .inl (o_spare_tests)))] H → va_D A [(a_o, .inr (5, [.ref a_o_suite, .ref a_o_past, .ref a_o_text, .ref a_o_orders, .ref a_o_spare, .int (o_timesBad), .int (o_timesNo), .int (o_timesFull)])), (a_o_suite, .inr (3, [.ref a_o_suite_masks, .ref a_o_suite_row, .int (o_suite_size), .int (o_suite_startCells), .int (o_suite_modeNow)])), (a_o_suite_masks, .inl (cI, 40, .inl (o_suite_masks))), (a_o_suite_row, .inr (2, [.ref a_o_suite_row_tests, .int (o_suite_row_size)])), (a_o_suite_row_tests, .inl (cI, 8, .inl (o_suite_row_tests))), (a_o_past, .inr (1, [.ref a_o_past_slots, .int (o_past_size), .int (o_past_marked)])), (a_o_text, .inr (4, [.ref a_o_text_bytes, .int (o_text_length)])), (a_o_spare, .inr (2, [.ref a_o_spare_tests, .int (o_spare_size)])), (a_o_spare_tests, .inl (cI, 8, .inl (o_spare_tests)))] → va_S A s.heap H locs → ∀ (ls : Array Slot), lv_has ls 6 [(0, .ref a_o), (1, .long v1), (3, .int v3)] → W p l e (headSpec (mws yX6_digest cX6_digest 6 (some .long)) { frames := 6, cells := 0, slots := 0, locals := 134 }).room s m [.ref a_o].toArray below meth c H locs 0 0 (MQ below (wrQ D A [(a_o, .inr (5, [.ref a_o_suite, .ref a_o_past, .ref a_o_text, .ref a_o_orders, .ref a_o_spare, .int (o_timesBad'), .int (o_timesNo'), .int (o_timesFull')])), (a_o_suite, .inr (3, [.ref a_o_suite_masks, .ref a_o_suite_row, .int (o_suite_size), .int (o_suite_startCells), .int (o_suite_modeNow)])), (a_o_suite_masks, .inl (cI, 40, .inl (o_suite_masks))), (a_o_suite_row, .inr (2, [.ref a_o_suite_row_tests, .int (o_suite_row_size)])), (a_o_suite_row_tests, .inl (cI, 8, .inl (o_suite_row_tests))), (a_o_past, .inr (1, [.ref a_o_past_slots, .int (o_past_size), .int (o_past_marked)])), (a_o_text, .inr (4, [.ref a_o_text_bytes, .int (o_text_length)])), (a_o_spare, .inr (2, [.ref a_o_spare_tests, .int (o_spare_size')])), (a_o_spare_tests, .inl (cI, 8, .inl (o_spare_tests')))] (some (.long r0))) [.ref a_o].toArray s 0 0 A) (F0 m 108 ls [])) (n : Nat) (v1 : Int64) (v3 : Int32) (v4 : Int32) (v5 : Int32) (o_timesBad : Int32) (o_timesNo : Int32) (o_timesFull : Int32) (o_spare_size : Int32) (o_spare_tests : Ar), b_X6_digest_148 o_suite_size o_suite_startCells o_suite_modeNow o_suite_masks o_suite_row_size o_suite_row_tests k_108 n v1 v3 v4 v5 o_timesBad o_timesNo o_timesFull o_spare_size o_spare_tests = some (r0, o_timesBad', o_timesNo', o_timesFull', o_spare_size', o_spare_tests') → ∀ (H : Heap) (locs : List Loc), va_P D vwCl [(a_o, .inr (5, [.ref a_o_suite, .ref a_o_past, .ref a_o_text, .ref a_o_orders, .ref a_o_spare, .int (o_timesBad), .int (o_timesNo), .int (o_timesFull)])), (a_o_suite, .inr (3, [.ref a_o_suite_masks, .ref a_o_suite_row, .int (o_suite_size), .int (o_suite_startCells), .int (o_suite_modeNow)])), (a_o_suite_masks, .inl (cI, 40, .inl (o_suite_masks))), (a_o_suite_row, .inr (2, [.ref a_o_suite_row_tests, .int (o_suite_row_size)])), (a_o_suite_row_tests, .inl (cI, 8, .inl (o_suite_row_tests))), (a_o_past, .inr (1, [.ref a_o_past_slots, .int (o_past_size), .int (o_past_marked)])), (a_o_text, .inr (4, [.ref a_o_text_bytes, .int (o_text_length)])), (a_o_spare, .inr (2, [.ref a_o_spare_tests, .int (o_spare_size)])), (a_o_spare_tests, .inl (cI, 8, .inl (o_spare_tests)))] H → va_D A [(a_o, .inr (5, [.ref a_o_suite, .ref a_o_past, .ref a_o_text, .ref a_o_orders, .ref a_o_spare, .int (o_timesBad), .int (o_timesNo), .int (o_timesFull)])), (a_o_suite, .inr (3, [.ref a_o_suite_masks, .ref a_o_suite_row, .int (o_suite_size), .int (o_suite_startCells), .int (o_suite_modeNow)])), (a_o_suite_masks, .inl (cI, 40, .inl (o_suite_masks))), (a_o_suite_row, .inr (2, [.ref a_o_suite_row_tests, .int (o_suite_row_size)])), (a_o_suite_row_tests, .inl (cI, 8, .inl (o_suite_row_tests))), (a_o_past, .inr (1, [.ref a_o_past_slots, .int (o_past_size), .int (o_past_marked)])), (a_o_text, .inr (4, [.ref a_o_text_bytes, .int (o_text_length)])), (a_o_spare, .inr (2, [.ref a_o_spare_tests, .int (o_spare_size)])), (a_o_spare_tests, .inl (cI, 8, .inl (o_spare_tests)))] → va_S A s.heap H locs → ∀ (ls : Array Slot), lv_has ls 6 [(0, .ref a_o), (1, .long v1), (3, .int v3), (4, .int v4), (5, .int v5)] → W p l e (headSpec (mws yX6_digest cX6_digest 6 (some .long)) { frames := 6, cells := 0, slots := 0, locals := 134 }).room s m [.ref a_o].toArray below meth c H locs 0 0 (MQ below (wrQ D A [(a_o, .inr (5, [.ref a_o_suite, .ref a_o_past, .ref a_o_text, .ref a_o_orders, .ref a_o_spare, .int (o_timesBad'), .int (o_timesNo'), .int (o_timesFull')])), (a_o_suite, .inr (3, [.ref a_o_suite_masks, .ref a_o_suite_row, .int (o_suite_size), .int (o_suite_startCells), .int (o_suite_modeNow)])), (a_o_suite_masks, .inl (cI, 40, .inl (o_suite_masks))), (a_o_suite_row, .inr (2, [.ref a_o_suite_row_tests, .int (o_suite_row_size)])), (a_o_suite_row_tests, .inl (cI, 8, .inl (o_suite_row_tests))), (a_o_past, .inr (1, [.ref a_o_past_slots, .int (o_past_size), .int (o_past_marked)])), (a_o_text, .inr (4, [.ref a_o_text_bytes, .int (o_text_length)])), (a_o_spare, .inr (2, [.ref a_o_spare_tests, .int (o_spare_size')])), (a_o_spare_tests, .inl (cI, 8, .inl (o_spare_tests')))] (some (.long r0))) [.ref a_o].toArray s 0 0 A) (F0 m 148 ls []) := by
    intro k_108 hk_108 n
    induction n with
    | zero =>
      intro v1 v3 v4 v5 o_timesBad o_timesNo o_timesFull o_spare_size o_spare_tests h
      exact nn_no h
    | succ n ih =>
      intro v1 v3 v4 v5 o_timesBad o_timesNo o_timesFull o_spare_size o_spare_tests h H locs hP hD hS ls hl
      rw [b_X6_digest_148] at h
      refine lv_iload hx hb dX6_digest_148 (lv_at hl 4 rfl) ?_
      refine lv_iconst (v := (4 : Int32)) hx hb dX6_digest_150 (by decide) ?_
      refine lv_icmp_gt (tgt := 176) hx hb dX6_digest_151 (by decide) (fun c11 => ?_) (fun c11 => ?_)
      · have h := it_t c11 h
        obtain ⟨y12, ey12⟩ : ∃ z : Int32, z = v3 + (1 : Int32) := ⟨_, rfl⟩
        have h := nm_use h ey12
        refine lv_iinc (v := y12) (lv' := [(3, .int y12), (0, .ref a_o), (1, .long v1), (4, .int v4), (5, .int v5)]) hx hb dX6_digest_176 hl (k := 2) rfl (by rw [ey12]; rfl) (by decide) rfl (fun ls hl => ?_)
        refine lv_goto (tgt := 108) hx hb dX6_digest_179 (by decide) ?_
        exact hk_108 _ _ _ _ _ _ _ h _ _ hP hD hS _ (lv_sub hl [1, 2, 0] rfl)
      · have h := it_f c11 h
        refine lv_ldc2 (v := (31 : Int64)) hx hb hown (hts _ wkX6_227) dX6_digest_154 ?_
        refine lv_lload_n hx hb dX6_digest_157 rfl (lv_at hl 1 rfl) ?_
        refine lv_lmul hx hb dX6_digest_158 ?_
        refine lv_aload_n hx hb dX6_digest_159 rfl (lv_at hl 0 rfl) ?_
        refine lv_iload hx hb dX6_digest_160 (lv_at hl 3 rfl) ?_
        refine lv_iload hx hb dX6_digest_162 (lv_at hl 4 rfl) ?_
        obtain ⟨r13, w14, w15, w16, hc17, h⟩ := bd4_use h
        refine wr_V (As := [.int v4, .int v5]) (rest := [.long ((31 : Int64) * v1)]) (ws' := [(a_o, .inr (5, [.ref a_o_suite, .ref a_o_past, .ref a_o_text, .ref a_o_orders, .ref a_o_spare, .int (w14), .int (w15), .int (w16)])), (a_o_suite, .inr (3, [.ref a_o_suite_masks, .ref a_o_suite_row, .int (o_suite_size), .int (o_suite_startCells), .int (o_suite_modeNow)])), (a_o_suite_masks, .inl (cI, 40, .inl (o_suite_masks))), (a_o_suite_row, .inr (2, [.ref a_o_suite_row_tests, .int (o_suite_row_size)])), (a_o_suite_row_tests, .inl (cI, 8, .inl (o_suite_row_tests))), (a_o_past, .inr (1, [.ref a_o_past_slots, .int (o_past_size), .int (o_past_marked)])), (a_o_text, .inr (4, [.ref a_o_text_bytes, .int (o_text_length)])), (a_o_spare, .inr (2, [.ref a_o_spare_tests, .int (o_spare_size)])), (a_o_spare_tests, .inl (cI, 8, .inl (o_spare_tests)))]) S (c_X6_inRow l D cI cS a_o a_o_suite a_o_suite_masks a_o_suite_row a_o_suite_row_tests a_o_past a_o_text a_o_orders a_o_spare o_timesBad o_timesNo o_timesFull o_suite_size o_suite_startCells o_suite_modeNow o_suite_masks o_suite_row_size o_suite_row_tests v4 v5 r13 w14 w15 w16 hc17) (cwV1 hts cvX6_inRow wmX6_238 rfl rfl ⟨(Nat.le_of_ble_eq_true rfl), (Nat.le_of_ble_eq_true rfl)⟩) hK hP hD hS [0, 1, 2, 3, 4] rfl rfl [(true, 0), (true, 1), (true, 2), (true, 3), (true, 4), (false, 5), (false, 6), (false, 7), (false, 8)] rfl rfl rfl 0 rfl rfl rfl rfl hl.1 rfl (Nat.le_of_ble_eq_true rfl) dX6_digest_164 ⟨Nat.zero_le _, Nat.zero_le _⟩ rfl (fun H locs hP hD hS => ?_)
        refine lv_i2l (v := (r13.toInt64)) hx hb dX6_digest_167 rfl ?_
        refine lv_ladd hx hb dX6_digest_168 ?_
        refine lv_topl (fun y18 ey18 => ?_)
        have h := nm_use h ey18
        refine lv_lstore_n (lv' := [(1, .long y18), (0, .ref a_o), (3, .int v3), (4, .int v4), (5, .int v5)]) hx hb dX6_digest_169 rfl hl (by decide) rfl (fun ls hl => ?_)
        obtain ⟨y19, ey19⟩ : ∃ z : Int32, z = v5 + (1 : Int32) := ⟨_, rfl⟩
        have h := nm_use h ey19
        refine lv_iinc (v := y19) (lv' := [(5, .int y19), (1, .long y18), (0, .ref a_o), (3, .int v3), (4, .int v4)]) hx hb dX6_digest_170 hl (k := 4) rfl (by rw [ey19]; rfl) (by decide) rfl (fun ls hl => ?_)
        refine lv_goto (tgt := 148) hx hb dX6_digest_173 (by decide) ?_
        exact ih _ _ _ _ _ _ _ _ _ h _ _ hP hD hS _ (lv_sub hl [2, 1, 3, 4, 0] rfl)
  have L_108 : ∀ (n : Nat) (v1 : Int64) (v3 : Int32) (o_timesBad : Int32) (o_timesNo : Int32) (o_timesFull : Int32) (o_spare_size : Int32) (o_spare_tests : Ar), b_X6_digest_108 o_suite_size o_suite_startCells o_suite_modeNow o_suite_masks o_suite_row_size o_suite_row_tests n v1 v3 o_timesBad o_timesNo o_timesFull o_spare_size o_spare_tests = some (r0, o_timesBad', o_timesNo', o_timesFull', o_spare_size', o_spare_tests') → ∀ (H : Heap) (locs : List Loc), va_P D vwCl [(a_o, .inr (5, [.ref a_o_suite, .ref a_o_past, .ref a_o_text, .ref a_o_orders, .ref a_o_spare, .int (o_timesBad), .int (o_timesNo), .int (o_timesFull)])), (a_o_suite, .inr (3, [.ref a_o_suite_masks, .ref a_o_suite_row, .int (o_suite_size), .int (o_suite_startCells), .int (o_suite_modeNow)])), (a_o_suite_masks, .inl (cI, 40, .inl (o_suite_masks))), (a_o_suite_row, .inr (2, [.ref a_o_suite_row_tests, .int (o_suite_row_size)])), (a_o_suite_row_tests, .inl (cI, 8, .inl (o_suite_row_tests))), (a_o_past, .inr (1, [.ref a_o_past_slots, .int (o_past_size), .int (o_past_marked)])), (a_o_text, .inr (4, [.ref a_o_text_bytes, .int (o_text_length)])), (a_o_spare, .inr (2, [.ref a_o_spare_tests, .int (o_spare_size)])), (a_o_spare_tests, .inl (cI, 8, .inl (o_spare_tests)))] H → va_D A [(a_o, .inr (5, [.ref a_o_suite, .ref a_o_past, .ref a_o_text, .ref a_o_orders, .ref a_o_spare, .int (o_timesBad), .int (o_timesNo), .int (o_timesFull)])), (a_o_suite, .inr (3, [.ref a_o_suite_masks, .ref a_o_suite_row, .int (o_suite_size), .int (o_suite_startCells), .int (o_suite_modeNow)])), (a_o_suite_masks, .inl (cI, 40, .inl (o_suite_masks))), (a_o_suite_row, .inr (2, [.ref a_o_suite_row_tests, .int (o_suite_row_size)])), (a_o_suite_row_tests, .inl (cI, 8, .inl (o_suite_row_tests))), (a_o_past, .inr (1, [.ref a_o_past_slots, .int (o_past_size), .int (o_past_marked)])), (a_o_text, .inr (4, [.ref a_o_text_bytes, .int (o_text_length)])), (a_o_spare, .inr (2, [.ref a_o_spare_tests, .int (o_spare_size)])), (a_o_spare_tests, .inl (cI, 8, .inl (o_spare_tests)))] → va_S A s.heap H locs → ∀ (ls : Array Slot), lv_has ls 6 [(0, .ref a_o), (1, .long v1), (3, .int v3)] → W p l e (headSpec (mws yX6_digest cX6_digest 6 (some .long)) { frames := 6, cells := 0, slots := 0, locals := 134 }).room s m [.ref a_o].toArray below meth c H locs 0 0 (MQ below (wrQ D A [(a_o, .inr (5, [.ref a_o_suite, .ref a_o_past, .ref a_o_text, .ref a_o_orders, .ref a_o_spare, .int (o_timesBad'), .int (o_timesNo'), .int (o_timesFull')])), (a_o_suite, .inr (3, [.ref a_o_suite_masks, .ref a_o_suite_row, .int (o_suite_size), .int (o_suite_startCells), .int (o_suite_modeNow)])), (a_o_suite_masks, .inl (cI, 40, .inl (o_suite_masks))), (a_o_suite_row, .inr (2, [.ref a_o_suite_row_tests, .int (o_suite_row_size)])), (a_o_suite_row_tests, .inl (cI, 8, .inl (o_suite_row_tests))), (a_o_past, .inr (1, [.ref a_o_past_slots, .int (o_past_size), .int (o_past_marked)])), (a_o_text, .inr (4, [.ref a_o_text_bytes, .int (o_text_length)])), (a_o_spare, .inr (2, [.ref a_o_spare_tests, .int (o_spare_size')])), (a_o_spare_tests, .inl (cI, 8, .inl (o_spare_tests')))] (some (.long r0))) [.ref a_o].toArray s 0 0 A) (F0 m 108 ls []) := by
    intro n
    induction n with
    | zero =>
      intro v1 v3 o_timesBad o_timesNo o_timesFull o_spare_size o_spare_tests h
      exact nn_no h
    | succ n ih =>
      intro v1 v3 o_timesBad o_timesNo o_timesFull o_spare_size o_spare_tests h H locs hP hD hS ls hl
      rw [b_X6_digest_108] at h
      refine lv_iload_n hx hb dX6_digest_108 rfl (lv_at hl 2 rfl) ?_
      refine lv_aload_n hx hb dX6_digest_109 rfl (lv_at hl 0 rfl) ?_
      refine gfX6_0 hx hb hts hown hK hP 0 rfl wfX6_10 dX6_digest_110 ?_
      refine gnX4_1 hx hb hts hown hK hP 1 rfl wnX6_120 dX6_digest_113 ?_
      refine gnX3_1 hx hb hts hown hK hP 3 rfl wnX6_165 dX6_digest_116 ?_
      refine lv_icmp_ge (tgt := 182) hx hb dX6_digest_119 (by decide) (fun c20 => ?_) (fun c20 => ?_)
      · have h := it_t c20 h
        refine lv_iconst (v := (1 : Int32)) hx hb dX6_digest_182 (by decide) ?_
        refine lv_istore_n (lv' := [(3, .int (1 : Int32)), (0, .ref a_o), (1, .long v1)]) hx hb dX6_digest_183 rfl hl (by decide) rfl (fun ls hl => ?_)
        exact L_184 _ _ _ _ _ _ _ _ h _ _ hP hD hS _ (lv_sub hl [1, 2, 0] rfl)
      · have h := it_f c20 h
        refine lv_aload_n hx hb dX6_digest_122 rfl (lv_at hl 0 rfl) ?_
        refine gfX6_0 hx hb hts hown hK hP 0 rfl wfX6_10 dX6_digest_123 ?_
        refine gnX4_1 hx hb hts hown hK hP 1 rfl wnX6_120 dX6_digest_126 ?_
        refine lv_iload_n hx hb dX6_digest_129 rfl (lv_at hl 2 rfl) ?_
        obtain ⟨r21, hc22, h⟩ := bd1_use h
        refine ro_V (As := [.int v3]) (rest := []) S (c_X3_nth l D cI cS a_o_suite_row a_o_suite_row_tests o_suite_row_size o_suite_row_tests v3 r21 hc22) (cwV1 hts cvX3_nth wmX6_123 rfl rfl ⟨(Nat.le_of_ble_eq_true rfl), (Nat.le_of_ble_eq_true rfl)⟩) hK hP [3, 4] rfl 3 rfl rfl rfl rfl hl.1 rfl (Nat.le_of_ble_eq_true rfl) dX6_digest_130 ⟨Nat.zero_le _, Nat.zero_le _⟩ rfl ?_
        refine lv_istore (lv' := [(4, .int r21), (0, .ref a_o), (1, .long v1), (3, .int v3)]) hx hb dX6_digest_133 hl (by decide) rfl (fun ls hl => ?_)
        refine lv_ldc2 (v := (31 : Int64)) hx hb hown (hts _ wkX6_227) dX6_digest_135 ?_
        refine lv_lload_n hx hb dX6_digest_138 rfl (lv_at hl 2 rfl) ?_
        refine lv_lmul hx hb dX6_digest_139 ?_
        refine lv_iload hx hb dX6_digest_140 (lv_at hl 0 rfl) ?_
        refine lv_i2l (v := (r21.toInt64)) hx hb dX6_digest_142 rfl ?_
        refine lv_ladd hx hb dX6_digest_143 ?_
        refine lv_topl (fun y23 ey23 => ?_)
        have h := nm_use h ey23
        refine lv_lstore_n (lv' := [(1, .long y23), (4, .int r21), (0, .ref a_o), (3, .int v3)]) hx hb dX6_digest_144 rfl hl (by decide) rfl (fun ls hl => ?_)
        refine lv_iconst (v := (1 : Int32)) hx hb dX6_digest_145 (by decide) ?_
        refine lv_istore (lv' := [(5, .int (1 : Int32)), (1, .long y23), (4, .int r21), (0, .ref a_o), (3, .int v3)]) hx hb dX6_digest_146 hl (by decide) rfl (fun ls hl => ?_)
        exact L_148 _ ih _ _ _ _ _ _ _ _ _ _ h _ _ hP hD hS _ (lv_sub hl [3, 1, 4, 2, 0] rfl)
  have L_73 : ∀ (k_59 : Int64 → Int32 → Int32 → Int32 → Int32 → Int32 → Ar → Option (Int64 × Int32 × Int32 × Int32 × Int32 × Ar)) (hk_59 : ∀ (v1 : Int64) (v3 : Int32) (o_timesBad : Int32) (o_timesNo : Int32) (o_timesFull : Int32) (o_spare_size : Int32) (o_spare_tests : Ar), k_59 v1 v3 o_timesBad o_timesNo o_timesFull o_spare_size o_spare_tests = some (r0, o_timesBad', o_timesNo', o_timesFull', o_spare_size', o_spare_tests') → ∀ (H : Heap) (locs : List Loc), va_P D vwCl [(a_o, .inr (5, [.ref a_o_suite, .ref a_o_past, .ref a_o_text, .ref a_o_orders, .ref a_o_spare, .int (o_timesBad), .int (o_timesNo), .int (o_timesFull)])), (a_o_suite, .inr (3, [.ref a_o_suite_masks, .ref a_o_suite_row, .int (o_suite_size), .int (o_suite_startCells), .int (o_suite_modeNow)])), (a_o_suite_masks, .inl (cI, 40, .inl (o_suite_masks))), (a_o_suite_row, .inr (2, [.ref a_o_suite_row_tests, .int (o_suite_row_size)])), (a_o_suite_row_tests, .inl (cI, 8, .inl (o_suite_row_tests))), (a_o_past, .inr (1, [.ref a_o_past_slots, .int (o_past_size), .int (o_past_marked)])), (a_o_text, .inr (4, [.ref a_o_text_bytes, .int (o_text_length)])), (a_o_spare, .inr (2, [.ref a_o_spare_tests, .int (o_spare_size)])), (a_o_spare_tests, .inl (cI, 8, .inl (o_spare_tests)))] H → va_D A [(a_o, .inr (5, [.ref a_o_suite, .ref a_o_past, .ref a_o_text, .ref a_o_orders, .ref a_o_spare, .int (o_timesBad), .int (o_timesNo), .int (o_timesFull)])), (a_o_suite, .inr (3, [.ref a_o_suite_masks, .ref a_o_suite_row, .int (o_suite_size), .int (o_suite_startCells), .int (o_suite_modeNow)])), (a_o_suite_masks, .inl (cI, 40, .inl (o_suite_masks))), (a_o_suite_row, .inr (2, [.ref a_o_suite_row_tests, .int (o_suite_row_size)])), (a_o_suite_row_tests, .inl (cI, 8, .inl (o_suite_row_tests))), (a_o_past, .inr (1, [.ref a_o_past_slots, .int (o_past_size), .int (o_past_marked)])), (a_o_text, .inr (4, [.ref a_o_text_bytes, .int (o_text_length)])), (a_o_spare, .inr (2, [.ref a_o_spare_tests, .int (o_spare_size)])), (a_o_spare_tests, .inl (cI, 8, .inl (o_spare_tests)))] → va_S A s.heap H locs → ∀ (ls : Array Slot), lv_has ls 6 [(0, .ref a_o), (1, .long v1), (3, .int v3)] → W p l e (headSpec (mws yX6_digest cX6_digest 6 (some .long)) { frames := 6, cells := 0, slots := 0, locals := 134 }).room s m [.ref a_o].toArray below meth c H locs 0 0 (MQ below (wrQ D A [(a_o, .inr (5, [.ref a_o_suite, .ref a_o_past, .ref a_o_text, .ref a_o_orders, .ref a_o_spare, .int (o_timesBad'), .int (o_timesNo'), .int (o_timesFull')])), (a_o_suite, .inr (3, [.ref a_o_suite_masks, .ref a_o_suite_row, .int (o_suite_size), .int (o_suite_startCells), .int (o_suite_modeNow)])), (a_o_suite_masks, .inl (cI, 40, .inl (o_suite_masks))), (a_o_suite_row, .inr (2, [.ref a_o_suite_row_tests, .int (o_suite_row_size)])), (a_o_suite_row_tests, .inl (cI, 8, .inl (o_suite_row_tests))), (a_o_past, .inr (1, [.ref a_o_past_slots, .int (o_past_size), .int (o_past_marked)])), (a_o_text, .inr (4, [.ref a_o_text_bytes, .int (o_text_length)])), (a_o_spare, .inr (2, [.ref a_o_spare_tests, .int (o_spare_size')])), (a_o_spare_tests, .inl (cI, 8, .inl (o_spare_tests')))] (some (.long r0))) [.ref a_o].toArray s 0 0 A) (F0 m 59 ls [])) (n : Nat) (v1 : Int64) (v3 : Int32) (v4 : Int32) (o_timesBad : Int32) (o_timesNo : Int32) (o_timesFull : Int32) (o_spare_size : Int32) (o_spare_tests : Ar), b_X6_digest_73 o_suite_size o_suite_startCells o_suite_masks k_59 n v1 v3 v4 o_timesBad o_timesNo o_timesFull o_spare_size o_spare_tests = some (r0, o_timesBad', o_timesNo', o_timesFull', o_spare_size', o_spare_tests') → ∀ (H : Heap) (locs : List Loc), va_P D vwCl [(a_o, .inr (5, [.ref a_o_suite, .ref a_o_past, .ref a_o_text, .ref a_o_orders, .ref a_o_spare, .int (o_timesBad), .int (o_timesNo), .int (o_timesFull)])), (a_o_suite, .inr (3, [.ref a_o_suite_masks, .ref a_o_suite_row, .int (o_suite_size), .int (o_suite_startCells), .int (o_suite_modeNow)])), (a_o_suite_masks, .inl (cI, 40, .inl (o_suite_masks))), (a_o_suite_row, .inr (2, [.ref a_o_suite_row_tests, .int (o_suite_row_size)])), (a_o_suite_row_tests, .inl (cI, 8, .inl (o_suite_row_tests))), (a_o_past, .inr (1, [.ref a_o_past_slots, .int (o_past_size), .int (o_past_marked)])), (a_o_text, .inr (4, [.ref a_o_text_bytes, .int (o_text_length)])), (a_o_spare, .inr (2, [.ref a_o_spare_tests, .int (o_spare_size)])), (a_o_spare_tests, .inl (cI, 8, .inl (o_spare_tests)))] H → va_D A [(a_o, .inr (5, [.ref a_o_suite, .ref a_o_past, .ref a_o_text, .ref a_o_orders, .ref a_o_spare, .int (o_timesBad), .int (o_timesNo), .int (o_timesFull)])), (a_o_suite, .inr (3, [.ref a_o_suite_masks, .ref a_o_suite_row, .int (o_suite_size), .int (o_suite_startCells), .int (o_suite_modeNow)])), (a_o_suite_masks, .inl (cI, 40, .inl (o_suite_masks))), (a_o_suite_row, .inr (2, [.ref a_o_suite_row_tests, .int (o_suite_row_size)])), (a_o_suite_row_tests, .inl (cI, 8, .inl (o_suite_row_tests))), (a_o_past, .inr (1, [.ref a_o_past_slots, .int (o_past_size), .int (o_past_marked)])), (a_o_text, .inr (4, [.ref a_o_text_bytes, .int (o_text_length)])), (a_o_spare, .inr (2, [.ref a_o_spare_tests, .int (o_spare_size)])), (a_o_spare_tests, .inl (cI, 8, .inl (o_spare_tests)))] → va_S A s.heap H locs → ∀ (ls : Array Slot), lv_has ls 6 [(0, .ref a_o), (1, .long v1), (3, .int v3), (4, .int v4)] → W p l e (headSpec (mws yX6_digest cX6_digest 6 (some .long)) { frames := 6, cells := 0, slots := 0, locals := 134 }).room s m [.ref a_o].toArray below meth c H locs 0 0 (MQ below (wrQ D A [(a_o, .inr (5, [.ref a_o_suite, .ref a_o_past, .ref a_o_text, .ref a_o_orders, .ref a_o_spare, .int (o_timesBad'), .int (o_timesNo'), .int (o_timesFull')])), (a_o_suite, .inr (3, [.ref a_o_suite_masks, .ref a_o_suite_row, .int (o_suite_size), .int (o_suite_startCells), .int (o_suite_modeNow)])), (a_o_suite_masks, .inl (cI, 40, .inl (o_suite_masks))), (a_o_suite_row, .inr (2, [.ref a_o_suite_row_tests, .int (o_suite_row_size)])), (a_o_suite_row_tests, .inl (cI, 8, .inl (o_suite_row_tests))), (a_o_past, .inr (1, [.ref a_o_past_slots, .int (o_past_size), .int (o_past_marked)])), (a_o_text, .inr (4, [.ref a_o_text_bytes, .int (o_text_length)])), (a_o_spare, .inr (2, [.ref a_o_spare_tests, .int (o_spare_size')])), (a_o_spare_tests, .inl (cI, 8, .inl (o_spare_tests')))] (some (.long r0))) [.ref a_o].toArray s 0 0 A) (F0 m 73 ls []) := by
    intro k_59 hk_59 n
    induction n with
    | zero =>
      intro v1 v3 v4 o_timesBad o_timesNo o_timesFull o_spare_size o_spare_tests h
      exact nn_no h
    | succ n ih =>
      intro v1 v3 v4 o_timesBad o_timesNo o_timesFull o_spare_size o_spare_tests h H locs hP hD hS ls hl
      rw [b_X6_digest_73] at h
      refine lv_iload hx hb dX6_digest_73 (lv_at hl 3 rfl) ?_
      refine lv_iconst (v := (5 : Int32)) hx hb dX6_digest_75 (by decide) ?_
      refine lv_icmp_gt (tgt := 100) hx hb dX6_digest_76 (by decide) (fun c24 => ?_) (fun c24 => ?_)
      · have h := it_t c24 h
        obtain ⟨y25, ey25⟩ : ∃ z : Int32, z = v3 + (1 : Int32) := ⟨_, rfl⟩
        have h := nm_use h ey25
        refine lv_iinc (v := y25) (lv' := [(3, .int y25), (0, .ref a_o), (1, .long v1), (4, .int v4)]) hx hb dX6_digest_100 hl (k := 2) rfl (by rw [ey25]; rfl) (by decide) rfl (fun ls hl => ?_)
        refine lv_goto (tgt := 59) hx hb dX6_digest_103 (by decide) ?_
        exact hk_59 _ _ _ _ _ _ _ h _ _ hP hD hS _ (lv_sub hl [1, 2, 0] rfl)
      · have h := it_f c24 h
        refine lv_ldc2 (v := (31 : Int64)) hx hb hown (hts _ wkX6_227) dX6_digest_79 ?_
        refine lv_lload_n hx hb dX6_digest_82 rfl (lv_at hl 1 rfl) ?_
        refine lv_lmul hx hb dX6_digest_83 ?_
        refine lv_aload_n hx hb dX6_digest_84 rfl (lv_at hl 0 rfl) ?_
        refine lv_iload_n hx hb dX6_digest_85 rfl (lv_at hl 2 rfl) ?_
        refine lv_iload hx hb dX6_digest_86 (lv_at hl 3 rfl) ?_
        obtain ⟨r26, w27, w28, w29, hc30, h⟩ := bd4_use h
        refine wr_V (As := [.int v3, .int v4]) (rest := [.long ((31 : Int64) * v1)]) (ws' := [(a_o, .inr (5, [.ref a_o_suite, .ref a_o_past, .ref a_o_text, .ref a_o_orders, .ref a_o_spare, .int (w27), .int (w28), .int (w29)])), (a_o_suite, .inr (3, [.ref a_o_suite_masks, .ref a_o_suite_row, .int (o_suite_size), .int (o_suite_startCells), .int (o_suite_modeNow)])), (a_o_suite_masks, .inl (cI, 40, .inl (o_suite_masks))), (a_o_suite_row, .inr (2, [.ref a_o_suite_row_tests, .int (o_suite_row_size)])), (a_o_suite_row_tests, .inl (cI, 8, .inl (o_suite_row_tests))), (a_o_past, .inr (1, [.ref a_o_past_slots, .int (o_past_size), .int (o_past_marked)])), (a_o_text, .inr (4, [.ref a_o_text_bytes, .int (o_text_length)])), (a_o_spare, .inr (2, [.ref a_o_spare_tests, .int (o_spare_size)])), (a_o_spare_tests, .inl (cI, 8, .inl (o_spare_tests)))]) S (c_X6_of l D cI cS a_o a_o_suite a_o_suite_masks a_o_past a_o_text a_o_orders a_o_spare a_o_suite_row o_timesBad o_timesNo o_timesFull o_suite_size o_suite_startCells o_suite_modeNow o_suite_masks v3 v4 r26 w27 w28 w29 hc30) (cwV1 hts cvX6_of wmX6_235 rfl rfl ⟨(Nat.le_of_ble_eq_true rfl), (Nat.le_of_ble_eq_true rfl)⟩) hK hP hD hS [0, 1, 2] rfl rfl [(true, 0), (true, 1), (true, 2), (false, 3), (false, 4), (false, 5), (false, 6), (false, 7), (false, 8)] rfl rfl rfl 0 rfl rfl rfl rfl hl.1 rfl (Nat.le_of_ble_eq_true rfl) dX6_digest_88 ⟨Nat.zero_le _, Nat.zero_le _⟩ rfl (fun H locs hP hD hS => ?_)
        refine lv_i2l (v := (r26.toInt64)) hx hb dX6_digest_91 rfl ?_
        refine lv_ladd hx hb dX6_digest_92 ?_
        refine lv_topl (fun y31 ey31 => ?_)
        have h := nm_use h ey31
        refine lv_lstore_n (lv' := [(1, .long y31), (0, .ref a_o), (3, .int v3), (4, .int v4)]) hx hb dX6_digest_93 rfl hl (by decide) rfl (fun ls hl => ?_)
        obtain ⟨y32, ey32⟩ : ∃ z : Int32, z = v4 + (1 : Int32) := ⟨_, rfl⟩
        have h := nm_use h ey32
        refine lv_iinc (v := y32) (lv' := [(4, .int y32), (1, .long y31), (0, .ref a_o), (3, .int v3)]) hx hb dX6_digest_94 hl (k := 3) rfl (by rw [ey32]; rfl) (by decide) rfl (fun ls hl => ?_)
        refine lv_goto (tgt := 73) hx hb dX6_digest_97 (by decide) ?_
        exact ih _ _ _ _ _ _ _ _ h _ _ hP hD hS _ (lv_sub hl [2, 1, 3, 0] rfl)
  have L_59 : ∀ (n : Nat) (v1 : Int64) (v3 : Int32) (o_timesBad : Int32) (o_timesNo : Int32) (o_timesFull : Int32) (o_spare_size : Int32) (o_spare_tests : Ar), b_X6_digest_59 o_suite_size o_suite_startCells o_suite_modeNow o_suite_masks o_suite_row_size o_suite_row_tests n v1 v3 o_timesBad o_timesNo o_timesFull o_spare_size o_spare_tests = some (r0, o_timesBad', o_timesNo', o_timesFull', o_spare_size', o_spare_tests') → ∀ (H : Heap) (locs : List Loc), va_P D vwCl [(a_o, .inr (5, [.ref a_o_suite, .ref a_o_past, .ref a_o_text, .ref a_o_orders, .ref a_o_spare, .int (o_timesBad), .int (o_timesNo), .int (o_timesFull)])), (a_o_suite, .inr (3, [.ref a_o_suite_masks, .ref a_o_suite_row, .int (o_suite_size), .int (o_suite_startCells), .int (o_suite_modeNow)])), (a_o_suite_masks, .inl (cI, 40, .inl (o_suite_masks))), (a_o_suite_row, .inr (2, [.ref a_o_suite_row_tests, .int (o_suite_row_size)])), (a_o_suite_row_tests, .inl (cI, 8, .inl (o_suite_row_tests))), (a_o_past, .inr (1, [.ref a_o_past_slots, .int (o_past_size), .int (o_past_marked)])), (a_o_text, .inr (4, [.ref a_o_text_bytes, .int (o_text_length)])), (a_o_spare, .inr (2, [.ref a_o_spare_tests, .int (o_spare_size)])), (a_o_spare_tests, .inl (cI, 8, .inl (o_spare_tests)))] H → va_D A [(a_o, .inr (5, [.ref a_o_suite, .ref a_o_past, .ref a_o_text, .ref a_o_orders, .ref a_o_spare, .int (o_timesBad), .int (o_timesNo), .int (o_timesFull)])), (a_o_suite, .inr (3, [.ref a_o_suite_masks, .ref a_o_suite_row, .int (o_suite_size), .int (o_suite_startCells), .int (o_suite_modeNow)])), (a_o_suite_masks, .inl (cI, 40, .inl (o_suite_masks))), (a_o_suite_row, .inr (2, [.ref a_o_suite_row_tests, .int (o_suite_row_size)])), (a_o_suite_row_tests, .inl (cI, 8, .inl (o_suite_row_tests))), (a_o_past, .inr (1, [.ref a_o_past_slots, .int (o_past_size), .int (o_past_marked)])), (a_o_text, .inr (4, [.ref a_o_text_bytes, .int (o_text_length)])), (a_o_spare, .inr (2, [.ref a_o_spare_tests, .int (o_spare_size)])), (a_o_spare_tests, .inl (cI, 8, .inl (o_spare_tests)))] → va_S A s.heap H locs → ∀ (ls : Array Slot), lv_has ls 6 [(0, .ref a_o), (1, .long v1), (3, .int v3)] → W p l e (headSpec (mws yX6_digest cX6_digest 6 (some .long)) { frames := 6, cells := 0, slots := 0, locals := 134 }).room s m [.ref a_o].toArray below meth c H locs 0 0 (MQ below (wrQ D A [(a_o, .inr (5, [.ref a_o_suite, .ref a_o_past, .ref a_o_text, .ref a_o_orders, .ref a_o_spare, .int (o_timesBad'), .int (o_timesNo'), .int (o_timesFull')])), (a_o_suite, .inr (3, [.ref a_o_suite_masks, .ref a_o_suite_row, .int (o_suite_size), .int (o_suite_startCells), .int (o_suite_modeNow)])), (a_o_suite_masks, .inl (cI, 40, .inl (o_suite_masks))), (a_o_suite_row, .inr (2, [.ref a_o_suite_row_tests, .int (o_suite_row_size)])), (a_o_suite_row_tests, .inl (cI, 8, .inl (o_suite_row_tests))), (a_o_past, .inr (1, [.ref a_o_past_slots, .int (o_past_size), .int (o_past_marked)])), (a_o_text, .inr (4, [.ref a_o_text_bytes, .int (o_text_length)])), (a_o_spare, .inr (2, [.ref a_o_spare_tests, .int (o_spare_size')])), (a_o_spare_tests, .inl (cI, 8, .inl (o_spare_tests')))] (some (.long r0))) [.ref a_o].toArray s 0 0 A) (F0 m 59 ls []) := by
    intro n
    induction n with
    | zero =>
      intro v1 v3 o_timesBad o_timesNo o_timesFull o_spare_size o_spare_tests h
      exact nn_no h
    | succ n ih =>
      intro v1 v3 o_timesBad o_timesNo o_timesFull o_spare_size o_spare_tests h H locs hP hD hS ls hl
      rw [b_X6_digest_59] at h
      refine lv_iload_n hx hb dX6_digest_59 rfl (lv_at hl 2 rfl) ?_
      refine lv_aload_n hx hb dX6_digest_60 rfl (lv_at hl 0 rfl) ?_
      refine gfX6_0 hx hb hts hown hK hP 0 rfl wfX6_10 dX6_digest_61 ?_
      refine gnX4_2 hx hb hts hown hK hP 1 rfl wnX6_162 dX6_digest_64 ?_
      refine lv_icmp_ge (tgt := 106) hx hb dX6_digest_67 (by decide) (fun c33 => ?_) (fun c33 => ?_)
      · have h := it_t c33 h
        refine lv_iconst (v := (0 : Int32)) hx hb dX6_digest_106 (by decide) ?_
        refine lv_istore_n (lv' := [(3, .int (0 : Int32)), (0, .ref a_o), (1, .long v1)]) hx hb dX6_digest_107 rfl hl (by decide) rfl (fun ls hl => ?_)
        exact L_108 _ _ _ _ _ _ _ _ h _ _ hP hD hS _ (lv_sub hl [1, 2, 0] rfl)
      · have h := it_f c33 h
        refine lv_iconst (v := (0 : Int32)) hx hb dX6_digest_70 (by decide) ?_
        refine lv_istore (lv' := [(4, .int (0 : Int32)), (0, .ref a_o), (1, .long v1), (3, .int v3)]) hx hb dX6_digest_71 hl (by decide) rfl (fun ls hl => ?_)
        exact L_73 _ ih _ _ _ _ _ _ _ _ _ h _ _ hP hD hS _ (lv_sub hl [1, 2, 3, 0] rfl)
  have L_32 : ∀ (n : Nat) (v1 : Int64) (v3 : Int32) (o_timesBad : Int32) (o_timesNo : Int32) (o_timesFull : Int32) (o_spare_size : Int32) (o_spare_tests : Ar), b_X6_digest_32 o_suite_size o_suite_startCells o_suite_modeNow o_suite_masks o_suite_row_size o_suite_row_tests n v1 v3 o_timesBad o_timesNo o_timesFull o_spare_size o_spare_tests = some (r0, o_timesBad', o_timesNo', o_timesFull', o_spare_size', o_spare_tests') → ∀ (H : Heap) (locs : List Loc), va_P D vwCl [(a_o, .inr (5, [.ref a_o_suite, .ref a_o_past, .ref a_o_text, .ref a_o_orders, .ref a_o_spare, .int (o_timesBad), .int (o_timesNo), .int (o_timesFull)])), (a_o_suite, .inr (3, [.ref a_o_suite_masks, .ref a_o_suite_row, .int (o_suite_size), .int (o_suite_startCells), .int (o_suite_modeNow)])), (a_o_suite_masks, .inl (cI, 40, .inl (o_suite_masks))), (a_o_suite_row, .inr (2, [.ref a_o_suite_row_tests, .int (o_suite_row_size)])), (a_o_suite_row_tests, .inl (cI, 8, .inl (o_suite_row_tests))), (a_o_past, .inr (1, [.ref a_o_past_slots, .int (o_past_size), .int (o_past_marked)])), (a_o_text, .inr (4, [.ref a_o_text_bytes, .int (o_text_length)])), (a_o_spare, .inr (2, [.ref a_o_spare_tests, .int (o_spare_size)])), (a_o_spare_tests, .inl (cI, 8, .inl (o_spare_tests)))] H → va_D A [(a_o, .inr (5, [.ref a_o_suite, .ref a_o_past, .ref a_o_text, .ref a_o_orders, .ref a_o_spare, .int (o_timesBad), .int (o_timesNo), .int (o_timesFull)])), (a_o_suite, .inr (3, [.ref a_o_suite_masks, .ref a_o_suite_row, .int (o_suite_size), .int (o_suite_startCells), .int (o_suite_modeNow)])), (a_o_suite_masks, .inl (cI, 40, .inl (o_suite_masks))), (a_o_suite_row, .inr (2, [.ref a_o_suite_row_tests, .int (o_suite_row_size)])), (a_o_suite_row_tests, .inl (cI, 8, .inl (o_suite_row_tests))), (a_o_past, .inr (1, [.ref a_o_past_slots, .int (o_past_size), .int (o_past_marked)])), (a_o_text, .inr (4, [.ref a_o_text_bytes, .int (o_text_length)])), (a_o_spare, .inr (2, [.ref a_o_spare_tests, .int (o_spare_size)])), (a_o_spare_tests, .inl (cI, 8, .inl (o_spare_tests)))] → va_S A s.heap H locs → ∀ (ls : Array Slot), lv_has ls 6 [(0, .ref a_o), (1, .long v1), (3, .int v3)] → W p l e (headSpec (mws yX6_digest cX6_digest 6 (some .long)) { frames := 6, cells := 0, slots := 0, locals := 134 }).room s m [.ref a_o].toArray below meth c H locs 0 0 (MQ below (wrQ D A [(a_o, .inr (5, [.ref a_o_suite, .ref a_o_past, .ref a_o_text, .ref a_o_orders, .ref a_o_spare, .int (o_timesBad'), .int (o_timesNo'), .int (o_timesFull')])), (a_o_suite, .inr (3, [.ref a_o_suite_masks, .ref a_o_suite_row, .int (o_suite_size), .int (o_suite_startCells), .int (o_suite_modeNow)])), (a_o_suite_masks, .inl (cI, 40, .inl (o_suite_masks))), (a_o_suite_row, .inr (2, [.ref a_o_suite_row_tests, .int (o_suite_row_size)])), (a_o_suite_row_tests, .inl (cI, 8, .inl (o_suite_row_tests))), (a_o_past, .inr (1, [.ref a_o_past_slots, .int (o_past_size), .int (o_past_marked)])), (a_o_text, .inr (4, [.ref a_o_text_bytes, .int (o_text_length)])), (a_o_spare, .inr (2, [.ref a_o_spare_tests, .int (o_spare_size')])), (a_o_spare_tests, .inl (cI, 8, .inl (o_spare_tests')))] (some (.long r0))) [.ref a_o].toArray s 0 0 A) (F0 m 32 ls []) := by
    intro n
    induction n with
    | zero =>
      intro v1 v3 o_timesBad o_timesNo o_timesFull o_spare_size o_spare_tests h
      exact nn_no h
    | succ n ih =>
      intro v1 v3 o_timesBad o_timesNo o_timesFull o_spare_size o_spare_tests h H locs hP hD hS ls hl
      rw [b_X6_digest_32] at h
      refine lv_iload_n hx hb dX6_digest_32 rfl (lv_at hl 2 rfl) ?_
      refine lv_bipush (v := (7 : Int32)) hx hb dX6_digest_33 (by decide) ?_
      refine lv_icmp_gt (tgt := 57) hx hb dX6_digest_35 (by decide) (fun c34 => ?_) (fun c34 => ?_)
      · have h := it_t c34 h
        refine lv_iconst (v := (0 : Int32)) hx hb dX6_digest_57 (by decide) ?_
        refine lv_istore_n (lv' := [(3, .int (0 : Int32)), (0, .ref a_o), (1, .long v1)]) hx hb dX6_digest_58 rfl hl (by decide) rfl (fun ls hl => ?_)
        exact L_59 _ _ _ _ _ _ _ _ h _ _ hP hD hS _ (lv_sub hl [1, 2, 0] rfl)
      · have h := it_f c34 h
        refine lv_ldc2 (v := (31 : Int64)) hx hb hown (hts _ wkX6_227) dX6_digest_38 ?_
        refine lv_lload_n hx hb dX6_digest_41 rfl (lv_at hl 1 rfl) ?_
        refine lv_lmul hx hb dX6_digest_42 ?_
        refine lv_aload_n hx hb dX6_digest_43 rfl (lv_at hl 0 rfl) ?_
        refine lv_iload_n hx hb dX6_digest_44 rfl (lv_at hl 2 rfl) ?_
        obtain ⟨r35, w36, w37, w38, hc39, h⟩ := bd4_use h
        refine wr_V (As := [.int v3]) (rest := [.long ((31 : Int64) * v1)]) (ws' := [(a_o, .inr (5, [.ref a_o_suite, .ref a_o_past, .ref a_o_text, .ref a_o_orders, .ref a_o_spare, .int (w36), .int (w37), .int (w38)])), (a_o_suite, .inr (3, [.ref a_o_suite_masks, .ref a_o_suite_row, .int (o_suite_size), .int (o_suite_startCells), .int (o_suite_modeNow)])), (a_o_suite_masks, .inl (cI, 40, .inl (o_suite_masks))), (a_o_suite_row, .inr (2, [.ref a_o_suite_row_tests, .int (o_suite_row_size)])), (a_o_suite_row_tests, .inl (cI, 8, .inl (o_suite_row_tests))), (a_o_past, .inr (1, [.ref a_o_past_slots, .int (o_past_size), .int (o_past_marked)])), (a_o_text, .inr (4, [.ref a_o_text_bytes, .int (o_text_length)])), (a_o_spare, .inr (2, [.ref a_o_spare_tests, .int (o_spare_size)])), (a_o_spare_tests, .inl (cI, 8, .inl (o_spare_tests)))]) S (c_X6_count l D cI cS a_o a_o_suite a_o_suite_masks a_o_suite_row a_o_suite_row_tests a_o_past a_o_text a_o_orders a_o_spare o_timesBad o_timesNo o_timesFull o_suite_size o_suite_startCells o_suite_modeNow o_suite_masks o_suite_row_size o_suite_row_tests v3 r35 w36 w37 w38 hc39) (cwV1 hts cvX6_count wmX6_232 rfl rfl ⟨(Nat.le_of_ble_eq_true rfl), (Nat.le_of_ble_eq_true rfl)⟩) hK hP hD hS [0, 1, 2, 3, 4] rfl rfl [(true, 0), (true, 1), (true, 2), (true, 3), (true, 4), (false, 5), (false, 6), (false, 7), (false, 8)] rfl rfl rfl 0 rfl rfl rfl rfl hl.1 rfl (Nat.le_of_ble_eq_true rfl) dX6_digest_45 ⟨Nat.zero_le _, Nat.zero_le _⟩ rfl (fun H locs hP hD hS => ?_)
        refine lv_i2l (v := (r35.toInt64)) hx hb dX6_digest_48 rfl ?_
        refine lv_ladd hx hb dX6_digest_49 ?_
        refine lv_topl (fun y40 ey40 => ?_)
        have h := nm_use h ey40
        refine lv_lstore_n (lv' := [(1, .long y40), (0, .ref a_o), (3, .int v3)]) hx hb dX6_digest_50 rfl hl (by decide) rfl (fun ls hl => ?_)
        obtain ⟨y41, ey41⟩ : ∃ z : Int32, z = v3 + (1 : Int32) := ⟨_, rfl⟩
        have h := nm_use h ey41
        refine lv_iinc (v := y41) (lv' := [(3, .int y41), (1, .long y40), (0, .ref a_o)]) hx hb dX6_digest_51 hl (k := 2) rfl (by rw [ey41]; rfl) (by decide) rfl (fun ls hl => ?_)
        refine lv_goto (tgt := 32) hx hb dX6_digest_54 (by decide) ?_
        exact ih _ _ _ _ _ _ _ h _ _ hP hD hS _ (lv_sub hl [2, 1, 0] rfl)
  have L_6 : ∀ (n : Nat) (v1 : Int64) (v3 : Int32) (o_timesBad : Int32) (o_timesNo : Int32) (o_timesFull : Int32) (o_spare_size : Int32) (o_spare_tests : Ar), b_X6_digest_6 o_suite_size o_suite_startCells o_suite_modeNow o_suite_masks o_suite_row_size o_suite_row_tests o_past_size o_text_length n v1 v3 o_timesBad o_timesNo o_timesFull o_spare_size o_spare_tests = some (r0, o_timesBad', o_timesNo', o_timesFull', o_spare_size', o_spare_tests') → ∀ (H : Heap) (locs : List Loc), va_P D vwCl [(a_o, .inr (5, [.ref a_o_suite, .ref a_o_past, .ref a_o_text, .ref a_o_orders, .ref a_o_spare, .int (o_timesBad), .int (o_timesNo), .int (o_timesFull)])), (a_o_suite, .inr (3, [.ref a_o_suite_masks, .ref a_o_suite_row, .int (o_suite_size), .int (o_suite_startCells), .int (o_suite_modeNow)])), (a_o_suite_masks, .inl (cI, 40, .inl (o_suite_masks))), (a_o_suite_row, .inr (2, [.ref a_o_suite_row_tests, .int (o_suite_row_size)])), (a_o_suite_row_tests, .inl (cI, 8, .inl (o_suite_row_tests))), (a_o_past, .inr (1, [.ref a_o_past_slots, .int (o_past_size), .int (o_past_marked)])), (a_o_text, .inr (4, [.ref a_o_text_bytes, .int (o_text_length)])), (a_o_spare, .inr (2, [.ref a_o_spare_tests, .int (o_spare_size)])), (a_o_spare_tests, .inl (cI, 8, .inl (o_spare_tests)))] H → va_D A [(a_o, .inr (5, [.ref a_o_suite, .ref a_o_past, .ref a_o_text, .ref a_o_orders, .ref a_o_spare, .int (o_timesBad), .int (o_timesNo), .int (o_timesFull)])), (a_o_suite, .inr (3, [.ref a_o_suite_masks, .ref a_o_suite_row, .int (o_suite_size), .int (o_suite_startCells), .int (o_suite_modeNow)])), (a_o_suite_masks, .inl (cI, 40, .inl (o_suite_masks))), (a_o_suite_row, .inr (2, [.ref a_o_suite_row_tests, .int (o_suite_row_size)])), (a_o_suite_row_tests, .inl (cI, 8, .inl (o_suite_row_tests))), (a_o_past, .inr (1, [.ref a_o_past_slots, .int (o_past_size), .int (o_past_marked)])), (a_o_text, .inr (4, [.ref a_o_text_bytes, .int (o_text_length)])), (a_o_spare, .inr (2, [.ref a_o_spare_tests, .int (o_spare_size)])), (a_o_spare_tests, .inl (cI, 8, .inl (o_spare_tests)))] → va_S A s.heap H locs → ∀ (ls : Array Slot), lv_has ls 6 [(0, .ref a_o), (1, .long v1), (3, .int v3)] → W p l e (headSpec (mws yX6_digest cX6_digest 6 (some .long)) { frames := 6, cells := 0, slots := 0, locals := 134 }).room s m [.ref a_o].toArray below meth c H locs 0 0 (MQ below (wrQ D A [(a_o, .inr (5, [.ref a_o_suite, .ref a_o_past, .ref a_o_text, .ref a_o_orders, .ref a_o_spare, .int (o_timesBad'), .int (o_timesNo'), .int (o_timesFull')])), (a_o_suite, .inr (3, [.ref a_o_suite_masks, .ref a_o_suite_row, .int (o_suite_size), .int (o_suite_startCells), .int (o_suite_modeNow)])), (a_o_suite_masks, .inl (cI, 40, .inl (o_suite_masks))), (a_o_suite_row, .inr (2, [.ref a_o_suite_row_tests, .int (o_suite_row_size)])), (a_o_suite_row_tests, .inl (cI, 8, .inl (o_suite_row_tests))), (a_o_past, .inr (1, [.ref a_o_past_slots, .int (o_past_size), .int (o_past_marked)])), (a_o_text, .inr (4, [.ref a_o_text_bytes, .int (o_text_length)])), (a_o_spare, .inr (2, [.ref a_o_spare_tests, .int (o_spare_size')])), (a_o_spare_tests, .inl (cI, 8, .inl (o_spare_tests')))] (some (.long r0))) [.ref a_o].toArray s 0 0 A) (F0 m 6 ls []) := by
    intro n
    induction n with
    | zero =>
      intro v1 v3 o_timesBad o_timesNo o_timesFull o_spare_size o_spare_tests h
      exact nn_no h
    | succ n ih =>
      intro v1 v3 o_timesBad o_timesNo o_timesFull o_spare_size o_spare_tests h H locs hP hD hS ls hl
      rw [b_X6_digest_6] at h
      refine lv_iload_n hx hb dX6_digest_6 rfl (lv_at hl 2 rfl) ?_
      refine lv_iconst (v := (4 : Int32)) hx hb dX6_digest_7 (by decide) ?_
      refine lv_icmp_gt (tgt := 30) hx hb dX6_digest_8 (by decide) (fun c42 => ?_) (fun c42 => ?_)
      · have h := it_t c42 h
        refine lv_iconst (v := (0 : Int32)) hx hb dX6_digest_30 (by decide) ?_
        refine lv_istore_n (lv' := [(3, .int (0 : Int32)), (0, .ref a_o), (1, .long v1)]) hx hb dX6_digest_31 rfl hl (by decide) rfl (fun ls hl => ?_)
        exact L_32 _ _ _ _ _ _ _ _ h _ _ hP hD hS _ (lv_sub hl [1, 2, 0] rfl)
      · have h := it_f c42 h
        refine lv_ldc2 (v := (31 : Int64)) hx hb hown (hts _ wkX6_227) dX6_digest_11 ?_
        refine lv_lload_n hx hb dX6_digest_14 rfl (lv_at hl 1 rfl) ?_
        refine lv_lmul hx hb dX6_digest_15 ?_
        refine lv_aload_n hx hb dX6_digest_16 rfl (lv_at hl 0 rfl) ?_
        refine lv_iload_n hx hb dX6_digest_17 rfl (lv_at hl 2 rfl) ?_
        obtain ⟨r43, w44, w45, w46, hc47, h⟩ := bd4_use h
        refine wr_V (As := [.int v3]) (rest := [.long ((31 : Int64) * v1)]) (ws' := [(a_o, .inr (5, [.ref a_o_suite, .ref a_o_past, .ref a_o_text, .ref a_o_orders, .ref a_o_spare, .int (w44), .int (w45), .int (w46)])), (a_o_suite, .inr (3, [.ref a_o_suite_masks, .ref a_o_suite_row, .int (o_suite_size), .int (o_suite_startCells), .int (o_suite_modeNow)])), (a_o_suite_masks, .inl (cI, 40, .inl (o_suite_masks))), (a_o_suite_row, .inr (2, [.ref a_o_suite_row_tests, .int (o_suite_row_size)])), (a_o_suite_row_tests, .inl (cI, 8, .inl (o_suite_row_tests))), (a_o_past, .inr (1, [.ref a_o_past_slots, .int (o_past_size), .int (o_past_marked)])), (a_o_text, .inr (4, [.ref a_o_text_bytes, .int (o_text_length)])), (a_o_spare, .inr (2, [.ref a_o_spare_tests, .int (o_spare_size)])), (a_o_spare_tests, .inl (cI, 8, .inl (o_spare_tests)))]) S (c_X6_told l D cI cS a_o a_o_past a_o_text a_o_suite a_o_orders a_o_spare a_o_past_slots a_o_text_bytes o_timesBad o_timesNo o_timesFull o_past_size o_past_marked o_text_length v3 r43 w44 w45 w46 hc47) (cwV1 hts cvX6_told wmX6_229 rfl rfl ⟨(Nat.le_of_ble_eq_true rfl), (Nat.le_of_ble_eq_true rfl)⟩) hK hP hD hS [0, 5, 6] rfl rfl [(true, 0), (false, 1), (false, 2), (false, 3), (false, 4), (true, 1), (true, 2), (false, 7), (false, 8)] rfl rfl rfl 0 rfl rfl rfl rfl hl.1 rfl (Nat.le_of_ble_eq_true rfl) dX6_digest_18 ⟨Nat.zero_le _, Nat.zero_le _⟩ rfl (fun H locs hP hD hS => ?_)
        refine lv_i2l (v := (r43.toInt64)) hx hb dX6_digest_21 rfl ?_
        refine lv_ladd hx hb dX6_digest_22 ?_
        refine lv_topl (fun y48 ey48 => ?_)
        have h := nm_use h ey48
        refine lv_lstore_n (lv' := [(1, .long y48), (0, .ref a_o), (3, .int v3)]) hx hb dX6_digest_23 rfl hl (by decide) rfl (fun ls hl => ?_)
        obtain ⟨y49, ey49⟩ : ∃ z : Int32, z = v3 + (1 : Int32) := ⟨_, rfl⟩
        have h := nm_use h ey49
        refine lv_iinc (v := y49) (lv' := [(3, .int y49), (1, .long y48), (0, .ref a_o)]) hx hb dX6_digest_24 hl (k := 2) rfl (by rw [ey49]; rfl) (by decide) rfl (fun ls hl => ?_)
        refine lv_goto (tgt := 6) hx hb dX6_digest_27 (by decide) ?_
        exact ih _ _ _ _ _ _ _ h _ _ hP hD hS _ (lv_sub hl [2, 1, 0] rfl)
  unfold f_X6_digest at h
  refine lv_ldc2 (v := (18056 : Int64)) hx hb hown (hts _ wkX6_225) dX6_digest_0 ?_
  refine lv_lstore_n (lv' := [(1, .long (18056 : Int64)), (0, .ref a_o)]) hx hb dX6_digest_3 rfl hl (by decide) rfl (fun ls hl => ?_)
  refine lv_iconst (v := (0 : Int32)) hx hb dX6_digest_4 (by decide) ?_
  refine lv_istore_n (lv' := [(3, .int (0 : Int32)), (1, .long (18056 : Int64)), (0, .ref a_o)]) hx hb dX6_digest_5 rfl hl (by decide) rfl (fun ls hl => ?_)
  exact L_6 _ _ _ _ _ _ _ _ h _ _ hP hD hS _ (lv_sub hl [2, 1, 0] rfl)
