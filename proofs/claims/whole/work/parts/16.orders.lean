/-! Orders -/
def f_X0_numbersOf (x1 : Int32) : Option (Int32) := (if x1 = (99 : Int32) then some ((0 : Int32)) else (if x1 = (109 : Int32) then some ((1 : Int32)) else (if x1 = (114 : Int32) then some ((1 : Int32)) else (if x1 = (115 : Int32) then some ((1 : Int32)) else (if x1 = (116 : Int32) then some ((5 : Int32)) else (if x1 = (119 : Int32) then some ((0 : Int32)) else some ((-1 : Int32))))))))
set_option maxHeartbeats 4000000 in
set_option maxRecDepth 100000 in
theorem c_X0_numbersOf (l : Launch) (D : va_G) (cI cS : ClassId) (x1 : Int32) (r0 : Int32) (h : f_X0_numbersOf x1 = some r0) : roM l D cI cS yX0_numbersOf cX0_numbersOf 1 (some .int) 0 0 [.int x1] [] (some (.int r0)) := by
  refine Met.ofW (cc := cX0_numbersOf) (maxL := 1) (ret := (some .int)) (by decide) rfl ?_
  intro p e s m args below meth c s₁ B hml hv
  obtain ⟨rfl, hP, hK⟩ := hv
  have hx := B.exec
  have hb := B.bytes
  have hr := B.returns
  have hts : ∀ w ∈ GW, w.before _ s = true := fun w hw => atoms_spec (ws := mws yX0_numbersOf cX0_numbersOf 1 (some .int)) B.pre w (List.mem_cons_of_mem _ hw)
  have hown : s.vm.findClass RX0 = some m.cls := findClass_of_methodNamed B.named
  have hlocks := B.notSynchronized
  have hl := lv_entry ([.int x1]) (n := 1) (Nat.le_of_ble_eq_true rfl)
  rw [lg_entry_eq]
  generalize (lg_sl ([.int x1]) ++ List.replicate (1 - (lg_sl ([.int x1])).length) Slot.unset).toArray = ls at hl ⊢
  have hl : lv_has ls 1 [(0, .int x1)] := hl
  have S : CallFix p m c cX0_numbersOf 1 s _ GW RX0 := ⟨hx, hb, hml, hown, hts⟩
  unfold f_X0_numbersOf at h
  refine lv_iload_n hx hb dX0_numbersOf_0 rfl (lv_at hl 0 rfl) ?_
  by_cases c1 : x1 = (99 : Int32)
  · have h := it_t c1 h
    refine lv_lookup (off := 63) (tgt := 64) hx hb dX0_numbersOf_1 (by decide) (by rw [c1]; rfl) (by decide) ?_
    refine lv_iconst (v := (0 : Int32)) hx hb dX0_numbersOf_64 (by decide) ?_
    exact W.iret hx hb hr (fun t ht _ => ⟨congrArg (fun z => Outcome.returned (some (Value.int z))) (Option.some.inj h), ht⟩) (fun q hq => by cases hq) dX0_numbersOf_65
  · have h := it_f c1 h
    by_cases c2 : x1 = (109 : Int32)
    · have h := it_t c2 h
      refine lv_lookup (off := 61) (tgt := 62) hx hb dX0_numbersOf_1 (by decide) (by rw [c2]; rfl) (by decide) ?_
      refine lv_iconst (v := (1 : Int32)) hx hb dX0_numbersOf_62 (by decide) ?_
      exact W.iret hx hb hr (fun t ht _ => ⟨congrArg (fun z => Outcome.returned (some (Value.int z))) (Option.some.inj h), ht⟩) (fun q hq => by cases hq) dX0_numbersOf_63
    · have h := it_f c2 h
      by_cases c3 : x1 = (114 : Int32)
      · have h := it_t c3 h
        refine lv_lookup (off := 61) (tgt := 62) hx hb dX0_numbersOf_1 (by decide) (by rw [c3]; rfl) (by decide) ?_
        refine lv_iconst (v := (1 : Int32)) hx hb dX0_numbersOf_62 (by decide) ?_
        exact W.iret hx hb hr (fun t ht _ => ⟨congrArg (fun z => Outcome.returned (some (Value.int z))) (Option.some.inj h), ht⟩) (fun q hq => by cases hq) dX0_numbersOf_63
      · have h := it_f c3 h
        by_cases c4 : x1 = (115 : Int32)
        · have h := it_t c4 h
          refine lv_lookup (off := 61) (tgt := 62) hx hb dX0_numbersOf_1 (by decide) (by rw [c4]; rfl) (by decide) ?_
          refine lv_iconst (v := (1 : Int32)) hx hb dX0_numbersOf_62 (by decide) ?_
          exact W.iret hx hb hr (fun t ht _ => ⟨congrArg (fun z => Outcome.returned (some (Value.int z))) (Option.some.inj h), ht⟩) (fun q hq => by cases hq) dX0_numbersOf_63
        · have h := it_f c4 h
          by_cases c5 : x1 = (116 : Int32)
          · have h := it_t c5 h
            refine lv_lookup (off := 59) (tgt := 60) hx hb dX0_numbersOf_1 (by decide) (by rw [c5]; rfl) (by decide) ?_
            refine lv_iconst (v := (5 : Int32)) hx hb dX0_numbersOf_60 (by decide) ?_
            exact W.iret hx hb hr (fun t ht _ => ⟨congrArg (fun z => Outcome.returned (some (Value.int z))) (Option.some.inj h), ht⟩) (fun q hq => by cases hq) dX0_numbersOf_61
          · have h := it_f c5 h
            by_cases c6 : x1 = (119 : Int32)
            · have h := it_t c6 h
              refine lv_lookup (off := 63) (tgt := 64) hx hb dX0_numbersOf_1 (by decide) (by rw [c6]; rfl) (by decide) ?_
              refine lv_iconst (v := (0 : Int32)) hx hb dX0_numbersOf_64 (by decide) ?_
              exact W.iret hx hb hr (fun t ht _ => ⟨congrArg (fun z => Outcome.returned (some (Value.int z))) (Option.some.inj h), ht⟩) (fun q hq => by cases hq) dX0_numbersOf_65
            · have h := it_f c6 h
              refine lv_lookup (off := 65) (tgt := 66) hx hb dX0_numbersOf_1 (by decide) (by show Op.lookupswitch.offset [(99, 63), (109, 61), (114, 61), (115, 61), (116, 59), (119, 63)] 65 x1.toInt = 65; rw [lv_osw c1 (by decide), lv_osw c2 (by decide), lv_osw c3 (by decide), lv_osw c4 (by decide), lv_osw c5 (by decide), lv_osw c6 (by decide)]; rfl) (by decide) ?_
              refine lv_iconst (v := (-1 : Int32)) hx hb dX0_numbersOf_66 (by decide) ?_
              exact W.iret hx hb hr (fun t ht _ => ⟨congrArg (fun z => Outcome.returned (some (Value.int z))) (Option.some.inj h), ht⟩) (fun q hq => by cases hq) dX0_numbersOf_67
def f_X0_letter (o_letters : Ar) (x1 : Int32) : Option (Int32) := (if x1 < (0 : Int32) then some ((-1 : Int32)) else (if (75 : Int32) ≤ x1 then some ((-1 : Int32)) else rd o_letters 75 x1 (fun rv3 => some (rv3))))
set_option maxHeartbeats 4000000 in
set_option maxRecDepth 100000 in
theorem c_X0_letter (l : Launch) (D : va_G) (cI cS : ClassId) (a_o : Nat) (a_o_letters : Nat) (a_o_numbers : Nat) (o_size : Int32) (o_wanted : Int32) (o_begun : Int32) (o_figures : Int32) (o_letters : Ar) (x1 : Int32) (r0 : Int32) (h : f_X0_letter o_letters x1 = some r0) : roM l D cI cS yX0_letter cX0_letter 2 (some .int) 0 0 [.ref a_o, .int x1] [(a_o, .inr (0, [.ref a_o_letters, .ref a_o_numbers, .int (o_size), .int (o_wanted), .int (o_begun), .int (o_figures)])), (a_o_letters, .inl (cI, 75, .inl (o_letters)))] (some (.int r0)) := by
  refine Met.ofW (cc := cX0_letter) (maxL := 2) (ret := (some .int)) (by decide) rfl ?_
  intro p e s m args below meth c s₁ B hml hv
  obtain ⟨rfl, hP, hK⟩ := hv
  have hx := B.exec
  have hb := B.bytes
  have hr := B.returns
  have hts : ∀ w ∈ GW, w.before _ s = true := fun w hw => atoms_spec (ws := mws yX0_letter cX0_letter 2 (some .int)) B.pre w (List.mem_cons_of_mem _ hw)
  have hown : s.vm.findClass RX0 = some m.cls := findClass_of_methodNamed B.named
  have hlocks := B.notSynchronized
  have hl := lv_entry ([.ref a_o, .int x1]) (n := 2) (Nat.le_of_ble_eq_true rfl)
  rw [lg_entry_eq]
  generalize (lg_sl ([.ref a_o, .int x1]) ++ List.replicate (2 - (lg_sl ([.ref a_o, .int x1])).length) Slot.unset).toArray = ls at hl ⊢
  have hl : lv_has ls 2 [(0, .ref a_o), (1, .int x1)] := hl
  have S : CallFix p m c cX0_letter 2 s _ GW RX0 := ⟨hx, hb, hml, hown, hts⟩
  unfold f_X0_letter at h
  refine lv_iload_n hx hb dX0_letter_0 rfl (lv_at hl 1 rfl) ?_
  refine lv_if_lt (tgt := 22) hx hb dX0_letter_1 (by decide) (fun c1 => ?_) (fun c1 => ?_)
  · have h := it_t c1 h
    refine lv_iconst (v := (-1 : Int32)) hx hb dX0_letter_22 (by decide) ?_
    exact W.iret hx hb hr (fun t ht _ => ⟨congrArg (fun z => Outcome.returned (some (Value.int z))) (Option.some.inj h), ht⟩) (fun q hq => by cases hq) dX0_letter_23
  · have h := it_f c1 h
    refine lv_iload_n hx hb dX0_letter_4 rfl (lv_at hl 1 rfl) ?_
    refine lv_aload_n hx hb dX0_letter_5 rfl (lv_at hl 0 rfl) ?_
    refine gfX0_0 hx hb hts hown hK hP 0 rfl wfX0_9 dX0_letter_6 ?_
    refine al_ (w := (75 : Int32)) hx hb hK hP 1 rfl rfl dX0_letter_9 ?_
    refine lv_icmp_ge (tgt := 22) hx hb dX0_letter_10 (by decide) (fun c2 => ?_) (fun c2 => ?_)
    · have h := it_t c2 h
      refine lv_iconst (v := (-1 : Int32)) hx hb dX0_letter_22 (by decide) ?_
      exact W.iret hx hb hr (fun t ht _ => ⟨congrArg (fun z => Outcome.returned (some (Value.int z))) (Option.some.inj h), ht⟩) (fun q hq => by cases hq) dX0_letter_23
    · have h := it_f c2 h
      refine lv_aload_n hx hb dX0_letter_13 rfl (lv_at hl 0 rfl) ?_
      refine gfX0_0 hx hb hts hown hK hP 0 rfl wfX0_9 dX0_letter_14 ?_
      refine lv_iload_n hx hb dX0_letter_17 rfl (lv_at hl 1 rfl) ?_
      obtain ⟨hi4, h⟩ := rd_use h
      refine ia_ hx hb hK hP 1 rfl hi4 dX0_letter_18 ?_
      refine lv_goto (tgt := 23) hx hb dX0_letter_19 (by decide) ?_
      exact W.iret hx hb hr (fun t ht _ => ⟨congrArg (fun z => Outcome.returned (some (Value.int z))) (Option.some.inj h), ht⟩) (fun q hq => by cases hq) dX0_letter_23
def f_X0_number (o_numbers : Ar) (x1 : Int32) (x2 : Int32) : Option (Int32) := nm ((x1 * (5 : Int32)) + x2) (fun y1 => (if y1 < (0 : Int32) then some ((0 : Int32)) else (if (375 : Int32) ≤ y1 then some ((0 : Int32)) else rd o_numbers 375 y1 (fun rv4 => some (rv4)))))
set_option maxHeartbeats 4000000 in
set_option maxRecDepth 100000 in
theorem c_X0_number (l : Launch) (D : va_G) (cI cS : ClassId) (a_o : Nat) (a_o_numbers : Nat) (a_o_letters : Nat) (o_size : Int32) (o_wanted : Int32) (o_begun : Int32) (o_figures : Int32) (o_numbers : Ar) (x1 : Int32) (x2 : Int32) (r0 : Int32) (h : f_X0_number o_numbers x1 x2 = some r0) : roM l D cI cS yX0_number cX0_number 4 (some .int) 0 0 [.ref a_o, .int x1, .int x2] [(a_o, .inr (0, [.ref a_o_letters, .ref a_o_numbers, .int (o_size), .int (o_wanted), .int (o_begun), .int (o_figures)])), (a_o_numbers, .inl (cI, 375, .inl (o_numbers)))] (some (.int r0)) := by
  refine Met.ofW (cc := cX0_number) (maxL := 4) (ret := (some .int)) (by decide) rfl ?_
  intro p e s m args below meth c s₁ B hml hv
  obtain ⟨rfl, hP, hK⟩ := hv
  have hx := B.exec
  have hb := B.bytes
  have hr := B.returns
  have hts : ∀ w ∈ GW, w.before _ s = true := fun w hw => atoms_spec (ws := mws yX0_number cX0_number 4 (some .int)) B.pre w (List.mem_cons_of_mem _ hw)
  have hown : s.vm.findClass RX0 = some m.cls := findClass_of_methodNamed B.named
  have hlocks := B.notSynchronized
  have hl := lv_entry ([.ref a_o, .int x1, .int x2]) (n := 4) (Nat.le_of_ble_eq_true rfl)
  rw [lg_entry_eq]
  generalize (lg_sl ([.ref a_o, .int x1, .int x2]) ++ List.replicate (4 - (lg_sl ([.ref a_o, .int x1, .int x2])).length) Slot.unset).toArray = ls at hl ⊢
  have hl : lv_has ls 4 [(0, .ref a_o), (1, .int x1), (2, .int x2)] := hl
  have S : CallFix p m c cX0_number 4 s _ GW RX0 := ⟨hx, hb, hml, hown, hts⟩
  unfold f_X0_number at h
  refine lv_iload_n hx hb dX0_number_0 rfl (lv_at hl 1 rfl) ?_
  refine lv_iconst (v := (5 : Int32)) hx hb dX0_number_1 (by decide) ?_
  refine lv_imul hx hb dX0_number_2 ?_
  refine lv_iload_n hx hb dX0_number_3 rfl (lv_at hl 2 rfl) ?_
  refine lv_iadd hx hb dX0_number_4 ?_
  refine lv_topi (fun y1 ey1 => ?_)
  have h := nm_use h ey1
  refine lv_istore_n (lv' := [(3, .int y1), (0, .ref a_o), (1, .int x1), (2, .int x2)]) hx hb dX0_number_5 rfl hl (by decide) rfl (fun ls hl => ?_)
  refine lv_iload_n hx hb dX0_number_6 rfl (lv_at hl 0 rfl) ?_
  refine lv_if_lt (tgt := 28) hx hb dX0_number_7 (by decide) (fun c2 => ?_) (fun c2 => ?_)
  · have h := it_t c2 h
    refine lv_iconst (v := (0 : Int32)) hx hb dX0_number_28 (by decide) ?_
    exact W.iret hx hb hr (fun t ht _ => ⟨congrArg (fun z => Outcome.returned (some (Value.int z))) (Option.some.inj h), ht⟩) (fun q hq => by cases hq) dX0_number_29
  · have h := it_f c2 h
    refine lv_iload_n hx hb dX0_number_10 rfl (lv_at hl 0 rfl) ?_
    refine lv_aload_n hx hb dX0_number_11 rfl (lv_at hl 1 rfl) ?_
    refine gfX0_1 hx hb hts hown hK hP 0 rfl wfX0_15 dX0_number_12 ?_
    refine al_ (w := (375 : Int32)) hx hb hK hP 1 rfl rfl dX0_number_15 ?_
    refine lv_icmp_ge (tgt := 28) hx hb dX0_number_16 (by decide) (fun c3 => ?_) (fun c3 => ?_)
    · have h := it_t c3 h
      refine lv_iconst (v := (0 : Int32)) hx hb dX0_number_28 (by decide) ?_
      exact W.iret hx hb hr (fun t ht _ => ⟨congrArg (fun z => Outcome.returned (some (Value.int z))) (Option.some.inj h), ht⟩) (fun q hq => by cases hq) dX0_number_29
    · have h := it_f c3 h
      refine lv_aload_n hx hb dX0_number_19 rfl (lv_at hl 1 rfl) ?_
      refine gfX0_1 hx hb hts hown hK hP 0 rfl wfX0_15 dX0_number_20 ?_
      refine lv_iload_n hx hb dX0_number_23 rfl (lv_at hl 0 rfl) ?_
      obtain ⟨hi5, h⟩ := rd_use h
      refine ia_ hx hb hK hP 1 rfl hi5 dX0_number_24 ?_
      refine lv_goto (tgt := 29) hx hb dX0_number_25 (by decide) ?_
      exact W.iret hx hb hr (fun t ht _ => ⟨congrArg (fun z => Outcome.returned (some (Value.int z))) (Option.some.inj h), ht⟩) (fun q hq => by cases hq) dX0_number_29
def f_X0_setNumber (o_size : Int32) (o_begun : Int32) (o_numbers : Ar) (x1 : Int32) : Option (Ar) := nm (((o_size * (5 : Int32)) + o_begun) - (1 : Int32)) (fun y1 => (if y1 < (0 : Int32) then some (o_numbers) else (if (375 : Int32) ≤ y1 then some (o_numbers) else wr o_numbers 375 y1 x1 (fun fv4 => some (fv4)))))
set_option maxHeartbeats 4000000 in
set_option maxRecDepth 100000 in
theorem c_X0_setNumber (l : Launch) (D : va_G) (cI cS : ClassId) (a_o : Nat) (a_o_numbers : Nat) (a_o_letters : Nat) (o_size : Int32) (o_wanted : Int32) (o_begun : Int32) (o_figures : Int32) (o_numbers : Ar) (x1 : Int32) (o_numbers' : Ar) (h : f_X0_setNumber o_size o_begun o_numbers x1 = some o_numbers') : wrM l D cI cS yX0_setNumber cX0_setNumber 3 none 0 0 [.ref a_o, .int x1] [(a_o, .inr (0, [.ref a_o_letters, .ref a_o_numbers, .int (o_size), .int (o_wanted), .int (o_begun), .int (o_figures)])), (a_o_numbers, .inl (cI, 375, .inl (o_numbers)))] [(a_o, .inr (0, [.ref a_o_letters, .ref a_o_numbers, .int (o_size), .int (o_wanted), .int (o_begun), .int (o_figures)])), (a_o_numbers, .inl (cI, 375, .inl (o_numbers')))] none := by
  refine Met.ofW (cc := cX0_setNumber) (maxL := 3) (ret := none) (by decide) rfl ?_
  intro p e s m args below meth c s₁ B hml hv
  obtain ⟨rfl, hP, hK, hD0⟩ := hv
  have hx := B.exec
  have hb := B.bytes
  have hr := B.returns
  have hts : ∀ w ∈ GW, w.before _ s = true := fun w hw => atoms_spec (ws := mws yX0_setNumber cX0_setNumber 3 none) B.pre w (List.mem_cons_of_mem _ hw)
  have hown : s.vm.findClass RX0 = some m.cls := findClass_of_methodNamed B.named
  have hlocks := B.notSynchronized
  have hD := inW_self hD0
  generalize hAe : inW [(a_o, .inr (0, [.ref a_o_letters, .ref a_o_numbers, .int (o_size), .int (o_wanted), .int (o_begun), .int (o_figures)])), (a_o_numbers, .inl (cI, 375, .inl (o_numbers)))] = A at hD ⊢
  have hS : va_S A s.heap s.heap [] := va_S.rf
  have hl := lv_entry ([.ref a_o, .int x1]) (n := 3) (Nat.le_of_ble_eq_true rfl)
  rw [lg_entry_eq]
  generalize (lg_sl ([.ref a_o, .int x1]) ++ List.replicate (3 - (lg_sl ([.ref a_o, .int x1])).length) Slot.unset).toArray = ls at hl ⊢
  have hl : lv_has ls 3 [(0, .ref a_o), (1, .int x1)] := hl
  have S : CallFix p m c cX0_setNumber 3 s _ GW RX0 := ⟨hx, hb, hml, hown, hts⟩
  unfold f_X0_setNumber at h
  refine lv_aload_n hx hb dX0_setNumber_0 rfl (lv_at hl 0 rfl) ?_
  refine gfX0_2 hx hb hts hown hK hP 0 rfl wfX0_18 dX0_setNumber_1 ?_
  refine lv_iconst (v := (5 : Int32)) hx hb dX0_setNumber_4 (by decide) ?_
  refine lv_imul hx hb dX0_setNumber_5 ?_
  refine lv_aload_n hx hb dX0_setNumber_6 rfl (lv_at hl 0 rfl) ?_
  refine gfX0_4 hx hb hts hown hK hP 0 rfl wfX0_54 dX0_setNumber_7 ?_
  refine lv_iadd hx hb dX0_setNumber_10 ?_
  refine lv_iconst (v := (1 : Int32)) hx hb dX0_setNumber_11 (by decide) ?_
  refine lv_isub hx hb dX0_setNumber_12 ?_
  refine lv_topi (fun y1 ey1 => ?_)
  have h := nm_use h ey1
  refine lv_istore_n (lv' := [(2, .int y1), (0, .ref a_o), (1, .int x1)]) hx hb dX0_setNumber_13 rfl hl (by decide) rfl (fun ls hl => ?_)
  refine lv_iload_n hx hb dX0_setNumber_14 rfl (lv_at hl 0 rfl) ?_
  refine lv_if_lt (tgt := 34) hx hb dX0_setNumber_15 (by decide) (fun c2 => ?_) (fun c2 => ?_)
  · have h := it_t c2 h
    cases h
    exact W.vret hx hb hr (fun t ht _ => ⟨rfl, by rw [ht]; exact hP, hS.F ht⟩) hS.2.2 dX0_setNumber_34
  · have h := it_f c2 h
    refine lv_iload_n hx hb dX0_setNumber_18 rfl (lv_at hl 0 rfl) ?_
    refine lv_aload_n hx hb dX0_setNumber_19 rfl (lv_at hl 1 rfl) ?_
    refine gfX0_1 hx hb hts hown hK hP 0 rfl wfX0_15 dX0_setNumber_20 ?_
    refine al_ (w := (375 : Int32)) hx hb hK hP 1 rfl rfl dX0_setNumber_23 ?_
    refine lv_icmp_ge (tgt := 34) hx hb dX0_setNumber_24 (by decide) (fun c3 => ?_) (fun c3 => ?_)
    · have h := it_t c3 h
      cases h
      exact W.vret hx hb hr (fun t ht _ => ⟨rfl, by rw [ht]; exact hP, hS.F ht⟩) hS.2.2 dX0_setNumber_34
    · have h := it_f c3 h
      refine lv_aload_n hx hb dX0_setNumber_27 rfl (lv_at hl 1 rfl) ?_
      refine gfX0_1 hx hb hts hown hK hP 0 rfl wfX0_15 dX0_setNumber_28 ?_
      refine lv_iload_n hx hb dX0_setNumber_31 rfl (lv_at hl 0 rfl) ?_
      refine lv_iload_n hx hb dX0_setNumber_32 rfl (lv_at hl 2 rfl) ?_
      obtain ⟨hi5, h⟩ := wr_use h
      refine is_ (ws' := [(a_o, .inr (0, [.ref a_o_letters, .ref a_o_numbers, .int (o_size), .int (o_wanted), .int (o_begun), .int (o_figures)])), (a_o_numbers, .inl (cI, 375, .inl ((upd o_numbers y1.toNatClampNeg x1))))]) hx hb hK hP hD hS 1 rfl rfl hi5 dX0_setNumber_33 (fun H locs hP hD hS => ?_)
      cases h
      exact W.vret hx hb hr (fun t ht _ => ⟨rfl, by rw [ht]; exact hP, hS.F ht⟩) hS.2.2 dX0_setNumber_34
def b_X0_takesFigure_40 (o_size : Int32) (x1 : Int32) (o_begun : Int32) (o_figures : Int32) (o_numbers : Ar) : Option (Bool × Int32 × Int32 × Ar) := (if o_figures = (0 : Int32) then nm (o_begun + (1 : Int32)) (fun y7 => bd1 (f_X0_setNumber o_size y7 o_numbers (x1 - (48 : Int32))) (fun w8 => nm (o_figures + (1 : Int32)) (fun y10 => some (true, y7, y10, w8)))) else bd1 (f_X0_number o_numbers o_size (o_begun - (1 : Int32))) (fun r2 => bd1 (f_X0_setNumber o_size o_begun o_numbers ((((10 : Int32) * r2) + x1) - (48 : Int32))) (fun w4 => nm (o_figures + (1 : Int32)) (fun y6 => some (true, o_begun, y6, w4)))))
def f_X0_takesFigure (o_size : Int32) (o_wanted : Int32) (o_begun : Int32) (o_figures : Int32) (o_numbers : Ar) (x1 : Int32) : Option (Bool × Int32 × Int32 × Ar) := (if x1 < (48 : Int32) then some (false, o_begun, o_figures, o_numbers) else (if (57 : Int32) < x1 then some (false, o_begun, o_figures, o_numbers) else (if o_figures = (2 : Int32) then some (false, o_begun, o_figures, o_numbers) else (if o_figures = (0 : Int32) then (if o_begun = o_wanted then some (false, o_begun, o_figures, o_numbers) else b_X0_takesFigure_40 o_size x1 o_begun o_figures o_numbers) else b_X0_takesFigure_40 o_size x1 o_begun o_figures o_numbers))))
set_option maxHeartbeats 4000000 in
set_option maxRecDepth 100000 in
theorem c_X0_takesFigure (l : Launch) (D : va_G) (cI cS : ClassId) (a_o : Nat) (a_o_numbers : Nat) (a_o_letters : Nat) (o_size : Int32) (o_wanted : Int32) (o_begun : Int32) (o_figures : Int32) (o_numbers : Ar) (x1 : Int32) (r0 : Bool) (o_begun' : Int32) (o_figures' : Int32) (o_numbers' : Ar) (h : f_X0_takesFigure o_size o_wanted o_begun o_figures o_numbers x1 = some (r0, o_begun', o_figures', o_numbers')) : wrM l D cI cS yX0_takesFigure cX0_takesFigure 2 (some .boolean) 1 23 [.ref a_o, .int x1] [(a_o, .inr (0, [.ref a_o_letters, .ref a_o_numbers, .int (o_size), .int (o_wanted), .int (o_begun), .int (o_figures)])), (a_o_numbers, .inl (cI, 375, .inl (o_numbers)))] [(a_o, .inr (0, [.ref a_o_letters, .ref a_o_numbers, .int (o_size), .int (o_wanted), .int (o_begun'), .int (o_figures')])), (a_o_numbers, .inl (cI, 375, .inl (o_numbers')))] (some (.int (b2i r0))) := by
  refine Met.ofW (cc := cX0_takesFigure) (maxL := 2) (ret := (some .boolean)) (by decide) rfl ?_
  intro p e s m args below meth c s₁ B hml hv
  obtain ⟨rfl, hP, hK, hD0⟩ := hv
  have hx := B.exec
  have hb := B.bytes
  have hr := B.returns
  have hts : ∀ w ∈ GW, w.before _ s = true := fun w hw => atoms_spec (ws := mws yX0_takesFigure cX0_takesFigure 2 (some .boolean)) B.pre w (List.mem_cons_of_mem _ hw)
  have hown : s.vm.findClass RX0 = some m.cls := findClass_of_methodNamed B.named
  have hlocks := B.notSynchronized
  have hD := inW_self hD0
  generalize hAe : inW [(a_o, .inr (0, [.ref a_o_letters, .ref a_o_numbers, .int (o_size), .int (o_wanted), .int (o_begun), .int (o_figures)])), (a_o_numbers, .inl (cI, 375, .inl (o_numbers)))] = A at hD ⊢
  have hS : va_S A s.heap s.heap [] := va_S.rf
  have hl := lv_entry ([.ref a_o, .int x1]) (n := 2) (Nat.le_of_ble_eq_true rfl)
  rw [lg_entry_eq]
  generalize (lg_sl ([.ref a_o, .int x1]) ++ List.replicate (2 - (lg_sl ([.ref a_o, .int x1])).length) Slot.unset).toArray = ls at hl ⊢
  have hl : lv_has ls 2 [(0, .ref a_o), (1, .int x1)] := hl
  have S : CallFix p m c cX0_takesFigure 2 s _ GW RX0 := ⟨hx, hb, hml, hown, hts⟩
  have L_40 : ∀ (o_begun : Int32) (o_figures : Int32) (o_numbers : Ar), b_X0_takesFigure_40 o_size x1 o_begun o_figures o_numbers = some (r0, o_begun', o_figures', o_numbers') → ∀ (H : Heap) (locs : List Loc), va_P D vwCl [(a_o, .inr (0, [.ref a_o_letters, .ref a_o_numbers, .int (o_size), .int (o_wanted), .int (o_begun), .int (o_figures)])), (a_o_numbers, .inl (cI, 375, .inl (o_numbers)))] H → va_D A [(a_o, .inr (0, [.ref a_o_letters, .ref a_o_numbers, .int (o_size), .int (o_wanted), .int (o_begun), .int (o_figures)])), (a_o_numbers, .inl (cI, 375, .inl (o_numbers)))] → va_S A s.heap H locs → ∀ (ls : Array Slot), lv_has ls 2 [(0, .ref a_o), (1, .int x1)] → W p l e (headSpec (mws yX0_takesFigure cX0_takesFigure 2 (some .boolean)) { frames := 1, cells := 0, slots := 0, locals := 23 }).room s m [.ref a_o, .int x1].toArray below meth c H locs 0 0 (MQ below (wrQ D A [(a_o, .inr (0, [.ref a_o_letters, .ref a_o_numbers, .int (o_size), .int (o_wanted), .int (o_begun'), .int (o_figures')])), (a_o_numbers, .inl (cI, 375, .inl (o_numbers')))] (some (.int (b2i r0)))) [.ref a_o, .int x1].toArray s 0 0 A) (F0 m 40 ls []) := by
    intro o_begun o_figures o_numbers h H locs hP hD hS ls hl
    unfold b_X0_takesFigure_40 at h
    refine lv_aload_n hx hb dX0_takesFigure_40 rfl (lv_at hl 0 rfl) ?_
    refine gfX0_5 hx hb hts hown hK hP 0 rfl wfX0_38 dX0_takesFigure_41 ?_
    refine lv_if_ne (tgt := 68) hx hb dX0_takesFigure_44 (by decide) (fun c1 => ?_) (fun c1 => ?_)
    · have h := it_f c1 h
      refine lv_aload_n hx hb dX0_takesFigure_68 rfl (lv_at hl 0 rfl) ?_
      refine lv_bipush (v := (10 : Int32)) hx hb dX0_takesFigure_69 (by decide) ?_
      refine lv_aload_n hx hb dX0_takesFigure_71 rfl (lv_at hl 0 rfl) ?_
      refine lv_aload_n hx hb dX0_takesFigure_72 rfl (lv_at hl 0 rfl) ?_
      refine gfX0_2 hx hb hts hown hK hP 0 rfl wfX0_18 dX0_takesFigure_73 ?_
      refine lv_aload_n hx hb dX0_takesFigure_76 rfl (lv_at hl 0 rfl) ?_
      refine gfX0_4 hx hb hts hown hK hP 0 rfl wfX0_54 dX0_takesFigure_77 ?_
      refine lv_iconst (v := (1 : Int32)) hx hb dX0_takesFigure_80 (by decide) ?_
      refine lv_isub hx hb dX0_takesFigure_81 ?_
      obtain ⟨r2, hc3, h⟩ := bd1_use h
      refine ro_V (As := [.int o_size, .int (o_begun - (1 : Int32))]) (rest := [.int (10 : Int32), .ref a_o]) S (c_X0_number l D cI cS a_o a_o_numbers a_o_letters o_size o_wanted o_begun o_figures o_numbers o_size (o_begun - (1 : Int32)) r2 hc3) (cwV1 hts cvX0_number wmX0_61 rfl rfl ⟨(Nat.le_of_ble_eq_true rfl), (Nat.le_of_ble_eq_true rfl)⟩) hK hP [0, 1] rfl 0 rfl rfl rfl rfl hl.1 rfl (Nat.le_of_ble_eq_true rfl) dX0_takesFigure_82 ⟨Nat.zero_le _, Nat.zero_le _⟩ rfl ?_
      refine lv_imul hx hb dX0_takesFigure_85 ?_
      refine lv_iload_n hx hb dX0_takesFigure_86 rfl (lv_at hl 1 rfl) ?_
      refine lv_iadd hx hb dX0_takesFigure_87 ?_
      refine lv_bipush (v := (48 : Int32)) hx hb dX0_takesFigure_88 (by decide) ?_
      refine lv_isub hx hb dX0_takesFigure_90 ?_
      obtain ⟨w4, hc5, h⟩ := bd1_use h
      refine wr_V (As := [.int ((((10 : Int32) * r2) + x1) - (48 : Int32))]) (rest := []) (ws' := [(a_o, .inr (0, [.ref a_o_letters, .ref a_o_numbers, .int (o_size), .int (o_wanted), .int (o_begun), .int (o_figures)])), (a_o_numbers, .inl (cI, 375, .inl (w4)))]) S (c_X0_setNumber l D cI cS a_o a_o_numbers a_o_letters o_size o_wanted o_begun o_figures o_numbers ((((10 : Int32) * r2) + x1) - (48 : Int32)) w4 hc5) (cwV1 hts cvX0_setNumber wmX0_57 rfl rfl ⟨(Nat.le_of_ble_eq_true rfl), (Nat.le_of_ble_eq_true rfl)⟩) hK hP hD hS [0, 1] rfl rfl [(true, 0), (true, 1)] rfl rfl rfl 0 rfl rfl rfl rfl hl.1 rfl (Nat.le_of_ble_eq_true rfl) dX0_takesFigure_91 ⟨Nat.zero_le _, Nat.zero_le _⟩ rfl (fun H locs hP hD hS => ?_)
      refine lv_aload_n hx hb dX0_takesFigure_94 rfl (lv_at hl 0 rfl) ?_
      refine lv_dup hx hb dX0_takesFigure_95 rfl ?_
      refine gfX0_5 hx hb hts hown hK hP 0 rfl wfX0_38 dX0_takesFigure_96 ?_
      refine lv_iconst (v := (1 : Int32)) hx hb dX0_takesFigure_99 (by decide) ?_
      refine lv_iadd hx hb dX0_takesFigure_100 ?_
      refine lv_topi (fun y6 ey6 => ?_)
      have h := nm_use h ey6
      refine pfX0_5 (ws' := [(a_o, .inr (0, [.ref a_o_letters, .ref a_o_numbers, .int (o_size), .int (o_wanted), .int (o_begun), .int (y6)])), (a_o_numbers, .inl (cI, 375, .inl (w4)))]) hx hb hts hown hK hP hD hS 0 rfl rfl wfX0_38 dX0_takesFigure_101 (fun H locs hP hD hS => ?_)
      refine lv_iconst (v := (1 : Int32)) hx hb dX0_takesFigure_104 (by decide) ?_
      cases h
      exact W.zret hx hb hr rfl (fun t ht _ => ⟨rfl, by rw [ht]; exact hP, hS.F ht⟩) hS.2.2 dX0_takesFigure_105
    · have h := it_t c1 h
      refine lv_aload_n hx hb dX0_takesFigure_47 rfl (lv_at hl 0 rfl) ?_
      refine lv_dup hx hb dX0_takesFigure_48 rfl ?_
      refine gfX0_4 hx hb hts hown hK hP 0 rfl wfX0_54 dX0_takesFigure_49 ?_
      refine lv_iconst (v := (1 : Int32)) hx hb dX0_takesFigure_52 (by decide) ?_
      refine lv_iadd hx hb dX0_takesFigure_53 ?_
      refine lv_topi (fun y7 ey7 => ?_)
      have h := nm_use h ey7
      refine pfX0_4 (ws' := [(a_o, .inr (0, [.ref a_o_letters, .ref a_o_numbers, .int (o_size), .int (o_wanted), .int (y7), .int (o_figures)])), (a_o_numbers, .inl (cI, 375, .inl (o_numbers)))]) hx hb hts hown hK hP hD hS 0 rfl rfl wfX0_54 dX0_takesFigure_54 (fun H locs hP hD hS => ?_)
      refine lv_aload_n hx hb dX0_takesFigure_57 rfl (lv_at hl 0 rfl) ?_
      refine lv_iload_n hx hb dX0_takesFigure_58 rfl (lv_at hl 1 rfl) ?_
      refine lv_bipush (v := (48 : Int32)) hx hb dX0_takesFigure_59 (by decide) ?_
      refine lv_isub hx hb dX0_takesFigure_61 ?_
      obtain ⟨w8, hc9, h⟩ := bd1_use h
      refine wr_V (As := [.int (x1 - (48 : Int32))]) (rest := []) (ws' := [(a_o, .inr (0, [.ref a_o_letters, .ref a_o_numbers, .int (o_size), .int (o_wanted), .int (y7), .int (o_figures)])), (a_o_numbers, .inl (cI, 375, .inl (w8)))]) S (c_X0_setNumber l D cI cS a_o a_o_numbers a_o_letters o_size o_wanted y7 o_figures o_numbers (x1 - (48 : Int32)) w8 hc9) (cwV1 hts cvX0_setNumber wmX0_57 rfl rfl ⟨(Nat.le_of_ble_eq_true rfl), (Nat.le_of_ble_eq_true rfl)⟩) hK hP hD hS [0, 1] rfl rfl [(true, 0), (true, 1)] rfl rfl rfl 0 rfl rfl rfl rfl hl.1 rfl (Nat.le_of_ble_eq_true rfl) dX0_takesFigure_62 ⟨Nat.zero_le _, Nat.zero_le _⟩ rfl (fun H locs hP hD hS => ?_)
      refine lv_goto (tgt := 94) hx hb dX0_takesFigure_65 (by decide) ?_
      refine lv_aload_n hx hb dX0_takesFigure_94 rfl (lv_at hl 0 rfl) ?_
      refine lv_dup hx hb dX0_takesFigure_95 rfl ?_
      refine gfX0_5 hx hb hts hown hK hP 0 rfl wfX0_38 dX0_takesFigure_96 ?_
      refine lv_iconst (v := (1 : Int32)) hx hb dX0_takesFigure_99 (by decide) ?_
      refine lv_iadd hx hb dX0_takesFigure_100 ?_
      refine lv_topi (fun y10 ey10 => ?_)
      have h := nm_use h ey10
      refine pfX0_5 (ws' := [(a_o, .inr (0, [.ref a_o_letters, .ref a_o_numbers, .int (o_size), .int (o_wanted), .int (y7), .int (y10)])), (a_o_numbers, .inl (cI, 375, .inl (w8)))]) hx hb hts hown hK hP hD hS 0 rfl rfl wfX0_38 dX0_takesFigure_101 (fun H locs hP hD hS => ?_)
      refine lv_iconst (v := (1 : Int32)) hx hb dX0_takesFigure_104 (by decide) ?_
      cases h
      exact W.zret hx hb hr rfl (fun t ht _ => ⟨rfl, by rw [ht]; exact hP, hS.F ht⟩) hS.2.2 dX0_takesFigure_105
  unfold f_X0_takesFigure at h
  refine lv_iload_n hx hb dX0_takesFigure_0 rfl (lv_at hl 1 rfl) ?_
  refine lv_bipush (v := (48 : Int32)) hx hb dX0_takesFigure_1 (by decide) ?_
  refine lv_icmp_lt (tgt := 38) hx hb dX0_takesFigure_3 (by decide) (fun c11 => ?_) (fun c11 => ?_)
  · have h := it_t c11 h
    refine lv_iconst (v := (0 : Int32)) hx hb dX0_takesFigure_38 (by decide) ?_
    cases h
    exact W.zret hx hb hr rfl (fun t ht _ => ⟨rfl, by rw [ht]; exact hP, hS.F ht⟩) hS.2.2 dX0_takesFigure_39
  · have h := it_f c11 h
    refine lv_iload_n hx hb dX0_takesFigure_6 rfl (lv_at hl 1 rfl) ?_
    refine lv_bipush (v := (57 : Int32)) hx hb dX0_takesFigure_7 (by decide) ?_
    refine lv_icmp_gt (tgt := 38) hx hb dX0_takesFigure_9 (by decide) (fun c12 => ?_) (fun c12 => ?_)
    · have h := it_t c12 h
      refine lv_iconst (v := (0 : Int32)) hx hb dX0_takesFigure_38 (by decide) ?_
      cases h
      exact W.zret hx hb hr rfl (fun t ht _ => ⟨rfl, by rw [ht]; exact hP, hS.F ht⟩) hS.2.2 dX0_takesFigure_39
    · have h := it_f c12 h
      refine lv_aload_n hx hb dX0_takesFigure_12 rfl (lv_at hl 0 rfl) ?_
      refine gfX0_5 hx hb hts hown hK hP 0 rfl wfX0_38 dX0_takesFigure_13 ?_
      refine lv_iconst (v := (2 : Int32)) hx hb dX0_takesFigure_16 (by decide) ?_
      refine lv_icmp_eq (tgt := 38) hx hb dX0_takesFigure_17 (by decide) (fun c13 => ?_) (fun c13 => ?_)
      · have h := it_t c13 h
        refine lv_iconst (v := (0 : Int32)) hx hb dX0_takesFigure_38 (by decide) ?_
        cases h
        exact W.zret hx hb hr rfl (fun t ht _ => ⟨rfl, by rw [ht]; exact hP, hS.F ht⟩) hS.2.2 dX0_takesFigure_39
      · have h := it_f c13 h
        refine lv_aload_n hx hb dX0_takesFigure_20 rfl (lv_at hl 0 rfl) ?_
        refine gfX0_5 hx hb hts hown hK hP 0 rfl wfX0_38 dX0_takesFigure_21 ?_
        refine lv_if_ne (tgt := 40) hx hb dX0_takesFigure_24 (by decide) (fun c14 => ?_) (fun c14 => ?_)
        · have h := it_f c14 h
          exact L_40 _ _ _ h _ _ hP hD hS _ (lv_sub hl [0, 1] rfl)
        · have h := it_t c14 h
          refine lv_aload_n hx hb dX0_takesFigure_27 rfl (lv_at hl 0 rfl) ?_
          refine gfX0_4 hx hb hts hown hK hP 0 rfl wfX0_54 dX0_takesFigure_28 ?_
          refine lv_aload_n hx hb dX0_takesFigure_31 rfl (lv_at hl 0 rfl) ?_
          refine gfX0_3 hx hb hts hown hK hP 0 rfl wfX0_22 dX0_takesFigure_32 ?_
          refine lv_icmp_ne (tgt := 40) hx hb dX0_takesFigure_35 (by decide) (fun c15 => ?_) (fun c15 => ?_)
          · have h := it_f c15 h
            exact L_40 _ _ _ h _ _ hP hD hS _ (lv_sub hl [0, 1] rfl)
          · have h := it_t c15 h
            refine lv_iconst (v := (0 : Int32)) hx hb dX0_takesFigure_38 (by decide) ?_
            cases h
            exact W.zret hx hb hr rfl (fun t ht _ => ⟨rfl, by rw [ht]; exact hP, hS.F ht⟩) hS.2.2 dX0_takesFigure_39
def f_X0_endsOrder (o_size : Int32) (o_wanted : Int32) (o_begun : Int32) : Option (Bool × Int32 × Int32) := (if o_wanted ≤ o_begun then nm (o_size + (1 : Int32)) (fun y2 => some (true, y2, (-1 : Int32))) else some (false, o_size, o_wanted))
set_option maxHeartbeats 4000000 in
set_option maxRecDepth 100000 in
theorem c_X0_endsOrder (l : Launch) (D : va_G) (cI cS : ClassId) (a_o : Nat) (a_o_letters : Nat) (a_o_numbers : Nat) (o_size : Int32) (o_wanted : Int32) (o_begun : Int32) (o_figures : Int32) (r0 : Bool) (o_size' : Int32) (o_wanted' : Int32) (h : f_X0_endsOrder o_size o_wanted o_begun = some (r0, o_size', o_wanted')) : wrM l D cI cS yX0_endsOrder cX0_endsOrder 1 (some .boolean) 0 0 [.ref a_o] [(a_o, .inr (0, [.ref a_o_letters, .ref a_o_numbers, .int (o_size), .int (o_wanted), .int (o_begun), .int (o_figures)]))] [(a_o, .inr (0, [.ref a_o_letters, .ref a_o_numbers, .int (o_size'), .int (o_wanted'), .int (o_begun), .int (o_figures)]))] (some (.int (b2i r0))) := by
  refine Met.ofW (cc := cX0_endsOrder) (maxL := 1) (ret := (some .boolean)) (by decide) rfl ?_
  intro p e s m args below meth c s₁ B hml hv
  obtain ⟨rfl, hP, hK, hD0⟩ := hv
  have hx := B.exec
  have hb := B.bytes
  have hr := B.returns
  have hts : ∀ w ∈ GW, w.before _ s = true := fun w hw => atoms_spec (ws := mws yX0_endsOrder cX0_endsOrder 1 (some .boolean)) B.pre w (List.mem_cons_of_mem _ hw)
  have hown : s.vm.findClass RX0 = some m.cls := findClass_of_methodNamed B.named
  have hlocks := B.notSynchronized
  have hD := inW_self hD0
  generalize hAe : inW [(a_o, .inr (0, [.ref a_o_letters, .ref a_o_numbers, .int (o_size), .int (o_wanted), .int (o_begun), .int (o_figures)]))] = A at hD ⊢
  have hS : va_S A s.heap s.heap [] := va_S.rf
  have hl := lv_entry ([.ref a_o]) (n := 1) (Nat.le_of_ble_eq_true rfl)
  rw [lg_entry_eq]
  generalize (lg_sl ([.ref a_o]) ++ List.replicate (1 - (lg_sl ([.ref a_o])).length) Slot.unset).toArray = ls at hl ⊢
  have hl : lv_has ls 1 [(0, .ref a_o)] := hl
  have S : CallFix p m c cX0_endsOrder 1 s _ GW RX0 := ⟨hx, hb, hml, hown, hts⟩
  unfold f_X0_endsOrder at h
  refine lv_aload_n hx hb dX0_endsOrder_0 rfl (lv_at hl 0 rfl) ?_
  refine gfX0_4 hx hb hts hown hK hP 0 rfl wfX0_54 dX0_endsOrder_1 ?_
  refine lv_aload_n hx hb dX0_endsOrder_4 rfl (lv_at hl 0 rfl) ?_
  refine gfX0_3 hx hb hts hown hK hP 0 rfl wfX0_22 dX0_endsOrder_5 ?_
  refine lv_icmp_ge (tgt := 13) hx hb dX0_endsOrder_8 (by decide) (fun c1 => ?_) (fun c1 => ?_)
  · have h := it_t c1 h
    refine lv_aload_n hx hb dX0_endsOrder_13 rfl (lv_at hl 0 rfl) ?_
    refine lv_dup hx hb dX0_endsOrder_14 rfl ?_
    refine gfX0_2 hx hb hts hown hK hP 0 rfl wfX0_18 dX0_endsOrder_15 ?_
    refine lv_iconst (v := (1 : Int32)) hx hb dX0_endsOrder_18 (by decide) ?_
    refine lv_iadd hx hb dX0_endsOrder_19 ?_
    refine lv_topi (fun y2 ey2 => ?_)
    have h := nm_use h ey2
    refine pfX0_2 (ws' := [(a_o, .inr (0, [.ref a_o_letters, .ref a_o_numbers, .int (y2), .int (o_wanted), .int (o_begun), .int (o_figures)]))]) hx hb hts hown hK hP hD hS 0 rfl rfl wfX0_18 dX0_endsOrder_20 (fun H locs hP hD hS => ?_)
    refine lv_aload_n hx hb dX0_endsOrder_23 rfl (lv_at hl 0 rfl) ?_
    refine lv_iconst (v := (-1 : Int32)) hx hb dX0_endsOrder_24 (by decide) ?_
    refine pfX0_3 (ws' := [(a_o, .inr (0, [.ref a_o_letters, .ref a_o_numbers, .int (y2), .int ((-1 : Int32)), .int (o_begun), .int (o_figures)]))]) hx hb hts hown hK hP hD hS 0 rfl rfl wfX0_22 dX0_endsOrder_25 (fun H locs hP hD hS => ?_)
    refine lv_iconst (v := (1 : Int32)) hx hb dX0_endsOrder_28 (by decide) ?_
    cases h
    exact W.zret hx hb hr rfl (fun t ht _ => ⟨rfl, by rw [ht]; exact hP, hS.F ht⟩) hS.2.2 dX0_endsOrder_29
  · have h := it_f c1 h
    refine lv_iconst (v := (0 : Int32)) hx hb dX0_endsOrder_11 (by decide) ?_
    cases h
    exact W.zret hx hb hr rfl (fun t ht _ => ⟨rfl, by rw [ht]; exact hP, hS.F ht⟩) hS.2.2 dX0_endsOrder_12
def f_X0_opensOrder (o_size : Int32) (o_wanted : Int32) (o_begun : Int32) (o_figures : Int32) (o_letters : Ar) (x1 : Int32) : Option (Bool × Int32 × Int32 × Int32 × Ar) := bd1 (f_X0_numbersOf x1) (fun r1 => (if r1 = (-1 : Int32) then some (false, r1, o_begun, o_figures, o_letters) else (if o_size < (0 : Int32) then some (false, r1, o_begun, o_figures, o_letters) else (if o_size < (75 : Int32) then wr o_letters 75 o_size x1 (fun fv6 => some (true, r1, (0 : Int32), (0 : Int32), fv6)) else some (false, r1, o_begun, o_figures, o_letters)))))
set_option maxHeartbeats 4000000 in
set_option maxRecDepth 100000 in
theorem c_X0_opensOrder (l : Launch) (D : va_G) (cI cS : ClassId) (a_o : Nat) (a_o_letters : Nat) (a_o_numbers : Nat) (o_size : Int32) (o_wanted : Int32) (o_begun : Int32) (o_figures : Int32) (o_letters : Ar) (x1 : Int32) (r0 : Bool) (o_wanted' : Int32) (o_begun' : Int32) (o_figures' : Int32) (o_letters' : Ar) (h : f_X0_opensOrder o_size o_wanted o_begun o_figures o_letters x1 = some (r0, o_wanted', o_begun', o_figures', o_letters')) : wrM l D cI cS yX0_opensOrder cX0_opensOrder 2 (some .boolean) 1 20 [.ref a_o, .int x1] [(a_o, .inr (0, [.ref a_o_letters, .ref a_o_numbers, .int (o_size), .int (o_wanted), .int (o_begun), .int (o_figures)])), (a_o_letters, .inl (cI, 75, .inl (o_letters)))] [(a_o, .inr (0, [.ref a_o_letters, .ref a_o_numbers, .int (o_size), .int (o_wanted'), .int (o_begun'), .int (o_figures')])), (a_o_letters, .inl (cI, 75, .inl (o_letters')))] (some (.int (b2i r0))) := by
  refine Met.ofW (cc := cX0_opensOrder) (maxL := 2) (ret := (some .boolean)) (by decide) rfl ?_
  intro p e s m args below meth c s₁ B hml hv
  obtain ⟨rfl, hP, hK, hD0⟩ := hv
  have hx := B.exec
  have hb := B.bytes
  have hr := B.returns
  have hts : ∀ w ∈ GW, w.before _ s = true := fun w hw => atoms_spec (ws := mws yX0_opensOrder cX0_opensOrder 2 (some .boolean)) B.pre w (List.mem_cons_of_mem _ hw)
  have hown : s.vm.findClass RX0 = some m.cls := findClass_of_methodNamed B.named
  have hlocks := B.notSynchronized
  have hD := inW_self hD0
  generalize hAe : inW [(a_o, .inr (0, [.ref a_o_letters, .ref a_o_numbers, .int (o_size), .int (o_wanted), .int (o_begun), .int (o_figures)])), (a_o_letters, .inl (cI, 75, .inl (o_letters)))] = A at hD ⊢
  have hS : va_S A s.heap s.heap [] := va_S.rf
  have hl := lv_entry ([.ref a_o, .int x1]) (n := 2) (Nat.le_of_ble_eq_true rfl)
  rw [lg_entry_eq]
  generalize (lg_sl ([.ref a_o, .int x1]) ++ List.replicate (2 - (lg_sl ([.ref a_o, .int x1])).length) Slot.unset).toArray = ls at hl ⊢
  have hl : lv_has ls 2 [(0, .ref a_o), (1, .int x1)] := hl
  have S : CallFix p m c cX0_opensOrder 2 s _ GW RX0 := ⟨hx, hb, hml, hown, hts⟩
  unfold f_X0_opensOrder at h
  refine lv_aload_n hx hb dX0_opensOrder_0 rfl (lv_at hl 0 rfl) ?_
  refine lv_iload_n hx hb dX0_opensOrder_1 rfl (lv_at hl 1 rfl) ?_
  obtain ⟨r1, hc2, h⟩ := bd1_use h
  refine ro_S (As := [.int x1]) (rest := [.ref a_o]) S (c_X0_numbersOf l D cI cS x1 r1 hc2) (cwS1 hts csX0_numbersOf wmX0_51 rfl rfl ⟨(Nat.le_of_ble_eq_true rfl), (Nat.le_of_ble_eq_true rfl)⟩) hK hP [] rfl rfl hl.1 rfl (Nat.le_of_ble_eq_true rfl) dX0_opensOrder_2 ⟨Nat.zero_le _, Nat.zero_le _⟩ rfl ?_
  refine pfX0_3 (ws' := [(a_o, .inr (0, [.ref a_o_letters, .ref a_o_numbers, .int (o_size), .int (r1), .int (o_begun), .int (o_figures)])), (a_o_letters, .inl (cI, 75, .inl (o_letters)))]) hx hb hts hown hK hP hD hS 0 rfl rfl wfX0_22 dX0_opensOrder_5 (fun H locs hP hD hS => ?_)
  refine lv_aload_n hx hb dX0_opensOrder_8 rfl (lv_at hl 0 rfl) ?_
  refine gfX0_3 hx hb hts hown hK hP 0 rfl wfX0_22 dX0_opensOrder_9 ?_
  refine lv_iconst (v := (-1 : Int32)) hx hb dX0_opensOrder_12 (by decide) ?_
  refine lv_icmp_eq (tgt := 35) hx hb dX0_opensOrder_13 (by decide) (fun c3 => ?_) (fun c3 => ?_)
  · have h := it_t c3 h
    refine lv_iconst (v := (0 : Int32)) hx hb dX0_opensOrder_35 (by decide) ?_
    cases h
    exact W.zret hx hb hr rfl (fun t ht _ => ⟨rfl, by rw [ht]; exact hP, hS.F ht⟩) hS.2.2 dX0_opensOrder_36
  · have h := it_f c3 h
    refine lv_aload_n hx hb dX0_opensOrder_16 rfl (lv_at hl 0 rfl) ?_
    refine gfX0_2 hx hb hts hown hK hP 0 rfl wfX0_18 dX0_opensOrder_17 ?_
    refine lv_if_lt (tgt := 35) hx hb dX0_opensOrder_20 (by decide) (fun c4 => ?_) (fun c4 => ?_)
    · have h := it_t c4 h
      refine lv_iconst (v := (0 : Int32)) hx hb dX0_opensOrder_35 (by decide) ?_
      cases h
      exact W.zret hx hb hr rfl (fun t ht _ => ⟨rfl, by rw [ht]; exact hP, hS.F ht⟩) hS.2.2 dX0_opensOrder_36
    · have h := it_f c4 h
      refine lv_aload_n hx hb dX0_opensOrder_23 rfl (lv_at hl 0 rfl) ?_
      refine gfX0_2 hx hb hts hown hK hP 0 rfl wfX0_18 dX0_opensOrder_24 ?_
      refine lv_aload_n hx hb dX0_opensOrder_27 rfl (lv_at hl 0 rfl) ?_
      refine gfX0_0 hx hb hts hown hK hP 0 rfl wfX0_9 dX0_opensOrder_28 ?_
      refine al_ (w := (75 : Int32)) hx hb hK hP 1 rfl rfl dX0_opensOrder_31 ?_
      refine lv_icmp_lt (tgt := 37) hx hb dX0_opensOrder_32 (by decide) (fun c5 => ?_) (fun c5 => ?_)
      · have h := it_t c5 h
        refine lv_aload_n hx hb dX0_opensOrder_37 rfl (lv_at hl 0 rfl) ?_
        refine gfX0_0 hx hb hts hown hK hP 0 rfl wfX0_9 dX0_opensOrder_38 ?_
        refine lv_aload_n hx hb dX0_opensOrder_41 rfl (lv_at hl 0 rfl) ?_
        refine gfX0_2 hx hb hts hown hK hP 0 rfl wfX0_18 dX0_opensOrder_42 ?_
        refine lv_iload_n hx hb dX0_opensOrder_45 rfl (lv_at hl 1 rfl) ?_
        obtain ⟨hi7, h⟩ := wr_use h
        refine is_ (ws' := [(a_o, .inr (0, [.ref a_o_letters, .ref a_o_numbers, .int (o_size), .int (r1), .int (o_begun), .int (o_figures)])), (a_o_letters, .inl (cI, 75, .inl ((upd o_letters o_size.toNatClampNeg x1))))]) hx hb hK hP hD hS 1 rfl rfl hi7 dX0_opensOrder_46 (fun H locs hP hD hS => ?_)
        refine lv_aload_n hx hb dX0_opensOrder_47 rfl (lv_at hl 0 rfl) ?_
        refine lv_iconst (v := (0 : Int32)) hx hb dX0_opensOrder_48 (by decide) ?_
        refine pfX0_4 (ws' := [(a_o, .inr (0, [.ref a_o_letters, .ref a_o_numbers, .int (o_size), .int (r1), .int ((0 : Int32)), .int (o_figures)])), (a_o_letters, .inl (cI, 75, .inl ((upd o_letters o_size.toNatClampNeg x1))))]) hx hb hts hown hK hP hD hS 0 rfl rfl wfX0_54 dX0_opensOrder_49 (fun H locs hP hD hS => ?_)
        refine lv_aload_n hx hb dX0_opensOrder_52 rfl (lv_at hl 0 rfl) ?_
        refine lv_iconst (v := (0 : Int32)) hx hb dX0_opensOrder_53 (by decide) ?_
        refine pfX0_5 (ws' := [(a_o, .inr (0, [.ref a_o_letters, .ref a_o_numbers, .int (o_size), .int (r1), .int ((0 : Int32)), .int ((0 : Int32))])), (a_o_letters, .inl (cI, 75, .inl ((upd o_letters o_size.toNatClampNeg x1))))]) hx hb hts hown hK hP hD hS 0 rfl rfl wfX0_38 dX0_opensOrder_54 (fun H locs hP hD hS => ?_)
        refine lv_iconst (v := (1 : Int32)) hx hb dX0_opensOrder_57 (by decide) ?_
        cases h
        exact W.zret hx hb hr rfl (fun t ht _ => ⟨rfl, by rw [ht]; exact hP, hS.F ht⟩) hS.2.2 dX0_opensOrder_58
      · have h := it_f c5 h
        refine lv_iconst (v := (0 : Int32)) hx hb dX0_opensOrder_35 (by decide) ?_
        cases h
        exact W.zret hx hb hr rfl (fun t ht _ => ⟨rfl, by rw [ht]; exact hP, hS.F ht⟩) hS.2.2 dX0_opensOrder_36
def f_X0_takes (o_size : Int32) (o_wanted : Int32) (o_begun : Int32) (o_figures : Int32) (o_letters : Ar) (o_numbers : Ar) (x1 : Int32) : Option (Bool × Int32 × Int32 × Int32 × Int32 × Ar × Ar) := (if x1 = (32 : Int32) then some (true, o_size, o_wanted, o_begun, (0 : Int32), o_letters, o_numbers) else (if o_wanted = (-1 : Int32) then bd5 (f_X0_opensOrder o_size o_wanted o_begun o_figures o_letters x1) (fun r13 w14 w15 w16 w17 => some (r13, o_size, w14, w15, w16, w17, o_numbers)) else (if x1 = (59 : Int32) then bd3 (f_X0_endsOrder o_size o_wanted o_begun) (fun r9 w10 w11 => some (r9, w10, w11, o_begun, o_figures, o_letters, o_numbers)) else bd4 (f_X0_takesFigure o_size o_wanted o_begun o_figures o_numbers x1) (fun r4 w5 w6 w7 => some (r4, o_size, o_wanted, w5, w6, o_letters, w7)))))
set_option maxHeartbeats 4000000 in
set_option maxRecDepth 100000 in
theorem c_X0_takes (l : Launch) (D : va_G) (cI cS : ClassId) (a_o : Nat) (a_o_letters : Nat) (a_o_numbers : Nat) (o_size : Int32) (o_wanted : Int32) (o_begun : Int32) (o_figures : Int32) (o_letters : Ar) (o_numbers : Ar) (x1 : Int32) (r0 : Bool) (o_size' : Int32) (o_wanted' : Int32) (o_begun' : Int32) (o_figures' : Int32) (o_letters' : Ar) (o_numbers' : Ar) (h : f_X0_takes o_size o_wanted o_begun o_figures o_letters o_numbers x1 = some (r0, o_size', o_wanted', o_begun', o_figures', o_letters', o_numbers')) : wrM l D cI cS yX0_takes cX0_takes 2 (some .boolean) 2 44 [.ref a_o, .int x1] [(a_o, .inr (0, [.ref a_o_letters, .ref a_o_numbers, .int (o_size), .int (o_wanted), .int (o_begun), .int (o_figures)])), (a_o_letters, .inl (cI, 75, .inl (o_letters))), (a_o_numbers, .inl (cI, 375, .inl (o_numbers)))] [(a_o, .inr (0, [.ref a_o_letters, .ref a_o_numbers, .int (o_size'), .int (o_wanted'), .int (o_begun'), .int (o_figures')])), (a_o_letters, .inl (cI, 75, .inl (o_letters'))), (a_o_numbers, .inl (cI, 375, .inl (o_numbers')))] (some (.int (b2i r0))) := by
  refine Met.ofW (cc := cX0_takes) (maxL := 2) (ret := (some .boolean)) (by decide) rfl ?_
  intro p e s m args below meth c s₁ B hml hv
  obtain ⟨rfl, hP, hK, hD0⟩ := hv
  have hx := B.exec
  have hb := B.bytes
  have hr := B.returns
  have hts : ∀ w ∈ GW, w.before _ s = true := fun w hw => atoms_spec (ws := mws yX0_takes cX0_takes 2 (some .boolean)) B.pre w (List.mem_cons_of_mem _ hw)
  have hown : s.vm.findClass RX0 = some m.cls := findClass_of_methodNamed B.named
  have hlocks := B.notSynchronized
  have hD := inW_self hD0
  generalize hAe : inW [(a_o, .inr (0, [.ref a_o_letters, .ref a_o_numbers, .int (o_size), .int (o_wanted), .int (o_begun), .int (o_figures)])), (a_o_letters, .inl (cI, 75, .inl (o_letters))), (a_o_numbers, .inl (cI, 375, .inl (o_numbers)))] = A at hD ⊢
  have hS : va_S A s.heap s.heap [] := va_S.rf
  have hl := lv_entry ([.ref a_o, .int x1]) (n := 2) (Nat.le_of_ble_eq_true rfl)
  rw [lg_entry_eq]
  generalize (lg_sl ([.ref a_o, .int x1]) ++ List.replicate (2 - (lg_sl ([.ref a_o, .int x1])).length) Slot.unset).toArray = ls at hl ⊢
  have hl : lv_has ls 2 [(0, .ref a_o), (1, .int x1)] := hl
  have S : CallFix p m c cX0_takes 2 s _ GW RX0 := ⟨hx, hb, hml, hown, hts⟩
  unfold f_X0_takes at h
  refine lv_iload_n hx hb dX0_takes_0 rfl (lv_at hl 1 rfl) ?_
  refine lv_bipush (v := (32 : Int32)) hx hb dX0_takes_1 (by decide) ?_
  refine lv_icmp_ne (tgt := 13) hx hb dX0_takes_3 (by decide) (fun c1 => ?_) (fun c1 => ?_)
  · have h := it_f c1 h
    refine lv_aload_n hx hb dX0_takes_13 rfl (lv_at hl 0 rfl) ?_
    refine gfX0_3 hx hb hts hown hK hP 0 rfl wfX0_22 dX0_takes_14 ?_
    refine lv_iconst (v := (-1 : Int32)) hx hb dX0_takes_17 (by decide) ?_
    refine lv_icmp_ne (tgt := 27) hx hb dX0_takes_18 (by decide) (fun c2 => ?_) (fun c2 => ?_)
    · have h := it_f c2 h
      refine lv_iload_n hx hb dX0_takes_27 rfl (lv_at hl 1 rfl) ?_
      refine lv_bipush (v := (59 : Int32)) hx hb dX0_takes_28 (by decide) ?_
      refine lv_icmp_ne (tgt := 40) hx hb dX0_takes_30 (by decide) (fun c3 => ?_) (fun c3 => ?_)
      · have h := it_f c3 h
        refine lv_aload_n hx hb dX0_takes_40 rfl (lv_at hl 0 rfl) ?_
        refine lv_iload_n hx hb dX0_takes_41 rfl (lv_at hl 1 rfl) ?_
        obtain ⟨r4, w5, w6, w7, hc8, h⟩ := bd4_use h
        refine wr_V (As := [.int x1]) (rest := []) (ws' := [(a_o, .inr (0, [.ref a_o_letters, .ref a_o_numbers, .int (o_size), .int (o_wanted), .int (w5), .int (w6)])), (a_o_letters, .inl (cI, 75, .inl (o_letters))), (a_o_numbers, .inl (cI, 375, .inl (w7)))]) S (c_X0_takesFigure l D cI cS a_o a_o_numbers a_o_letters o_size o_wanted o_begun o_figures o_numbers x1 r4 w5 w6 w7 hc8) (cwV1 hts cvX0_takesFigure wmX0_48 rfl rfl ⟨(Nat.le_of_ble_eq_true rfl), (Nat.le_of_ble_eq_true rfl)⟩) hK hP hD hS [0, 2] rfl rfl [(true, 0), (false, 1), (true, 1)] rfl rfl rfl 0 rfl rfl rfl rfl hl.1 rfl (Nat.le_of_ble_eq_true rfl) dX0_takes_42 ⟨Nat.zero_le _, Nat.zero_le _⟩ rfl (fun H locs hP hD hS => ?_)
        cases h
        exact W.zret hx hb hr (b2i_nar _) (fun t ht _ => ⟨rfl, by rw [ht]; exact hP, hS.F ht⟩) hS.2.2 dX0_takes_45
      · have h := it_t c3 h
        refine lv_aload_n hx hb dX0_takes_33 rfl (lv_at hl 0 rfl) ?_
        obtain ⟨r9, w10, w11, hc12, h⟩ := bd3_use h
        refine wr_V (As := []) (rest := []) (ws' := [(a_o, .inr (0, [.ref a_o_letters, .ref a_o_numbers, .int (w10), .int (w11), .int (o_begun), .int (o_figures)])), (a_o_letters, .inl (cI, 75, .inl (o_letters))), (a_o_numbers, .inl (cI, 375, .inl (o_numbers)))]) S (c_X0_endsOrder l D cI cS a_o a_o_letters a_o_numbers o_size o_wanted o_begun o_figures r9 w10 w11 hc12) (cwV1 hts cvX0_endsOrder wmX0_44 rfl rfl ⟨(Nat.le_of_ble_eq_true rfl), (Nat.le_of_ble_eq_true rfl)⟩) hK hP hD hS [0] rfl rfl [(true, 0), (false, 1), (false, 2)] rfl rfl rfl 0 rfl rfl rfl rfl hl.1 rfl (Nat.le_of_ble_eq_true rfl) dX0_takes_34 ⟨Nat.zero_le _, Nat.zero_le _⟩ rfl (fun H locs hP hD hS => ?_)
        refine lv_goto (tgt := 45) hx hb dX0_takes_37 (by decide) ?_
        cases h
        exact W.zret hx hb hr (b2i_nar _) (fun t ht _ => ⟨rfl, by rw [ht]; exact hP, hS.F ht⟩) hS.2.2 dX0_takes_45
    · have h := it_t c2 h
      refine lv_aload_n hx hb dX0_takes_21 rfl (lv_at hl 0 rfl) ?_
      refine lv_iload_n hx hb dX0_takes_22 rfl (lv_at hl 1 rfl) ?_
      obtain ⟨r13, w14, w15, w16, w17, hc18, h⟩ := bd5_use h
      refine wr_V (As := [.int x1]) (rest := []) (ws' := [(a_o, .inr (0, [.ref a_o_letters, .ref a_o_numbers, .int (o_size), .int (w14), .int (w15), .int (w16)])), (a_o_letters, .inl (cI, 75, .inl (w17))), (a_o_numbers, .inl (cI, 375, .inl (o_numbers)))]) S (c_X0_opensOrder l D cI cS a_o a_o_letters a_o_numbers o_size o_wanted o_begun o_figures o_letters x1 r13 w14 w15 w16 w17 hc18) (cwV1 hts cvX0_opensOrder wmX0_41 rfl rfl ⟨(Nat.le_of_ble_eq_true rfl), (Nat.le_of_ble_eq_true rfl)⟩) hK hP hD hS [0, 1] rfl rfl [(true, 0), (true, 1), (false, 2)] rfl rfl rfl 0 rfl rfl rfl rfl hl.1 rfl (Nat.le_of_ble_eq_true rfl) dX0_takes_23 ⟨Nat.zero_le _, Nat.zero_le _⟩ rfl (fun H locs hP hD hS => ?_)
      cases h
      exact W.zret hx hb hr (b2i_nar _) (fun t ht _ => ⟨rfl, by rw [ht]; exact hP, hS.F ht⟩) hS.2.2 dX0_takes_26
  · have h := it_t c1 h
    refine lv_aload_n hx hb dX0_takes_6 rfl (lv_at hl 0 rfl) ?_
    refine lv_iconst (v := (0 : Int32)) hx hb dX0_takes_7 (by decide) ?_
    refine pfX0_5 (ws' := [(a_o, .inr (0, [.ref a_o_letters, .ref a_o_numbers, .int (o_size), .int (o_wanted), .int (o_begun), .int ((0 : Int32))])), (a_o_letters, .inl (cI, 75, .inl (o_letters))), (a_o_numbers, .inl (cI, 375, .inl (o_numbers)))]) hx hb hts hown hK hP hD hS 0 rfl rfl wfX0_38 dX0_takes_8 (fun H locs hP hD hS => ?_)
    refine lv_iconst (v := (1 : Int32)) hx hb dX0_takes_11 (by decide) ?_
    cases h
    exact W.zret hx hb hr rfl (fun t ht _ => ⟨rfl, by rw [ht]; exact hP, hS.F ht⟩) hS.2.2 dX0_takes_12
def b_X0_read_12 (p1_length : Int32) (p1_bytes : Ar) : Nat → Int32 → Int32 → Int32 → Int32 → Int32 → Ar → Ar → Option (Int32 × Int32 × Int32 × Int32 × Int32 × Ar × Ar)
  | 0, _, _, _, _, _, _, _ => none
  | n + 1, v2, o_size, o_wanted, o_begun, o_figures, o_letters, o_numbers => (if p1_length ≤ v2 then (if o_wanted = (-1 : Int32) then (if o_size = (0 : Int32) then some (p1_length, o_size, o_wanted, o_begun, o_figures, o_letters, o_numbers) else some ((-1 : Int32), o_size, o_wanted, o_begun, o_figures, o_letters, o_numbers)) else some (p1_length, o_size, o_wanted, o_begun, o_figures, o_letters, o_numbers)) else bd1 (f_X5_nth p1_length p1_bytes v2) (fun r4 => bd7 (f_X0_takes o_size o_wanted o_begun o_figures o_letters o_numbers r4) (fun r6 w7 w8 w9 w10 w11 w12 => (if (b2i r6) = (0 : Int32) then some (v2, w7, w8, w9, w10, w11, w12) else nm (v2 + (1 : Int32)) (fun y15 => b_X0_read_12 p1_length p1_bytes n y15 w7 w8 w9 w10 w11 w12)))))
def f_X0_read (o_size : Int32) (o_wanted : Int32) (o_begun : Int32) (o_figures : Int32) (o_letters : Ar) (o_numbers : Ar) (p1_length : Int32) (p1_bytes : Ar) : Option (Int32 × Int32 × Int32 × Int32 × Int32 × Ar × Ar) := b_X0_read_12 p1_length p1_bytes FU (0 : Int32) (0 : Int32) (-1 : Int32) o_begun o_figures o_letters o_numbers
set_option maxHeartbeats 4000000 in
set_option maxRecDepth 100000 in
theorem c_X0_read (l : Launch) (D : va_G) (cI cS : ClassId) (a_o : Nat) (a_o_letters : Nat) (a_o_numbers : Nat) (a_p1 : Nat) (a_p1_bytes : Nat) (o_size : Int32) (o_wanted : Int32) (o_begun : Int32) (o_figures : Int32) (o_letters : Ar) (o_numbers : Ar) (p1_length : Int32) (p1_bytes : Ar) (r0 : Int32) (o_size' : Int32) (o_wanted' : Int32) (o_begun' : Int32) (o_figures' : Int32) (o_letters' : Ar) (o_numbers' : Ar) (h : f_X0_read o_size o_wanted o_begun o_figures o_letters o_numbers p1_length p1_bytes = some (r0, o_size', o_wanted', o_begun', o_figures', o_letters', o_numbers')) : wrM l D cI cS yX0_read cX0_read 3 (some .int) 3 65 [.ref a_o, .ref a_p1] [(a_o, .inr (0, [.ref a_o_letters, .ref a_o_numbers, .int (o_size), .int (o_wanted), .int (o_begun), .int (o_figures)])), (a_o_letters, .inl (cI, 75, .inl (o_letters))), (a_o_numbers, .inl (cI, 375, .inl (o_numbers))), (a_p1, .inr (4, [.ref a_p1_bytes, .int (p1_length)])), (a_p1_bytes, .inl (cI, 150, .inl (p1_bytes)))] [(a_o, .inr (0, [.ref a_o_letters, .ref a_o_numbers, .int (o_size'), .int (o_wanted'), .int (o_begun'), .int (o_figures')])), (a_o_letters, .inl (cI, 75, .inl (o_letters'))), (a_o_numbers, .inl (cI, 375, .inl (o_numbers'))), (a_p1, .inr (4, [.ref a_p1_bytes, .int (p1_length)])), (a_p1_bytes, .inl (cI, 150, .inl (p1_bytes)))] (some (.int r0)) := by
  refine Met.ofW (cc := cX0_read) (maxL := 3) (ret := (some .int)) (by decide) rfl ?_
  intro p e s m args below meth c s₁ B hml hv
  obtain ⟨rfl, hP, hK, hD0⟩ := hv
  have hx := B.exec
  have hb := B.bytes
  have hr := B.returns
  have hts : ∀ w ∈ GW, w.before _ s = true := fun w hw => atoms_spec (ws := mws yX0_read cX0_read 3 (some .int)) B.pre w (List.mem_cons_of_mem _ hw)
  have hown : s.vm.findClass RX0 = some m.cls := findClass_of_methodNamed B.named
  have hlocks := B.notSynchronized
  have hD := inW_self hD0
  generalize hAe : inW [(a_o, .inr (0, [.ref a_o_letters, .ref a_o_numbers, .int (o_size), .int (o_wanted), .int (o_begun), .int (o_figures)])), (a_o_letters, .inl (cI, 75, .inl (o_letters))), (a_o_numbers, .inl (cI, 375, .inl (o_numbers))), (a_p1, .inr (4, [.ref a_p1_bytes, .int (p1_length)])), (a_p1_bytes, .inl (cI, 150, .inl (p1_bytes)))] = A at hD ⊢
  have hS : va_S A s.heap s.heap [] := va_S.rf
  have hl := lv_entry ([.ref a_o, .ref a_p1]) (n := 3) (Nat.le_of_ble_eq_true rfl)
  rw [lg_entry_eq]
  generalize (lg_sl ([.ref a_o, .ref a_p1]) ++ List.replicate (3 - (lg_sl ([.ref a_o, .ref a_p1])).length) Slot.unset).toArray = ls at hl ⊢
  have hl : lv_has ls 3 [(0, .ref a_o), (1, .ref a_p1)] := hl
  have S : CallFix p m c cX0_read 3 s _ GW RX0 := ⟨hx, hb, hml, hown, hts⟩
  have L_12 : ∀ (n : Nat) (v2 : Int32) (o_size : Int32) (o_wanted : Int32) (o_begun : Int32) (o_figures : Int32) (o_letters : Ar) (o_numbers : Ar), b_X0_read_12 p1_length p1_bytes n v2 o_size o_wanted o_begun o_figures o_letters o_numbers = some (r0, o_size', o_wanted', o_begun', o_figures', o_letters', o_numbers') → ∀ (H : Heap) (locs : List Loc), va_P D vwCl [(a_o, .inr (0, [.ref a_o_letters, .ref a_o_numbers, .int (o_size), .int (o_wanted), .int (o_begun), .int (o_figures)])), (a_o_letters, .inl (cI, 75, .inl (o_letters))), (a_o_numbers, .inl (cI, 375, .inl (o_numbers))), (a_p1, .inr (4, [.ref a_p1_bytes, .int (p1_length)])), (a_p1_bytes, .inl (cI, 150, .inl (p1_bytes)))] H → va_D A [(a_o, .inr (0, [.ref a_o_letters, .ref a_o_numbers, .int (o_size), .int (o_wanted), .int (o_begun), .int (o_figures)])), (a_o_letters, .inl (cI, 75, .inl (o_letters))), (a_o_numbers, .inl (cI, 375, .inl (o_numbers))), (a_p1, .inr (4, [.ref a_p1_bytes, .int (p1_length)])), (a_p1_bytes, .inl (cI, 150, .inl (p1_bytes)))] → va_S A s.heap H locs → ∀ (ls : Array Slot), lv_has ls 3 [(0, .ref a_o), (1, .ref a_p1), (2, .int v2)] → W p l e (headSpec (mws yX0_read cX0_read 3 (some .int)) { frames := 3, cells := 0, slots := 0, locals := 65 }).room s m [.ref a_o, .ref a_p1].toArray below meth c H locs 0 0 (MQ below (wrQ D A [(a_o, .inr (0, [.ref a_o_letters, .ref a_o_numbers, .int (o_size'), .int (o_wanted'), .int (o_begun'), .int (o_figures')])), (a_o_letters, .inl (cI, 75, .inl (o_letters'))), (a_o_numbers, .inl (cI, 375, .inl (o_numbers'))), (a_p1, .inr (4, [.ref a_p1_bytes, .int (p1_length)])), (a_p1_bytes, .inl (cI, 150, .inl (p1_bytes)))] (some (.int r0))) [.ref a_o, .ref a_p1].toArray s 0 0 A) (F0 m 12 ls []) := by
    intro n
    induction n with
    | zero =>
      intro v2 o_size o_wanted o_begun o_figures o_letters o_numbers h
      exact nn_no h
    | succ n ih =>
      intro v2 o_size o_wanted o_begun o_figures o_letters o_numbers h H locs hP hD hS ls hl
      rw [b_X0_read_12] at h
      refine lv_iload_n hx hb dX0_read_12 rfl (lv_at hl 2 rfl) ?_
      refine lv_aload_n hx hb dX0_read_13 rfl (lv_at hl 1 rfl) ?_
      refine gnX5_1 hx hb hts hown hK hP 3 rfl wnX0_25 dX0_read_14 ?_
      refine lv_icmp_ge (tgt := 40) hx hb dX0_read_17 (by decide) (fun c1 => ?_) (fun c1 => ?_)
      · have h := it_t c1 h
        refine lv_aload_n hx hb dX0_read_40 rfl (lv_at hl 0 rfl) ?_
        refine gfX0_3 hx hb hts hown hK hP 0 rfl wfX0_22 dX0_read_41 ?_
        refine lv_iconst (v := (-1 : Int32)) hx hb dX0_read_44 (by decide) ?_
        refine lv_icmp_ne (tgt := 55) hx hb dX0_read_45 (by decide) (fun c2 => ?_) (fun c2 => ?_)
        · have h := it_f c2 h
          refine lv_aload_n hx hb dX0_read_55 rfl (lv_at hl 1 rfl) ?_
          refine gnX5_1 hx hb hts hown hK hP 3 rfl wnX0_25 dX0_read_56 ?_
          refine lv_goto (tgt := 63) hx hb dX0_read_59 (by decide) ?_
          cases h
          exact W.iret hx hb hr (fun t ht _ => ⟨rfl, by rw [ht]; exact hP, hS.F ht⟩) hS.2.2 dX0_read_63
        · have h := it_t c2 h
          refine lv_aload_n hx hb dX0_read_48 rfl (lv_at hl 0 rfl) ?_
          refine gfX0_2 hx hb hts hown hK hP 0 rfl wfX0_18 dX0_read_49 ?_
          refine lv_if_ne (tgt := 62) hx hb dX0_read_52 (by decide) (fun c3 => ?_) (fun c3 => ?_)
          · have h := it_f c3 h
            refine lv_iconst (v := (-1 : Int32)) hx hb dX0_read_62 (by decide) ?_
            cases h
            exact W.iret hx hb hr (fun t ht _ => ⟨rfl, by rw [ht]; exact hP, hS.F ht⟩) hS.2.2 dX0_read_63
          · have h := it_t c3 h
            refine lv_aload_n hx hb dX0_read_55 rfl (lv_at hl 1 rfl) ?_
            refine gnX5_1 hx hb hts hown hK hP 3 rfl wnX0_25 dX0_read_56 ?_
            refine lv_goto (tgt := 63) hx hb dX0_read_59 (by decide) ?_
            cases h
            exact W.iret hx hb hr (fun t ht _ => ⟨rfl, by rw [ht]; exact hP, hS.F ht⟩) hS.2.2 dX0_read_63
      · have h := it_f c1 h
        refine lv_aload_n hx hb dX0_read_20 rfl (lv_at hl 0 rfl) ?_
        refine lv_aload_n hx hb dX0_read_21 rfl (lv_at hl 1 rfl) ?_
        refine lv_iload_n hx hb dX0_read_22 rfl (lv_at hl 2 rfl) ?_
        obtain ⟨r4, hc5, h⟩ := bd1_use h
        refine ro_V (As := [.int v2]) (rest := [.ref a_o]) S (c_X5_nth l D cI cS a_p1 a_p1_bytes p1_length p1_bytes v2 r4 hc5) (cwV1 hts cvX5_nth wmX0_30 rfl rfl ⟨(Nat.le_of_ble_eq_true rfl), (Nat.le_of_ble_eq_true rfl)⟩) hK hP [3, 4] rfl 3 rfl rfl rfl rfl hl.1 rfl (Nat.le_of_ble_eq_true rfl) dX0_read_23 ⟨Nat.zero_le _, Nat.zero_le _⟩ rfl ?_
        obtain ⟨r6, w7, w8, w9, w10, w11, w12, hc13, h⟩ := bd7_use h
        refine wr_V (As := [.int r4]) (rest := []) (ws' := [(a_o, .inr (0, [.ref a_o_letters, .ref a_o_numbers, .int (w7), .int (w8), .int (w9), .int (w10)])), (a_o_letters, .inl (cI, 75, .inl (w11))), (a_o_numbers, .inl (cI, 375, .inl (w12))), (a_p1, .inr (4, [.ref a_p1_bytes, .int (p1_length)])), (a_p1_bytes, .inl (cI, 150, .inl (p1_bytes)))]) S (c_X0_takes l D cI cS a_o a_o_letters a_o_numbers o_size o_wanted o_begun o_figures o_letters o_numbers r4 r6 w7 w8 w9 w10 w11 w12 hc13) (cwV1 hts cvX0_takes wmX0_34 rfl rfl ⟨(Nat.le_of_ble_eq_true rfl), (Nat.le_of_ble_eq_true rfl)⟩) hK hP hD hS [0, 1, 2] rfl rfl [(true, 0), (true, 1), (true, 2), (false, 3), (false, 4)] rfl rfl rfl 0 rfl rfl rfl rfl hl.1 rfl (Nat.le_of_ble_eq_true rfl) dX0_read_26 ⟨Nat.zero_le _, Nat.zero_le _⟩ rfl (fun H locs hP hD hS => ?_)
        refine lv_if_ne (tgt := 34) hx hb dX0_read_29 (by decide) (fun c14 => ?_) (fun c14 => ?_)
        · have h := it_f c14 h
          obtain ⟨y15, ey15⟩ : ∃ z : Int32, z = v2 + (1 : Int32) := ⟨_, rfl⟩
          have h := nm_use h ey15
          refine lv_iinc (v := y15) (lv' := [(2, .int y15), (0, .ref a_o), (1, .ref a_p1)]) hx hb dX0_read_34 hl (k := 2) rfl (by rw [ey15]; rfl) (by decide) rfl (fun ls hl => ?_)
          refine lv_goto (tgt := 12) hx hb dX0_read_37 (by decide) ?_
          exact ih _ _ _ _ _ _ _ h _ _ hP hD hS _ (lv_sub hl [1, 2, 0] rfl)
        · have h := it_t c14 h
          refine lv_iload_n hx hb dX0_read_32 rfl (lv_at hl 2 rfl) ?_
          cases h
          exact W.iret hx hb hr (fun t ht _ => ⟨rfl, by rw [ht]; exact hP, hS.F ht⟩) hS.2.2 dX0_read_33
  unfold f_X0_read at h
  refine lv_aload_n hx hb dX0_read_0 rfl (lv_at hl 0 rfl) ?_
  refine lv_iconst (v := (0 : Int32)) hx hb dX0_read_1 (by decide) ?_
  refine pfX0_2 (ws' := [(a_o, .inr (0, [.ref a_o_letters, .ref a_o_numbers, .int ((0 : Int32)), .int (o_wanted), .int (o_begun), .int (o_figures)])), (a_o_letters, .inl (cI, 75, .inl (o_letters))), (a_o_numbers, .inl (cI, 375, .inl (o_numbers))), (a_p1, .inr (4, [.ref a_p1_bytes, .int (p1_length)])), (a_p1_bytes, .inl (cI, 150, .inl (p1_bytes)))]) hx hb hts hown hK hP hD hS 0 rfl rfl wfX0_18 dX0_read_2 (fun H locs hP hD hS => ?_)
  refine lv_aload_n hx hb dX0_read_5 rfl (lv_at hl 0 rfl) ?_
  refine lv_iconst (v := (-1 : Int32)) hx hb dX0_read_6 (by decide) ?_
  refine pfX0_3 (ws' := [(a_o, .inr (0, [.ref a_o_letters, .ref a_o_numbers, .int ((0 : Int32)), .int ((-1 : Int32)), .int (o_begun), .int (o_figures)])), (a_o_letters, .inl (cI, 75, .inl (o_letters))), (a_o_numbers, .inl (cI, 375, .inl (o_numbers))), (a_p1, .inr (4, [.ref a_p1_bytes, .int (p1_length)])), (a_p1_bytes, .inl (cI, 150, .inl (p1_bytes)))]) hx hb hts hown hK hP hD hS 0 rfl rfl wfX0_22 dX0_read_7 (fun H locs hP hD hS => ?_)
  refine lv_iconst (v := (0 : Int32)) hx hb dX0_read_10 (by decide) ?_
  refine lv_istore_n (lv' := [(2, .int (0 : Int32)), (0, .ref a_o), (1, .ref a_p1)]) hx hb dX0_read_11 rfl hl (by decide) rfl (fun ls hl => ?_)
  exact L_12 _ _ _ _ _ _ _ _ h _ _ hP hD hS _ (lv_sub hl [1, 2, 0] rfl)
