/-! Suite, second half -/
def f_X4_flippingAhead (o_size : Int32) (o_startCells : Int32) (o_modeNow : Int32) (o_masks : Ar) (o_row_size : Int32) (o_row_tests : Ar) (x1 : Int32) : Option (Int32) := bd1 (f_X4_hasTest o_size x1) (fun r1 => (if (b2i r1) = (0 : Int32) then some ((-2 : Int32)) else bd1 (f_X3_placeOf o_row_size o_row_tests x1) (fun r4 => (if r4 = (-1 : Int32) then some ((-3 : Int32)) else bd1 (f_X3_setAhead o_row_size o_row_tests r4) (fun r7 => bd1 (f_X4_isFlippedBehind o_startCells o_modeNow o_masks o_row_size o_row_tests r7 x1) (fun r9 => (if (b2i r9) = (0 : Int32) then some ((-3 : Int32)) else some (r7))))))))
set_option maxHeartbeats 4000000 in
set_option maxRecDepth 100000 in
theorem c_X4_flippingAhead (l : Launch) (D : va_G) (cI cS : ClassId) (a_o : Nat) (a_o_masks : Nat) (a_o_row : Nat) (a_o_row_tests : Nat) (o_size : Int32) (o_startCells : Int32) (o_modeNow : Int32) (o_masks : Ar) (o_row_size : Int32) (o_row_tests : Ar) (x1 : Int32) (r0 : Int32) (h : f_X4_flippingAhead o_size o_startCells o_modeNow o_masks o_row_size o_row_tests x1 = some r0) : roM l D cI cS yX4_flippingAhead cX4_flippingAhead 4 (some .int) 4 92 [.ref a_o, .int x1] [(a_o, .inr (3, [.ref a_o_masks, .ref a_o_row, .int (o_size), .int (o_startCells), .int (o_modeNow)])), (a_o_masks, .inl (cI, 40, .inl (o_masks))), (a_o_row, .inr (2, [.ref a_o_row_tests, .int (o_row_size)])), (a_o_row_tests, .inl (cI, 8, .inl (o_row_tests)))] (some (.int r0)) := by
  refine Met.ofW (cc := cX4_flippingAhead) (maxL := 4) (ret := (some .int)) (by decide) rfl ?_
  intro p e s m args below meth c s₁ B hml hv
  obtain ⟨rfl, hP, hK⟩ := hv
  have hx := B.exec
  have hb := B.bytes
  have hr := B.returns
  have hts : ∀ w ∈ GW, w.before _ s = true := fun w hw => atoms_spec (ws := mws yX4_flippingAhead cX4_flippingAhead 4 (some .int)) B.pre w (List.mem_cons_of_mem _ hw)
  have hown : s.vm.findClass RX4 = some m.cls := findClass_of_methodNamed B.named
  have hlocks := B.notSynchronized
  have hl := lv_entry ([.ref a_o, .int x1]) (n := 4) (Nat.le_of_ble_eq_true rfl)
  rw [lg_entry_eq]
  generalize (lg_sl ([.ref a_o, .int x1]) ++ List.replicate (4 - (lg_sl ([.ref a_o, .int x1])).length) Slot.unset).toArray = ls at hl ⊢
  have hl : lv_has ls 4 [(0, .ref a_o), (1, .int x1)] := hl
  have S : CallFix p m c cX4_flippingAhead 4 s _ GW RX4 := ⟨hx, hb, hml, hown, hts⟩
  unfold f_X4_flippingAhead at h
  refine lv_aload_n hx hb dX4_flippingAhead_0 rfl (lv_at hl 0 rfl) ?_
  refine lv_iload_n hx hb dX4_flippingAhead_1 rfl (lv_at hl 1 rfl) ?_
  obtain ⟨r1, hc2, h⟩ := bd1_use h
  refine ro_V (As := [.int x1]) (rest := []) S (c_X4_hasTest l D cI cS a_o a_o_masks a_o_row o_size o_startCells o_modeNow x1 r1 hc2) (cwV1 hts cvX4_hasTest wmX4_34 rfl rfl ⟨(Nat.le_of_ble_eq_true rfl), (Nat.le_of_ble_eq_true rfl)⟩) hK hP [0] rfl 0 rfl rfl rfl rfl hl.1 rfl (Nat.le_of_ble_eq_true rfl) dX4_flippingAhead_2 ⟨Nat.zero_le _, Nat.zero_le _⟩ rfl ?_
  refine lv_if_ne (tgt := 11) hx hb dX4_flippingAhead_5 (by decide) (fun c3 => ?_) (fun c3 => ?_)
  · have h := it_f c3 h
    refine lv_aload_n hx hb dX4_flippingAhead_11 rfl (lv_at hl 0 rfl) ?_
    refine gfX4_1 hx hb hts hown hK hP 0 rfl wfX4_18 dX4_flippingAhead_12 ?_
    refine lv_iload_n hx hb dX4_flippingAhead_15 rfl (lv_at hl 1 rfl) ?_
    obtain ⟨r4, hc5, h⟩ := bd1_use h
    refine ro_V (As := [.int x1]) (rest := []) S (c_X3_placeOf l D cI cS a_o_row a_o_row_tests o_row_size o_row_tests x1 r4 hc5) (cwV1 hts cvX3_placeOf wmX4_37 rfl rfl ⟨(Nat.le_of_ble_eq_true rfl), (Nat.le_of_ble_eq_true rfl)⟩) hK hP [2, 3] rfl 2 rfl rfl rfl rfl hl.1 rfl (Nat.le_of_ble_eq_true rfl) dX4_flippingAhead_16 ⟨Nat.zero_le _, Nat.zero_le _⟩ rfl ?_
    refine lv_istore_n (lv' := [(2, .int r4), (0, .ref a_o), (1, .int x1)]) hx hb dX4_flippingAhead_19 rfl hl (by decide) rfl (fun ls hl => ?_)
    refine lv_iload_n hx hb dX4_flippingAhead_20 rfl (lv_at hl 0 rfl) ?_
    refine lv_iconst (v := (-1 : Int32)) hx hb dX4_flippingAhead_21 (by decide) ?_
    refine lv_icmp_ne (tgt := 28) hx hb dX4_flippingAhead_22 (by decide) (fun c6 => ?_) (fun c6 => ?_)
    · have h := it_f c6 h
      refine lv_aload_n hx hb dX4_flippingAhead_28 rfl (lv_at hl 1 rfl) ?_
      refine gfX4_1 hx hb hts hown hK hP 0 rfl wfX4_18 dX4_flippingAhead_29 ?_
      refine lv_iload_n hx hb dX4_flippingAhead_32 rfl (lv_at hl 0 rfl) ?_
      obtain ⟨r7, hc8, h⟩ := bd1_use h
      refine ro_V (As := [.int r4]) (rest := []) S (c_X3_setAhead l D cI cS a_o_row a_o_row_tests o_row_size o_row_tests r4 r7 hc8) (cwV1 hts cvX3_setAhead wmX4_98 rfl rfl ⟨(Nat.le_of_ble_eq_true rfl), (Nat.le_of_ble_eq_true rfl)⟩) hK hP [2, 3] rfl 2 rfl rfl rfl rfl hl.1 rfl (Nat.le_of_ble_eq_true rfl) dX4_flippingAhead_33 ⟨Nat.zero_le _, Nat.zero_le _⟩ rfl ?_
      refine lv_istore_n (lv' := [(3, .int r7), (2, .int r4), (0, .ref a_o), (1, .int x1)]) hx hb dX4_flippingAhead_36 rfl hl (by decide) rfl (fun ls hl => ?_)
      refine lv_aload_n hx hb dX4_flippingAhead_37 rfl (lv_at hl 2 rfl) ?_
      refine lv_iload_n hx hb dX4_flippingAhead_38 rfl (lv_at hl 0 rfl) ?_
      refine lv_iload_n hx hb dX4_flippingAhead_39 rfl (lv_at hl 3 rfl) ?_
      obtain ⟨r9, hc10, h⟩ := bd1_use h
      refine ro_V (As := [.int r7, .int x1]) (rest := []) S (c_X4_isFlippedBehind l D cI cS a_o a_o_masks a_o_row a_o_row_tests o_size o_startCells o_modeNow o_masks o_row_size o_row_tests r7 x1 r9 hc10) (cwV1 hts cvX4_isFlippedBehind wmX4_101 rfl rfl ⟨(Nat.le_of_ble_eq_true rfl), (Nat.le_of_ble_eq_true rfl)⟩) hK hP [0, 1, 2, 3] rfl 0 rfl rfl rfl rfl hl.1 rfl (Nat.le_of_ble_eq_true rfl) dX4_flippingAhead_40 ⟨Nat.zero_le _, Nat.zero_le _⟩ rfl ?_
      refine lv_if_eq (tgt := 50) hx hb dX4_flippingAhead_43 (by decide) (fun c11 => ?_) (fun c11 => ?_)
      · have h := it_t c11 h
        refine lv_bipush (v := (-3 : Int32)) hx hb dX4_flippingAhead_50 (by decide) ?_
        exact W.iret hx hb hr (fun t ht _ => ⟨congrArg (fun z => Outcome.returned (some (Value.int z))) (Option.some.inj h), ht⟩) (fun q hq => by cases hq) dX4_flippingAhead_52
      · have h := it_f c11 h
        refine lv_iload_n hx hb dX4_flippingAhead_46 rfl (lv_at hl 0 rfl) ?_
        refine lv_goto (tgt := 52) hx hb dX4_flippingAhead_47 (by decide) ?_
        exact W.iret hx hb hr (fun t ht _ => ⟨congrArg (fun z => Outcome.returned (some (Value.int z))) (Option.some.inj h), ht⟩) (fun q hq => by cases hq) dX4_flippingAhead_52
    · have h := it_t c6 h
      refine lv_bipush (v := (-3 : Int32)) hx hb dX4_flippingAhead_25 (by decide) ?_
      exact W.iret hx hb hr (fun t ht _ => ⟨congrArg (fun z => Outcome.returned (some (Value.int z))) (Option.some.inj h), ht⟩) (fun q hq => by cases hq) dX4_flippingAhead_27
  · have h := it_t c3 h
    refine lv_bipush (v := (-2 : Int32)) hx hb dX4_flippingAhead_8 (by decide) ?_
    exact W.iret hx hb hr (fun t ht _ => ⟨congrArg (fun z => Outcome.returned (some (Value.int z))) (Option.some.inj h), ht⟩) (fun q hq => by cases hq) dX4_flippingAhead_10
def f_X4_trimAhead (o_size : Int32) (o_startCells : Int32) (o_modeNow : Int32) (o_masks : Ar) (o_row_size : Int32) (o_row_tests : Ar) (x1 : Int32) : Option (Int32 × Int32 × Ar) := bd1 (f_X4_flippingAhead o_size o_startCells o_modeNow o_masks o_row_size o_row_tests x1) (fun r1 => (if (0 : Int32) ≤ r1 then bd1 (f_X2_least o_startCells o_modeNow o_masks o_row_size o_row_tests r1 x1) (fun r4 => nm (r1 &&& (r4 ^^^ (-1 : Int32))) (fun y6 => bd2 (f_X3_takeOut o_row_size o_row_tests y6) (fun w7 w8 => bd1 (f_J6_bitCount_0f7a4 y6) (fun r10 => some (r10, w7, w8))))) else some (r1, o_row_size, o_row_tests)))
set_option maxHeartbeats 4000000 in
set_option maxRecDepth 100000 in
theorem c_X4_trimAhead (l : Launch) (D : va_G) (cI cS : ClassId) (a_o : Nat) (a_o_masks : Nat) (a_o_row : Nat) (a_o_row_tests : Nat) (o_size : Int32) (o_startCells : Int32) (o_modeNow : Int32) (o_masks : Ar) (o_row_size : Int32) (o_row_tests : Ar) (x1 : Int32) (r0 : Int32) (o_row_size' : Int32) (o_row_tests' : Ar) (h : f_X4_trimAhead o_size o_startCells o_modeNow o_masks o_row_size o_row_tests x1 = some (r0, o_row_size', o_row_tests')) : wrM l D cI cS yX4_trimAhead cX4_trimAhead 4 (some .int) 5 120 [.ref a_o, .int x1] [(a_o, .inr (3, [.ref a_o_masks, .ref a_o_row, .int (o_size), .int (o_startCells), .int (o_modeNow)])), (a_o_masks, .inl (cI, 40, .inl (o_masks))), (a_o_row, .inr (2, [.ref a_o_row_tests, .int (o_row_size)])), (a_o_row_tests, .inl (cI, 8, .inl (o_row_tests)))] [(a_o, .inr (3, [.ref a_o_masks, .ref a_o_row, .int (o_size), .int (o_startCells), .int (o_modeNow)])), (a_o_masks, .inl (cI, 40, .inl (o_masks))), (a_o_row, .inr (2, [.ref a_o_row_tests, .int (o_row_size')])), (a_o_row_tests, .inl (cI, 8, .inl (o_row_tests')))] (some (.int r0)) := by
  refine Met.ofW (cc := cX4_trimAhead) (maxL := 4) (ret := (some .int)) (by decide) rfl ?_
  intro p e s m args below meth c s₁ B hml hv
  obtain ⟨rfl, hP, hK, hD0⟩ := hv
  have hx := B.exec
  have hb := B.bytes
  have hr := B.returns
  have hts : ∀ w ∈ GW, w.before _ s = true := fun w hw => atoms_spec (ws := mws yX4_trimAhead cX4_trimAhead 4 (some .int)) B.pre w (List.mem_cons_of_mem _ hw)
  have hown : s.vm.findClass RX4 = some m.cls := findClass_of_methodNamed B.named
  have hlocks := B.notSynchronized
  have hD := inW_self hD0
  generalize hAe : inW [(a_o, .inr (3, [.ref a_o_masks, .ref a_o_row, .int (o_size), .int (o_startCells), .int (o_modeNow)])), (a_o_masks, .inl (cI, 40, .inl (o_masks))), (a_o_row, .inr (2, [.ref a_o_row_tests, .int (o_row_size)])), (a_o_row_tests, .inl (cI, 8, .inl (o_row_tests)))] = A at hD ⊢
  have hS : va_S A s.heap s.heap [] := va_S.rf
  have hl := lv_entry ([.ref a_o, .int x1]) (n := 4) (Nat.le_of_ble_eq_true rfl)
  rw [lg_entry_eq]
  generalize (lg_sl ([.ref a_o, .int x1]) ++ List.replicate (4 - (lg_sl ([.ref a_o, .int x1])).length) Slot.unset).toArray = ls at hl ⊢
  have hl : lv_has ls 4 [(0, .ref a_o), (1, .int x1)] := hl
  have S : CallFix p m c cX4_trimAhead 4 s _ GW RX4 := ⟨hx, hb, hml, hown, hts⟩
  unfold f_X4_trimAhead at h
  refine lv_aload_n hx hb dX4_trimAhead_0 rfl (lv_at hl 0 rfl) ?_
  refine lv_iload_n hx hb dX4_trimAhead_1 rfl (lv_at hl 1 rfl) ?_
  obtain ⟨r1, hc2, h⟩ := bd1_use h
  refine ro_V (As := [.int x1]) (rest := []) S (c_X4_flippingAhead l D cI cS a_o a_o_masks a_o_row a_o_row_tests o_size o_startCells o_modeNow o_masks o_row_size o_row_tests x1 r1 hc2) (cwV1 hts cvX4_flippingAhead wmX4_61 rfl rfl ⟨(Nat.le_of_ble_eq_true rfl), (Nat.le_of_ble_eq_true rfl)⟩) hK hP [0, 1, 2, 3] rfl 0 rfl rfl rfl rfl hl.1 rfl (Nat.le_of_ble_eq_true rfl) dX4_trimAhead_2 ⟨Nat.zero_le _, Nat.zero_le _⟩ rfl ?_
  refine lv_istore_n (lv' := [(2, .int r1), (0, .ref a_o), (1, .int x1)]) hx hb dX4_trimAhead_5 rfl hl (by decide) rfl (fun ls hl => ?_)
  refine lv_iload_n hx hb dX4_trimAhead_6 rfl (lv_at hl 0 rfl) ?_
  refine lv_if_ge (tgt := 12) hx hb dX4_trimAhead_7 (by decide) (fun c3 => ?_) (fun c3 => ?_)
  · have h := it_t c3 h
    refine lv_iload_n hx hb dX4_trimAhead_12 rfl (lv_at hl 0 rfl) ?_
    refine lv_aload_n hx hb dX4_trimAhead_13 rfl (lv_at hl 1 rfl) ?_
    refine lv_iload_n hx hb dX4_trimAhead_14 rfl (lv_at hl 0 rfl) ?_
    refine lv_iload_n hx hb dX4_trimAhead_15 rfl (lv_at hl 2 rfl) ?_
    obtain ⟨r4, hc5, h⟩ := bd1_use h
    refine ro_S (As := [.ref a_o, .int r1, .int x1]) (rest := [.int r1]) S (c_X2_least l D cI cS a_o a_o_masks a_o_row a_o_row_tests o_size o_startCells o_modeNow o_masks o_row_size o_row_tests r1 x1 r4 hc5) (cwS1 hts csX2_least wmX4_64 rfl rfl ⟨(Nat.le_of_ble_eq_true rfl), (Nat.le_of_ble_eq_true rfl)⟩) hK hP [0, 1, 2, 3] rfl rfl hl.1 rfl (Nat.le_of_ble_eq_true rfl) dX4_trimAhead_16 ⟨Nat.zero_le _, Nat.zero_le _⟩ rfl ?_
    refine lv_iconst (v := (-1 : Int32)) hx hb dX4_trimAhead_19 (by decide) ?_
    refine lv_ixor hx hb dX4_trimAhead_20 ?_
    refine lv_iand hx hb dX4_trimAhead_21 ?_
    refine lv_topi (fun y6 ey6 => ?_)
    have h := nm_use h ey6
    refine lv_istore_n (lv' := [(3, .int y6), (2, .int r1), (0, .ref a_o), (1, .int x1)]) hx hb dX4_trimAhead_22 rfl hl (by decide) rfl (fun ls hl => ?_)
    refine lv_aload_n hx hb dX4_trimAhead_23 rfl (lv_at hl 2 rfl) ?_
    refine gfX4_1 hx hb hts hown hK hP 0 rfl wfX4_18 dX4_trimAhead_24 ?_
    refine lv_iload_n hx hb dX4_trimAhead_27 rfl (lv_at hl 0 rfl) ?_
    obtain ⟨w7, w8, hc9, h⟩ := bd2_use h
    refine wr_V (As := [.int y6]) (rest := []) (ws' := [(a_o, .inr (3, [.ref a_o_masks, .ref a_o_row, .int (o_size), .int (o_startCells), .int (o_modeNow)])), (a_o_masks, .inl (cI, 40, .inl (o_masks))), (a_o_row, .inr (2, [.ref a_o_row_tests, .int (w7)])), (a_o_row_tests, .inl (cI, 8, .inl (w8)))]) S (c_X3_takeOut l D cI cS a_o_row a_o_row_tests o_row_size o_row_tests y6 w7 w8 hc9) (cwV1 hts cvX3_takeOut wmX4_30 rfl rfl ⟨(Nat.le_of_ble_eq_true rfl), (Nat.le_of_ble_eq_true rfl)⟩) hK hP hD hS [2, 3] rfl rfl [(false, 0), (false, 1), (true, 0), (true, 1)] rfl rfl rfl 2 rfl rfl rfl rfl hl.1 rfl (Nat.le_of_ble_eq_true rfl) dX4_trimAhead_28 ⟨Nat.zero_le _, Nat.zero_le _⟩ rfl (fun H locs hP hD hS => ?_)
    refine lv_iload_n hx hb dX4_trimAhead_31 rfl (lv_at hl 0 rfl) ?_
    obtain ⟨r10, hc11, h⟩ := bd1_use h
    refine ro_S (As := [.int y6]) (rest := []) S (c_J6_bitCount_0f7a4 l D cI cS y6 r10 hc11) (cwS1 hts csJ6_bitCount_0f7a4 wmX4_70 rfl rfl ⟨(Nat.le_of_ble_eq_true rfl), (Nat.le_of_ble_eq_true rfl)⟩) hK hP [] rfl rfl hl.1 rfl (Nat.le_of_ble_eq_true rfl) dX4_trimAhead_32 ⟨Nat.zero_le _, Nat.zero_le _⟩ rfl ?_
    cases h
    exact W.iret hx hb hr (fun t ht _ => ⟨rfl, by rw [ht]; exact hP, hS.F ht⟩) hS.2.2 dX4_trimAhead_35
  · have h := it_f c3 h
    refine lv_iload_n hx hb dX4_trimAhead_10 rfl (lv_at hl 0 rfl) ?_
    cases h
    exact W.iret hx hb hr (fun t ht _ => ⟨rfl, by rw [ht]; exact hP, hS.F ht⟩) hS.2.2 dX4_trimAhead_11
def b_X4_passingIn_own_10 (o_modeNow : Int32) (o_masks : Ar) (o_row_size : Int32) (o_row_tests : Ar) : Nat → Int32 → Int32 → Int32 → Option (Int32)
  | 0, _, _, _ => none
  | n + 1, v2, v3, v4 => (if o_row_size ≤ v4 then some (v2) else bd1 (f_X3_nth o_row_size o_row_tests v4) (fun r2 => bd1 (f_X4_passesOn o_masks r2 v3) (fun r4 => bd1 (f_X6_oneIf (b2i r4)) (fun r6 => nm (v2 ||| (r6 <<< (r2 &&& (31 : Int32)))) (fun y8 => bd1 (f_X4_cellsAfter o_modeNow o_masks r2 v3) (fun r9 => nm (v4 + (1 : Int32)) (fun y11 => b_X4_passingIn_own_10 o_modeNow o_masks o_row_size o_row_tests n y8 r9 y11)))))))
def f_X4_passingIn_own (o_startCells : Int32) (o_modeNow : Int32) (o_masks : Ar) (o_row_size : Int32) (o_row_tests : Ar) : Option (Int32) := b_X4_passingIn_own_10 o_modeNow o_masks o_row_size o_row_tests FU (0 : Int32) o_startCells (0 : Int32)
set_option maxHeartbeats 4000000 in
set_option maxRecDepth 100000 in
theorem c_X4_passingIn_own (l : Launch) (D : va_G) (cI cS : ClassId) (a_o : Nat) (a_o_masks : Nat) (a_o_row : Nat) (a_o_row_tests : Nat) (o_size : Int32) (o_startCells : Int32) (o_modeNow : Int32) (o_masks : Ar) (o_row_size : Int32) (o_row_tests : Ar) (r0 : Int32) (h : f_X4_passingIn_own o_startCells o_modeNow o_masks o_row_size o_row_tests = some r0) : roM l D cI cS yX4_passingIn cX4_passingIn 6 (some .int) 2 46 [.ref a_o, .ref a_o_row] [(a_o, .inr (3, [.ref a_o_masks, .ref a_o_row, .int (o_size), .int (o_startCells), .int (o_modeNow)])), (a_o_masks, .inl (cI, 40, .inl (o_masks))), (a_o_row, .inr (2, [.ref a_o_row_tests, .int (o_row_size)])), (a_o_row_tests, .inl (cI, 8, .inl (o_row_tests)))] (some (.int r0)) := by
  refine Met.ofW (cc := cX4_passingIn) (maxL := 6) (ret := (some .int)) (by decide) rfl ?_
  intro p e s m args below meth c s₁ B hml hv
  obtain ⟨rfl, hP, hK⟩ := hv
  have hx := B.exec
  have hb := B.bytes
  have hr := B.returns
  have hts : ∀ w ∈ GW, w.before _ s = true := fun w hw => atoms_spec (ws := mws yX4_passingIn cX4_passingIn 6 (some .int)) B.pre w (List.mem_cons_of_mem _ hw)
  have hown : s.vm.findClass RX4 = some m.cls := findClass_of_methodNamed B.named
  have hlocks := B.notSynchronized
  have hl := lv_entry ([.ref a_o, .ref a_o_row]) (n := 6) (Nat.le_of_ble_eq_true rfl)
  rw [lg_entry_eq]
  generalize (lg_sl ([.ref a_o, .ref a_o_row]) ++ List.replicate (6 - (lg_sl ([.ref a_o, .ref a_o_row])).length) Slot.unset).toArray = ls at hl ⊢
  have hl : lv_has ls 6 [(0, .ref a_o), (1, .ref a_o_row)] := hl
  have S : CallFix p m c cX4_passingIn 6 s _ GW RX4 := ⟨hx, hb, hml, hown, hts⟩
  have L_10 : ∀ (n : Nat) (v2 : Int32) (v3 : Int32) (v4 : Int32), b_X4_passingIn_own_10 o_modeNow o_masks o_row_size o_row_tests n v2 v3 v4 = some r0 → ∀ (ls : Array Slot), lv_has ls 6 [(0, .ref a_o), (1, .ref a_o_row), (2, .int v2), (3, .int v3), (4, .int v4)] → W p l e (headSpec (mws yX4_passingIn cX4_passingIn 6 (some .int)) { frames := 2, cells := 0, slots := 0, locals := 46 }).room s m [.ref a_o, .ref a_o_row].toArray below meth c s.heap [] 0 0 (MQ below (roQ (some (.int r0))) [.ref a_o, .ref a_o_row].toArray s 0 0 noF) (F0 m 10 ls []) := by
    intro n
    induction n with
    | zero =>
      intro v2 v3 v4 h
      exact nn_no h
    | succ n ih =>
      intro v2 v3 v4 h ls hl
      rw [b_X4_passingIn_own_10] at h
      refine lv_iload hx hb dX4_passingIn_10 (lv_at hl 4 rfl) ?_
      refine lv_aload_n hx hb dX4_passingIn_12 rfl (lv_at hl 1 rfl) ?_
      refine gnX3_1 hx hb hts hown hK hP 2 rfl wnX4_44 dX4_passingIn_13 ?_
      refine lv_icmp_ge (tgt := 57) hx hb dX4_passingIn_16 (by decide) (fun c1 => ?_) (fun c1 => ?_)
      · have h := it_t c1 h
        refine lv_iload_n hx hb dX4_passingIn_57 rfl (lv_at hl 2 rfl) ?_
        exact W.iret hx hb hr (fun t ht _ => ⟨congrArg (fun z => Outcome.returned (some (Value.int z))) (Option.some.inj h), ht⟩) (fun q hq => by cases hq) dX4_passingIn_58
      · have h := it_f c1 h
        refine lv_aload_n hx hb dX4_passingIn_19 rfl (lv_at hl 1 rfl) ?_
        refine lv_iload hx hb dX4_passingIn_20 (lv_at hl 4 rfl) ?_
        obtain ⟨r2, hc3, h⟩ := bd1_use h
        refine ro_V (As := [.int v4]) (rest := []) S (c_X3_nth l D cI cS a_o_row a_o_row_tests o_row_size o_row_tests v4 r2 hc3) (cwV1 hts cvX3_nth wmX4_83 rfl rfl ⟨(Nat.le_of_ble_eq_true rfl), (Nat.le_of_ble_eq_true rfl)⟩) hK hP [2, 3] rfl 2 rfl rfl rfl rfl hl.1 rfl (Nat.le_of_ble_eq_true rfl) dX4_passingIn_22 ⟨Nat.zero_le _, Nat.zero_le _⟩ rfl ?_
        refine lv_istore (lv' := [(5, .int r2), (0, .ref a_o), (1, .ref a_o_row), (2, .int v2), (3, .int v3), (4, .int v4)]) hx hb dX4_passingIn_25 hl (by decide) rfl (fun ls hl => ?_)
        refine lv_iload_n hx hb dX4_passingIn_27 rfl (lv_at hl 3 rfl) ?_
        refine lv_aload_n hx hb dX4_passingIn_28 rfl (lv_at hl 1 rfl) ?_
        refine lv_iload hx hb dX4_passingIn_29 (lv_at hl 0 rfl) ?_
        refine lv_iload_n hx hb dX4_passingIn_31 rfl (lv_at hl 4 rfl) ?_
        obtain ⟨r4, hc5, h⟩ := bd1_use h
        refine ro_V (As := [.int r2, .int v3]) (rest := [.int v2]) S (c_X4_passesOn l D cI cS a_o a_o_masks a_o_row o_size o_startCells o_modeNow o_masks r2 v3 r4 hc5) (cwV1 hts cvX4_passesOn wmX4_79 rfl rfl ⟨(Nat.le_of_ble_eq_true rfl), (Nat.le_of_ble_eq_true rfl)⟩) hK hP [0, 1] rfl 0 rfl rfl rfl rfl hl.1 rfl (Nat.le_of_ble_eq_true rfl) dX4_passingIn_32 ⟨Nat.zero_le _, Nat.zero_le _⟩ rfl ?_
        obtain ⟨r6, hc7, h⟩ := bd1_use h
        refine ro_SN (As := [.int (b2i r4)]) (rest := [.int v2]) S (c_X6_oneIf l D cI cS (b2i r4) r6 hc7) (cwSN1 hts hK.2.1 csX6_oneIf wnX4_104 rfl rfl ⟨(Nat.le_of_ble_eq_true rfl), (Nat.le_of_ble_eq_true rfl)⟩) hK hP [] rfl rfl hl.1 rfl (Nat.le_of_ble_eq_true rfl) dX4_passingIn_35 ⟨Nat.zero_le _, Nat.zero_le _⟩ rfl ?_
        refine lv_iload hx hb dX4_passingIn_38 (lv_at hl 0 rfl) ?_
        refine lv_ishl hx hb dX4_passingIn_40 ?_
        refine lv_ior hx hb dX4_passingIn_41 ?_
        refine lv_topi (fun y8 ey8 => ?_)
        have h := nm_use h ey8
        refine lv_istore_n (lv' := [(2, .int y8), (5, .int r2), (0, .ref a_o), (1, .ref a_o_row), (3, .int v3), (4, .int v4)]) hx hb dX4_passingIn_42 rfl hl (by decide) rfl (fun ls hl => ?_)
        refine lv_aload_n hx hb dX4_passingIn_43 rfl (lv_at hl 2 rfl) ?_
        refine lv_iload hx hb dX4_passingIn_44 (lv_at hl 1 rfl) ?_
        refine lv_iload_n hx hb dX4_passingIn_46 rfl (lv_at hl 4 rfl) ?_
        obtain ⟨r9, hc10, h⟩ := bd1_use h
        refine ro_V (As := [.int r2, .int v3]) (rest := []) S (c_X4_cellsAfter l D cI cS a_o a_o_masks a_o_row o_size o_startCells o_modeNow o_masks r2 v3 r9 hc10) (cwV1 hts cvX4_cellsAfter wmX4_89 rfl rfl ⟨(Nat.le_of_ble_eq_true rfl), (Nat.le_of_ble_eq_true rfl)⟩) hK hP [0, 1] rfl 0 rfl rfl rfl rfl hl.1 rfl (Nat.le_of_ble_eq_true rfl) dX4_passingIn_47 ⟨Nat.zero_le _, Nat.zero_le _⟩ rfl ?_
        refine lv_istore_n (lv' := [(3, .int r9), (2, .int y8), (5, .int r2), (0, .ref a_o), (1, .ref a_o_row), (4, .int v4)]) hx hb dX4_passingIn_50 rfl hl (by decide) rfl (fun ls hl => ?_)
        obtain ⟨y11, ey11⟩ : ∃ z : Int32, z = v4 + (1 : Int32) := ⟨_, rfl⟩
        have h := nm_use h ey11
        refine lv_iinc (v := y11) (lv' := [(4, .int y11), (3, .int r9), (2, .int y8), (5, .int r2), (0, .ref a_o), (1, .ref a_o_row)]) hx hb dX4_passingIn_51 hl (k := 5) rfl (by rw [ey11]; rfl) (by decide) rfl (fun ls hl => ?_)
        refine lv_goto (tgt := 10) hx hb dX4_passingIn_54 (by decide) ?_
        exact ih _ _ _ h _ (lv_sub hl [4, 5, 2, 1, 0] rfl)
  unfold f_X4_passingIn_own at h
  refine lv_iconst (v := (0 : Int32)) hx hb dX4_passingIn_0 (by decide) ?_
  refine lv_istore_n (lv' := [(2, .int (0 : Int32)), (0, .ref a_o), (1, .ref a_o_row)]) hx hb dX4_passingIn_1 rfl hl (by decide) rfl (fun ls hl => ?_)
  refine lv_aload_n hx hb dX4_passingIn_2 rfl (lv_at hl 1 rfl) ?_
  refine gfX4_3 hx hb hts hown hK hP 0 rfl wfX4_48 dX4_passingIn_3 ?_
  refine lv_istore_n (lv' := [(3, .int o_startCells), (2, .int (0 : Int32)), (0, .ref a_o), (1, .ref a_o_row)]) hx hb dX4_passingIn_6 rfl hl (by decide) rfl (fun ls hl => ?_)
  refine lv_iconst (v := (0 : Int32)) hx hb dX4_passingIn_7 (by decide) ?_
  refine lv_istore (lv' := [(4, .int (0 : Int32)), (3, .int o_startCells), (2, .int (0 : Int32)), (0, .ref a_o), (1, .ref a_o_row)]) hx hb dX4_passingIn_8 hl (by decide) rfl (fun ls hl => ?_)
  exact L_10 _ _ _ _ h _ (lv_sub hl [3, 4, 2, 1, 0] rfl)
def b_X4_passingIn_10 (o_modeNow : Int32) (o_masks : Ar) (p1_size : Int32) (p1_tests : Ar) : Nat → Int32 → Int32 → Int32 → Option (Int32)
  | 0, _, _, _ => none
  | n + 1, v2, v3, v4 => (if p1_size ≤ v4 then some (v2) else bd1 (f_X3_nth p1_size p1_tests v4) (fun r2 => bd1 (f_X4_passesOn o_masks r2 v3) (fun r4 => bd1 (f_X6_oneIf (b2i r4)) (fun r6 => nm (v2 ||| (r6 <<< (r2 &&& (31 : Int32)))) (fun y8 => bd1 (f_X4_cellsAfter o_modeNow o_masks r2 v3) (fun r9 => nm (v4 + (1 : Int32)) (fun y11 => b_X4_passingIn_10 o_modeNow o_masks p1_size p1_tests n y8 r9 y11)))))))
def f_X4_passingIn (o_startCells : Int32) (o_modeNow : Int32) (o_masks : Ar) (p1_size : Int32) (p1_tests : Ar) : Option (Int32) := b_X4_passingIn_10 o_modeNow o_masks p1_size p1_tests FU (0 : Int32) o_startCells (0 : Int32)
set_option maxHeartbeats 4000000 in
set_option maxRecDepth 100000 in
theorem c_X4_passingIn (l : Launch) (D : va_G) (cI cS : ClassId) (a_o : Nat) (a_o_masks : Nat) (a_p1 : Nat) (a_p1_tests : Nat) (a_o_row : Nat) (o_size : Int32) (o_startCells : Int32) (o_modeNow : Int32) (o_masks : Ar) (p1_size : Int32) (p1_tests : Ar) (r0 : Int32) (h : f_X4_passingIn o_startCells o_modeNow o_masks p1_size p1_tests = some r0) : roM l D cI cS yX4_passingIn cX4_passingIn 6 (some .int) 2 46 [.ref a_o, .ref a_p1] [(a_o, .inr (3, [.ref a_o_masks, .ref a_o_row, .int (o_size), .int (o_startCells), .int (o_modeNow)])), (a_o_masks, .inl (cI, 40, .inl (o_masks))), (a_p1, .inr (2, [.ref a_p1_tests, .int (p1_size)])), (a_p1_tests, .inl (cI, 8, .inl (p1_tests)))] (some (.int r0)) := by
  refine Met.ofW (cc := cX4_passingIn) (maxL := 6) (ret := (some .int)) (by decide) rfl ?_
  intro p e s m args below meth c s₁ B hml hv
  obtain ⟨rfl, hP, hK⟩ := hv
  have hx := B.exec
  have hb := B.bytes
  have hr := B.returns
  have hts : ∀ w ∈ GW, w.before _ s = true := fun w hw => atoms_spec (ws := mws yX4_passingIn cX4_passingIn 6 (some .int)) B.pre w (List.mem_cons_of_mem _ hw)
  have hown : s.vm.findClass RX4 = some m.cls := findClass_of_methodNamed B.named
  have hlocks := B.notSynchronized
  have hl := lv_entry ([.ref a_o, .ref a_p1]) (n := 6) (Nat.le_of_ble_eq_true rfl)
  rw [lg_entry_eq]
  generalize (lg_sl ([.ref a_o, .ref a_p1]) ++ List.replicate (6 - (lg_sl ([.ref a_o, .ref a_p1])).length) Slot.unset).toArray = ls at hl ⊢
  have hl : lv_has ls 6 [(0, .ref a_o), (1, .ref a_p1)] := hl
  have S : CallFix p m c cX4_passingIn 6 s _ GW RX4 := ⟨hx, hb, hml, hown, hts⟩
  have L_10 : ∀ (n : Nat) (v2 : Int32) (v3 : Int32) (v4 : Int32), b_X4_passingIn_10 o_modeNow o_masks p1_size p1_tests n v2 v3 v4 = some r0 → ∀ (ls : Array Slot), lv_has ls 6 [(0, .ref a_o), (1, .ref a_p1), (2, .int v2), (3, .int v3), (4, .int v4)] → W p l e (headSpec (mws yX4_passingIn cX4_passingIn 6 (some .int)) { frames := 2, cells := 0, slots := 0, locals := 46 }).room s m [.ref a_o, .ref a_p1].toArray below meth c s.heap [] 0 0 (MQ below (roQ (some (.int r0))) [.ref a_o, .ref a_p1].toArray s 0 0 noF) (F0 m 10 ls []) := by
    intro n
    induction n with
    | zero =>
      intro v2 v3 v4 h
      exact nn_no h
    | succ n ih =>
      intro v2 v3 v4 h ls hl
      rw [b_X4_passingIn_10] at h
      refine lv_iload hx hb dX4_passingIn_10 (lv_at hl 4 rfl) ?_
      refine lv_aload_n hx hb dX4_passingIn_12 rfl (lv_at hl 1 rfl) ?_
      refine gnX3_1 hx hb hts hown hK hP 2 rfl wnX4_44 dX4_passingIn_13 ?_
      refine lv_icmp_ge (tgt := 57) hx hb dX4_passingIn_16 (by decide) (fun c1 => ?_) (fun c1 => ?_)
      · have h := it_t c1 h
        refine lv_iload_n hx hb dX4_passingIn_57 rfl (lv_at hl 2 rfl) ?_
        exact W.iret hx hb hr (fun t ht _ => ⟨congrArg (fun z => Outcome.returned (some (Value.int z))) (Option.some.inj h), ht⟩) (fun q hq => by cases hq) dX4_passingIn_58
      · have h := it_f c1 h
        refine lv_aload_n hx hb dX4_passingIn_19 rfl (lv_at hl 1 rfl) ?_
        refine lv_iload hx hb dX4_passingIn_20 (lv_at hl 4 rfl) ?_
        obtain ⟨r2, hc3, h⟩ := bd1_use h
        refine ro_V (As := [.int v4]) (rest := []) S (c_X3_nth l D cI cS a_p1 a_p1_tests p1_size p1_tests v4 r2 hc3) (cwV1 hts cvX3_nth wmX4_83 rfl rfl ⟨(Nat.le_of_ble_eq_true rfl), (Nat.le_of_ble_eq_true rfl)⟩) hK hP [2, 3] rfl 2 rfl rfl rfl rfl hl.1 rfl (Nat.le_of_ble_eq_true rfl) dX4_passingIn_22 ⟨Nat.zero_le _, Nat.zero_le _⟩ rfl ?_
        refine lv_istore (lv' := [(5, .int r2), (0, .ref a_o), (1, .ref a_p1), (2, .int v2), (3, .int v3), (4, .int v4)]) hx hb dX4_passingIn_25 hl (by decide) rfl (fun ls hl => ?_)
        refine lv_iload_n hx hb dX4_passingIn_27 rfl (lv_at hl 3 rfl) ?_
        refine lv_aload_n hx hb dX4_passingIn_28 rfl (lv_at hl 1 rfl) ?_
        refine lv_iload hx hb dX4_passingIn_29 (lv_at hl 0 rfl) ?_
        refine lv_iload_n hx hb dX4_passingIn_31 rfl (lv_at hl 4 rfl) ?_
        obtain ⟨r4, hc5, h⟩ := bd1_use h
        refine ro_V (As := [.int r2, .int v3]) (rest := [.int v2]) S (c_X4_passesOn l D cI cS a_o a_o_masks a_o_row o_size o_startCells o_modeNow o_masks r2 v3 r4 hc5) (cwV1 hts cvX4_passesOn wmX4_79 rfl rfl ⟨(Nat.le_of_ble_eq_true rfl), (Nat.le_of_ble_eq_true rfl)⟩) hK hP [0, 1] rfl 0 rfl rfl rfl rfl hl.1 rfl (Nat.le_of_ble_eq_true rfl) dX4_passingIn_32 ⟨Nat.zero_le _, Nat.zero_le _⟩ rfl ?_
        obtain ⟨r6, hc7, h⟩ := bd1_use h
        refine ro_SN (As := [.int (b2i r4)]) (rest := [.int v2]) S (c_X6_oneIf l D cI cS (b2i r4) r6 hc7) (cwSN1 hts hK.2.1 csX6_oneIf wnX4_104 rfl rfl ⟨(Nat.le_of_ble_eq_true rfl), (Nat.le_of_ble_eq_true rfl)⟩) hK hP [] rfl rfl hl.1 rfl (Nat.le_of_ble_eq_true rfl) dX4_passingIn_35 ⟨Nat.zero_le _, Nat.zero_le _⟩ rfl ?_
        refine lv_iload hx hb dX4_passingIn_38 (lv_at hl 0 rfl) ?_
        refine lv_ishl hx hb dX4_passingIn_40 ?_
        refine lv_ior hx hb dX4_passingIn_41 ?_
        refine lv_topi (fun y8 ey8 => ?_)
        have h := nm_use h ey8
        refine lv_istore_n (lv' := [(2, .int y8), (5, .int r2), (0, .ref a_o), (1, .ref a_p1), (3, .int v3), (4, .int v4)]) hx hb dX4_passingIn_42 rfl hl (by decide) rfl (fun ls hl => ?_)
        refine lv_aload_n hx hb dX4_passingIn_43 rfl (lv_at hl 2 rfl) ?_
        refine lv_iload hx hb dX4_passingIn_44 (lv_at hl 1 rfl) ?_
        refine lv_iload_n hx hb dX4_passingIn_46 rfl (lv_at hl 4 rfl) ?_
        obtain ⟨r9, hc10, h⟩ := bd1_use h
        refine ro_V (As := [.int r2, .int v3]) (rest := []) S (c_X4_cellsAfter l D cI cS a_o a_o_masks a_o_row o_size o_startCells o_modeNow o_masks r2 v3 r9 hc10) (cwV1 hts cvX4_cellsAfter wmX4_89 rfl rfl ⟨(Nat.le_of_ble_eq_true rfl), (Nat.le_of_ble_eq_true rfl)⟩) hK hP [0, 1] rfl 0 rfl rfl rfl rfl hl.1 rfl (Nat.le_of_ble_eq_true rfl) dX4_passingIn_47 ⟨Nat.zero_le _, Nat.zero_le _⟩ rfl ?_
        refine lv_istore_n (lv' := [(3, .int r9), (2, .int y8), (5, .int r2), (0, .ref a_o), (1, .ref a_p1), (4, .int v4)]) hx hb dX4_passingIn_50 rfl hl (by decide) rfl (fun ls hl => ?_)
        obtain ⟨y11, ey11⟩ : ∃ z : Int32, z = v4 + (1 : Int32) := ⟨_, rfl⟩
        have h := nm_use h ey11
        refine lv_iinc (v := y11) (lv' := [(4, .int y11), (3, .int r9), (2, .int y8), (5, .int r2), (0, .ref a_o), (1, .ref a_p1)]) hx hb dX4_passingIn_51 hl (k := 5) rfl (by rw [ey11]; rfl) (by decide) rfl (fun ls hl => ?_)
        refine lv_goto (tgt := 10) hx hb dX4_passingIn_54 (by decide) ?_
        exact ih _ _ _ h _ (lv_sub hl [4, 5, 2, 1, 0] rfl)
  unfold f_X4_passingIn at h
  refine lv_iconst (v := (0 : Int32)) hx hb dX4_passingIn_0 (by decide) ?_
  refine lv_istore_n (lv' := [(2, .int (0 : Int32)), (0, .ref a_o), (1, .ref a_p1)]) hx hb dX4_passingIn_1 rfl hl (by decide) rfl (fun ls hl => ?_)
  refine lv_aload_n hx hb dX4_passingIn_2 rfl (lv_at hl 1 rfl) ?_
  refine gfX4_3 hx hb hts hown hK hP 0 rfl wfX4_48 dX4_passingIn_3 ?_
  refine lv_istore_n (lv' := [(3, .int o_startCells), (2, .int (0 : Int32)), (0, .ref a_o), (1, .ref a_p1)]) hx hb dX4_passingIn_6 rfl hl (by decide) rfl (fun ls hl => ?_)
  refine lv_iconst (v := (0 : Int32)) hx hb dX4_passingIn_7 (by decide) ?_
  refine lv_istore (lv' := [(4, .int (0 : Int32)), (3, .int o_startCells), (2, .int (0 : Int32)), (0, .ref a_o), (1, .ref a_p1)]) hx hb dX4_passingIn_8 hl (by decide) rfl (fun ls hl => ?_)
  exact L_10 _ _ _ _ h _ (lv_sub hl [3, 4, 2, 1, 0] rfl)
def b_X4_passingAlone_4 (o_size : Int32) (o_startCells : Int32) (o_masks : Ar) : Nat → Int32 → Int32 → Option (Int32)
  | 0, _, _ => none
  | n + 1, v1, v2 => (if o_size ≤ v2 then some (v1) else bd1 (f_X4_passesOn o_masks v2 o_startCells) (fun r2 => bd1 (f_X6_oneIf (b2i r2)) (fun r4 => nm (v1 ||| (r4 <<< (v2 &&& (31 : Int32)))) (fun y6 => nm (v2 + (1 : Int32)) (fun y7 => b_X4_passingAlone_4 o_size o_startCells o_masks n y6 y7)))))
def f_X4_passingAlone (o_size : Int32) (o_startCells : Int32) (o_masks : Ar) : Option (Int32) := b_X4_passingAlone_4 o_size o_startCells o_masks FU (0 : Int32) (0 : Int32)
set_option maxHeartbeats 4000000 in
set_option maxRecDepth 100000 in
theorem c_X4_passingAlone (l : Launch) (D : va_G) (cI cS : ClassId) (a_o : Nat) (a_o_masks : Nat) (a_o_row : Nat) (o_size : Int32) (o_startCells : Int32) (o_modeNow : Int32) (o_masks : Ar) (r0 : Int32) (h : f_X4_passingAlone o_size o_startCells o_masks = some r0) : roM l D cI cS yX4_passingAlone cX4_passingAlone 3 (some .int) 2 45 [.ref a_o] [(a_o, .inr (3, [.ref a_o_masks, .ref a_o_row, .int (o_size), .int (o_startCells), .int (o_modeNow)])), (a_o_masks, .inl (cI, 40, .inl (o_masks)))] (some (.int r0)) := by
  refine Met.ofW (cc := cX4_passingAlone) (maxL := 3) (ret := (some .int)) (by decide) rfl ?_
  intro p e s m args below meth c s₁ B hml hv
  obtain ⟨rfl, hP, hK⟩ := hv
  have hx := B.exec
  have hb := B.bytes
  have hr := B.returns
  have hts : ∀ w ∈ GW, w.before _ s = true := fun w hw => atoms_spec (ws := mws yX4_passingAlone cX4_passingAlone 3 (some .int)) B.pre w (List.mem_cons_of_mem _ hw)
  have hown : s.vm.findClass RX4 = some m.cls := findClass_of_methodNamed B.named
  have hlocks := B.notSynchronized
  have hl := lv_entry ([.ref a_o]) (n := 3) (Nat.le_of_ble_eq_true rfl)
  rw [lg_entry_eq]
  generalize (lg_sl ([.ref a_o]) ++ List.replicate (3 - (lg_sl ([.ref a_o])).length) Slot.unset).toArray = ls at hl ⊢
  have hl : lv_has ls 3 [(0, .ref a_o)] := hl
  have S : CallFix p m c cX4_passingAlone 3 s _ GW RX4 := ⟨hx, hb, hml, hown, hts⟩
  have L_4 : ∀ (n : Nat) (v1 : Int32) (v2 : Int32), b_X4_passingAlone_4 o_size o_startCells o_masks n v1 v2 = some r0 → ∀ (ls : Array Slot), lv_has ls 3 [(0, .ref a_o), (1, .int v1), (2, .int v2)] → W p l e (headSpec (mws yX4_passingAlone cX4_passingAlone 3 (some .int)) { frames := 2, cells := 0, slots := 0, locals := 45 }).room s m [.ref a_o].toArray below meth c s.heap [] 0 0 (MQ below (roQ (some (.int r0))) [.ref a_o].toArray s 0 0 noF) (F0 m 4 ls []) := by
    intro n
    induction n with
    | zero =>
      intro v1 v2 h
      exact nn_no h
    | succ n ih =>
      intro v1 v2 h ls hl
      rw [b_X4_passingAlone_4] at h
      refine lv_iload_n hx hb dX4_passingAlone_4 rfl (lv_at hl 2 rfl) ?_
      refine lv_aload_n hx hb dX4_passingAlone_5 rfl (lv_at hl 0 rfl) ?_
      refine gfX4_2 hx hb hts hown hK hP 0 rfl wfX4_26 dX4_passingAlone_6 ?_
      refine lv_icmp_ge (tgt := 35) hx hb dX4_passingAlone_9 (by decide) (fun c1 => ?_) (fun c1 => ?_)
      · have h := it_t c1 h
        refine lv_iload_n hx hb dX4_passingAlone_35 rfl (lv_at hl 1 rfl) ?_
        exact W.iret hx hb hr (fun t ht _ => ⟨congrArg (fun z => Outcome.returned (some (Value.int z))) (Option.some.inj h), ht⟩) (fun q hq => by cases hq) dX4_passingAlone_36
      · have h := it_f c1 h
        refine lv_iload_n hx hb dX4_passingAlone_12 rfl (lv_at hl 1 rfl) ?_
        refine lv_aload_n hx hb dX4_passingAlone_13 rfl (lv_at hl 0 rfl) ?_
        refine lv_iload_n hx hb dX4_passingAlone_14 rfl (lv_at hl 2 rfl) ?_
        refine lv_aload_n hx hb dX4_passingAlone_15 rfl (lv_at hl 0 rfl) ?_
        refine gfX4_3 hx hb hts hown hK hP 0 rfl wfX4_48 dX4_passingAlone_16 ?_
        obtain ⟨r2, hc3, h⟩ := bd1_use h
        refine ro_V (As := [.int v2, .int o_startCells]) (rest := [.int v1]) S (c_X4_passesOn l D cI cS a_o a_o_masks a_o_row o_size o_startCells o_modeNow o_masks v2 o_startCells r2 hc3) (cwV1 hts cvX4_passesOn wmX4_79 rfl rfl ⟨(Nat.le_of_ble_eq_true rfl), (Nat.le_of_ble_eq_true rfl)⟩) hK hP [0, 1] rfl 0 rfl rfl rfl rfl hl.1 rfl (Nat.le_of_ble_eq_true rfl) dX4_passingAlone_19 ⟨Nat.zero_le _, Nat.zero_le _⟩ rfl ?_
        obtain ⟨r4, hc5, h⟩ := bd1_use h
        refine ro_SN (As := [.int (b2i r2)]) (rest := [.int v1]) S (c_X6_oneIf l D cI cS (b2i r2) r4 hc5) (cwSN1 hts hK.2.1 csX6_oneIf wnX4_104 rfl rfl ⟨(Nat.le_of_ble_eq_true rfl), (Nat.le_of_ble_eq_true rfl)⟩) hK hP [] rfl rfl hl.1 rfl (Nat.le_of_ble_eq_true rfl) dX4_passingAlone_22 ⟨Nat.zero_le _, Nat.zero_le _⟩ rfl ?_
        refine lv_iload_n hx hb dX4_passingAlone_25 rfl (lv_at hl 2 rfl) ?_
        refine lv_ishl hx hb dX4_passingAlone_26 ?_
        refine lv_ior hx hb dX4_passingAlone_27 ?_
        refine lv_topi (fun y6 ey6 => ?_)
        have h := nm_use h ey6
        refine lv_istore_n (lv' := [(1, .int y6), (0, .ref a_o), (2, .int v2)]) hx hb dX4_passingAlone_28 rfl hl (by decide) rfl (fun ls hl => ?_)
        obtain ⟨y7, ey7⟩ : ∃ z : Int32, z = v2 + (1 : Int32) := ⟨_, rfl⟩
        have h := nm_use h ey7
        refine lv_iinc (v := y7) (lv' := [(2, .int y7), (1, .int y6), (0, .ref a_o)]) hx hb dX4_passingAlone_29 hl (k := 2) rfl (by rw [ey7]; rfl) (by decide) rfl (fun ls hl => ?_)
        refine lv_goto (tgt := 4) hx hb dX4_passingAlone_32 (by decide) ?_
        exact ih _ _ h _ (lv_sub hl [2, 1, 0] rfl)
  unfold f_X4_passingAlone at h
  refine lv_iconst (v := (0 : Int32)) hx hb dX4_passingAlone_0 (by decide) ?_
  refine lv_istore_n (lv' := [(1, .int (0 : Int32)), (0, .ref a_o)]) hx hb dX4_passingAlone_1 rfl hl (by decide) rfl (fun ls hl => ?_)
  refine lv_iconst (v := (0 : Int32)) hx hb dX4_passingAlone_2 (by decide) ?_
  refine lv_istore_n (lv' := [(2, .int (0 : Int32)), (1, .int (0 : Int32)), (0, .ref a_o)]) hx hb dX4_passingAlone_3 rfl hl (by decide) rfl (fun ls hl => ?_)
  exact L_4 _ _ _ h _ (lv_sub hl [2, 1, 0] rfl)
def f_X4_flippedIn_own (o_size : Int32) (o_startCells : Int32) (o_modeNow : Int32) (o_masks : Ar) (o_row_size : Int32) (o_row_tests : Ar) : Option (Int32) := bd1 (f_X4_passingIn_own o_startCells o_modeNow o_masks o_row_size o_row_tests) (fun r1 => bd1 (f_X4_passingAlone o_size o_startCells o_masks) (fun r3 => bd1 (f_X3_setAhead o_row_size o_row_tests o_row_size) (fun r5 => some ((r1 ^^^ (r3 &&& r5))))))
set_option maxHeartbeats 4000000 in
set_option maxRecDepth 100000 in
theorem c_X4_flippedIn_own (l : Launch) (D : va_G) (cI cS : ClassId) (a_o : Nat) (a_o_masks : Nat) (a_o_row : Nat) (a_o_row_tests : Nat) (o_size : Int32) (o_startCells : Int32) (o_modeNow : Int32) (o_masks : Ar) (o_row_size : Int32) (o_row_tests : Ar) (r0 : Int32) (h : f_X4_flippedIn_own o_size o_startCells o_modeNow o_masks o_row_size o_row_tests = some r0) : roM l D cI cS yX4_flippedIn cX4_flippedIn 2 (some .int) 3 71 [.ref a_o, .ref a_o_row] [(a_o, .inr (3, [.ref a_o_masks, .ref a_o_row, .int (o_size), .int (o_startCells), .int (o_modeNow)])), (a_o_masks, .inl (cI, 40, .inl (o_masks))), (a_o_row, .inr (2, [.ref a_o_row_tests, .int (o_row_size)])), (a_o_row_tests, .inl (cI, 8, .inl (o_row_tests)))] (some (.int r0)) := by
  refine Met.ofW (cc := cX4_flippedIn) (maxL := 2) (ret := (some .int)) (by decide) rfl ?_
  intro p e s m args below meth c s₁ B hml hv
  obtain ⟨rfl, hP, hK⟩ := hv
  have hx := B.exec
  have hb := B.bytes
  have hr := B.returns
  have hts : ∀ w ∈ GW, w.before _ s = true := fun w hw => atoms_spec (ws := mws yX4_flippedIn cX4_flippedIn 2 (some .int)) B.pre w (List.mem_cons_of_mem _ hw)
  have hown : s.vm.findClass RX4 = some m.cls := findClass_of_methodNamed B.named
  have hlocks := B.notSynchronized
  have hl := lv_entry ([.ref a_o, .ref a_o_row]) (n := 2) (Nat.le_of_ble_eq_true rfl)
  rw [lg_entry_eq]
  generalize (lg_sl ([.ref a_o, .ref a_o_row]) ++ List.replicate (2 - (lg_sl ([.ref a_o, .ref a_o_row])).length) Slot.unset).toArray = ls at hl ⊢
  have hl : lv_has ls 2 [(0, .ref a_o), (1, .ref a_o_row)] := hl
  have S : CallFix p m c cX4_flippedIn 2 s _ GW RX4 := ⟨hx, hb, hml, hown, hts⟩
  unfold f_X4_flippedIn_own at h
  refine lv_aload_n hx hb dX4_flippedIn_0 rfl (lv_at hl 0 rfl) ?_
  refine lv_aload_n hx hb dX4_flippedIn_1 rfl (lv_at hl 1 rfl) ?_
  obtain ⟨r1, hc2, h⟩ := bd1_use h
  refine ro_V (As := [.ref a_o_row]) (rest := []) S (c_X4_passingIn_own l D cI cS a_o a_o_masks a_o_row a_o_row_tests o_size o_startCells o_modeNow o_masks o_row_size o_row_tests r1 hc2) (cwV1 hts cvX4_passingIn wmX4_108 rfl rfl ⟨(Nat.le_of_ble_eq_true rfl), (Nat.le_of_ble_eq_true rfl)⟩) hK hP [0, 1, 2, 3] rfl 0 rfl rfl rfl rfl hl.1 rfl (Nat.le_of_ble_eq_true rfl) dX4_flippedIn_2 ⟨Nat.zero_le _, Nat.zero_le _⟩ rfl ?_
  refine lv_aload_n hx hb dX4_flippedIn_5 rfl (lv_at hl 0 rfl) ?_
  obtain ⟨r3, hc4, h⟩ := bd1_use h
  refine ro_V (As := []) (rest := [.int r1]) S (c_X4_passingAlone l D cI cS a_o a_o_masks a_o_row o_size o_startCells o_modeNow o_masks r3 hc4) (cwV1 hts cvX4_passingAlone wmX4_112 rfl rfl ⟨(Nat.le_of_ble_eq_true rfl), (Nat.le_of_ble_eq_true rfl)⟩) hK hP [0, 1] rfl 0 rfl rfl rfl rfl hl.1 rfl (Nat.le_of_ble_eq_true rfl) dX4_flippedIn_6 ⟨Nat.zero_le _, Nat.zero_le _⟩ rfl ?_
  refine lv_aload_n hx hb dX4_flippedIn_9 rfl (lv_at hl 1 rfl) ?_
  refine lv_aload_n hx hb dX4_flippedIn_10 rfl (lv_at hl 1 rfl) ?_
  refine gnX3_1 hx hb hts hown hK hP 2 rfl wnX4_44 dX4_flippedIn_11 ?_
  obtain ⟨r5, hc6, h⟩ := bd1_use h
  refine ro_V (As := [.int o_row_size]) (rest := [.int r3, .int r1]) S (c_X3_setAhead l D cI cS a_o_row a_o_row_tests o_row_size o_row_tests o_row_size r5 hc6) (cwV1 hts cvX3_setAhead wmX4_98 rfl rfl ⟨(Nat.le_of_ble_eq_true rfl), (Nat.le_of_ble_eq_true rfl)⟩) hK hP [2, 3] rfl 2 rfl rfl rfl rfl hl.1 rfl (Nat.le_of_ble_eq_true rfl) dX4_flippedIn_14 ⟨Nat.zero_le _, Nat.zero_le _⟩ rfl ?_
  refine lv_iand hx hb dX4_flippedIn_17 ?_
  refine lv_ixor hx hb dX4_flippedIn_18 ?_
  exact W.iret hx hb hr (fun t ht _ => ⟨congrArg (fun z => Outcome.returned (some (Value.int z))) (Option.some.inj h), ht⟩) (fun q hq => by cases hq) dX4_flippedIn_19
def f_X4_flippedIn (o_size : Int32) (o_startCells : Int32) (o_modeNow : Int32) (o_masks : Ar) (p1_size : Int32) (p1_tests : Ar) : Option (Int32) := bd1 (f_X4_passingIn o_startCells o_modeNow o_masks p1_size p1_tests) (fun r1 => bd1 (f_X4_passingAlone o_size o_startCells o_masks) (fun r3 => bd1 (f_X3_setAhead p1_size p1_tests p1_size) (fun r5 => some ((r1 ^^^ (r3 &&& r5))))))
set_option maxHeartbeats 4000000 in
set_option maxRecDepth 100000 in
theorem c_X4_flippedIn (l : Launch) (D : va_G) (cI cS : ClassId) (a_o : Nat) (a_o_masks : Nat) (a_p1 : Nat) (a_p1_tests : Nat) (a_o_row : Nat) (o_size : Int32) (o_startCells : Int32) (o_modeNow : Int32) (o_masks : Ar) (p1_size : Int32) (p1_tests : Ar) (r0 : Int32) (h : f_X4_flippedIn o_size o_startCells o_modeNow o_masks p1_size p1_tests = some r0) : roM l D cI cS yX4_flippedIn cX4_flippedIn 2 (some .int) 3 71 [.ref a_o, .ref a_p1] [(a_o, .inr (3, [.ref a_o_masks, .ref a_o_row, .int (o_size), .int (o_startCells), .int (o_modeNow)])), (a_o_masks, .inl (cI, 40, .inl (o_masks))), (a_p1, .inr (2, [.ref a_p1_tests, .int (p1_size)])), (a_p1_tests, .inl (cI, 8, .inl (p1_tests)))] (some (.int r0)) := by
  refine Met.ofW (cc := cX4_flippedIn) (maxL := 2) (ret := (some .int)) (by decide) rfl ?_
  intro p e s m args below meth c s₁ B hml hv
  obtain ⟨rfl, hP, hK⟩ := hv
  have hx := B.exec
  have hb := B.bytes
  have hr := B.returns
  have hts : ∀ w ∈ GW, w.before _ s = true := fun w hw => atoms_spec (ws := mws yX4_flippedIn cX4_flippedIn 2 (some .int)) B.pre w (List.mem_cons_of_mem _ hw)
  have hown : s.vm.findClass RX4 = some m.cls := findClass_of_methodNamed B.named
  have hlocks := B.notSynchronized
  have hl := lv_entry ([.ref a_o, .ref a_p1]) (n := 2) (Nat.le_of_ble_eq_true rfl)
  rw [lg_entry_eq]
  generalize (lg_sl ([.ref a_o, .ref a_p1]) ++ List.replicate (2 - (lg_sl ([.ref a_o, .ref a_p1])).length) Slot.unset).toArray = ls at hl ⊢
  have hl : lv_has ls 2 [(0, .ref a_o), (1, .ref a_p1)] := hl
  have S : CallFix p m c cX4_flippedIn 2 s _ GW RX4 := ⟨hx, hb, hml, hown, hts⟩
  unfold f_X4_flippedIn at h
  refine lv_aload_n hx hb dX4_flippedIn_0 rfl (lv_at hl 0 rfl) ?_
  refine lv_aload_n hx hb dX4_flippedIn_1 rfl (lv_at hl 1 rfl) ?_
  obtain ⟨r1, hc2, h⟩ := bd1_use h
  refine ro_V (As := [.ref a_p1]) (rest := []) S (c_X4_passingIn l D cI cS a_o a_o_masks a_p1 a_p1_tests a_o_row o_size o_startCells o_modeNow o_masks p1_size p1_tests r1 hc2) (cwV1 hts cvX4_passingIn wmX4_108 rfl rfl ⟨(Nat.le_of_ble_eq_true rfl), (Nat.le_of_ble_eq_true rfl)⟩) hK hP [0, 1, 2, 3] rfl 0 rfl rfl rfl rfl hl.1 rfl (Nat.le_of_ble_eq_true rfl) dX4_flippedIn_2 ⟨Nat.zero_le _, Nat.zero_le _⟩ rfl ?_
  refine lv_aload_n hx hb dX4_flippedIn_5 rfl (lv_at hl 0 rfl) ?_
  obtain ⟨r3, hc4, h⟩ := bd1_use h
  refine ro_V (As := []) (rest := [.int r1]) S (c_X4_passingAlone l D cI cS a_o a_o_masks a_o_row o_size o_startCells o_modeNow o_masks r3 hc4) (cwV1 hts cvX4_passingAlone wmX4_112 rfl rfl ⟨(Nat.le_of_ble_eq_true rfl), (Nat.le_of_ble_eq_true rfl)⟩) hK hP [0, 1] rfl 0 rfl rfl rfl rfl hl.1 rfl (Nat.le_of_ble_eq_true rfl) dX4_flippedIn_6 ⟨Nat.zero_le _, Nat.zero_le _⟩ rfl ?_
  refine lv_aload_n hx hb dX4_flippedIn_9 rfl (lv_at hl 1 rfl) ?_
  refine lv_aload_n hx hb dX4_flippedIn_10 rfl (lv_at hl 1 rfl) ?_
  refine gnX3_1 hx hb hts hown hK hP 2 rfl wnX4_44 dX4_flippedIn_11 ?_
  obtain ⟨r5, hc6, h⟩ := bd1_use h
  refine ro_V (As := [.int p1_size]) (rest := [.int r3, .int r1]) S (c_X3_setAhead l D cI cS a_p1 a_p1_tests p1_size p1_tests p1_size r5 hc6) (cwV1 hts cvX3_setAhead wmX4_98 rfl rfl ⟨(Nat.le_of_ble_eq_true rfl), (Nat.le_of_ble_eq_true rfl)⟩) hK hP [2, 3] rfl 2 rfl rfl rfl rfl hl.1 rfl (Nat.le_of_ble_eq_true rfl) dX4_flippedIn_14 ⟨Nat.zero_le _, Nat.zero_le _⟩ rfl ?_
  refine lv_iand hx hb dX4_flippedIn_17 ?_
  refine lv_ixor hx hb dX4_flippedIn_18 ?_
  exact W.iret hx hb hr (fun t ht _ => ⟨congrArg (fun z => Outcome.returned (some (Value.int z))) (Option.some.inj h), ht⟩) (fun q hq => by cases hq) dX4_flippedIn_19
def b_X4_lastToChange_11 (o_modeNow : Int32) (o_masks : Ar) (o_row_size : Int32) (o_row_tests : Ar) (x1 : Int32) (x2 : Int32) : Nat → Int32 → Int32 → Int32 → Option (Int32)
  | 0, _, _, _ => none
  | n + 1, v3, v4, v5 => (if x2 ≤ v5 then some (v3) else (if o_row_size ≤ v5 then some (v3) else bd1 (f_X3_nth o_row_size o_row_tests v5) (fun r3 => bd1 (f_X4_cellsAfter o_modeNow o_masks r3 v4) (fun r5 => bd1 (f_X6_isIn x1 (v4 ^^^ r5)) (fun r7 => (if (b2i r7) = (0 : Int32) then nm (v5 + (1 : Int32)) (fun y10 => b_X4_lastToChange_11 o_modeNow o_masks o_row_size o_row_tests x1 x2 n v3 r5 y10) else nm (v5 + (1 : Int32)) (fun y11 => b_X4_lastToChange_11 o_modeNow o_masks o_row_size o_row_tests x1 x2 n r3 r5 y11)))))))
def f_X4_lastToChange (o_startCells : Int32) (o_modeNow : Int32) (o_masks : Ar) (o_row_size : Int32) (o_row_tests : Ar) (x1 : Int32) (x2 : Int32) : Option (Int32) := b_X4_lastToChange_11 o_modeNow o_masks o_row_size o_row_tests x1 x2 FU (-1 : Int32) o_startCells (0 : Int32)
set_option maxHeartbeats 4000000 in
set_option maxRecDepth 100000 in
theorem c_X4_lastToChange (l : Launch) (D : va_G) (cI cS : ClassId) (a_o : Nat) (a_o_masks : Nat) (a_o_row : Nat) (a_o_row_tests : Nat) (o_size : Int32) (o_startCells : Int32) (o_modeNow : Int32) (o_masks : Ar) (o_row_size : Int32) (o_row_tests : Ar) (x1 : Int32) (x2 : Int32) (r0 : Int32) (h : f_X4_lastToChange o_startCells o_modeNow o_masks o_row_size o_row_tests x1 x2 = some r0) : roM l D cI cS yX4_lastToChange cX4_lastToChange 8 (some .int) 2 46 [.ref a_o, .int x1, .int x2] [(a_o, .inr (3, [.ref a_o_masks, .ref a_o_row, .int (o_size), .int (o_startCells), .int (o_modeNow)])), (a_o_masks, .inl (cI, 40, .inl (o_masks))), (a_o_row, .inr (2, [.ref a_o_row_tests, .int (o_row_size)])), (a_o_row_tests, .inl (cI, 8, .inl (o_row_tests)))] (some (.int r0)) := by
  refine Met.ofW (cc := cX4_lastToChange) (maxL := 8) (ret := (some .int)) (by decide) rfl ?_
  intro p e s m args below meth c s₁ B hml hv
  obtain ⟨rfl, hP, hK⟩ := hv
  have hx := B.exec
  have hb := B.bytes
  have hr := B.returns
  have hts : ∀ w ∈ GW, w.before _ s = true := fun w hw => atoms_spec (ws := mws yX4_lastToChange cX4_lastToChange 8 (some .int)) B.pre w (List.mem_cons_of_mem _ hw)
  have hown : s.vm.findClass RX4 = some m.cls := findClass_of_methodNamed B.named
  have hlocks := B.notSynchronized
  have hl := lv_entry ([.ref a_o, .int x1, .int x2]) (n := 8) (Nat.le_of_ble_eq_true rfl)
  rw [lg_entry_eq]
  generalize (lg_sl ([.ref a_o, .int x1, .int x2]) ++ List.replicate (8 - (lg_sl ([.ref a_o, .int x1, .int x2])).length) Slot.unset).toArray = ls at hl ⊢
  have hl : lv_has ls 8 [(0, .ref a_o), (1, .int x1), (2, .int x2)] := hl
  have S : CallFix p m c cX4_lastToChange 8 s _ GW RX4 := ⟨hx, hb, hml, hown, hts⟩
  have L_11 : ∀ (n : Nat) (v3 : Int32) (v4 : Int32) (v5 : Int32), b_X4_lastToChange_11 o_modeNow o_masks o_row_size o_row_tests x1 x2 n v3 v4 v5 = some r0 → ∀ (ls : Array Slot), lv_has ls 8 [(0, .ref a_o), (1, .int x1), (2, .int x2), (3, .int v3), (4, .int v4), (5, .int v5)] → W p l e (headSpec (mws yX4_lastToChange cX4_lastToChange 8 (some .int)) { frames := 2, cells := 0, slots := 0, locals := 46 }).room s m [.ref a_o, .int x1, .int x2].toArray below meth c s.heap [] 0 0 (MQ below (roQ (some (.int r0))) [.ref a_o, .int x1, .int x2].toArray s 0 0 noF) (F0 m 11 ls []) := by
    intro n
    induction n with
    | zero =>
      intro v3 v4 v5 h
      exact nn_no h
    | succ n ih =>
      intro v3 v4 v5 h ls hl
      rw [b_X4_lastToChange_11] at h
      refine lv_iload hx hb dX4_lastToChange_11 (lv_at hl 5 rfl) ?_
      refine lv_iload_n hx hb dX4_lastToChange_13 rfl (lv_at hl 2 rfl) ?_
      refine lv_icmp_ge (tgt := 75) hx hb dX4_lastToChange_14 (by decide) (fun c1 => ?_) (fun c1 => ?_)
      · have h := it_t c1 h
        refine lv_iload_n hx hb dX4_lastToChange_75 rfl (lv_at hl 3 rfl) ?_
        exact W.iret hx hb hr (fun t ht _ => ⟨congrArg (fun z => Outcome.returned (some (Value.int z))) (Option.some.inj h), ht⟩) (fun q hq => by cases hq) dX4_lastToChange_76
      · have h := it_f c1 h
        refine lv_iload hx hb dX4_lastToChange_17 (lv_at hl 5 rfl) ?_
        refine lv_aload_n hx hb dX4_lastToChange_19 rfl (lv_at hl 0 rfl) ?_
        refine gfX4_1 hx hb hts hown hK hP 0 rfl wfX4_18 dX4_lastToChange_20 ?_
        refine gnX3_1 hx hb hts hown hK hP 2 rfl wnX4_44 dX4_lastToChange_23 ?_
        refine lv_icmp_ge (tgt := 75) hx hb dX4_lastToChange_26 (by decide) (fun c2 => ?_) (fun c2 => ?_)
        · have h := it_t c2 h
          refine lv_iload_n hx hb dX4_lastToChange_75 rfl (lv_at hl 3 rfl) ?_
          exact W.iret hx hb hr (fun t ht _ => ⟨congrArg (fun z => Outcome.returned (some (Value.int z))) (Option.some.inj h), ht⟩) (fun q hq => by cases hq) dX4_lastToChange_76
        · have h := it_f c2 h
          refine lv_aload_n hx hb dX4_lastToChange_29 rfl (lv_at hl 0 rfl) ?_
          refine gfX4_1 hx hb hts hown hK hP 0 rfl wfX4_18 dX4_lastToChange_30 ?_
          refine lv_iload hx hb dX4_lastToChange_33 (lv_at hl 5 rfl) ?_
          obtain ⟨r3, hc4, h⟩ := bd1_use h
          refine ro_V (As := [.int v5]) (rest := []) S (c_X3_nth l D cI cS a_o_row a_o_row_tests o_row_size o_row_tests v5 r3 hc4) (cwV1 hts cvX3_nth wmX4_83 rfl rfl ⟨(Nat.le_of_ble_eq_true rfl), (Nat.le_of_ble_eq_true rfl)⟩) hK hP [2, 3] rfl 2 rfl rfl rfl rfl hl.1 rfl (Nat.le_of_ble_eq_true rfl) dX4_lastToChange_35 ⟨Nat.zero_le _, Nat.zero_le _⟩ rfl ?_
          refine lv_istore (lv' := [(6, .int r3), (0, .ref a_o), (1, .int x1), (2, .int x2), (3, .int v3), (4, .int v4), (5, .int v5)]) hx hb dX4_lastToChange_38 hl (by decide) rfl (fun ls hl => ?_)
          refine lv_aload_n hx hb dX4_lastToChange_40 rfl (lv_at hl 1 rfl) ?_
          refine lv_iload hx hb dX4_lastToChange_41 (lv_at hl 0 rfl) ?_
          refine lv_iload hx hb dX4_lastToChange_43 (lv_at hl 5 rfl) ?_
          obtain ⟨r5, hc6, h⟩ := bd1_use h
          refine ro_V (As := [.int r3, .int v4]) (rest := []) S (c_X4_cellsAfter l D cI cS a_o a_o_masks a_o_row o_size o_startCells o_modeNow o_masks r3 v4 r5 hc6) (cwV1 hts cvX4_cellsAfter wmX4_89 rfl rfl ⟨(Nat.le_of_ble_eq_true rfl), (Nat.le_of_ble_eq_true rfl)⟩) hK hP [0, 1] rfl 0 rfl rfl rfl rfl hl.1 rfl (Nat.le_of_ble_eq_true rfl) dX4_lastToChange_45 ⟨Nat.zero_le _, Nat.zero_le _⟩ rfl ?_
          refine lv_istore (lv' := [(7, .int r5), (6, .int r3), (0, .ref a_o), (1, .int x1), (2, .int x2), (3, .int v3), (4, .int v4), (5, .int v5)]) hx hb dX4_lastToChange_48 hl (by decide) rfl (fun ls hl => ?_)
          refine lv_iload_n hx hb dX4_lastToChange_50 rfl (lv_at hl 3 rfl) ?_
          refine lv_iload hx hb dX4_lastToChange_51 (lv_at hl 6 rfl) ?_
          refine lv_iload hx hb dX4_lastToChange_53 (lv_at hl 0 rfl) ?_
          refine lv_ixor hx hb dX4_lastToChange_55 ?_
          obtain ⟨r7, hc8, h⟩ := bd1_use h
          refine ro_SN (As := [.int x1, .int (v4 ^^^ r5)]) (rest := []) S (c_X6_isIn l D cI cS x1 (v4 ^^^ r5) r7 hc8) (cwSN1 hts hK.2.1 csX6_isIn wnX4_86 rfl rfl ⟨(Nat.le_of_ble_eq_true rfl), (Nat.le_of_ble_eq_true rfl)⟩) hK hP [] rfl rfl hl.1 rfl (Nat.le_of_ble_eq_true rfl) dX4_lastToChange_56 ⟨Nat.zero_le _, Nat.zero_le _⟩ rfl ?_
          refine lv_if_eq (tgt := 65) hx hb dX4_lastToChange_59 (by decide) (fun c9 => ?_) (fun c9 => ?_)
          · have h := it_t c9 h
            refine lv_iload hx hb dX4_lastToChange_65 (lv_at hl 0 rfl) ?_
            refine lv_istore (lv' := [(4, .int r5), (7, .int r5), (6, .int r3), (0, .ref a_o), (1, .int x1), (2, .int x2), (3, .int v3), (5, .int v5)]) hx hb dX4_lastToChange_67 hl (by decide) rfl (fun ls hl => ?_)
            obtain ⟨y10, ey10⟩ : ∃ z : Int32, z = v5 + (1 : Int32) := ⟨_, rfl⟩
            have h := nm_use h ey10
            refine lv_iinc (v := y10) (lv' := [(5, .int y10), (4, .int r5), (7, .int r5), (6, .int r3), (0, .ref a_o), (1, .int x1), (2, .int x2), (3, .int v3)]) hx hb dX4_lastToChange_69 hl (k := 7) rfl (by rw [ey10]; rfl) (by decide) rfl (fun ls hl => ?_)
            refine lv_goto (tgt := 11) hx hb dX4_lastToChange_72 (by decide) ?_
            exact ih _ _ _ h _ (lv_sub hl [4, 5, 6, 7, 1, 0] rfl)
          · have h := it_f c9 h
            refine lv_iload hx hb dX4_lastToChange_62 (lv_at hl 1 rfl) ?_
            refine lv_istore_n (lv' := [(3, .int r3), (7, .int r5), (6, .int r3), (0, .ref a_o), (1, .int x1), (2, .int x2), (4, .int v4), (5, .int v5)]) hx hb dX4_lastToChange_64 rfl hl (by decide) rfl (fun ls hl => ?_)
            refine lv_iload hx hb dX4_lastToChange_65 (lv_at hl 1 rfl) ?_
            refine lv_istore (lv' := [(4, .int r5), (3, .int r3), (7, .int r5), (6, .int r3), (0, .ref a_o), (1, .int x1), (2, .int x2), (5, .int v5)]) hx hb dX4_lastToChange_67 hl (by decide) rfl (fun ls hl => ?_)
            obtain ⟨y11, ey11⟩ : ∃ z : Int32, z = v5 + (1 : Int32) := ⟨_, rfl⟩
            have h := nm_use h ey11
            refine lv_iinc (v := y11) (lv' := [(5, .int y11), (4, .int r5), (3, .int r3), (7, .int r5), (6, .int r3), (0, .ref a_o), (1, .int x1), (2, .int x2)]) hx hb dX4_lastToChange_69 hl (k := 7) rfl (by rw [ey11]; rfl) (by decide) rfl (fun ls hl => ?_)
            refine lv_goto (tgt := 11) hx hb dX4_lastToChange_72 (by decide) ?_
            exact ih _ _ _ h _ (lv_sub hl [5, 6, 7, 2, 1, 0] rfl)
  unfold f_X4_lastToChange at h
  refine lv_iconst (v := (-1 : Int32)) hx hb dX4_lastToChange_0 (by decide) ?_
  refine lv_istore_n (lv' := [(3, .int (-1 : Int32)), (0, .ref a_o), (1, .int x1), (2, .int x2)]) hx hb dX4_lastToChange_1 rfl hl (by decide) rfl (fun ls hl => ?_)
  refine lv_aload_n hx hb dX4_lastToChange_2 rfl (lv_at hl 1 rfl) ?_
  refine gfX4_3 hx hb hts hown hK hP 0 rfl wfX4_48 dX4_lastToChange_3 ?_
  refine lv_istore (lv' := [(4, .int o_startCells), (3, .int (-1 : Int32)), (0, .ref a_o), (1, .int x1), (2, .int x2)]) hx hb dX4_lastToChange_6 hl (by decide) rfl (fun ls hl => ?_)
  refine lv_iconst (v := (0 : Int32)) hx hb dX4_lastToChange_8 (by decide) ?_
  refine lv_istore (lv' := [(5, .int (0 : Int32)), (4, .int o_startCells), (3, .int (-1 : Int32)), (0, .ref a_o), (1, .int x1), (2, .int x2)]) hx hb dX4_lastToChange_9 hl (by decide) rfl (fun ls hl => ?_)
  exact L_11 _ _ _ _ h _ (lv_sub hl [3, 4, 5, 2, 1, 0] rfl)
def f_X4_doesSoil (o_startCells : Int32) (o_modeNow : Int32) (o_masks : Ar) (x1 : Int32) (x2 : Int32) : Option (Bool) := (if x1 = x2 then some (false) else bd1 (f_X4_cellsAfter o_modeNow o_masks x1 o_startCells) (fun r2 => bd1 (f_X4_isFlippedOn o_startCells o_masks x2 r2) (fun r4 => (if (b2i r4) = (0 : Int32) then some (false) else some (true)))))
set_option maxHeartbeats 4000000 in
set_option maxRecDepth 100000 in
theorem c_X4_doesSoil (l : Launch) (D : va_G) (cI cS : ClassId) (a_o : Nat) (a_o_masks : Nat) (a_o_row : Nat) (o_size : Int32) (o_startCells : Int32) (o_modeNow : Int32) (o_masks : Ar) (x1 : Int32) (x2 : Int32) (r0 : Bool) (h : f_X4_doesSoil o_startCells o_modeNow o_masks x1 x2 = some r0) : roM l D cI cS yX4_doesSoil cX4_doesSoil 3 (some .boolean) 3 67 [.ref a_o, .int x1, .int x2] [(a_o, .inr (3, [.ref a_o_masks, .ref a_o_row, .int (o_size), .int (o_startCells), .int (o_modeNow)])), (a_o_masks, .inl (cI, 40, .inl (o_masks)))] (some (.int (b2i r0))) := by
  refine Met.ofW (cc := cX4_doesSoil) (maxL := 3) (ret := (some .boolean)) (by decide) rfl ?_
  intro p e s m args below meth c s₁ B hml hv
  obtain ⟨rfl, hP, hK⟩ := hv
  have hx := B.exec
  have hb := B.bytes
  have hr := B.returns
  have hts : ∀ w ∈ GW, w.before _ s = true := fun w hw => atoms_spec (ws := mws yX4_doesSoil cX4_doesSoil 3 (some .boolean)) B.pre w (List.mem_cons_of_mem _ hw)
  have hown : s.vm.findClass RX4 = some m.cls := findClass_of_methodNamed B.named
  have hlocks := B.notSynchronized
  have hl := lv_entry ([.ref a_o, .int x1, .int x2]) (n := 3) (Nat.le_of_ble_eq_true rfl)
  rw [lg_entry_eq]
  generalize (lg_sl ([.ref a_o, .int x1, .int x2]) ++ List.replicate (3 - (lg_sl ([.ref a_o, .int x1, .int x2])).length) Slot.unset).toArray = ls at hl ⊢
  have hl : lv_has ls 3 [(0, .ref a_o), (1, .int x1), (2, .int x2)] := hl
  have S : CallFix p m c cX4_doesSoil 3 s _ GW RX4 := ⟨hx, hb, hml, hown, hts⟩
  unfold f_X4_doesSoil at h
  refine lv_iload_n hx hb dX4_doesSoil_0 rfl (lv_at hl 1 rfl) ?_
  refine lv_iload_n hx hb dX4_doesSoil_1 rfl (lv_at hl 2 rfl) ?_
  refine lv_icmp_eq (tgt := 26) hx hb dX4_doesSoil_2 (by decide) (fun c1 => ?_) (fun c1 => ?_)
  · have h := it_t c1 h
    refine lv_iconst (v := (0 : Int32)) hx hb dX4_doesSoil_26 (by decide) ?_
    exact W.zret hx hb hr rfl (fun t ht _ => ⟨congrArg (fun z => Outcome.returned (some (Value.int (b2i z)))) (Option.some.inj h), ht⟩) (fun q hq => by cases hq) dX4_doesSoil_27
  · have h := it_f c1 h
    refine lv_aload_n hx hb dX4_doesSoil_5 rfl (lv_at hl 0 rfl) ?_
    refine lv_iload_n hx hb dX4_doesSoil_6 rfl (lv_at hl 2 rfl) ?_
    refine lv_aload_n hx hb dX4_doesSoil_7 rfl (lv_at hl 0 rfl) ?_
    refine lv_iload_n hx hb dX4_doesSoil_8 rfl (lv_at hl 1 rfl) ?_
    refine lv_aload_n hx hb dX4_doesSoil_9 rfl (lv_at hl 0 rfl) ?_
    refine gfX4_3 hx hb hts hown hK hP 0 rfl wfX4_48 dX4_doesSoil_10 ?_
    obtain ⟨r2, hc3, h⟩ := bd1_use h
    refine ro_V (As := [.int x1, .int o_startCells]) (rest := [.int x2, .ref a_o]) S (c_X4_cellsAfter l D cI cS a_o a_o_masks a_o_row o_size o_startCells o_modeNow o_masks x1 o_startCells r2 hc3) (cwV1 hts cvX4_cellsAfter wmX4_89 rfl rfl ⟨(Nat.le_of_ble_eq_true rfl), (Nat.le_of_ble_eq_true rfl)⟩) hK hP [0, 1] rfl 0 rfl rfl rfl rfl hl.1 rfl (Nat.le_of_ble_eq_true rfl) dX4_doesSoil_13 ⟨Nat.zero_le _, Nat.zero_le _⟩ rfl ?_
    obtain ⟨r4, hc5, h⟩ := bd1_use h
    refine ro_V (As := [.int x2, .int r2]) (rest := []) S (c_X4_isFlippedOn l D cI cS a_o a_o_masks a_o_row o_size o_startCells o_modeNow o_masks x2 r2 r4 hc5) (cwV1 hts cvX4_isFlippedOn wmX4_95 rfl rfl ⟨(Nat.le_of_ble_eq_true rfl), (Nat.le_of_ble_eq_true rfl)⟩) hK hP [0, 1] rfl 0 rfl rfl rfl rfl hl.1 rfl (Nat.le_of_ble_eq_true rfl) dX4_doesSoil_16 ⟨Nat.zero_le _, Nat.zero_le _⟩ rfl ?_
    refine lv_if_eq (tgt := 26) hx hb dX4_doesSoil_19 (by decide) (fun c6 => ?_) (fun c6 => ?_)
    · have h := it_t c6 h
      refine lv_iconst (v := (0 : Int32)) hx hb dX4_doesSoil_26 (by decide) ?_
      exact W.zret hx hb hr rfl (fun t ht _ => ⟨congrArg (fun z => Outcome.returned (some (Value.int (b2i z)))) (Option.some.inj h), ht⟩) (fun q hq => by cases hq) dX4_doesSoil_27
    · have h := it_f c6 h
      refine lv_iconst (v := (1 : Int32)) hx hb dX4_doesSoil_22 (by decide) ?_
      refine lv_goto (tgt := 27) hx hb dX4_doesSoil_23 (by decide) ?_
      exact W.zret hx hb hr rfl (fun t ht _ => ⟨congrArg (fun z => Outcome.returned (some (Value.int (b2i z)))) (Option.some.inj h), ht⟩) (fun q hq => by cases hq) dX4_doesSoil_27
def b_X4_soilingPairs_14 (o_size : Int32) (o_startCells : Int32) (o_modeNow : Int32) (o_masks : Ar) (k_4 : Int32 → Int32 → Option (Int32)) : Nat → Int32 → Int32 → Int32 → Option (Int32)
  | 0, _, _, _ => none
  | n + 1, v1, v2, v3 => (if o_size ≤ v3 then nm (v2 + (1 : Int32)) (fun y2 => k_4 v1 y2) else bd1 (f_X4_doesSoil o_startCells o_modeNow o_masks v2 v3) (fun r3 => bd1 (f_X6_oneIf (b2i r3)) (fun r5 => nm (v1 + r5) (fun y7 => nm (v3 + (1 : Int32)) (fun y8 => b_X4_soilingPairs_14 o_size o_startCells o_modeNow o_masks k_4 n y7 v2 y8)))))
def b_X4_soilingPairs_4 (o_size : Int32) (o_startCells : Int32) (o_modeNow : Int32) (o_masks : Ar) : Nat → Int32 → Int32 → Option (Int32)
  | 0, _, _ => none
  | n + 1, v1, v2 => (if o_size ≤ v2 then some (v1) else b_X4_soilingPairs_14 o_size o_startCells o_modeNow o_masks (fun z0 z1 => b_X4_soilingPairs_4 o_size o_startCells o_modeNow o_masks n z0 z1) FU v1 v2 (0 : Int32))
def f_X4_soilingPairs (o_size : Int32) (o_startCells : Int32) (o_modeNow : Int32) (o_masks : Ar) : Option (Int32) := b_X4_soilingPairs_4 o_size o_startCells o_modeNow o_masks FU (0 : Int32) (0 : Int32)
set_option maxHeartbeats 4000000 in
set_option maxRecDepth 100000 in
theorem c_X4_soilingPairs (l : Launch) (D : va_G) (cI cS : ClassId) (a_o : Nat) (a_o_masks : Nat) (a_o_row : Nat) (o_size : Int32) (o_startCells : Int32) (o_modeNow : Int32) (o_masks : Ar) (r0 : Int32) (h : f_X4_soilingPairs o_size o_startCells o_modeNow o_masks = some r0) : roM l D cI cS yX4_soilingPairs cX4_soilingPairs 4 (some .int) 4 89 [.ref a_o] [(a_o, .inr (3, [.ref a_o_masks, .ref a_o_row, .int (o_size), .int (o_startCells), .int (o_modeNow)])), (a_o_masks, .inl (cI, 40, .inl (o_masks)))] (some (.int r0)) := by
  refine Met.ofW (cc := cX4_soilingPairs) (maxL := 4) (ret := (some .int)) (by decide) rfl ?_
  intro p e s m args below meth c s₁ B hml hv
  obtain ⟨rfl, hP, hK⟩ := hv
  have hx := B.exec
  have hb := B.bytes
  have hr := B.returns
  have hts : ∀ w ∈ GW, w.before _ s = true := fun w hw => atoms_spec (ws := mws yX4_soilingPairs cX4_soilingPairs 4 (some .int)) B.pre w (List.mem_cons_of_mem _ hw)
  have hown : s.vm.findClass RX4 = some m.cls := findClass_of_methodNamed B.named
  have hlocks := B.notSynchronized
  have hl := lv_entry ([.ref a_o]) (n := 4) (Nat.le_of_ble_eq_true rfl)
  rw [lg_entry_eq]
  generalize (lg_sl ([.ref a_o]) ++ List.replicate (4 - (lg_sl ([.ref a_o])).length) Slot.unset).toArray = ls at hl ⊢
  have hl : lv_has ls 4 [(0, .ref a_o)] := hl
  have S : CallFix p m c cX4_soilingPairs 4 s _ GW RX4 := ⟨hx, hb, hml, hown, hts⟩
  have L_14 : ∀ (k_4 : Int32 → Int32 → Option (Int32)) (hk_4 : ∀ (v1 : Int32) (v2 : Int32), k_4 v1 v2 = some r0 → ∀ (ls : Array Slot), lv_has ls 4 [(0, .ref a_o), (1, .int v1), (2, .int v2)] → W p l e (headSpec (mws yX4_soilingPairs cX4_soilingPairs 4 (some .int)) { frames := 4, cells := 0, slots := 0, locals := 89 }).room s m [.ref a_o].toArray below meth c s.heap [] 0 0 (MQ below (roQ (some (.int r0))) [.ref a_o].toArray s 0 0 noF) (F0 m 4 ls [])) (n : Nat) (v1 : Int32) (v2 : Int32) (v3 : Int32), b_X4_soilingPairs_14 o_size o_startCells o_modeNow o_masks k_4 n v1 v2 v3 = some r0 → ∀ (ls : Array Slot), lv_has ls 4 [(0, .ref a_o), (1, .int v1), (2, .int v2), (3, .int v3)] → W p l e (headSpec (mws yX4_soilingPairs cX4_soilingPairs 4 (some .int)) { frames := 4, cells := 0, slots := 0, locals := 89 }).room s m [.ref a_o].toArray below meth c s.heap [] 0 0 (MQ below (roQ (some (.int r0))) [.ref a_o].toArray s 0 0 noF) (F0 m 14 ls []) := by
    intro k_4 hk_4 n
    induction n with
    | zero =>
      intro v1 v2 v3 h
      exact nn_no h
    | succ n ih =>
      intro v1 v2 v3 h ls hl
      rw [b_X4_soilingPairs_14] at h
      refine lv_iload_n hx hb dX4_soilingPairs_14 rfl (lv_at hl 3 rfl) ?_
      refine lv_aload_n hx hb dX4_soilingPairs_15 rfl (lv_at hl 0 rfl) ?_
      refine gfX4_2 hx hb hts hown hK hP 0 rfl wfX4_26 dX4_soilingPairs_16 ?_
      refine lv_icmp_ge (tgt := 40) hx hb dX4_soilingPairs_19 (by decide) (fun c1 => ?_) (fun c1 => ?_)
      · have h := it_t c1 h
        obtain ⟨y2, ey2⟩ : ∃ z : Int32, z = v2 + (1 : Int32) := ⟨_, rfl⟩
        have h := nm_use h ey2
        refine lv_iinc (v := y2) (lv' := [(2, .int y2), (0, .ref a_o), (1, .int v1), (3, .int v3)]) hx hb dX4_soilingPairs_40 hl (k := 2) rfl (by rw [ey2]; rfl) (by decide) rfl (fun ls hl => ?_)
        refine lv_goto (tgt := 4) hx hb dX4_soilingPairs_43 (by decide) ?_
        exact hk_4 _ _ h _ (lv_sub hl [1, 2, 0] rfl)
      · have h := it_f c1 h
        refine lv_iload_n hx hb dX4_soilingPairs_22 rfl (lv_at hl 1 rfl) ?_
        refine lv_aload_n hx hb dX4_soilingPairs_23 rfl (lv_at hl 0 rfl) ?_
        refine lv_iload_n hx hb dX4_soilingPairs_24 rfl (lv_at hl 2 rfl) ?_
        refine lv_iload_n hx hb dX4_soilingPairs_25 rfl (lv_at hl 3 rfl) ?_
        obtain ⟨r3, hc4, h⟩ := bd1_use h
        refine ro_V (As := [.int v2, .int v3]) (rest := [.int v1]) S (c_X4_doesSoil l D cI cS a_o a_o_masks a_o_row o_size o_startCells o_modeNow o_masks v2 v3 r3 hc4) (cwV1 hts cvX4_doesSoil wmX4_116 rfl rfl ⟨(Nat.le_of_ble_eq_true rfl), (Nat.le_of_ble_eq_true rfl)⟩) hK hP [0, 1] rfl 0 rfl rfl rfl rfl hl.1 rfl (Nat.le_of_ble_eq_true rfl) dX4_soilingPairs_26 ⟨Nat.zero_le _, Nat.zero_le _⟩ rfl ?_
        obtain ⟨r5, hc6, h⟩ := bd1_use h
        refine ro_SN (As := [.int (b2i r3)]) (rest := [.int v1]) S (c_X6_oneIf l D cI cS (b2i r3) r5 hc6) (cwSN1 hts hK.2.1 csX6_oneIf wnX4_104 rfl rfl ⟨(Nat.le_of_ble_eq_true rfl), (Nat.le_of_ble_eq_true rfl)⟩) hK hP [] rfl rfl hl.1 rfl (Nat.le_of_ble_eq_true rfl) dX4_soilingPairs_29 ⟨Nat.zero_le _, Nat.zero_le _⟩ rfl ?_
        refine lv_iadd hx hb dX4_soilingPairs_32 ?_
        refine lv_topi (fun y7 ey7 => ?_)
        have h := nm_use h ey7
        refine lv_istore_n (lv' := [(1, .int y7), (0, .ref a_o), (2, .int v2), (3, .int v3)]) hx hb dX4_soilingPairs_33 rfl hl (by decide) rfl (fun ls hl => ?_)
        obtain ⟨y8, ey8⟩ : ∃ z : Int32, z = v3 + (1 : Int32) := ⟨_, rfl⟩
        have h := nm_use h ey8
        refine lv_iinc (v := y8) (lv' := [(3, .int y8), (1, .int y7), (0, .ref a_o), (2, .int v2)]) hx hb dX4_soilingPairs_34 hl (k := 3) rfl (by rw [ey8]; rfl) (by decide) rfl (fun ls hl => ?_)
        refine lv_goto (tgt := 14) hx hb dX4_soilingPairs_37 (by decide) ?_
        exact ih _ _ _ h _ (lv_sub hl [2, 1, 3, 0] rfl)
  have L_4 : ∀ (n : Nat) (v1 : Int32) (v2 : Int32), b_X4_soilingPairs_4 o_size o_startCells o_modeNow o_masks n v1 v2 = some r0 → ∀ (ls : Array Slot), lv_has ls 4 [(0, .ref a_o), (1, .int v1), (2, .int v2)] → W p l e (headSpec (mws yX4_soilingPairs cX4_soilingPairs 4 (some .int)) { frames := 4, cells := 0, slots := 0, locals := 89 }).room s m [.ref a_o].toArray below meth c s.heap [] 0 0 (MQ below (roQ (some (.int r0))) [.ref a_o].toArray s 0 0 noF) (F0 m 4 ls []) := by
    intro n
    induction n with
    | zero =>
      intro v1 v2 h
      exact nn_no h
    | succ n ih =>
      intro v1 v2 h ls hl
      rw [b_X4_soilingPairs_4] at h
      refine lv_iload_n hx hb dX4_soilingPairs_4 rfl (lv_at hl 2 rfl) ?_
      refine lv_aload_n hx hb dX4_soilingPairs_5 rfl (lv_at hl 0 rfl) ?_
      refine gfX4_2 hx hb hts hown hK hP 0 rfl wfX4_26 dX4_soilingPairs_6 ?_
      refine lv_icmp_ge (tgt := 46) hx hb dX4_soilingPairs_9 (by decide) (fun c9 => ?_) (fun c9 => ?_)
      · have h := it_t c9 h
        refine lv_iload_n hx hb dX4_soilingPairs_46 rfl (lv_at hl 1 rfl) ?_
        exact W.iret hx hb hr (fun t ht _ => ⟨congrArg (fun z => Outcome.returned (some (Value.int z))) (Option.some.inj h), ht⟩) (fun q hq => by cases hq) dX4_soilingPairs_47
      · have h := it_f c9 h
        refine lv_iconst (v := (0 : Int32)) hx hb dX4_soilingPairs_12 (by decide) ?_
        refine lv_istore_n (lv' := [(3, .int (0 : Int32)), (0, .ref a_o), (1, .int v1), (2, .int v2)]) hx hb dX4_soilingPairs_13 rfl hl (by decide) rfl (fun ls hl => ?_)
        exact L_14 _ ih _ _ _ _ h _ (lv_sub hl [1, 2, 3, 0] rfl)
  unfold f_X4_soilingPairs at h
  refine lv_iconst (v := (0 : Int32)) hx hb dX4_soilingPairs_0 (by decide) ?_
  refine lv_istore_n (lv' := [(1, .int (0 : Int32)), (0, .ref a_o)]) hx hb dX4_soilingPairs_1 rfl hl (by decide) rfl (fun ls hl => ?_)
  refine lv_iconst (v := (0 : Int32)) hx hb dX4_soilingPairs_2 (by decide) ?_
  refine lv_istore_n (lv' := [(2, .int (0 : Int32)), (1, .int (0 : Int32)), (0, .ref a_o)]) hx hb dX4_soilingPairs_3 rfl hl (by decide) rfl (fun ls hl => ?_)
  exact L_4 _ _ _ h _ (lv_sub hl [2, 1, 0] rfl)
def b_X4_cleaners_16 (o_size : Int32) (o_startCells : Int32) (o_modeNow : Int32) (o_masks : Ar) (x1 : Int32) (x2 : Int32) : Nat → Int32 → Int32 → Int32 → Option (Int32)
  | 0, _, _, _ => none
  | n + 1, v3, v4, v5 => (if o_size ≤ v5 then some (v3) else (if v5 = x1 then nm (v5 + (1 : Int32)) (fun y3 => b_X4_cleaners_16 o_size o_startCells o_modeNow o_masks x1 x2 n v3 v4 y3) else (if v5 = x2 then nm (v5 + (1 : Int32)) (fun y5 => b_X4_cleaners_16 o_size o_startCells o_modeNow o_masks x1 x2 n v3 v4 y5) else bd1 (f_X4_cellsAfter o_modeNow o_masks v5 v4) (fun r6 => bd1 (f_X4_isFlippedOn o_startCells o_masks x2 r6) (fun r8 => (if (b2i r8) = (0 : Int32) then nm (v3 ||| ((1 : Int32) <<< (v5 &&& (31 : Int32)))) (fun y12 => nm (v5 + (1 : Int32)) (fun y13 => b_X4_cleaners_16 o_size o_startCells o_modeNow o_masks x1 x2 n y12 v4 y13)) else nm (v5 + (1 : Int32)) (fun y11 => b_X4_cleaners_16 o_size o_startCells o_modeNow o_masks x1 x2 n v3 v4 y11)))))))
def f_X4_cleaners (o_size : Int32) (o_startCells : Int32) (o_modeNow : Int32) (o_masks : Ar) (x1 : Int32) (x2 : Int32) : Option (Int32) := bd1 (f_X4_cellsAfter o_modeNow o_masks x1 o_startCells) (fun r14 => b_X4_cleaners_16 o_size o_startCells o_modeNow o_masks x1 x2 FU (0 : Int32) r14 (0 : Int32))
set_option maxHeartbeats 4000000 in
set_option maxRecDepth 100000 in
theorem c_X4_cleaners (l : Launch) (D : va_G) (cI cS : ClassId) (a_o : Nat) (a_o_masks : Nat) (a_o_row : Nat) (o_size : Int32) (o_startCells : Int32) (o_modeNow : Int32) (o_masks : Ar) (x1 : Int32) (x2 : Int32) (r0 : Int32) (h : f_X4_cleaners o_size o_startCells o_modeNow o_masks x1 x2 = some r0) : roM l D cI cS yX4_cleaners cX4_cleaners 6 (some .int) 3 67 [.ref a_o, .int x1, .int x2] [(a_o, .inr (3, [.ref a_o_masks, .ref a_o_row, .int (o_size), .int (o_startCells), .int (o_modeNow)])), (a_o_masks, .inl (cI, 40, .inl (o_masks)))] (some (.int r0)) := by
  refine Met.ofW (cc := cX4_cleaners) (maxL := 6) (ret := (some .int)) (by decide) rfl ?_
  intro p e s m args below meth c s₁ B hml hv
  obtain ⟨rfl, hP, hK⟩ := hv
  have hx := B.exec
  have hb := B.bytes
  have hr := B.returns
  have hts : ∀ w ∈ GW, w.before _ s = true := fun w hw => atoms_spec (ws := mws yX4_cleaners cX4_cleaners 6 (some .int)) B.pre w (List.mem_cons_of_mem _ hw)
  have hown : s.vm.findClass RX4 = some m.cls := findClass_of_methodNamed B.named
  have hlocks := B.notSynchronized
  have hl := lv_entry ([.ref a_o, .int x1, .int x2]) (n := 6) (Nat.le_of_ble_eq_true rfl)
  rw [lg_entry_eq]
  generalize (lg_sl ([.ref a_o, .int x1, .int x2]) ++ List.replicate (6 - (lg_sl ([.ref a_o, .int x1, .int x2])).length) Slot.unset).toArray = ls at hl ⊢
  have hl : lv_has ls 6 [(0, .ref a_o), (1, .int x1), (2, .int x2)] := hl
  have S : CallFix p m c cX4_cleaners 6 s _ GW RX4 := ⟨hx, hb, hml, hown, hts⟩
  have L_16 : ∀ (n : Nat) (v3 : Int32) (v4 : Int32) (v5 : Int32), b_X4_cleaners_16 o_size o_startCells o_modeNow o_masks x1 x2 n v3 v4 v5 = some r0 → ∀ (ls : Array Slot), lv_has ls 6 [(0, .ref a_o), (1, .int x1), (2, .int x2), (3, .int v3), (4, .int v4), (5, .int v5)] → W p l e (headSpec (mws yX4_cleaners cX4_cleaners 6 (some .int)) { frames := 3, cells := 0, slots := 0, locals := 67 }).room s m [.ref a_o, .int x1, .int x2].toArray below meth c s.heap [] 0 0 (MQ below (roQ (some (.int r0))) [.ref a_o, .int x1, .int x2].toArray s 0 0 noF) (F0 m 16 ls []) := by
    intro n
    induction n with
    | zero =>
      intro v3 v4 v5 h
      exact nn_no h
    | succ n ih =>
      intro v3 v4 v5 h ls hl
      rw [b_X4_cleaners_16] at h
      refine lv_iload hx hb dX4_cleaners_16 (lv_at hl 5 rfl) ?_
      refine lv_aload_n hx hb dX4_cleaners_18 rfl (lv_at hl 0 rfl) ?_
      refine gfX4_2 hx hb hts hown hK hP 0 rfl wfX4_26 dX4_cleaners_19 ?_
      refine lv_icmp_ge (tgt := 66) hx hb dX4_cleaners_22 (by decide) (fun c1 => ?_) (fun c1 => ?_)
      · have h := it_t c1 h
        refine lv_iload_n hx hb dX4_cleaners_66 rfl (lv_at hl 3 rfl) ?_
        exact W.iret hx hb hr (fun t ht _ => ⟨congrArg (fun z => Outcome.returned (some (Value.int z))) (Option.some.inj h), ht⟩) (fun q hq => by cases hq) dX4_cleaners_67
      · have h := it_f c1 h
        refine lv_iload hx hb dX4_cleaners_25 (lv_at hl 5 rfl) ?_
        refine lv_iload_n hx hb dX4_cleaners_27 rfl (lv_at hl 1 rfl) ?_
        refine lv_icmp_eq (tgt := 60) hx hb dX4_cleaners_28 (by decide) (fun c2 => ?_) (fun c2 => ?_)
        · have h := it_t c2 h
          obtain ⟨y3, ey3⟩ : ∃ z : Int32, z = v5 + (1 : Int32) := ⟨_, rfl⟩
          have h := nm_use h ey3
          refine lv_iinc (v := y3) (lv' := [(5, .int y3), (0, .ref a_o), (1, .int x1), (2, .int x2), (3, .int v3), (4, .int v4)]) hx hb dX4_cleaners_60 hl (k := 5) rfl (by rw [ey3]; rfl) (by decide) rfl (fun ls hl => ?_)
          refine lv_goto (tgt := 16) hx hb dX4_cleaners_63 (by decide) ?_
          exact ih _ _ _ h _ (lv_sub hl [1, 2, 3, 4, 5, 0] rfl)
        · have h := it_f c2 h
          refine lv_iload hx hb dX4_cleaners_31 (lv_at hl 5 rfl) ?_
          refine lv_iload_n hx hb dX4_cleaners_33 rfl (lv_at hl 2 rfl) ?_
          refine lv_icmp_eq (tgt := 60) hx hb dX4_cleaners_34 (by decide) (fun c4 => ?_) (fun c4 => ?_)
          · have h := it_t c4 h
            obtain ⟨y5, ey5⟩ : ∃ z : Int32, z = v5 + (1 : Int32) := ⟨_, rfl⟩
            have h := nm_use h ey5
            refine lv_iinc (v := y5) (lv' := [(5, .int y5), (0, .ref a_o), (1, .int x1), (2, .int x2), (3, .int v3), (4, .int v4)]) hx hb dX4_cleaners_60 hl (k := 5) rfl (by rw [ey5]; rfl) (by decide) rfl (fun ls hl => ?_)
            refine lv_goto (tgt := 16) hx hb dX4_cleaners_63 (by decide) ?_
            exact ih _ _ _ h _ (lv_sub hl [1, 2, 3, 4, 5, 0] rfl)
          · have h := it_f c4 h
            refine lv_aload_n hx hb dX4_cleaners_37 rfl (lv_at hl 0 rfl) ?_
            refine lv_iload_n hx hb dX4_cleaners_38 rfl (lv_at hl 2 rfl) ?_
            refine lv_aload_n hx hb dX4_cleaners_39 rfl (lv_at hl 0 rfl) ?_
            refine lv_iload hx hb dX4_cleaners_40 (lv_at hl 5 rfl) ?_
            refine lv_iload hx hb dX4_cleaners_42 (lv_at hl 4 rfl) ?_
            obtain ⟨r6, hc7, h⟩ := bd1_use h
            refine ro_V (As := [.int v5, .int v4]) (rest := [.int x2, .ref a_o]) S (c_X4_cellsAfter l D cI cS a_o a_o_masks a_o_row o_size o_startCells o_modeNow o_masks v5 v4 r6 hc7) (cwV1 hts cvX4_cellsAfter wmX4_89 rfl rfl ⟨(Nat.le_of_ble_eq_true rfl), (Nat.le_of_ble_eq_true rfl)⟩) hK hP [0, 1] rfl 0 rfl rfl rfl rfl hl.1 rfl (Nat.le_of_ble_eq_true rfl) dX4_cleaners_44 ⟨Nat.zero_le _, Nat.zero_le _⟩ rfl ?_
            obtain ⟨r8, hc9, h⟩ := bd1_use h
            refine ro_V (As := [.int x2, .int r6]) (rest := []) S (c_X4_isFlippedOn l D cI cS a_o a_o_masks a_o_row o_size o_startCells o_modeNow o_masks x2 r6 r8 hc9) (cwV1 hts cvX4_isFlippedOn wmX4_95 rfl rfl ⟨(Nat.le_of_ble_eq_true rfl), (Nat.le_of_ble_eq_true rfl)⟩) hK hP [0, 1] rfl 0 rfl rfl rfl rfl hl.1 rfl (Nat.le_of_ble_eq_true rfl) dX4_cleaners_47 ⟨Nat.zero_le _, Nat.zero_le _⟩ rfl ?_
            refine lv_if_ne (tgt := 60) hx hb dX4_cleaners_50 (by decide) (fun c10 => ?_) (fun c10 => ?_)
            · have h := it_f c10 h
              obtain ⟨y11, ey11⟩ : ∃ z : Int32, z = v5 + (1 : Int32) := ⟨_, rfl⟩
              have h := nm_use h ey11
              refine lv_iinc (v := y11) (lv' := [(5, .int y11), (0, .ref a_o), (1, .int x1), (2, .int x2), (3, .int v3), (4, .int v4)]) hx hb dX4_cleaners_60 hl (k := 5) rfl (by rw [ey11]; rfl) (by decide) rfl (fun ls hl => ?_)
              refine lv_goto (tgt := 16) hx hb dX4_cleaners_63 (by decide) ?_
              exact ih _ _ _ h _ (lv_sub hl [1, 2, 3, 4, 5, 0] rfl)
            · have h := it_t c10 h
              refine lv_iload_n hx hb dX4_cleaners_53 rfl (lv_at hl 3 rfl) ?_
              refine lv_iconst (v := (1 : Int32)) hx hb dX4_cleaners_54 (by decide) ?_
              refine lv_iload hx hb dX4_cleaners_55 (lv_at hl 5 rfl) ?_
              refine lv_ishl hx hb dX4_cleaners_57 ?_
              refine lv_ior hx hb dX4_cleaners_58 ?_
              refine lv_topi (fun y12 ey12 => ?_)
              have h := nm_use h ey12
              refine lv_istore_n (lv' := [(3, .int y12), (0, .ref a_o), (1, .int x1), (2, .int x2), (4, .int v4), (5, .int v5)]) hx hb dX4_cleaners_59 rfl hl (by decide) rfl (fun ls hl => ?_)
              obtain ⟨y13, ey13⟩ : ∃ z : Int32, z = v5 + (1 : Int32) := ⟨_, rfl⟩
              have h := nm_use h ey13
              refine lv_iinc (v := y13) (lv' := [(5, .int y13), (3, .int y12), (0, .ref a_o), (1, .int x1), (2, .int x2), (4, .int v4)]) hx hb dX4_cleaners_60 hl (k := 5) rfl (by rw [ey13]; rfl) (by decide) rfl (fun ls hl => ?_)
              refine lv_goto (tgt := 16) hx hb dX4_cleaners_63 (by decide) ?_
              exact ih _ _ _ h _ (lv_sub hl [2, 3, 4, 1, 5, 0] rfl)
  unfold f_X4_cleaners at h
  refine lv_iconst (v := (0 : Int32)) hx hb dX4_cleaners_0 (by decide) ?_
  refine lv_istore_n (lv' := [(3, .int (0 : Int32)), (0, .ref a_o), (1, .int x1), (2, .int x2)]) hx hb dX4_cleaners_1 rfl hl (by decide) rfl (fun ls hl => ?_)
  refine lv_aload_n hx hb dX4_cleaners_2 rfl (lv_at hl 1 rfl) ?_
  refine lv_iload_n hx hb dX4_cleaners_3 rfl (lv_at hl 2 rfl) ?_
  refine lv_aload_n hx hb dX4_cleaners_4 rfl (lv_at hl 1 rfl) ?_
  refine gfX4_3 hx hb hts hown hK hP 0 rfl wfX4_48 dX4_cleaners_5 ?_
  obtain ⟨r14, hc15, h⟩ := bd1_use h
  refine ro_V (As := [.int x1, .int o_startCells]) (rest := []) S (c_X4_cellsAfter l D cI cS a_o a_o_masks a_o_row o_size o_startCells o_modeNow o_masks x1 o_startCells r14 hc15) (cwV1 hts cvX4_cellsAfter wmX4_89 rfl rfl ⟨(Nat.le_of_ble_eq_true rfl), (Nat.le_of_ble_eq_true rfl)⟩) hK hP [0, 1] rfl 0 rfl rfl rfl rfl hl.1 rfl (Nat.le_of_ble_eq_true rfl) dX4_cleaners_8 ⟨Nat.zero_le _, Nat.zero_le _⟩ rfl ?_
  refine lv_istore (lv' := [(4, .int r14), (3, .int (0 : Int32)), (0, .ref a_o), (1, .int x1), (2, .int x2)]) hx hb dX4_cleaners_11 hl (by decide) rfl (fun ls hl => ?_)
  refine lv_iconst (v := (0 : Int32)) hx hb dX4_cleaners_13 (by decide) ?_
  refine lv_istore (lv' := [(5, .int (0 : Int32)), (4, .int r14), (3, .int (0 : Int32)), (0, .ref a_o), (1, .int x1), (2, .int x2)]) hx hb dX4_cleaners_14 hl (by decide) rfl (fun ls hl => ?_)
  exact L_16 _ _ _ _ h _ (lv_sub hl [3, 4, 5, 2, 1, 0] rfl)
def f_X4_copyFrom (o_size : Int32) (o_startCells : Int32) (o_modeNow : Int32) (o_masks : Ar) (o_row_size : Int32) (o_row_tests : Ar) (p1_size : Int32) (p1_startCells : Int32) (p1_modeNow : Int32) (p1_masks : Ar) (p1_row_size : Int32) (p1_row_tests : Ar) : Option (Int32 × Int32 × Int32 × Ar × Int32 × Ar) := nm (va_cpy p1_masks o_masks (0 : Int32).toNatClampNeg (0 : Int32).toNatClampNeg (40 : Int32).toNatClampNeg) (fun fv1 => bd2 (f_X3_copyFrom o_row_size o_row_tests p1_row_size p1_row_tests) (fun w2 w3 => some (p1_size, p1_startCells, p1_modeNow, fv1, w2, w3)))
set_option maxHeartbeats 4000000 in
set_option maxRecDepth 100000 in
theorem c_X4_copyFrom (l : Launch) (D : va_G) (cI cS : ClassId) (a_o : Nat) (a_o_masks : Nat) (a_o_row : Nat) (a_o_row_tests : Nat) (a_p1 : Nat) (a_p1_masks : Nat) (a_p1_row : Nat) (a_p1_row_tests : Nat) (o_size : Int32) (o_startCells : Int32) (o_modeNow : Int32) (o_masks : Ar) (o_row_size : Int32) (o_row_tests : Ar) (p1_size : Int32) (p1_startCells : Int32) (p1_modeNow : Int32) (p1_masks : Ar) (p1_row_size : Int32) (p1_row_tests : Ar) (o_size' : Int32) (o_startCells' : Int32) (o_modeNow' : Int32) (o_masks' : Ar) (o_row_size' : Int32) (o_row_tests' : Ar) (h : f_X4_copyFrom o_size o_startCells o_modeNow o_masks o_row_size o_row_tests p1_size p1_startCells p1_modeNow p1_masks p1_row_size p1_row_tests = some (o_size', o_startCells', o_modeNow', o_masks', o_row_size', o_row_tests')) : wrM l D cI cS yX4_copyFrom cX4_copyFrom 2 none 2 61 [.ref a_o, .ref a_p1] [(a_o, .inr (3, [.ref a_o_masks, .ref a_o_row, .int (o_size), .int (o_startCells), .int (o_modeNow)])), (a_o_masks, .inl (cI, 40, .inl (o_masks))), (a_o_row, .inr (2, [.ref a_o_row_tests, .int (o_row_size)])), (a_o_row_tests, .inl (cI, 8, .inl (o_row_tests))), (a_p1, .inr (3, [.ref a_p1_masks, .ref a_p1_row, .int (p1_size), .int (p1_startCells), .int (p1_modeNow)])), (a_p1_masks, .inl (cI, 40, .inl (p1_masks))), (a_p1_row, .inr (2, [.ref a_p1_row_tests, .int (p1_row_size)])), (a_p1_row_tests, .inl (cI, 8, .inl (p1_row_tests)))] [(a_o, .inr (3, [.ref a_o_masks, .ref a_o_row, .int (o_size'), .int (o_startCells'), .int (o_modeNow')])), (a_o_masks, .inl (cI, 40, .inl (o_masks'))), (a_o_row, .inr (2, [.ref a_o_row_tests, .int (o_row_size')])), (a_o_row_tests, .inl (cI, 8, .inl (o_row_tests'))), (a_p1, .inr (3, [.ref a_p1_masks, .ref a_p1_row, .int (p1_size), .int (p1_startCells), .int (p1_modeNow)])), (a_p1_masks, .inl (cI, 40, .inl (p1_masks))), (a_p1_row, .inr (2, [.ref a_p1_row_tests, .int (p1_row_size)])), (a_p1_row_tests, .inl (cI, 8, .inl (p1_row_tests)))] none := by
  refine Met.ofW (cc := cX4_copyFrom) (maxL := 2) (ret := none) (by decide) rfl ?_
  intro p e s m args below meth c s₁ B hml hv
  obtain ⟨rfl, hP, hK, hD0⟩ := hv
  have hx := B.exec
  have hb := B.bytes
  have hr := B.returns
  have hts : ∀ w ∈ GW, w.before _ s = true := fun w hw => atoms_spec (ws := mws yX4_copyFrom cX4_copyFrom 2 none) B.pre w (List.mem_cons_of_mem _ hw)
  have hown : s.vm.findClass RX4 = some m.cls := findClass_of_methodNamed B.named
  have hlocks := B.notSynchronized
  have hD := inW_self hD0
  generalize hAe : inW [(a_o, .inr (3, [.ref a_o_masks, .ref a_o_row, .int (o_size), .int (o_startCells), .int (o_modeNow)])), (a_o_masks, .inl (cI, 40, .inl (o_masks))), (a_o_row, .inr (2, [.ref a_o_row_tests, .int (o_row_size)])), (a_o_row_tests, .inl (cI, 8, .inl (o_row_tests))), (a_p1, .inr (3, [.ref a_p1_masks, .ref a_p1_row, .int (p1_size), .int (p1_startCells), .int (p1_modeNow)])), (a_p1_masks, .inl (cI, 40, .inl (p1_masks))), (a_p1_row, .inr (2, [.ref a_p1_row_tests, .int (p1_row_size)])), (a_p1_row_tests, .inl (cI, 8, .inl (p1_row_tests)))] = A at hD ⊢
  have hS : va_S A s.heap s.heap [] := va_S.rf
  have hl := lv_entry ([.ref a_o, .ref a_p1]) (n := 2) (Nat.le_of_ble_eq_true rfl)
  rw [lg_entry_eq]
  generalize (lg_sl ([.ref a_o, .ref a_p1]) ++ List.replicate (2 - (lg_sl ([.ref a_o, .ref a_p1])).length) Slot.unset).toArray = ls at hl ⊢
  have hl : lv_has ls 2 [(0, .ref a_o), (1, .ref a_p1)] := hl
  have S : CallFix p m c cX4_copyFrom 2 s _ GW RX4 := ⟨hx, hb, hml, hown, hts⟩
  unfold f_X4_copyFrom at h
  refine lv_aload_n hx hb dX4_copyFrom_0 rfl (lv_at hl 1 rfl) ?_
  refine gfX4_0 hx hb hts hown hK hP 4 rfl wfX4_9 dX4_copyFrom_1 ?_
  refine lv_iconst (v := (0 : Int32)) hx hb dX4_copyFrom_4 (by decide) ?_
  refine lv_aload_n hx hb dX4_copyFrom_5 rfl (lv_at hl 0 rfl) ?_
  refine gfX4_0 hx hb hts hown hK hP 0 rfl wfX4_9 dX4_copyFrom_6 ?_
  refine lv_iconst (v := (0 : Int32)) hx hb dX4_copyFrom_9 (by decide) ?_
  refine lv_bipush (v := (40 : Int32)) hx hb dX4_copyFrom_10 (by decide) ?_
  have h := nm_use h rfl
  refine cp_ (ws' := [(a_o, .inr (3, [.ref a_o_masks, .ref a_o_row, .int (o_size), .int (o_startCells), .int (o_modeNow)])), (a_o_masks, .inl (cI, 40, .inl ((va_cpy p1_masks o_masks (0 : Int32).toNatClampNeg (0 : Int32).toNatClampNeg (40 : Int32).toNatClampNeg)))), (a_o_row, .inr (2, [.ref a_o_row_tests, .int (o_row_size)])), (a_o_row_tests, .inl (cI, 8, .inl (o_row_tests))), (a_p1, .inr (3, [.ref a_p1_masks, .ref a_p1_row, .int (p1_size), .int (p1_startCells), .int (p1_modeNow)])), (a_p1_masks, .inl (cI, 40, .inl (p1_masks))), (a_p1_row, .inr (2, [.ref a_p1_row_tests, .int (p1_row_size)])), (a_p1_row_tests, .inl (cI, 8, .inl (p1_row_tests)))]) hx hb (hml.trans hl.1.symm) hts hown wmX4_119 wiJ10 hK hP hD hS 5 1 rfl rfl (by decide) (by decide) (by decide) (by decide) (by decide) rfl (Nat.le_of_ble_eq_true rfl) (Nat.le_of_ble_eq_true rfl) dX4_copyFrom_12 (fun H locs hP hD hS => ?_)
  refine lv_aload_n hx hb dX4_copyFrom_15 rfl (lv_at hl 0 rfl) ?_
  refine gfX4_1 hx hb hts hown hK hP 0 rfl wfX4_18 dX4_copyFrom_16 ?_
  refine lv_aload_n hx hb dX4_copyFrom_19 rfl (lv_at hl 1 rfl) ?_
  refine gfX4_1 hx hb hts hown hK hP 4 rfl wfX4_18 dX4_copyFrom_20 ?_
  obtain ⟨w2, w3, hc4, h⟩ := bd2_use h
  refine wr_V (As := [.ref a_p1_row]) (rest := []) (ws' := [(a_o, .inr (3, [.ref a_o_masks, .ref a_o_row, .int (o_size), .int (o_startCells), .int (o_modeNow)])), (a_o_masks, .inl (cI, 40, .inl ((va_cpy p1_masks o_masks (0 : Int32).toNatClampNeg (0 : Int32).toNatClampNeg (40 : Int32).toNatClampNeg)))), (a_o_row, .inr (2, [.ref a_o_row_tests, .int (w2)])), (a_o_row_tests, .inl (cI, 8, .inl (w3))), (a_p1, .inr (3, [.ref a_p1_masks, .ref a_p1_row, .int (p1_size), .int (p1_startCells), .int (p1_modeNow)])), (a_p1_masks, .inl (cI, 40, .inl (p1_masks))), (a_p1_row, .inr (2, [.ref a_p1_row_tests, .int (p1_row_size)])), (a_p1_row_tests, .inl (cI, 8, .inl (p1_row_tests)))]) S (c_X3_copyFrom l D cI cS a_o_row a_o_row_tests a_p1_row a_p1_row_tests o_row_size o_row_tests p1_row_size p1_row_tests w2 w3 hc4) (cwV1 hts cvX3_copyFrom wmX4_125 rfl rfl ⟨(Nat.le_of_ble_eq_true rfl), (Nat.le_of_ble_eq_true rfl)⟩) hK hP hD hS [2, 3, 6, 7] rfl rfl [(false, 0), (false, 1), (true, 0), (true, 1), (false, 4), (false, 5), (true, 2), (true, 3)] rfl rfl rfl 2 rfl rfl rfl rfl hl.1 rfl (Nat.le_of_ble_eq_true rfl) dX4_copyFrom_23 ⟨Nat.zero_le _, Nat.zero_le _⟩ rfl (fun H locs hP hD hS => ?_)
  refine lv_aload_n hx hb dX4_copyFrom_26 rfl (lv_at hl 0 rfl) ?_
  refine lv_aload_n hx hb dX4_copyFrom_27 rfl (lv_at hl 1 rfl) ?_
  refine gfX4_2 hx hb hts hown hK hP 4 rfl wfX4_26 dX4_copyFrom_28 ?_
  refine pfX4_2 (ws' := [(a_o, .inr (3, [.ref a_o_masks, .ref a_o_row, .int (p1_size), .int (o_startCells), .int (o_modeNow)])), (a_o_masks, .inl (cI, 40, .inl ((va_cpy p1_masks o_masks (0 : Int32).toNatClampNeg (0 : Int32).toNatClampNeg (40 : Int32).toNatClampNeg)))), (a_o_row, .inr (2, [.ref a_o_row_tests, .int (w2)])), (a_o_row_tests, .inl (cI, 8, .inl (w3))), (a_p1, .inr (3, [.ref a_p1_masks, .ref a_p1_row, .int (p1_size), .int (p1_startCells), .int (p1_modeNow)])), (a_p1_masks, .inl (cI, 40, .inl (p1_masks))), (a_p1_row, .inr (2, [.ref a_p1_row_tests, .int (p1_row_size)])), (a_p1_row_tests, .inl (cI, 8, .inl (p1_row_tests)))]) hx hb hts hown hK hP hD hS 0 rfl rfl wfX4_26 dX4_copyFrom_31 (fun H locs hP hD hS => ?_)
  refine lv_aload_n hx hb dX4_copyFrom_34 rfl (lv_at hl 0 rfl) ?_
  refine lv_aload_n hx hb dX4_copyFrom_35 rfl (lv_at hl 1 rfl) ?_
  refine gfX4_3 hx hb hts hown hK hP 4 rfl wfX4_48 dX4_copyFrom_36 ?_
  refine pfX4_3 (ws' := [(a_o, .inr (3, [.ref a_o_masks, .ref a_o_row, .int (p1_size), .int (p1_startCells), .int (o_modeNow)])), (a_o_masks, .inl (cI, 40, .inl ((va_cpy p1_masks o_masks (0 : Int32).toNatClampNeg (0 : Int32).toNatClampNeg (40 : Int32).toNatClampNeg)))), (a_o_row, .inr (2, [.ref a_o_row_tests, .int (w2)])), (a_o_row_tests, .inl (cI, 8, .inl (w3))), (a_p1, .inr (3, [.ref a_p1_masks, .ref a_p1_row, .int (p1_size), .int (p1_startCells), .int (p1_modeNow)])), (a_p1_masks, .inl (cI, 40, .inl (p1_masks))), (a_p1_row, .inr (2, [.ref a_p1_row_tests, .int (p1_row_size)])), (a_p1_row_tests, .inl (cI, 8, .inl (p1_row_tests)))]) hx hb hts hown hK hP hD hS 0 rfl rfl wfX4_48 dX4_copyFrom_39 (fun H locs hP hD hS => ?_)
  refine lv_aload_n hx hb dX4_copyFrom_42 rfl (lv_at hl 0 rfl) ?_
  refine lv_aload_n hx hb dX4_copyFrom_43 rfl (lv_at hl 1 rfl) ?_
  refine gfX4_4 hx hb hts hown hK hP 4 rfl wfX4_51 dX4_copyFrom_44 ?_
  refine pfX4_4 (ws' := [(a_o, .inr (3, [.ref a_o_masks, .ref a_o_row, .int (p1_size), .int (p1_startCells), .int (p1_modeNow)])), (a_o_masks, .inl (cI, 40, .inl ((va_cpy p1_masks o_masks (0 : Int32).toNatClampNeg (0 : Int32).toNatClampNeg (40 : Int32).toNatClampNeg)))), (a_o_row, .inr (2, [.ref a_o_row_tests, .int (w2)])), (a_o_row_tests, .inl (cI, 8, .inl (w3))), (a_p1, .inr (3, [.ref a_p1_masks, .ref a_p1_row, .int (p1_size), .int (p1_startCells), .int (p1_modeNow)])), (a_p1_masks, .inl (cI, 40, .inl (p1_masks))), (a_p1_row, .inr (2, [.ref a_p1_row_tests, .int (p1_row_size)])), (a_p1_row_tests, .inl (cI, 8, .inl (p1_row_tests)))]) hx hb hts hown hK hP hD hS 0 rfl rfl wfX4_51 dX4_copyFrom_47 (fun H locs hP hD hS => ?_)
  cases h
  exact W.vret hx hb hr (fun t ht _ => ⟨rfl, by rw [ht]; exact hP, hS.F ht⟩) hS.2.2 dX4_copyFrom_50
