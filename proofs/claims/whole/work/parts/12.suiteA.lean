/-! Suite, first half -/
def f_X4_addTest (o_size : Int32) (o_masks : Ar) (x1 : Int32) (x2 : Int32) (x3 : Int32) (x4 : Int32) (x5 : Int32) : Option (Int32 × Int32 × Ar) := bd1 (f_X6_areCells x1) (fun r1 => (if (b2i r1) = (0 : Int32) then some ((-2 : Int32), o_size, o_masks) else bd1 (f_X6_areCells x2) (fun r4 => (if (b2i r4) = (0 : Int32) then some ((-2 : Int32), o_size, o_masks) else bd1 (f_X6_areCells x3) (fun r7 => (if (b2i r7) = (0 : Int32) then some ((-2 : Int32), o_size, o_masks) else bd1 (f_X6_areCells x4) (fun r10 => (if (b2i r10) = (0 : Int32) then some ((-2 : Int32), o_size, o_masks) else bd1 (f_X6_areCells x5) (fun r13 => (if (b2i r13) = (0 : Int32) then some ((-2 : Int32), o_size, o_masks) else (if (x1 &&& x2) = (0 : Int32) then (if (x3 &&& x4) = (0 : Int32) then (if (x3 &&& x5) = (0 : Int32) then (if (x4 &&& x5) = (0 : Int32) then (if o_size < (0 : Int32) then some ((-4 : Int32), o_size, o_masks) else (if o_size < (8 : Int32) then nm (o_size * (5 : Int32)) (fun y22 => wr o_masks 40 (y22 + (0 : Int32)) x1 (fun fv23 => wr fv23 40 (y22 + (1 : Int32)) x2 (fun fv25 => wr fv25 40 (y22 + (2 : Int32)) x3 (fun fv27 => wr fv27 40 (y22 + (3 : Int32)) x4 (fun fv29 => wr fv29 40 (y22 + (4 : Int32)) x5 (fun fv31 => nm (o_size + (1 : Int32)) (fun y33 => nm (y33 - (1 : Int32)) (fun y34 => some (y34, y33, fv31))))))))) else some ((-4 : Int32), o_size, o_masks))) else some ((-2 : Int32), o_size, o_masks)) else some ((-2 : Int32), o_size, o_masks)) else some ((-2 : Int32), o_size, o_masks)) else some ((-2 : Int32), o_size, o_masks))))))))))))
set_option maxHeartbeats 4000000 in
set_option maxRecDepth 100000 in
theorem c_X4_addTest (l : Launch) (D : va_G) (cI cS : ClassId) (a_o : Nat) (a_o_masks : Nat) (a_o_row : Nat) (o_size : Int32) (o_startCells : Int32) (o_modeNow : Int32) (o_masks : Ar) (x1 : Int32) (x2 : Int32) (x3 : Int32) (x4 : Int32) (x5 : Int32) (r0 : Int32) (o_size' : Int32) (o_masks' : Ar) (h : f_X4_addTest o_size o_masks x1 x2 x3 x4 x5 = some (r0, o_size', o_masks')) : wrM l D cI cS yX4_addTest cX4_addTest 7 (some .int) 1 20 [.ref a_o, .int x1, .int x2, .int x3, .int x4, .int x5] [(a_o, .inr (3, [.ref a_o_masks, .ref a_o_row, .int (o_size), .int (o_startCells), .int (o_modeNow)])), (a_o_masks, .inl (cI, 40, .inl (o_masks)))] [(a_o, .inr (3, [.ref a_o_masks, .ref a_o_row, .int (o_size'), .int (o_startCells), .int (o_modeNow)])), (a_o_masks, .inl (cI, 40, .inl (o_masks')))] (some (.int r0)) := by
  refine Met.ofW (cc := cX4_addTest) (maxL := 7) (ret := (some .int)) (by decide) rfl ?_
  intro p e s m args below meth c s₁ B hml hv
  obtain ⟨rfl, hP, hK, hD0⟩ := hv
  have hx := B.exec
  have hb := B.bytes
  have hr := B.returns
  have hts : ∀ w ∈ GW, w.before _ s = true := fun w hw => atoms_spec (ws := mws yX4_addTest cX4_addTest 7 (some .int)) B.pre w (List.mem_cons_of_mem _ hw)
  have hown : s.vm.findClass RX4 = some m.cls := findClass_of_methodNamed B.named
  have hlocks := B.notSynchronized
  have hD := inW_self hD0
  generalize hAe : inW [(a_o, .inr (3, [.ref a_o_masks, .ref a_o_row, .int (o_size), .int (o_startCells), .int (o_modeNow)])), (a_o_masks, .inl (cI, 40, .inl (o_masks)))] = A at hD ⊢
  have hS : va_S A s.heap s.heap [] := va_S.rf
  have hl := lv_entry ([.ref a_o, .int x1, .int x2, .int x3, .int x4, .int x5]) (n := 7) (Nat.le_of_ble_eq_true rfl)
  rw [lg_entry_eq]
  generalize (lg_sl ([.ref a_o, .int x1, .int x2, .int x3, .int x4, .int x5]) ++ List.replicate (7 - (lg_sl ([.ref a_o, .int x1, .int x2, .int x3, .int x4, .int x5])).length) Slot.unset).toArray = ls at hl ⊢
  have hl : lv_has ls 7 [(0, .ref a_o), (1, .int x1), (2, .int x2), (3, .int x3), (4, .int x4), (5, .int x5)] := hl
  have S : CallFix p m c cX4_addTest 7 s _ GW RX4 := ⟨hx, hb, hml, hown, hts⟩
  unfold f_X4_addTest at h
  refine lv_iload_n hx hb dX4_addTest_0 rfl (lv_at hl 1 rfl) ?_
  obtain ⟨r1, hc2, h⟩ := bd1_use h
  refine ro_SN (As := [.int x1]) (rest := []) S (c_X6_areCells l D cI cS x1 r1 hc2) (cwSN1 hts hK.2.1 csX6_areCells wnX4_22 rfl rfl ⟨(Nat.le_of_ble_eq_true rfl), (Nat.le_of_ble_eq_true rfl)⟩) hK hP [] rfl rfl hl.1 rfl (Nat.le_of_ble_eq_true rfl) dX4_addTest_1 ⟨Nat.zero_le _, Nat.zero_le _⟩ rfl ?_
  refine lv_if_eq (tgt := 37) hx hb dX4_addTest_4 (by decide) (fun c3 => ?_) (fun c3 => ?_)
  · have h := it_t c3 h
    refine lv_bipush (v := (-2 : Int32)) hx hb dX4_addTest_37 (by decide) ?_
    cases h
    exact W.iret hx hb hr (fun t ht _ => ⟨rfl, by rw [ht]; exact hP, hS.F ht⟩) hS.2.2 dX4_addTest_39
  · have h := it_f c3 h
    refine lv_iload_n hx hb dX4_addTest_7 rfl (lv_at hl 2 rfl) ?_
    obtain ⟨r4, hc5, h⟩ := bd1_use h
    refine ro_SN (As := [.int x2]) (rest := []) S (c_X6_areCells l D cI cS x2 r4 hc5) (cwSN1 hts hK.2.1 csX6_areCells wnX4_22 rfl rfl ⟨(Nat.le_of_ble_eq_true rfl), (Nat.le_of_ble_eq_true rfl)⟩) hK hP [] rfl rfl hl.1 rfl (Nat.le_of_ble_eq_true rfl) dX4_addTest_8 ⟨Nat.zero_le _, Nat.zero_le _⟩ rfl ?_
    refine lv_if_eq (tgt := 37) hx hb dX4_addTest_11 (by decide) (fun c6 => ?_) (fun c6 => ?_)
    · have h := it_t c6 h
      refine lv_bipush (v := (-2 : Int32)) hx hb dX4_addTest_37 (by decide) ?_
      cases h
      exact W.iret hx hb hr (fun t ht _ => ⟨rfl, by rw [ht]; exact hP, hS.F ht⟩) hS.2.2 dX4_addTest_39
    · have h := it_f c6 h
      refine lv_iload_n hx hb dX4_addTest_14 rfl (lv_at hl 3 rfl) ?_
      obtain ⟨r7, hc8, h⟩ := bd1_use h
      refine ro_SN (As := [.int x3]) (rest := []) S (c_X6_areCells l D cI cS x3 r7 hc8) (cwSN1 hts hK.2.1 csX6_areCells wnX4_22 rfl rfl ⟨(Nat.le_of_ble_eq_true rfl), (Nat.le_of_ble_eq_true rfl)⟩) hK hP [] rfl rfl hl.1 rfl (Nat.le_of_ble_eq_true rfl) dX4_addTest_15 ⟨Nat.zero_le _, Nat.zero_le _⟩ rfl ?_
      refine lv_if_eq (tgt := 37) hx hb dX4_addTest_18 (by decide) (fun c9 => ?_) (fun c9 => ?_)
      · have h := it_t c9 h
        refine lv_bipush (v := (-2 : Int32)) hx hb dX4_addTest_37 (by decide) ?_
        cases h
        exact W.iret hx hb hr (fun t ht _ => ⟨rfl, by rw [ht]; exact hP, hS.F ht⟩) hS.2.2 dX4_addTest_39
      · have h := it_f c9 h
        refine lv_iload hx hb dX4_addTest_21 (lv_at hl 4 rfl) ?_
        obtain ⟨r10, hc11, h⟩ := bd1_use h
        refine ro_SN (As := [.int x4]) (rest := []) S (c_X6_areCells l D cI cS x4 r10 hc11) (cwSN1 hts hK.2.1 csX6_areCells wnX4_22 rfl rfl ⟨(Nat.le_of_ble_eq_true rfl), (Nat.le_of_ble_eq_true rfl)⟩) hK hP [] rfl rfl hl.1 rfl (Nat.le_of_ble_eq_true rfl) dX4_addTest_23 ⟨Nat.zero_le _, Nat.zero_le _⟩ rfl ?_
        refine lv_if_eq (tgt := 37) hx hb dX4_addTest_26 (by decide) (fun c12 => ?_) (fun c12 => ?_)
        · have h := it_t c12 h
          refine lv_bipush (v := (-2 : Int32)) hx hb dX4_addTest_37 (by decide) ?_
          cases h
          exact W.iret hx hb hr (fun t ht _ => ⟨rfl, by rw [ht]; exact hP, hS.F ht⟩) hS.2.2 dX4_addTest_39
        · have h := it_f c12 h
          refine lv_iload hx hb dX4_addTest_29 (lv_at hl 5 rfl) ?_
          obtain ⟨r13, hc14, h⟩ := bd1_use h
          refine ro_SN (As := [.int x5]) (rest := []) S (c_X6_areCells l D cI cS x5 r13 hc14) (cwSN1 hts hK.2.1 csX6_areCells wnX4_22 rfl rfl ⟨(Nat.le_of_ble_eq_true rfl), (Nat.le_of_ble_eq_true rfl)⟩) hK hP [] rfl rfl hl.1 rfl (Nat.le_of_ble_eq_true rfl) dX4_addTest_31 ⟨Nat.zero_le _, Nat.zero_le _⟩ rfl ?_
          refine lv_if_ne (tgt := 40) hx hb dX4_addTest_34 (by decide) (fun c15 => ?_) (fun c15 => ?_)
          · have h := it_f c15 h
            refine lv_iload_n hx hb dX4_addTest_40 rfl (lv_at hl 1 rfl) ?_
            refine lv_iload_n hx hb dX4_addTest_41 rfl (lv_at hl 2 rfl) ?_
            refine lv_iand hx hb dX4_addTest_42 ?_
            refine lv_if_ne (tgt := 68) hx hb dX4_addTest_43 (by decide) (fun c16 => ?_) (fun c16 => ?_)
            · have h := it_f c16 h
              refine lv_bipush (v := (-2 : Int32)) hx hb dX4_addTest_68 (by decide) ?_
              cases h
              exact W.iret hx hb hr (fun t ht _ => ⟨rfl, by rw [ht]; exact hP, hS.F ht⟩) hS.2.2 dX4_addTest_70
            · have h := it_t c16 h
              refine lv_iload_n hx hb dX4_addTest_46 rfl (lv_at hl 3 rfl) ?_
              refine lv_iload hx hb dX4_addTest_47 (lv_at hl 4 rfl) ?_
              refine lv_iand hx hb dX4_addTest_49 ?_
              refine lv_if_ne (tgt := 68) hx hb dX4_addTest_50 (by decide) (fun c17 => ?_) (fun c17 => ?_)
              · have h := it_f c17 h
                refine lv_bipush (v := (-2 : Int32)) hx hb dX4_addTest_68 (by decide) ?_
                cases h
                exact W.iret hx hb hr (fun t ht _ => ⟨rfl, by rw [ht]; exact hP, hS.F ht⟩) hS.2.2 dX4_addTest_70
              · have h := it_t c17 h
                refine lv_iload_n hx hb dX4_addTest_53 rfl (lv_at hl 3 rfl) ?_
                refine lv_iload hx hb dX4_addTest_54 (lv_at hl 5 rfl) ?_
                refine lv_iand hx hb dX4_addTest_56 ?_
                refine lv_if_ne (tgt := 68) hx hb dX4_addTest_57 (by decide) (fun c18 => ?_) (fun c18 => ?_)
                · have h := it_f c18 h
                  refine lv_bipush (v := (-2 : Int32)) hx hb dX4_addTest_68 (by decide) ?_
                  cases h
                  exact W.iret hx hb hr (fun t ht _ => ⟨rfl, by rw [ht]; exact hP, hS.F ht⟩) hS.2.2 dX4_addTest_70
                · have h := it_t c18 h
                  refine lv_iload hx hb dX4_addTest_60 (lv_at hl 4 rfl) ?_
                  refine lv_iload hx hb dX4_addTest_62 (lv_at hl 5 rfl) ?_
                  refine lv_iand hx hb dX4_addTest_64 ?_
                  refine lv_if_eq (tgt := 71) hx hb dX4_addTest_65 (by decide) (fun c19 => ?_) (fun c19 => ?_)
                  · have h := it_t c19 h
                    refine lv_aload_n hx hb dX4_addTest_71 rfl (lv_at hl 0 rfl) ?_
                    refine gfX4_2 hx hb hts hown hK hP 0 rfl wfX4_26 dX4_addTest_72 ?_
                    refine lv_if_lt (tgt := 87) hx hb dX4_addTest_75 (by decide) (fun c20 => ?_) (fun c20 => ?_)
                    · have h := it_t c20 h
                      refine lv_bipush (v := (-4 : Int32)) hx hb dX4_addTest_87 (by decide) ?_
                      cases h
                      exact W.iret hx hb hr (fun t ht _ => ⟨rfl, by rw [ht]; exact hP, hS.F ht⟩) hS.2.2 dX4_addTest_89
                    · have h := it_f c20 h
                      refine lv_aload_n hx hb dX4_addTest_78 rfl (lv_at hl 0 rfl) ?_
                      refine gfX4_2 hx hb hts hown hK hP 0 rfl wfX4_26 dX4_addTest_79 ?_
                      refine lv_bipush (v := (8 : Int32)) hx hb dX4_addTest_82 (by decide) ?_
                      refine lv_icmp_lt (tgt := 90) hx hb dX4_addTest_84 (by decide) (fun c21 => ?_) (fun c21 => ?_)
                      · have h := it_t c21 h
                        refine lv_aload_n hx hb dX4_addTest_90 rfl (lv_at hl 0 rfl) ?_
                        refine gfX4_2 hx hb hts hown hK hP 0 rfl wfX4_26 dX4_addTest_91 ?_
                        refine lv_iconst (v := (5 : Int32)) hx hb dX4_addTest_94 (by decide) ?_
                        refine lv_imul hx hb dX4_addTest_95 ?_
                        refine lv_topi (fun y22 ey22 => ?_)
                        have h := nm_use h ey22
                        refine lv_istore (lv' := [(6, .int y22), (0, .ref a_o), (1, .int x1), (2, .int x2), (3, .int x3), (4, .int x4), (5, .int x5)]) hx hb dX4_addTest_96 hl (by decide) rfl (fun ls hl => ?_)
                        refine lv_aload_n hx hb dX4_addTest_98 rfl (lv_at hl 1 rfl) ?_
                        refine gfX4_0 hx hb hts hown hK hP 0 rfl wfX4_9 dX4_addTest_99 ?_
                        refine lv_iload hx hb dX4_addTest_102 (lv_at hl 0 rfl) ?_
                        refine lv_iconst (v := (0 : Int32)) hx hb dX4_addTest_104 (by decide) ?_
                        refine lv_iadd hx hb dX4_addTest_105 ?_
                        refine lv_iload_n hx hb dX4_addTest_106 rfl (lv_at hl 2 rfl) ?_
                        obtain ⟨hi24, h⟩ := wr_use h
                        refine is_ (ws' := [(a_o, .inr (3, [.ref a_o_masks, .ref a_o_row, .int (o_size), .int (o_startCells), .int (o_modeNow)])), (a_o_masks, .inl (cI, 40, .inl ((upd o_masks (y22 + (0 : Int32)).toNatClampNeg x1))))]) hx hb hK hP hD hS 1 rfl rfl hi24 dX4_addTest_107 (fun H locs hP hD hS => ?_)
                        refine lv_aload_n hx hb dX4_addTest_108 rfl (lv_at hl 1 rfl) ?_
                        refine gfX4_0 hx hb hts hown hK hP 0 rfl wfX4_9 dX4_addTest_109 ?_
                        refine lv_iload hx hb dX4_addTest_112 (lv_at hl 0 rfl) ?_
                        refine lv_iconst (v := (1 : Int32)) hx hb dX4_addTest_114 (by decide) ?_
                        refine lv_iadd hx hb dX4_addTest_115 ?_
                        refine lv_iload_n hx hb dX4_addTest_116 rfl (lv_at hl 3 rfl) ?_
                        obtain ⟨hi26, h⟩ := wr_use h
                        refine is_ (ws' := [(a_o, .inr (3, [.ref a_o_masks, .ref a_o_row, .int (o_size), .int (o_startCells), .int (o_modeNow)])), (a_o_masks, .inl (cI, 40, .inl ((upd (upd o_masks (y22 + (0 : Int32)).toNatClampNeg x1) (y22 + (1 : Int32)).toNatClampNeg x2))))]) hx hb hK hP hD hS 1 rfl rfl hi26 dX4_addTest_117 (fun H locs hP hD hS => ?_)
                        refine lv_aload_n hx hb dX4_addTest_118 rfl (lv_at hl 1 rfl) ?_
                        refine gfX4_0 hx hb hts hown hK hP 0 rfl wfX4_9 dX4_addTest_119 ?_
                        refine lv_iload hx hb dX4_addTest_122 (lv_at hl 0 rfl) ?_
                        refine lv_iconst (v := (2 : Int32)) hx hb dX4_addTest_124 (by decide) ?_
                        refine lv_iadd hx hb dX4_addTest_125 ?_
                        refine lv_iload_n hx hb dX4_addTest_126 rfl (lv_at hl 4 rfl) ?_
                        obtain ⟨hi28, h⟩ := wr_use h
                        refine is_ (ws' := [(a_o, .inr (3, [.ref a_o_masks, .ref a_o_row, .int (o_size), .int (o_startCells), .int (o_modeNow)])), (a_o_masks, .inl (cI, 40, .inl ((upd (upd (upd o_masks (y22 + (0 : Int32)).toNatClampNeg x1) (y22 + (1 : Int32)).toNatClampNeg x2) (y22 + (2 : Int32)).toNatClampNeg x3))))]) hx hb hK hP hD hS 1 rfl rfl hi28 dX4_addTest_127 (fun H locs hP hD hS => ?_)
                        refine lv_aload_n hx hb dX4_addTest_128 rfl (lv_at hl 1 rfl) ?_
                        refine gfX4_0 hx hb hts hown hK hP 0 rfl wfX4_9 dX4_addTest_129 ?_
                        refine lv_iload hx hb dX4_addTest_132 (lv_at hl 0 rfl) ?_
                        refine lv_iconst (v := (3 : Int32)) hx hb dX4_addTest_134 (by decide) ?_
                        refine lv_iadd hx hb dX4_addTest_135 ?_
                        refine lv_iload hx hb dX4_addTest_136 (lv_at hl 5 rfl) ?_
                        obtain ⟨hi30, h⟩ := wr_use h
                        refine is_ (ws' := [(a_o, .inr (3, [.ref a_o_masks, .ref a_o_row, .int (o_size), .int (o_startCells), .int (o_modeNow)])), (a_o_masks, .inl (cI, 40, .inl ((upd (upd (upd (upd o_masks (y22 + (0 : Int32)).toNatClampNeg x1) (y22 + (1 : Int32)).toNatClampNeg x2) (y22 + (2 : Int32)).toNatClampNeg x3) (y22 + (3 : Int32)).toNatClampNeg x4))))]) hx hb hK hP hD hS 1 rfl rfl hi30 dX4_addTest_138 (fun H locs hP hD hS => ?_)
                        refine lv_aload_n hx hb dX4_addTest_139 rfl (lv_at hl 1 rfl) ?_
                        refine gfX4_0 hx hb hts hown hK hP 0 rfl wfX4_9 dX4_addTest_140 ?_
                        refine lv_iload hx hb dX4_addTest_143 (lv_at hl 0 rfl) ?_
                        refine lv_iconst (v := (4 : Int32)) hx hb dX4_addTest_145 (by decide) ?_
                        refine lv_iadd hx hb dX4_addTest_146 ?_
                        refine lv_iload hx hb dX4_addTest_147 (lv_at hl 6 rfl) ?_
                        obtain ⟨hi32, h⟩ := wr_use h
                        refine is_ (ws' := [(a_o, .inr (3, [.ref a_o_masks, .ref a_o_row, .int (o_size), .int (o_startCells), .int (o_modeNow)])), (a_o_masks, .inl (cI, 40, .inl ((upd (upd (upd (upd (upd o_masks (y22 + (0 : Int32)).toNatClampNeg x1) (y22 + (1 : Int32)).toNatClampNeg x2) (y22 + (2 : Int32)).toNatClampNeg x3) (y22 + (3 : Int32)).toNatClampNeg x4) (y22 + (4 : Int32)).toNatClampNeg x5))))]) hx hb hK hP hD hS 1 rfl rfl hi32 dX4_addTest_149 (fun H locs hP hD hS => ?_)
                        refine lv_aload_n hx hb dX4_addTest_150 rfl (lv_at hl 1 rfl) ?_
                        refine lv_dup hx hb dX4_addTest_151 rfl ?_
                        refine gfX4_2 hx hb hts hown hK hP 0 rfl wfX4_26 dX4_addTest_152 ?_
                        refine lv_iconst (v := (1 : Int32)) hx hb dX4_addTest_155 (by decide) ?_
                        refine lv_iadd hx hb dX4_addTest_156 ?_
                        refine lv_topi (fun y33 ey33 => ?_)
                        have h := nm_use h ey33
                        refine pfX4_2 (ws' := [(a_o, .inr (3, [.ref a_o_masks, .ref a_o_row, .int (y33), .int (o_startCells), .int (o_modeNow)])), (a_o_masks, .inl (cI, 40, .inl ((upd (upd (upd (upd (upd o_masks (y22 + (0 : Int32)).toNatClampNeg x1) (y22 + (1 : Int32)).toNatClampNeg x2) (y22 + (2 : Int32)).toNatClampNeg x3) (y22 + (3 : Int32)).toNatClampNeg x4) (y22 + (4 : Int32)).toNatClampNeg x5))))]) hx hb hts hown hK hP hD hS 0 rfl rfl wfX4_26 dX4_addTest_157 (fun H locs hP hD hS => ?_)
                        refine lv_aload_n hx hb dX4_addTest_160 rfl (lv_at hl 1 rfl) ?_
                        refine gfX4_2 hx hb hts hown hK hP 0 rfl wfX4_26 dX4_addTest_161 ?_
                        refine lv_iconst (v := (1 : Int32)) hx hb dX4_addTest_164 (by decide) ?_
                        refine lv_isub hx hb dX4_addTest_165 ?_
                        refine lv_topi (fun y34 ey34 => ?_)
                        have h := nm_use h ey34
                        cases h
                        exact W.iret hx hb hr (fun t ht _ => ⟨rfl, by rw [ht]; exact hP, hS.F ht⟩) hS.2.2 dX4_addTest_166
                      · have h := it_f c21 h
                        refine lv_bipush (v := (-4 : Int32)) hx hb dX4_addTest_87 (by decide) ?_
                        cases h
                        exact W.iret hx hb hr (fun t ht _ => ⟨rfl, by rw [ht]; exact hP, hS.F ht⟩) hS.2.2 dX4_addTest_89
                  · have h := it_f c19 h
                    refine lv_bipush (v := (-2 : Int32)) hx hb dX4_addTest_68 (by decide) ?_
                    cases h
                    exact W.iret hx hb hr (fun t ht _ => ⟨rfl, by rw [ht]; exact hP, hS.F ht⟩) hS.2.2 dX4_addTest_70
          · have h := it_t c15 h
            refine lv_bipush (v := (-2 : Int32)) hx hb dX4_addTest_37 (by decide) ?_
            cases h
            exact W.iret hx hb hr (fun t ht _ => ⟨rfl, by rw [ht]; exact hP, hS.F ht⟩) hS.2.2 dX4_addTest_39
def f_X4_cutLast (o_size : Int32) (o_row_size : Int32) (o_row_tests : Ar) : Option (Int32 × Int32 × Int32 × Ar) := (if (0 : Int32) < o_size then nm (o_size - (1 : Int32)) (fun y2 => bd2 (f_X3_takeOut o_row_size o_row_tests ((1 : Int32) <<< (y2 &&& (31 : Int32)))) (fun w3 w4 => some (y2, y2, w3, w4))) else some ((-3 : Int32), o_size, o_row_size, o_row_tests))
set_option maxHeartbeats 4000000 in
set_option maxRecDepth 100000 in
theorem c_X4_cutLast (l : Launch) (D : va_G) (cI cS : ClassId) (a_o : Nat) (a_o_row : Nat) (a_o_row_tests : Nat) (a_o_masks : Nat) (o_size : Int32) (o_startCells : Int32) (o_modeNow : Int32) (o_row_size : Int32) (o_row_tests : Ar) (r0 : Int32) (o_size' : Int32) (o_row_size' : Int32) (o_row_tests' : Ar) (h : f_X4_cutLast o_size o_row_size o_row_tests = some (r0, o_size', o_row_size', o_row_tests')) : wrM l D cI cS yX4_cutLast cX4_cutLast 1 (some .int) 2 45 [.ref a_o] [(a_o, .inr (3, [.ref a_o_masks, .ref a_o_row, .int (o_size), .int (o_startCells), .int (o_modeNow)])), (a_o_row, .inr (2, [.ref a_o_row_tests, .int (o_row_size)])), (a_o_row_tests, .inl (cI, 8, .inl (o_row_tests)))] [(a_o, .inr (3, [.ref a_o_masks, .ref a_o_row, .int (o_size'), .int (o_startCells), .int (o_modeNow)])), (a_o_row, .inr (2, [.ref a_o_row_tests, .int (o_row_size')])), (a_o_row_tests, .inl (cI, 8, .inl (o_row_tests')))] (some (.int r0)) := by
  refine Met.ofW (cc := cX4_cutLast) (maxL := 1) (ret := (some .int)) (by decide) rfl ?_
  intro p e s m args below meth c s₁ B hml hv
  obtain ⟨rfl, hP, hK, hD0⟩ := hv
  have hx := B.exec
  have hb := B.bytes
  have hr := B.returns
  have hts : ∀ w ∈ GW, w.before _ s = true := fun w hw => atoms_spec (ws := mws yX4_cutLast cX4_cutLast 1 (some .int)) B.pre w (List.mem_cons_of_mem _ hw)
  have hown : s.vm.findClass RX4 = some m.cls := findClass_of_methodNamed B.named
  have hlocks := B.notSynchronized
  have hD := inW_self hD0
  generalize hAe : inW [(a_o, .inr (3, [.ref a_o_masks, .ref a_o_row, .int (o_size), .int (o_startCells), .int (o_modeNow)])), (a_o_row, .inr (2, [.ref a_o_row_tests, .int (o_row_size)])), (a_o_row_tests, .inl (cI, 8, .inl (o_row_tests)))] = A at hD ⊢
  have hS : va_S A s.heap s.heap [] := va_S.rf
  have hl := lv_entry ([.ref a_o]) (n := 1) (Nat.le_of_ble_eq_true rfl)
  rw [lg_entry_eq]
  generalize (lg_sl ([.ref a_o]) ++ List.replicate (1 - (lg_sl ([.ref a_o])).length) Slot.unset).toArray = ls at hl ⊢
  have hl : lv_has ls 1 [(0, .ref a_o)] := hl
  have S : CallFix p m c cX4_cutLast 1 s _ GW RX4 := ⟨hx, hb, hml, hown, hts⟩
  unfold f_X4_cutLast at h
  refine lv_aload_n hx hb dX4_cutLast_0 rfl (lv_at hl 0 rfl) ?_
  refine gfX4_2 hx hb hts hown hK hP 0 rfl wfX4_26 dX4_cutLast_1 ?_
  refine lv_if_gt (tgt := 10) hx hb dX4_cutLast_4 (by decide) (fun c1 => ?_) (fun c1 => ?_)
  · have h := it_t c1 h
    refine lv_aload_n hx hb dX4_cutLast_10 rfl (lv_at hl 0 rfl) ?_
    refine lv_dup hx hb dX4_cutLast_11 rfl ?_
    refine gfX4_2 hx hb hts hown hK hP 0 rfl wfX4_26 dX4_cutLast_12 ?_
    refine lv_iconst (v := (1 : Int32)) hx hb dX4_cutLast_15 (by decide) ?_
    refine lv_isub hx hb dX4_cutLast_16 ?_
    refine lv_topi (fun y2 ey2 => ?_)
    have h := nm_use h ey2
    refine pfX4_2 (ws' := [(a_o, .inr (3, [.ref a_o_masks, .ref a_o_row, .int (y2), .int (o_startCells), .int (o_modeNow)])), (a_o_row, .inr (2, [.ref a_o_row_tests, .int (o_row_size)])), (a_o_row_tests, .inl (cI, 8, .inl (o_row_tests)))]) hx hb hts hown hK hP hD hS 0 rfl rfl wfX4_26 dX4_cutLast_17 (fun H locs hP hD hS => ?_)
    refine lv_aload_n hx hb dX4_cutLast_20 rfl (lv_at hl 0 rfl) ?_
    refine gfX4_1 hx hb hts hown hK hP 0 rfl wfX4_18 dX4_cutLast_21 ?_
    refine lv_iconst (v := (1 : Int32)) hx hb dX4_cutLast_24 (by decide) ?_
    refine lv_aload_n hx hb dX4_cutLast_25 rfl (lv_at hl 0 rfl) ?_
    refine gfX4_2 hx hb hts hown hK hP 0 rfl wfX4_26 dX4_cutLast_26 ?_
    refine lv_ishl hx hb dX4_cutLast_29 ?_
    obtain ⟨w3, w4, hc5, h⟩ := bd2_use h
    refine wr_V (As := [.int ((1 : Int32) <<< (y2 &&& (31 : Int32)))]) (rest := []) (ws' := [(a_o, .inr (3, [.ref a_o_masks, .ref a_o_row, .int (y2), .int (o_startCells), .int (o_modeNow)])), (a_o_row, .inr (2, [.ref a_o_row_tests, .int (w3)])), (a_o_row_tests, .inl (cI, 8, .inl (w4)))]) S (c_X3_takeOut l D cI cS a_o_row a_o_row_tests o_row_size o_row_tests ((1 : Int32) <<< (y2 &&& (31 : Int32))) w3 w4 hc5) (cwV1 hts cvX3_takeOut wmX4_30 rfl rfl ⟨(Nat.le_of_ble_eq_true rfl), (Nat.le_of_ble_eq_true rfl)⟩) hK hP hD hS [1, 2] rfl rfl [(false, 0), (true, 0), (true, 1)] rfl rfl rfl 1 rfl rfl rfl rfl hl.1 rfl (Nat.le_of_ble_eq_true rfl) dX4_cutLast_30 ⟨Nat.zero_le _, Nat.zero_le _⟩ rfl (fun H locs hP hD hS => ?_)
    refine lv_aload_n hx hb dX4_cutLast_33 rfl (lv_at hl 0 rfl) ?_
    refine gfX4_2 hx hb hts hown hK hP 0 rfl wfX4_26 dX4_cutLast_34 ?_
    cases h
    exact W.iret hx hb hr (fun t ht _ => ⟨rfl, by rw [ht]; exact hP, hS.F ht⟩) hS.2.2 dX4_cutLast_37
  · have h := it_f c1 h
    refine lv_bipush (v := (-3 : Int32)) hx hb dX4_cutLast_7 (by decide) ?_
    cases h
    exact W.iret hx hb hr (fun t ht _ => ⟨rfl, by rw [ht]; exact hP, hS.F ht⟩) hS.2.2 dX4_cutLast_9
def f_X4_hasTest (o_size : Int32) (x1 : Int32) : Option (Bool) := (if x1 < (0 : Int32) then some (false) else (if o_size ≤ x1 then some (false) else some (true)))
set_option maxHeartbeats 4000000 in
set_option maxRecDepth 100000 in
theorem c_X4_hasTest (l : Launch) (D : va_G) (cI cS : ClassId) (a_o : Nat) (a_o_masks : Nat) (a_o_row : Nat) (o_size : Int32) (o_startCells : Int32) (o_modeNow : Int32) (x1 : Int32) (r0 : Bool) (h : f_X4_hasTest o_size x1 = some r0) : roM l D cI cS yX4_hasTest cX4_hasTest 2 (some .boolean) 0 0 [.ref a_o, .int x1] [(a_o, .inr (3, [.ref a_o_masks, .ref a_o_row, .int (o_size), .int (o_startCells), .int (o_modeNow)]))] (some (.int (b2i r0))) := by
  refine Met.ofW (cc := cX4_hasTest) (maxL := 2) (ret := (some .boolean)) (by decide) rfl ?_
  intro p e s m args below meth c s₁ B hml hv
  obtain ⟨rfl, hP, hK⟩ := hv
  have hx := B.exec
  have hb := B.bytes
  have hr := B.returns
  have hts : ∀ w ∈ GW, w.before _ s = true := fun w hw => atoms_spec (ws := mws yX4_hasTest cX4_hasTest 2 (some .boolean)) B.pre w (List.mem_cons_of_mem _ hw)
  have hown : s.vm.findClass RX4 = some m.cls := findClass_of_methodNamed B.named
  have hlocks := B.notSynchronized
  have hl := lv_entry ([.ref a_o, .int x1]) (n := 2) (Nat.le_of_ble_eq_true rfl)
  rw [lg_entry_eq]
  generalize (lg_sl ([.ref a_o, .int x1]) ++ List.replicate (2 - (lg_sl ([.ref a_o, .int x1])).length) Slot.unset).toArray = ls at hl ⊢
  have hl : lv_has ls 2 [(0, .ref a_o), (1, .int x1)] := hl
  have S : CallFix p m c cX4_hasTest 2 s _ GW RX4 := ⟨hx, hb, hml, hown, hts⟩
  unfold f_X4_hasTest at h
  refine lv_iload_n hx hb dX4_hasTest_0 rfl (lv_at hl 1 rfl) ?_
  refine lv_if_lt (tgt := 16) hx hb dX4_hasTest_1 (by decide) (fun c1 => ?_) (fun c1 => ?_)
  · have h := it_t c1 h
    refine lv_iconst (v := (0 : Int32)) hx hb dX4_hasTest_16 (by decide) ?_
    exact W.zret hx hb hr rfl (fun t ht _ => ⟨congrArg (fun z => Outcome.returned (some (Value.int (b2i z)))) (Option.some.inj h), ht⟩) (fun q hq => by cases hq) dX4_hasTest_17
  · have h := it_f c1 h
    refine lv_iload_n hx hb dX4_hasTest_4 rfl (lv_at hl 1 rfl) ?_
    refine lv_aload_n hx hb dX4_hasTest_5 rfl (lv_at hl 0 rfl) ?_
    refine gfX4_2 hx hb hts hown hK hP 0 rfl wfX4_26 dX4_hasTest_6 ?_
    refine lv_icmp_ge (tgt := 16) hx hb dX4_hasTest_9 (by decide) (fun c2 => ?_) (fun c2 => ?_)
    · have h := it_t c2 h
      refine lv_iconst (v := (0 : Int32)) hx hb dX4_hasTest_16 (by decide) ?_
      exact W.zret hx hb hr rfl (fun t ht _ => ⟨congrArg (fun z => Outcome.returned (some (Value.int (b2i z)))) (Option.some.inj h), ht⟩) (fun q hq => by cases hq) dX4_hasTest_17
    · have h := it_f c2 h
      refine lv_iconst (v := (1 : Int32)) hx hb dX4_hasTest_12 (by decide) ?_
      refine lv_goto (tgt := 17) hx hb dX4_hasTest_13 (by decide) ?_
      exact W.zret hx hb hr rfl (fun t ht _ => ⟨congrArg (fun z => Outcome.returned (some (Value.int (b2i z)))) (Option.some.inj h), ht⟩) (fun q hq => by cases hq) dX4_hasTest_17
def f_X4_layTest (o_size : Int32) (o_row_size : Int32) (o_row_tests : Ar) (x1 : Int32) : Option (Int32 × Int32 × Ar) := bd1 (f_X4_hasTest o_size x1) (fun r1 => (if (b2i r1) = (0 : Int32) then some ((-2 : Int32), o_row_size, o_row_tests) else bd1 (f_X3_placeOf o_row_size o_row_tests x1) (fun r4 => (if r4 = (-1 : Int32) then bd2 (f_X3_append o_row_size o_row_tests x1) (fun w7 w8 => some (w7, w7, w8)) else some ((-3 : Int32), o_row_size, o_row_tests)))))
set_option maxHeartbeats 4000000 in
set_option maxRecDepth 100000 in
theorem c_X4_layTest (l : Launch) (D : va_G) (cI cS : ClassId) (a_o : Nat) (a_o_row : Nat) (a_o_row_tests : Nat) (a_o_masks : Nat) (o_size : Int32) (o_startCells : Int32) (o_modeNow : Int32) (o_row_size : Int32) (o_row_tests : Ar) (x1 : Int32) (r0 : Int32) (o_row_size' : Int32) (o_row_tests' : Ar) (h : f_X4_layTest o_size o_row_size o_row_tests x1 = some (r0, o_row_size', o_row_tests')) : wrM l D cI cS yX4_layTest cX4_layTest 2 (some .int) 2 43 [.ref a_o, .int x1] [(a_o, .inr (3, [.ref a_o_masks, .ref a_o_row, .int (o_size), .int (o_startCells), .int (o_modeNow)])), (a_o_row, .inr (2, [.ref a_o_row_tests, .int (o_row_size)])), (a_o_row_tests, .inl (cI, 8, .inl (o_row_tests)))] [(a_o, .inr (3, [.ref a_o_masks, .ref a_o_row, .int (o_size), .int (o_startCells), .int (o_modeNow)])), (a_o_row, .inr (2, [.ref a_o_row_tests, .int (o_row_size')])), (a_o_row_tests, .inl (cI, 8, .inl (o_row_tests')))] (some (.int r0)) := by
  refine Met.ofW (cc := cX4_layTest) (maxL := 2) (ret := (some .int)) (by decide) rfl ?_
  intro p e s m args below meth c s₁ B hml hv
  obtain ⟨rfl, hP, hK, hD0⟩ := hv
  have hx := B.exec
  have hb := B.bytes
  have hr := B.returns
  have hts : ∀ w ∈ GW, w.before _ s = true := fun w hw => atoms_spec (ws := mws yX4_layTest cX4_layTest 2 (some .int)) B.pre w (List.mem_cons_of_mem _ hw)
  have hown : s.vm.findClass RX4 = some m.cls := findClass_of_methodNamed B.named
  have hlocks := B.notSynchronized
  have hD := inW_self hD0
  generalize hAe : inW [(a_o, .inr (3, [.ref a_o_masks, .ref a_o_row, .int (o_size), .int (o_startCells), .int (o_modeNow)])), (a_o_row, .inr (2, [.ref a_o_row_tests, .int (o_row_size)])), (a_o_row_tests, .inl (cI, 8, .inl (o_row_tests)))] = A at hD ⊢
  have hS : va_S A s.heap s.heap [] := va_S.rf
  have hl := lv_entry ([.ref a_o, .int x1]) (n := 2) (Nat.le_of_ble_eq_true rfl)
  rw [lg_entry_eq]
  generalize (lg_sl ([.ref a_o, .int x1]) ++ List.replicate (2 - (lg_sl ([.ref a_o, .int x1])).length) Slot.unset).toArray = ls at hl ⊢
  have hl : lv_has ls 2 [(0, .ref a_o), (1, .int x1)] := hl
  have S : CallFix p m c cX4_layTest 2 s _ GW RX4 := ⟨hx, hb, hml, hown, hts⟩
  unfold f_X4_layTest at h
  refine lv_aload_n hx hb dX4_layTest_0 rfl (lv_at hl 0 rfl) ?_
  refine lv_iload_n hx hb dX4_layTest_1 rfl (lv_at hl 1 rfl) ?_
  obtain ⟨r1, hc2, h⟩ := bd1_use h
  refine ro_V (As := [.int x1]) (rest := []) S (c_X4_hasTest l D cI cS a_o a_o_masks a_o_row o_size o_startCells o_modeNow x1 r1 hc2) (cwV1 hts cvX4_hasTest wmX4_34 rfl rfl ⟨(Nat.le_of_ble_eq_true rfl), (Nat.le_of_ble_eq_true rfl)⟩) hK hP [0] rfl 0 rfl rfl rfl rfl hl.1 rfl (Nat.le_of_ble_eq_true rfl) dX4_layTest_2 ⟨Nat.zero_le _, Nat.zero_le _⟩ rfl ?_
  refine lv_if_ne (tgt := 11) hx hb dX4_layTest_5 (by decide) (fun c3 => ?_) (fun c3 => ?_)
  · have h := it_f c3 h
    refine lv_aload_n hx hb dX4_layTest_11 rfl (lv_at hl 0 rfl) ?_
    refine gfX4_1 hx hb hts hown hK hP 0 rfl wfX4_18 dX4_layTest_12 ?_
    refine lv_iload_n hx hb dX4_layTest_15 rfl (lv_at hl 1 rfl) ?_
    obtain ⟨r4, hc5, h⟩ := bd1_use h
    refine ro_V (As := [.int x1]) (rest := []) S (c_X3_placeOf l D cI cS a_o_row a_o_row_tests o_row_size o_row_tests x1 r4 hc5) (cwV1 hts cvX3_placeOf wmX4_37 rfl rfl ⟨(Nat.le_of_ble_eq_true rfl), (Nat.le_of_ble_eq_true rfl)⟩) hK hP [1, 2] rfl 1 rfl rfl rfl rfl hl.1 rfl (Nat.le_of_ble_eq_true rfl) dX4_layTest_16 ⟨Nat.zero_le _, Nat.zero_le _⟩ rfl ?_
    refine lv_iconst (v := (-1 : Int32)) hx hb dX4_layTest_19 (by decide) ?_
    refine lv_icmp_eq (tgt := 26) hx hb dX4_layTest_20 (by decide) (fun c6 => ?_) (fun c6 => ?_)
    · have h := it_t c6 h
      refine lv_aload_n hx hb dX4_layTest_26 rfl (lv_at hl 0 rfl) ?_
      refine gfX4_1 hx hb hts hown hK hP 0 rfl wfX4_18 dX4_layTest_27 ?_
      refine lv_iload_n hx hb dX4_layTest_30 rfl (lv_at hl 1 rfl) ?_
      obtain ⟨w7, w8, hc9, h⟩ := bd2_use h
      refine wr_V (As := [.int x1]) (rest := []) (ws' := [(a_o, .inr (3, [.ref a_o_masks, .ref a_o_row, .int (o_size), .int (o_startCells), .int (o_modeNow)])), (a_o_row, .inr (2, [.ref a_o_row_tests, .int (w7)])), (a_o_row_tests, .inl (cI, 8, .inl (w8)))]) S (c_X3_append l D cI cS a_o_row a_o_row_tests o_row_size o_row_tests x1 w7 w8 hc9) (cwV1 hts cvX3_append wmX4_41 rfl rfl ⟨(Nat.le_of_ble_eq_true rfl), (Nat.le_of_ble_eq_true rfl)⟩) hK hP hD hS [1, 2] rfl rfl [(false, 0), (true, 0), (true, 1)] rfl rfl rfl 1 rfl rfl rfl rfl hl.1 rfl (Nat.le_of_ble_eq_true rfl) dX4_layTest_31 ⟨Nat.zero_le _, Nat.zero_le _⟩ rfl (fun H locs hP hD hS => ?_)
      refine lv_aload_n hx hb dX4_layTest_34 rfl (lv_at hl 0 rfl) ?_
      refine gfX4_1 hx hb hts hown hK hP 0 rfl wfX4_18 dX4_layTest_35 ?_
      refine gnX3_1 hx hb hts hown hK hP 1 rfl wnX4_44 dX4_layTest_38 ?_
      cases h
      exact W.iret hx hb hr (fun t ht _ => ⟨rfl, by rw [ht]; exact hP, hS.F ht⟩) hS.2.2 dX4_layTest_41
    · have h := it_f c6 h
      refine lv_bipush (v := (-3 : Int32)) hx hb dX4_layTest_23 (by decide) ?_
      cases h
      exact W.iret hx hb hr (fun t ht _ => ⟨rfl, by rw [ht]; exact hP, hS.F ht⟩) hS.2.2 dX4_layTest_25
  · have h := it_t c3 h
    refine lv_bipush (v := (-2 : Int32)) hx hb dX4_layTest_8 (by decide) ?_
    cases h
    exact W.iret hx hb hr (fun t ht _ => ⟨rfl, by rw [ht]; exact hP, hS.F ht⟩) hS.2.2 dX4_layTest_10
def f_X4_wipeRow (o_row_size : Int32) : Option (Int32 × Int32) := bd1 (f_X3_makeEmpty o_row_size) (fun w1 => some (o_row_size, w1))
set_option maxHeartbeats 4000000 in
set_option maxRecDepth 100000 in
theorem c_X4_wipeRow (l : Launch) (D : va_G) (cI cS : ClassId) (a_o : Nat) (a_o_row : Nat) (a_o_masks : Nat) (a_o_row_tests : Nat) (o_size : Int32) (o_startCells : Int32) (o_modeNow : Int32) (o_row_size : Int32) (r0 : Int32) (o_row_size' : Int32) (h : f_X4_wipeRow o_row_size = some (r0, o_row_size')) : wrM l D cI cS yX4_wipeRow cX4_wipeRow 2 (some .int) 1 20 [.ref a_o] [(a_o, .inr (3, [.ref a_o_masks, .ref a_o_row, .int (o_size), .int (o_startCells), .int (o_modeNow)])), (a_o_row, .inr (2, [.ref a_o_row_tests, .int (o_row_size)]))] [(a_o, .inr (3, [.ref a_o_masks, .ref a_o_row, .int (o_size), .int (o_startCells), .int (o_modeNow)])), (a_o_row, .inr (2, [.ref a_o_row_tests, .int (o_row_size')]))] (some (.int r0)) := by
  refine Met.ofW (cc := cX4_wipeRow) (maxL := 2) (ret := (some .int)) (by decide) rfl ?_
  intro p e s m args below meth c s₁ B hml hv
  obtain ⟨rfl, hP, hK, hD0⟩ := hv
  have hx := B.exec
  have hb := B.bytes
  have hr := B.returns
  have hts : ∀ w ∈ GW, w.before _ s = true := fun w hw => atoms_spec (ws := mws yX4_wipeRow cX4_wipeRow 2 (some .int)) B.pre w (List.mem_cons_of_mem _ hw)
  have hown : s.vm.findClass RX4 = some m.cls := findClass_of_methodNamed B.named
  have hlocks := B.notSynchronized
  have hD := inW_self hD0
  generalize hAe : inW [(a_o, .inr (3, [.ref a_o_masks, .ref a_o_row, .int (o_size), .int (o_startCells), .int (o_modeNow)])), (a_o_row, .inr (2, [.ref a_o_row_tests, .int (o_row_size)]))] = A at hD ⊢
  have hS : va_S A s.heap s.heap [] := va_S.rf
  have hl := lv_entry ([.ref a_o]) (n := 2) (Nat.le_of_ble_eq_true rfl)
  rw [lg_entry_eq]
  generalize (lg_sl ([.ref a_o]) ++ List.replicate (2 - (lg_sl ([.ref a_o])).length) Slot.unset).toArray = ls at hl ⊢
  have hl : lv_has ls 2 [(0, .ref a_o)] := hl
  have S : CallFix p m c cX4_wipeRow 2 s _ GW RX4 := ⟨hx, hb, hml, hown, hts⟩
  unfold f_X4_wipeRow at h
  refine lv_aload_n hx hb dX4_wipeRow_0 rfl (lv_at hl 0 rfl) ?_
  refine gfX4_1 hx hb hts hown hK hP 0 rfl wfX4_18 dX4_wipeRow_1 ?_
  refine gnX3_1 hx hb hts hown hK hP 1 rfl wnX4_44 dX4_wipeRow_4 ?_
  refine lv_istore_n (lv' := [(1, .int o_row_size), (0, .ref a_o)]) hx hb dX4_wipeRow_7 rfl hl (by decide) rfl (fun ls hl => ?_)
  refine lv_aload_n hx hb dX4_wipeRow_8 rfl (lv_at hl 1 rfl) ?_
  refine gfX4_1 hx hb hts hown hK hP 0 rfl wfX4_18 dX4_wipeRow_9 ?_
  obtain ⟨w1, hc2, h⟩ := bd1_use h
  refine wr_V (As := []) (rest := []) (ws' := [(a_o, .inr (3, [.ref a_o_masks, .ref a_o_row, .int (o_size), .int (o_startCells), .int (o_modeNow)])), (a_o_row, .inr (2, [.ref a_o_row_tests, .int (w1)]))]) S (c_X3_makeEmpty l D cI cS a_o_row a_o_row_tests o_row_size w1 hc2) (cwV1 hts cvX3_makeEmpty wmX4_45 rfl rfl ⟨(Nat.le_of_ble_eq_true rfl), (Nat.le_of_ble_eq_true rfl)⟩) hK hP hD hS [1] rfl rfl [(false, 0), (true, 0)] rfl rfl rfl 1 rfl rfl rfl rfl hl.1 rfl (Nat.le_of_ble_eq_true rfl) dX4_wipeRow_12 ⟨Nat.zero_le _, Nat.zero_le _⟩ rfl (fun H locs hP hD hS => ?_)
  refine lv_iload_n hx hb dX4_wipeRow_15 rfl (lv_at hl 0 rfl) ?_
  cases h
  exact W.iret hx hb hr (fun t ht _ => ⟨rfl, by rw [ht]; exact hP, hS.F ht⟩) hS.2.2 dX4_wipeRow_16
def f_X4_changeStart (o_startCells : Int32) (x1 : Int32) : Option (Int32 × Int32) := bd1 (f_X6_areCells x1) (fun r1 => (if (b2i r1) = (0 : Int32) then some ((-2 : Int32), o_startCells) else some (o_startCells, x1)))
set_option maxHeartbeats 4000000 in
set_option maxRecDepth 100000 in
theorem c_X4_changeStart (l : Launch) (D : va_G) (cI cS : ClassId) (a_o : Nat) (a_o_masks : Nat) (a_o_row : Nat) (o_size : Int32) (o_startCells : Int32) (o_modeNow : Int32) (x1 : Int32) (r0 : Int32) (o_startCells' : Int32) (h : f_X4_changeStart o_startCells x1 = some (r0, o_startCells')) : wrM l D cI cS yX4_changeStart cX4_changeStart 3 (some .int) 1 20 [.ref a_o, .int x1] [(a_o, .inr (3, [.ref a_o_masks, .ref a_o_row, .int (o_size), .int (o_startCells), .int (o_modeNow)]))] [(a_o, .inr (3, [.ref a_o_masks, .ref a_o_row, .int (o_size), .int (o_startCells'), .int (o_modeNow)]))] (some (.int r0)) := by
  refine Met.ofW (cc := cX4_changeStart) (maxL := 3) (ret := (some .int)) (by decide) rfl ?_
  intro p e s m args below meth c s₁ B hml hv
  obtain ⟨rfl, hP, hK, hD0⟩ := hv
  have hx := B.exec
  have hb := B.bytes
  have hr := B.returns
  have hts : ∀ w ∈ GW, w.before _ s = true := fun w hw => atoms_spec (ws := mws yX4_changeStart cX4_changeStart 3 (some .int)) B.pre w (List.mem_cons_of_mem _ hw)
  have hown : s.vm.findClass RX4 = some m.cls := findClass_of_methodNamed B.named
  have hlocks := B.notSynchronized
  have hD := inW_self hD0
  generalize hAe : inW [(a_o, .inr (3, [.ref a_o_masks, .ref a_o_row, .int (o_size), .int (o_startCells), .int (o_modeNow)]))] = A at hD ⊢
  have hS : va_S A s.heap s.heap [] := va_S.rf
  have hl := lv_entry ([.ref a_o, .int x1]) (n := 3) (Nat.le_of_ble_eq_true rfl)
  rw [lg_entry_eq]
  generalize (lg_sl ([.ref a_o, .int x1]) ++ List.replicate (3 - (lg_sl ([.ref a_o, .int x1])).length) Slot.unset).toArray = ls at hl ⊢
  have hl : lv_has ls 3 [(0, .ref a_o), (1, .int x1)] := hl
  have S : CallFix p m c cX4_changeStart 3 s _ GW RX4 := ⟨hx, hb, hml, hown, hts⟩
  unfold f_X4_changeStart at h
  refine lv_iload_n hx hb dX4_changeStart_0 rfl (lv_at hl 1 rfl) ?_
  obtain ⟨r1, hc2, h⟩ := bd1_use h
  refine ro_SN (As := [.int x1]) (rest := []) S (c_X6_areCells l D cI cS x1 r1 hc2) (cwSN1 hts hK.2.1 csX6_areCells wnX4_22 rfl rfl ⟨(Nat.le_of_ble_eq_true rfl), (Nat.le_of_ble_eq_true rfl)⟩) hK hP [] rfl rfl hl.1 rfl (Nat.le_of_ble_eq_true rfl) dX4_changeStart_1 ⟨Nat.zero_le _, Nat.zero_le _⟩ rfl ?_
  refine lv_if_ne (tgt := 10) hx hb dX4_changeStart_4 (by decide) (fun c3 => ?_) (fun c3 => ?_)
  · have h := it_f c3 h
    refine lv_aload_n hx hb dX4_changeStart_10 rfl (lv_at hl 0 rfl) ?_
    refine gfX4_3 hx hb hts hown hK hP 0 rfl wfX4_48 dX4_changeStart_11 ?_
    refine lv_istore_n (lv' := [(2, .int o_startCells), (0, .ref a_o), (1, .int x1)]) hx hb dX4_changeStart_14 rfl hl (by decide) rfl (fun ls hl => ?_)
    refine lv_aload_n hx hb dX4_changeStart_15 rfl (lv_at hl 1 rfl) ?_
    refine lv_iload_n hx hb dX4_changeStart_16 rfl (lv_at hl 2 rfl) ?_
    refine pfX4_3 (ws' := [(a_o, .inr (3, [.ref a_o_masks, .ref a_o_row, .int (o_size), .int (x1), .int (o_modeNow)]))]) hx hb hts hown hK hP hD hS 0 rfl rfl wfX4_48 dX4_changeStart_17 (fun H locs hP hD hS => ?_)
    refine lv_iload_n hx hb dX4_changeStart_20 rfl (lv_at hl 0 rfl) ?_
    cases h
    exact W.iret hx hb hr (fun t ht _ => ⟨rfl, by rw [ht]; exact hP, hS.F ht⟩) hS.2.2 dX4_changeStart_21
  · have h := it_t c3 h
    refine lv_bipush (v := (-2 : Int32)) hx hb dX4_changeStart_7 (by decide) ?_
    cases h
    exact W.iret hx hb hr (fun t ht _ => ⟨rfl, by rw [ht]; exact hP, hS.F ht⟩) hS.2.2 dX4_changeStart_9
def f_X4_changeMode (o_modeNow : Int32) (x1 : Int32) : Option (Int32 × Int32) := (if x1 = (0 : Int32) then some (o_modeNow, x1) else (if x1 = (1 : Int32) then some (o_modeNow, x1) else some ((-2 : Int32), o_modeNow)))
set_option maxHeartbeats 4000000 in
set_option maxRecDepth 100000 in
theorem c_X4_changeMode (l : Launch) (D : va_G) (cI cS : ClassId) (a_o : Nat) (a_o_masks : Nat) (a_o_row : Nat) (o_size : Int32) (o_startCells : Int32) (o_modeNow : Int32) (x1 : Int32) (r0 : Int32) (o_modeNow' : Int32) (h : f_X4_changeMode o_modeNow x1 = some (r0, o_modeNow')) : wrM l D cI cS yX4_changeMode cX4_changeMode 3 (some .int) 0 0 [.ref a_o, .int x1] [(a_o, .inr (3, [.ref a_o_masks, .ref a_o_row, .int (o_size), .int (o_startCells), .int (o_modeNow)]))] [(a_o, .inr (3, [.ref a_o_masks, .ref a_o_row, .int (o_size), .int (o_startCells), .int (o_modeNow')]))] (some (.int r0)) := by
  refine Met.ofW (cc := cX4_changeMode) (maxL := 3) (ret := (some .int)) (by decide) rfl ?_
  intro p e s m args below meth c s₁ B hml hv
  obtain ⟨rfl, hP, hK, hD0⟩ := hv
  have hx := B.exec
  have hb := B.bytes
  have hr := B.returns
  have hts : ∀ w ∈ GW, w.before _ s = true := fun w hw => atoms_spec (ws := mws yX4_changeMode cX4_changeMode 3 (some .int)) B.pre w (List.mem_cons_of_mem _ hw)
  have hown : s.vm.findClass RX4 = some m.cls := findClass_of_methodNamed B.named
  have hlocks := B.notSynchronized
  have hD := inW_self hD0
  generalize hAe : inW [(a_o, .inr (3, [.ref a_o_masks, .ref a_o_row, .int (o_size), .int (o_startCells), .int (o_modeNow)]))] = A at hD ⊢
  have hS : va_S A s.heap s.heap [] := va_S.rf
  have hl := lv_entry ([.ref a_o, .int x1]) (n := 3) (Nat.le_of_ble_eq_true rfl)
  rw [lg_entry_eq]
  generalize (lg_sl ([.ref a_o, .int x1]) ++ List.replicate (3 - (lg_sl ([.ref a_o, .int x1])).length) Slot.unset).toArray = ls at hl ⊢
  have hl : lv_has ls 3 [(0, .ref a_o), (1, .int x1)] := hl
  have S : CallFix p m c cX4_changeMode 3 s _ GW RX4 := ⟨hx, hb, hml, hown, hts⟩
  unfold f_X4_changeMode at h
  refine lv_iload_n hx hb dX4_changeMode_0 rfl (lv_at hl 1 rfl) ?_
  refine lv_if_eq (tgt := 12) hx hb dX4_changeMode_1 (by decide) (fun c1 => ?_) (fun c1 => ?_)
  · have h := it_t c1 h
    refine lv_aload_n hx hb dX4_changeMode_12 rfl (lv_at hl 0 rfl) ?_
    refine gfX4_4 hx hb hts hown hK hP 0 rfl wfX4_51 dX4_changeMode_13 ?_
    refine lv_istore_n (lv' := [(2, .int o_modeNow), (0, .ref a_o), (1, .int x1)]) hx hb dX4_changeMode_16 rfl hl (by decide) rfl (fun ls hl => ?_)
    refine lv_aload_n hx hb dX4_changeMode_17 rfl (lv_at hl 1 rfl) ?_
    refine lv_iload_n hx hb dX4_changeMode_18 rfl (lv_at hl 2 rfl) ?_
    refine pfX4_4 (ws' := [(a_o, .inr (3, [.ref a_o_masks, .ref a_o_row, .int (o_size), .int (o_startCells), .int (x1)]))]) hx hb hts hown hK hP hD hS 0 rfl rfl wfX4_51 dX4_changeMode_19 (fun H locs hP hD hS => ?_)
    refine lv_iload_n hx hb dX4_changeMode_22 rfl (lv_at hl 0 rfl) ?_
    cases h
    exact W.iret hx hb hr (fun t ht _ => ⟨rfl, by rw [ht]; exact hP, hS.F ht⟩) hS.2.2 dX4_changeMode_23
  · have h := it_f c1 h
    refine lv_iload_n hx hb dX4_changeMode_4 rfl (lv_at hl 1 rfl) ?_
    refine lv_iconst (v := (1 : Int32)) hx hb dX4_changeMode_5 (by decide) ?_
    refine lv_icmp_eq (tgt := 12) hx hb dX4_changeMode_6 (by decide) (fun c2 => ?_) (fun c2 => ?_)
    · have h := it_t c2 h
      refine lv_aload_n hx hb dX4_changeMode_12 rfl (lv_at hl 0 rfl) ?_
      refine gfX4_4 hx hb hts hown hK hP 0 rfl wfX4_51 dX4_changeMode_13 ?_
      refine lv_istore_n (lv' := [(2, .int o_modeNow), (0, .ref a_o), (1, .int x1)]) hx hb dX4_changeMode_16 rfl hl (by decide) rfl (fun ls hl => ?_)
      refine lv_aload_n hx hb dX4_changeMode_17 rfl (lv_at hl 1 rfl) ?_
      refine lv_iload_n hx hb dX4_changeMode_18 rfl (lv_at hl 2 rfl) ?_
      refine pfX4_4 (ws' := [(a_o, .inr (3, [.ref a_o_masks, .ref a_o_row, .int (o_size), .int (o_startCells), .int (x1)]))]) hx hb hts hown hK hP hD hS 0 rfl rfl wfX4_51 dX4_changeMode_19 (fun H locs hP hD hS => ?_)
      refine lv_iload_n hx hb dX4_changeMode_22 rfl (lv_at hl 0 rfl) ?_
      cases h
      exact W.iret hx hb hr (fun t ht _ => ⟨rfl, by rw [ht]; exact hP, hS.F ht⟩) hS.2.2 dX4_changeMode_23
    · have h := it_f c2 h
      refine lv_bipush (v := (-2 : Int32)) hx hb dX4_changeMode_9 (by decide) ?_
      cases h
      exact W.iret hx hb hr (fun t ht _ => ⟨rfl, by rw [ht]; exact hP, hS.F ht⟩) hS.2.2 dX4_changeMode_11
def f_X4_shuffleRow (o_size : Int32) (o_row_size : Int32) (o_row_tests : Ar) (x1 : Int32) : Option (Int32 × Int32 × Ar) := bd1 (f_X6_isSeed x1) (fun r1 => (if (b2i r1) = (0 : Int32) then some ((-2 : Int32), o_row_size, o_row_tests) else bd2 (f_X3_layShuffled o_row_size o_row_tests o_size x1) (fun w4 w5 => some (w4, w4, w5))))
set_option maxHeartbeats 4000000 in
set_option maxRecDepth 100000 in
theorem c_X4_shuffleRow (l : Launch) (D : va_G) (cI cS : ClassId) (a_o : Nat) (a_o_row : Nat) (a_o_row_tests : Nat) (a_o_masks : Nat) (o_size : Int32) (o_startCells : Int32) (o_modeNow : Int32) (o_row_size : Int32) (o_row_tests : Ar) (x1 : Int32) (r0 : Int32) (o_row_size' : Int32) (o_row_tests' : Ar) (h : f_X4_shuffleRow o_size o_row_size o_row_tests x1 = some (r0, o_row_size', o_row_tests')) : wrM l D cI cS yX4_shuffleRow cX4_shuffleRow 2 (some .int) 2 48 [.ref a_o, .int x1] [(a_o, .inr (3, [.ref a_o_masks, .ref a_o_row, .int (o_size), .int (o_startCells), .int (o_modeNow)])), (a_o_row, .inr (2, [.ref a_o_row_tests, .int (o_row_size)])), (a_o_row_tests, .inl (cI, 8, .inl (o_row_tests)))] [(a_o, .inr (3, [.ref a_o_masks, .ref a_o_row, .int (o_size), .int (o_startCells), .int (o_modeNow)])), (a_o_row, .inr (2, [.ref a_o_row_tests, .int (o_row_size')])), (a_o_row_tests, .inl (cI, 8, .inl (o_row_tests')))] (some (.int r0)) := by
  refine Met.ofW (cc := cX4_shuffleRow) (maxL := 2) (ret := (some .int)) (by decide) rfl ?_
  intro p e s m args below meth c s₁ B hml hv
  obtain ⟨rfl, hP, hK, hD0⟩ := hv
  have hx := B.exec
  have hb := B.bytes
  have hr := B.returns
  have hts : ∀ w ∈ GW, w.before _ s = true := fun w hw => atoms_spec (ws := mws yX4_shuffleRow cX4_shuffleRow 2 (some .int)) B.pre w (List.mem_cons_of_mem _ hw)
  have hown : s.vm.findClass RX4 = some m.cls := findClass_of_methodNamed B.named
  have hlocks := B.notSynchronized
  have hD := inW_self hD0
  generalize hAe : inW [(a_o, .inr (3, [.ref a_o_masks, .ref a_o_row, .int (o_size), .int (o_startCells), .int (o_modeNow)])), (a_o_row, .inr (2, [.ref a_o_row_tests, .int (o_row_size)])), (a_o_row_tests, .inl (cI, 8, .inl (o_row_tests)))] = A at hD ⊢
  have hS : va_S A s.heap s.heap [] := va_S.rf
  have hl := lv_entry ([.ref a_o, .int x1]) (n := 2) (Nat.le_of_ble_eq_true rfl)
  rw [lg_entry_eq]
  generalize (lg_sl ([.ref a_o, .int x1]) ++ List.replicate (2 - (lg_sl ([.ref a_o, .int x1])).length) Slot.unset).toArray = ls at hl ⊢
  have hl : lv_has ls 2 [(0, .ref a_o), (1, .int x1)] := hl
  have S : CallFix p m c cX4_shuffleRow 2 s _ GW RX4 := ⟨hx, hb, hml, hown, hts⟩
  unfold f_X4_shuffleRow at h
  refine lv_iload_n hx hb dX4_shuffleRow_0 rfl (lv_at hl 1 rfl) ?_
  obtain ⟨r1, hc2, h⟩ := bd1_use h
  refine ro_SN (As := [.int x1]) (rest := []) S (c_X6_isSeed l D cI cS x1 r1 hc2) (cwSN1 hts hK.2.1 csX6_isSeed wnX4_54 rfl rfl ⟨(Nat.le_of_ble_eq_true rfl), (Nat.le_of_ble_eq_true rfl)⟩) hK hP [] rfl rfl hl.1 rfl (Nat.le_of_ble_eq_true rfl) dX4_shuffleRow_1 ⟨Nat.zero_le _, Nat.zero_le _⟩ rfl ?_
  refine lv_if_ne (tgt := 10) hx hb dX4_shuffleRow_4 (by decide) (fun c3 => ?_) (fun c3 => ?_)
  · have h := it_f c3 h
    refine lv_aload_n hx hb dX4_shuffleRow_10 rfl (lv_at hl 0 rfl) ?_
    refine gfX4_1 hx hb hts hown hK hP 0 rfl wfX4_18 dX4_shuffleRow_11 ?_
    refine lv_aload_n hx hb dX4_shuffleRow_14 rfl (lv_at hl 0 rfl) ?_
    refine gfX4_2 hx hb hts hown hK hP 0 rfl wfX4_26 dX4_shuffleRow_15 ?_
    refine lv_iload_n hx hb dX4_shuffleRow_18 rfl (lv_at hl 1 rfl) ?_
    obtain ⟨w4, w5, hc6, h⟩ := bd2_use h
    refine wr_V (As := [.int o_size, .int x1]) (rest := []) (ws' := [(a_o, .inr (3, [.ref a_o_masks, .ref a_o_row, .int (o_size), .int (o_startCells), .int (o_modeNow)])), (a_o_row, .inr (2, [.ref a_o_row_tests, .int (w4)])), (a_o_row_tests, .inl (cI, 8, .inl (w5)))]) S (c_X3_layShuffled l D cI cS a_o_row a_o_row_tests o_row_size o_row_tests o_size x1 w4 w5 hc6) (cwV1 hts cvX3_layShuffled wmX4_57 rfl rfl ⟨(Nat.le_of_ble_eq_true rfl), (Nat.le_of_ble_eq_true rfl)⟩) hK hP hD hS [1, 2] rfl rfl [(false, 0), (true, 0), (true, 1)] rfl rfl rfl 1 rfl rfl rfl rfl hl.1 rfl (Nat.le_of_ble_eq_true rfl) dX4_shuffleRow_19 ⟨Nat.zero_le _, Nat.zero_le _⟩ rfl (fun H locs hP hD hS => ?_)
    refine lv_aload_n hx hb dX4_shuffleRow_22 rfl (lv_at hl 0 rfl) ?_
    refine gfX4_1 hx hb hts hown hK hP 0 rfl wfX4_18 dX4_shuffleRow_23 ?_
    refine gnX3_1 hx hb hts hown hK hP 1 rfl wnX4_44 dX4_shuffleRow_26 ?_
    cases h
    exact W.iret hx hb hr (fun t ht _ => ⟨rfl, by rw [ht]; exact hP, hS.F ht⟩) hS.2.2 dX4_shuffleRow_29
  · have h := it_t c3 h
    refine lv_bipush (v := (-2 : Int32)) hx hb dX4_shuffleRow_7 (by decide) ?_
    cases h
    exact W.iret hx hb hr (fun t ht _ => ⟨rfl, by rw [ht]; exact hP, hS.F ht⟩) hS.2.2 dX4_shuffleRow_9
def f_X4_mask (o_masks : Ar) (x1 : Int32) (x2 : Int32) : Option (Int32) := nm ((x1 * (5 : Int32)) + x2) (fun y1 => (if y1 < (0 : Int32) then some ((0 : Int32)) else (if (40 : Int32) ≤ y1 then some ((0 : Int32)) else rd o_masks 40 y1 (fun rv4 => some (rv4)))))
set_option maxHeartbeats 4000000 in
set_option maxRecDepth 100000 in
theorem c_X4_mask (l : Launch) (D : va_G) (cI cS : ClassId) (a_o : Nat) (a_o_masks : Nat) (a_o_row : Nat) (o_size : Int32) (o_startCells : Int32) (o_modeNow : Int32) (o_masks : Ar) (x1 : Int32) (x2 : Int32) (r0 : Int32) (h : f_X4_mask o_masks x1 x2 = some r0) : roM l D cI cS yX4_mask cX4_mask 4 (some .int) 0 0 [.ref a_o, .int x1, .int x2] [(a_o, .inr (3, [.ref a_o_masks, .ref a_o_row, .int (o_size), .int (o_startCells), .int (o_modeNow)])), (a_o_masks, .inl (cI, 40, .inl (o_masks)))] (some (.int r0)) := by
  refine Met.ofW (cc := cX4_mask) (maxL := 4) (ret := (some .int)) (by decide) rfl ?_
  intro p e s m args below meth c s₁ B hml hv
  obtain ⟨rfl, hP, hK⟩ := hv
  have hx := B.exec
  have hb := B.bytes
  have hr := B.returns
  have hts : ∀ w ∈ GW, w.before _ s = true := fun w hw => atoms_spec (ws := mws yX4_mask cX4_mask 4 (some .int)) B.pre w (List.mem_cons_of_mem _ hw)
  have hown : s.vm.findClass RX4 = some m.cls := findClass_of_methodNamed B.named
  have hlocks := B.notSynchronized
  have hl := lv_entry ([.ref a_o, .int x1, .int x2]) (n := 4) (Nat.le_of_ble_eq_true rfl)
  rw [lg_entry_eq]
  generalize (lg_sl ([.ref a_o, .int x1, .int x2]) ++ List.replicate (4 - (lg_sl ([.ref a_o, .int x1, .int x2])).length) Slot.unset).toArray = ls at hl ⊢
  have hl : lv_has ls 4 [(0, .ref a_o), (1, .int x1), (2, .int x2)] := hl
  have S : CallFix p m c cX4_mask 4 s _ GW RX4 := ⟨hx, hb, hml, hown, hts⟩
  unfold f_X4_mask at h
  refine lv_iload_n hx hb dX4_mask_0 rfl (lv_at hl 1 rfl) ?_
  refine lv_iconst (v := (5 : Int32)) hx hb dX4_mask_1 (by decide) ?_
  refine lv_imul hx hb dX4_mask_2 ?_
  refine lv_iload_n hx hb dX4_mask_3 rfl (lv_at hl 2 rfl) ?_
  refine lv_iadd hx hb dX4_mask_4 ?_
  refine lv_topi (fun y1 ey1 => ?_)
  have h := nm_use h ey1
  refine lv_istore_n (lv' := [(3, .int y1), (0, .ref a_o), (1, .int x1), (2, .int x2)]) hx hb dX4_mask_5 rfl hl (by decide) rfl (fun ls hl => ?_)
  refine lv_iload_n hx hb dX4_mask_6 rfl (lv_at hl 0 rfl) ?_
  refine lv_if_lt (tgt := 28) hx hb dX4_mask_7 (by decide) (fun c2 => ?_) (fun c2 => ?_)
  · have h := it_t c2 h
    refine lv_iconst (v := (0 : Int32)) hx hb dX4_mask_28 (by decide) ?_
    exact W.iret hx hb hr (fun t ht _ => ⟨congrArg (fun z => Outcome.returned (some (Value.int z))) (Option.some.inj h), ht⟩) (fun q hq => by cases hq) dX4_mask_29
  · have h := it_f c2 h
    refine lv_iload_n hx hb dX4_mask_10 rfl (lv_at hl 0 rfl) ?_
    refine lv_aload_n hx hb dX4_mask_11 rfl (lv_at hl 1 rfl) ?_
    refine gfX4_0 hx hb hts hown hK hP 0 rfl wfX4_9 dX4_mask_12 ?_
    refine al_ (w := (40 : Int32)) hx hb hK hP 1 rfl rfl dX4_mask_15 ?_
    refine lv_icmp_ge (tgt := 28) hx hb dX4_mask_16 (by decide) (fun c3 => ?_) (fun c3 => ?_)
    · have h := it_t c3 h
      refine lv_iconst (v := (0 : Int32)) hx hb dX4_mask_28 (by decide) ?_
      exact W.iret hx hb hr (fun t ht _ => ⟨congrArg (fun z => Outcome.returned (some (Value.int z))) (Option.some.inj h), ht⟩) (fun q hq => by cases hq) dX4_mask_29
    · have h := it_f c3 h
      refine lv_aload_n hx hb dX4_mask_19 rfl (lv_at hl 1 rfl) ?_
      refine gfX4_0 hx hb hts hown hK hP 0 rfl wfX4_9 dX4_mask_20 ?_
      refine lv_iload_n hx hb dX4_mask_23 rfl (lv_at hl 0 rfl) ?_
      obtain ⟨hi5, h⟩ := rd_use h
      refine ia_ hx hb hK hP 1 rfl hi5 dX4_mask_24 ?_
      refine lv_goto (tgt := 29) hx hb dX4_mask_25 (by decide) ?_
      exact W.iret hx hb hr (fun t ht _ => ⟨congrArg (fun z => Outcome.returned (some (Value.int z))) (Option.some.inj h), ht⟩) (fun q hq => by cases hq) dX4_mask_29
def f_X4_wrongCells (o_masks : Ar) (x1 : Int32) (x2 : Int32) : Option (Int32) := (if x1 < (0 : Int32) then some ((0 : Int32)) else (if x1 < (8 : Int32) then nm (x1 * (5 : Int32)) (fun y3 => rd o_masks 40 (y3 + (0 : Int32)) (fun rv4 => rd o_masks 40 (y3 + (1 : Int32)) (fun rv6 => some (((x2 &&& rv4) ||| ((x2 ^^^ (-1 : Int32)) &&& rv6)))))) else some ((0 : Int32))))
set_option maxHeartbeats 4000000 in
set_option maxRecDepth 100000 in
theorem c_X4_wrongCells (l : Launch) (D : va_G) (cI cS : ClassId) (a_o : Nat) (a_o_masks : Nat) (a_o_row : Nat) (o_size : Int32) (o_startCells : Int32) (o_modeNow : Int32) (o_masks : Ar) (x1 : Int32) (x2 : Int32) (r0 : Int32) (h : f_X4_wrongCells o_masks x1 x2 = some r0) : roM l D cI cS yX4_wrongCells cX4_wrongCells 4 (some .int) 0 0 [.ref a_o, .int x1, .int x2] [(a_o, .inr (3, [.ref a_o_masks, .ref a_o_row, .int (o_size), .int (o_startCells), .int (o_modeNow)])), (a_o_masks, .inl (cI, 40, .inl (o_masks)))] (some (.int r0)) := by
  refine Met.ofW (cc := cX4_wrongCells) (maxL := 4) (ret := (some .int)) (by decide) rfl ?_
  intro p e s m args below meth c s₁ B hml hv
  obtain ⟨rfl, hP, hK⟩ := hv
  have hx := B.exec
  have hb := B.bytes
  have hr := B.returns
  have hts : ∀ w ∈ GW, w.before _ s = true := fun w hw => atoms_spec (ws := mws yX4_wrongCells cX4_wrongCells 4 (some .int)) B.pre w (List.mem_cons_of_mem _ hw)
  have hown : s.vm.findClass RX4 = some m.cls := findClass_of_methodNamed B.named
  have hlocks := B.notSynchronized
  have hl := lv_entry ([.ref a_o, .int x1, .int x2]) (n := 4) (Nat.le_of_ble_eq_true rfl)
  rw [lg_entry_eq]
  generalize (lg_sl ([.ref a_o, .int x1, .int x2]) ++ List.replicate (4 - (lg_sl ([.ref a_o, .int x1, .int x2])).length) Slot.unset).toArray = ls at hl ⊢
  have hl : lv_has ls 4 [(0, .ref a_o), (1, .int x1), (2, .int x2)] := hl
  have S : CallFix p m c cX4_wrongCells 4 s _ GW RX4 := ⟨hx, hb, hml, hown, hts⟩
  unfold f_X4_wrongCells at h
  refine lv_iload_n hx hb dX4_wrongCells_0 rfl (lv_at hl 1 rfl) ?_
  refine lv_if_lt (tgt := 10) hx hb dX4_wrongCells_1 (by decide) (fun c1 => ?_) (fun c1 => ?_)
  · have h := it_t c1 h
    refine lv_iconst (v := (0 : Int32)) hx hb dX4_wrongCells_10 (by decide) ?_
    exact W.iret hx hb hr (fun t ht _ => ⟨congrArg (fun z => Outcome.returned (some (Value.int z))) (Option.some.inj h), ht⟩) (fun q hq => by cases hq) dX4_wrongCells_11
  · have h := it_f c1 h
    refine lv_iload_n hx hb dX4_wrongCells_4 rfl (lv_at hl 1 rfl) ?_
    refine lv_bipush (v := (8 : Int32)) hx hb dX4_wrongCells_5 (by decide) ?_
    refine lv_icmp_lt (tgt := 12) hx hb dX4_wrongCells_7 (by decide) (fun c2 => ?_) (fun c2 => ?_)
    · have h := it_t c2 h
      refine lv_iload_n hx hb dX4_wrongCells_12 rfl (lv_at hl 1 rfl) ?_
      refine lv_iconst (v := (5 : Int32)) hx hb dX4_wrongCells_13 (by decide) ?_
      refine lv_imul hx hb dX4_wrongCells_14 ?_
      refine lv_topi (fun y3 ey3 => ?_)
      have h := nm_use h ey3
      refine lv_istore_n (lv' := [(3, .int y3), (0, .ref a_o), (1, .int x1), (2, .int x2)]) hx hb dX4_wrongCells_15 rfl hl (by decide) rfl (fun ls hl => ?_)
      refine lv_iload_n hx hb dX4_wrongCells_16 rfl (lv_at hl 3 rfl) ?_
      refine lv_aload_n hx hb dX4_wrongCells_17 rfl (lv_at hl 1 rfl) ?_
      refine gfX4_0 hx hb hts hown hK hP 0 rfl wfX4_9 dX4_wrongCells_18 ?_
      refine lv_iload_n hx hb dX4_wrongCells_21 rfl (lv_at hl 0 rfl) ?_
      refine lv_iconst (v := (0 : Int32)) hx hb dX4_wrongCells_22 (by decide) ?_
      refine lv_iadd hx hb dX4_wrongCells_23 ?_
      obtain ⟨hi5, h⟩ := rd_use h
      refine ia_ hx hb hK hP 1 rfl hi5 dX4_wrongCells_24 ?_
      refine lv_iand hx hb dX4_wrongCells_25 ?_
      refine lv_iload_n hx hb dX4_wrongCells_26 rfl (lv_at hl 3 rfl) ?_
      refine lv_iconst (v := (-1 : Int32)) hx hb dX4_wrongCells_27 (by decide) ?_
      refine lv_ixor hx hb dX4_wrongCells_28 ?_
      refine lv_aload_n hx hb dX4_wrongCells_29 rfl (lv_at hl 1 rfl) ?_
      refine gfX4_0 hx hb hts hown hK hP 0 rfl wfX4_9 dX4_wrongCells_30 ?_
      refine lv_iload_n hx hb dX4_wrongCells_33 rfl (lv_at hl 0 rfl) ?_
      refine lv_iconst (v := (1 : Int32)) hx hb dX4_wrongCells_34 (by decide) ?_
      refine lv_iadd hx hb dX4_wrongCells_35 ?_
      obtain ⟨hi7, h⟩ := rd_use h
      refine ia_ hx hb hK hP 1 rfl hi7 dX4_wrongCells_36 ?_
      refine lv_iand hx hb dX4_wrongCells_37 ?_
      refine lv_ior hx hb dX4_wrongCells_38 ?_
      exact W.iret hx hb hr (fun t ht _ => ⟨congrArg (fun z => Outcome.returned (some (Value.int z))) (Option.some.inj h), ht⟩) (fun q hq => by cases hq) dX4_wrongCells_39
    · have h := it_f c2 h
      refine lv_iconst (v := (0 : Int32)) hx hb dX4_wrongCells_10 (by decide) ?_
      exact W.iret hx hb hr (fun t ht _ => ⟨congrArg (fun z => Outcome.returned (some (Value.int z))) (Option.some.inj h), ht⟩) (fun q hq => by cases hq) dX4_wrongCells_11
def f_X4_passesOn (o_masks : Ar) (x1 : Int32) (x2 : Int32) : Option (Bool) := bd1 (f_X4_wrongCells o_masks x1 x2) (fun r1 => (if r1 = (0 : Int32) then some (true) else some (false)))
set_option maxHeartbeats 4000000 in
set_option maxRecDepth 100000 in
theorem c_X4_passesOn (l : Launch) (D : va_G) (cI cS : ClassId) (a_o : Nat) (a_o_masks : Nat) (a_o_row : Nat) (o_size : Int32) (o_startCells : Int32) (o_modeNow : Int32) (o_masks : Ar) (x1 : Int32) (x2 : Int32) (r0 : Bool) (h : f_X4_passesOn o_masks x1 x2 = some r0) : roM l D cI cS yX4_passesOn cX4_passesOn 3 (some .boolean) 1 23 [.ref a_o, .int x1, .int x2] [(a_o, .inr (3, [.ref a_o_masks, .ref a_o_row, .int (o_size), .int (o_startCells), .int (o_modeNow)])), (a_o_masks, .inl (cI, 40, .inl (o_masks)))] (some (.int (b2i r0))) := by
  refine Met.ofW (cc := cX4_passesOn) (maxL := 3) (ret := (some .boolean)) (by decide) rfl ?_
  intro p e s m args below meth c s₁ B hml hv
  obtain ⟨rfl, hP, hK⟩ := hv
  have hx := B.exec
  have hb := B.bytes
  have hr := B.returns
  have hts : ∀ w ∈ GW, w.before _ s = true := fun w hw => atoms_spec (ws := mws yX4_passesOn cX4_passesOn 3 (some .boolean)) B.pre w (List.mem_cons_of_mem _ hw)
  have hown : s.vm.findClass RX4 = some m.cls := findClass_of_methodNamed B.named
  have hlocks := B.notSynchronized
  have hl := lv_entry ([.ref a_o, .int x1, .int x2]) (n := 3) (Nat.le_of_ble_eq_true rfl)
  rw [lg_entry_eq]
  generalize (lg_sl ([.ref a_o, .int x1, .int x2]) ++ List.replicate (3 - (lg_sl ([.ref a_o, .int x1, .int x2])).length) Slot.unset).toArray = ls at hl ⊢
  have hl : lv_has ls 3 [(0, .ref a_o), (1, .int x1), (2, .int x2)] := hl
  have S : CallFix p m c cX4_passesOn 3 s _ GW RX4 := ⟨hx, hb, hml, hown, hts⟩
  unfold f_X4_passesOn at h
  refine lv_aload_n hx hb dX4_passesOn_0 rfl (lv_at hl 0 rfl) ?_
  refine lv_iload_n hx hb dX4_passesOn_1 rfl (lv_at hl 1 rfl) ?_
  refine lv_iload_n hx hb dX4_passesOn_2 rfl (lv_at hl 2 rfl) ?_
  obtain ⟨r1, hc2, h⟩ := bd1_use h
  refine ro_V (As := [.int x1, .int x2]) (rest := []) S (c_X4_wrongCells l D cI cS a_o a_o_masks a_o_row o_size o_startCells o_modeNow o_masks x1 x2 r1 hc2) (cwV1 hts cvX4_wrongCells wmX4_75 rfl rfl ⟨(Nat.le_of_ble_eq_true rfl), (Nat.le_of_ble_eq_true rfl)⟩) hK hP [0, 1] rfl 0 rfl rfl rfl rfl hl.1 rfl (Nat.le_of_ble_eq_true rfl) dX4_passesOn_3 ⟨Nat.zero_le _, Nat.zero_le _⟩ rfl ?_
  refine lv_if_ne (tgt := 13) hx hb dX4_passesOn_6 (by decide) (fun c3 => ?_) (fun c3 => ?_)
  · have h := it_f c3 h
    refine lv_iconst (v := (0 : Int32)) hx hb dX4_passesOn_13 (by decide) ?_
    exact W.zret hx hb hr rfl (fun t ht _ => ⟨congrArg (fun z => Outcome.returned (some (Value.int (b2i z)))) (Option.some.inj h), ht⟩) (fun q hq => by cases hq) dX4_passesOn_14
  · have h := it_t c3 h
    refine lv_iconst (v := (1 : Int32)) hx hb dX4_passesOn_9 (by decide) ?_
    refine lv_goto (tgt := 14) hx hb dX4_passesOn_10 (by decide) ?_
    exact W.zret hx hb hr rfl (fun t ht _ => ⟨congrArg (fun z => Outcome.returned (some (Value.int (b2i z)))) (Option.some.inj h), ht⟩) (fun q hq => by cases hq) dX4_passesOn_14
def f_X4_isFlippedOn (o_startCells : Int32) (o_masks : Ar) (x1 : Int32) (x2 : Int32) : Option (Bool) := bd1 (f_X4_passesOn o_masks x1 x2) (fun r1 => bd1 (f_X4_passesOn o_masks x1 o_startCells) (fun r3 => (if (b2i r1) = (b2i r3) then some (false) else some (true))))
set_option maxHeartbeats 4000000 in
set_option maxRecDepth 100000 in
theorem c_X4_isFlippedOn (l : Launch) (D : va_G) (cI cS : ClassId) (a_o : Nat) (a_o_masks : Nat) (a_o_row : Nat) (o_size : Int32) (o_startCells : Int32) (o_modeNow : Int32) (o_masks : Ar) (x1 : Int32) (x2 : Int32) (r0 : Bool) (h : f_X4_isFlippedOn o_startCells o_masks x1 x2 = some r0) : roM l D cI cS yX4_isFlippedOn cX4_isFlippedOn 3 (some .boolean) 2 45 [.ref a_o, .int x1, .int x2] [(a_o, .inr (3, [.ref a_o_masks, .ref a_o_row, .int (o_size), .int (o_startCells), .int (o_modeNow)])), (a_o_masks, .inl (cI, 40, .inl (o_masks)))] (some (.int (b2i r0))) := by
  refine Met.ofW (cc := cX4_isFlippedOn) (maxL := 3) (ret := (some .boolean)) (by decide) rfl ?_
  intro p e s m args below meth c s₁ B hml hv
  obtain ⟨rfl, hP, hK⟩ := hv
  have hx := B.exec
  have hb := B.bytes
  have hr := B.returns
  have hts : ∀ w ∈ GW, w.before _ s = true := fun w hw => atoms_spec (ws := mws yX4_isFlippedOn cX4_isFlippedOn 3 (some .boolean)) B.pre w (List.mem_cons_of_mem _ hw)
  have hown : s.vm.findClass RX4 = some m.cls := findClass_of_methodNamed B.named
  have hlocks := B.notSynchronized
  have hl := lv_entry ([.ref a_o, .int x1, .int x2]) (n := 3) (Nat.le_of_ble_eq_true rfl)
  rw [lg_entry_eq]
  generalize (lg_sl ([.ref a_o, .int x1, .int x2]) ++ List.replicate (3 - (lg_sl ([.ref a_o, .int x1, .int x2])).length) Slot.unset).toArray = ls at hl ⊢
  have hl : lv_has ls 3 [(0, .ref a_o), (1, .int x1), (2, .int x2)] := hl
  have S : CallFix p m c cX4_isFlippedOn 3 s _ GW RX4 := ⟨hx, hb, hml, hown, hts⟩
  unfold f_X4_isFlippedOn at h
  refine lv_aload_n hx hb dX4_isFlippedOn_0 rfl (lv_at hl 0 rfl) ?_
  refine lv_iload_n hx hb dX4_isFlippedOn_1 rfl (lv_at hl 1 rfl) ?_
  refine lv_iload_n hx hb dX4_isFlippedOn_2 rfl (lv_at hl 2 rfl) ?_
  obtain ⟨r1, hc2, h⟩ := bd1_use h
  refine ro_V (As := [.int x1, .int x2]) (rest := []) S (c_X4_passesOn l D cI cS a_o a_o_masks a_o_row o_size o_startCells o_modeNow o_masks x1 x2 r1 hc2) (cwV1 hts cvX4_passesOn wmX4_79 rfl rfl ⟨(Nat.le_of_ble_eq_true rfl), (Nat.le_of_ble_eq_true rfl)⟩) hK hP [0, 1] rfl 0 rfl rfl rfl rfl hl.1 rfl (Nat.le_of_ble_eq_true rfl) dX4_isFlippedOn_3 ⟨Nat.zero_le _, Nat.zero_le _⟩ rfl ?_
  refine lv_aload_n hx hb dX4_isFlippedOn_6 rfl (lv_at hl 0 rfl) ?_
  refine lv_iload_n hx hb dX4_isFlippedOn_7 rfl (lv_at hl 1 rfl) ?_
  refine lv_aload_n hx hb dX4_isFlippedOn_8 rfl (lv_at hl 0 rfl) ?_
  refine gfX4_3 hx hb hts hown hK hP 0 rfl wfX4_48 dX4_isFlippedOn_9 ?_
  obtain ⟨r3, hc4, h⟩ := bd1_use h
  refine ro_V (As := [.int x1, .int o_startCells]) (rest := [.int (b2i r1)]) S (c_X4_passesOn l D cI cS a_o a_o_masks a_o_row o_size o_startCells o_modeNow o_masks x1 o_startCells r3 hc4) (cwV1 hts cvX4_passesOn wmX4_79 rfl rfl ⟨(Nat.le_of_ble_eq_true rfl), (Nat.le_of_ble_eq_true rfl)⟩) hK hP [0, 1] rfl 0 rfl rfl rfl rfl hl.1 rfl (Nat.le_of_ble_eq_true rfl) dX4_isFlippedOn_12 ⟨Nat.zero_le _, Nat.zero_le _⟩ rfl ?_
  refine lv_icmp_eq (tgt := 22) hx hb dX4_isFlippedOn_15 (by decide) (fun c5 => ?_) (fun c5 => ?_)
  · have h := it_t c5 h
    refine lv_iconst (v := (0 : Int32)) hx hb dX4_isFlippedOn_22 (by decide) ?_
    exact W.zret hx hb hr rfl (fun t ht _ => ⟨congrArg (fun z => Outcome.returned (some (Value.int (b2i z)))) (Option.some.inj h), ht⟩) (fun q hq => by cases hq) dX4_isFlippedOn_23
  · have h := it_f c5 h
    refine lv_iconst (v := (1 : Int32)) hx hb dX4_isFlippedOn_18 (by decide) ?_
    refine lv_goto (tgt := 23) hx hb dX4_isFlippedOn_19 (by decide) ?_
    exact W.zret hx hb hr rfl (fun t ht _ => ⟨congrArg (fun z => Outcome.returned (some (Value.int (b2i z)))) (Option.some.inj h), ht⟩) (fun q hq => by cases hq) dX4_isFlippedOn_23
def b_X4_cellsAfter_28 (o_masks : Ar) (x1 : Int32) (x2 : Int32) : Option (Int32) := nm (x1 * (5 : Int32)) (fun y1 => rd o_masks 40 (y1 + (2 : Int32)) (fun rv2 => rd o_masks 40 (y1 + (3 : Int32)) (fun rv4 => rd o_masks 40 (y1 + (4 : Int32)) (fun rv6 => some ((((x2 &&& (rv2 ^^^ (-1 : Int32))) ||| rv4) ^^^ rv6))))))
def f_X4_cellsAfter (o_modeNow : Int32) (o_masks : Ar) (x1 : Int32) (x2 : Int32) : Option (Int32) := (if x1 < (0 : Int32) then some (x2) else (if (8 : Int32) ≤ x1 then some (x2) else (if o_modeNow = (0 : Int32) then bd1 (f_X4_wrongCells o_masks x1 x2) (fun r11 => (if r11 = (0 : Int32) then b_X4_cellsAfter_28 o_masks x1 x2  else some (x2))) else b_X4_cellsAfter_28 o_masks x1 x2 )))
set_option maxHeartbeats 4000000 in
set_option maxRecDepth 100000 in
theorem c_X4_cellsAfter (l : Launch) (D : va_G) (cI cS : ClassId) (a_o : Nat) (a_o_masks : Nat) (a_o_row : Nat) (o_size : Int32) (o_startCells : Int32) (o_modeNow : Int32) (o_masks : Ar) (x1 : Int32) (x2 : Int32) (r0 : Int32) (h : f_X4_cellsAfter o_modeNow o_masks x1 x2 = some r0) : roM l D cI cS yX4_cellsAfter cX4_cellsAfter 4 (some .int) 1 23 [.ref a_o, .int x1, .int x2] [(a_o, .inr (3, [.ref a_o_masks, .ref a_o_row, .int (o_size), .int (o_startCells), .int (o_modeNow)])), (a_o_masks, .inl (cI, 40, .inl (o_masks)))] (some (.int r0)) := by
  refine Met.ofW (cc := cX4_cellsAfter) (maxL := 4) (ret := (some .int)) (by decide) rfl ?_
  intro p e s m args below meth c s₁ B hml hv
  obtain ⟨rfl, hP, hK⟩ := hv
  have hx := B.exec
  have hb := B.bytes
  have hr := B.returns
  have hts : ∀ w ∈ GW, w.before _ s = true := fun w hw => atoms_spec (ws := mws yX4_cellsAfter cX4_cellsAfter 4 (some .int)) B.pre w (List.mem_cons_of_mem _ hw)
  have hown : s.vm.findClass RX4 = some m.cls := findClass_of_methodNamed B.named
  have hlocks := B.notSynchronized
  have hl := lv_entry ([.ref a_o, .int x1, .int x2]) (n := 4) (Nat.le_of_ble_eq_true rfl)
  rw [lg_entry_eq]
  generalize (lg_sl ([.ref a_o, .int x1, .int x2]) ++ List.replicate (4 - (lg_sl ([.ref a_o, .int x1, .int x2])).length) Slot.unset).toArray = ls at hl ⊢
  have hl : lv_has ls 4 [(0, .ref a_o), (1, .int x1), (2, .int x2)] := hl
  have S : CallFix p m c cX4_cellsAfter 4 s _ GW RX4 := ⟨hx, hb, hml, hown, hts⟩
  have L_28 : b_X4_cellsAfter_28 o_masks x1 x2  = some r0 → ∀ (ls : Array Slot), lv_has ls 4 [(0, .ref a_o), (1, .int x1), (2, .int x2)] → W p l e (headSpec (mws yX4_cellsAfter cX4_cellsAfter 4 (some .int)) { frames := 1, cells := 0, slots := 0, locals := 23 }).room s m [.ref a_o, .int x1, .int x2].toArray below meth c s.heap [] 0 0 (MQ below (roQ (some (.int r0))) [.ref a_o, .int x1, .int x2].toArray s 0 0 noF) (F0 m 28 ls []) := by
    intro  h ls hl
    unfold b_X4_cellsAfter_28 at h
    refine lv_iload_n hx hb dX4_cellsAfter_28 rfl (lv_at hl 1 rfl) ?_
    refine lv_iconst (v := (5 : Int32)) hx hb dX4_cellsAfter_29 (by decide) ?_
    refine lv_imul hx hb dX4_cellsAfter_30 ?_
    refine lv_topi (fun y1 ey1 => ?_)
    have h := nm_use h ey1
    refine lv_istore_n (lv' := [(3, .int y1), (0, .ref a_o), (1, .int x1), (2, .int x2)]) hx hb dX4_cellsAfter_31 rfl hl (by decide) rfl (fun ls hl => ?_)
    refine lv_iload_n hx hb dX4_cellsAfter_32 rfl (lv_at hl 3 rfl) ?_
    refine lv_aload_n hx hb dX4_cellsAfter_33 rfl (lv_at hl 1 rfl) ?_
    refine gfX4_0 hx hb hts hown hK hP 0 rfl wfX4_9 dX4_cellsAfter_34 ?_
    refine lv_iload_n hx hb dX4_cellsAfter_37 rfl (lv_at hl 0 rfl) ?_
    refine lv_iconst (v := (2 : Int32)) hx hb dX4_cellsAfter_38 (by decide) ?_
    refine lv_iadd hx hb dX4_cellsAfter_39 ?_
    obtain ⟨hi3, h⟩ := rd_use h
    refine ia_ hx hb hK hP 1 rfl hi3 dX4_cellsAfter_40 ?_
    refine lv_iconst (v := (-1 : Int32)) hx hb dX4_cellsAfter_41 (by decide) ?_
    refine lv_ixor hx hb dX4_cellsAfter_42 ?_
    refine lv_iand hx hb dX4_cellsAfter_43 ?_
    refine lv_aload_n hx hb dX4_cellsAfter_44 rfl (lv_at hl 1 rfl) ?_
    refine gfX4_0 hx hb hts hown hK hP 0 rfl wfX4_9 dX4_cellsAfter_45 ?_
    refine lv_iload_n hx hb dX4_cellsAfter_48 rfl (lv_at hl 0 rfl) ?_
    refine lv_iconst (v := (3 : Int32)) hx hb dX4_cellsAfter_49 (by decide) ?_
    refine lv_iadd hx hb dX4_cellsAfter_50 ?_
    obtain ⟨hi5, h⟩ := rd_use h
    refine ia_ hx hb hK hP 1 rfl hi5 dX4_cellsAfter_51 ?_
    refine lv_ior hx hb dX4_cellsAfter_52 ?_
    refine lv_aload_n hx hb dX4_cellsAfter_53 rfl (lv_at hl 1 rfl) ?_
    refine gfX4_0 hx hb hts hown hK hP 0 rfl wfX4_9 dX4_cellsAfter_54 ?_
    refine lv_iload_n hx hb dX4_cellsAfter_57 rfl (lv_at hl 0 rfl) ?_
    refine lv_iconst (v := (4 : Int32)) hx hb dX4_cellsAfter_58 (by decide) ?_
    refine lv_iadd hx hb dX4_cellsAfter_59 ?_
    obtain ⟨hi7, h⟩ := rd_use h
    refine ia_ hx hb hK hP 1 rfl hi7 dX4_cellsAfter_60 ?_
    refine lv_ixor hx hb dX4_cellsAfter_61 ?_
    exact W.iret hx hb hr (fun t ht _ => ⟨congrArg (fun z => Outcome.returned (some (Value.int z))) (Option.some.inj h), ht⟩) (fun q hq => by cases hq) dX4_cellsAfter_62
  unfold f_X4_cellsAfter at h
  refine lv_iload_n hx hb dX4_cellsAfter_0 rfl (lv_at hl 1 rfl) ?_
  refine lv_if_lt (tgt := 26) hx hb dX4_cellsAfter_1 (by decide) (fun c8 => ?_) (fun c8 => ?_)
  · have h := it_t c8 h
    refine lv_iload_n hx hb dX4_cellsAfter_26 rfl (lv_at hl 2 rfl) ?_
    exact W.iret hx hb hr (fun t ht _ => ⟨congrArg (fun z => Outcome.returned (some (Value.int z))) (Option.some.inj h), ht⟩) (fun q hq => by cases hq) dX4_cellsAfter_27
  · have h := it_f c8 h
    refine lv_iload_n hx hb dX4_cellsAfter_4 rfl (lv_at hl 1 rfl) ?_
    refine lv_bipush (v := (8 : Int32)) hx hb dX4_cellsAfter_5 (by decide) ?_
    refine lv_icmp_ge (tgt := 26) hx hb dX4_cellsAfter_7 (by decide) (fun c9 => ?_) (fun c9 => ?_)
    · have h := it_t c9 h
      refine lv_iload_n hx hb dX4_cellsAfter_26 rfl (lv_at hl 2 rfl) ?_
      exact W.iret hx hb hr (fun t ht _ => ⟨congrArg (fun z => Outcome.returned (some (Value.int z))) (Option.some.inj h), ht⟩) (fun q hq => by cases hq) dX4_cellsAfter_27
    · have h := it_f c9 h
      refine lv_aload_n hx hb dX4_cellsAfter_10 rfl (lv_at hl 0 rfl) ?_
      refine gfX4_4 hx hb hts hown hK hP 0 rfl wfX4_51 dX4_cellsAfter_11 ?_
      refine lv_if_ne (tgt := 28) hx hb dX4_cellsAfter_14 (by decide) (fun c10 => ?_) (fun c10 => ?_)
      · have h := it_f c10 h
        exact L_28  h _ (lv_sub hl [0, 1, 2] rfl)
      · have h := it_t c10 h
        refine lv_aload_n hx hb dX4_cellsAfter_17 rfl (lv_at hl 0 rfl) ?_
        refine lv_iload_n hx hb dX4_cellsAfter_18 rfl (lv_at hl 1 rfl) ?_
        refine lv_iload_n hx hb dX4_cellsAfter_19 rfl (lv_at hl 2 rfl) ?_
        obtain ⟨r11, hc12, h⟩ := bd1_use h
        refine ro_V (As := [.int x1, .int x2]) (rest := []) S (c_X4_wrongCells l D cI cS a_o a_o_masks a_o_row o_size o_startCells o_modeNow o_masks x1 x2 r11 hc12) (cwV1 hts cvX4_wrongCells wmX4_75 rfl rfl ⟨(Nat.le_of_ble_eq_true rfl), (Nat.le_of_ble_eq_true rfl)⟩) hK hP [0, 1] rfl 0 rfl rfl rfl rfl hl.1 rfl (Nat.le_of_ble_eq_true rfl) dX4_cellsAfter_20 ⟨Nat.zero_le _, Nat.zero_le _⟩ rfl ?_
        refine lv_if_eq (tgt := 28) hx hb dX4_cellsAfter_23 (by decide) (fun c13 => ?_) (fun c13 => ?_)
        · have h := it_t c13 h
          exact L_28  h _ (lv_sub hl [0, 1, 2] rfl)
        · have h := it_f c13 h
          refine lv_iload_n hx hb dX4_cellsAfter_26 rfl (lv_at hl 2 rfl) ?_
          exact W.iret hx hb hr (fun t ht _ => ⟨congrArg (fun z => Outcome.returned (some (Value.int z))) (Option.some.inj h), ht⟩) (fun q hq => by cases hq) dX4_cellsAfter_27
def b_X4_cellsBehind_7 (o_modeNow : Int32) (o_masks : Ar) (o_row_size : Int32) (o_row_tests : Ar) (x1 : Int32) : Nat → Int32 → Int32 → Option (Int32)
  | 0, _, _ => none
  | n + 1, v2, v3 => (if o_row_size ≤ v3 then some (v2) else bd1 (f_X3_nth o_row_size o_row_tests v3) (fun r2 => bd1 (f_X6_isIn r2 x1) (fun r4 => (if (b2i r4) = (0 : Int32) then nm (v3 + (1 : Int32)) (fun y7 => b_X4_cellsBehind_7 o_modeNow o_masks o_row_size o_row_tests x1 n v2 y7) else bd1 (f_X4_cellsAfter o_modeNow o_masks r2 v2) (fun r8 => nm (v3 + (1 : Int32)) (fun y10 => b_X4_cellsBehind_7 o_modeNow o_masks o_row_size o_row_tests x1 n r8 y10))))))
def f_X4_cellsBehind (o_startCells : Int32) (o_modeNow : Int32) (o_masks : Ar) (o_row_size : Int32) (o_row_tests : Ar) (x1 : Int32) : Option (Int32) := b_X4_cellsBehind_7 o_modeNow o_masks o_row_size o_row_tests x1 FU o_startCells (0 : Int32)
set_option maxHeartbeats 4000000 in
set_option maxRecDepth 100000 in
theorem c_X4_cellsBehind (l : Launch) (D : va_G) (cI cS : ClassId) (a_o : Nat) (a_o_masks : Nat) (a_o_row : Nat) (a_o_row_tests : Nat) (o_size : Int32) (o_startCells : Int32) (o_modeNow : Int32) (o_masks : Ar) (o_row_size : Int32) (o_row_tests : Ar) (x1 : Int32) (r0 : Int32) (h : f_X4_cellsBehind o_startCells o_modeNow o_masks o_row_size o_row_tests x1 = some r0) : roM l D cI cS yX4_cellsBehind cX4_cellsBehind 5 (some .int) 2 46 [.ref a_o, .int x1] [(a_o, .inr (3, [.ref a_o_masks, .ref a_o_row, .int (o_size), .int (o_startCells), .int (o_modeNow)])), (a_o_masks, .inl (cI, 40, .inl (o_masks))), (a_o_row, .inr (2, [.ref a_o_row_tests, .int (o_row_size)])), (a_o_row_tests, .inl (cI, 8, .inl (o_row_tests)))] (some (.int r0)) := by
  refine Met.ofW (cc := cX4_cellsBehind) (maxL := 5) (ret := (some .int)) (by decide) rfl ?_
  intro p e s m args below meth c s₁ B hml hv
  obtain ⟨rfl, hP, hK⟩ := hv
  have hx := B.exec
  have hb := B.bytes
  have hr := B.returns
  have hts : ∀ w ∈ GW, w.before _ s = true := fun w hw => atoms_spec (ws := mws yX4_cellsBehind cX4_cellsBehind 5 (some .int)) B.pre w (List.mem_cons_of_mem _ hw)
  have hown : s.vm.findClass RX4 = some m.cls := findClass_of_methodNamed B.named
  have hlocks := B.notSynchronized
  have hl := lv_entry ([.ref a_o, .int x1]) (n := 5) (Nat.le_of_ble_eq_true rfl)
  rw [lg_entry_eq]
  generalize (lg_sl ([.ref a_o, .int x1]) ++ List.replicate (5 - (lg_sl ([.ref a_o, .int x1])).length) Slot.unset).toArray = ls at hl ⊢
  have hl : lv_has ls 5 [(0, .ref a_o), (1, .int x1)] := hl
  have S : CallFix p m c cX4_cellsBehind 5 s _ GW RX4 := ⟨hx, hb, hml, hown, hts⟩
  have L_7 : ∀ (n : Nat) (v2 : Int32) (v3 : Int32), b_X4_cellsBehind_7 o_modeNow o_masks o_row_size o_row_tests x1 n v2 v3 = some r0 → ∀ (ls : Array Slot), lv_has ls 5 [(0, .ref a_o), (1, .int x1), (2, .int v2), (3, .int v3)] → W p l e (headSpec (mws yX4_cellsBehind cX4_cellsBehind 5 (some .int)) { frames := 2, cells := 0, slots := 0, locals := 46 }).room s m [.ref a_o, .int x1].toArray below meth c s.heap [] 0 0 (MQ below (roQ (some (.int r0))) [.ref a_o, .int x1].toArray s 0 0 noF) (F0 m 7 ls []) := by
    intro n
    induction n with
    | zero =>
      intro v2 v3 h
      exact nn_no h
    | succ n ih =>
      intro v2 v3 h ls hl
      rw [b_X4_cellsBehind_7] at h
      refine lv_iload_n hx hb dX4_cellsBehind_7 rfl (lv_at hl 3 rfl) ?_
      refine lv_aload_n hx hb dX4_cellsBehind_8 rfl (lv_at hl 0 rfl) ?_
      refine gfX4_1 hx hb hts hown hK hP 0 rfl wfX4_18 dX4_cellsBehind_9 ?_
      refine gnX3_1 hx hb hts hown hK hP 2 rfl wnX4_44 dX4_cellsBehind_12 ?_
      refine lv_icmp_ge (tgt := 51) hx hb dX4_cellsBehind_15 (by decide) (fun c1 => ?_) (fun c1 => ?_)
      · have h := it_t c1 h
        refine lv_iload_n hx hb dX4_cellsBehind_51 rfl (lv_at hl 2 rfl) ?_
        exact W.iret hx hb hr (fun t ht _ => ⟨congrArg (fun z => Outcome.returned (some (Value.int z))) (Option.some.inj h), ht⟩) (fun q hq => by cases hq) dX4_cellsBehind_52
      · have h := it_f c1 h
        refine lv_aload_n hx hb dX4_cellsBehind_18 rfl (lv_at hl 0 rfl) ?_
        refine gfX4_1 hx hb hts hown hK hP 0 rfl wfX4_18 dX4_cellsBehind_19 ?_
        refine lv_iload_n hx hb dX4_cellsBehind_22 rfl (lv_at hl 3 rfl) ?_
        obtain ⟨r2, hc3, h⟩ := bd1_use h
        refine ro_V (As := [.int v3]) (rest := []) S (c_X3_nth l D cI cS a_o_row a_o_row_tests o_row_size o_row_tests v3 r2 hc3) (cwV1 hts cvX3_nth wmX4_83 rfl rfl ⟨(Nat.le_of_ble_eq_true rfl), (Nat.le_of_ble_eq_true rfl)⟩) hK hP [2, 3] rfl 2 rfl rfl rfl rfl hl.1 rfl (Nat.le_of_ble_eq_true rfl) dX4_cellsBehind_23 ⟨Nat.zero_le _, Nat.zero_le _⟩ rfl ?_
        refine lv_istore (lv' := [(4, .int r2), (0, .ref a_o), (1, .int x1), (2, .int v2), (3, .int v3)]) hx hb dX4_cellsBehind_26 hl (by decide) rfl (fun ls hl => ?_)
        refine lv_iload hx hb dX4_cellsBehind_28 (lv_at hl 0 rfl) ?_
        refine lv_iload_n hx hb dX4_cellsBehind_30 rfl (lv_at hl 2 rfl) ?_
        obtain ⟨r4, hc5, h⟩ := bd1_use h
        refine ro_SN (As := [.int r2, .int x1]) (rest := []) S (c_X6_isIn l D cI cS r2 x1 r4 hc5) (cwSN1 hts hK.2.1 csX6_isIn wnX4_86 rfl rfl ⟨(Nat.le_of_ble_eq_true rfl), (Nat.le_of_ble_eq_true rfl)⟩) hK hP [] rfl rfl hl.1 rfl (Nat.le_of_ble_eq_true rfl) dX4_cellsBehind_31 ⟨Nat.zero_le _, Nat.zero_le _⟩ rfl ?_
        refine lv_if_eq (tgt := 45) hx hb dX4_cellsBehind_34 (by decide) (fun c6 => ?_) (fun c6 => ?_)
        · have h := it_t c6 h
          obtain ⟨y7, ey7⟩ : ∃ z : Int32, z = v3 + (1 : Int32) := ⟨_, rfl⟩
          have h := nm_use h ey7
          refine lv_iinc (v := y7) (lv' := [(3, .int y7), (4, .int r2), (0, .ref a_o), (1, .int x1), (2, .int v2)]) hx hb dX4_cellsBehind_45 hl (k := 4) rfl (by rw [ey7]; rfl) (by decide) rfl (fun ls hl => ?_)
          refine lv_goto (tgt := 7) hx hb dX4_cellsBehind_48 (by decide) ?_
          exact ih _ _ h _ (lv_sub hl [2, 3, 4, 0] rfl)
        · have h := it_f c6 h
          refine lv_aload_n hx hb dX4_cellsBehind_37 rfl (lv_at hl 1 rfl) ?_
          refine lv_iload hx hb dX4_cellsBehind_38 (lv_at hl 0 rfl) ?_
          refine lv_iload_n hx hb dX4_cellsBehind_40 rfl (lv_at hl 3 rfl) ?_
          obtain ⟨r8, hc9, h⟩ := bd1_use h
          refine ro_V (As := [.int r2, .int v2]) (rest := []) S (c_X4_cellsAfter l D cI cS a_o a_o_masks a_o_row o_size o_startCells o_modeNow o_masks r2 v2 r8 hc9) (cwV1 hts cvX4_cellsAfter wmX4_89 rfl rfl ⟨(Nat.le_of_ble_eq_true rfl), (Nat.le_of_ble_eq_true rfl)⟩) hK hP [0, 1] rfl 0 rfl rfl rfl rfl hl.1 rfl (Nat.le_of_ble_eq_true rfl) dX4_cellsBehind_41 ⟨Nat.zero_le _, Nat.zero_le _⟩ rfl ?_
          refine lv_istore_n (lv' := [(2, .int r8), (4, .int r2), (0, .ref a_o), (1, .int x1), (3, .int v3)]) hx hb dX4_cellsBehind_44 rfl hl (by decide) rfl (fun ls hl => ?_)
          obtain ⟨y10, ey10⟩ : ∃ z : Int32, z = v3 + (1 : Int32) := ⟨_, rfl⟩
          have h := nm_use h ey10
          refine lv_iinc (v := y10) (lv' := [(3, .int y10), (2, .int r8), (4, .int r2), (0, .ref a_o), (1, .int x1)]) hx hb dX4_cellsBehind_45 hl (k := 4) rfl (by rw [ey10]; rfl) (by decide) rfl (fun ls hl => ?_)
          refine lv_goto (tgt := 7) hx hb dX4_cellsBehind_48 (by decide) ?_
          exact ih _ _ h _ (lv_sub hl [3, 4, 1, 0] rfl)
  unfold f_X4_cellsBehind at h
  refine lv_aload_n hx hb dX4_cellsBehind_0 rfl (lv_at hl 0 rfl) ?_
  refine gfX4_3 hx hb hts hown hK hP 0 rfl wfX4_48 dX4_cellsBehind_1 ?_
  refine lv_istore_n (lv' := [(2, .int o_startCells), (0, .ref a_o), (1, .int x1)]) hx hb dX4_cellsBehind_4 rfl hl (by decide) rfl (fun ls hl => ?_)
  refine lv_iconst (v := (0 : Int32)) hx hb dX4_cellsBehind_5 (by decide) ?_
  refine lv_istore_n (lv' := [(3, .int (0 : Int32)), (2, .int o_startCells), (0, .ref a_o), (1, .int x1)]) hx hb dX4_cellsBehind_6 rfl hl (by decide) rfl (fun ls hl => ?_)
  exact L_7 _ _ _ h _ (lv_sub hl [2, 3, 1, 0] rfl)
def f_X4_isFlippedBehind (o_startCells : Int32) (o_modeNow : Int32) (o_masks : Ar) (o_row_size : Int32) (o_row_tests : Ar) (x1 : Int32) (x2 : Int32) : Option (Bool) := bd1 (f_X4_cellsBehind o_startCells o_modeNow o_masks o_row_size o_row_tests x1) (fun r1 => bd1 (f_X4_isFlippedOn o_startCells o_masks x2 r1) (fun r3 => some (r3)))
set_option maxHeartbeats 4000000 in
set_option maxRecDepth 100000 in
theorem c_X4_isFlippedBehind (l : Launch) (D : va_G) (cI cS : ClassId) (a_o : Nat) (a_o_masks : Nat) (a_o_row : Nat) (a_o_row_tests : Nat) (o_size : Int32) (o_startCells : Int32) (o_modeNow : Int32) (o_masks : Ar) (o_row_size : Int32) (o_row_tests : Ar) (x1 : Int32) (x2 : Int32) (r0 : Bool) (h : f_X4_isFlippedBehind o_startCells o_modeNow o_masks o_row_size o_row_tests x1 x2 = some r0) : roM l D cI cS yX4_isFlippedBehind cX4_isFlippedBehind 3 (some .boolean) 3 70 [.ref a_o, .int x1, .int x2] [(a_o, .inr (3, [.ref a_o_masks, .ref a_o_row, .int (o_size), .int (o_startCells), .int (o_modeNow)])), (a_o_masks, .inl (cI, 40, .inl (o_masks))), (a_o_row, .inr (2, [.ref a_o_row_tests, .int (o_row_size)])), (a_o_row_tests, .inl (cI, 8, .inl (o_row_tests)))] (some (.int (b2i r0))) := by
  refine Met.ofW (cc := cX4_isFlippedBehind) (maxL := 3) (ret := (some .boolean)) (by decide) rfl ?_
  intro p e s m args below meth c s₁ B hml hv
  obtain ⟨rfl, hP, hK⟩ := hv
  have hx := B.exec
  have hb := B.bytes
  have hr := B.returns
  have hts : ∀ w ∈ GW, w.before _ s = true := fun w hw => atoms_spec (ws := mws yX4_isFlippedBehind cX4_isFlippedBehind 3 (some .boolean)) B.pre w (List.mem_cons_of_mem _ hw)
  have hown : s.vm.findClass RX4 = some m.cls := findClass_of_methodNamed B.named
  have hlocks := B.notSynchronized
  have hl := lv_entry ([.ref a_o, .int x1, .int x2]) (n := 3) (Nat.le_of_ble_eq_true rfl)
  rw [lg_entry_eq]
  generalize (lg_sl ([.ref a_o, .int x1, .int x2]) ++ List.replicate (3 - (lg_sl ([.ref a_o, .int x1, .int x2])).length) Slot.unset).toArray = ls at hl ⊢
  have hl : lv_has ls 3 [(0, .ref a_o), (1, .int x1), (2, .int x2)] := hl
  have S : CallFix p m c cX4_isFlippedBehind 3 s _ GW RX4 := ⟨hx, hb, hml, hown, hts⟩
  unfold f_X4_isFlippedBehind at h
  refine lv_aload_n hx hb dX4_isFlippedBehind_0 rfl (lv_at hl 0 rfl) ?_
  refine lv_iload_n hx hb dX4_isFlippedBehind_1 rfl (lv_at hl 2 rfl) ?_
  refine lv_aload_n hx hb dX4_isFlippedBehind_2 rfl (lv_at hl 0 rfl) ?_
  refine lv_iload_n hx hb dX4_isFlippedBehind_3 rfl (lv_at hl 1 rfl) ?_
  obtain ⟨r1, hc2, h⟩ := bd1_use h
  refine ro_V (As := [.int x1]) (rest := [.int x2, .ref a_o]) S (c_X4_cellsBehind l D cI cS a_o a_o_masks a_o_row a_o_row_tests o_size o_startCells o_modeNow o_masks o_row_size o_row_tests x1 r1 hc2) (cwV1 hts cvX4_cellsBehind wmX4_92 rfl rfl ⟨(Nat.le_of_ble_eq_true rfl), (Nat.le_of_ble_eq_true rfl)⟩) hK hP [0, 1, 2, 3] rfl 0 rfl rfl rfl rfl hl.1 rfl (Nat.le_of_ble_eq_true rfl) dX4_isFlippedBehind_4 ⟨Nat.zero_le _, Nat.zero_le _⟩ rfl ?_
  obtain ⟨r3, hc4, h⟩ := bd1_use h
  refine ro_V (As := [.int x2, .int r1]) (rest := []) S (c_X4_isFlippedOn l D cI cS a_o a_o_masks a_o_row o_size o_startCells o_modeNow o_masks x2 r1 r3 hc4) (cwV1 hts cvX4_isFlippedOn wmX4_95 rfl rfl ⟨(Nat.le_of_ble_eq_true rfl), (Nat.le_of_ble_eq_true rfl)⟩) hK hP [0, 1] rfl 0 rfl rfl rfl rfl hl.1 rfl (Nat.le_of_ble_eq_true rfl) dX4_isFlippedBehind_7 ⟨Nat.zero_le _, Nat.zero_le _⟩ rfl ?_
  exact W.zret hx hb hr (b2i_nar _) (fun t ht _ => ⟨congrArg (fun z => Outcome.returned (some (Value.int (b2i z)))) (Option.some.inj h), ht⟩) (fun q hq => by cases hq) dX4_isFlippedBehind_10
