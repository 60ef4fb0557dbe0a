/-! the reference, second part -/
def f_X7_fails (o_spot : Int32) (o_wrongAt : Int32) : Option (Bool × Int32) := some (false, o_spot)
set_option maxHeartbeats 4000000 in
set_option maxRecDepth 100000 in
theorem c_X7_fails (l : Launch) (D : va_G) (cI cS : ClassId) (a_o : Nat) (a_o_now : Nat) (a_o_aside : Nat) (a_o_past : Nat) (a_o_refusals : Nat) (a_o_text : Nat) (a_o_tried : Nat) (a_o_shuffled : Nat) (a_o_letters : Nat) (a_o_numbers : Nat) (o_states : Int32) (o_bytes : Int32) (o_triedMany : Int32) (o_orders : Int32) (o_spot : Int32) (o_wrongAt : Int32) (o_hash : Int64) (r0 : Bool) (o_wrongAt' : Int32) (h : f_X7_fails o_spot o_wrongAt = some (r0, o_wrongAt')) : wrM l D cI cS yX7_fails cX7_fails 1 (some .boolean) 0 0 [.ref a_o] [(a_o, .inr (6, [.ref a_o_now, .ref a_o_aside, .ref a_o_past, .int (o_states), .ref a_o_refusals, .ref a_o_text, .int (o_bytes), .ref a_o_tried, .int (o_triedMany), .ref a_o_shuffled, .ref a_o_letters, .ref a_o_numbers, .int (o_orders), .int (o_spot), .int (o_wrongAt), .long (o_hash)]))] [(a_o, .inr (6, [.ref a_o_now, .ref a_o_aside, .ref a_o_past, .int (o_states), .ref a_o_refusals, .ref a_o_text, .int (o_bytes), .ref a_o_tried, .int (o_triedMany), .ref a_o_shuffled, .ref a_o_letters, .ref a_o_numbers, .int (o_orders), .int (o_spot), .int (o_wrongAt'), .long (o_hash)]))] (some (.int (b2i r0))) := by
  refine Met.ofW (cc := cX7_fails) (maxL := 1) (ret := (some .boolean)) (by decide) rfl ?_
  intro p e s m args below meth c s₁ B hml hv
  obtain ⟨rfl, hP, hK, hD0⟩ := hv
  have hx := B.exec
  have hb := B.bytes
  have hr := B.returns
  have hts : ∀ w ∈ GW, w.before _ s = true := fun w hw => atoms_spec (ws := mws yX7_fails cX7_fails 1 (some .boolean)) B.pre w (List.mem_cons_of_mem _ hw)
  have hown : s.vm.findClass RX7 = some m.cls := findClass_of_methodNamed B.named
  have hlocks := B.notSynchronized
  have hD := inW_self hD0
  generalize hAe : inW [(a_o, .inr (6, [.ref a_o_now, .ref a_o_aside, .ref a_o_past, .int (o_states), .ref a_o_refusals, .ref a_o_text, .int (o_bytes), .ref a_o_tried, .int (o_triedMany), .ref a_o_shuffled, .ref a_o_letters, .ref a_o_numbers, .int (o_orders), .int (o_spot), .int (o_wrongAt), .long (o_hash)]))] = A at hD ⊢
  have hS : va_S A s.heap s.heap [] := va_S.rf
  have hl := lv_entry ([.ref a_o]) (n := 1) (Nat.le_of_ble_eq_true rfl)
  rw [lg_entry_eq]
  generalize (lg_sl ([.ref a_o]) ++ List.replicate (1 - (lg_sl ([.ref a_o])).length) Slot.unset).toArray = ls at hl ⊢
  have hl : lv_has ls 1 [(0, .ref a_o)] := hl
  have S : CallFix p m c cX7_fails 1 s _ GW RX7 := ⟨hx, hb, hml, hown, hts⟩
  unfold f_X7_fails at h
  refine lv_aload_n hx hb dX7_fails_0 rfl (lv_at hl 0 rfl) ?_
  refine lv_aload_n hx hb dX7_fails_1 rfl (lv_at hl 0 rfl) ?_
  refine gfX7_13 hx hb hts hown hK hP 0 rfl wfX7_183 dX7_fails_2 ?_
  refine pfX7_14 (ws' := [(a_o, .inr (6, [.ref a_o_now, .ref a_o_aside, .ref a_o_past, .int (o_states), .ref a_o_refusals, .ref a_o_text, .int (o_bytes), .ref a_o_tried, .int (o_triedMany), .ref a_o_shuffled, .ref a_o_letters, .ref a_o_numbers, .int (o_orders), .int (o_spot), .int (o_spot), .long (o_hash)]))]) hx hb hts hown hK hP hD hS 0 rfl rfl wfX7_189 dX7_fails_5 (fun H locs hP hD hS => ?_)
  refine lv_iconst (v := (0 : Int32)) hx hb dX7_fails_8 (by decide) ?_
  cases h
  exact W.zret hx hb hr rfl (fun t ht _ => ⟨rfl, by rw [ht]; exact hP, hS.F ht⟩) hS.2.2 dX7_fails_9
def b_X7_takesNumber_11 (o_bytes : Int32) (o_text : Ar) (x1 : Int32) : Nat → Int32 → Int32 → Int32 → Int32 → Ar → Option (Bool × Int32 × Int32 × Ar)
  | 0, _, _, _, _, _ => none
  | n + 1, v2, v3, o_spot, o_wrongAt, o_numbers => bd1 (f_X7_isAt o_bytes o_spot o_text (48 : Int32) (57 : Int32)) (fun r1 => (if (b2i r1) = (0 : Int32) then wr o_numbers 375 x1 v3 (fun fv4 => (if v2 < o_spot then some (true, o_spot, o_wrongAt, fv4) else bd2 (f_X7_fails o_spot o_wrongAt) (fun r7 w8 => (if (b2i r7) = (0 : Int32) then some (false, o_spot, w8, fv4) else some (true, o_spot, w8, fv4))))) else (if o_spot = (v2 + (2 : Int32)) then bd2 (f_X7_fails o_spot o_wrongAt) (fun r16 w17 => some (r16, o_spot, w17, o_numbers)) else rd o_text 150 o_spot (fun rv12 => nm ((((10 : Int32) * v3) + rv12) - (48 : Int32)) (fun y14 => nm (o_spot + (1 : Int32)) (fun y15 => b_X7_takesNumber_11 o_bytes o_text x1 n v2 y14 y15 o_wrongAt o_numbers))))))
def f_X7_takesNumber (o_bytes : Int32) (o_spot : Int32) (o_wrongAt : Int32) (o_text : Ar) (o_numbers : Ar) (x1 : Int32) : Option (Bool × Int32 × Int32 × Ar) := bd1 (f_X7_blanks o_bytes o_spot o_text) (fun w19 => b_X7_takesNumber_11 o_bytes o_text x1 FU w19 (0 : Int32) w19 o_wrongAt o_numbers)
set_option maxHeartbeats 4000000 in
set_option maxRecDepth 100000 in
theorem c_X7_takesNumber (l : Launch) (D : va_G) (cI cS : ClassId) (a_o : Nat) (a_o_text : Nat) (a_o_numbers : Nat) (a_o_now : Nat) (a_o_aside : Nat) (a_o_past : Nat) (a_o_refusals : Nat) (a_o_tried : Nat) (a_o_shuffled : Nat) (a_o_letters : Nat) (o_states : Int32) (o_bytes : Int32) (o_triedMany : Int32) (o_orders : Int32) (o_spot : Int32) (o_wrongAt : Int32) (o_hash : Int64) (o_text : Ar) (o_numbers : Ar) (x1 : Int32) (r0 : Bool) (o_spot' : Int32) (o_wrongAt' : Int32) (o_numbers' : Ar) (h : f_X7_takesNumber o_bytes o_spot o_wrongAt o_text o_numbers x1 = some (r0, o_spot', o_wrongAt', o_numbers')) : wrM l D cI cS yX7_takesNumber cX7_takesNumber 4 (some .boolean) 3 64 [.ref a_o, .int x1] [(a_o, .inr (6, [.ref a_o_now, .ref a_o_aside, .ref a_o_past, .int (o_states), .ref a_o_refusals, .ref a_o_text, .int (o_bytes), .ref a_o_tried, .int (o_triedMany), .ref a_o_shuffled, .ref a_o_letters, .ref a_o_numbers, .int (o_orders), .int (o_spot), .int (o_wrongAt), .long (o_hash)])), (a_o_text, .inl (cI, 150, .inl (o_text))), (a_o_numbers, .inl (cI, 375, .inl (o_numbers)))] [(a_o, .inr (6, [.ref a_o_now, .ref a_o_aside, .ref a_o_past, .int (o_states), .ref a_o_refusals, .ref a_o_text, .int (o_bytes), .ref a_o_tried, .int (o_triedMany), .ref a_o_shuffled, .ref a_o_letters, .ref a_o_numbers, .int (o_orders), .int (o_spot'), .int (o_wrongAt'), .long (o_hash)])), (a_o_text, .inl (cI, 150, .inl (o_text))), (a_o_numbers, .inl (cI, 375, .inl (o_numbers')))] (some (.int (b2i r0))) := by
  refine Met.ofW (cc := cX7_takesNumber) (maxL := 4) (ret := (some .boolean)) (by decide) rfl ?_
  intro p e s m args below meth c s₁ B hml hv
  obtain ⟨rfl, hP, hK, hD0⟩ := hv
  have hx := B.exec
  have hb := B.bytes
  have hr := B.returns
  have hts : ∀ w ∈ GW, w.before _ s = true := fun w hw => atoms_spec (ws := mws yX7_takesNumber cX7_takesNumber 4 (some .boolean)) B.pre w (List.mem_cons_of_mem _ hw)
  have hown : s.vm.findClass RX7 = some m.cls := findClass_of_methodNamed B.named
  have hlocks := B.notSynchronized
  have hD := inW_self hD0
  generalize hAe : inW [(a_o, .inr (6, [.ref a_o_now, .ref a_o_aside, .ref a_o_past, .int (o_states), .ref a_o_refusals, .ref a_o_text, .int (o_bytes), .ref a_o_tried, .int (o_triedMany), .ref a_o_shuffled, .ref a_o_letters, .ref a_o_numbers, .int (o_orders), .int (o_spot), .int (o_wrongAt), .long (o_hash)])), (a_o_text, .inl (cI, 150, .inl (o_text))), (a_o_numbers, .inl (cI, 375, .inl (o_numbers)))] = A at hD ⊢
  have hS : va_S A s.heap s.heap [] := va_S.rf
  have hl := lv_entry ([.ref a_o, .int x1]) (n := 4) (Nat.le_of_ble_eq_true rfl)
  rw [lg_entry_eq]
  generalize (lg_sl ([.ref a_o, .int x1]) ++ List.replicate (4 - (lg_sl ([.ref a_o, .int x1])).length) Slot.unset).toArray = ls at hl ⊢
  have hl : lv_has ls 4 [(0, .ref a_o), (1, .int x1)] := hl
  have S : CallFix p m c cX7_takesNumber 4 s _ GW RX7 := ⟨hx, hb, hml, hown, hts⟩
  have L_11 : ∀ (n : Nat) (v2 : Int32) (v3 : Int32) (o_spot : Int32) (o_wrongAt : Int32) (o_numbers : Ar), b_X7_takesNumber_11 o_bytes o_text x1 n v2 v3 o_spot o_wrongAt o_numbers = some (r0, o_spot', o_wrongAt', o_numbers') → ∀ (H : Heap) (locs : List Loc), va_P D vwCl [(a_o, .inr (6, [.ref a_o_now, .ref a_o_aside, .ref a_o_past, .int (o_states), .ref a_o_refusals, .ref a_o_text, .int (o_bytes), .ref a_o_tried, .int (o_triedMany), .ref a_o_shuffled, .ref a_o_letters, .ref a_o_numbers, .int (o_orders), .int (o_spot), .int (o_wrongAt), .long (o_hash)])), (a_o_text, .inl (cI, 150, .inl (o_text))), (a_o_numbers, .inl (cI, 375, .inl (o_numbers)))] H → va_D A [(a_o, .inr (6, [.ref a_o_now, .ref a_o_aside, .ref a_o_past, .int (o_states), .ref a_o_refusals, .ref a_o_text, .int (o_bytes), .ref a_o_tried, .int (o_triedMany), .ref a_o_shuffled, .ref a_o_letters, .ref a_o_numbers, .int (o_orders), .int (o_spot), .int (o_wrongAt), .long (o_hash)])), (a_o_text, .inl (cI, 150, .inl (o_text))), (a_o_numbers, .inl (cI, 375, .inl (o_numbers)))] → va_S A s.heap H locs → ∀ (ls : Array Slot), lv_has ls 4 [(0, .ref a_o), (1, .int x1), (2, .int v2), (3, .int v3)] → W p l e (headSpec (mws yX7_takesNumber cX7_takesNumber 4 (some .boolean)) { frames := 3, cells := 0, slots := 0, locals := 64 }).room s m [.ref a_o, .int x1].toArray below meth c H locs 0 0 (MQ below (wrQ D A [(a_o, .inr (6, [.ref a_o_now, .ref a_o_aside, .ref a_o_past, .int (o_states), .ref a_o_refusals, .ref a_o_text, .int (o_bytes), .ref a_o_tried, .int (o_triedMany), .ref a_o_shuffled, .ref a_o_letters, .ref a_o_numbers, .int (o_orders), .int (o_spot'), .int (o_wrongAt'), .long (o_hash)])), (a_o_text, .inl (cI, 150, .inl (o_text))), (a_o_numbers, .inl (cI, 375, .inl (o_numbers')))] (some (.int (b2i r0)))) [.ref a_o, .int x1].toArray s 0 0 A) (F0 m 11 ls []) := by
    intro n
    induction n with
    | zero =>
      intro v2 v3 o_spot o_wrongAt o_numbers h
      exact nn_no h
    | succ n ih =>
      intro v2 v3 o_spot o_wrongAt o_numbers h H locs hP hD hS ls hl
      rw [b_X7_takesNumber_11] at h
      refine lv_aload_n hx hb dX7_takesNumber_11 rfl (lv_at hl 0 rfl) ?_
      refine lv_bipush (v := (48 : Int32)) hx hb dX7_takesNumber_12 (by decide) ?_
      refine lv_bipush (v := (57 : Int32)) hx hb dX7_takesNumber_14 (by decide) ?_
      obtain ⟨r1, hc2, h⟩ := bd1_use h
      refine ro_V (As := [.int (48 : Int32), .int (57 : Int32)]) (rest := []) S (c_X7_isAt l D cI cS a_o a_o_text a_o_now a_o_aside a_o_past a_o_refusals a_o_tried a_o_shuffled a_o_letters a_o_numbers o_states o_bytes o_triedMany o_orders o_spot o_wrongAt o_hash o_text (48 : Int32) (57 : Int32) r1 hc2) (cwV1 hts cvX7_isAt wmX7_186 rfl rfl ⟨(Nat.le_of_ble_eq_true rfl), (Nat.le_of_ble_eq_true rfl)⟩) hK hP [0, 1] rfl 0 rfl rfl rfl rfl hl.1 rfl (Nat.le_of_ble_eq_true rfl) dX7_takesNumber_16 ⟨Nat.zero_le _, Nat.zero_le _⟩ rfl ?_
      refine lv_if_eq (tgt := 68) hx hb dX7_takesNumber_19 (by decide) (fun c3 => ?_) (fun c3 => ?_)
      · have h := it_t c3 h
        refine lv_aload_n hx hb dX7_takesNumber_68 rfl (lv_at hl 0 rfl) ?_
        refine gfX7_11 hx hb hts hown hK hP 0 rfl wfX7_34 dX7_takesNumber_69 ?_
        refine lv_iload_n hx hb dX7_takesNumber_72 rfl (lv_at hl 1 rfl) ?_
        refine lv_iload_n hx hb dX7_takesNumber_73 rfl (lv_at hl 3 rfl) ?_
        obtain ⟨hi5, h⟩ := wr_use h
        refine is_ (ws' := [(a_o, .inr (6, [.ref a_o_now, .ref a_o_aside, .ref a_o_past, .int (o_states), .ref a_o_refusals, .ref a_o_text, .int (o_bytes), .ref a_o_tried, .int (o_triedMany), .ref a_o_shuffled, .ref a_o_letters, .ref a_o_numbers, .int (o_orders), .int (o_spot), .int (o_wrongAt), .long (o_hash)])), (a_o_text, .inl (cI, 150, .inl (o_text))), (a_o_numbers, .inl (cI, 375, .inl ((upd o_numbers x1.toNatClampNeg v3))))]) hx hb hK hP hD hS 2 rfl rfl hi5 dX7_takesNumber_74 (fun H locs hP hD hS => ?_)
        refine lv_aload_n hx hb dX7_takesNumber_75 rfl (lv_at hl 0 rfl) ?_
        refine gfX7_13 hx hb hts hown hK hP 0 rfl wfX7_183 dX7_takesNumber_76 ?_
        refine lv_iload_n hx hb dX7_takesNumber_79 rfl (lv_at hl 2 rfl) ?_
        refine lv_icmp_gt (tgt := 90) hx hb dX7_takesNumber_80 (by decide) (fun c6 => ?_) (fun c6 => ?_)
        · have h := it_t c6 h
          refine lv_iconst (v := (1 : Int32)) hx hb dX7_takesNumber_90 (by decide) ?_
          refine lv_goto (tgt := 95) hx hb dX7_takesNumber_91 (by decide) ?_
          cases h
          exact W.zret hx hb hr rfl (fun t ht _ => ⟨rfl, by rw [ht]; exact hP, hS.F ht⟩) hS.2.2 dX7_takesNumber_95
        · have h := it_f c6 h
          refine lv_aload_n hx hb dX7_takesNumber_83 rfl (lv_at hl 0 rfl) ?_
          obtain ⟨r7, w8, hc9, h⟩ := bd2_use h
          refine wr_V (As := []) (rest := []) (ws' := [(a_o, .inr (6, [.ref a_o_now, .ref a_o_aside, .ref a_o_past, .int (o_states), .ref a_o_refusals, .ref a_o_text, .int (o_bytes), .ref a_o_tried, .int (o_triedMany), .ref a_o_shuffled, .ref a_o_letters, .ref a_o_numbers, .int (o_orders), .int (o_spot), .int (w8), .long (o_hash)])), (a_o_text, .inl (cI, 150, .inl (o_text))), (a_o_numbers, .inl (cI, 375, .inl ((upd o_numbers x1.toNatClampNeg v3))))]) S (c_X7_fails l D cI cS a_o a_o_now a_o_aside a_o_past a_o_refusals a_o_text a_o_tried a_o_shuffled a_o_letters a_o_numbers o_states o_bytes o_triedMany o_orders o_spot o_wrongAt o_hash r7 w8 hc9) (cwV1 hts cvX7_fails wmX7_195 rfl rfl ⟨(Nat.le_of_ble_eq_true rfl), (Nat.le_of_ble_eq_true rfl)⟩) hK hP hD hS [0] rfl rfl [(true, 0), (false, 1), (false, 2)] rfl rfl rfl 0 rfl rfl rfl rfl hl.1 rfl (Nat.le_of_ble_eq_true rfl) dX7_takesNumber_84 ⟨Nat.zero_le _, Nat.zero_le _⟩ rfl (fun H locs hP hD hS => ?_)
          refine lv_if_eq (tgt := 94) hx hb dX7_takesNumber_87 (by decide) (fun c10 => ?_) (fun c10 => ?_)
          · have h := it_t c10 h
            refine lv_iconst (v := (0 : Int32)) hx hb dX7_takesNumber_94 (by decide) ?_
            cases h
            exact W.zret hx hb hr rfl (fun t ht _ => ⟨rfl, by rw [ht]; exact hP, hS.F ht⟩) hS.2.2 dX7_takesNumber_95
          · have h := it_f c10 h
            refine lv_iconst (v := (1 : Int32)) hx hb dX7_takesNumber_90 (by decide) ?_
            refine lv_goto (tgt := 95) hx hb dX7_takesNumber_91 (by decide) ?_
            cases h
            exact W.zret hx hb hr rfl (fun t ht _ => ⟨rfl, by rw [ht]; exact hP, hS.F ht⟩) hS.2.2 dX7_takesNumber_95
      · have h := it_f c3 h
        refine lv_aload_n hx hb dX7_takesNumber_22 rfl (lv_at hl 0 rfl) ?_
        refine gfX7_13 hx hb hts hown hK hP 0 rfl wfX7_183 dX7_takesNumber_23 ?_
        refine lv_iload_n hx hb dX7_takesNumber_26 rfl (lv_at hl 2 rfl) ?_
        refine lv_iconst (v := (2 : Int32)) hx hb dX7_takesNumber_27 (by decide) ?_
        refine lv_iadd hx hb dX7_takesNumber_28 ?_
        refine lv_icmp_ne (tgt := 37) hx hb dX7_takesNumber_29 (by decide) (fun c11 => ?_) (fun c11 => ?_)
        · have h := it_f c11 h
          refine lv_bipush (v := (10 : Int32)) hx hb dX7_takesNumber_37 (by decide) ?_
          refine lv_iload_n hx hb dX7_takesNumber_39 rfl (lv_at hl 3 rfl) ?_
          refine lv_imul hx hb dX7_takesNumber_40 ?_
          refine lv_aload_n hx hb dX7_takesNumber_41 rfl (lv_at hl 0 rfl) ?_
          refine gfX7_5 hx hb hts hown hK hP 0 rfl wfX7_22 dX7_takesNumber_42 ?_
          refine lv_aload_n hx hb dX7_takesNumber_45 rfl (lv_at hl 0 rfl) ?_
          refine gfX7_13 hx hb hts hown hK hP 0 rfl wfX7_183 dX7_takesNumber_46 ?_
          obtain ⟨hi13, h⟩ := rd_use h
          refine ia_ hx hb hK hP 1 rfl hi13 dX7_takesNumber_49 ?_
          refine lv_iadd hx hb dX7_takesNumber_50 ?_
          refine lv_bipush (v := (48 : Int32)) hx hb dX7_takesNumber_51 (by decide) ?_
          refine lv_isub hx hb dX7_takesNumber_53 ?_
          refine lv_topi (fun y14 ey14 => ?_)
          have h := nm_use h ey14
          refine lv_istore_n (lv' := [(3, .int y14), (0, .ref a_o), (1, .int x1), (2, .int v2)]) hx hb dX7_takesNumber_54 rfl hl (by decide) rfl (fun ls hl => ?_)
          refine lv_aload_n hx hb dX7_takesNumber_55 rfl (lv_at hl 1 rfl) ?_
          refine lv_dup hx hb dX7_takesNumber_56 rfl ?_
          refine gfX7_13 hx hb hts hown hK hP 0 rfl wfX7_183 dX7_takesNumber_57 ?_
          refine lv_iconst (v := (1 : Int32)) hx hb dX7_takesNumber_60 (by decide) ?_
          refine lv_iadd hx hb dX7_takesNumber_61 ?_
          refine lv_topi (fun y15 ey15 => ?_)
          have h := nm_use h ey15
          refine pfX7_13 (ws' := [(a_o, .inr (6, [.ref a_o_now, .ref a_o_aside, .ref a_o_past, .int (o_states), .ref a_o_refusals, .ref a_o_text, .int (o_bytes), .ref a_o_tried, .int (o_triedMany), .ref a_o_shuffled, .ref a_o_letters, .ref a_o_numbers, .int (o_orders), .int (y15), .int (o_wrongAt), .long (o_hash)])), (a_o_text, .inl (cI, 150, .inl (o_text))), (a_o_numbers, .inl (cI, 375, .inl (o_numbers)))]) hx hb hts hown hK hP hD hS 0 rfl rfl wfX7_183 dX7_takesNumber_62 (fun H locs hP hD hS => ?_)
          refine lv_goto (tgt := 11) hx hb dX7_takesNumber_65 (by decide) ?_
          exact ih _ _ _ _ _ h _ _ hP hD hS _ (lv_sub hl [1, 2, 3, 0] rfl)
        · have h := it_t c11 h
          refine lv_aload_n hx hb dX7_takesNumber_32 rfl (lv_at hl 0 rfl) ?_
          obtain ⟨r16, w17, hc18, h⟩ := bd2_use h
          refine wr_V (As := []) (rest := []) (ws' := [(a_o, .inr (6, [.ref a_o_now, .ref a_o_aside, .ref a_o_past, .int (o_states), .ref a_o_refusals, .ref a_o_text, .int (o_bytes), .ref a_o_tried, .int (o_triedMany), .ref a_o_shuffled, .ref a_o_letters, .ref a_o_numbers, .int (o_orders), .int (o_spot), .int (w17), .long (o_hash)])), (a_o_text, .inl (cI, 150, .inl (o_text))), (a_o_numbers, .inl (cI, 375, .inl (o_numbers)))]) S (c_X7_fails l D cI cS a_o a_o_now a_o_aside a_o_past a_o_refusals a_o_text a_o_tried a_o_shuffled a_o_letters a_o_numbers o_states o_bytes o_triedMany o_orders o_spot o_wrongAt o_hash r16 w17 hc18) (cwV1 hts cvX7_fails wmX7_195 rfl rfl ⟨(Nat.le_of_ble_eq_true rfl), (Nat.le_of_ble_eq_true rfl)⟩) hK hP hD hS [0] rfl rfl [(true, 0), (false, 1), (false, 2)] rfl rfl rfl 0 rfl rfl rfl rfl hl.1 rfl (Nat.le_of_ble_eq_true rfl) dX7_takesNumber_33 ⟨Nat.zero_le _, Nat.zero_le _⟩ rfl (fun H locs hP hD hS => ?_)
          cases h
          exact W.zret hx hb hr (b2i_nar _) (fun t ht _ => ⟨rfl, by rw [ht]; exact hP, hS.F ht⟩) hS.2.2 dX7_takesNumber_36
  unfold f_X7_takesNumber at h
  refine lv_aload_n hx hb dX7_takesNumber_0 rfl (lv_at hl 0 rfl) ?_
  obtain ⟨w19, hc20, h⟩ := bd1_use h
  refine wr_V (As := []) (rest := []) (ws' := [(a_o, .inr (6, [.ref a_o_now, .ref a_o_aside, .ref a_o_past, .int (o_states), .ref a_o_refusals, .ref a_o_text, .int (o_bytes), .ref a_o_tried, .int (o_triedMany), .ref a_o_shuffled, .ref a_o_letters, .ref a_o_numbers, .int (o_orders), .int (w19), .int (o_wrongAt), .long (o_hash)])), (a_o_text, .inl (cI, 150, .inl (o_text))), (a_o_numbers, .inl (cI, 375, .inl (o_numbers)))]) S (c_X7_blanks l D cI cS a_o a_o_text a_o_now a_o_aside a_o_past a_o_refusals a_o_tried a_o_shuffled a_o_letters a_o_numbers o_states o_bytes o_triedMany o_orders o_spot o_wrongAt o_hash o_text w19 hc20) (cwV1 hts cvX7_blanks wmX7_192 rfl rfl ⟨(Nat.le_of_ble_eq_true rfl), (Nat.le_of_ble_eq_true rfl)⟩) hK hP hD hS [0, 1] rfl rfl [(true, 0), (true, 1), (false, 2)] rfl rfl rfl 0 rfl rfl rfl rfl hl.1 rfl (Nat.le_of_ble_eq_true rfl) dX7_takesNumber_1 ⟨Nat.zero_le _, Nat.zero_le _⟩ rfl (fun H locs hP hD hS => ?_)
  refine lv_aload_n hx hb dX7_takesNumber_4 rfl (lv_at hl 0 rfl) ?_
  refine gfX7_13 hx hb hts hown hK hP 0 rfl wfX7_183 dX7_takesNumber_5 ?_
  refine lv_istore_n (lv' := [(2, .int w19), (0, .ref a_o), (1, .int x1)]) hx hb dX7_takesNumber_8 rfl hl (by decide) rfl (fun ls hl => ?_)
  refine lv_iconst (v := (0 : Int32)) hx hb dX7_takesNumber_9 (by decide) ?_
  refine lv_istore_n (lv' := [(3, .int (0 : Int32)), (2, .int w19), (0, .ref a_o), (1, .int x1)]) hx hb dX7_takesNumber_10 rfl hl (by decide) rfl (fun ls hl => ?_)
  exact L_11 _ _ _ _ _ _ h _ _ hP hD hS _ (lv_sub hl [2, 3, 1, 0] rfl)
def b_X7_takesOrder_53 (o_bytes : Int32) (o_text : Ar) : Nat → Int32 → Int32 → Int32 → Int32 → Int32 → Ar → Ar → Option (Bool × Int32 × Int32 × Int32 × Ar × Ar)
  | 0, _, _, _, _, _, _, _ => none
  | n + 1, v1, v2, o_orders, o_spot, o_wrongAt, o_letters, o_numbers => (if v1 ≤ v2 then bd1 (f_X7_blanks o_bytes o_spot o_text) (fun w2 => bd1 (f_X7_isAt o_bytes w2 o_text (59 : Int32) (59 : Int32)) (fun r4 => (if (b2i r4) = (0 : Int32) then bd2 (f_X7_fails w2 o_wrongAt) (fun r9 w10 => some (r9, o_orders, w2, w10, o_letters, o_numbers)) else nm (w2 + (1 : Int32)) (fun y7 => nm (o_orders + (1 : Int32)) (fun y8 => some (true, y8, y7, o_wrongAt, o_letters, o_numbers)))))) else bd4 (f_X7_takesNumber o_bytes o_spot o_wrongAt o_text o_numbers (((5 : Int32) * o_orders) + v2)) (fun r12 w13 w14 w15 => (if (b2i r12) = (0 : Int32) then some (false, o_orders, w13, w14, o_letters, w15) else nm (v2 + (1 : Int32)) (fun y18 => b_X7_takesOrder_53 o_bytes o_text n v1 y18 o_orders w13 w14 o_letters w15))))
def f_X7_takesOrder (o_bytes : Int32) (o_orders : Int32) (o_spot : Int32) (o_wrongAt : Int32) (o_text : Ar) (o_letters : Ar) (o_numbers : Ar) : Option (Bool × Int32 × Int32 × Int32 × Ar × Ar) := rd o_text 150 o_spot (fun rv19 => bd1 (f_X7_manyOf rv19) (fun r21 => (if r21 = (-1 : Int32) then bd2 (f_X7_fails o_spot o_wrongAt) (fun r29 w30 => some (r29, o_orders, o_spot, w30, o_letters, o_numbers)) else rd o_text 150 o_spot (fun rv24 => wr o_letters 75 o_orders rv24 (fun fv26 => nm (o_spot + (1 : Int32)) (fun y28 => b_X7_takesOrder_53 o_bytes o_text FU r21 (0 : Int32) o_orders y28 o_wrongAt fv26 o_numbers))))))
set_option maxHeartbeats 4000000 in
set_option maxRecDepth 100000 in
theorem c_X7_takesOrder (l : Launch) (D : va_G) (cI cS : ClassId) (a_o : Nat) (a_o_text : Nat) (a_o_letters : Nat) (a_o_numbers : Nat) (a_o_now : Nat) (a_o_aside : Nat) (a_o_past : Nat) (a_o_refusals : Nat) (a_o_tried : Nat) (a_o_shuffled : Nat) (o_states : Int32) (o_bytes : Int32) (o_triedMany : Int32) (o_orders : Int32) (o_spot : Int32) (o_wrongAt : Int32) (o_hash : Int64) (o_text : Ar) (o_letters : Ar) (o_numbers : Ar) (r0 : Bool) (o_orders' : Int32) (o_spot' : Int32) (o_wrongAt' : Int32) (o_letters' : Ar) (o_numbers' : Ar) (h : f_X7_takesOrder o_bytes o_orders o_spot o_wrongAt o_text o_letters o_numbers = some (r0, o_orders', o_spot', o_wrongAt', o_letters', o_numbers')) : wrM l D cI cS yX7_takesOrder cX7_takesOrder 3 (some .boolean) 4 87 [.ref a_o] [(a_o, .inr (6, [.ref a_o_now, .ref a_o_aside, .ref a_o_past, .int (o_states), .ref a_o_refusals, .ref a_o_text, .int (o_bytes), .ref a_o_tried, .int (o_triedMany), .ref a_o_shuffled, .ref a_o_letters, .ref a_o_numbers, .int (o_orders), .int (o_spot), .int (o_wrongAt), .long (o_hash)])), (a_o_text, .inl (cI, 150, .inl (o_text))), (a_o_letters, .inl (cI, 75, .inl (o_letters))), (a_o_numbers, .inl (cI, 375, .inl (o_numbers)))] [(a_o, .inr (6, [.ref a_o_now, .ref a_o_aside, .ref a_o_past, .int (o_states), .ref a_o_refusals, .ref a_o_text, .int (o_bytes), .ref a_o_tried, .int (o_triedMany), .ref a_o_shuffled, .ref a_o_letters, .ref a_o_numbers, .int (o_orders'), .int (o_spot'), .int (o_wrongAt'), .long (o_hash)])), (a_o_text, .inl (cI, 150, .inl (o_text))), (a_o_letters, .inl (cI, 75, .inl (o_letters'))), (a_o_numbers, .inl (cI, 375, .inl (o_numbers')))] (some (.int (b2i r0))) := by
  refine Met.ofW (cc := cX7_takesOrder) (maxL := 3) (ret := (some .boolean)) (by decide) rfl ?_
  intro p e s m args below meth c s₁ B hml hv
  obtain ⟨rfl, hP, hK, hD0⟩ := hv
  have hx := B.exec
  have hb := B.bytes
  have hr := B.returns
  have hts : ∀ w ∈ GW, w.before _ s = true := fun w hw => atoms_spec (ws := mws yX7_takesOrder cX7_takesOrder 3 (some .boolean)) B.pre w (List.mem_cons_of_mem _ hw)
  have hown : s.vm.findClass RX7 = some m.cls := findClass_of_methodNamed B.named
  have hlocks := B.notSynchronized
  have hD := inW_self hD0
  generalize hAe : inW [(a_o, .inr (6, [.ref a_o_now, .ref a_o_aside, .ref a_o_past, .int (o_states), .ref a_o_refusals, .ref a_o_text, .int (o_bytes), .ref a_o_tried, .int (o_triedMany), .ref a_o_shuffled, .ref a_o_letters, .ref a_o_numbers, .int (o_orders), .int (o_spot), .int (o_wrongAt), .long (o_hash)])), (a_o_text, .inl (cI, 150, .inl (o_text))), (a_o_letters, .inl (cI, 75, .inl (o_letters))), (a_o_numbers, .inl (cI, 375, .inl (o_numbers)))] = A at hD ⊢
  have hS : va_S A s.heap s.heap [] := va_S.rf
  have hl := lv_entry ([.ref a_o]) (n := 3) (Nat.le_of_ble_eq_true rfl)
  rw [lg_entry_eq]
  generalize (lg_sl ([.ref a_o]) ++ List.replicate (3 - (lg_sl ([.ref a_o])).length) Slot.unset).toArray = ls at hl ⊢
  have hl : lv_has ls 3 [(0, .ref a_o)] := hl
  have S : CallFix p m c cX7_takesOrder 3 s _ GW RX7 := ⟨hx, hb, hml, hown, hts⟩
  have L_53 : ∀ (n : Nat) (v1 : Int32) (v2 : Int32) (o_orders : Int32) (o_spot : Int32) (o_wrongAt : Int32) (o_letters : Ar) (o_numbers : Ar), b_X7_takesOrder_53 o_bytes o_text n v1 v2 o_orders o_spot o_wrongAt o_letters o_numbers = some (r0, o_orders', o_spot', o_wrongAt', o_letters', o_numbers') → ∀ (H : Heap) (locs : List Loc), va_P D vwCl [(a_o, .inr (6, [.ref a_o_now, .ref a_o_aside, .ref a_o_past, .int (o_states), .ref a_o_refusals, .ref a_o_text, .int (o_bytes), .ref a_o_tried, .int (o_triedMany), .ref a_o_shuffled, .ref a_o_letters, .ref a_o_numbers, .int (o_orders), .int (o_spot), .int (o_wrongAt), .long (o_hash)])), (a_o_text, .inl (cI, 150, .inl (o_text))), (a_o_letters, .inl (cI, 75, .inl (o_letters))), (a_o_numbers, .inl (cI, 375, .inl (o_numbers)))] H → va_D A [(a_o, .inr (6, [.ref a_o_now, .ref a_o_aside, .ref a_o_past, .int (o_states), .ref a_o_refusals, .ref a_o_text, .int (o_bytes), .ref a_o_tried, .int (o_triedMany), .ref a_o_shuffled, .ref a_o_letters, .ref a_o_numbers, .int (o_orders), .int (o_spot), .int (o_wrongAt), .long (o_hash)])), (a_o_text, .inl (cI, 150, .inl (o_text))), (a_o_letters, .inl (cI, 75, .inl (o_letters))), (a_o_numbers, .inl (cI, 375, .inl (o_numbers)))] → va_S A s.heap H locs → ∀ (ls : Array Slot), lv_has ls 3 [(0, .ref a_o), (1, .int v1), (2, .int v2)] → W p l e (headSpec (mws yX7_takesOrder cX7_takesOrder 3 (some .boolean)) { frames := 4, cells := 0, slots := 0, locals := 87 }).room s m [.ref a_o].toArray below meth c H locs 0 0 (MQ below (wrQ D A [(a_o, .inr (6, [.ref a_o_now, .ref a_o_aside, .ref a_o_past, .int (o_states), .ref a_o_refusals, .ref a_o_text, .int (o_bytes), .ref a_o_tried, .int (o_triedMany), .ref a_o_shuffled, .ref a_o_letters, .ref a_o_numbers, .int (o_orders'), .int (o_spot'), .int (o_wrongAt'), .long (o_hash)])), (a_o_text, .inl (cI, 150, .inl (o_text))), (a_o_letters, .inl (cI, 75, .inl (o_letters'))), (a_o_numbers, .inl (cI, 375, .inl (o_numbers')))] (some (.int (b2i r0)))) [.ref a_o].toArray s 0 0 A) (F0 m 53 ls []) := by
    intro n
    induction n with
    | zero =>
      intro v1 v2 o_orders o_spot o_wrongAt o_letters o_numbers h
      exact nn_no h
    | succ n ih =>
      intro v1 v2 o_orders o_spot o_wrongAt o_letters o_numbers h H locs hP hD hS ls hl
      rw [b_X7_takesOrder_53] at h
      refine lv_iload_n hx hb dX7_takesOrder_53 rfl (lv_at hl 2 rfl) ?_
      refine lv_iload_n hx hb dX7_takesOrder_54 rfl (lv_at hl 1 rfl) ?_
      refine lv_icmp_ge (tgt := 81) hx hb dX7_takesOrder_55 (by decide) (fun c1 => ?_) (fun c1 => ?_)
      · have h := it_t c1 h
        refine lv_aload_n hx hb dX7_takesOrder_81 rfl (lv_at hl 0 rfl) ?_
        obtain ⟨w2, hc3, h⟩ := bd1_use h
        refine wr_V (As := []) (rest := []) (ws' := [(a_o, .inr (6, [.ref a_o_now, .ref a_o_aside, .ref a_o_past, .int (o_states), .ref a_o_refusals, .ref a_o_text, .int (o_bytes), .ref a_o_tried, .int (o_triedMany), .ref a_o_shuffled, .ref a_o_letters, .ref a_o_numbers, .int (o_orders), .int (w2), .int (o_wrongAt), .long (o_hash)])), (a_o_text, .inl (cI, 150, .inl (o_text))), (a_o_letters, .inl (cI, 75, .inl (o_letters))), (a_o_numbers, .inl (cI, 375, .inl (o_numbers)))]) S (c_X7_blanks l D cI cS a_o a_o_text a_o_now a_o_aside a_o_past a_o_refusals a_o_tried a_o_shuffled a_o_letters a_o_numbers o_states o_bytes o_triedMany o_orders o_spot o_wrongAt o_hash o_text w2 hc3) (cwV1 hts cvX7_blanks wmX7_192 rfl rfl ⟨(Nat.le_of_ble_eq_true rfl), (Nat.le_of_ble_eq_true rfl)⟩) hK hP hD hS [0, 1] rfl rfl [(true, 0), (true, 1), (false, 2), (false, 3)] rfl rfl rfl 0 rfl rfl rfl rfl hl.1 rfl (Nat.le_of_ble_eq_true rfl) dX7_takesOrder_82 ⟨Nat.zero_le _, Nat.zero_le _⟩ rfl (fun H locs hP hD hS => ?_)
        refine lv_aload_n hx hb dX7_takesOrder_85 rfl (lv_at hl 0 rfl) ?_
        refine lv_bipush (v := (59 : Int32)) hx hb dX7_takesOrder_86 (by decide) ?_
        refine lv_bipush (v := (59 : Int32)) hx hb dX7_takesOrder_88 (by decide) ?_
        obtain ⟨r4, hc5, h⟩ := bd1_use h
        refine ro_V (As := [.int (59 : Int32), .int (59 : Int32)]) (rest := []) S (c_X7_isAt l D cI cS a_o a_o_text a_o_now a_o_aside a_o_past a_o_refusals a_o_tried a_o_shuffled a_o_letters a_o_numbers o_states o_bytes o_triedMany o_orders w2 o_wrongAt o_hash o_text (59 : Int32) (59 : Int32) r4 hc5) (cwV1 hts cvX7_isAt wmX7_186 rfl rfl ⟨(Nat.le_of_ble_eq_true rfl), (Nat.le_of_ble_eq_true rfl)⟩) hK hP [0, 1] rfl 0 rfl rfl rfl rfl hl.1 rfl (Nat.le_of_ble_eq_true rfl) dX7_takesOrder_90 ⟨Nat.zero_le _, Nat.zero_le _⟩ rfl ?_
        refine lv_if_ne (tgt := 101) hx hb dX7_takesOrder_93 (by decide) (fun c6 => ?_) (fun c6 => ?_)
        · have h := it_f c6 h
          refine lv_aload_n hx hb dX7_takesOrder_101 rfl (lv_at hl 0 rfl) ?_
          refine lv_dup hx hb dX7_takesOrder_102 rfl ?_
          refine gfX7_13 hx hb hts hown hK hP 0 rfl wfX7_183 dX7_takesOrder_103 ?_
          refine lv_iconst (v := (1 : Int32)) hx hb dX7_takesOrder_106 (by decide) ?_
          refine lv_iadd hx hb dX7_takesOrder_107 ?_
          refine lv_topi (fun y7 ey7 => ?_)
          have h := nm_use h ey7
          refine pfX7_13 (ws' := [(a_o, .inr (6, [.ref a_o_now, .ref a_o_aside, .ref a_o_past, .int (o_states), .ref a_o_refusals, .ref a_o_text, .int (o_bytes), .ref a_o_tried, .int (o_triedMany), .ref a_o_shuffled, .ref a_o_letters, .ref a_o_numbers, .int (o_orders), .int (y7), .int (o_wrongAt), .long (o_hash)])), (a_o_text, .inl (cI, 150, .inl (o_text))), (a_o_letters, .inl (cI, 75, .inl (o_letters))), (a_o_numbers, .inl (cI, 375, .inl (o_numbers)))]) hx hb hts hown hK hP hD hS 0 rfl rfl wfX7_183 dX7_takesOrder_108 (fun H locs hP hD hS => ?_)
          refine lv_aload_n hx hb dX7_takesOrder_111 rfl (lv_at hl 0 rfl) ?_
          refine lv_dup hx hb dX7_takesOrder_112 rfl ?_
          refine gfX7_12 hx hb hts hown hK hP 0 rfl wfX7_202 dX7_takesOrder_113 ?_
          refine lv_iconst (v := (1 : Int32)) hx hb dX7_takesOrder_116 (by decide) ?_
          refine lv_iadd hx hb dX7_takesOrder_117 ?_
          refine lv_topi (fun y8 ey8 => ?_)
          have h := nm_use h ey8
          refine pfX7_12 (ws' := [(a_o, .inr (6, [.ref a_o_now, .ref a_o_aside, .ref a_o_past, .int (o_states), .ref a_o_refusals, .ref a_o_text, .int (o_bytes), .ref a_o_tried, .int (o_triedMany), .ref a_o_shuffled, .ref a_o_letters, .ref a_o_numbers, .int (y8), .int (y7), .int (o_wrongAt), .long (o_hash)])), (a_o_text, .inl (cI, 150, .inl (o_text))), (a_o_letters, .inl (cI, 75, .inl (o_letters))), (a_o_numbers, .inl (cI, 375, .inl (o_numbers)))]) hx hb hts hown hK hP hD hS 0 rfl rfl wfX7_202 dX7_takesOrder_118 (fun H locs hP hD hS => ?_)
          refine lv_iconst (v := (1 : Int32)) hx hb dX7_takesOrder_121 (by decide) ?_
          cases h
          exact W.zret hx hb hr rfl (fun t ht _ => ⟨rfl, by rw [ht]; exact hP, hS.F ht⟩) hS.2.2 dX7_takesOrder_122
        · have h := it_t c6 h
          refine lv_aload_n hx hb dX7_takesOrder_96 rfl (lv_at hl 0 rfl) ?_
          obtain ⟨r9, w10, hc11, h⟩ := bd2_use h
          refine wr_V (As := []) (rest := []) (ws' := [(a_o, .inr (6, [.ref a_o_now, .ref a_o_aside, .ref a_o_past, .int (o_states), .ref a_o_refusals, .ref a_o_text, .int (o_bytes), .ref a_o_tried, .int (o_triedMany), .ref a_o_shuffled, .ref a_o_letters, .ref a_o_numbers, .int (o_orders), .int (w2), .int (w10), .long (o_hash)])), (a_o_text, .inl (cI, 150, .inl (o_text))), (a_o_letters, .inl (cI, 75, .inl (o_letters))), (a_o_numbers, .inl (cI, 375, .inl (o_numbers)))]) S (c_X7_fails l D cI cS a_o a_o_now a_o_aside a_o_past a_o_refusals a_o_text a_o_tried a_o_shuffled a_o_letters a_o_numbers o_states o_bytes o_triedMany o_orders w2 o_wrongAt o_hash r9 w10 hc11) (cwV1 hts cvX7_fails wmX7_195 rfl rfl ⟨(Nat.le_of_ble_eq_true rfl), (Nat.le_of_ble_eq_true rfl)⟩) hK hP hD hS [0] rfl rfl [(true, 0), (false, 1), (false, 2), (false, 3)] rfl rfl rfl 0 rfl rfl rfl rfl hl.1 rfl (Nat.le_of_ble_eq_true rfl) dX7_takesOrder_97 ⟨Nat.zero_le _, Nat.zero_le _⟩ rfl (fun H locs hP hD hS => ?_)
          cases h
          exact W.zret hx hb hr (b2i_nar _) (fun t ht _ => ⟨rfl, by rw [ht]; exact hP, hS.F ht⟩) hS.2.2 dX7_takesOrder_100
      · have h := it_f c1 h
        refine lv_aload_n hx hb dX7_takesOrder_58 rfl (lv_at hl 0 rfl) ?_
        refine lv_iconst (v := (5 : Int32)) hx hb dX7_takesOrder_59 (by decide) ?_
        refine lv_aload_n hx hb dX7_takesOrder_60 rfl (lv_at hl 0 rfl) ?_
        refine gfX7_12 hx hb hts hown hK hP 0 rfl wfX7_202 dX7_takesOrder_61 ?_
        refine lv_imul hx hb dX7_takesOrder_64 ?_
        refine lv_iload_n hx hb dX7_takesOrder_65 rfl (lv_at hl 2 rfl) ?_
        refine lv_iadd hx hb dX7_takesOrder_66 ?_
        obtain ⟨r12, w13, w14, w15, hc16, h⟩ := bd4_use h
        refine wr_V (As := [.int (((5 : Int32) * o_orders) + v2)]) (rest := []) (ws' := [(a_o, .inr (6, [.ref a_o_now, .ref a_o_aside, .ref a_o_past, .int (o_states), .ref a_o_refusals, .ref a_o_text, .int (o_bytes), .ref a_o_tried, .int (o_triedMany), .ref a_o_shuffled, .ref a_o_letters, .ref a_o_numbers, .int (o_orders), .int (w13), .int (w14), .long (o_hash)])), (a_o_text, .inl (cI, 150, .inl (o_text))), (a_o_letters, .inl (cI, 75, .inl (o_letters))), (a_o_numbers, .inl (cI, 375, .inl (w15)))]) S (c_X7_takesNumber l D cI cS a_o a_o_text a_o_numbers a_o_now a_o_aside a_o_past a_o_refusals a_o_tried a_o_shuffled a_o_letters o_states o_bytes o_triedMany o_orders o_spot o_wrongAt o_hash o_text o_numbers (((5 : Int32) * o_orders) + v2) r12 w13 w14 w15 hc16) (cwV1 hts cvX7_takesNumber wmX7_205 rfl rfl ⟨(Nat.le_of_ble_eq_true rfl), (Nat.le_of_ble_eq_true rfl)⟩) hK hP hD hS [0, 1, 3] rfl rfl [(true, 0), (true, 1), (false, 2), (true, 2)] rfl rfl rfl 0 rfl rfl rfl rfl hl.1 rfl (Nat.le_of_ble_eq_true rfl) dX7_takesOrder_67 ⟨Nat.zero_le _, Nat.zero_le _⟩ rfl (fun H locs hP hD hS => ?_)
        refine lv_if_ne (tgt := 75) hx hb dX7_takesOrder_70 (by decide) (fun c17 => ?_) (fun c17 => ?_)
        · have h := it_f c17 h
          obtain ⟨y18, ey18⟩ : ∃ z : Int32, z = v2 + (1 : Int32) := ⟨_, rfl⟩
          have h := nm_use h ey18
          refine lv_iinc (v := y18) (lv' := [(2, .int y18), (0, .ref a_o), (1, .int v1)]) hx hb dX7_takesOrder_75 hl (k := 2) rfl (by rw [ey18]; rfl) (by decide) rfl (fun ls hl => ?_)
          refine lv_goto (tgt := 53) hx hb dX7_takesOrder_78 (by decide) ?_
          exact ih _ _ _ _ _ _ _ h _ _ hP hD hS _ (lv_sub hl [1, 2, 0] rfl)
        · have h := it_t c17 h
          refine lv_iconst (v := (0 : Int32)) hx hb dX7_takesOrder_73 (by decide) ?_
          cases h
          exact W.zret hx hb hr rfl (fun t ht _ => ⟨rfl, by rw [ht]; exact hP, hS.F ht⟩) hS.2.2 dX7_takesOrder_74
  unfold f_X7_takesOrder at h
  refine lv_aload_n hx hb dX7_takesOrder_0 rfl (lv_at hl 0 rfl) ?_
  refine gfX7_5 hx hb hts hown hK hP 0 rfl wfX7_22 dX7_takesOrder_1 ?_
  refine lv_aload_n hx hb dX7_takesOrder_4 rfl (lv_at hl 0 rfl) ?_
  refine gfX7_13 hx hb hts hown hK hP 0 rfl wfX7_183 dX7_takesOrder_5 ?_
  obtain ⟨hi20, h⟩ := rd_use h
  refine ia_ hx hb hK hP 1 rfl hi20 dX7_takesOrder_8 ?_
  obtain ⟨r21, hc22, h⟩ := bd1_use h
  refine ro_S (As := [.int (o_text o_spot.toNatClampNeg)]) (rest := []) S (c_X7_manyOf l D cI cS (o_text o_spot.toNatClampNeg) r21 hc22) (cwS1 hts csX7_manyOf wmX7_199 rfl rfl ⟨(Nat.le_of_ble_eq_true rfl), (Nat.le_of_ble_eq_true rfl)⟩) hK hP [] rfl rfl hl.1 rfl (Nat.le_of_ble_eq_true rfl) dX7_takesOrder_9 ⟨Nat.zero_le _, Nat.zero_le _⟩ rfl ?_
  refine lv_istore_n (lv' := [(1, .int r21), (0, .ref a_o)]) hx hb dX7_takesOrder_12 rfl hl (by decide) rfl (fun ls hl => ?_)
  refine lv_iload_n hx hb dX7_takesOrder_13 rfl (lv_at hl 0 rfl) ?_
  refine lv_iconst (v := (-1 : Int32)) hx hb dX7_takesOrder_14 (by decide) ?_
  refine lv_icmp_ne (tgt := 23) hx hb dX7_takesOrder_15 (by decide) (fun c23 => ?_) (fun c23 => ?_)
  · have h := it_f c23 h
    refine lv_aload_n hx hb dX7_takesOrder_23 rfl (lv_at hl 1 rfl) ?_
    refine gfX7_10 hx hb hts hown hK hP 0 rfl wfX7_31 dX7_takesOrder_24 ?_
    refine lv_aload_n hx hb dX7_takesOrder_27 rfl (lv_at hl 1 rfl) ?_
    refine gfX7_12 hx hb hts hown hK hP 0 rfl wfX7_202 dX7_takesOrder_28 ?_
    refine lv_aload_n hx hb dX7_takesOrder_31 rfl (lv_at hl 1 rfl) ?_
    refine gfX7_5 hx hb hts hown hK hP 0 rfl wfX7_22 dX7_takesOrder_32 ?_
    refine lv_aload_n hx hb dX7_takesOrder_35 rfl (lv_at hl 1 rfl) ?_
    refine gfX7_13 hx hb hts hown hK hP 0 rfl wfX7_183 dX7_takesOrder_36 ?_
    obtain ⟨hi25, h⟩ := rd_use h
    refine ia_ hx hb hK hP 1 rfl hi25 dX7_takesOrder_39 ?_
    obtain ⟨hi27, h⟩ := wr_use h
    refine is_ (ws' := [(a_o, .inr (6, [.ref a_o_now, .ref a_o_aside, .ref a_o_past, .int (o_states), .ref a_o_refusals, .ref a_o_text, .int (o_bytes), .ref a_o_tried, .int (o_triedMany), .ref a_o_shuffled, .ref a_o_letters, .ref a_o_numbers, .int (o_orders), .int (o_spot), .int (o_wrongAt), .long (o_hash)])), (a_o_text, .inl (cI, 150, .inl (o_text))), (a_o_letters, .inl (cI, 75, .inl ((upd o_letters o_orders.toNatClampNeg (o_text o_spot.toNatClampNeg))))), (a_o_numbers, .inl (cI, 375, .inl (o_numbers)))]) hx hb hK hP hD hS 2 rfl rfl hi27 dX7_takesOrder_40 (fun H locs hP hD hS => ?_)
    refine lv_aload_n hx hb dX7_takesOrder_41 rfl (lv_at hl 1 rfl) ?_
    refine lv_dup hx hb dX7_takesOrder_42 rfl ?_
    refine gfX7_13 hx hb hts hown hK hP 0 rfl wfX7_183 dX7_takesOrder_43 ?_
    refine lv_iconst (v := (1 : Int32)) hx hb dX7_takesOrder_46 (by decide) ?_
    refine lv_iadd hx hb dX7_takesOrder_47 ?_
    refine lv_topi (fun y28 ey28 => ?_)
    have h := nm_use h ey28
    refine pfX7_13 (ws' := [(a_o, .inr (6, [.ref a_o_now, .ref a_o_aside, .ref a_o_past, .int (o_states), .ref a_o_refusals, .ref a_o_text, .int (o_bytes), .ref a_o_tried, .int (o_triedMany), .ref a_o_shuffled, .ref a_o_letters, .ref a_o_numbers, .int (o_orders), .int (y28), .int (o_wrongAt), .long (o_hash)])), (a_o_text, .inl (cI, 150, .inl (o_text))), (a_o_letters, .inl (cI, 75, .inl ((upd o_letters o_orders.toNatClampNeg (o_text o_spot.toNatClampNeg))))), (a_o_numbers, .inl (cI, 375, .inl (o_numbers)))]) hx hb hts hown hK hP hD hS 0 rfl rfl wfX7_183 dX7_takesOrder_48 (fun H locs hP hD hS => ?_)
    refine lv_iconst (v := (0 : Int32)) hx hb dX7_takesOrder_51 (by decide) ?_
    refine lv_istore_n (lv' := [(2, .int (0 : Int32)), (1, .int r21), (0, .ref a_o)]) hx hb dX7_takesOrder_52 rfl hl (by decide) rfl (fun ls hl => ?_)
    exact L_53 _ _ _ _ _ _ _ _ h _ _ hP hD hS _ (lv_sub hl [2, 1, 0] rfl)
  · have h := it_t c23 h
    refine lv_aload_n hx hb dX7_takesOrder_18 rfl (lv_at hl 1 rfl) ?_
    obtain ⟨r29, w30, hc31, h⟩ := bd2_use h
    refine wr_V (As := []) (rest := []) (ws' := [(a_o, .inr (6, [.ref a_o_now, .ref a_o_aside, .ref a_o_past, .int (o_states), .ref a_o_refusals, .ref a_o_text, .int (o_bytes), .ref a_o_tried, .int (o_triedMany), .ref a_o_shuffled, .ref a_o_letters, .ref a_o_numbers, .int (o_orders), .int (o_spot), .int (w30), .long (o_hash)])), (a_o_text, .inl (cI, 150, .inl (o_text))), (a_o_letters, .inl (cI, 75, .inl (o_letters))), (a_o_numbers, .inl (cI, 375, .inl (o_numbers)))]) S (c_X7_fails l D cI cS a_o a_o_now a_o_aside a_o_past a_o_refusals a_o_text a_o_tried a_o_shuffled a_o_letters a_o_numbers o_states o_bytes o_triedMany o_orders o_spot o_wrongAt o_hash r29 w30 hc31) (cwV1 hts cvX7_fails wmX7_195 rfl rfl ⟨(Nat.le_of_ble_eq_true rfl), (Nat.le_of_ble_eq_true rfl)⟩) hK hP hD hS [0] rfl rfl [(true, 0), (false, 1), (false, 2), (false, 3)] rfl rfl rfl 0 rfl rfl rfl rfl hl.1 rfl (Nat.le_of_ble_eq_true rfl) dX7_takesOrder_19 ⟨Nat.zero_le _, Nat.zero_le _⟩ rfl (fun H locs hP hD hS => ?_)
    cases h
    exact W.zret hx hb hr (b2i_nar _) (fun t ht _ => ⟨rfl, by rw [ht]; exact hP, hS.F ht⟩) hS.2.2 dX7_takesOrder_22
def b_X7_isRead_14 (o_bytes : Int32) (o_text : Ar) : Nat → Int32 → Int32 → Int32 → Ar → Ar → Option (Bool × Int32 × Int32 × Int32 × Ar × Ar)
  | 0, _, _, _, _, _ => none
  | n + 1, o_orders, o_spot, o_wrongAt, o_letters, o_numbers => (if o_bytes ≤ o_spot then (if (0 : Int32) < o_orders then some (true, o_orders, o_spot, o_wrongAt, o_letters, o_numbers) else bd2 (f_X7_fails o_spot o_wrongAt) (fun r3 w4 => (if (b2i r3) = (0 : Int32) then some (false, o_orders, o_spot, w4, o_letters, o_numbers) else some (true, o_orders, o_spot, w4, o_letters, o_numbers)))) else bd6 (f_X7_takesOrder o_bytes o_orders o_spot o_wrongAt o_text o_letters o_numbers) (fun r7 w8 w9 w10 w11 w12 => (if (b2i r7) = (0 : Int32) then some (false, w8, w9, w10, w11, w12) else bd1 (f_X7_blanks o_bytes w9 o_text) (fun w15 => b_X7_isRead_14 o_bytes o_text n w8 w15 w10 w11 w12))))
def f_X7_isRead (o_bytes : Int32) (o_orders : Int32) (o_spot : Int32) (o_wrongAt : Int32) (o_text : Ar) (o_letters : Ar) (o_numbers : Ar) : Option (Bool × Int32 × Int32 × Int32 × Ar × Ar) := bd1 (f_X7_blanks o_bytes (0 : Int32) o_text) (fun w17 => b_X7_isRead_14 o_bytes o_text FU (0 : Int32) w17 o_wrongAt o_letters o_numbers)
set_option maxHeartbeats 4000000 in
set_option maxRecDepth 100000 in
theorem c_X7_isRead (l : Launch) (D : va_G) (cI cS : ClassId) (a_o : Nat) (a_o_text : Nat) (a_o_letters : Nat) (a_o_numbers : Nat) (a_o_now : Nat) (a_o_aside : Nat) (a_o_past : Nat) (a_o_refusals : Nat) (a_o_tried : Nat) (a_o_shuffled : Nat) (o_states : Int32) (o_bytes : Int32) (o_triedMany : Int32) (o_orders : Int32) (o_spot : Int32) (o_wrongAt : Int32) (o_hash : Int64) (o_text : Ar) (o_letters : Ar) (o_numbers : Ar) (r0 : Bool) (o_orders' : Int32) (o_spot' : Int32) (o_wrongAt' : Int32) (o_letters' : Ar) (o_numbers' : Ar) (h : f_X7_isRead o_bytes o_orders o_spot o_wrongAt o_text o_letters o_numbers = some (r0, o_orders', o_spot', o_wrongAt', o_letters', o_numbers')) : wrM l D cI cS yX7_isRead cX7_isRead 1 (some .boolean) 5 109 [.ref a_o] [(a_o, .inr (6, [.ref a_o_now, .ref a_o_aside, .ref a_o_past, .int (o_states), .ref a_o_refusals, .ref a_o_text, .int (o_bytes), .ref a_o_tried, .int (o_triedMany), .ref a_o_shuffled, .ref a_o_letters, .ref a_o_numbers, .int (o_orders), .int (o_spot), .int (o_wrongAt), .long (o_hash)])), (a_o_text, .inl (cI, 150, .inl (o_text))), (a_o_letters, .inl (cI, 75, .inl (o_letters))), (a_o_numbers, .inl (cI, 375, .inl (o_numbers)))] [(a_o, .inr (6, [.ref a_o_now, .ref a_o_aside, .ref a_o_past, .int (o_states), .ref a_o_refusals, .ref a_o_text, .int (o_bytes), .ref a_o_tried, .int (o_triedMany), .ref a_o_shuffled, .ref a_o_letters, .ref a_o_numbers, .int (o_orders'), .int (o_spot'), .int (o_wrongAt'), .long (o_hash)])), (a_o_text, .inl (cI, 150, .inl (o_text))), (a_o_letters, .inl (cI, 75, .inl (o_letters'))), (a_o_numbers, .inl (cI, 375, .inl (o_numbers')))] (some (.int (b2i r0))) := by
  refine Met.ofW (cc := cX7_isRead) (maxL := 1) (ret := (some .boolean)) (by decide) rfl ?_
  intro p e s m args below meth c s₁ B hml hv
  obtain ⟨rfl, hP, hK, hD0⟩ := hv
  have hx := B.exec
  have hb := B.bytes
  have hr := B.returns
  have hts : ∀ w ∈ GW, w.before _ s = true := fun w hw => atoms_spec (ws := mws yX7_isRead cX7_isRead 1 (some .boolean)) B.pre w (List.mem_cons_of_mem _ hw)
  have hown : s.vm.findClass RX7 = some m.cls := findClass_of_methodNamed B.named
  have hlocks := B.notSynchronized
  have hD := inW_self hD0
  generalize hAe : inW [(a_o, .inr (6, [.ref a_o_now, .ref a_o_aside, .ref a_o_past, .int (o_states), .ref a_o_refusals, .ref a_o_text, .int (o_bytes), .ref a_o_tried, .int (o_triedMany), .ref a_o_shuffled, .ref a_o_letters, .ref a_o_numbers, .int (o_orders), .int (o_spot), .int (o_wrongAt), .long (o_hash)])), (a_o_text, .inl (cI, 150, .inl (o_text))), (a_o_letters, .inl (cI, 75, .inl (o_letters))), (a_o_numbers, .inl (cI, 375, .inl (o_numbers)))] = A at hD ⊢
  have hS : va_S A s.heap s.heap [] := va_S.rf
  have hl := lv_entry ([.ref a_o]) (n := 1) (Nat.le_of_ble_eq_true rfl)
  rw [lg_entry_eq]
  generalize (lg_sl ([.ref a_o]) ++ List.replicate (1 - (lg_sl ([.ref a_o])).length) Slot.unset).toArray = ls at hl ⊢
  have hl : lv_has ls 1 [(0, .ref a_o)] := hl
  have S : CallFix p m c cX7_isRead 1 s _ GW RX7 := ⟨hx, hb, hml, hown, hts⟩
  have L_14 : ∀ (n : Nat) (o_orders : Int32) (o_spot : Int32) (o_wrongAt : Int32) (o_letters : Ar) (o_numbers : Ar), b_X7_isRead_14 o_bytes o_text n o_orders o_spot o_wrongAt o_letters o_numbers = some (r0, o_orders', o_spot', o_wrongAt', o_letters', o_numbers') → ∀ (H : Heap) (locs : List Loc), va_P D vwCl [(a_o, .inr (6, [.ref a_o_now, .ref a_o_aside, .ref a_o_past, .int (o_states), .ref a_o_refusals, .ref a_o_text, .int (o_bytes), .ref a_o_tried, .int (o_triedMany), .ref a_o_shuffled, .ref a_o_letters, .ref a_o_numbers, .int (o_orders), .int (o_spot), .int (o_wrongAt), .long (o_hash)])), (a_o_text, .inl (cI, 150, .inl (o_text))), (a_o_letters, .inl (cI, 75, .inl (o_letters))), (a_o_numbers, .inl (cI, 375, .inl (o_numbers)))] H → va_D A [(a_o, .inr (6, [.ref a_o_now, .ref a_o_aside, .ref a_o_past, .int (o_states), .ref a_o_refusals, .ref a_o_text, .int (o_bytes), .ref a_o_tried, .int (o_triedMany), .ref a_o_shuffled, .ref a_o_letters, .ref a_o_numbers, .int (o_orders), .int (o_spot), .int (o_wrongAt), .long (o_hash)])), (a_o_text, .inl (cI, 150, .inl (o_text))), (a_o_letters, .inl (cI, 75, .inl (o_letters))), (a_o_numbers, .inl (cI, 375, .inl (o_numbers)))] → va_S A s.heap H locs → ∀ (ls : Array Slot), lv_has ls 1 [(0, .ref a_o)] → W p l e (headSpec (mws yX7_isRead cX7_isRead 1 (some .boolean)) { frames := 5, cells := 0, slots := 0, locals := 109 }).room s m [.ref a_o].toArray below meth c H locs 0 0 (MQ below (wrQ D A [(a_o, .inr (6, [.ref a_o_now, .ref a_o_aside, .ref a_o_past, .int (o_states), .ref a_o_refusals, .ref a_o_text, .int (o_bytes), .ref a_o_tried, .int (o_triedMany), .ref a_o_shuffled, .ref a_o_letters, .ref a_o_numbers, .int (o_orders'), .int (o_spot'), .int (o_wrongAt'), .long (o_hash)])), (a_o_text, .inl (cI, 150, .inl (o_text))), (a_o_letters, .inl (cI, 75, .inl (o_letters'))), (a_o_numbers, .inl (cI, 375, .inl (o_numbers')))] (some (.int (b2i r0)))) [.ref a_o].toArray s 0 0 A) (F0 m 14 ls []) := by
    intro n
    induction n with
    | zero =>
      intro o_orders o_spot o_wrongAt o_letters o_numbers h
      exact nn_no h
    | succ n ih =>
      intro o_orders o_spot o_wrongAt o_letters o_numbers h H locs hP hD hS ls hl
      rw [b_X7_isRead_14] at h
      refine lv_aload_n hx hb dX7_isRead_14 rfl (lv_at hl 0 rfl) ?_
      refine gfX7_13 hx hb hts hown hK hP 0 rfl wfX7_183 dX7_isRead_15 ?_
      refine lv_aload_n hx hb dX7_isRead_18 rfl (lv_at hl 0 rfl) ?_
      refine gfX7_6 hx hb hts hown hK hP 0 rfl wfX7_180 dX7_isRead_19 ?_
      refine lv_icmp_ge (tgt := 41) hx hb dX7_isRead_22 (by decide) (fun c1 => ?_) (fun c1 => ?_)
      · have h := it_t c1 h
        refine lv_aload_n hx hb dX7_isRead_41 rfl (lv_at hl 0 rfl) ?_
        refine gfX7_12 hx hb hts hown hK hP 0 rfl wfX7_202 dX7_isRead_42 ?_
        refine lv_if_gt (tgt := 55) hx hb dX7_isRead_45 (by decide) (fun c2 => ?_) (fun c2 => ?_)
        · have h := it_t c2 h
          refine lv_iconst (v := (1 : Int32)) hx hb dX7_isRead_55 (by decide) ?_
          refine lv_goto (tgt := 60) hx hb dX7_isRead_56 (by decide) ?_
          cases h
          exact W.zret hx hb hr rfl (fun t ht _ => ⟨rfl, by rw [ht]; exact hP, hS.F ht⟩) hS.2.2 dX7_isRead_60
        · have h := it_f c2 h
          refine lv_aload_n hx hb dX7_isRead_48 rfl (lv_at hl 0 rfl) ?_
          obtain ⟨r3, w4, hc5, h⟩ := bd2_use h
          refine wr_V (As := []) (rest := []) (ws' := [(a_o, .inr (6, [.ref a_o_now, .ref a_o_aside, .ref a_o_past, .int (o_states), .ref a_o_refusals, .ref a_o_text, .int (o_bytes), .ref a_o_tried, .int (o_triedMany), .ref a_o_shuffled, .ref a_o_letters, .ref a_o_numbers, .int (o_orders), .int (o_spot), .int (w4), .long (o_hash)])), (a_o_text, .inl (cI, 150, .inl (o_text))), (a_o_letters, .inl (cI, 75, .inl (o_letters))), (a_o_numbers, .inl (cI, 375, .inl (o_numbers)))]) S (c_X7_fails l D cI cS a_o a_o_now a_o_aside a_o_past a_o_refusals a_o_text a_o_tried a_o_shuffled a_o_letters a_o_numbers o_states o_bytes o_triedMany o_orders o_spot o_wrongAt o_hash r3 w4 hc5) (cwV1 hts cvX7_fails wmX7_195 rfl rfl ⟨(Nat.le_of_ble_eq_true rfl), (Nat.le_of_ble_eq_true rfl)⟩) hK hP hD hS [0] rfl rfl [(true, 0), (false, 1), (false, 2), (false, 3)] rfl rfl rfl 0 rfl rfl rfl rfl hl.1 rfl (Nat.le_of_ble_eq_true rfl) dX7_isRead_49 ⟨Nat.zero_le _, Nat.zero_le _⟩ rfl (fun H locs hP hD hS => ?_)
          refine lv_if_eq (tgt := 59) hx hb dX7_isRead_52 (by decide) (fun c6 => ?_) (fun c6 => ?_)
          · have h := it_t c6 h
            refine lv_iconst (v := (0 : Int32)) hx hb dX7_isRead_59 (by decide) ?_
            cases h
            exact W.zret hx hb hr rfl (fun t ht _ => ⟨rfl, by rw [ht]; exact hP, hS.F ht⟩) hS.2.2 dX7_isRead_60
          · have h := it_f c6 h
            refine lv_iconst (v := (1 : Int32)) hx hb dX7_isRead_55 (by decide) ?_
            refine lv_goto (tgt := 60) hx hb dX7_isRead_56 (by decide) ?_
            cases h
            exact W.zret hx hb hr rfl (fun t ht _ => ⟨rfl, by rw [ht]; exact hP, hS.F ht⟩) hS.2.2 dX7_isRead_60
      · have h := it_f c1 h
        refine lv_aload_n hx hb dX7_isRead_25 rfl (lv_at hl 0 rfl) ?_
        obtain ⟨r7, w8, w9, w10, w11, w12, hc13, h⟩ := bd6_use h
        refine wr_V (As := []) (rest := []) (ws' := [(a_o, .inr (6, [.ref a_o_now, .ref a_o_aside, .ref a_o_past, .int (o_states), .ref a_o_refusals, .ref a_o_text, .int (o_bytes), .ref a_o_tried, .int (o_triedMany), .ref a_o_shuffled, .ref a_o_letters, .ref a_o_numbers, .int (w8), .int (w9), .int (w10), .long (o_hash)])), (a_o_text, .inl (cI, 150, .inl (o_text))), (a_o_letters, .inl (cI, 75, .inl (w11))), (a_o_numbers, .inl (cI, 375, .inl (w12)))]) S (c_X7_takesOrder l D cI cS a_o a_o_text a_o_letters a_o_numbers a_o_now a_o_aside a_o_past a_o_refusals a_o_tried a_o_shuffled o_states o_bytes o_triedMany o_orders o_spot o_wrongAt o_hash o_text o_letters o_numbers r7 w8 w9 w10 w11 w12 hc13) (cwV1 hts cvX7_takesOrder wmX7_208 rfl rfl ⟨(Nat.le_of_ble_eq_true rfl), (Nat.le_of_ble_eq_true rfl)⟩) hK hP hD hS [0, 1, 2, 3] rfl rfl [(true, 0), (true, 1), (true, 2), (true, 3)] rfl rfl rfl 0 rfl rfl rfl rfl hl.1 rfl (Nat.le_of_ble_eq_true rfl) dX7_isRead_26 ⟨Nat.zero_le _, Nat.zero_le _⟩ rfl (fun H locs hP hD hS => ?_)
        refine lv_if_ne (tgt := 34) hx hb dX7_isRead_29 (by decide) (fun c14 => ?_) (fun c14 => ?_)
        · have h := it_f c14 h
          refine lv_aload_n hx hb dX7_isRead_34 rfl (lv_at hl 0 rfl) ?_
          obtain ⟨w15, hc16, h⟩ := bd1_use h
          refine wr_V (As := []) (rest := []) (ws' := [(a_o, .inr (6, [.ref a_o_now, .ref a_o_aside, .ref a_o_past, .int (o_states), .ref a_o_refusals, .ref a_o_text, .int (o_bytes), .ref a_o_tried, .int (o_triedMany), .ref a_o_shuffled, .ref a_o_letters, .ref a_o_numbers, .int (w8), .int (w15), .int (w10), .long (o_hash)])), (a_o_text, .inl (cI, 150, .inl (o_text))), (a_o_letters, .inl (cI, 75, .inl (w11))), (a_o_numbers, .inl (cI, 375, .inl (w12)))]) S (c_X7_blanks l D cI cS a_o a_o_text a_o_now a_o_aside a_o_past a_o_refusals a_o_tried a_o_shuffled a_o_letters a_o_numbers o_states o_bytes o_triedMany w8 w9 w10 o_hash o_text w15 hc16) (cwV1 hts cvX7_blanks wmX7_192 rfl rfl ⟨(Nat.le_of_ble_eq_true rfl), (Nat.le_of_ble_eq_true rfl)⟩) hK hP hD hS [0, 1] rfl rfl [(true, 0), (true, 1), (false, 2), (false, 3)] rfl rfl rfl 0 rfl rfl rfl rfl hl.1 rfl (Nat.le_of_ble_eq_true rfl) dX7_isRead_35 ⟨Nat.zero_le _, Nat.zero_le _⟩ rfl (fun H locs hP hD hS => ?_)
          refine lv_goto (tgt := 14) hx hb dX7_isRead_38 (by decide) ?_
          exact ih _ _ _ _ _ h _ _ hP hD hS _ (lv_sub hl [0] rfl)
        · have h := it_t c14 h
          refine lv_iconst (v := (0 : Int32)) hx hb dX7_isRead_32 (by decide) ?_
          cases h
          exact W.zret hx hb hr rfl (fun t ht _ => ⟨rfl, by rw [ht]; exact hP, hS.F ht⟩) hS.2.2 dX7_isRead_33
  unfold f_X7_isRead at h
  refine lv_aload_n hx hb dX7_isRead_0 rfl (lv_at hl 0 rfl) ?_
  refine lv_iconst (v := (0 : Int32)) hx hb dX7_isRead_1 (by decide) ?_
  refine pfX7_13 (ws' := [(a_o, .inr (6, [.ref a_o_now, .ref a_o_aside, .ref a_o_past, .int (o_states), .ref a_o_refusals, .ref a_o_text, .int (o_bytes), .ref a_o_tried, .int (o_triedMany), .ref a_o_shuffled, .ref a_o_letters, .ref a_o_numbers, .int (o_orders), .int ((0 : Int32)), .int (o_wrongAt), .long (o_hash)])), (a_o_text, .inl (cI, 150, .inl (o_text))), (a_o_letters, .inl (cI, 75, .inl (o_letters))), (a_o_numbers, .inl (cI, 375, .inl (o_numbers)))]) hx hb hts hown hK hP hD hS 0 rfl rfl wfX7_183 dX7_isRead_2 (fun H locs hP hD hS => ?_)
  refine lv_aload_n hx hb dX7_isRead_5 rfl (lv_at hl 0 rfl) ?_
  refine lv_iconst (v := (0 : Int32)) hx hb dX7_isRead_6 (by decide) ?_
  refine pfX7_12 (ws' := [(a_o, .inr (6, [.ref a_o_now, .ref a_o_aside, .ref a_o_past, .int (o_states), .ref a_o_refusals, .ref a_o_text, .int (o_bytes), .ref a_o_tried, .int (o_triedMany), .ref a_o_shuffled, .ref a_o_letters, .ref a_o_numbers, .int ((0 : Int32)), .int ((0 : Int32)), .int (o_wrongAt), .long (o_hash)])), (a_o_text, .inl (cI, 150, .inl (o_text))), (a_o_letters, .inl (cI, 75, .inl (o_letters))), (a_o_numbers, .inl (cI, 375, .inl (o_numbers)))]) hx hb hts hown hK hP hD hS 0 rfl rfl wfX7_202 dX7_isRead_7 (fun H locs hP hD hS => ?_)
  refine lv_aload_n hx hb dX7_isRead_10 rfl (lv_at hl 0 rfl) ?_
  obtain ⟨w17, hc18, h⟩ := bd1_use h
  refine wr_V (As := []) (rest := []) (ws' := [(a_o, .inr (6, [.ref a_o_now, .ref a_o_aside, .ref a_o_past, .int (o_states), .ref a_o_refusals, .ref a_o_text, .int (o_bytes), .ref a_o_tried, .int (o_triedMany), .ref a_o_shuffled, .ref a_o_letters, .ref a_o_numbers, .int ((0 : Int32)), .int (w17), .int (o_wrongAt), .long (o_hash)])), (a_o_text, .inl (cI, 150, .inl (o_text))), (a_o_letters, .inl (cI, 75, .inl (o_letters))), (a_o_numbers, .inl (cI, 375, .inl (o_numbers)))]) S (c_X7_blanks l D cI cS a_o a_o_text a_o_now a_o_aside a_o_past a_o_refusals a_o_tried a_o_shuffled a_o_letters a_o_numbers o_states o_bytes o_triedMany (0 : Int32) (0 : Int32) o_wrongAt o_hash o_text w17 hc18) (cwV1 hts cvX7_blanks wmX7_192 rfl rfl ⟨(Nat.le_of_ble_eq_true rfl), (Nat.le_of_ble_eq_true rfl)⟩) hK hP hD hS [0, 1] rfl rfl [(true, 0), (true, 1), (false, 2), (false, 3)] rfl rfl rfl 0 rfl rfl rfl rfl hl.1 rfl (Nat.le_of_ble_eq_true rfl) dX7_isRead_11 ⟨Nat.zero_le _, Nat.zero_le _⟩ rfl (fun H locs hP hD hS => ?_)
  exact L_14 _ _ _ _ _ _ h _ _ hP hD hS _ (lv_sub hl [0] rfl)
def b_X7_putTest_57 (x1 : Int32) (x2 : Int32) (x3 : Int32) (x4 : Int32) (x5 : Int32) (s0 : Int32) (o_now : Ar) : Option (Int32 × Ar) := (if s0 = (0 : Int32) then some ((-2 : Int32), o_now) else (if (x1 &&& x2) = (0 : Int32) then (if (x3 &&& x4) = (0 : Int32) then (if (x3 &&& x5) = (0 : Int32) then (if (x4 &&& x5) = (0 : Int32) then rd o_now 52 (0 : Int32) (fun rv6 => (if rv6 = (8 : Int32) then some ((-4 : Int32), o_now) else rd o_now 52 (0 : Int32) (fun rv9 => nm ((12 : Int32) + ((5 : Int32) * rv9)) (fun y11 => wr o_now 52 y11 x1 (fun fv12 => wr fv12 52 (y11 + (1 : Int32)) x2 (fun fv14 => wr fv14 52 (y11 + (2 : Int32)) x3 (fun fv16 => wr fv16 52 (y11 + (3 : Int32)) x4 (fun fv18 => wr fv18 52 (y11 + (4 : Int32)) x5 (fun fv20 => rd fv20 52 (0 : Int32) (fun rv22 => wr fv20 52 (0 : Int32) (rv22 + (1 : Int32)) (fun fv24 => rd fv24 52 (0 : Int32) (fun rv26 => nm (rv26 - (1 : Int32)) (fun y28 => some (y28, fv24)))))))))))))) else some ((-2 : Int32), o_now)) else some ((-2 : Int32), o_now)) else some ((-2 : Int32), o_now)) else some ((-2 : Int32), o_now)))
def f_X7_putTest (o_now : Ar) (x1 : Int32) (x2 : Int32) (x3 : Int32) (x4 : Int32) (x5 : Int32) : Option (Int32 × Ar) := bd1 (f_X7_in x1 (0 : Int32) (63 : Int32)) (fun r29 => (if (b2i r29) = (0 : Int32) then b_X7_putTest_57 x1 x2 x3 x4 x5 (0 : Int32) o_now else bd1 (f_X7_in x2 (0 : Int32) (63 : Int32)) (fun r32 => (if (b2i r32) = (0 : Int32) then b_X7_putTest_57 x1 x2 x3 x4 x5 (0 : Int32) o_now else bd1 (f_X7_in x3 (0 : Int32) (63 : Int32)) (fun r35 => (if (b2i r35) = (0 : Int32) then b_X7_putTest_57 x1 x2 x3 x4 x5 (0 : Int32) o_now else bd1 (f_X7_in x4 (0 : Int32) (63 : Int32)) (fun r38 => (if (b2i r38) = (0 : Int32) then b_X7_putTest_57 x1 x2 x3 x4 x5 (0 : Int32) o_now else bd1 (f_X7_in x5 (0 : Int32) (63 : Int32)) (fun r41 => (if (b2i r41) = (0 : Int32) then b_X7_putTest_57 x1 x2 x3 x4 x5 (0 : Int32) o_now else b_X7_putTest_57 x1 x2 x3 x4 x5 (1 : Int32) o_now))))))))))
set_option maxHeartbeats 4000000 in
set_option maxRecDepth 100000 in
theorem c_X7_putTest (l : Launch) (D : va_G) (cI cS : ClassId) (a_o : Nat) (a_o_now : Nat) (a_o_aside : Nat) (a_o_past : Nat) (a_o_refusals : Nat) (a_o_text : Nat) (a_o_tried : Nat) (a_o_shuffled : Nat) (a_o_letters : Nat) (a_o_numbers : Nat) (o_states : Int32) (o_bytes : Int32) (o_triedMany : Int32) (o_orders : Int32) (o_spot : Int32) (o_wrongAt : Int32) (o_hash : Int64) (o_now : Ar) (x1 : Int32) (x2 : Int32) (x3 : Int32) (x4 : Int32) (x5 : Int32) (r0 : Int32) (o_now' : Ar) (h : f_X7_putTest o_now x1 x2 x3 x4 x5 = some (r0, o_now')) : wrM l D cI cS yX7_putTest cX7_putTest 8 (some .int) 1 22 [.ref a_o, .int x1, .int x2, .int x3, .int x4, .int x5] [(a_o, .inr (6, [.ref a_o_now, .ref a_o_aside, .ref a_o_past, .int (o_states), .ref a_o_refusals, .ref a_o_text, .int (o_bytes), .ref a_o_tried, .int (o_triedMany), .ref a_o_shuffled, .ref a_o_letters, .ref a_o_numbers, .int (o_orders), .int (o_spot), .int (o_wrongAt), .long (o_hash)])), (a_o_now, .inl (cI, 52, .inl (o_now)))] [(a_o, .inr (6, [.ref a_o_now, .ref a_o_aside, .ref a_o_past, .int (o_states), .ref a_o_refusals, .ref a_o_text, .int (o_bytes), .ref a_o_tried, .int (o_triedMany), .ref a_o_shuffled, .ref a_o_letters, .ref a_o_numbers, .int (o_orders), .int (o_spot), .int (o_wrongAt), .long (o_hash)])), (a_o_now, .inl (cI, 52, .inl (o_now')))] (some (.int r0)) := by
  refine Met.ofW (cc := cX7_putTest) (maxL := 8) (ret := (some .int)) (by decide) rfl ?_
  intro p e s m args below meth c s₁ B hml hv
  obtain ⟨rfl, hP, hK, hD0⟩ := hv
  have hx := B.exec
  have hb := B.bytes
  have hr := B.returns
  have hts : ∀ w ∈ GW, w.before _ s = true := fun w hw => atoms_spec (ws := mws yX7_putTest cX7_putTest 8 (some .int)) B.pre w (List.mem_cons_of_mem _ hw)
  have hown : s.vm.findClass RX7 = some m.cls := findClass_of_methodNamed B.named
  have hlocks := B.notSynchronized
  have hD := inW_self hD0
  generalize hAe : inW [(a_o, .inr (6, [.ref a_o_now, .ref a_o_aside, .ref a_o_past, .int (o_states), .ref a_o_refusals, .ref a_o_text, .int (o_bytes), .ref a_o_tried, .int (o_triedMany), .ref a_o_shuffled, .ref a_o_letters, .ref a_o_numbers, .int (o_orders), .int (o_spot), .int (o_wrongAt), .long (o_hash)])), (a_o_now, .inl (cI, 52, .inl (o_now)))] = A at hD ⊢
  have hS : va_S A s.heap s.heap [] := va_S.rf
  have hl := lv_entry ([.ref a_o, .int x1, .int x2, .int x3, .int x4, .int x5]) (n := 8) (Nat.le_of_ble_eq_true rfl)
  rw [lg_entry_eq]
  generalize (lg_sl ([.ref a_o, .int x1, .int x2, .int x3, .int x4, .int x5]) ++ List.replicate (8 - (lg_sl ([.ref a_o, .int x1, .int x2, .int x3, .int x4, .int x5])).length) Slot.unset).toArray = ls at hl ⊢
  have hl : lv_has ls 8 [(0, .ref a_o), (1, .int x1), (2, .int x2), (3, .int x3), (4, .int x4), (5, .int x5)] := hl
  have S : CallFix p m c cX7_putTest 8 s _ GW RX7 := ⟨hx, hb, hml, hown, hts⟩
  have L_57 : ∀ (s0 : Int32) (o_now : Ar), b_X7_putTest_57 x1 x2 x3 x4 x5 s0 o_now = some (r0, o_now') → ∀ (H : Heap) (locs : List Loc), va_P D vwCl [(a_o, .inr (6, [.ref a_o_now, .ref a_o_aside, .ref a_o_past, .int (o_states), .ref a_o_refusals, .ref a_o_text, .int (o_bytes), .ref a_o_tried, .int (o_triedMany), .ref a_o_shuffled, .ref a_o_letters, .ref a_o_numbers, .int (o_orders), .int (o_spot), .int (o_wrongAt), .long (o_hash)])), (a_o_now, .inl (cI, 52, .inl (o_now)))] H → va_D A [(a_o, .inr (6, [.ref a_o_now, .ref a_o_aside, .ref a_o_past, .int (o_states), .ref a_o_refusals, .ref a_o_text, .int (o_bytes), .ref a_o_tried, .int (o_triedMany), .ref a_o_shuffled, .ref a_o_letters, .ref a_o_numbers, .int (o_orders), .int (o_spot), .int (o_wrongAt), .long (o_hash)])), (a_o_now, .inl (cI, 52, .inl (o_now)))] → va_S A s.heap H locs → ∀ (ls : Array Slot), lv_has ls 8 [(0, .ref a_o), (1, .int x1), (2, .int x2), (3, .int x3), (4, .int x4), (5, .int x5)] → W p l e (headSpec (mws yX7_putTest cX7_putTest 8 (some .int)) { frames := 1, cells := 0, slots := 0, locals := 22 }).room s m [.ref a_o, .int x1, .int x2, .int x3, .int x4, .int x5].toArray below meth c H locs 0 0 (MQ below (wrQ D A [(a_o, .inr (6, [.ref a_o_now, .ref a_o_aside, .ref a_o_past, .int (o_states), .ref a_o_refusals, .ref a_o_text, .int (o_bytes), .ref a_o_tried, .int (o_triedMany), .ref a_o_shuffled, .ref a_o_letters, .ref a_o_numbers, .int (o_orders), .int (o_spot), .int (o_wrongAt), .long (o_hash)])), (a_o_now, .inl (cI, 52, .inl (o_now')))] (some (.int r0))) [.ref a_o, .int x1, .int x2, .int x3, .int x4, .int x5].toArray s 0 0 A) (F0 m 57 ls [.int s0]) := by
    intro s0 o_now h H locs hP hD hS ls hl
    unfold b_X7_putTest_57 at h
    refine lv_istore (lv' := [(6, .int s0), (0, .ref a_o), (1, .int x1), (2, .int x2), (3, .int x3), (4, .int x4), (5, .int x5)]) hx hb dX7_putTest_57 hl (by decide) rfl (fun ls hl => ?_)
    refine lv_iload hx hb dX7_putTest_59 (lv_at hl 0 rfl) ?_
    refine lv_if_eq (tgt := 92) hx hb dX7_putTest_61 (by decide) (fun c1 => ?_) (fun c1 => ?_)
    · have h := it_t c1 h
      refine lv_bipush (v := (-2 : Int32)) hx hb dX7_putTest_92 (by decide) ?_
      cases h
      exact W.iret hx hb hr (fun t ht _ => ⟨rfl, by rw [ht]; exact hP, hS.F ht⟩) hS.2.2 dX7_putTest_94
    · have h := it_f c1 h
      refine lv_iload_n hx hb dX7_putTest_64 rfl (lv_at hl 2 rfl) ?_
      refine lv_iload_n hx hb dX7_putTest_65 rfl (lv_at hl 3 rfl) ?_
      refine lv_iand hx hb dX7_putTest_66 ?_
      refine lv_if_ne (tgt := 92) hx hb dX7_putTest_67 (by decide) (fun c2 => ?_) (fun c2 => ?_)
      · have h := it_f c2 h
        refine lv_bipush (v := (-2 : Int32)) hx hb dX7_putTest_92 (by decide) ?_
        cases h
        exact W.iret hx hb hr (fun t ht _ => ⟨rfl, by rw [ht]; exact hP, hS.F ht⟩) hS.2.2 dX7_putTest_94
      · have h := it_t c2 h
        refine lv_iload_n hx hb dX7_putTest_70 rfl (lv_at hl 4 rfl) ?_
        refine lv_iload hx hb dX7_putTest_71 (lv_at hl 5 rfl) ?_
        refine lv_iand hx hb dX7_putTest_73 ?_
        refine lv_if_ne (tgt := 92) hx hb dX7_putTest_74 (by decide) (fun c3 => ?_) (fun c3 => ?_)
        · have h := it_f c3 h
          refine lv_bipush (v := (-2 : Int32)) hx hb dX7_putTest_92 (by decide) ?_
          cases h
          exact W.iret hx hb hr (fun t ht _ => ⟨rfl, by rw [ht]; exact hP, hS.F ht⟩) hS.2.2 dX7_putTest_94
        · have h := it_t c3 h
          refine lv_iload_n hx hb dX7_putTest_77 rfl (lv_at hl 4 rfl) ?_
          refine lv_iload hx hb dX7_putTest_78 (lv_at hl 6 rfl) ?_
          refine lv_iand hx hb dX7_putTest_80 ?_
          refine lv_if_ne (tgt := 92) hx hb dX7_putTest_81 (by decide) (fun c4 => ?_) (fun c4 => ?_)
          · have h := it_f c4 h
            refine lv_bipush (v := (-2 : Int32)) hx hb dX7_putTest_92 (by decide) ?_
            cases h
            exact W.iret hx hb hr (fun t ht _ => ⟨rfl, by rw [ht]; exact hP, hS.F ht⟩) hS.2.2 dX7_putTest_94
          · have h := it_t c4 h
            refine lv_iload hx hb dX7_putTest_84 (lv_at hl 5 rfl) ?_
            refine lv_iload hx hb dX7_putTest_86 (lv_at hl 6 rfl) ?_
            refine lv_iand hx hb dX7_putTest_88 ?_
            refine lv_if_eq (tgt := 95) hx hb dX7_putTest_89 (by decide) (fun c5 => ?_) (fun c5 => ?_)
            · have h := it_t c5 h
              refine lv_aload_n hx hb dX7_putTest_95 rfl (lv_at hl 1 rfl) ?_
              refine gfX7_0 hx hb hts hown hK hP 0 rfl wfX7_7 dX7_putTest_96 ?_
              refine lv_iconst (v := (0 : Int32)) hx hb dX7_putTest_99 (by decide) ?_
              obtain ⟨hi7, h⟩ := rd_use h
              refine ia_ hx hb hK hP 1 rfl hi7 dX7_putTest_100 ?_
              refine lv_bipush (v := (8 : Int32)) hx hb dX7_putTest_101 (by decide) ?_
              refine lv_icmp_ne (tgt := 109) hx hb dX7_putTest_103 (by decide) (fun c8 => ?_) (fun c8 => ?_)
              · have h := it_f c8 h
                refine lv_bipush (v := (12 : Int32)) hx hb dX7_putTest_109 (by decide) ?_
                refine lv_iconst (v := (5 : Int32)) hx hb dX7_putTest_111 (by decide) ?_
                refine lv_aload_n hx hb dX7_putTest_112 rfl (lv_at hl 1 rfl) ?_
                refine gfX7_0 hx hb hts hown hK hP 0 rfl wfX7_7 dX7_putTest_113 ?_
                refine lv_iconst (v := (0 : Int32)) hx hb dX7_putTest_116 (by decide) ?_
                obtain ⟨hi10, h⟩ := rd_use h
                refine ia_ hx hb hK hP 1 rfl hi10 dX7_putTest_117 ?_
                refine lv_imul hx hb dX7_putTest_118 ?_
                refine lv_iadd hx hb dX7_putTest_119 ?_
                refine lv_topi (fun y11 ey11 => ?_)
                have h := nm_use h ey11
                refine lv_istore (lv' := [(7, .int y11), (6, .int s0), (0, .ref a_o), (1, .int x1), (2, .int x2), (3, .int x3), (4, .int x4), (5, .int x5)]) hx hb dX7_putTest_120 hl (by decide) rfl (fun ls hl => ?_)
                refine lv_aload_n hx hb dX7_putTest_122 rfl (lv_at hl 2 rfl) ?_
                refine gfX7_0 hx hb hts hown hK hP 0 rfl wfX7_7 dX7_putTest_123 ?_
                refine lv_iload hx hb dX7_putTest_126 (lv_at hl 0 rfl) ?_
                refine lv_iload_n hx hb dX7_putTest_128 rfl (lv_at hl 3 rfl) ?_
                obtain ⟨hi13, h⟩ := wr_use h
                refine is_ (ws' := [(a_o, .inr (6, [.ref a_o_now, .ref a_o_aside, .ref a_o_past, .int (o_states), .ref a_o_refusals, .ref a_o_text, .int (o_bytes), .ref a_o_tried, .int (o_triedMany), .ref a_o_shuffled, .ref a_o_letters, .ref a_o_numbers, .int (o_orders), .int (o_spot), .int (o_wrongAt), .long (o_hash)])), (a_o_now, .inl (cI, 52, .inl ((upd o_now y11.toNatClampNeg x1))))]) hx hb hK hP hD hS 1 rfl rfl hi13 dX7_putTest_129 (fun H locs hP hD hS => ?_)
                refine lv_aload_n hx hb dX7_putTest_130 rfl (lv_at hl 2 rfl) ?_
                refine gfX7_0 hx hb hts hown hK hP 0 rfl wfX7_7 dX7_putTest_131 ?_
                refine lv_iload hx hb dX7_putTest_134 (lv_at hl 0 rfl) ?_
                refine lv_iconst (v := (1 : Int32)) hx hb dX7_putTest_136 (by decide) ?_
                refine lv_iadd hx hb dX7_putTest_137 ?_
                refine lv_iload_n hx hb dX7_putTest_138 rfl (lv_at hl 4 rfl) ?_
                obtain ⟨hi15, h⟩ := wr_use h
                refine is_ (ws' := [(a_o, .inr (6, [.ref a_o_now, .ref a_o_aside, .ref a_o_past, .int (o_states), .ref a_o_refusals, .ref a_o_text, .int (o_bytes), .ref a_o_tried, .int (o_triedMany), .ref a_o_shuffled, .ref a_o_letters, .ref a_o_numbers, .int (o_orders), .int (o_spot), .int (o_wrongAt), .long (o_hash)])), (a_o_now, .inl (cI, 52, .inl ((upd (upd o_now y11.toNatClampNeg x1) (y11 + (1 : Int32)).toNatClampNeg x2))))]) hx hb hK hP hD hS 1 rfl rfl hi15 dX7_putTest_139 (fun H locs hP hD hS => ?_)
                refine lv_aload_n hx hb dX7_putTest_140 rfl (lv_at hl 2 rfl) ?_
                refine gfX7_0 hx hb hts hown hK hP 0 rfl wfX7_7 dX7_putTest_141 ?_
                refine lv_iload hx hb dX7_putTest_144 (lv_at hl 0 rfl) ?_
                refine lv_iconst (v := (2 : Int32)) hx hb dX7_putTest_146 (by decide) ?_
                refine lv_iadd hx hb dX7_putTest_147 ?_
                refine lv_iload_n hx hb dX7_putTest_148 rfl (lv_at hl 5 rfl) ?_
                obtain ⟨hi17, h⟩ := wr_use h
                refine is_ (ws' := [(a_o, .inr (6, [.ref a_o_now, .ref a_o_aside, .ref a_o_past, .int (o_states), .ref a_o_refusals, .ref a_o_text, .int (o_bytes), .ref a_o_tried, .int (o_triedMany), .ref a_o_shuffled, .ref a_o_letters, .ref a_o_numbers, .int (o_orders), .int (o_spot), .int (o_wrongAt), .long (o_hash)])), (a_o_now, .inl (cI, 52, .inl ((upd (upd (upd o_now y11.toNatClampNeg x1) (y11 + (1 : Int32)).toNatClampNeg x2) (y11 + (2 : Int32)).toNatClampNeg x3))))]) hx hb hK hP hD hS 1 rfl rfl hi17 dX7_putTest_149 (fun H locs hP hD hS => ?_)
                refine lv_aload_n hx hb dX7_putTest_150 rfl (lv_at hl 2 rfl) ?_
                refine gfX7_0 hx hb hts hown hK hP 0 rfl wfX7_7 dX7_putTest_151 ?_
                refine lv_iload hx hb dX7_putTest_154 (lv_at hl 0 rfl) ?_
                refine lv_iconst (v := (3 : Int32)) hx hb dX7_putTest_156 (by decide) ?_
                refine lv_iadd hx hb dX7_putTest_157 ?_
                refine lv_iload hx hb dX7_putTest_158 (lv_at hl 6 rfl) ?_
                obtain ⟨hi19, h⟩ := wr_use h
                refine is_ (ws' := [(a_o, .inr (6, [.ref a_o_now, .ref a_o_aside, .ref a_o_past, .int (o_states), .ref a_o_refusals, .ref a_o_text, .int (o_bytes), .ref a_o_tried, .int (o_triedMany), .ref a_o_shuffled, .ref a_o_letters, .ref a_o_numbers, .int (o_orders), .int (o_spot), .int (o_wrongAt), .long (o_hash)])), (a_o_now, .inl (cI, 52, .inl ((upd (upd (upd (upd o_now y11.toNatClampNeg x1) (y11 + (1 : Int32)).toNatClampNeg x2) (y11 + (2 : Int32)).toNatClampNeg x3) (y11 + (3 : Int32)).toNatClampNeg x4))))]) hx hb hK hP hD hS 1 rfl rfl hi19 dX7_putTest_160 (fun H locs hP hD hS => ?_)
                refine lv_aload_n hx hb dX7_putTest_161 rfl (lv_at hl 2 rfl) ?_
                refine gfX7_0 hx hb hts hown hK hP 0 rfl wfX7_7 dX7_putTest_162 ?_
                refine lv_iload hx hb dX7_putTest_165 (lv_at hl 0 rfl) ?_
                refine lv_iconst (v := (4 : Int32)) hx hb dX7_putTest_167 (by decide) ?_
                refine lv_iadd hx hb dX7_putTest_168 ?_
                refine lv_iload hx hb dX7_putTest_169 (lv_at hl 7 rfl) ?_
                obtain ⟨hi21, h⟩ := wr_use h
                refine is_ (ws' := [(a_o, .inr (6, [.ref a_o_now, .ref a_o_aside, .ref a_o_past, .int (o_states), .ref a_o_refusals, .ref a_o_text, .int (o_bytes), .ref a_o_tried, .int (o_triedMany), .ref a_o_shuffled, .ref a_o_letters, .ref a_o_numbers, .int (o_orders), .int (o_spot), .int (o_wrongAt), .long (o_hash)])), (a_o_now, .inl (cI, 52, .inl ((upd (upd (upd (upd (upd o_now y11.toNatClampNeg x1) (y11 + (1 : Int32)).toNatClampNeg x2) (y11 + (2 : Int32)).toNatClampNeg x3) (y11 + (3 : Int32)).toNatClampNeg x4) (y11 + (4 : Int32)).toNatClampNeg x5))))]) hx hb hK hP hD hS 1 rfl rfl hi21 dX7_putTest_171 (fun H locs hP hD hS => ?_)
                refine lv_aload_n hx hb dX7_putTest_172 rfl (lv_at hl 2 rfl) ?_
                refine gfX7_0 hx hb hts hown hK hP 0 rfl wfX7_7 dX7_putTest_173 ?_
                refine lv_iconst (v := (0 : Int32)) hx hb dX7_putTest_176 (by decide) ?_
                refine lv_dup2_11 hx hb dX7_putTest_177 rfl rfl ?_
                obtain ⟨hi23, h⟩ := rd_use h
                refine ia_ hx hb hK hP 1 rfl hi23 dX7_putTest_178 ?_
                refine lv_iconst (v := (1 : Int32)) hx hb dX7_putTest_179 (by decide) ?_
                refine lv_iadd hx hb dX7_putTest_180 ?_
                obtain ⟨hi25, h⟩ := wr_use h
                refine is_ (ws' := [(a_o, .inr (6, [.ref a_o_now, .ref a_o_aside, .ref a_o_past, .int (o_states), .ref a_o_refusals, .ref a_o_text, .int (o_bytes), .ref a_o_tried, .int (o_triedMany), .ref a_o_shuffled, .ref a_o_letters, .ref a_o_numbers, .int (o_orders), .int (o_spot), .int (o_wrongAt), .long (o_hash)])), (a_o_now, .inl (cI, 52, .inl ((upd (upd (upd (upd (upd (upd o_now y11.toNatClampNeg x1) (y11 + (1 : Int32)).toNatClampNeg x2) (y11 + (2 : Int32)).toNatClampNeg x3) (y11 + (3 : Int32)).toNatClampNeg x4) (y11 + (4 : Int32)).toNatClampNeg x5) (0 : Int32).toNatClampNeg (((upd (upd (upd (upd (upd o_now y11.toNatClampNeg x1) (y11 + (1 : Int32)).toNatClampNeg x2) (y11 + (2 : Int32)).toNatClampNeg x3) (y11 + (3 : Int32)).toNatClampNeg x4) (y11 + (4 : Int32)).toNatClampNeg x5) (0 : Int32).toNatClampNeg) + (1 : Int32))))))]) hx hb hK hP hD hS 1 rfl rfl hi25 dX7_putTest_181 (fun H locs hP hD hS => ?_)
                refine lv_aload_n hx hb dX7_putTest_182 rfl (lv_at hl 2 rfl) ?_
                refine gfX7_0 hx hb hts hown hK hP 0 rfl wfX7_7 dX7_putTest_183 ?_
                refine lv_iconst (v := (0 : Int32)) hx hb dX7_putTest_186 (by decide) ?_
                obtain ⟨hi27, h⟩ := rd_use h
                refine ia_ hx hb hK hP 1 rfl hi27 dX7_putTest_187 ?_
                refine lv_iconst (v := (1 : Int32)) hx hb dX7_putTest_188 (by decide) ?_
                refine lv_isub hx hb dX7_putTest_189 ?_
                refine lv_topi (fun y28 ey28 => ?_)
                have h := nm_use h ey28
                cases h
                exact W.iret hx hb hr (fun t ht _ => ⟨rfl, by rw [ht]; exact hP, hS.F ht⟩) hS.2.2 dX7_putTest_190
              · have h := it_t c8 h
                refine lv_bipush (v := (-4 : Int32)) hx hb dX7_putTest_106 (by decide) ?_
                cases h
                exact W.iret hx hb hr (fun t ht _ => ⟨rfl, by rw [ht]; exact hP, hS.F ht⟩) hS.2.2 dX7_putTest_108
            · have h := it_f c5 h
              refine lv_bipush (v := (-2 : Int32)) hx hb dX7_putTest_92 (by decide) ?_
              cases h
              exact W.iret hx hb hr (fun t ht _ => ⟨rfl, by rw [ht]; exact hP, hS.F ht⟩) hS.2.2 dX7_putTest_94
  unfold f_X7_putTest at h
  refine lv_iload_n hx hb dX7_putTest_0 rfl (lv_at hl 1 rfl) ?_
  refine lv_iconst (v := (0 : Int32)) hx hb dX7_putTest_1 (by decide) ?_
  refine lv_bipush (v := (63 : Int32)) hx hb dX7_putTest_2 (by decide) ?_
  obtain ⟨r29, hc30, h⟩ := bd1_use h
  refine ro_S (As := [.int x1, .int (0 : Int32), .int (63 : Int32)]) (rest := []) S (c_X7_in l D cI cS x1 (0 : Int32) (63 : Int32) r29 hc30) (cwS1 hts csX7_in wmX7_48 rfl rfl ⟨(Nat.le_of_ble_eq_true rfl), (Nat.le_of_ble_eq_true rfl)⟩) hK hP [] rfl rfl hl.1 rfl (Nat.le_of_ble_eq_true rfl) dX7_putTest_4 ⟨Nat.zero_le _, Nat.zero_le _⟩ rfl ?_
  refine lv_if_eq (tgt := 56) hx hb dX7_putTest_7 (by decide) (fun c31 => ?_) (fun c31 => ?_)
  · have h := it_t c31 h
    refine lv_iconst (v := (0 : Int32)) hx hb dX7_putTest_56 (by decide) ?_
    exact L_57 _ _ h _ _ hP hD hS _ (lv_sub hl [0, 1, 2, 3, 4, 5] rfl)
  · have h := it_f c31 h
    refine lv_iload_n hx hb dX7_putTest_10 rfl (lv_at hl 2 rfl) ?_
    refine lv_iconst (v := (0 : Int32)) hx hb dX7_putTest_11 (by decide) ?_
    refine lv_bipush (v := (63 : Int32)) hx hb dX7_putTest_12 (by decide) ?_
    obtain ⟨r32, hc33, h⟩ := bd1_use h
    refine ro_S (As := [.int x2, .int (0 : Int32), .int (63 : Int32)]) (rest := []) S (c_X7_in l D cI cS x2 (0 : Int32) (63 : Int32) r32 hc33) (cwS1 hts csX7_in wmX7_48 rfl rfl ⟨(Nat.le_of_ble_eq_true rfl), (Nat.le_of_ble_eq_true rfl)⟩) hK hP [] rfl rfl hl.1 rfl (Nat.le_of_ble_eq_true rfl) dX7_putTest_14 ⟨Nat.zero_le _, Nat.zero_le _⟩ rfl ?_
    refine lv_if_eq (tgt := 56) hx hb dX7_putTest_17 (by decide) (fun c34 => ?_) (fun c34 => ?_)
    · have h := it_t c34 h
      refine lv_iconst (v := (0 : Int32)) hx hb dX7_putTest_56 (by decide) ?_
      exact L_57 _ _ h _ _ hP hD hS _ (lv_sub hl [0, 1, 2, 3, 4, 5] rfl)
    · have h := it_f c34 h
      refine lv_iload_n hx hb dX7_putTest_20 rfl (lv_at hl 3 rfl) ?_
      refine lv_iconst (v := (0 : Int32)) hx hb dX7_putTest_21 (by decide) ?_
      refine lv_bipush (v := (63 : Int32)) hx hb dX7_putTest_22 (by decide) ?_
      obtain ⟨r35, hc36, h⟩ := bd1_use h
      refine ro_S (As := [.int x3, .int (0 : Int32), .int (63 : Int32)]) (rest := []) S (c_X7_in l D cI cS x3 (0 : Int32) (63 : Int32) r35 hc36) (cwS1 hts csX7_in wmX7_48 rfl rfl ⟨(Nat.le_of_ble_eq_true rfl), (Nat.le_of_ble_eq_true rfl)⟩) hK hP [] rfl rfl hl.1 rfl (Nat.le_of_ble_eq_true rfl) dX7_putTest_24 ⟨Nat.zero_le _, Nat.zero_le _⟩ rfl ?_
      refine lv_if_eq (tgt := 56) hx hb dX7_putTest_27 (by decide) (fun c37 => ?_) (fun c37 => ?_)
      · have h := it_t c37 h
        refine lv_iconst (v := (0 : Int32)) hx hb dX7_putTest_56 (by decide) ?_
        exact L_57 _ _ h _ _ hP hD hS _ (lv_sub hl [0, 1, 2, 3, 4, 5] rfl)
      · have h := it_f c37 h
        refine lv_iload hx hb dX7_putTest_30 (lv_at hl 4 rfl) ?_
        refine lv_iconst (v := (0 : Int32)) hx hb dX7_putTest_32 (by decide) ?_
        refine lv_bipush (v := (63 : Int32)) hx hb dX7_putTest_33 (by decide) ?_
        obtain ⟨r38, hc39, h⟩ := bd1_use h
        refine ro_S (As := [.int x4, .int (0 : Int32), .int (63 : Int32)]) (rest := []) S (c_X7_in l D cI cS x4 (0 : Int32) (63 : Int32) r38 hc39) (cwS1 hts csX7_in wmX7_48 rfl rfl ⟨(Nat.le_of_ble_eq_true rfl), (Nat.le_of_ble_eq_true rfl)⟩) hK hP [] rfl rfl hl.1 rfl (Nat.le_of_ble_eq_true rfl) dX7_putTest_35 ⟨Nat.zero_le _, Nat.zero_le _⟩ rfl ?_
        refine lv_if_eq (tgt := 56) hx hb dX7_putTest_38 (by decide) (fun c40 => ?_) (fun c40 => ?_)
        · have h := it_t c40 h
          refine lv_iconst (v := (0 : Int32)) hx hb dX7_putTest_56 (by decide) ?_
          exact L_57 _ _ h _ _ hP hD hS _ (lv_sub hl [0, 1, 2, 3, 4, 5] rfl)
        · have h := it_f c40 h
          refine lv_iload hx hb dX7_putTest_41 (lv_at hl 5 rfl) ?_
          refine lv_iconst (v := (0 : Int32)) hx hb dX7_putTest_43 (by decide) ?_
          refine lv_bipush (v := (63 : Int32)) hx hb dX7_putTest_44 (by decide) ?_
          obtain ⟨r41, hc42, h⟩ := bd1_use h
          refine ro_S (As := [.int x5, .int (0 : Int32), .int (63 : Int32)]) (rest := []) S (c_X7_in l D cI cS x5 (0 : Int32) (63 : Int32) r41 hc42) (cwS1 hts csX7_in wmX7_48 rfl rfl ⟨(Nat.le_of_ble_eq_true rfl), (Nat.le_of_ble_eq_true rfl)⟩) hK hP [] rfl rfl hl.1 rfl (Nat.le_of_ble_eq_true rfl) dX7_putTest_46 ⟨Nat.zero_le _, Nat.zero_le _⟩ rfl ?_
          refine lv_if_eq (tgt := 56) hx hb dX7_putTest_49 (by decide) (fun c43 => ?_) (fun c43 => ?_)
          · have h := it_t c43 h
            refine lv_iconst (v := (0 : Int32)) hx hb dX7_putTest_56 (by decide) ?_
            exact L_57 _ _ h _ _ hP hD hS _ (lv_sub hl [0, 1, 2, 3, 4, 5] rfl)
          · have h := it_f c43 h
            refine lv_iconst (v := (1 : Int32)) hx hb dX7_putTest_52 (by decide) ?_
            refine lv_goto (tgt := 57) hx hb dX7_putTest_53 (by decide) ?_
            exact L_57 _ _ h _ _ hP hD hS _ (lv_sub hl [0, 1, 2, 3, 4, 5] rfl)
def f_X7_putLaid (o_now : Ar) (x1 : Int32) : Option (Int32 × Ar) := bd1 (f_X7_isTest o_now x1) (fun r1 => (if (b2i r1) = (0 : Int32) then some ((-2 : Int32), o_now) else bd1 (f_X7_placeOf o_now x1) (fun r4 => (if r4 = (-1 : Int32) then rd o_now 52 (3 : Int32) (fun rv7 => wr o_now 52 ((4 : Int32) + rv7) x1 (fun fv9 => rd fv9 52 (3 : Int32) (fun rv11 => wr fv9 52 (3 : Int32) (rv11 + (1 : Int32)) (fun fv13 => rd fv13 52 (3 : Int32) (fun rv15 => some (rv15, fv13)))))) else some ((-3 : Int32), o_now)))))
set_option maxHeartbeats 4000000 in
set_option maxRecDepth 100000 in
theorem c_X7_putLaid (l : Launch) (D : va_G) (cI cS : ClassId) (a_o : Nat) (a_o_now : Nat) (a_o_aside : Nat) (a_o_past : Nat) (a_o_refusals : Nat) (a_o_text : Nat) (a_o_tried : Nat) (a_o_shuffled : Nat) (a_o_letters : Nat) (a_o_numbers : Nat) (o_states : Int32) (o_bytes : Int32) (o_triedMany : Int32) (o_orders : Int32) (o_spot : Int32) (o_wrongAt : Int32) (o_hash : Int64) (o_now : Ar) (x1 : Int32) (r0 : Int32) (o_now' : Ar) (h : f_X7_putLaid o_now x1 = some (r0, o_now')) : wrM l D cI cS yX7_putLaid cX7_putLaid 2 (some .int) 2 43 [.ref a_o, .int x1] [(a_o, .inr (6, [.ref a_o_now, .ref a_o_aside, .ref a_o_past, .int (o_states), .ref a_o_refusals, .ref a_o_text, .int (o_bytes), .ref a_o_tried, .int (o_triedMany), .ref a_o_shuffled, .ref a_o_letters, .ref a_o_numbers, .int (o_orders), .int (o_spot), .int (o_wrongAt), .long (o_hash)])), (a_o_now, .inl (cI, 52, .inl (o_now)))] [(a_o, .inr (6, [.ref a_o_now, .ref a_o_aside, .ref a_o_past, .int (o_states), .ref a_o_refusals, .ref a_o_text, .int (o_bytes), .ref a_o_tried, .int (o_triedMany), .ref a_o_shuffled, .ref a_o_letters, .ref a_o_numbers, .int (o_orders), .int (o_spot), .int (o_wrongAt), .long (o_hash)])), (a_o_now, .inl (cI, 52, .inl (o_now')))] (some (.int r0)) := by
  refine Met.ofW (cc := cX7_putLaid) (maxL := 2) (ret := (some .int)) (by decide) rfl ?_
  intro p e s m args below meth c s₁ B hml hv
  obtain ⟨rfl, hP, hK, hD0⟩ := hv
  have hx := B.exec
  have hb := B.bytes
  have hr := B.returns
  have hts : ∀ w ∈ GW, w.before _ s = true := fun w hw => atoms_spec (ws := mws yX7_putLaid cX7_putLaid 2 (some .int)) B.pre w (List.mem_cons_of_mem _ hw)
  have hown : s.vm.findClass RX7 = some m.cls := findClass_of_methodNamed B.named
  have hlocks := B.notSynchronized
  have hD := inW_self hD0
  generalize hAe : inW [(a_o, .inr (6, [.ref a_o_now, .ref a_o_aside, .ref a_o_past, .int (o_states), .ref a_o_refusals, .ref a_o_text, .int (o_bytes), .ref a_o_tried, .int (o_triedMany), .ref a_o_shuffled, .ref a_o_letters, .ref a_o_numbers, .int (o_orders), .int (o_spot), .int (o_wrongAt), .long (o_hash)])), (a_o_now, .inl (cI, 52, .inl (o_now)))] = A at hD ⊢
  have hS : va_S A s.heap s.heap [] := va_S.rf
  have hl := lv_entry ([.ref a_o, .int x1]) (n := 2) (Nat.le_of_ble_eq_true rfl)
  rw [lg_entry_eq]
  generalize (lg_sl ([.ref a_o, .int x1]) ++ List.replicate (2 - (lg_sl ([.ref a_o, .int x1])).length) Slot.unset).toArray = ls at hl ⊢
  have hl : lv_has ls 2 [(0, .ref a_o), (1, .int x1)] := hl
  have S : CallFix p m c cX7_putLaid 2 s _ GW RX7 := ⟨hx, hb, hml, hown, hts⟩
  unfold f_X7_putLaid at h
  refine lv_aload_n hx hb dX7_putLaid_0 rfl (lv_at hl 0 rfl) ?_
  refine lv_iload_n hx hb dX7_putLaid_1 rfl (lv_at hl 1 rfl) ?_
  obtain ⟨r1, hc2, h⟩ := bd1_use h
  refine ro_V (As := [.int x1]) (rest := []) S (c_X7_isTest l D cI cS a_o a_o_now a_o_aside a_o_past a_o_refusals a_o_text a_o_tried a_o_shuffled a_o_letters a_o_numbers o_states o_bytes o_triedMany o_orders o_spot o_wrongAt o_hash o_now x1 r1 hc2) (cwV1 hts cvX7_isTest wmX7_100 rfl rfl ⟨(Nat.le_of_ble_eq_true rfl), (Nat.le_of_ble_eq_true rfl)⟩) hK hP [0, 1] rfl 0 rfl rfl rfl rfl hl.1 rfl (Nat.le_of_ble_eq_true rfl) dX7_putLaid_2 ⟨Nat.zero_le _, Nat.zero_le _⟩ rfl ?_
  refine lv_if_ne (tgt := 11) hx hb dX7_putLaid_5 (by decide) (fun c3 => ?_) (fun c3 => ?_)
  · have h := it_f c3 h
    refine lv_aload_n hx hb dX7_putLaid_11 rfl (lv_at hl 0 rfl) ?_
    refine lv_iload_n hx hb dX7_putLaid_12 rfl (lv_at hl 1 rfl) ?_
    obtain ⟨r4, hc5, h⟩ := bd1_use h
    refine ro_V (As := [.int x1]) (rest := []) S (c_X7_placeOf l D cI cS a_o a_o_now a_o_aside a_o_past a_o_refusals a_o_text a_o_tried a_o_shuffled a_o_letters a_o_numbers o_states o_bytes o_triedMany o_orders o_spot o_wrongAt o_hash o_now x1 r4 hc5) (cwV1 hts cvX7_placeOf wmX7_93 rfl rfl ⟨(Nat.le_of_ble_eq_true rfl), (Nat.le_of_ble_eq_true rfl)⟩) hK hP [0, 1] rfl 0 rfl rfl rfl rfl hl.1 rfl (Nat.le_of_ble_eq_true rfl) dX7_putLaid_13 ⟨Nat.zero_le _, Nat.zero_le _⟩ rfl ?_
    refine lv_iconst (v := (-1 : Int32)) hx hb dX7_putLaid_16 (by decide) ?_
    refine lv_icmp_eq (tgt := 23) hx hb dX7_putLaid_17 (by decide) (fun c6 => ?_) (fun c6 => ?_)
    · have h := it_t c6 h
      refine lv_aload_n hx hb dX7_putLaid_23 rfl (lv_at hl 0 rfl) ?_
      refine gfX7_0 hx hb hts hown hK hP 0 rfl wfX7_7 dX7_putLaid_24 ?_
      refine lv_iconst (v := (4 : Int32)) hx hb dX7_putLaid_27 (by decide) ?_
      refine lv_aload_n hx hb dX7_putLaid_28 rfl (lv_at hl 0 rfl) ?_
      refine gfX7_0 hx hb hts hown hK hP 0 rfl wfX7_7 dX7_putLaid_29 ?_
      refine lv_iconst (v := (3 : Int32)) hx hb dX7_putLaid_32 (by decide) ?_
      obtain ⟨hi8, h⟩ := rd_use h
      refine ia_ hx hb hK hP 1 rfl hi8 dX7_putLaid_33 ?_
      refine lv_iadd hx hb dX7_putLaid_34 ?_
      refine lv_iload_n hx hb dX7_putLaid_35 rfl (lv_at hl 1 rfl) ?_
      obtain ⟨hi10, h⟩ := wr_use h
      refine is_ (ws' := [(a_o, .inr (6, [.ref a_o_now, .ref a_o_aside, .ref a_o_past, .int (o_states), .ref a_o_refusals, .ref a_o_text, .int (o_bytes), .ref a_o_tried, .int (o_triedMany), .ref a_o_shuffled, .ref a_o_letters, .ref a_o_numbers, .int (o_orders), .int (o_spot), .int (o_wrongAt), .long (o_hash)])), (a_o_now, .inl (cI, 52, .inl ((upd o_now ((4 : Int32) + (o_now (3 : Int32).toNatClampNeg)).toNatClampNeg x1))))]) hx hb hK hP hD hS 1 rfl rfl hi10 dX7_putLaid_36 (fun H locs hP hD hS => ?_)
      refine lv_aload_n hx hb dX7_putLaid_37 rfl (lv_at hl 0 rfl) ?_
      refine gfX7_0 hx hb hts hown hK hP 0 rfl wfX7_7 dX7_putLaid_38 ?_
      refine lv_iconst (v := (3 : Int32)) hx hb dX7_putLaid_41 (by decide) ?_
      refine lv_dup2_11 hx hb dX7_putLaid_42 rfl rfl ?_
      obtain ⟨hi12, h⟩ := rd_use h
      refine ia_ hx hb hK hP 1 rfl hi12 dX7_putLaid_43 ?_
      refine lv_iconst (v := (1 : Int32)) hx hb dX7_putLaid_44 (by decide) ?_
      refine lv_iadd hx hb dX7_putLaid_45 ?_
      obtain ⟨hi14, h⟩ := wr_use h
      refine is_ (ws' := [(a_o, .inr (6, [.ref a_o_now, .ref a_o_aside, .ref a_o_past, .int (o_states), .ref a_o_refusals, .ref a_o_text, .int (o_bytes), .ref a_o_tried, .int (o_triedMany), .ref a_o_shuffled, .ref a_o_letters, .ref a_o_numbers, .int (o_orders), .int (o_spot), .int (o_wrongAt), .long (o_hash)])), (a_o_now, .inl (cI, 52, .inl ((upd (upd o_now ((4 : Int32) + (o_now (3 : Int32).toNatClampNeg)).toNatClampNeg x1) (3 : Int32).toNatClampNeg (((upd o_now ((4 : Int32) + (o_now (3 : Int32).toNatClampNeg)).toNatClampNeg x1) (3 : Int32).toNatClampNeg) + (1 : Int32))))))]) hx hb hK hP hD hS 1 rfl rfl hi14 dX7_putLaid_46 (fun H locs hP hD hS => ?_)
      refine lv_aload_n hx hb dX7_putLaid_47 rfl (lv_at hl 0 rfl) ?_
      refine gfX7_0 hx hb hts hown hK hP 0 rfl wfX7_7 dX7_putLaid_48 ?_
      refine lv_iconst (v := (3 : Int32)) hx hb dX7_putLaid_51 (by decide) ?_
      obtain ⟨hi16, h⟩ := rd_use h
      refine ia_ hx hb hK hP 1 rfl hi16 dX7_putLaid_52 ?_
      cases h
      exact W.iret hx hb hr (fun t ht _ => ⟨rfl, by rw [ht]; exact hP, hS.F ht⟩) hS.2.2 dX7_putLaid_53
    · have h := it_f c6 h
      refine lv_bipush (v := (-3 : Int32)) hx hb dX7_putLaid_20 (by decide) ?_
      cases h
      exact W.iret hx hb hr (fun t ht _ => ⟨rfl, by rw [ht]; exact hP, hS.F ht⟩) hS.2.2 dX7_putLaid_22
  · have h := it_t c3 h
    refine lv_bipush (v := (-2 : Int32)) hx hb dX7_putLaid_8 (by decide) ?_
    cases h
    exact W.iret hx hb hr (fun t ht _ => ⟨rfl, by rw [ht]; exact hP, hS.F ht⟩) hS.2.2 dX7_putLaid_10
def f_X7_putWiped (o_now : Ar) : Option (Int32 × Ar) := rd o_now 52 (3 : Int32) (fun rv1 => wr o_now 52 (3 : Int32) (0 : Int32) (fun fv3 => some (rv1, fv3)))
set_option maxHeartbeats 4000000 in
set_option maxRecDepth 100000 in
theorem c_X7_putWiped (l : Launch) (D : va_G) (cI cS : ClassId) (a_o : Nat) (a_o_now : Nat) (a_o_aside : Nat) (a_o_past : Nat) (a_o_refusals : Nat) (a_o_text : Nat) (a_o_tried : Nat) (a_o_shuffled : Nat) (a_o_letters : Nat) (a_o_numbers : Nat) (o_states : Int32) (o_bytes : Int32) (o_triedMany : Int32) (o_orders : Int32) (o_spot : Int32) (o_wrongAt : Int32) (o_hash : Int64) (o_now : Ar) (r0 : Int32) (o_now' : Ar) (h : f_X7_putWiped o_now = some (r0, o_now')) : wrM l D cI cS yX7_putWiped cX7_putWiped 2 (some .int) 0 0 [.ref a_o] [(a_o, .inr (6, [.ref a_o_now, .ref a_o_aside, .ref a_o_past, .int (o_states), .ref a_o_refusals, .ref a_o_text, .int (o_bytes), .ref a_o_tried, .int (o_triedMany), .ref a_o_shuffled, .ref a_o_letters, .ref a_o_numbers, .int (o_orders), .int (o_spot), .int (o_wrongAt), .long (o_hash)])), (a_o_now, .inl (cI, 52, .inl (o_now)))] [(a_o, .inr (6, [.ref a_o_now, .ref a_o_aside, .ref a_o_past, .int (o_states), .ref a_o_refusals, .ref a_o_text, .int (o_bytes), .ref a_o_tried, .int (o_triedMany), .ref a_o_shuffled, .ref a_o_letters, .ref a_o_numbers, .int (o_orders), .int (o_spot), .int (o_wrongAt), .long (o_hash)])), (a_o_now, .inl (cI, 52, .inl (o_now')))] (some (.int r0)) := by
  refine Met.ofW (cc := cX7_putWiped) (maxL := 2) (ret := (some .int)) (by decide) rfl ?_
  intro p e s m args below meth c s₁ B hml hv
  obtain ⟨rfl, hP, hK, hD0⟩ := hv
  have hx := B.exec
  have hb := B.bytes
  have hr := B.returns
  have hts : ∀ w ∈ GW, w.before _ s = true := fun w hw => atoms_spec (ws := mws yX7_putWiped cX7_putWiped 2 (some .int)) B.pre w (List.mem_cons_of_mem _ hw)
  have hown : s.vm.findClass RX7 = some m.cls := findClass_of_methodNamed B.named
  have hlocks := B.notSynchronized
  have hD := inW_self hD0
  generalize hAe : inW [(a_o, .inr (6, [.ref a_o_now, .ref a_o_aside, .ref a_o_past, .int (o_states), .ref a_o_refusals, .ref a_o_text, .int (o_bytes), .ref a_o_tried, .int (o_triedMany), .ref a_o_shuffled, .ref a_o_letters, .ref a_o_numbers, .int (o_orders), .int (o_spot), .int (o_wrongAt), .long (o_hash)])), (a_o_now, .inl (cI, 52, .inl (o_now)))] = A at hD ⊢
  have hS : va_S A s.heap s.heap [] := va_S.rf
  have hl := lv_entry ([.ref a_o]) (n := 2) (Nat.le_of_ble_eq_true rfl)
  rw [lg_entry_eq]
  generalize (lg_sl ([.ref a_o]) ++ List.replicate (2 - (lg_sl ([.ref a_o])).length) Slot.unset).toArray = ls at hl ⊢
  have hl : lv_has ls 2 [(0, .ref a_o)] := hl
  have S : CallFix p m c cX7_putWiped 2 s _ GW RX7 := ⟨hx, hb, hml, hown, hts⟩
  unfold f_X7_putWiped at h
  refine lv_aload_n hx hb dX7_putWiped_0 rfl (lv_at hl 0 rfl) ?_
  refine gfX7_0 hx hb hts hown hK hP 0 rfl wfX7_7 dX7_putWiped_1 ?_
  refine lv_iconst (v := (3 : Int32)) hx hb dX7_putWiped_4 (by decide) ?_
  obtain ⟨hi2, h⟩ := rd_use h
  refine ia_ hx hb hK hP 1 rfl hi2 dX7_putWiped_5 ?_
  refine lv_istore_n (lv' := [(1, .int (o_now (3 : Int32).toNatClampNeg)), (0, .ref a_o)]) hx hb dX7_putWiped_6 rfl hl (by decide) rfl (fun ls hl => ?_)
  refine lv_aload_n hx hb dX7_putWiped_7 rfl (lv_at hl 1 rfl) ?_
  refine gfX7_0 hx hb hts hown hK hP 0 rfl wfX7_7 dX7_putWiped_8 ?_
  refine lv_iconst (v := (3 : Int32)) hx hb dX7_putWiped_11 (by decide) ?_
  refine lv_iconst (v := (0 : Int32)) hx hb dX7_putWiped_12 (by decide) ?_
  obtain ⟨hi4, h⟩ := wr_use h
  refine is_ (ws' := [(a_o, .inr (6, [.ref a_o_now, .ref a_o_aside, .ref a_o_past, .int (o_states), .ref a_o_refusals, .ref a_o_text, .int (o_bytes), .ref a_o_tried, .int (o_triedMany), .ref a_o_shuffled, .ref a_o_letters, .ref a_o_numbers, .int (o_orders), .int (o_spot), .int (o_wrongAt), .long (o_hash)])), (a_o_now, .inl (cI, 52, .inl ((upd o_now (3 : Int32).toNatClampNeg (0 : Int32)))))]) hx hb hK hP hD hS 1 rfl rfl hi4 dX7_putWiped_13 (fun H locs hP hD hS => ?_)
  refine lv_iload_n hx hb dX7_putWiped_14 rfl (lv_at hl 0 rfl) ?_
  cases h
  exact W.iret hx hb hr (fun t ht _ => ⟨rfl, by rw [ht]; exact hP, hS.F ht⟩) hS.2.2 dX7_putWiped_15
def f_X7_doneOne (o_now : Ar) (o_letters : Ar) (o_numbers : Ar) (x1 : Int32) : Option (Int32 × Ar) := nm ((5 : Int32) * x1) (fun y1 => rd o_numbers 375 y1 (fun rv2 => rd o_letters 75 x1 (fun rv4 => (if rv4 = (109 : Int32) then bd2 (f_X7_change o_now (2 : Int32) rv2 (1 : Int32)) (fun r58 w59 => some (r58, w59)) else (if rv4 = (110 : Int32) then bd2 (f_X7_putCut o_now) (fun r55 w56 => some (r55, w56)) else (if rv4 = (111 : Int32) then bd2 (f_X7_putCut o_now) (fun r52 w53 => some (r52, w53)) else (if rv4 = (112 : Int32) then bd2 (f_X7_putCut o_now) (fun r49 w50 => some (r49, w50)) else (if rv4 = (113 : Int32) then bd2 (f_X7_putCut o_now) (fun r46 w47 => some (r46, w47)) else (if rv4 = (114 : Int32) then bd2 (f_X7_putLaid o_now rv2) (fun r43 w44 => some (r43, w44)) else (if rv4 = (115 : Int32) then bd2 (f_X7_change o_now (1 : Int32) rv2 (63 : Int32)) (fun r40 w41 => some (r40, w41)) else (if rv4 = (116 : Int32) then rd o_numbers 375 (y1 + (1 : Int32)) (fun rv29 => rd o_numbers 375 (y1 + (2 : Int32)) (fun rv31 => rd o_numbers 375 (y1 + (3 : Int32)) (fun rv33 => rd o_numbers 375 (y1 + (4 : Int32)) (fun rv35 => bd2 (f_X7_putTest o_now rv2 rv29 rv31 rv33 rv35) (fun r37 w38 => some (r37, w38)))))) else (if rv4 = (117 : Int32) then bd2 (f_X7_putCut o_now) (fun r26 w27 => some (r26, w27)) else (if rv4 = (118 : Int32) then bd2 (f_X7_putCut o_now) (fun r23 w24 => some (r23, w24)) else (if rv4 = (119 : Int32) then bd2 (f_X7_putWiped o_now) (fun r20 w21 => some (r20, w21)) else bd2 (f_X7_putCut o_now) (fun r6 w7 => some (r6, w7))))))))))))))))
set_option maxHeartbeats 4000000 in
set_option maxRecDepth 100000 in
theorem c_X7_doneOne (l : Launch) (D : va_G) (cI cS : ClassId) (a_o : Nat) (a_o_now : Nat) (a_o_letters : Nat) (a_o_numbers : Nat) (a_o_aside : Nat) (a_o_past : Nat) (a_o_refusals : Nat) (a_o_text : Nat) (a_o_tried : Nat) (a_o_shuffled : Nat) (o_states : Int32) (o_bytes : Int32) (o_triedMany : Int32) (o_orders : Int32) (o_spot : Int32) (o_wrongAt : Int32) (o_hash : Int64) (o_now : Ar) (o_letters : Ar) (o_numbers : Ar) (x1 : Int32) (r0 : Int32) (o_now' : Ar) (h : f_X7_doneOne o_now o_letters o_numbers x1 = some (r0, o_now')) : wrM l D cI cS yX7_doneOne cX7_doneOne 4 (some .int) 3 64 [.ref a_o, .int x1] [(a_o, .inr (6, [.ref a_o_now, .ref a_o_aside, .ref a_o_past, .int (o_states), .ref a_o_refusals, .ref a_o_text, .int (o_bytes), .ref a_o_tried, .int (o_triedMany), .ref a_o_shuffled, .ref a_o_letters, .ref a_o_numbers, .int (o_orders), .int (o_spot), .int (o_wrongAt), .long (o_hash)])), (a_o_now, .inl (cI, 52, .inl (o_now))), (a_o_letters, .inl (cI, 75, .inl (o_letters))), (a_o_numbers, .inl (cI, 375, .inl (o_numbers)))] [(a_o, .inr (6, [.ref a_o_now, .ref a_o_aside, .ref a_o_past, .int (o_states), .ref a_o_refusals, .ref a_o_text, .int (o_bytes), .ref a_o_tried, .int (o_triedMany), .ref a_o_shuffled, .ref a_o_letters, .ref a_o_numbers, .int (o_orders), .int (o_spot), .int (o_wrongAt), .long (o_hash)])), (a_o_now, .inl (cI, 52, .inl (o_now'))), (a_o_letters, .inl (cI, 75, .inl (o_letters))), (a_o_numbers, .inl (cI, 375, .inl (o_numbers)))] (some (.int r0)) := by
  refine Met.ofW (cc := cX7_doneOne) (maxL := 4) (ret := (some .int)) (by decide) rfl ?_
  intro p e s m args below meth c s₁ B hml hv
  obtain ⟨rfl, hP, hK, hD0⟩ := hv
  have hx := B.exec
  have hb := B.bytes
  have hr := B.returns
  have hts : ∀ w ∈ GW, w.before _ s = true := fun w hw => atoms_spec (ws := mws yX7_doneOne cX7_doneOne 4 (some .int)) B.pre w (List.mem_cons_of_mem _ hw)
  have hown : s.vm.findClass RX7 = some m.cls := findClass_of_methodNamed B.named
  have hlocks := B.notSynchronized
  have hD := inW_self hD0
  generalize hAe : inW [(a_o, .inr (6, [.ref a_o_now, .ref a_o_aside, .ref a_o_past, .int (o_states), .ref a_o_refusals, .ref a_o_text, .int (o_bytes), .ref a_o_tried, .int (o_triedMany), .ref a_o_shuffled, .ref a_o_letters, .ref a_o_numbers, .int (o_orders), .int (o_spot), .int (o_wrongAt), .long (o_hash)])), (a_o_now, .inl (cI, 52, .inl (o_now))), (a_o_letters, .inl (cI, 75, .inl (o_letters))), (a_o_numbers, .inl (cI, 375, .inl (o_numbers)))] = A at hD ⊢
  have hS : va_S A s.heap s.heap [] := va_S.rf
  have hl := lv_entry ([.ref a_o, .int x1]) (n := 4) (Nat.le_of_ble_eq_true rfl)
  rw [lg_entry_eq]
  generalize (lg_sl ([.ref a_o, .int x1]) ++ List.replicate (4 - (lg_sl ([.ref a_o, .int x1])).length) Slot.unset).toArray = ls at hl ⊢
  have hl : lv_has ls 4 [(0, .ref a_o), (1, .int x1)] := hl
  have S : CallFix p m c cX7_doneOne 4 s _ GW RX7 := ⟨hx, hb, hml, hown, hts⟩
  unfold f_X7_doneOne at h
  refine lv_iconst (v := (5 : Int32)) hx hb dX7_doneOne_0 (by decide) ?_
  refine lv_iload_n hx hb dX7_doneOne_1 rfl (lv_at hl 1 rfl) ?_
  refine lv_imul hx hb dX7_doneOne_2 ?_
  refine lv_topi (fun y1 ey1 => ?_)
  have h := nm_use h ey1
  refine lv_istore_n (lv' := [(2, .int y1), (0, .ref a_o), (1, .int x1)]) hx hb dX7_doneOne_3 rfl hl (by decide) rfl (fun ls hl => ?_)
  refine lv_aload_n hx hb dX7_doneOne_4 rfl (lv_at hl 1 rfl) ?_
  refine gfX7_11 hx hb hts hown hK hP 0 rfl wfX7_34 dX7_doneOne_5 ?_
  refine lv_iload_n hx hb dX7_doneOne_8 rfl (lv_at hl 0 rfl) ?_
  obtain ⟨hi3, h⟩ := rd_use h
  refine ia_ hx hb hK hP 3 rfl hi3 dX7_doneOne_9 ?_
  refine lv_istore_n (lv' := [(3, .int (o_numbers y1.toNatClampNeg)), (2, .int y1), (0, .ref a_o), (1, .int x1)]) hx hb dX7_doneOne_10 rfl hl (by decide) rfl (fun ls hl => ?_)
  refine lv_aload_n hx hb dX7_doneOne_11 rfl (lv_at hl 2 rfl) ?_
  refine gfX7_10 hx hb hts hown hK hP 0 rfl wfX7_31 dX7_doneOne_12 ?_
  refine lv_iload_n hx hb dX7_doneOne_15 rfl (lv_at hl 3 rfl) ?_
  obtain ⟨hi5, h⟩ := rd_use h
  refine ia_ hx hb hK hP 2 rfl hi5 dX7_doneOne_16 ?_
  by_cases c9 : (o_letters x1.toNatClampNeg) = (109 : Int32)
  · have h := it_t c9 h
    refine lv_tableIn (off := 117) (tgt := 134) hx hb dX7_doneOne_17 (by rw [c9]; decide) (by rw [c9]; decide) (by rw [c9]; rfl) (by decide) ?_
    refine lv_aload_n hx hb dX7_doneOne_134 rfl (lv_at hl 2 rfl) ?_
    refine lv_iconst (v := (2 : Int32)) hx hb dX7_doneOne_135 (by decide) ?_
    refine lv_iload_n hx hb dX7_doneOne_136 rfl (lv_at hl 0 rfl) ?_
    refine lv_iconst (v := (1 : Int32)) hx hb dX7_doneOne_137 (by decide) ?_
    obtain ⟨r58, w59, hc60, h⟩ := bd2_use h
    refine wr_V (As := [.int (2 : Int32), .int (o_numbers y1.toNatClampNeg), .int (1 : Int32)]) (rest := []) (ws' := [(a_o, .inr (6, [.ref a_o_now, .ref a_o_aside, .ref a_o_past, .int (o_states), .ref a_o_refusals, .ref a_o_text, .int (o_bytes), .ref a_o_tried, .int (o_triedMany), .ref a_o_shuffled, .ref a_o_letters, .ref a_o_numbers, .int (o_orders), .int (o_spot), .int (o_wrongAt), .long (o_hash)])), (a_o_now, .inl (cI, 52, .inl (w59))), (a_o_letters, .inl (cI, 75, .inl (o_letters))), (a_o_numbers, .inl (cI, 375, .inl (o_numbers)))]) S (c_X7_change l D cI cS a_o a_o_now a_o_aside a_o_past a_o_refusals a_o_text a_o_tried a_o_shuffled a_o_letters a_o_numbers o_states o_bytes o_triedMany o_orders o_spot o_wrongAt o_hash o_now (2 : Int32) (o_numbers y1.toNatClampNeg) (1 : Int32) r58 w59 hc60) (cwV1 hts cvX7_change wmX7_140 rfl rfl ⟨(Nat.le_of_ble_eq_true rfl), (Nat.le_of_ble_eq_true rfl)⟩) hK hP hD hS [0, 1] rfl rfl [(true, 0), (true, 1), (false, 2), (false, 3)] rfl rfl rfl 0 rfl rfl rfl rfl hl.1 rfl (Nat.le_of_ble_eq_true rfl) dX7_doneOne_138 ⟨Nat.zero_le _, Nat.zero_le _⟩ rfl (fun H locs hP hD hS => ?_)
    cases h
    exact W.iret hx hb hr (fun t ht _ => ⟨rfl, by rw [ht]; exact hP, hS.F ht⟩) hS.2.2 dX7_doneOne_141
  · have h := it_f c9 h
    by_cases c10 : (o_letters x1.toNatClampNeg) = (110 : Int32)
    · have h := it_t c10 h
      refine lv_tableIn (off := 125) (tgt := 142) hx hb dX7_doneOne_17 (by rw [c10]; decide) (by rw [c10]; decide) (by rw [c10]; rfl) (by decide) ?_
      refine lv_aload_n hx hb dX7_doneOne_142 rfl (lv_at hl 2 rfl) ?_
      obtain ⟨r55, w56, hc57, h⟩ := bd2_use h
      refine wr_V (As := []) (rest := []) (ws' := [(a_o, .inr (6, [.ref a_o_now, .ref a_o_aside, .ref a_o_past, .int (o_states), .ref a_o_refusals, .ref a_o_text, .int (o_bytes), .ref a_o_tried, .int (o_triedMany), .ref a_o_shuffled, .ref a_o_letters, .ref a_o_numbers, .int (o_orders), .int (o_spot), .int (o_wrongAt), .long (o_hash)])), (a_o_now, .inl (cI, 52, .inl (w56))), (a_o_letters, .inl (cI, 75, .inl (o_letters))), (a_o_numbers, .inl (cI, 375, .inl (o_numbers)))]) S (c_X7_putCut l D cI cS a_o a_o_now a_o_aside a_o_past a_o_refusals a_o_text a_o_tried a_o_shuffled a_o_letters a_o_numbers o_states o_bytes o_triedMany o_orders o_spot o_wrongAt o_hash o_now r55 w56 hc57) (cwV1 hts cvX7_putCut wmX7_131 rfl rfl ⟨(Nat.le_of_ble_eq_true rfl), (Nat.le_of_ble_eq_true rfl)⟩) hK hP hD hS [0, 1] rfl rfl [(true, 0), (true, 1), (false, 2), (false, 3)] rfl rfl rfl 0 rfl rfl rfl rfl hl.1 rfl (Nat.le_of_ble_eq_true rfl) dX7_doneOne_143 ⟨Nat.zero_le _, Nat.zero_le _⟩ rfl (fun H locs hP hD hS => ?_)
      cases h
      exact W.iret hx hb hr (fun t ht _ => ⟨rfl, by rw [ht]; exact hP, hS.F ht⟩) hS.2.2 dX7_doneOne_146
    · have h := it_f c10 h
      by_cases c11 : (o_letters x1.toNatClampNeg) = (111 : Int32)
      · have h := it_t c11 h
        refine lv_tableIn (off := 125) (tgt := 142) hx hb dX7_doneOne_17 (by rw [c11]; decide) (by rw [c11]; decide) (by rw [c11]; rfl) (by decide) ?_
        refine lv_aload_n hx hb dX7_doneOne_142 rfl (lv_at hl 2 rfl) ?_
        obtain ⟨r52, w53, hc54, h⟩ := bd2_use h
        refine wr_V (As := []) (rest := []) (ws' := [(a_o, .inr (6, [.ref a_o_now, .ref a_o_aside, .ref a_o_past, .int (o_states), .ref a_o_refusals, .ref a_o_text, .int (o_bytes), .ref a_o_tried, .int (o_triedMany), .ref a_o_shuffled, .ref a_o_letters, .ref a_o_numbers, .int (o_orders), .int (o_spot), .int (o_wrongAt), .long (o_hash)])), (a_o_now, .inl (cI, 52, .inl (w53))), (a_o_letters, .inl (cI, 75, .inl (o_letters))), (a_o_numbers, .inl (cI, 375, .inl (o_numbers)))]) S (c_X7_putCut l D cI cS a_o a_o_now a_o_aside a_o_past a_o_refusals a_o_text a_o_tried a_o_shuffled a_o_letters a_o_numbers o_states o_bytes o_triedMany o_orders o_spot o_wrongAt o_hash o_now r52 w53 hc54) (cwV1 hts cvX7_putCut wmX7_131 rfl rfl ⟨(Nat.le_of_ble_eq_true rfl), (Nat.le_of_ble_eq_true rfl)⟩) hK hP hD hS [0, 1] rfl rfl [(true, 0), (true, 1), (false, 2), (false, 3)] rfl rfl rfl 0 rfl rfl rfl rfl hl.1 rfl (Nat.le_of_ble_eq_true rfl) dX7_doneOne_143 ⟨Nat.zero_le _, Nat.zero_le _⟩ rfl (fun H locs hP hD hS => ?_)
        cases h
        exact W.iret hx hb hr (fun t ht _ => ⟨rfl, by rw [ht]; exact hP, hS.F ht⟩) hS.2.2 dX7_doneOne_146
      · have h := it_f c11 h
        by_cases c12 : (o_letters x1.toNatClampNeg) = (112 : Int32)
        · have h := it_t c12 h
          refine lv_tableIn (off := 125) (tgt := 142) hx hb dX7_doneOne_17 (by rw [c12]; decide) (by rw [c12]; decide) (by rw [c12]; rfl) (by decide) ?_
          refine lv_aload_n hx hb dX7_doneOne_142 rfl (lv_at hl 2 rfl) ?_
          obtain ⟨r49, w50, hc51, h⟩ := bd2_use h
          refine wr_V (As := []) (rest := []) (ws' := [(a_o, .inr (6, [.ref a_o_now, .ref a_o_aside, .ref a_o_past, .int (o_states), .ref a_o_refusals, .ref a_o_text, .int (o_bytes), .ref a_o_tried, .int (o_triedMany), .ref a_o_shuffled, .ref a_o_letters, .ref a_o_numbers, .int (o_orders), .int (o_spot), .int (o_wrongAt), .long (o_hash)])), (a_o_now, .inl (cI, 52, .inl (w50))), (a_o_letters, .inl (cI, 75, .inl (o_letters))), (a_o_numbers, .inl (cI, 375, .inl (o_numbers)))]) S (c_X7_putCut l D cI cS a_o a_o_now a_o_aside a_o_past a_o_refusals a_o_text a_o_tried a_o_shuffled a_o_letters a_o_numbers o_states o_bytes o_triedMany o_orders o_spot o_wrongAt o_hash o_now r49 w50 hc51) (cwV1 hts cvX7_putCut wmX7_131 rfl rfl ⟨(Nat.le_of_ble_eq_true rfl), (Nat.le_of_ble_eq_true rfl)⟩) hK hP hD hS [0, 1] rfl rfl [(true, 0), (true, 1), (false, 2), (false, 3)] rfl rfl rfl 0 rfl rfl rfl rfl hl.1 rfl (Nat.le_of_ble_eq_true rfl) dX7_doneOne_143 ⟨Nat.zero_le _, Nat.zero_le _⟩ rfl (fun H locs hP hD hS => ?_)
          cases h
          exact W.iret hx hb hr (fun t ht _ => ⟨rfl, by rw [ht]; exact hP, hS.F ht⟩) hS.2.2 dX7_doneOne_146
        · have h := it_f c12 h
          by_cases c13 : (o_letters x1.toNatClampNeg) = (113 : Int32)
          · have h := it_t c13 h
            refine lv_tableIn (off := 125) (tgt := 142) hx hb dX7_doneOne_17 (by rw [c13]; decide) (by rw [c13]; decide) (by rw [c13]; rfl) (by decide) ?_
            refine lv_aload_n hx hb dX7_doneOne_142 rfl (lv_at hl 2 rfl) ?_
            obtain ⟨r46, w47, hc48, h⟩ := bd2_use h
            refine wr_V (As := []) (rest := []) (ws' := [(a_o, .inr (6, [.ref a_o_now, .ref a_o_aside, .ref a_o_past, .int (o_states), .ref a_o_refusals, .ref a_o_text, .int (o_bytes), .ref a_o_tried, .int (o_triedMany), .ref a_o_shuffled, .ref a_o_letters, .ref a_o_numbers, .int (o_orders), .int (o_spot), .int (o_wrongAt), .long (o_hash)])), (a_o_now, .inl (cI, 52, .inl (w47))), (a_o_letters, .inl (cI, 75, .inl (o_letters))), (a_o_numbers, .inl (cI, 375, .inl (o_numbers)))]) S (c_X7_putCut l D cI cS a_o a_o_now a_o_aside a_o_past a_o_refusals a_o_text a_o_tried a_o_shuffled a_o_letters a_o_numbers o_states o_bytes o_triedMany o_orders o_spot o_wrongAt o_hash o_now r46 w47 hc48) (cwV1 hts cvX7_putCut wmX7_131 rfl rfl ⟨(Nat.le_of_ble_eq_true rfl), (Nat.le_of_ble_eq_true rfl)⟩) hK hP hD hS [0, 1] rfl rfl [(true, 0), (true, 1), (false, 2), (false, 3)] rfl rfl rfl 0 rfl rfl rfl rfl hl.1 rfl (Nat.le_of_ble_eq_true rfl) dX7_doneOne_143 ⟨Nat.zero_le _, Nat.zero_le _⟩ rfl (fun H locs hP hD hS => ?_)
            cases h
            exact W.iret hx hb hr (fun t ht _ => ⟨rfl, by rw [ht]; exact hP, hS.F ht⟩) hS.2.2 dX7_doneOne_146
          · have h := it_f c13 h
            by_cases c14 : (o_letters x1.toNatClampNeg) = (114 : Int32)
            · have h := it_t c14 h
              refine lv_tableIn (off := 97) (tgt := 114) hx hb dX7_doneOne_17 (by rw [c14]; decide) (by rw [c14]; decide) (by rw [c14]; rfl) (by decide) ?_
              refine lv_aload_n hx hb dX7_doneOne_114 rfl (lv_at hl 2 rfl) ?_
              refine lv_iload_n hx hb dX7_doneOne_115 rfl (lv_at hl 0 rfl) ?_
              obtain ⟨r43, w44, hc45, h⟩ := bd2_use h
              refine wr_V (As := [.int (o_numbers y1.toNatClampNeg)]) (rest := []) (ws' := [(a_o, .inr (6, [.ref a_o_now, .ref a_o_aside, .ref a_o_past, .int (o_states), .ref a_o_refusals, .ref a_o_text, .int (o_bytes), .ref a_o_tried, .int (o_triedMany), .ref a_o_shuffled, .ref a_o_letters, .ref a_o_numbers, .int (o_orders), .int (o_spot), .int (o_wrongAt), .long (o_hash)])), (a_o_now, .inl (cI, 52, .inl (w44))), (a_o_letters, .inl (cI, 75, .inl (o_letters))), (a_o_numbers, .inl (cI, 375, .inl (o_numbers)))]) S (c_X7_putLaid l D cI cS a_o a_o_now a_o_aside a_o_past a_o_refusals a_o_text a_o_tried a_o_shuffled a_o_letters a_o_numbers o_states o_bytes o_triedMany o_orders o_spot o_wrongAt o_hash o_now (o_numbers y1.toNatClampNeg) r43 w44 hc45) (cwV1 hts cvX7_putLaid wmX7_134 rfl rfl ⟨(Nat.le_of_ble_eq_true rfl), (Nat.le_of_ble_eq_true rfl)⟩) hK hP hD hS [0, 1] rfl rfl [(true, 0), (true, 1), (false, 2), (false, 3)] rfl rfl rfl 0 rfl rfl rfl rfl hl.1 rfl (Nat.le_of_ble_eq_true rfl) dX7_doneOne_116 ⟨Nat.zero_le _, Nat.zero_le _⟩ rfl (fun H locs hP hD hS => ?_)
              cases h
              exact W.iret hx hb hr (fun t ht _ => ⟨rfl, by rw [ht]; exact hP, hS.F ht⟩) hS.2.2 dX7_doneOne_119
            · have h := it_f c14 h
              by_cases c15 : (o_letters x1.toNatClampNeg) = (115 : Int32)
              · have h := it_t c15 h
                refine lv_tableIn (off := 108) (tgt := 125) hx hb dX7_doneOne_17 (by rw [c15]; decide) (by rw [c15]; decide) (by rw [c15]; rfl) (by decide) ?_
                refine lv_aload_n hx hb dX7_doneOne_125 rfl (lv_at hl 2 rfl) ?_
                refine lv_iconst (v := (1 : Int32)) hx hb dX7_doneOne_126 (by decide) ?_
                refine lv_iload_n hx hb dX7_doneOne_127 rfl (lv_at hl 0 rfl) ?_
                refine lv_bipush (v := (63 : Int32)) hx hb dX7_doneOne_128 (by decide) ?_
                obtain ⟨r40, w41, hc42, h⟩ := bd2_use h
                refine wr_V (As := [.int (1 : Int32), .int (o_numbers y1.toNatClampNeg), .int (63 : Int32)]) (rest := []) (ws' := [(a_o, .inr (6, [.ref a_o_now, .ref a_o_aside, .ref a_o_past, .int (o_states), .ref a_o_refusals, .ref a_o_text, .int (o_bytes), .ref a_o_tried, .int (o_triedMany), .ref a_o_shuffled, .ref a_o_letters, .ref a_o_numbers, .int (o_orders), .int (o_spot), .int (o_wrongAt), .long (o_hash)])), (a_o_now, .inl (cI, 52, .inl (w41))), (a_o_letters, .inl (cI, 75, .inl (o_letters))), (a_o_numbers, .inl (cI, 375, .inl (o_numbers)))]) S (c_X7_change l D cI cS a_o a_o_now a_o_aside a_o_past a_o_refusals a_o_text a_o_tried a_o_shuffled a_o_letters a_o_numbers o_states o_bytes o_triedMany o_orders o_spot o_wrongAt o_hash o_now (1 : Int32) (o_numbers y1.toNatClampNeg) (63 : Int32) r40 w41 hc42) (cwV1 hts cvX7_change wmX7_140 rfl rfl ⟨(Nat.le_of_ble_eq_true rfl), (Nat.le_of_ble_eq_true rfl)⟩) hK hP hD hS [0, 1] rfl rfl [(true, 0), (true, 1), (false, 2), (false, 3)] rfl rfl rfl 0 rfl rfl rfl rfl hl.1 rfl (Nat.le_of_ble_eq_true rfl) dX7_doneOne_130 ⟨Nat.zero_le _, Nat.zero_le _⟩ rfl (fun H locs hP hD hS => ?_)
                cases h
                exact W.iret hx hb hr (fun t ht _ => ⟨rfl, by rw [ht]; exact hP, hS.F ht⟩) hS.2.2 dX7_doneOne_133
              · have h := it_f c15 h
                by_cases c16 : (o_letters x1.toNatClampNeg) = (116 : Int32)
                · have h := it_t c16 h
                  refine lv_tableIn (off := 59) (tgt := 76) hx hb dX7_doneOne_17 (by rw [c16]; decide) (by rw [c16]; decide) (by rw [c16]; rfl) (by decide) ?_
                  refine lv_aload_n hx hb dX7_doneOne_76 rfl (lv_at hl 2 rfl) ?_
                  refine lv_iload_n hx hb dX7_doneOne_77 rfl (lv_at hl 0 rfl) ?_
                  refine lv_aload_n hx hb dX7_doneOne_78 rfl (lv_at hl 2 rfl) ?_
                  refine gfX7_11 hx hb hts hown hK hP 0 rfl wfX7_34 dX7_doneOne_79 ?_
                  refine lv_iload_n hx hb dX7_doneOne_82 rfl (lv_at hl 1 rfl) ?_
                  refine lv_iconst (v := (1 : Int32)) hx hb dX7_doneOne_83 (by decide) ?_
                  refine lv_iadd hx hb dX7_doneOne_84 ?_
                  obtain ⟨hi30, h⟩ := rd_use h
                  refine ia_ hx hb hK hP 3 rfl hi30 dX7_doneOne_85 ?_
                  refine lv_aload_n hx hb dX7_doneOne_86 rfl (lv_at hl 2 rfl) ?_
                  refine gfX7_11 hx hb hts hown hK hP 0 rfl wfX7_34 dX7_doneOne_87 ?_
                  refine lv_iload_n hx hb dX7_doneOne_90 rfl (lv_at hl 1 rfl) ?_
                  refine lv_iconst (v := (2 : Int32)) hx hb dX7_doneOne_91 (by decide) ?_
                  refine lv_iadd hx hb dX7_doneOne_92 ?_
                  obtain ⟨hi32, h⟩ := rd_use h
                  refine ia_ hx hb hK hP 3 rfl hi32 dX7_doneOne_93 ?_
                  refine lv_aload_n hx hb dX7_doneOne_94 rfl (lv_at hl 2 rfl) ?_
                  refine gfX7_11 hx hb hts hown hK hP 0 rfl wfX7_34 dX7_doneOne_95 ?_
                  refine lv_iload_n hx hb dX7_doneOne_98 rfl (lv_at hl 1 rfl) ?_
                  refine lv_iconst (v := (3 : Int32)) hx hb dX7_doneOne_99 (by decide) ?_
                  refine lv_iadd hx hb dX7_doneOne_100 ?_
                  obtain ⟨hi34, h⟩ := rd_use h
                  refine ia_ hx hb hK hP 3 rfl hi34 dX7_doneOne_101 ?_
                  refine lv_aload_n hx hb dX7_doneOne_102 rfl (lv_at hl 2 rfl) ?_
                  refine gfX7_11 hx hb hts hown hK hP 0 rfl wfX7_34 dX7_doneOne_103 ?_
                  refine lv_iload_n hx hb dX7_doneOne_106 rfl (lv_at hl 1 rfl) ?_
                  refine lv_iconst (v := (4 : Int32)) hx hb dX7_doneOne_107 (by decide) ?_
                  refine lv_iadd hx hb dX7_doneOne_108 ?_
                  obtain ⟨hi36, h⟩ := rd_use h
                  refine ia_ hx hb hK hP 3 rfl hi36 dX7_doneOne_109 ?_
                  obtain ⟨r37, w38, hc39, h⟩ := bd2_use h
                  refine wr_V (As := [.int (o_numbers y1.toNatClampNeg), .int (o_numbers (y1 + (1 : Int32)).toNatClampNeg), .int (o_numbers (y1 + (2 : Int32)).toNatClampNeg), .int (o_numbers (y1 + (3 : Int32)).toNatClampNeg), .int (o_numbers (y1 + (4 : Int32)).toNatClampNeg)]) (rest := []) (ws' := [(a_o, .inr (6, [.ref a_o_now, .ref a_o_aside, .ref a_o_past, .int (o_states), .ref a_o_refusals, .ref a_o_text, .int (o_bytes), .ref a_o_tried, .int (o_triedMany), .ref a_o_shuffled, .ref a_o_letters, .ref a_o_numbers, .int (o_orders), .int (o_spot), .int (o_wrongAt), .long (o_hash)])), (a_o_now, .inl (cI, 52, .inl (w38))), (a_o_letters, .inl (cI, 75, .inl (o_letters))), (a_o_numbers, .inl (cI, 375, .inl (o_numbers)))]) S (c_X7_putTest l D cI cS a_o a_o_now a_o_aside a_o_past a_o_refusals a_o_text a_o_tried a_o_shuffled a_o_letters a_o_numbers o_states o_bytes o_triedMany o_orders o_spot o_wrongAt o_hash o_now (o_numbers y1.toNatClampNeg) (o_numbers (y1 + (1 : Int32)).toNatClampNeg) (o_numbers (y1 + (2 : Int32)).toNatClampNeg) (o_numbers (y1 + (3 : Int32)).toNatClampNeg) (o_numbers (y1 + (4 : Int32)).toNatClampNeg) r37 w38 hc39) (cwV1 hts cvX7_putTest wmX7_124 rfl rfl ⟨(Nat.le_of_ble_eq_true rfl), (Nat.le_of_ble_eq_true rfl)⟩) hK hP hD hS [0, 1] rfl rfl [(true, 0), (true, 1), (false, 2), (false, 3)] rfl rfl rfl 0 rfl rfl rfl rfl hl.1 rfl (Nat.le_of_ble_eq_true rfl) dX7_doneOne_110 ⟨Nat.zero_le _, Nat.zero_le _⟩ rfl (fun H locs hP hD hS => ?_)
                  cases h
                  exact W.iret hx hb hr (fun t ht _ => ⟨rfl, by rw [ht]; exact hP, hS.F ht⟩) hS.2.2 dX7_doneOne_113
                · have h := it_f c16 h
                  by_cases c17 : (o_letters x1.toNatClampNeg) = (117 : Int32)
                  · have h := it_t c17 h
                    refine lv_tableIn (off := 125) (tgt := 142) hx hb dX7_doneOne_17 (by rw [c17]; decide) (by rw [c17]; decide) (by rw [c17]; rfl) (by decide) ?_
                    refine lv_aload_n hx hb dX7_doneOne_142 rfl (lv_at hl 2 rfl) ?_
                    obtain ⟨r26, w27, hc28, h⟩ := bd2_use h
                    refine wr_V (As := []) (rest := []) (ws' := [(a_o, .inr (6, [.ref a_o_now, .ref a_o_aside, .ref a_o_past, .int (o_states), .ref a_o_refusals, .ref a_o_text, .int (o_bytes), .ref a_o_tried, .int (o_triedMany), .ref a_o_shuffled, .ref a_o_letters, .ref a_o_numbers, .int (o_orders), .int (o_spot), .int (o_wrongAt), .long (o_hash)])), (a_o_now, .inl (cI, 52, .inl (w27))), (a_o_letters, .inl (cI, 75, .inl (o_letters))), (a_o_numbers, .inl (cI, 375, .inl (o_numbers)))]) S (c_X7_putCut l D cI cS a_o a_o_now a_o_aside a_o_past a_o_refusals a_o_text a_o_tried a_o_shuffled a_o_letters a_o_numbers o_states o_bytes o_triedMany o_orders o_spot o_wrongAt o_hash o_now r26 w27 hc28) (cwV1 hts cvX7_putCut wmX7_131 rfl rfl ⟨(Nat.le_of_ble_eq_true rfl), (Nat.le_of_ble_eq_true rfl)⟩) hK hP hD hS [0, 1] rfl rfl [(true, 0), (true, 1), (false, 2), (false, 3)] rfl rfl rfl 0 rfl rfl rfl rfl hl.1 rfl (Nat.le_of_ble_eq_true rfl) dX7_doneOne_143 ⟨Nat.zero_le _, Nat.zero_le _⟩ rfl (fun H locs hP hD hS => ?_)
                    cases h
                    exact W.iret hx hb hr (fun t ht _ => ⟨rfl, by rw [ht]; exact hP, hS.F ht⟩) hS.2.2 dX7_doneOne_146
                  · have h := it_f c17 h
                    by_cases c18 : (o_letters x1.toNatClampNeg) = (118 : Int32)
                    · have h := it_t c18 h
                      refine lv_tableIn (off := 125) (tgt := 142) hx hb dX7_doneOne_17 (by rw [c18]; decide) (by rw [c18]; decide) (by rw [c18]; rfl) (by decide) ?_
                      refine lv_aload_n hx hb dX7_doneOne_142 rfl (lv_at hl 2 rfl) ?_
                      obtain ⟨r23, w24, hc25, h⟩ := bd2_use h
                      refine wr_V (As := []) (rest := []) (ws' := [(a_o, .inr (6, [.ref a_o_now, .ref a_o_aside, .ref a_o_past, .int (o_states), .ref a_o_refusals, .ref a_o_text, .int (o_bytes), .ref a_o_tried, .int (o_triedMany), .ref a_o_shuffled, .ref a_o_letters, .ref a_o_numbers, .int (o_orders), .int (o_spot), .int (o_wrongAt), .long (o_hash)])), (a_o_now, .inl (cI, 52, .inl (w24))), (a_o_letters, .inl (cI, 75, .inl (o_letters))), (a_o_numbers, .inl (cI, 375, .inl (o_numbers)))]) S (c_X7_putCut l D cI cS a_o a_o_now a_o_aside a_o_past a_o_refusals a_o_text a_o_tried a_o_shuffled a_o_letters a_o_numbers o_states o_bytes o_triedMany o_orders o_spot o_wrongAt o_hash o_now r23 w24 hc25) (cwV1 hts cvX7_putCut wmX7_131 rfl rfl ⟨(Nat.le_of_ble_eq_true rfl), (Nat.le_of_ble_eq_true rfl)⟩) hK hP hD hS [0, 1] rfl rfl [(true, 0), (true, 1), (false, 2), (false, 3)] rfl rfl rfl 0 rfl rfl rfl rfl hl.1 rfl (Nat.le_of_ble_eq_true rfl) dX7_doneOne_143 ⟨Nat.zero_le _, Nat.zero_le _⟩ rfl (fun H locs hP hD hS => ?_)
                      cases h
                      exact W.iret hx hb hr (fun t ht _ => ⟨rfl, by rw [ht]; exact hP, hS.F ht⟩) hS.2.2 dX7_doneOne_146
                    · have h := it_f c18 h
                      by_cases c19 : (o_letters x1.toNatClampNeg) = (119 : Int32)
                      · have h := it_t c19 h
                        refine lv_tableIn (off := 103) (tgt := 120) hx hb dX7_doneOne_17 (by rw [c19]; decide) (by rw [c19]; decide) (by rw [c19]; rfl) (by decide) ?_
                        refine lv_aload_n hx hb dX7_doneOne_120 rfl (lv_at hl 2 rfl) ?_
                        obtain ⟨r20, w21, hc22, h⟩ := bd2_use h
                        refine wr_V (As := []) (rest := []) (ws' := [(a_o, .inr (6, [.ref a_o_now, .ref a_o_aside, .ref a_o_past, .int (o_states), .ref a_o_refusals, .ref a_o_text, .int (o_bytes), .ref a_o_tried, .int (o_triedMany), .ref a_o_shuffled, .ref a_o_letters, .ref a_o_numbers, .int (o_orders), .int (o_spot), .int (o_wrongAt), .long (o_hash)])), (a_o_now, .inl (cI, 52, .inl (w21))), (a_o_letters, .inl (cI, 75, .inl (o_letters))), (a_o_numbers, .inl (cI, 375, .inl (o_numbers)))]) S (c_X7_putWiped l D cI cS a_o a_o_now a_o_aside a_o_past a_o_refusals a_o_text a_o_tried a_o_shuffled a_o_letters a_o_numbers o_states o_bytes o_triedMany o_orders o_spot o_wrongAt o_hash o_now r20 w21 hc22) (cwV1 hts cvX7_putWiped wmX7_137 rfl rfl ⟨(Nat.le_of_ble_eq_true rfl), (Nat.le_of_ble_eq_true rfl)⟩) hK hP hD hS [0, 1] rfl rfl [(true, 0), (true, 1), (false, 2), (false, 3)] rfl rfl rfl 0 rfl rfl rfl rfl hl.1 rfl (Nat.le_of_ble_eq_true rfl) dX7_doneOne_121 ⟨Nat.zero_le _, Nat.zero_le _⟩ rfl (fun H locs hP hD hS => ?_)
                        cases h
                        exact W.iret hx hb hr (fun t ht _ => ⟨rfl, by rw [ht]; exact hP, hS.F ht⟩) hS.2.2 dX7_doneOne_124
                      · have h := it_f c19 h
                        refine lv_tableOut (tgt := 142) hx hb dX7_doneOne_17 (by have q0 := lv_neT c9 (a := 109) (by decide); have q1 := lv_neT c10 (a := 110) (by decide); have q2 := lv_neT c11 (a := 111) (by decide); have q3 := lv_neT c12 (a := 112) (by decide); have q4 := lv_neT c13 (a := 113) (by decide); have q5 := lv_neT c14 (a := 114) (by decide); have q6 := lv_neT c15 (a := 115) (by decide); have q7 := lv_neT c16 (a := 116) (by decide); have q8 := lv_neT c17 (a := 117) (by decide); have q9 := lv_neT c18 (a := 118) (by decide); have q10 := lv_neT c19 (a := 119) (by decide); omega) (by decide) ?_
                        refine lv_aload_n hx hb dX7_doneOne_142 rfl (lv_at hl 2 rfl) ?_
                        obtain ⟨r6, w7, hc8, h⟩ := bd2_use h
                        refine wr_V (As := []) (rest := []) (ws' := [(a_o, .inr (6, [.ref a_o_now, .ref a_o_aside, .ref a_o_past, .int (o_states), .ref a_o_refusals, .ref a_o_text, .int (o_bytes), .ref a_o_tried, .int (o_triedMany), .ref a_o_shuffled, .ref a_o_letters, .ref a_o_numbers, .int (o_orders), .int (o_spot), .int (o_wrongAt), .long (o_hash)])), (a_o_now, .inl (cI, 52, .inl (w7))), (a_o_letters, .inl (cI, 75, .inl (o_letters))), (a_o_numbers, .inl (cI, 375, .inl (o_numbers)))]) S (c_X7_putCut l D cI cS a_o a_o_now a_o_aside a_o_past a_o_refusals a_o_text a_o_tried a_o_shuffled a_o_letters a_o_numbers o_states o_bytes o_triedMany o_orders o_spot o_wrongAt o_hash o_now r6 w7 hc8) (cwV1 hts cvX7_putCut wmX7_131 rfl rfl ⟨(Nat.le_of_ble_eq_true rfl), (Nat.le_of_ble_eq_true rfl)⟩) hK hP hD hS [0, 1] rfl rfl [(true, 0), (true, 1), (false, 2), (false, 3)] rfl rfl rfl 0 rfl rfl rfl rfl hl.1 rfl (Nat.le_of_ble_eq_true rfl) dX7_doneOne_143 ⟨Nat.zero_le _, Nat.zero_le _⟩ rfl (fun H locs hP hD hS => ?_)
                        cases h
                        exact W.iret hx hb hr (fun t ht _ => ⟨rfl, by rw [ht]; exact hP, hS.F ht⟩) hS.2.2 dX7_doneOne_146
def b_X7_takesBack_2 (o_aside : Ar) : Nat → Int32 → Ar → Option (Ar)
  | 0, _, _ => none
  | n + 1, v1, o_now => (if (52 : Int32) ≤ v1 then some (o_now) else rd o_aside 52 v1 (fun rv2 => wr o_now 52 v1 rv2 (fun fv4 => nm (v1 + (1 : Int32)) (fun y6 => b_X7_takesBack_2 o_aside n y6 fv4))))
def f_X7_takesBack (o_now : Ar) (o_aside : Ar) : Option (Ar) := b_X7_takesBack_2 o_aside FU (0 : Int32) o_now
set_option maxHeartbeats 4000000 in
set_option maxRecDepth 100000 in
theorem c_X7_takesBack (l : Launch) (D : va_G) (cI cS : ClassId) (a_o : Nat) (a_o_now : Nat) (a_o_aside : Nat) (a_o_past : Nat) (a_o_refusals : Nat) (a_o_text : Nat) (a_o_tried : Nat) (a_o_shuffled : Nat) (a_o_letters : Nat) (a_o_numbers : Nat) (o_states : Int32) (o_bytes : Int32) (o_triedMany : Int32) (o_orders : Int32) (o_spot : Int32) (o_wrongAt : Int32) (o_hash : Int64) (o_now : Ar) (o_aside : Ar) (o_now' : Ar) (h : f_X7_takesBack o_now o_aside = some o_now') : wrM l D cI cS yX7_takesBack cX7_takesBack 2 none 0 0 [.ref a_o] [(a_o, .inr (6, [.ref a_o_now, .ref a_o_aside, .ref a_o_past, .int (o_states), .ref a_o_refusals, .ref a_o_text, .int (o_bytes), .ref a_o_tried, .int (o_triedMany), .ref a_o_shuffled, .ref a_o_letters, .ref a_o_numbers, .int (o_orders), .int (o_spot), .int (o_wrongAt), .long (o_hash)])), (a_o_now, .inl (cI, 52, .inl (o_now))), (a_o_aside, .inl (cI, 52, .inl (o_aside)))] [(a_o, .inr (6, [.ref a_o_now, .ref a_o_aside, .ref a_o_past, .int (o_states), .ref a_o_refusals, .ref a_o_text, .int (o_bytes), .ref a_o_tried, .int (o_triedMany), .ref a_o_shuffled, .ref a_o_letters, .ref a_o_numbers, .int (o_orders), .int (o_spot), .int (o_wrongAt), .long (o_hash)])), (a_o_now, .inl (cI, 52, .inl (o_now'))), (a_o_aside, .inl (cI, 52, .inl (o_aside)))] none := by
  refine Met.ofW (cc := cX7_takesBack) (maxL := 2) (ret := none) (by decide) rfl ?_
  intro p e s m args below meth c s₁ B hml hv
  obtain ⟨rfl, hP, hK, hD0⟩ := hv
  have hx := B.exec
  have hb := B.bytes
  have hr := B.returns
  have hts : ∀ w ∈ GW, w.before _ s = true := fun w hw => atoms_spec (ws := mws yX7_takesBack cX7_takesBack 2 none) B.pre w (List.mem_cons_of_mem _ hw)
  have hown : s.vm.findClass RX7 = some m.cls := findClass_of_methodNamed B.named
  have hlocks := B.notSynchronized
  have hD := inW_self hD0
  generalize hAe : inW [(a_o, .inr (6, [.ref a_o_now, .ref a_o_aside, .ref a_o_past, .int (o_states), .ref a_o_refusals, .ref a_o_text, .int (o_bytes), .ref a_o_tried, .int (o_triedMany), .ref a_o_shuffled, .ref a_o_letters, .ref a_o_numbers, .int (o_orders), .int (o_spot), .int (o_wrongAt), .long (o_hash)])), (a_o_now, .inl (cI, 52, .inl (o_now))), (a_o_aside, .inl (cI, 52, .inl (o_aside)))] = A at hD ⊢
  have hS : va_S A s.heap s.heap [] := va_S.rf
  have hl := lv_entry ([.ref a_o]) (n := 2) (Nat.le_of_ble_eq_true rfl)
  rw [lg_entry_eq]
  generalize (lg_sl ([.ref a_o]) ++ List.replicate (2 - (lg_sl ([.ref a_o])).length) Slot.unset).toArray = ls at hl ⊢
  have hl : lv_has ls 2 [(0, .ref a_o)] := hl
  have S : CallFix p m c cX7_takesBack 2 s _ GW RX7 := ⟨hx, hb, hml, hown, hts⟩
  have L_2 : ∀ (n : Nat) (v1 : Int32) (o_now : Ar), b_X7_takesBack_2 o_aside n v1 o_now = some o_now' → ∀ (H : Heap) (locs : List Loc), va_P D vwCl [(a_o, .inr (6, [.ref a_o_now, .ref a_o_aside, .ref a_o_past, .int (o_states), .ref a_o_refusals, .ref a_o_text, .int (o_bytes), .ref a_o_tried, .int (o_triedMany), .ref a_o_shuffled, .ref a_o_letters, .ref a_o_numbers, .int (o_orders), .int (o_spot), .int (o_wrongAt), .long (o_hash)])), (a_o_now, .inl (cI, 52, .inl (o_now))), (a_o_aside, .inl (cI, 52, .inl (o_aside)))] H → va_D A [(a_o, .inr (6, [.ref a_o_now, .ref a_o_aside, .ref a_o_past, .int (o_states), .ref a_o_refusals, .ref a_o_text, .int (o_bytes), .ref a_o_tried, .int (o_triedMany), .ref a_o_shuffled, .ref a_o_letters, .ref a_o_numbers, .int (o_orders), .int (o_spot), .int (o_wrongAt), .long (o_hash)])), (a_o_now, .inl (cI, 52, .inl (o_now))), (a_o_aside, .inl (cI, 52, .inl (o_aside)))] → va_S A s.heap H locs → ∀ (ls : Array Slot), lv_has ls 2 [(0, .ref a_o), (1, .int v1)] → W p l e (headSpec (mws yX7_takesBack cX7_takesBack 2 none) { frames := 0, cells := 0, slots := 0, locals := 0 }).room s m [.ref a_o].toArray below meth c H locs 0 0 (MQ below (wrQ D A [(a_o, .inr (6, [.ref a_o_now, .ref a_o_aside, .ref a_o_past, .int (o_states), .ref a_o_refusals, .ref a_o_text, .int (o_bytes), .ref a_o_tried, .int (o_triedMany), .ref a_o_shuffled, .ref a_o_letters, .ref a_o_numbers, .int (o_orders), .int (o_spot), .int (o_wrongAt), .long (o_hash)])), (a_o_now, .inl (cI, 52, .inl (o_now'))), (a_o_aside, .inl (cI, 52, .inl (o_aside)))] none) [.ref a_o].toArray s 0 0 A) (F0 m 2 ls []) := by
    intro n
    induction n with
    | zero =>
      intro v1 o_now h
      exact nn_no h
    | succ n ih =>
      intro v1 o_now h H locs hP hD hS ls hl
      rw [b_X7_takesBack_2] at h
      refine lv_iload_n hx hb dX7_takesBack_2 rfl (lv_at hl 1 rfl) ?_
      refine lv_bipush (v := (52 : Int32)) hx hb dX7_takesBack_3 (by decide) ?_
      refine lv_icmp_ge (tgt := 26) hx hb dX7_takesBack_5 (by decide) (fun c1 => ?_) (fun c1 => ?_)
      · have h := it_t c1 h
        cases h
        exact W.vret hx hb hr (fun t ht _ => ⟨rfl, by rw [ht]; exact hP, hS.F ht⟩) hS.2.2 dX7_takesBack_26
      · have h := it_f c1 h
        refine lv_aload_n hx hb dX7_takesBack_8 rfl (lv_at hl 0 rfl) ?_
        refine gfX7_0 hx hb hts hown hK hP 0 rfl wfX7_7 dX7_takesBack_9 ?_
        refine lv_iload_n hx hb dX7_takesBack_12 rfl (lv_at hl 1 rfl) ?_
        refine lv_aload_n hx hb dX7_takesBack_13 rfl (lv_at hl 0 rfl) ?_
        refine gfX7_1 hx hb hts hown hK hP 0 rfl wfX7_13 dX7_takesBack_14 ?_
        refine lv_iload_n hx hb dX7_takesBack_17 rfl (lv_at hl 1 rfl) ?_
        obtain ⟨hi3, h⟩ := rd_use h
        refine ia_ hx hb hK hP 2 rfl hi3 dX7_takesBack_18 ?_
        obtain ⟨hi5, h⟩ := wr_use h
        refine is_ (ws' := [(a_o, .inr (6, [.ref a_o_now, .ref a_o_aside, .ref a_o_past, .int (o_states), .ref a_o_refusals, .ref a_o_text, .int (o_bytes), .ref a_o_tried, .int (o_triedMany), .ref a_o_shuffled, .ref a_o_letters, .ref a_o_numbers, .int (o_orders), .int (o_spot), .int (o_wrongAt), .long (o_hash)])), (a_o_now, .inl (cI, 52, .inl ((upd o_now v1.toNatClampNeg (o_aside v1.toNatClampNeg))))), (a_o_aside, .inl (cI, 52, .inl (o_aside)))]) hx hb hK hP hD hS 1 rfl rfl hi5 dX7_takesBack_19 (fun H locs hP hD hS => ?_)
        obtain ⟨y6, ey6⟩ : ∃ z : Int32, z = v1 + (1 : Int32) := ⟨_, rfl⟩
        have h := nm_use h ey6
        refine lv_iinc (v := y6) (lv' := [(1, .int y6), (0, .ref a_o)]) hx hb dX7_takesBack_20 hl (k := 1) rfl (by rw [ey6]; rfl) (by decide) rfl (fun ls hl => ?_)
        refine lv_goto (tgt := 2) hx hb dX7_takesBack_23 (by decide) ?_
        exact ih _ _ h _ _ hP hD hS _ (lv_sub hl [1, 0] rfl)
  unfold f_X7_takesBack at h
  refine lv_iconst (v := (0 : Int32)) hx hb dX7_takesBack_0 (by decide) ?_
  refine lv_istore_n (lv' := [(1, .int (0 : Int32)), (0, .ref a_o)]) hx hb dX7_takesBack_1 rfl hl (by decide) rfl (fun ls hl => ?_)
  exact L_2 _ _ _ h _ _ hP hD hS _ (lv_sub hl [1, 0] rfl)
def b_X7_does_21 : Nat → Int32 → Int32 → Int32 → Int32 → Int32 → Ar → Ar → Ar → Ar → Ar → Option (Int32 × Int32 × Int32 × Int32 × Int32 × Ar × Ar × Ar × Ar × Ar)
  | 0, _, _, _, _, _, _, _, _, _, _ => none
  | n + 1, v1, o_states, o_orders, o_spot, o_wrongAt, o_now, o_aside, o_past, o_letters, o_numbers => (if o_orders ≤ v1 then bd2 (f_X7_remembers o_states o_aside o_past) (fun w2 w3 => some (o_orders, w2, o_orders, o_spot, o_wrongAt, o_now, o_aside, w3, o_letters, o_numbers)) else bd2 (f_X7_doneOne o_now o_letters o_numbers v1) (fun r5 w6 => (if (-2 : Int32) < r5 then nm (v1 + (1 : Int32)) (fun y9 => b_X7_does_21  n y9 o_states o_orders o_spot o_wrongAt w6 o_aside o_past o_letters o_numbers) else bd1 (f_X7_takesBack w6 o_aside) (fun w10 => nm ((-1000 : Int32) - v1) (fun y12 => some (y12, o_states, o_orders, o_spot, o_wrongAt, w10, o_aside, o_past, o_letters, o_numbers))))))
def f_X7_does (o_states : Int32) (o_bytes : Int32) (o_orders : Int32) (o_spot : Int32) (o_wrongAt : Int32) (o_now : Ar) (o_aside : Ar) (o_past : Ar) (o_text : Ar) (o_letters : Ar) (o_numbers : Ar) : Option (Int32 × Int32 × Int32 × Int32 × Int32 × Ar × Ar × Ar × Ar × Ar) := bd6 (f_X7_isRead o_bytes o_orders o_spot o_wrongAt o_text o_letters o_numbers) (fun r13 w14 w15 w16 w17 w18 => (if (b2i r13) = (0 : Int32) then nm ((-10 : Int32) - w16) (fun y23 => some (y23, o_states, w14, w15, w16, o_now, o_aside, o_past, w17, w18)) else bd1 (f_X7_laysAside o_now o_aside) (fun w21 => b_X7_does_21  FU (0 : Int32) o_states w14 w15 w16 o_now w21 o_past w17 w18)))
set_option maxHeartbeats 4000000 in
set_option maxRecDepth 100000 in
theorem c_X7_does (l : Launch) (D : va_G) (cI cS : ClassId) (a_o : Nat) (a_o_now : Nat) (a_o_aside : Nat) (a_o_past : Nat) (a_o_text : Nat) (a_o_letters : Nat) (a_o_numbers : Nat) (a_o_refusals : Nat) (a_o_tried : Nat) (a_o_shuffled : Nat) (o_states : Int32) (o_bytes : Int32) (o_triedMany : Int32) (o_orders : Int32) (o_spot : Int32) (o_wrongAt : Int32) (o_hash : Int64) (o_now : Ar) (o_aside : Ar) (o_past : Ar) (o_text : Ar) (o_letters : Ar) (o_numbers : Ar) (r0 : Int32) (o_states' : Int32) (o_orders' : Int32) (o_spot' : Int32) (o_wrongAt' : Int32) (o_now' : Ar) (o_aside' : Ar) (o_past' : Ar) (o_letters' : Ar) (o_numbers' : Ar) (h : f_X7_does o_states o_bytes o_orders o_spot o_wrongAt o_now o_aside o_past o_text o_letters o_numbers = some (r0, o_states', o_orders', o_spot', o_wrongAt', o_now', o_aside', o_past', o_letters', o_numbers')) : wrM l D cI cS yX7_does cX7_does 2 (some .int) 6 129 [.ref a_o] [(a_o, .inr (6, [.ref a_o_now, .ref a_o_aside, .ref a_o_past, .int (o_states), .ref a_o_refusals, .ref a_o_text, .int (o_bytes), .ref a_o_tried, .int (o_triedMany), .ref a_o_shuffled, .ref a_o_letters, .ref a_o_numbers, .int (o_orders), .int (o_spot), .int (o_wrongAt), .long (o_hash)])), (a_o_now, .inl (cI, 52, .inl (o_now))), (a_o_aside, .inl (cI, 52, .inl (o_aside))), (a_o_past, .inl (cI, 260, .inl (o_past))), (a_o_text, .inl (cI, 150, .inl (o_text))), (a_o_letters, .inl (cI, 75, .inl (o_letters))), (a_o_numbers, .inl (cI, 375, .inl (o_numbers)))] [(a_o, .inr (6, [.ref a_o_now, .ref a_o_aside, .ref a_o_past, .int (o_states'), .ref a_o_refusals, .ref a_o_text, .int (o_bytes), .ref a_o_tried, .int (o_triedMany), .ref a_o_shuffled, .ref a_o_letters, .ref a_o_numbers, .int (o_orders'), .int (o_spot'), .int (o_wrongAt'), .long (o_hash)])), (a_o_now, .inl (cI, 52, .inl (o_now'))), (a_o_aside, .inl (cI, 52, .inl (o_aside'))), (a_o_past, .inl (cI, 260, .inl (o_past'))), (a_o_text, .inl (cI, 150, .inl (o_text))), (a_o_letters, .inl (cI, 75, .inl (o_letters'))), (a_o_numbers, .inl (cI, 375, .inl (o_numbers')))] (some (.int r0)) := by
  refine Met.ofW (cc := cX7_does) (maxL := 2) (ret := (some .int)) (by decide) rfl ?_
  intro p e s m args below meth c s₁ B hml hv
  obtain ⟨rfl, hP, hK, hD0⟩ := hv
  have hx := B.exec
  have hb := B.bytes
  have hr := B.returns
  have hts : ∀ w ∈ GW, w.before _ s = true := fun w hw => atoms_spec (ws := mws yX7_does cX7_does 2 (some .int)) B.pre w (List.mem_cons_of_mem _ hw)
  have hown : s.vm.findClass RX7 = some m.cls := findClass_of_methodNamed B.named
  have hlocks := B.notSynchronized
  have hD := inW_self hD0
  generalize hAe : inW [(a_o, .inr (6, [.ref a_o_now, .ref a_o_aside, .ref a_o_past, .int (o_states), .ref a_o_refusals, .ref a_o_text, .int (o_bytes), .ref a_o_tried, .int (o_triedMany), .ref a_o_shuffled, .ref a_o_letters, .ref a_o_numbers, .int (o_orders), .int (o_spot), .int (o_wrongAt), .long (o_hash)])), (a_o_now, .inl (cI, 52, .inl (o_now))), (a_o_aside, .inl (cI, 52, .inl (o_aside))), (a_o_past, .inl (cI, 260, .inl (o_past))), (a_o_text, .inl (cI, 150, .inl (o_text))), (a_o_letters, .inl (cI, 75, .inl (o_letters))), (a_o_numbers, .inl (cI, 375, .inl (o_numbers)))] = A at hD ⊢
  have hS : va_S A s.heap s.heap [] := va_S.rf
  have hl := lv_entry ([.ref a_o]) (n := 2) (Nat.le_of_ble_eq_true rfl)
  rw [lg_entry_eq]
  generalize (lg_sl ([.ref a_o]) ++ List.replicate (2 - (lg_sl ([.ref a_o])).length) Slot.unset).toArray = ls at hl ⊢
  have hl : lv_has ls 2 [(0, .ref a_o)] := hl
  have S : CallFix p m c cX7_does 2 s _ GW RX7 := ⟨hx, hb, hml, hown, hts⟩
  have L_21 : ∀ (n : Nat) (v1 : Int32) (o_states : Int32) (o_orders : Int32) (o_spot : Int32) (o_wrongAt : Int32) (o_now : Ar) (o_aside : Ar) (o_past : Ar) (o_letters : Ar) (o_numbers : Ar), b_X7_does_21  n v1 o_states o_orders o_spot o_wrongAt o_now o_aside o_past o_letters o_numbers = some (r0, o_states', o_orders', o_spot', o_wrongAt', o_now', o_aside', o_past', o_letters', o_numbers') → ∀ (H : Heap) (locs : List Loc), va_P D vwCl [(a_o, .inr (6, [.ref a_o_now, .ref a_o_aside, .ref a_o_past, .int (o_states), .ref a_o_refusals, .ref a_o_text, .int (o_bytes), .ref a_o_tried, .int (o_triedMany), .ref a_o_shuffled, .ref a_o_letters, .ref a_o_numbers, .int (o_orders), .int (o_spot), .int (o_wrongAt), .long (o_hash)])), (a_o_now, .inl (cI, 52, .inl (o_now))), (a_o_aside, .inl (cI, 52, .inl (o_aside))), (a_o_past, .inl (cI, 260, .inl (o_past))), (a_o_text, .inl (cI, 150, .inl (o_text))), (a_o_letters, .inl (cI, 75, .inl (o_letters))), (a_o_numbers, .inl (cI, 375, .inl (o_numbers)))] H → va_D A [(a_o, .inr (6, [.ref a_o_now, .ref a_o_aside, .ref a_o_past, .int (o_states), .ref a_o_refusals, .ref a_o_text, .int (o_bytes), .ref a_o_tried, .int (o_triedMany), .ref a_o_shuffled, .ref a_o_letters, .ref a_o_numbers, .int (o_orders), .int (o_spot), .int (o_wrongAt), .long (o_hash)])), (a_o_now, .inl (cI, 52, .inl (o_now))), (a_o_aside, .inl (cI, 52, .inl (o_aside))), (a_o_past, .inl (cI, 260, .inl (o_past))), (a_o_text, .inl (cI, 150, .inl (o_text))), (a_o_letters, .inl (cI, 75, .inl (o_letters))), (a_o_numbers, .inl (cI, 375, .inl (o_numbers)))] → va_S A s.heap H locs → ∀ (ls : Array Slot), lv_has ls 2 [(0, .ref a_o), (1, .int v1)] → W p l e (headSpec (mws yX7_does cX7_does 2 (some .int)) { frames := 6, cells := 0, slots := 0, locals := 129 }).room s m [.ref a_o].toArray below meth c H locs 0 0 (MQ below (wrQ D A [(a_o, .inr (6, [.ref a_o_now, .ref a_o_aside, .ref a_o_past, .int (o_states'), .ref a_o_refusals, .ref a_o_text, .int (o_bytes), .ref a_o_tried, .int (o_triedMany), .ref a_o_shuffled, .ref a_o_letters, .ref a_o_numbers, .int (o_orders'), .int (o_spot'), .int (o_wrongAt'), .long (o_hash)])), (a_o_now, .inl (cI, 52, .inl (o_now'))), (a_o_aside, .inl (cI, 52, .inl (o_aside'))), (a_o_past, .inl (cI, 260, .inl (o_past'))), (a_o_text, .inl (cI, 150, .inl (o_text))), (a_o_letters, .inl (cI, 75, .inl (o_letters'))), (a_o_numbers, .inl (cI, 375, .inl (o_numbers')))] (some (.int r0))) [.ref a_o].toArray s 0 0 A) (F0 m 21 ls []) := by
    intro n
    induction n with
    | zero =>
      intro v1 o_states o_orders o_spot o_wrongAt o_now o_aside o_past o_letters o_numbers h
      exact nn_no h
    | succ n ih =>
      intro v1 o_states o_orders o_spot o_wrongAt o_now o_aside o_past o_letters o_numbers h H locs hP hD hS ls hl
      rw [b_X7_does_21] at h
      refine lv_iload_n hx hb dX7_does_21 rfl (lv_at hl 1 rfl) ?_
      refine lv_aload_n hx hb dX7_does_22 rfl (lv_at hl 0 rfl) ?_
      refine gfX7_12 hx hb hts hown hK hP 0 rfl wfX7_202 dX7_does_23 ?_
      refine lv_icmp_ge (tgt := 55) hx hb dX7_does_26 (by decide) (fun c1 => ?_) (fun c1 => ?_)
      · have h := it_t c1 h
        refine lv_aload_n hx hb dX7_does_55 rfl (lv_at hl 0 rfl) ?_
        obtain ⟨w2, w3, hc4, h⟩ := bd2_use h
        refine wr_V (As := []) (rest := []) (ws' := [(a_o, .inr (6, [.ref a_o_now, .ref a_o_aside, .ref a_o_past, .int (w2), .ref a_o_refusals, .ref a_o_text, .int (o_bytes), .ref a_o_tried, .int (o_triedMany), .ref a_o_shuffled, .ref a_o_letters, .ref a_o_numbers, .int (o_orders), .int (o_spot), .int (o_wrongAt), .long (o_hash)])), (a_o_now, .inl (cI, 52, .inl (o_now))), (a_o_aside, .inl (cI, 52, .inl (o_aside))), (a_o_past, .inl (cI, 260, .inl (w3))), (a_o_text, .inl (cI, 150, .inl (o_text))), (a_o_letters, .inl (cI, 75, .inl (o_letters))), (a_o_numbers, .inl (cI, 375, .inl (o_numbers)))]) S (c_X7_remembers l D cI cS a_o a_o_aside a_o_past a_o_now a_o_refusals a_o_text a_o_tried a_o_shuffled a_o_letters a_o_numbers o_states o_bytes o_triedMany o_orders o_spot o_wrongAt o_hash o_aside o_past w2 w3 hc4) (cwV1 hts cvX7_remembers wmX7_45 rfl rfl ⟨(Nat.le_of_ble_eq_true rfl), (Nat.le_of_ble_eq_true rfl)⟩) hK hP hD hS [0, 2, 3] rfl rfl [(true, 0), (false, 1), (true, 1), (true, 2), (false, 4), (false, 5), (false, 6)] rfl rfl rfl 0 rfl rfl rfl rfl hl.1 rfl (Nat.le_of_ble_eq_true rfl) dX7_does_56 ⟨Nat.zero_le _, Nat.zero_le _⟩ rfl (fun H locs hP hD hS => ?_)
        refine lv_aload_n hx hb dX7_does_59 rfl (lv_at hl 0 rfl) ?_
        refine gfX7_12 hx hb hts hown hK hP 0 rfl wfX7_202 dX7_does_60 ?_
        cases h
        exact W.iret hx hb hr (fun t ht _ => ⟨rfl, by rw [ht]; exact hP, hS.F ht⟩) hS.2.2 dX7_does_63
      · have h := it_f c1 h
        refine lv_aload_n hx hb dX7_does_29 rfl (lv_at hl 0 rfl) ?_
        refine lv_iload_n hx hb dX7_does_30 rfl (lv_at hl 1 rfl) ?_
        obtain ⟨r5, w6, hc7, h⟩ := bd2_use h
        refine wr_V (As := [.int v1]) (rest := []) (ws' := [(a_o, .inr (6, [.ref a_o_now, .ref a_o_aside, .ref a_o_past, .int (o_states), .ref a_o_refusals, .ref a_o_text, .int (o_bytes), .ref a_o_tried, .int (o_triedMany), .ref a_o_shuffled, .ref a_o_letters, .ref a_o_numbers, .int (o_orders), .int (o_spot), .int (o_wrongAt), .long (o_hash)])), (a_o_now, .inl (cI, 52, .inl (w6))), (a_o_aside, .inl (cI, 52, .inl (o_aside))), (a_o_past, .inl (cI, 260, .inl (o_past))), (a_o_text, .inl (cI, 150, .inl (o_text))), (a_o_letters, .inl (cI, 75, .inl (o_letters))), (a_o_numbers, .inl (cI, 375, .inl (o_numbers)))]) S (c_X7_doneOne l D cI cS a_o a_o_now a_o_letters a_o_numbers a_o_aside a_o_past a_o_refusals a_o_text a_o_tried a_o_shuffled o_states o_bytes o_triedMany o_orders o_spot o_wrongAt o_hash o_now o_letters o_numbers v1 r5 w6 hc7) (cwV1 hts cvX7_doneOne wmX7_214 rfl rfl ⟨(Nat.le_of_ble_eq_true rfl), (Nat.le_of_ble_eq_true rfl)⟩) hK hP hD hS [0, 1, 5, 6] rfl rfl [(true, 0), (true, 1), (false, 2), (false, 3), (false, 4), (true, 2), (true, 3)] rfl rfl rfl 0 rfl rfl rfl rfl hl.1 rfl (Nat.le_of_ble_eq_true rfl) dX7_does_31 ⟨Nat.zero_le _, Nat.zero_le _⟩ rfl (fun H locs hP hD hS => ?_)
        refine lv_bipush (v := (-2 : Int32)) hx hb dX7_does_34 (by decide) ?_
        refine lv_icmp_gt (tgt := 49) hx hb dX7_does_36 (by decide) (fun c8 => ?_) (fun c8 => ?_)
        · have h := it_t c8 h
          obtain ⟨y9, ey9⟩ : ∃ z : Int32, z = v1 + (1 : Int32) := ⟨_, rfl⟩
          have h := nm_use h ey9
          refine lv_iinc (v := y9) (lv' := [(1, .int y9), (0, .ref a_o)]) hx hb dX7_does_49 hl (k := 1) rfl (by rw [ey9]; rfl) (by decide) rfl (fun ls hl => ?_)
          refine lv_goto (tgt := 21) hx hb dX7_does_52 (by decide) ?_
          exact ih _ _ _ _ _ _ _ _ _ _ h _ _ hP hD hS _ (lv_sub hl [1, 0] rfl)
        · have h := it_f c8 h
          refine lv_aload_n hx hb dX7_does_39 rfl (lv_at hl 0 rfl) ?_
          obtain ⟨w10, hc11, h⟩ := bd1_use h
          refine wr_V (As := []) (rest := []) (ws' := [(a_o, .inr (6, [.ref a_o_now, .ref a_o_aside, .ref a_o_past, .int (o_states), .ref a_o_refusals, .ref a_o_text, .int (o_bytes), .ref a_o_tried, .int (o_triedMany), .ref a_o_shuffled, .ref a_o_letters, .ref a_o_numbers, .int (o_orders), .int (o_spot), .int (o_wrongAt), .long (o_hash)])), (a_o_now, .inl (cI, 52, .inl (w10))), (a_o_aside, .inl (cI, 52, .inl (o_aside))), (a_o_past, .inl (cI, 260, .inl (o_past))), (a_o_text, .inl (cI, 150, .inl (o_text))), (a_o_letters, .inl (cI, 75, .inl (o_letters))), (a_o_numbers, .inl (cI, 375, .inl (o_numbers)))]) S (c_X7_takesBack l D cI cS a_o a_o_now a_o_aside a_o_past a_o_refusals a_o_text a_o_tried a_o_shuffled a_o_letters a_o_numbers o_states o_bytes o_triedMany o_orders o_spot o_wrongAt o_hash w6 o_aside w10 hc11) (cwV1 hts cvX7_takesBack wmX7_217 rfl rfl ⟨(Nat.le_of_ble_eq_true rfl), (Nat.le_of_ble_eq_true rfl)⟩) hK hP hD hS [0, 1, 2] rfl rfl [(true, 0), (true, 1), (true, 2), (false, 3), (false, 4), (false, 5), (false, 6)] rfl rfl rfl 0 rfl rfl rfl rfl hl.1 rfl (Nat.le_of_ble_eq_true rfl) dX7_does_40 ⟨Nat.zero_le _, Nat.zero_le _⟩ rfl (fun H locs hP hD hS => ?_)
          refine lv_sipush (v := (-1000 : Int32)) hx hb dX7_does_43 (by decide) ?_
          refine lv_iload_n hx hb dX7_does_46 rfl (lv_at hl 1 rfl) ?_
          refine lv_isub hx hb dX7_does_47 ?_
          refine lv_topi (fun y12 ey12 => ?_)
          have h := nm_use h ey12
          cases h
          exact W.iret hx hb hr (fun t ht _ => ⟨rfl, by rw [ht]; exact hP, hS.F ht⟩) hS.2.2 dX7_does_48
  unfold f_X7_does at h
  refine lv_aload_n hx hb dX7_does_0 rfl (lv_at hl 0 rfl) ?_
  obtain ⟨r13, w14, w15, w16, w17, w18, hc19, h⟩ := bd6_use h
  refine wr_V (As := []) (rest := []) (ws' := [(a_o, .inr (6, [.ref a_o_now, .ref a_o_aside, .ref a_o_past, .int (o_states), .ref a_o_refusals, .ref a_o_text, .int (o_bytes), .ref a_o_tried, .int (o_triedMany), .ref a_o_shuffled, .ref a_o_letters, .ref a_o_numbers, .int (w14), .int (w15), .int (w16), .long (o_hash)])), (a_o_now, .inl (cI, 52, .inl (o_now))), (a_o_aside, .inl (cI, 52, .inl (o_aside))), (a_o_past, .inl (cI, 260, .inl (o_past))), (a_o_text, .inl (cI, 150, .inl (o_text))), (a_o_letters, .inl (cI, 75, .inl (w17))), (a_o_numbers, .inl (cI, 375, .inl (w18)))]) S (c_X7_isRead l D cI cS a_o a_o_text a_o_letters a_o_numbers a_o_now a_o_aside a_o_past a_o_refusals a_o_tried a_o_shuffled o_states o_bytes o_triedMany o_orders o_spot o_wrongAt o_hash o_text o_letters o_numbers r13 w14 w15 w16 w17 w18 hc19) (cwV1 hts cvX7_isRead wmX7_211 rfl rfl ⟨(Nat.le_of_ble_eq_true rfl), (Nat.le_of_ble_eq_true rfl)⟩) hK hP hD hS [0, 4, 5, 6] rfl rfl [(true, 0), (false, 1), (false, 2), (false, 3), (true, 1), (true, 2), (true, 3)] rfl rfl rfl 0 rfl rfl rfl rfl hl.1 rfl (Nat.le_of_ble_eq_true rfl) dX7_does_1 ⟨Nat.zero_le _, Nat.zero_le _⟩ rfl (fun H locs hP hD hS => ?_)
  refine lv_if_ne (tgt := 15) hx hb dX7_does_4 (by decide) (fun c20 => ?_) (fun c20 => ?_)
  · have h := it_f c20 h
    refine lv_aload_n hx hb dX7_does_15 rfl (lv_at hl 0 rfl) ?_
    obtain ⟨w21, hc22, h⟩ := bd1_use h
    refine wr_V (As := []) (rest := []) (ws' := [(a_o, .inr (6, [.ref a_o_now, .ref a_o_aside, .ref a_o_past, .int (o_states), .ref a_o_refusals, .ref a_o_text, .int (o_bytes), .ref a_o_tried, .int (o_triedMany), .ref a_o_shuffled, .ref a_o_letters, .ref a_o_numbers, .int (w14), .int (w15), .int (w16), .long (o_hash)])), (a_o_now, .inl (cI, 52, .inl (o_now))), (a_o_aside, .inl (cI, 52, .inl (w21))), (a_o_past, .inl (cI, 260, .inl (o_past))), (a_o_text, .inl (cI, 150, .inl (o_text))), (a_o_letters, .inl (cI, 75, .inl (w17))), (a_o_numbers, .inl (cI, 375, .inl (w18)))]) S (c_X7_laysAside l D cI cS a_o a_o_now a_o_aside a_o_past a_o_refusals a_o_text a_o_tried a_o_shuffled a_o_letters a_o_numbers o_states o_bytes o_triedMany w14 w15 w16 o_hash o_now o_aside w21 hc22) (cwV1 hts cvX7_laysAside wmX7_121 rfl rfl ⟨(Nat.le_of_ble_eq_true rfl), (Nat.le_of_ble_eq_true rfl)⟩) hK hP hD hS [0, 1, 2] rfl rfl [(true, 0), (true, 1), (true, 2), (false, 3), (false, 4), (false, 5), (false, 6)] rfl rfl rfl 0 rfl rfl rfl rfl hl.1 rfl (Nat.le_of_ble_eq_true rfl) dX7_does_16 ⟨Nat.zero_le _, Nat.zero_le _⟩ rfl (fun H locs hP hD hS => ?_)
    refine lv_iconst (v := (0 : Int32)) hx hb dX7_does_19 (by decide) ?_
    refine lv_istore_n (lv' := [(1, .int (0 : Int32)), (0, .ref a_o)]) hx hb dX7_does_20 rfl hl (by decide) rfl (fun ls hl => ?_)
    exact L_21 _ _ _ _ _ _ _ _ _ _ _ h _ _ hP hD hS _ (lv_sub hl [1, 0] rfl)
  · have h := it_t c20 h
    refine lv_bipush (v := (-10 : Int32)) hx hb dX7_does_7 (by decide) ?_
    refine lv_aload_n hx hb dX7_does_9 rfl (lv_at hl 0 rfl) ?_
    refine gfX7_14 hx hb hts hown hK hP 0 rfl wfX7_189 dX7_does_10 ?_
    refine lv_isub hx hb dX7_does_13 ?_
    refine lv_topi (fun y23 ey23 => ?_)
    have h := nm_use h ey23
    cases h
    exact W.iret hx hb hr (fun t ht _ => ⟨rfl, by rw [ht]; exact hP, hS.F ht⟩) hS.2.2 dX7_does_14
def b_X7_ones_4 (x1 : Int32) : Nat → Int32 → Int32 → Option (Int32)
  | 0, _, _ => none
  | n + 1, v1, v2 => (if (8 : Int32) ≤ v2 then some (v1) else nm (v1 + ((x1 >>> (v2 &&& (31 : Int32))) &&& (1 : Int32))) (fun y2 => nm (v2 + (1 : Int32)) (fun y3 => b_X7_ones_4 x1 n y2 y3)))
def f_X7_ones (x1 : Int32) : Option (Int32) := b_X7_ones_4 x1 FU (0 : Int32) (0 : Int32)
set_option maxHeartbeats 4000000 in
set_option maxRecDepth 100000 in
theorem c_X7_ones (l : Launch) (D : va_G) (cI cS : ClassId) (x1 : Int32) (r0 : Int32) (h : f_X7_ones x1 = some r0) : roM l D cI cS yX7_ones cX7_ones 3 (some .int) 0 0 [.int x1] [] (some (.int r0)) := by
  refine Met.ofW (cc := cX7_ones) (maxL := 3) (ret := (some .int)) (by decide) rfl ?_
  intro p e s m args below meth c s₁ B hml hv
  obtain ⟨rfl, hP, hK⟩ := hv
  have hx := B.exec
  have hb := B.bytes
  have hr := B.returns
  have hts : ∀ w ∈ GW, w.before _ s = true := fun w hw => atoms_spec (ws := mws yX7_ones cX7_ones 3 (some .int)) B.pre w (List.mem_cons_of_mem _ hw)
  have hown : s.vm.findClass RX7 = some m.cls := findClass_of_methodNamed B.named
  have hlocks := B.notSynchronized
  have hl := lv_entry ([.int x1]) (n := 3) (Nat.le_of_ble_eq_true rfl)
  rw [lg_entry_eq]
  generalize (lg_sl ([.int x1]) ++ List.replicate (3 - (lg_sl ([.int x1])).length) Slot.unset).toArray = ls at hl ⊢
  have hl : lv_has ls 3 [(0, .int x1)] := hl
  have S : CallFix p m c cX7_ones 3 s _ GW RX7 := ⟨hx, hb, hml, hown, hts⟩
  have L_4 : ∀ (n : Nat) (v1 : Int32) (v2 : Int32), b_X7_ones_4 x1 n v1 v2 = some r0 → ∀ (ls : Array Slot), lv_has ls 3 [(0, .int x1), (1, .int v1), (2, .int v2)] → W p l e (headSpec (mws yX7_ones cX7_ones 3 (some .int)) { frames := 0, cells := 0, slots := 0, locals := 0 }).room s m [.int x1].toArray below meth c s.heap [] 0 0 (MQ below (roQ (some (.int r0))) [.int x1].toArray s 0 0 noF) (F0 m 4 ls []) := by
    intro n
    induction n with
    | zero =>
      intro v1 v2 h
      exact nn_no h
    | succ n ih =>
      intro v1 v2 h ls hl
      rw [b_X7_ones_4] at h
      refine lv_iload_n hx hb dX7_ones_4 rfl (lv_at hl 2 rfl) ?_
      refine lv_bipush (v := (8 : Int32)) hx hb dX7_ones_5 (by decide) ?_
      refine lv_icmp_ge (tgt := 24) hx hb dX7_ones_7 (by decide) (fun c1 => ?_) (fun c1 => ?_)
      · have h := it_t c1 h
        refine lv_iload_n hx hb dX7_ones_24 rfl (lv_at hl 1 rfl) ?_
        exact W.iret hx hb hr (fun t ht _ => ⟨congrArg (fun z => Outcome.returned (some (Value.int z))) (Option.some.inj h), ht⟩) (fun q hq => by cases hq) dX7_ones_25
      · have h := it_f c1 h
        refine lv_iload_n hx hb dX7_ones_10 rfl (lv_at hl 1 rfl) ?_
        refine lv_iload_n hx hb dX7_ones_11 rfl (lv_at hl 0 rfl) ?_
        refine lv_iload_n hx hb dX7_ones_12 rfl (lv_at hl 2 rfl) ?_
        refine lv_ishr hx hb dX7_ones_13 ?_
        refine lv_iconst (v := (1 : Int32)) hx hb dX7_ones_14 (by decide) ?_
        refine lv_iand hx hb dX7_ones_15 ?_
        refine lv_iadd hx hb dX7_ones_16 ?_
        refine lv_topi (fun y2 ey2 => ?_)
        have h := nm_use h ey2
        refine lv_istore_n (lv' := [(1, .int y2), (0, .int x1), (2, .int v2)]) hx hb dX7_ones_17 rfl hl (by decide) rfl (fun ls hl => ?_)
        obtain ⟨y3, ey3⟩ : ∃ z : Int32, z = v2 + (1 : Int32) := ⟨_, rfl⟩
        have h := nm_use h ey3
        refine lv_iinc (v := y3) (lv' := [(2, .int y3), (1, .int y2), (0, .int x1)]) hx hb dX7_ones_18 hl (k := 2) rfl (by rw [ey3]; rfl) (by decide) rfl (fun ls hl => ?_)
        refine lv_goto (tgt := 4) hx hb dX7_ones_21 (by decide) ?_
        exact ih _ _ h _ (lv_sub hl [2, 1, 0] rfl)
  unfold f_X7_ones at h
  refine lv_iconst (v := (0 : Int32)) hx hb dX7_ones_0 (by decide) ?_
  refine lv_istore_n (lv' := [(1, .int (0 : Int32)), (0, .int x1)]) hx hb dX7_ones_1 rfl hl (by decide) rfl (fun ls hl => ?_)
  refine lv_iconst (v := (0 : Int32)) hx hb dX7_ones_2 (by decide) ?_
  refine lv_istore_n (lv' := [(2, .int (0 : Int32)), (1, .int (0 : Int32)), (0, .int x1)]) hx hb dX7_ones_3 rfl hl (by decide) rfl (fun ls hl => ?_)
  exact L_4 _ _ _ h _ (lv_sub hl [2, 1, 0] rfl)
def f_X7_flipsIn (o_triedMany : Int32) (o_now : Ar) (o_tried : Ar) (x1 : Int32) (x2 : Int32) : Option (Bool × Int32 × Ar) := bd2 (f_X7_tries o_triedMany o_now o_tried x1 x2) (fun w1 w2 => rd o_now 52 ((4 : Int32) + x1) (fun rv4 => bd1 (f_X7_isFlipped w1 o_now w2 rv4) (fun r6 => some (r6, w1, w2))))
set_option maxHeartbeats 4000000 in
set_option maxRecDepth 100000 in
theorem c_X7_flipsIn (l : Launch) (D : va_G) (cI cS : ClassId) (a_o : Nat) (a_o_now : Nat) (a_o_tried : Nat) (a_o_aside : Nat) (a_o_past : Nat) (a_o_refusals : Nat) (a_o_text : Nat) (a_o_shuffled : Nat) (a_o_letters : Nat) (a_o_numbers : Nat) (o_states : Int32) (o_bytes : Int32) (o_triedMany : Int32) (o_orders : Int32) (o_spot : Int32) (o_wrongAt : Int32) (o_hash : Int64) (o_now : Ar) (o_tried : Ar) (x1 : Int32) (x2 : Int32) (r0 : Bool) (o_triedMany' : Int32) (o_tried' : Ar) (h : f_X7_flipsIn o_triedMany o_now o_tried x1 x2 = some (r0, o_triedMany', o_tried')) : wrM l D cI cS yX7_flipsIn cX7_flipsIn 3 (some .boolean) 5 110 [.ref a_o, .int x1, .int x2] [(a_o, .inr (6, [.ref a_o_now, .ref a_o_aside, .ref a_o_past, .int (o_states), .ref a_o_refusals, .ref a_o_text, .int (o_bytes), .ref a_o_tried, .int (o_triedMany), .ref a_o_shuffled, .ref a_o_letters, .ref a_o_numbers, .int (o_orders), .int (o_spot), .int (o_wrongAt), .long (o_hash)])), (a_o_now, .inl (cI, 52, .inl (o_now))), (a_o_tried, .inl (cI, 9, .inl (o_tried)))] [(a_o, .inr (6, [.ref a_o_now, .ref a_o_aside, .ref a_o_past, .int (o_states), .ref a_o_refusals, .ref a_o_text, .int (o_bytes), .ref a_o_tried, .int (o_triedMany'), .ref a_o_shuffled, .ref a_o_letters, .ref a_o_numbers, .int (o_orders), .int (o_spot), .int (o_wrongAt), .long (o_hash)])), (a_o_now, .inl (cI, 52, .inl (o_now))), (a_o_tried, .inl (cI, 9, .inl (o_tried')))] (some (.int (b2i r0))) := by
  refine Met.ofW (cc := cX7_flipsIn) (maxL := 3) (ret := (some .boolean)) (by decide) rfl ?_
  intro p e s m args below meth c s₁ B hml hv
  obtain ⟨rfl, hP, hK, hD0⟩ := hv
  have hx := B.exec
  have hb := B.bytes
  have hr := B.returns
  have hts : ∀ w ∈ GW, w.before _ s = true := fun w hw => atoms_spec (ws := mws yX7_flipsIn cX7_flipsIn 3 (some .boolean)) B.pre w (List.mem_cons_of_mem _ hw)
  have hown : s.vm.findClass RX7 = some m.cls := findClass_of_methodNamed B.named
  have hlocks := B.notSynchronized
  have hD := inW_self hD0
  generalize hAe : inW [(a_o, .inr (6, [.ref a_o_now, .ref a_o_aside, .ref a_o_past, .int (o_states), .ref a_o_refusals, .ref a_o_text, .int (o_bytes), .ref a_o_tried, .int (o_triedMany), .ref a_o_shuffled, .ref a_o_letters, .ref a_o_numbers, .int (o_orders), .int (o_spot), .int (o_wrongAt), .long (o_hash)])), (a_o_now, .inl (cI, 52, .inl (o_now))), (a_o_tried, .inl (cI, 9, .inl (o_tried)))] = A at hD ⊢
  have hS : va_S A s.heap s.heap [] := va_S.rf
  have hl := lv_entry ([.ref a_o, .int x1, .int x2]) (n := 3) (Nat.le_of_ble_eq_true rfl)
  rw [lg_entry_eq]
  generalize (lg_sl ([.ref a_o, .int x1, .int x2]) ++ List.replicate (3 - (lg_sl ([.ref a_o, .int x1, .int x2])).length) Slot.unset).toArray = ls at hl ⊢
  have hl : lv_has ls 3 [(0, .ref a_o), (1, .int x1), (2, .int x2)] := hl
  have S : CallFix p m c cX7_flipsIn 3 s _ GW RX7 := ⟨hx, hb, hml, hown, hts⟩
  unfold f_X7_flipsIn at h
  refine lv_aload_n hx hb dX7_flipsIn_0 rfl (lv_at hl 0 rfl) ?_
  refine lv_iload_n hx hb dX7_flipsIn_1 rfl (lv_at hl 1 rfl) ?_
  refine lv_iload_n hx hb dX7_flipsIn_2 rfl (lv_at hl 2 rfl) ?_
  obtain ⟨w1, w2, hc3, h⟩ := bd2_use h
  refine wr_V (As := [.int x1, .int x2]) (rest := []) (ws' := [(a_o, .inr (6, [.ref a_o_now, .ref a_o_aside, .ref a_o_past, .int (o_states), .ref a_o_refusals, .ref a_o_text, .int (o_bytes), .ref a_o_tried, .int (w1), .ref a_o_shuffled, .ref a_o_letters, .ref a_o_numbers, .int (o_orders), .int (o_spot), .int (o_wrongAt), .long (o_hash)])), (a_o_now, .inl (cI, 52, .inl (o_now))), (a_o_tried, .inl (cI, 9, .inl (w2)))]) S (c_X7_tries l D cI cS a_o a_o_now a_o_tried a_o_aside a_o_past a_o_refusals a_o_text a_o_shuffled a_o_letters a_o_numbers o_states o_bytes o_triedMany o_orders o_spot o_wrongAt o_hash o_now o_tried x1 x2 w1 w2 hc3) (cwV1 hts cvX7_tries wmX7_80 rfl rfl ⟨(Nat.le_of_ble_eq_true rfl), (Nat.le_of_ble_eq_true rfl)⟩) hK hP hD hS [0, 1, 2] rfl rfl [(true, 0), (true, 1), (true, 2)] rfl rfl rfl 0 rfl rfl rfl rfl hl.1 rfl (Nat.le_of_ble_eq_true rfl) dX7_flipsIn_3 ⟨Nat.zero_le _, Nat.zero_le _⟩ rfl (fun H locs hP hD hS => ?_)
  refine lv_aload_n hx hb dX7_flipsIn_6 rfl (lv_at hl 0 rfl) ?_
  refine lv_aload_n hx hb dX7_flipsIn_7 rfl (lv_at hl 0 rfl) ?_
  refine gfX7_0 hx hb hts hown hK hP 0 rfl wfX7_7 dX7_flipsIn_8 ?_
  refine lv_iconst (v := (4 : Int32)) hx hb dX7_flipsIn_11 (by decide) ?_
  refine lv_iload_n hx hb dX7_flipsIn_12 rfl (lv_at hl 1 rfl) ?_
  refine lv_iadd hx hb dX7_flipsIn_13 ?_
  obtain ⟨hi5, h⟩ := rd_use h
  refine ia_ hx hb hK hP 1 rfl hi5 dX7_flipsIn_14 ?_
  obtain ⟨r6, hc7, h⟩ := bd1_use h
  refine ro_V (As := [.int (o_now ((4 : Int32) + x1).toNatClampNeg)]) (rest := []) S (c_X7_isFlipped l D cI cS a_o a_o_now a_o_tried a_o_aside a_o_past a_o_refusals a_o_text a_o_shuffled a_o_letters a_o_numbers o_states o_bytes w1 o_orders o_spot o_wrongAt o_hash o_now w2 (o_now ((4 : Int32) + x1).toNatClampNeg) r6 hc7) (cwV1 hts cvX7_isFlipped wmX7_74 rfl rfl ⟨(Nat.le_of_ble_eq_true rfl), (Nat.le_of_ble_eq_true rfl)⟩) hK hP [0, 1, 2] rfl 0 rfl rfl rfl rfl hl.1 rfl (Nat.le_of_ble_eq_true rfl) dX7_flipsIn_15 ⟨Nat.zero_le _, Nat.zero_le _⟩ rfl ?_
  cases h
  exact W.zret hx hb hr (b2i_nar _) (fun t ht _ => ⟨rfl, by rw [ht]; exact hP, hS.F ht⟩) hS.2.2 dX7_flipsIn_18
def b_X7_fewestOf_13 (o_now : Ar) (x1 : Int32) : Nat → Int32 → Int32 → Int32 → Int32 → Ar → Option (Int32 × Int32 × Ar)
  | 0, _, _, _, _, _ => none
  | n + 1, v2, v3, v4, o_triedMany, o_tried => (if v4 < (0 : Int32) then some (v3, o_triedMany, o_tried) else (if (v4 &&& (v2 ^^^ (-1 : Int32))) = (0 : Int32) then bd1 (f_X7_ones v4) (fun r4 => bd1 (f_X7_ones v3) (fun r6 => (if r6 < r4 then nm (v4 + (-1 : Int32)) (fun y9 => b_X7_fewestOf_13 o_now x1 n v2 v3 y9 o_triedMany o_tried) else bd3 (f_X7_flipsIn o_triedMany o_now o_tried x1 v4) (fun r10 w11 w12 => (if (b2i r10) = (0 : Int32) then nm (v4 + (-1 : Int32)) (fun y15 => b_X7_fewestOf_13 o_now x1 n v2 v3 y15 w11 w12) else nm (v4 + (-1 : Int32)) (fun y16 => b_X7_fewestOf_13 o_now x1 n v2 v4 y16 w11 w12)))))) else nm (v4 + (-1 : Int32)) (fun y3 => b_X7_fewestOf_13 o_now x1 n v2 v3 y3 o_triedMany o_tried)))
def f_X7_fewestOf (o_triedMany : Int32) (o_now : Ar) (o_tried : Ar) (x1 : Int32) : Option (Int32 × Int32 × Ar) := bd1 (f_X7_ahead o_now x1) (fun r17 => b_X7_fewestOf_13 o_now x1 FU r17 r17 (255 : Int32) o_triedMany o_tried)
set_option maxHeartbeats 4000000 in
set_option maxRecDepth 100000 in
theorem c_X7_fewestOf (l : Launch) (D : va_G) (cI cS : ClassId) (a_o : Nat) (a_o_now : Nat) (a_o_tried : Nat) (a_o_aside : Nat) (a_o_past : Nat) (a_o_refusals : Nat) (a_o_text : Nat) (a_o_shuffled : Nat) (a_o_letters : Nat) (a_o_numbers : Nat) (o_states : Int32) (o_bytes : Int32) (o_triedMany : Int32) (o_orders : Int32) (o_spot : Int32) (o_wrongAt : Int32) (o_hash : Int64) (o_now : Ar) (o_tried : Ar) (x1 : Int32) (r0 : Int32) (o_triedMany' : Int32) (o_tried' : Ar) (h : f_X7_fewestOf o_triedMany o_now o_tried x1 = some (r0, o_triedMany', o_tried')) : wrM l D cI cS yX7_fewestOf cX7_fewestOf 5 (some .int) 6 132 [.ref a_o, .int x1] [(a_o, .inr (6, [.ref a_o_now, .ref a_o_aside, .ref a_o_past, .int (o_states), .ref a_o_refusals, .ref a_o_text, .int (o_bytes), .ref a_o_tried, .int (o_triedMany), .ref a_o_shuffled, .ref a_o_letters, .ref a_o_numbers, .int (o_orders), .int (o_spot), .int (o_wrongAt), .long (o_hash)])), (a_o_now, .inl (cI, 52, .inl (o_now))), (a_o_tried, .inl (cI, 9, .inl (o_tried)))] [(a_o, .inr (6, [.ref a_o_now, .ref a_o_aside, .ref a_o_past, .int (o_states), .ref a_o_refusals, .ref a_o_text, .int (o_bytes), .ref a_o_tried, .int (o_triedMany'), .ref a_o_shuffled, .ref a_o_letters, .ref a_o_numbers, .int (o_orders), .int (o_spot), .int (o_wrongAt), .long (o_hash)])), (a_o_now, .inl (cI, 52, .inl (o_now))), (a_o_tried, .inl (cI, 9, .inl (o_tried')))] (some (.int r0)) := by
  refine Met.ofW (cc := cX7_fewestOf) (maxL := 5) (ret := (some .int)) (by decide) rfl ?_
  intro p e s m args below meth c s₁ B hml hv
  obtain ⟨rfl, hP, hK, hD0⟩ := hv
  have hx := B.exec
  have hb := B.bytes
  have hr := B.returns
  have hts : ∀ w ∈ GW, w.before _ s = true := fun w hw => atoms_spec (ws := mws yX7_fewestOf cX7_fewestOf 5 (some .int)) B.pre w (List.mem_cons_of_mem _ hw)
  have hown : s.vm.findClass RX7 = some m.cls := findClass_of_methodNamed B.named
  have hlocks := B.notSynchronized
  have hD := inW_self hD0
  generalize hAe : inW [(a_o, .inr (6, [.ref a_o_now, .ref a_o_aside, .ref a_o_past, .int (o_states), .ref a_o_refusals, .ref a_o_text, .int (o_bytes), .ref a_o_tried, .int (o_triedMany), .ref a_o_shuffled, .ref a_o_letters, .ref a_o_numbers, .int (o_orders), .int (o_spot), .int (o_wrongAt), .long (o_hash)])), (a_o_now, .inl (cI, 52, .inl (o_now))), (a_o_tried, .inl (cI, 9, .inl (o_tried)))] = A at hD ⊢
  have hS : va_S A s.heap s.heap [] := va_S.rf
  have hl := lv_entry ([.ref a_o, .int x1]) (n := 5) (Nat.le_of_ble_eq_true rfl)
  rw [lg_entry_eq]
  generalize (lg_sl ([.ref a_o, .int x1]) ++ List.replicate (5 - (lg_sl ([.ref a_o, .int x1])).length) Slot.unset).toArray = ls at hl ⊢
  have hl : lv_has ls 5 [(0, .ref a_o), (1, .int x1)] := hl
  have S : CallFix p m c cX7_fewestOf 5 s _ GW RX7 := ⟨hx, hb, hml, hown, hts⟩
  have L_13 : ∀ (n : Nat) (v2 : Int32) (v3 : Int32) (v4 : Int32) (o_triedMany : Int32) (o_tried : Ar), b_X7_fewestOf_13 o_now x1 n v2 v3 v4 o_triedMany o_tried = some (r0, o_triedMany', o_tried') → ∀ (H : Heap) (locs : List Loc), va_P D vwCl [(a_o, .inr (6, [.ref a_o_now, .ref a_o_aside, .ref a_o_past, .int (o_states), .ref a_o_refusals, .ref a_o_text, .int (o_bytes), .ref a_o_tried, .int (o_triedMany), .ref a_o_shuffled, .ref a_o_letters, .ref a_o_numbers, .int (o_orders), .int (o_spot), .int (o_wrongAt), .long (o_hash)])), (a_o_now, .inl (cI, 52, .inl (o_now))), (a_o_tried, .inl (cI, 9, .inl (o_tried)))] H → va_D A [(a_o, .inr (6, [.ref a_o_now, .ref a_o_aside, .ref a_o_past, .int (o_states), .ref a_o_refusals, .ref a_o_text, .int (o_bytes), .ref a_o_tried, .int (o_triedMany), .ref a_o_shuffled, .ref a_o_letters, .ref a_o_numbers, .int (o_orders), .int (o_spot), .int (o_wrongAt), .long (o_hash)])), (a_o_now, .inl (cI, 52, .inl (o_now))), (a_o_tried, .inl (cI, 9, .inl (o_tried)))] → va_S A s.heap H locs → ∀ (ls : Array Slot), lv_has ls 5 [(0, .ref a_o), (1, .int x1), (2, .int v2), (3, .int v3), (4, .int v4)] → W p l e (headSpec (mws yX7_fewestOf cX7_fewestOf 5 (some .int)) { frames := 6, cells := 0, slots := 0, locals := 132 }).room s m [.ref a_o, .int x1].toArray below meth c H locs 0 0 (MQ below (wrQ D A [(a_o, .inr (6, [.ref a_o_now, .ref a_o_aside, .ref a_o_past, .int (o_states), .ref a_o_refusals, .ref a_o_text, .int (o_bytes), .ref a_o_tried, .int (o_triedMany'), .ref a_o_shuffled, .ref a_o_letters, .ref a_o_numbers, .int (o_orders), .int (o_spot), .int (o_wrongAt), .long (o_hash)])), (a_o_now, .inl (cI, 52, .inl (o_now))), (a_o_tried, .inl (cI, 9, .inl (o_tried')))] (some (.int r0))) [.ref a_o, .int x1].toArray s 0 0 A) (F0 m 13 ls []) := by
    intro n
    induction n with
    | zero =>
      intro v2 v3 v4 o_triedMany o_tried h
      exact nn_no h
    | succ n ih =>
      intro v2 v3 v4 o_triedMany o_tried h H locs hP hD hS ls hl
      rw [b_X7_fewestOf_13] at h
      refine lv_iload hx hb dX7_fewestOf_13 (lv_at hl 4 rfl) ?_
      refine lv_if_lt (tgt := 58) hx hb dX7_fewestOf_15 (by decide) (fun c1 => ?_) (fun c1 => ?_)
      · have h := it_t c1 h
        refine lv_iload_n hx hb dX7_fewestOf_58 rfl (lv_at hl 3 rfl) ?_
        cases h
        exact W.iret hx hb hr (fun t ht _ => ⟨rfl, by rw [ht]; exact hP, hS.F ht⟩) hS.2.2 dX7_fewestOf_59
      · have h := it_f c1 h
        refine lv_iload hx hb dX7_fewestOf_18 (lv_at hl 4 rfl) ?_
        refine lv_iload_n hx hb dX7_fewestOf_20 rfl (lv_at hl 2 rfl) ?_
        refine lv_iconst (v := (-1 : Int32)) hx hb dX7_fewestOf_21 (by decide) ?_
        refine lv_ixor hx hb dX7_fewestOf_22 ?_
        refine lv_iand hx hb dX7_fewestOf_23 ?_
        refine lv_if_ne (tgt := 52) hx hb dX7_fewestOf_24 (by decide) (fun c2 => ?_) (fun c2 => ?_)
        · have h := it_f c2 h
          obtain ⟨y3, ey3⟩ : ∃ z : Int32, z = v4 + (-1 : Int32) := ⟨_, rfl⟩
          have h := nm_use h ey3
          refine lv_iinc (v := y3) (lv' := [(4, .int y3), (0, .ref a_o), (1, .int x1), (2, .int v2), (3, .int v3)]) hx hb dX7_fewestOf_52 hl (k := 4) rfl (by rw [ey3]; rfl) (by decide) rfl (fun ls hl => ?_)
          refine lv_goto (tgt := 13) hx hb dX7_fewestOf_55 (by decide) ?_
          exact ih _ _ _ _ _ h _ _ hP hD hS _ (lv_sub hl [1, 2, 3, 4, 0] rfl)
        · have h := it_t c2 h
          refine lv_iload hx hb dX7_fewestOf_27 (lv_at hl 4 rfl) ?_
          obtain ⟨r4, hc5, h⟩ := bd1_use h
          refine ro_S (As := [.int v4]) (rest := []) S (c_X7_ones l D cI cS v4 r4 hc5) (cwS1 hts csX7_ones wmX7_90 rfl rfl ⟨(Nat.le_of_ble_eq_true rfl), (Nat.le_of_ble_eq_true rfl)⟩) hK hP [] rfl rfl hl.1 rfl (Nat.le_of_ble_eq_true rfl) dX7_fewestOf_29 ⟨Nat.zero_le _, Nat.zero_le _⟩ rfl ?_
          refine lv_iload_n hx hb dX7_fewestOf_32 rfl (lv_at hl 3 rfl) ?_
          obtain ⟨r6, hc7, h⟩ := bd1_use h
          refine ro_S (As := [.int v3]) (rest := [.int r4]) S (c_X7_ones l D cI cS v3 r6 hc7) (cwS1 hts csX7_ones wmX7_90 rfl rfl ⟨(Nat.le_of_ble_eq_true rfl), (Nat.le_of_ble_eq_true rfl)⟩) hK hP [] rfl rfl hl.1 rfl (Nat.le_of_ble_eq_true rfl) dX7_fewestOf_33 ⟨Nat.zero_le _, Nat.zero_le _⟩ rfl ?_
          refine lv_icmp_gt (tgt := 52) hx hb dX7_fewestOf_36 (by decide) (fun c8 => ?_) (fun c8 => ?_)
          · have h := it_t c8 h
            obtain ⟨y9, ey9⟩ : ∃ z : Int32, z = v4 + (-1 : Int32) := ⟨_, rfl⟩
            have h := nm_use h ey9
            refine lv_iinc (v := y9) (lv' := [(4, .int y9), (0, .ref a_o), (1, .int x1), (2, .int v2), (3, .int v3)]) hx hb dX7_fewestOf_52 hl (k := 4) rfl (by rw [ey9]; rfl) (by decide) rfl (fun ls hl => ?_)
            refine lv_goto (tgt := 13) hx hb dX7_fewestOf_55 (by decide) ?_
            exact ih _ _ _ _ _ h _ _ hP hD hS _ (lv_sub hl [1, 2, 3, 4, 0] rfl)
          · have h := it_f c8 h
            refine lv_aload_n hx hb dX7_fewestOf_39 rfl (lv_at hl 0 rfl) ?_
            refine lv_iload_n hx hb dX7_fewestOf_40 rfl (lv_at hl 1 rfl) ?_
            refine lv_iload hx hb dX7_fewestOf_41 (lv_at hl 4 rfl) ?_
            obtain ⟨r10, w11, w12, hc13, h⟩ := bd3_use h
            refine wr_V (As := [.int x1, .int v4]) (rest := []) (ws' := [(a_o, .inr (6, [.ref a_o_now, .ref a_o_aside, .ref a_o_past, .int (o_states), .ref a_o_refusals, .ref a_o_text, .int (o_bytes), .ref a_o_tried, .int (w11), .ref a_o_shuffled, .ref a_o_letters, .ref a_o_numbers, .int (o_orders), .int (o_spot), .int (o_wrongAt), .long (o_hash)])), (a_o_now, .inl (cI, 52, .inl (o_now))), (a_o_tried, .inl (cI, 9, .inl (w12)))]) S (c_X7_flipsIn l D cI cS a_o a_o_now a_o_tried a_o_aside a_o_past a_o_refusals a_o_text a_o_shuffled a_o_letters a_o_numbers o_states o_bytes o_triedMany o_orders o_spot o_wrongAt o_hash o_now o_tried x1 v4 r10 w11 w12 hc13) (cwV1 hts cvX7_flipsIn wmX7_87 rfl rfl ⟨(Nat.le_of_ble_eq_true rfl), (Nat.le_of_ble_eq_true rfl)⟩) hK hP hD hS [0, 1, 2] rfl rfl [(true, 0), (true, 1), (true, 2)] rfl rfl rfl 0 rfl rfl rfl rfl hl.1 rfl (Nat.le_of_ble_eq_true rfl) dX7_fewestOf_43 ⟨Nat.zero_le _, Nat.zero_le _⟩ rfl (fun H locs hP hD hS => ?_)
            refine lv_if_eq (tgt := 52) hx hb dX7_fewestOf_46 (by decide) (fun c14 => ?_) (fun c14 => ?_)
            · have h := it_t c14 h
              obtain ⟨y15, ey15⟩ : ∃ z : Int32, z = v4 + (-1 : Int32) := ⟨_, rfl⟩
              have h := nm_use h ey15
              refine lv_iinc (v := y15) (lv' := [(4, .int y15), (0, .ref a_o), (1, .int x1), (2, .int v2), (3, .int v3)]) hx hb dX7_fewestOf_52 hl (k := 4) rfl (by rw [ey15]; rfl) (by decide) rfl (fun ls hl => ?_)
              refine lv_goto (tgt := 13) hx hb dX7_fewestOf_55 (by decide) ?_
              exact ih _ _ _ _ _ h _ _ hP hD hS _ (lv_sub hl [1, 2, 3, 4, 0] rfl)
            · have h := it_f c14 h
              refine lv_iload hx hb dX7_fewestOf_49 (lv_at hl 4 rfl) ?_
              refine lv_istore_n (lv' := [(3, .int v4), (0, .ref a_o), (1, .int x1), (2, .int v2), (4, .int v4)]) hx hb dX7_fewestOf_51 rfl hl (by decide) rfl (fun ls hl => ?_)
              obtain ⟨y16, ey16⟩ : ∃ z : Int32, z = v4 + (-1 : Int32) := ⟨_, rfl⟩
              have h := nm_use h ey16
              refine lv_iinc (v := y16) (lv' := [(4, .int y16), (3, .int v4), (0, .ref a_o), (1, .int x1), (2, .int v2)]) hx hb dX7_fewestOf_52 hl (k := 4) rfl (by rw [ey16]; rfl) (by decide) rfl (fun ls hl => ?_)
              refine lv_goto (tgt := 13) hx hb dX7_fewestOf_55 (by decide) ?_
              exact ih _ _ _ _ _ h _ _ hP hD hS _ (lv_sub hl [2, 3, 4, 1, 0] rfl)
  unfold f_X7_fewestOf at h
  refine lv_aload_n hx hb dX7_fewestOf_0 rfl (lv_at hl 0 rfl) ?_
  refine lv_iload_n hx hb dX7_fewestOf_1 rfl (lv_at hl 1 rfl) ?_
  obtain ⟨r17, hc18, h⟩ := bd1_use h
  refine ro_V (As := [.int x1]) (rest := []) S (c_X7_ahead l D cI cS a_o a_o_now a_o_aside a_o_past a_o_refusals a_o_text a_o_tried a_o_shuffled a_o_letters a_o_numbers o_states o_bytes o_triedMany o_orders o_spot o_wrongAt o_hash o_now x1 r17 hc18) (cwV1 hts cvX7_ahead wmX7_84 rfl rfl ⟨(Nat.le_of_ble_eq_true rfl), (Nat.le_of_ble_eq_true rfl)⟩) hK hP [0, 1] rfl 0 rfl rfl rfl rfl hl.1 rfl (Nat.le_of_ble_eq_true rfl) dX7_fewestOf_2 ⟨Nat.zero_le _, Nat.zero_le _⟩ rfl ?_
  refine lv_istore_n (lv' := [(2, .int r17), (0, .ref a_o), (1, .int x1)]) hx hb dX7_fewestOf_5 rfl hl (by decide) rfl (fun ls hl => ?_)
  refine lv_iload_n hx hb dX7_fewestOf_6 rfl (lv_at hl 0 rfl) ?_
  refine lv_istore_n (lv' := [(3, .int r17), (2, .int r17), (0, .ref a_o), (1, .int x1)]) hx hb dX7_fewestOf_7 rfl hl (by decide) rfl (fun ls hl => ?_)
  refine lv_sipush (v := (255 : Int32)) hx hb dX7_fewestOf_8 (by decide) ?_
  refine lv_istore (lv' := [(4, .int (255 : Int32)), (3, .int r17), (2, .int r17), (0, .ref a_o), (1, .int x1)]) hx hb dX7_fewestOf_11 hl (by decide) rfl (fun ls hl => ?_)
  exact L_13 _ _ _ _ _ _ h _ _ hP hD hS _ (lv_sub hl [3, 4, 2, 1, 0] rfl)
def f_X7_flips (o_now : Ar) (o_refusals : Ar) (o_shuffled : Ar) (x1 : Int32) : Option (Int32 × Ar × Ar) := bd1 (f_X7_in x1 (0 : Int32) (999999 : Int32)) (fun r1 => (if (b2i r1) = (0 : Int32) then bd2 (f_X7_refuses o_refusals (-2 : Int32)) (fun r4 w5 => some (r4, w5, o_shuffled)) else bd2 (f_X7_flipsBy o_now o_shuffled x1) (fun r7 w8 => some (r7, o_refusals, w8))))
set_option maxHeartbeats 4000000 in
set_option maxRecDepth 100000 in
theorem c_X7_flips (l : Launch) (D : va_G) (cI cS : ClassId) (a_o : Nat) (a_o_now : Nat) (a_o_refusals : Nat) (a_o_shuffled : Nat) (a_o_aside : Nat) (a_o_past : Nat) (a_o_text : Nat) (a_o_tried : Nat) (a_o_letters : Nat) (a_o_numbers : Nat) (o_states : Int32) (o_bytes : Int32) (o_triedMany : Int32) (o_orders : Int32) (o_spot : Int32) (o_wrongAt : Int32) (o_hash : Int64) (o_now : Ar) (o_refusals : Ar) (o_shuffled : Ar) (x1 : Int32) (r0 : Int32) (o_refusals' : Ar) (o_shuffled' : Ar) (h : f_X7_flips o_now o_refusals o_shuffled x1 = some (r0, o_refusals', o_shuffled')) : wrM l D cI cS yX7_flips cX7_flips 2 (some .int) 4 92 [.ref a_o, .int x1] [(a_o, .inr (6, [.ref a_o_now, .ref a_o_aside, .ref a_o_past, .int (o_states), .ref a_o_refusals, .ref a_o_text, .int (o_bytes), .ref a_o_tried, .int (o_triedMany), .ref a_o_shuffled, .ref a_o_letters, .ref a_o_numbers, .int (o_orders), .int (o_spot), .int (o_wrongAt), .long (o_hash)])), (a_o_now, .inl (cI, 52, .inl (o_now))), (a_o_refusals, .inl (cI, 3, .inl (o_refusals))), (a_o_shuffled, .inl (cI, 8, .inl (o_shuffled)))] [(a_o, .inr (6, [.ref a_o_now, .ref a_o_aside, .ref a_o_past, .int (o_states), .ref a_o_refusals, .ref a_o_text, .int (o_bytes), .ref a_o_tried, .int (o_triedMany), .ref a_o_shuffled, .ref a_o_letters, .ref a_o_numbers, .int (o_orders), .int (o_spot), .int (o_wrongAt), .long (o_hash)])), (a_o_now, .inl (cI, 52, .inl (o_now))), (a_o_refusals, .inl (cI, 3, .inl (o_refusals'))), (a_o_shuffled, .inl (cI, 8, .inl (o_shuffled')))] (some (.int r0)) := by
  refine Met.ofW (cc := cX7_flips) (maxL := 2) (ret := (some .int)) (by decide) rfl ?_
  intro p e s m args below meth c s₁ B hml hv
  obtain ⟨rfl, hP, hK, hD0⟩ := hv
  have hx := B.exec
  have hb := B.bytes
  have hr := B.returns
  have hts : ∀ w ∈ GW, w.before _ s = true := fun w hw => atoms_spec (ws := mws yX7_flips cX7_flips 2 (some .int)) B.pre w (List.mem_cons_of_mem _ hw)
  have hown : s.vm.findClass RX7 = some m.cls := findClass_of_methodNamed B.named
  have hlocks := B.notSynchronized
  have hD := inW_self hD0
  generalize hAe : inW [(a_o, .inr (6, [.ref a_o_now, .ref a_o_aside, .ref a_o_past, .int (o_states), .ref a_o_refusals, .ref a_o_text, .int (o_bytes), .ref a_o_tried, .int (o_triedMany), .ref a_o_shuffled, .ref a_o_letters, .ref a_o_numbers, .int (o_orders), .int (o_spot), .int (o_wrongAt), .long (o_hash)])), (a_o_now, .inl (cI, 52, .inl (o_now))), (a_o_refusals, .inl (cI, 3, .inl (o_refusals))), (a_o_shuffled, .inl (cI, 8, .inl (o_shuffled)))] = A at hD ⊢
  have hS : va_S A s.heap s.heap [] := va_S.rf
  have hl := lv_entry ([.ref a_o, .int x1]) (n := 2) (Nat.le_of_ble_eq_true rfl)
  rw [lg_entry_eq]
  generalize (lg_sl ([.ref a_o, .int x1]) ++ List.replicate (2 - (lg_sl ([.ref a_o, .int x1])).length) Slot.unset).toArray = ls at hl ⊢
  have hl : lv_has ls 2 [(0, .ref a_o), (1, .int x1)] := hl
  have S : CallFix p m c cX7_flips 2 s _ GW RX7 := ⟨hx, hb, hml, hown, hts⟩
  unfold f_X7_flips at h
  refine lv_iload_n hx hb dX7_flips_0 rfl (lv_at hl 1 rfl) ?_
  refine lv_iconst (v := (0 : Int32)) hx hb dX7_flips_1 (by decide) ?_
  refine lv_ldc (v := (999999 : Int32)) hx hb hown (hts _ wkX7_111) dX7_flips_2 ?_
  obtain ⟨r1, hc2, h⟩ := bd1_use h
  refine ro_S (As := [.int x1, .int (0 : Int32), .int (999999 : Int32)]) (rest := []) S (c_X7_in l D cI cS x1 (0 : Int32) (999999 : Int32) r1 hc2) (cwS1 hts csX7_in wmX7_48 rfl rfl ⟨(Nat.le_of_ble_eq_true rfl), (Nat.le_of_ble_eq_true rfl)⟩) hK hP [] rfl rfl hl.1 rfl (Nat.le_of_ble_eq_true rfl) dX7_flips_4 ⟨Nat.zero_le _, Nat.zero_le _⟩ rfl ?_
  refine lv_if_eq (tgt := 18) hx hb dX7_flips_7 (by decide) (fun c3 => ?_) (fun c3 => ?_)
  · have h := it_t c3 h
    refine lv_aload_n hx hb dX7_flips_18 rfl (lv_at hl 0 rfl) ?_
    refine lv_bipush (v := (-2 : Int32)) hx hb dX7_flips_19 (by decide) ?_
    obtain ⟨r4, w5, hc6, h⟩ := bd2_use h
    refine wr_V (As := [.int (-2 : Int32)]) (rest := []) (ws' := [(a_o, .inr (6, [.ref a_o_now, .ref a_o_aside, .ref a_o_past, .int (o_states), .ref a_o_refusals, .ref a_o_text, .int (o_bytes), .ref a_o_tried, .int (o_triedMany), .ref a_o_shuffled, .ref a_o_letters, .ref a_o_numbers, .int (o_orders), .int (o_spot), .int (o_wrongAt), .long (o_hash)])), (a_o_now, .inl (cI, 52, .inl (o_now))), (a_o_refusals, .inl (cI, 3, .inl (w5))), (a_o_shuffled, .inl (cI, 8, .inl (o_shuffled)))]) S (c_X7_refuses l D cI cS a_o a_o_refusals a_o_now a_o_aside a_o_past a_o_text a_o_tried a_o_shuffled a_o_letters a_o_numbers o_states o_bytes o_triedMany o_orders o_spot o_wrongAt o_hash o_refusals (-2 : Int32) r4 w5 hc6) (cwV1 hts cvX7_refuses wmX7_41 rfl rfl ⟨(Nat.le_of_ble_eq_true rfl), (Nat.le_of_ble_eq_true rfl)⟩) hK hP hD hS [0, 2] rfl rfl [(true, 0), (false, 1), (true, 1), (false, 3)] rfl rfl rfl 0 rfl rfl rfl rfl hl.1 rfl (Nat.le_of_ble_eq_true rfl) dX7_flips_21 ⟨Nat.zero_le _, Nat.zero_le _⟩ rfl (fun H locs hP hD hS => ?_)
    cases h
    exact W.iret hx hb hr (fun t ht _ => ⟨rfl, by rw [ht]; exact hP, hS.F ht⟩) hS.2.2 dX7_flips_24
  · have h := it_f c3 h
    refine lv_aload_n hx hb dX7_flips_10 rfl (lv_at hl 0 rfl) ?_
    refine lv_iload_n hx hb dX7_flips_11 rfl (lv_at hl 1 rfl) ?_
    obtain ⟨r7, w8, hc9, h⟩ := bd2_use h
    refine wr_V (As := [.int x1]) (rest := []) (ws' := [(a_o, .inr (6, [.ref a_o_now, .ref a_o_aside, .ref a_o_past, .int (o_states), .ref a_o_refusals, .ref a_o_text, .int (o_bytes), .ref a_o_tried, .int (o_triedMany), .ref a_o_shuffled, .ref a_o_letters, .ref a_o_numbers, .int (o_orders), .int (o_spot), .int (o_wrongAt), .long (o_hash)])), (a_o_now, .inl (cI, 52, .inl (o_now))), (a_o_refusals, .inl (cI, 3, .inl (o_refusals))), (a_o_shuffled, .inl (cI, 8, .inl (w8)))]) S (c_X7_flipsBy l D cI cS a_o a_o_now a_o_shuffled a_o_aside a_o_past a_o_refusals a_o_text a_o_tried a_o_letters a_o_numbers o_states o_bytes o_triedMany o_orders o_spot o_wrongAt o_hash o_now o_shuffled x1 r7 w8 hc9) (cwV1 hts cvX7_flipsBy wmX7_162 rfl rfl ⟨(Nat.le_of_ble_eq_true rfl), (Nat.le_of_ble_eq_true rfl)⟩) hK hP hD hS [0, 1, 3] rfl rfl [(true, 0), (true, 1), (false, 2), (true, 2)] rfl rfl rfl 0 rfl rfl rfl rfl hl.1 rfl (Nat.le_of_ble_eq_true rfl) dX7_flips_12 ⟨Nat.zero_le _, Nat.zero_le _⟩ rfl (fun H locs hP hD hS => ?_)
    refine lv_goto (tgt := 24) hx hb dX7_flips_15 (by decide) ?_
    cases h
    exact W.iret hx hb hr (fun t ht _ => ⟨rfl, by rw [ht]; exact hP, hS.F ht⟩) hS.2.2 dX7_flips_24
def b_X7_halvesOf_150 (k_20 : Int32 → Int32 → Int32 → Ar → Option (Int32 × Int32 × Ar)) (v2 : Int32) (v3 : Int32) (o_triedMany : Int32) (o_tried : Ar) : Option (Int32 × Int32 × Ar) := (if v3 = (0 : Int32) then k_20 v2 (0 : Int32) o_triedMany o_tried else bd1 (f_X7_ones v2) (fun r2 => (if r2 ≤ (1 : Int32) then k_20 v2 (0 : Int32) o_triedMany o_tried else k_20 v2 (1 : Int32) o_triedMany o_tried)))
def b_X7_halvesOf_75 (o_now : Ar) (k_20 : Int32 → Int32 → Int32 → Ar → Option (Int32 × Int32 × Ar)) (k_38 : Int32 → Int32 → Int32 → Int32 → Int32 → Int32 → Ar → Option (Int32 × Int32 × Ar)) (v2 : Int32) (v3 : Int32) (v4 : Int32) (v5 : Int32) (v6 : Int32) (s0 : Int32) (o_triedMany : Int32) (o_tried : Ar) : Option (Int32 × Int32 × Ar) := (if s0 = (0 : Int32) then nm (v4 ||| (0 : Int32)) (fun y6 => nm (v6 + (1 : Int32)) (fun y7 => k_38 v2 v3 y6 v5 y7 o_triedMany o_tried)) else rd o_now 52 ((4 : Int32) + v6) (fun rv8 => nm (v4 ||| ((1 : Int32) <<< (rv8 &&& (31 : Int32)))) (fun y10 => nm (v6 + (1 : Int32)) (fun y11 => k_38 v2 v3 y10 v5 y11 o_triedMany o_tried))))
def b_X7_halvesOf_38 (o_now : Ar) (x1 : Int32) (k_20 : Int32 → Int32 → Int32 → Ar → Option (Int32 × Int32 × Ar)) : Nat → Int32 → Int32 → Int32 → Int32 → Int32 → Int32 → Ar → Option (Int32 × Int32 × Ar)
  | 0, _, _, _, _, _, _, _ => none
  | n + 1, v2, v3, v4, v5, v6, o_triedMany, o_tried => (if x1 ≤ v6 then nm (v2 &&& (v4 ^^^ (-1 : Int32))) (fun y13 => bd3 (f_X7_flipsIn o_triedMany o_now o_tried x1 v4) (fun r14 w15 w16 => (if (b2i r14) = (0 : Int32) then bd3 (f_X7_flipsIn w15 o_now w16 x1 y13) (fun r19 w20 w21 => (if (b2i r19) = (0 : Int32) then b_X7_halvesOf_150  k_20 v2 (0 : Int32) w20 w21 else b_X7_halvesOf_150  k_20 y13 v3 w20 w21)) else b_X7_halvesOf_150  k_20 v4 v3 w15 w16))) else rd o_now 52 ((4 : Int32) + v6) (fun rv24 => bd1 (f_X7_has v2 rv24) (fun r26 => (if (b2i r26) = (0 : Int32) then b_X7_halvesOf_75 o_now k_20 (fun z0 z1 z2 z3 z4 z5 z6 => b_X7_halvesOf_38 o_now x1 k_20 n z0 z1 z2 z3 z4 z5 z6) v2 v3 v4 v5 v6 (0 : Int32) o_triedMany o_tried else bd1 (f_X7_ones v4) (fun r29 => (if v5 ≤ r29 then b_X7_halvesOf_75 o_now k_20 (fun z0 z1 z2 z3 z4 z5 z6 => b_X7_halvesOf_38 o_now x1 k_20 n z0 z1 z2 z3 z4 z5 z6) v2 v3 v4 v5 v6 (0 : Int32) o_triedMany o_tried else b_X7_halvesOf_75 o_now k_20 (fun z0 z1 z2 z3 z4 z5 z6 => b_X7_halvesOf_38 o_now x1 k_20 n z0 z1 z2 z3 z4 z5 z6) v2 v3 v4 v5 v6 (1 : Int32) o_triedMany o_tried))))))
def b_X7_halvesOf_20 (o_now : Ar) (x1 : Int32) : Nat → Int32 → Int32 → Int32 → Ar → Option (Int32 × Int32 × Ar)
  | 0, _, _, _, _ => none
  | n + 1, v2, v3, o_triedMany, o_tried => (if v3 = (0 : Int32) then some (v2, o_triedMany, o_tried) else bd1 (f_X7_ones v2) (fun r33 => nm (r33 / (2 : Int32)) (fun y35 => b_X7_halvesOf_38 o_now x1 (fun z0 z1 z2 z3 => b_X7_halvesOf_20 o_now x1 n z0 z1 z2 z3) FU v2 v3 (0 : Int32) y35 (0 : Int32) o_triedMany o_tried)))
def f_X7_halvesOf (o_triedMany : Int32) (o_now : Ar) (o_tried : Ar) (x1 : Int32) : Option (Int32 × Int32 × Ar) := bd1 (f_X7_ahead o_now x1) (fun r36 => bd1 (f_X7_ones r36) (fun r38 => (if r38 ≤ (1 : Int32) then b_X7_halvesOf_20 o_now x1 FU r36 (0 : Int32) o_triedMany o_tried else b_X7_halvesOf_20 o_now x1 FU r36 (1 : Int32) o_triedMany o_tried)))
set_option maxHeartbeats 4000000 in
set_option maxRecDepth 100000 in
theorem c_X7_halvesOf (l : Launch) (D : va_G) (cI cS : ClassId) (a_o : Nat) (a_o_now : Nat) (a_o_tried : Nat) (a_o_aside : Nat) (a_o_past : Nat) (a_o_refusals : Nat) (a_o_text : Nat) (a_o_shuffled : Nat) (a_o_letters : Nat) (a_o_numbers : Nat) (o_states : Int32) (o_bytes : Int32) (o_triedMany : Int32) (o_orders : Int32) (o_spot : Int32) (o_wrongAt : Int32) (o_hash : Int64) (o_now : Ar) (o_tried : Ar) (x1 : Int32) (r0 : Int32) (o_triedMany' : Int32) (o_tried' : Ar) (h : f_X7_halvesOf o_triedMany o_now o_tried x1 = some (r0, o_triedMany', o_tried')) : wrM l D cI cS yX7_halvesOf cX7_halvesOf 8 (some .int) 6 132 [.ref a_o, .int x1] [(a_o, .inr (6, [.ref a_o_now, .ref a_o_aside, .ref a_o_past, .int (o_states), .ref a_o_refusals, .ref a_o_text, .int (o_bytes), .ref a_o_tried, .int (o_triedMany), .ref a_o_shuffled, .ref a_o_letters, .ref a_o_numbers, .int (o_orders), .int (o_spot), .int (o_wrongAt), .long (o_hash)])), (a_o_now, .inl (cI, 52, .inl (o_now))), (a_o_tried, .inl (cI, 9, .inl (o_tried)))] [(a_o, .inr (6, [.ref a_o_now, .ref a_o_aside, .ref a_o_past, .int (o_states), .ref a_o_refusals, .ref a_o_text, .int (o_bytes), .ref a_o_tried, .int (o_triedMany'), .ref a_o_shuffled, .ref a_o_letters, .ref a_o_numbers, .int (o_orders), .int (o_spot), .int (o_wrongAt), .long (o_hash)])), (a_o_now, .inl (cI, 52, .inl (o_now))), (a_o_tried, .inl (cI, 9, .inl (o_tried')))] (some (.int r0)) := by
  refine Met.ofW (cc := cX7_halvesOf) (maxL := 8) (ret := (some .int)) (by decide) rfl ?_
  intro p e s m args below meth c s₁ B hml hv
  obtain ⟨rfl, hP, hK, hD0⟩ := hv
  have hx := B.exec
  have hb := B.bytes
  have hr := B.returns
  have hts : ∀ w ∈ GW, w.before _ s = true := fun w hw => atoms_spec (ws := mws yX7_halvesOf cX7_halvesOf 8 (some .int)) B.pre w (List.mem_cons_of_mem _ hw)
  have hown : s.vm.findClass RX7 = some m.cls := findClass_of_methodNamed B.named
  have hlocks := B.notSynchronized
  have hD := inW_self hD0
  generalize hAe : inW [(a_o, .inr (6, [.ref a_o_now, .ref a_o_aside, .ref a_o_past, .int (o_states), .ref a_o_refusals, .ref a_o_text, .int (o_bytes), .ref a_o_tried, .int (o_triedMany), .ref a_o_shuffled, .ref a_o_letters, .ref a_o_numbers, .int (o_orders), .int (o_spot), .int (o_wrongAt), .long (o_hash)])), (a_o_now, .inl (cI, 52, .inl (o_now))), (a_o_tried, .inl (cI, 9, .inl (o_tried)))] = A at hD ⊢
  have hS : va_S A s.heap s.heap [] := va_S.rf
  have hl := lv_entry ([.ref a_o, .int x1]) (n := 8) (Nat.le_of_ble_eq_true rfl)
  rw [lg_entry_eq]
  generalize (lg_sl ([.ref a_o, .int x1]) ++ List.replicate (8 - (lg_sl ([.ref a_o, .int x1])).length) Slot.unset).toArray = ls at hl ⊢
  have hl : lv_has ls 8 [(0, .ref a_o), (1, .int x1)] := hl
  have S : CallFix p m c cX7_halvesOf 8 s _ GW RX7 := ⟨hx, hb, hml, hown, hts⟩
  have L_150 : ∀ (k_20 : Int32 → Int32 → Int32 → Ar → Option (Int32 × Int32 × Ar)) (hk_20 : ∀ (v2 : Int32) (v3 : Int32) (o_triedMany : Int32) (o_tried : Ar), k_20 v2 v3 o_triedMany o_tried = some (r0, o_triedMany', o_tried') → ∀ (H : Heap) (locs : List Loc), va_P D vwCl [(a_o, .inr (6, [.ref a_o_now, .ref a_o_aside, .ref a_o_past, .int (o_states), .ref a_o_refusals, .ref a_o_text, .int (o_bytes), .ref a_o_tried, .int (o_triedMany), .ref a_o_shuffled, .ref a_o_letters, .ref a_o_numbers, .int (o_orders), .int (o_spot), .int (o_wrongAt), .long (o_hash)])), (a_o_now, .inl (cI, 52, .inl (o_now))), (a_o_tried, .inl (cI, 9, .inl (o_tried)))] H → va_D A [(a_o, .inr (6, [.ref a_o_now, .ref a_o_aside, .ref a_o_past, .int (o_states), .ref a_o_refusals, .ref a_o_text, .int (o_bytes), .ref a_o_tried, .int (o_triedMany), .ref a_o_shuffled, .ref a_o_letters, .ref a_o_numbers, .int (o_orders), .int (o_spot), .int (o_wrongAt), .long (o_hash)])), (a_o_now, .inl (cI, 52, .inl (o_now))), (a_o_tried, .inl (cI, 9, .inl (o_tried)))] → va_S A s.heap H locs → ∀ (ls : Array Slot), lv_has ls 8 [(0, .ref a_o), (1, .int x1), (2, .int v2), (3, .int v3)] → W p l e (headSpec (mws yX7_halvesOf cX7_halvesOf 8 (some .int)) { frames := 6, cells := 0, slots := 0, locals := 132 }).room s m [.ref a_o, .int x1].toArray below meth c H locs 0 0 (MQ below (wrQ D A [(a_o, .inr (6, [.ref a_o_now, .ref a_o_aside, .ref a_o_past, .int (o_states), .ref a_o_refusals, .ref a_o_text, .int (o_bytes), .ref a_o_tried, .int (o_triedMany'), .ref a_o_shuffled, .ref a_o_letters, .ref a_o_numbers, .int (o_orders), .int (o_spot), .int (o_wrongAt), .long (o_hash)])), (a_o_now, .inl (cI, 52, .inl (o_now))), (a_o_tried, .inl (cI, 9, .inl (o_tried')))] (some (.int r0))) [.ref a_o, .int x1].toArray s 0 0 A) (F0 m 20 ls [])) (v2 : Int32) (v3 : Int32) (o_triedMany : Int32) (o_tried : Ar), b_X7_halvesOf_150  k_20 v2 v3 o_triedMany o_tried = some (r0, o_triedMany', o_tried') → ∀ (H : Heap) (locs : List Loc), va_P D vwCl [(a_o, .inr (6, [.ref a_o_now, .ref a_o_aside, .ref a_o_past, .int (o_states), .ref a_o_refusals, .ref a_o_text, .int (o_bytes), .ref a_o_tried, .int (o_triedMany), .ref a_o_shuffled, .ref a_o_letters, .ref a_o_numbers, .int (o_orders), .int (o_spot), .int (o_wrongAt), .long (o_hash)])), (a_o_now, .inl (cI, 52, .inl (o_now))), (a_o_tried, .inl (cI, 9, .inl (o_tried)))] H → va_D A [(a_o, .inr (6, [.ref a_o_now, .ref a_o_aside, .ref a_o_past, .int (o_states), .ref a_o_refusals, .ref a_o_text, .int (o_bytes), .ref a_o_tried, .int (o_triedMany), .ref a_o_shuffled, .ref a_o_letters, .ref a_o_numbers, .int (o_orders), .int (o_spot), .int (o_wrongAt), .long (o_hash)])), (a_o_now, .inl (cI, 52, .inl (o_now))), (a_o_tried, .inl (cI, 9, .inl (o_tried)))] → va_S A s.heap H locs → ∀ (ls : Array Slot), lv_has ls 8 [(0, .ref a_o), (1, .int x1), (2, .int v2), (3, .int v3)] → W p l e (headSpec (mws yX7_halvesOf cX7_halvesOf 8 (some .int)) { frames := 6, cells := 0, slots := 0, locals := 132 }).room s m [.ref a_o, .int x1].toArray below meth c H locs 0 0 (MQ below (wrQ D A [(a_o, .inr (6, [.ref a_o_now, .ref a_o_aside, .ref a_o_past, .int (o_states), .ref a_o_refusals, .ref a_o_text, .int (o_bytes), .ref a_o_tried, .int (o_triedMany'), .ref a_o_shuffled, .ref a_o_letters, .ref a_o_numbers, .int (o_orders), .int (o_spot), .int (o_wrongAt), .long (o_hash)])), (a_o_now, .inl (cI, 52, .inl (o_now))), (a_o_tried, .inl (cI, 9, .inl (o_tried')))] (some (.int r0))) [.ref a_o, .int x1].toArray s 0 0 A) (F0 m 150 ls []) := by
    intro k_20 hk_20 v2 v3 o_triedMany o_tried h H locs hP hD hS ls hl
    unfold b_X7_halvesOf_150 at h
    refine lv_iload_n hx hb dX7_halvesOf_150 rfl (lv_at hl 3 rfl) ?_
    refine lv_if_eq (tgt := 166) hx hb dX7_halvesOf_151 (by decide) (fun c1 => ?_) (fun c1 => ?_)
    · have h := it_t c1 h
      refine lv_iconst (v := (0 : Int32)) hx hb dX7_halvesOf_166 (by decide) ?_
      refine lv_istore_n (lv' := [(3, .int (0 : Int32)), (0, .ref a_o), (1, .int x1), (2, .int v2)]) hx hb dX7_halvesOf_167 rfl hl (by decide) rfl (fun ls hl => ?_)
      refine lv_goto (tgt := 20) hx hb dX7_halvesOf_168 (by decide) ?_
      exact hk_20 _ _ _ _ h _ _ hP hD hS _ (lv_sub hl [1, 2, 3, 0] rfl)
    · have h := it_f c1 h
      refine lv_iload_n hx hb dX7_halvesOf_154 rfl (lv_at hl 2 rfl) ?_
      obtain ⟨r2, hc3, h⟩ := bd1_use h
      refine ro_S (As := [.int v2]) (rest := []) S (c_X7_ones l D cI cS v2 r2 hc3) (cwS1 hts csX7_ones wmX7_90 rfl rfl ⟨(Nat.le_of_ble_eq_true rfl), (Nat.le_of_ble_eq_true rfl)⟩) hK hP [] rfl rfl hl.1 rfl (Nat.le_of_ble_eq_true rfl) dX7_halvesOf_155 ⟨Nat.zero_le _, Nat.zero_le _⟩ rfl ?_
      refine lv_iconst (v := (1 : Int32)) hx hb dX7_halvesOf_158 (by decide) ?_
      refine lv_icmp_le (tgt := 166) hx hb dX7_halvesOf_159 (by decide) (fun c4 => ?_) (fun c4 => ?_)
      · have h := it_t c4 h
        refine lv_iconst (v := (0 : Int32)) hx hb dX7_halvesOf_166 (by decide) ?_
        refine lv_istore_n (lv' := [(3, .int (0 : Int32)), (0, .ref a_o), (1, .int x1), (2, .int v2)]) hx hb dX7_halvesOf_167 rfl hl (by decide) rfl (fun ls hl => ?_)
        refine lv_goto (tgt := 20) hx hb dX7_halvesOf_168 (by decide) ?_
        exact hk_20 _ _ _ _ h _ _ hP hD hS _ (lv_sub hl [1, 2, 3, 0] rfl)
      · have h := it_f c4 h
        refine lv_iconst (v := (1 : Int32)) hx hb dX7_halvesOf_162 (by decide) ?_
        refine lv_goto (tgt := 167) hx hb dX7_halvesOf_163 (by decide) ?_
        refine lv_istore_n (lv' := [(3, .int (1 : Int32)), (0, .ref a_o), (1, .int x1), (2, .int v2)]) hx hb dX7_halvesOf_167 rfl hl (by decide) rfl (fun ls hl => ?_)
        refine lv_goto (tgt := 20) hx hb dX7_halvesOf_168 (by decide) ?_
        exact hk_20 _ _ _ _ h _ _ hP hD hS _ (lv_sub hl [1, 2, 3, 0] rfl)
  have L_75 : ∀ (k_20 : Int32 → Int32 → Int32 → Ar → Option (Int32 × Int32 × Ar)) (hk_20 : ∀ (v2 : Int32) (v3 : Int32) (o_triedMany : Int32) (o_tried : Ar), k_20 v2 v3 o_triedMany o_tried = some (r0, o_triedMany', o_tried') → ∀ (H : Heap) (locs : List Loc), va_P D vwCl [(a_o, .inr (6, [.ref a_o_now, .ref a_o_aside, .ref a_o_past, .int (o_states), .ref a_o_refusals, .ref a_o_text, .int (o_bytes), .ref a_o_tried, .int (o_triedMany), .ref a_o_shuffled, .ref a_o_letters, .ref a_o_numbers, .int (o_orders), .int (o_spot), .int (o_wrongAt), .long (o_hash)])), (a_o_now, .inl (cI, 52, .inl (o_now))), (a_o_tried, .inl (cI, 9, .inl (o_tried)))] H → va_D A [(a_o, .inr (6, [.ref a_o_now, .ref a_o_aside, .ref a_o_past, .int (o_states), .ref a_o_refusals, .ref a_o_text, .int (o_bytes), .ref a_o_tried, .int (o_triedMany), .ref a_o_shuffled, .ref a_o_letters, .ref a_o_numbers, .int (o_orders), .int (o_spot), .int (o_wrongAt), .long (o_hash)])), (a_o_now, .inl (cI, 52, .inl (o_now))), (a_o_tried, .inl (cI, 9, .inl (o_tried)))] → va_S A s.heap H locs → ∀ (ls : Array Slot), lv_has ls 8 [(0, .ref a_o), (1, .int x1), (2, .int v2), (3, .int v3)] → W p l e (headSpec (mws yX7_halvesOf cX7_halvesOf 8 (some .int)) { frames := 6, cells := 0, slots := 0, locals := 132 }).room s m [.ref a_o, .int x1].toArray below meth c H locs 0 0 (MQ below (wrQ D A [(a_o, .inr (6, [.ref a_o_now, .ref a_o_aside, .ref a_o_past, .int (o_states), .ref a_o_refusals, .ref a_o_text, .int (o_bytes), .ref a_o_tried, .int (o_triedMany'), .ref a_o_shuffled, .ref a_o_letters, .ref a_o_numbers, .int (o_orders), .int (o_spot), .int (o_wrongAt), .long (o_hash)])), (a_o_now, .inl (cI, 52, .inl (o_now))), (a_o_tried, .inl (cI, 9, .inl (o_tried')))] (some (.int r0))) [.ref a_o, .int x1].toArray s 0 0 A) (F0 m 20 ls [])) (k_38 : Int32 → Int32 → Int32 → Int32 → Int32 → Int32 → Ar → Option (Int32 × Int32 × Ar)) (hk_38 : ∀ (v2 : Int32) (v3 : Int32) (v4 : Int32) (v5 : Int32) (v6 : Int32) (o_triedMany : Int32) (o_tried : Ar), k_38 v2 v3 v4 v5 v6 o_triedMany o_tried = some (r0, o_triedMany', o_tried') → ∀ (H : Heap) (locs : List Loc), va_P D vwCl [(a_o, .inr (6, [.ref a_o_now, .ref a_o_aside, .ref a_o_past, .int (o_states), .ref a_o_refusals, .ref a_o_text, .int (o_bytes), .ref a_o_tried, .int (o_triedMany), .ref a_o_shuffled, .ref a_o_letters, .ref a_o_numbers, .int (o_orders), .int (o_spot), .int (o_wrongAt), .long (o_hash)])), (a_o_now, .inl (cI, 52, .inl (o_now))), (a_o_tried, .inl (cI, 9, .inl (o_tried)))] H → va_D A [(a_o, .inr (6, [.ref a_o_now, .ref a_o_aside, .ref a_o_past, .int (o_states), .ref a_o_refusals, .ref a_o_text, .int (o_bytes), .ref a_o_tried, .int (o_triedMany), .ref a_o_shuffled, .ref a_o_letters, .ref a_o_numbers, .int (o_orders), .int (o_spot), .int (o_wrongAt), .long (o_hash)])), (a_o_now, .inl (cI, 52, .inl (o_now))), (a_o_tried, .inl (cI, 9, .inl (o_tried)))] → va_S A s.heap H locs → ∀ (ls : Array Slot), lv_has ls 8 [(0, .ref a_o), (1, .int x1), (2, .int v2), (3, .int v3), (4, .int v4), (5, .int v5), (6, .int v6)] → W p l e (headSpec (mws yX7_halvesOf cX7_halvesOf 8 (some .int)) { frames := 6, cells := 0, slots := 0, locals := 132 }).room s m [.ref a_o, .int x1].toArray below meth c H locs 0 0 (MQ below (wrQ D A [(a_o, .inr (6, [.ref a_o_now, .ref a_o_aside, .ref a_o_past, .int (o_states), .ref a_o_refusals, .ref a_o_text, .int (o_bytes), .ref a_o_tried, .int (o_triedMany'), .ref a_o_shuffled, .ref a_o_letters, .ref a_o_numbers, .int (o_orders), .int (o_spot), .int (o_wrongAt), .long (o_hash)])), (a_o_now, .inl (cI, 52, .inl (o_now))), (a_o_tried, .inl (cI, 9, .inl (o_tried')))] (some (.int r0))) [.ref a_o, .int x1].toArray s 0 0 A) (F0 m 38 ls [])) (v2 : Int32) (v3 : Int32) (v4 : Int32) (v5 : Int32) (v6 : Int32) (s0 : Int32) (o_triedMany : Int32) (o_tried : Ar), b_X7_halvesOf_75 o_now k_20 k_38 v2 v3 v4 v5 v6 s0 o_triedMany o_tried = some (r0, o_triedMany', o_tried') → ∀ (H : Heap) (locs : List Loc), va_P D vwCl [(a_o, .inr (6, [.ref a_o_now, .ref a_o_aside, .ref a_o_past, .int (o_states), .ref a_o_refusals, .ref a_o_text, .int (o_bytes), .ref a_o_tried, .int (o_triedMany), .ref a_o_shuffled, .ref a_o_letters, .ref a_o_numbers, .int (o_orders), .int (o_spot), .int (o_wrongAt), .long (o_hash)])), (a_o_now, .inl (cI, 52, .inl (o_now))), (a_o_tried, .inl (cI, 9, .inl (o_tried)))] H → va_D A [(a_o, .inr (6, [.ref a_o_now, .ref a_o_aside, .ref a_o_past, .int (o_states), .ref a_o_refusals, .ref a_o_text, .int (o_bytes), .ref a_o_tried, .int (o_triedMany), .ref a_o_shuffled, .ref a_o_letters, .ref a_o_numbers, .int (o_orders), .int (o_spot), .int (o_wrongAt), .long (o_hash)])), (a_o_now, .inl (cI, 52, .inl (o_now))), (a_o_tried, .inl (cI, 9, .inl (o_tried)))] → va_S A s.heap H locs → ∀ (ls : Array Slot), lv_has ls 8 [(0, .ref a_o), (1, .int x1), (2, .int v2), (3, .int v3), (4, .int v4), (5, .int v5), (6, .int v6)] → W p l e (headSpec (mws yX7_halvesOf cX7_halvesOf 8 (some .int)) { frames := 6, cells := 0, slots := 0, locals := 132 }).room s m [.ref a_o, .int x1].toArray below meth c H locs 0 0 (MQ below (wrQ D A [(a_o, .inr (6, [.ref a_o_now, .ref a_o_aside, .ref a_o_past, .int (o_states), .ref a_o_refusals, .ref a_o_text, .int (o_bytes), .ref a_o_tried, .int (o_triedMany'), .ref a_o_shuffled, .ref a_o_letters, .ref a_o_numbers, .int (o_orders), .int (o_spot), .int (o_wrongAt), .long (o_hash)])), (a_o_now, .inl (cI, 52, .inl (o_now))), (a_o_tried, .inl (cI, 9, .inl (o_tried')))] (some (.int r0))) [.ref a_o, .int x1].toArray s 0 0 A) (F0 m 75 ls [.int s0]) := by
    intro k_20 hk_20 k_38 hk_38 v2 v3 v4 v5 v6 s0 o_triedMany o_tried h H locs hP hD hS ls hl
    unfold b_X7_halvesOf_75 at h
    refine lv_istore (lv' := [(7, .int s0), (0, .ref a_o), (1, .int x1), (2, .int v2), (3, .int v3), (4, .int v4), (5, .int v5), (6, .int v6)]) hx hb dX7_halvesOf_75 hl (by decide) rfl (fun ls hl => ?_)
    refine lv_iload hx hb dX7_halvesOf_77 (lv_at hl 5 rfl) ?_
    refine lv_iload hx hb dX7_halvesOf_79 (lv_at hl 0 rfl) ?_
    refine lv_if_eq (tgt := 98) hx hb dX7_halvesOf_81 (by decide) (fun c5 => ?_) (fun c5 => ?_)
    · have h := it_t c5 h
      refine lv_iconst (v := (0 : Int32)) hx hb dX7_halvesOf_98 (by decide) ?_
      refine lv_ior hx hb dX7_halvesOf_99 ?_
      refine lv_topi (fun y6 ey6 => ?_)
      have h := nm_use h ey6
      refine lv_istore (lv' := [(4, .int y6), (7, .int s0), (0, .ref a_o), (1, .int x1), (2, .int v2), (3, .int v3), (5, .int v5), (6, .int v6)]) hx hb dX7_halvesOf_100 hl (by decide) rfl (fun ls hl => ?_)
      obtain ⟨y7, ey7⟩ : ∃ z : Int32, z = v6 + (1 : Int32) := ⟨_, rfl⟩
      have h := nm_use h ey7
      refine lv_iinc (v := y7) (lv' := [(6, .int y7), (4, .int y6), (7, .int s0), (0, .ref a_o), (1, .int x1), (2, .int v2), (3, .int v3), (5, .int v5)]) hx hb dX7_halvesOf_102 hl (k := 7) rfl (by rw [ey7]; rfl) (by decide) rfl (fun ls hl => ?_)
      refine lv_goto (tgt := 38) hx hb dX7_halvesOf_105 (by decide) ?_
      exact hk_38 _ _ _ _ _ _ _ h _ _ hP hD hS _ (lv_sub hl [3, 4, 5, 6, 1, 7, 0] rfl)
    · have h := it_f c5 h
      refine lv_iconst (v := (1 : Int32)) hx hb dX7_halvesOf_84 (by decide) ?_
      refine lv_aload_n hx hb dX7_halvesOf_85 rfl (lv_at hl 1 rfl) ?_
      refine gfX7_0 hx hb hts hown hK hP 0 rfl wfX7_7 dX7_halvesOf_86 ?_
      refine lv_iconst (v := (4 : Int32)) hx hb dX7_halvesOf_89 (by decide) ?_
      refine lv_iload hx hb dX7_halvesOf_90 (lv_at hl 7 rfl) ?_
      refine lv_iadd hx hb dX7_halvesOf_92 ?_
      obtain ⟨hi9, h⟩ := rd_use h
      refine ia_ hx hb hK hP 1 rfl hi9 dX7_halvesOf_93 ?_
      refine lv_ishl hx hb dX7_halvesOf_94 ?_
      refine lv_goto (tgt := 99) hx hb dX7_halvesOf_95 (by decide) ?_
      refine lv_ior hx hb dX7_halvesOf_99 ?_
      refine lv_topi (fun y10 ey10 => ?_)
      have h := nm_use h ey10
      refine lv_istore (lv' := [(4, .int y10), (7, .int s0), (0, .ref a_o), (1, .int x1), (2, .int v2), (3, .int v3), (5, .int v5), (6, .int v6)]) hx hb dX7_halvesOf_100 hl (by decide) rfl (fun ls hl => ?_)
      obtain ⟨y11, ey11⟩ : ∃ z : Int32, z = v6 + (1 : Int32) := ⟨_, rfl⟩
      have h := nm_use h ey11
      refine lv_iinc (v := y11) (lv' := [(6, .int y11), (4, .int y10), (7, .int s0), (0, .ref a_o), (1, .int x1), (2, .int v2), (3, .int v3), (5, .int v5)]) hx hb dX7_halvesOf_102 hl (k := 7) rfl (by rw [ey11]; rfl) (by decide) rfl (fun ls hl => ?_)
      refine lv_goto (tgt := 38) hx hb dX7_halvesOf_105 (by decide) ?_
      exact hk_38 _ _ _ _ _ _ _ h _ _ hP hD hS _ (lv_sub hl [3, 4, 5, 6, 1, 7, 0] rfl)
  have L_38 : ∀ (k_20 : Int32 → Int32 → Int32 → Ar → Option (Int32 × Int32 × Ar)) (hk_20 : ∀ (v2 : Int32) (v3 : Int32) (o_triedMany : Int32) (o_tried : Ar), k_20 v2 v3 o_triedMany o_tried = some (r0, o_triedMany', o_tried') → ∀ (H : Heap) (locs : List Loc), va_P D vwCl [(a_o, .inr (6, [.ref a_o_now, .ref a_o_aside, .ref a_o_past, .int (o_states), .ref a_o_refusals, .ref a_o_text, .int (o_bytes), .ref a_o_tried, .int (o_triedMany), .ref a_o_shuffled, .ref a_o_letters, .ref a_o_numbers, .int (o_orders), .int (o_spot), .int (o_wrongAt), .long (o_hash)])), (a_o_now, .inl (cI, 52, .inl (o_now))), (a_o_tried, .inl (cI, 9, .inl (o_tried)))] H → va_D A [(a_o, .inr (6, [.ref a_o_now, .ref a_o_aside, .ref a_o_past, .int (o_states), .ref a_o_refusals, .ref a_o_text, .int (o_bytes), .ref a_o_tried, .int (o_triedMany), .ref a_o_shuffled, .ref a_o_letters, .ref a_o_numbers, .int (o_orders), .int (o_spot), .int (o_wrongAt), .long (o_hash)])), (a_o_now, .inl (cI, 52, .inl (o_now))), (a_o_tried, .inl (cI, 9, .inl (o_tried)))] → va_S A s.heap H locs → ∀ (ls : Array Slot), lv_has ls 8 [(0, .ref a_o), (1, .int x1), (2, .int v2), (3, .int v3)] → W p l e (headSpec (mws yX7_halvesOf cX7_halvesOf 8 (some .int)) { frames := 6, cells := 0, slots := 0, locals := 132 }).room s m [.ref a_o, .int x1].toArray below meth c H locs 0 0 (MQ below (wrQ D A [(a_o, .inr (6, [.ref a_o_now, .ref a_o_aside, .ref a_o_past, .int (o_states), .ref a_o_refusals, .ref a_o_text, .int (o_bytes), .ref a_o_tried, .int (o_triedMany'), .ref a_o_shuffled, .ref a_o_letters, .ref a_o_numbers, .int (o_orders), .int (o_spot), .int (o_wrongAt), .long (o_hash)])), (a_o_now, .inl (cI, 52, .inl (o_now))), (a_o_tried, .inl (cI, 9, .inl (o_tried')))] (some (.int r0))) [.ref a_o, .int x1].toArray s 0 0 A) (F0 m 20 ls [])) (n : Nat) (v2 : Int32) (v3 : Int32) (v4 : Int32) (v5 : Int32) (v6 : Int32) (o_triedMany : Int32) (o_tried : Ar), b_X7_halvesOf_38 o_now x1 k_20 n v2 v3 v4 v5 v6 o_triedMany o_tried = some (r0, o_triedMany', o_tried') → ∀ (H : Heap) (locs : List Loc), va_P D vwCl [(a_o, .inr (6, [.ref a_o_now, .ref a_o_aside, .ref a_o_past, .int (o_states), .ref a_o_refusals, .ref a_o_text, .int (o_bytes), .ref a_o_tried, .int (o_triedMany), .ref a_o_shuffled, .ref a_o_letters, .ref a_o_numbers, .int (o_orders), .int (o_spot), .int (o_wrongAt), .long (o_hash)])), (a_o_now, .inl (cI, 52, .inl (o_now))), (a_o_tried, .inl (cI, 9, .inl (o_tried)))] H → va_D A [(a_o, .inr (6, [.ref a_o_now, .ref a_o_aside, .ref a_o_past, .int (o_states), .ref a_o_refusals, .ref a_o_text, .int (o_bytes), .ref a_o_tried, .int (o_triedMany), .ref a_o_shuffled, .ref a_o_letters, .ref a_o_numbers, .int (o_orders), .int (o_spot), .int (o_wrongAt), .long (o_hash)])), (a_o_now, .inl (cI, 52, .inl (o_now))), (a_o_tried, .inl (cI, 9, .inl (o_tried)))] → va_S A s.heap H locs → ∀ (ls : Array Slot), lv_has ls 8 [(0, .ref a_o), (1, .int x1), (2, .int v2), (3, .int v3), (4, .int v4), (5, .int v5), (6, .int v6)] → W p l e (headSpec (mws yX7_halvesOf cX7_halvesOf 8 (some .int)) { frames := 6, cells := 0, slots := 0, locals := 132 }).room s m [.ref a_o, .int x1].toArray below meth c H locs 0 0 (MQ below (wrQ D A [(a_o, .inr (6, [.ref a_o_now, .ref a_o_aside, .ref a_o_past, .int (o_states), .ref a_o_refusals, .ref a_o_text, .int (o_bytes), .ref a_o_tried, .int (o_triedMany'), .ref a_o_shuffled, .ref a_o_letters, .ref a_o_numbers, .int (o_orders), .int (o_spot), .int (o_wrongAt), .long (o_hash)])), (a_o_now, .inl (cI, 52, .inl (o_now))), (a_o_tried, .inl (cI, 9, .inl (o_tried')))] (some (.int r0))) [.ref a_o, .int x1].toArray s 0 0 A) (F0 m 38 ls []) := by
    intro k_20 hk_20 n
    induction n with
    | zero =>
      intro v2 v3 v4 v5 v6 o_triedMany o_tried h
      exact nn_no h
    | succ n ih =>
      intro v2 v3 v4 v5 v6 o_triedMany o_tried h H locs hP hD hS ls hl
      rw [b_X7_halvesOf_38] at h
      refine lv_iload hx hb dX7_halvesOf_38 (lv_at hl 6 rfl) ?_
      refine lv_iload_n hx hb dX7_halvesOf_40 rfl (lv_at hl 1 rfl) ?_
      refine lv_icmp_ge (tgt := 108) hx hb dX7_halvesOf_41 (by decide) (fun c12 => ?_) (fun c12 => ?_)
      · have h := it_t c12 h
        refine lv_iload_n hx hb dX7_halvesOf_108 rfl (lv_at hl 2 rfl) ?_
        refine lv_iload hx hb dX7_halvesOf_109 (lv_at hl 4 rfl) ?_
        refine lv_iconst (v := (-1 : Int32)) hx hb dX7_halvesOf_111 (by decide) ?_
        refine lv_ixor hx hb dX7_halvesOf_112 ?_
        refine lv_iand hx hb dX7_halvesOf_113 ?_
        refine lv_topi (fun y13 ey13 => ?_)
        have h := nm_use h ey13
        refine lv_istore (lv' := [(6, .int y13), (0, .ref a_o), (1, .int x1), (2, .int v2), (3, .int v3), (4, .int v4), (5, .int v5)]) hx hb dX7_halvesOf_114 hl (by decide) rfl (fun ls hl => ?_)
        refine lv_aload_n hx hb dX7_halvesOf_116 rfl (lv_at hl 1 rfl) ?_
        refine lv_iload_n hx hb dX7_halvesOf_117 rfl (lv_at hl 2 rfl) ?_
        refine lv_iload hx hb dX7_halvesOf_118 (lv_at hl 5 rfl) ?_
        obtain ⟨r14, w15, w16, hc17, h⟩ := bd3_use h
        refine wr_V (As := [.int x1, .int v4]) (rest := []) (ws' := [(a_o, .inr (6, [.ref a_o_now, .ref a_o_aside, .ref a_o_past, .int (o_states), .ref a_o_refusals, .ref a_o_text, .int (o_bytes), .ref a_o_tried, .int (w15), .ref a_o_shuffled, .ref a_o_letters, .ref a_o_numbers, .int (o_orders), .int (o_spot), .int (o_wrongAt), .long (o_hash)])), (a_o_now, .inl (cI, 52, .inl (o_now))), (a_o_tried, .inl (cI, 9, .inl (w16)))]) S (c_X7_flipsIn l D cI cS a_o a_o_now a_o_tried a_o_aside a_o_past a_o_refusals a_o_text a_o_shuffled a_o_letters a_o_numbers o_states o_bytes o_triedMany o_orders o_spot o_wrongAt o_hash o_now o_tried x1 v4 r14 w15 w16 hc17) (cwV1 hts cvX7_flipsIn wmX7_87 rfl rfl ⟨(Nat.le_of_ble_eq_true rfl), (Nat.le_of_ble_eq_true rfl)⟩) hK hP hD hS [0, 1, 2] rfl rfl [(true, 0), (true, 1), (true, 2)] rfl rfl rfl 0 rfl rfl rfl rfl hl.1 rfl (Nat.le_of_ble_eq_true rfl) dX7_halvesOf_120 ⟨Nat.zero_le _, Nat.zero_le _⟩ rfl (fun H locs hP hD hS => ?_)
        refine lv_if_eq (tgt := 132) hx hb dX7_halvesOf_123 (by decide) (fun c18 => ?_) (fun c18 => ?_)
        · have h := it_t c18 h
          refine lv_aload_n hx hb dX7_halvesOf_132 rfl (lv_at hl 1 rfl) ?_
          refine lv_iload_n hx hb dX7_halvesOf_133 rfl (lv_at hl 2 rfl) ?_
          refine lv_iload hx hb dX7_halvesOf_134 (lv_at hl 0 rfl) ?_
          obtain ⟨r19, w20, w21, hc22, h⟩ := bd3_use h
          refine wr_V (As := [.int x1, .int y13]) (rest := []) (ws' := [(a_o, .inr (6, [.ref a_o_now, .ref a_o_aside, .ref a_o_past, .int (o_states), .ref a_o_refusals, .ref a_o_text, .int (o_bytes), .ref a_o_tried, .int (w20), .ref a_o_shuffled, .ref a_o_letters, .ref a_o_numbers, .int (o_orders), .int (o_spot), .int (o_wrongAt), .long (o_hash)])), (a_o_now, .inl (cI, 52, .inl (o_now))), (a_o_tried, .inl (cI, 9, .inl (w21)))]) S (c_X7_flipsIn l D cI cS a_o a_o_now a_o_tried a_o_aside a_o_past a_o_refusals a_o_text a_o_shuffled a_o_letters a_o_numbers o_states o_bytes w15 o_orders o_spot o_wrongAt o_hash o_now w16 x1 y13 r19 w20 w21 hc22) (cwV1 hts cvX7_flipsIn wmX7_87 rfl rfl ⟨(Nat.le_of_ble_eq_true rfl), (Nat.le_of_ble_eq_true rfl)⟩) hK hP hD hS [0, 1, 2] rfl rfl [(true, 0), (true, 1), (true, 2)] rfl rfl rfl 0 rfl rfl rfl rfl hl.1 rfl (Nat.le_of_ble_eq_true rfl) dX7_halvesOf_136 ⟨Nat.zero_le _, Nat.zero_le _⟩ rfl (fun H locs hP hD hS => ?_)
          refine lv_if_eq (tgt := 148) hx hb dX7_halvesOf_139 (by decide) (fun c23 => ?_) (fun c23 => ?_)
          · have h := it_t c23 h
            refine lv_iconst (v := (0 : Int32)) hx hb dX7_halvesOf_148 (by decide) ?_
            refine lv_istore_n (lv' := [(3, .int (0 : Int32)), (6, .int y13), (0, .ref a_o), (1, .int x1), (2, .int v2), (4, .int v4), (5, .int v5)]) hx hb dX7_halvesOf_149 rfl hl (by decide) rfl (fun ls hl => ?_)
            exact L_150 k_20 hk_20 _ _ _ _ h _ _ hP hD hS _ (lv_sub hl [2, 3, 4, 0] rfl)
          · have h := it_f c23 h
            refine lv_iload hx hb dX7_halvesOf_142 (lv_at hl 0 rfl) ?_
            refine lv_istore_n (lv' := [(2, .int y13), (6, .int y13), (0, .ref a_o), (1, .int x1), (3, .int v3), (4, .int v4), (5, .int v5)]) hx hb dX7_halvesOf_144 rfl hl (by decide) rfl (fun ls hl => ?_)
            refine lv_goto (tgt := 150) hx hb dX7_halvesOf_145 (by decide) ?_
            exact L_150 k_20 hk_20 _ _ _ _ h _ _ hP hD hS _ (lv_sub hl [2, 3, 0, 4] rfl)
        · have h := it_f c18 h
          refine lv_iload hx hb dX7_halvesOf_126 (lv_at hl 5 rfl) ?_
          refine lv_istore_n (lv' := [(2, .int v4), (6, .int y13), (0, .ref a_o), (1, .int x1), (3, .int v3), (4, .int v4), (5, .int v5)]) hx hb dX7_halvesOf_128 rfl hl (by decide) rfl (fun ls hl => ?_)
          refine lv_goto (tgt := 150) hx hb dX7_halvesOf_129 (by decide) ?_
          exact L_150 k_20 hk_20 _ _ _ _ h _ _ hP hD hS _ (lv_sub hl [2, 3, 0, 4] rfl)
      · have h := it_f c12 h
        refine lv_iload_n hx hb dX7_halvesOf_44 rfl (lv_at hl 2 rfl) ?_
        refine lv_aload_n hx hb dX7_halvesOf_45 rfl (lv_at hl 0 rfl) ?_
        refine gfX7_0 hx hb hts hown hK hP 0 rfl wfX7_7 dX7_halvesOf_46 ?_
        refine lv_iconst (v := (4 : Int32)) hx hb dX7_halvesOf_49 (by decide) ?_
        refine lv_iload hx hb dX7_halvesOf_50 (lv_at hl 6 rfl) ?_
        refine lv_iadd hx hb dX7_halvesOf_52 ?_
        obtain ⟨hi25, h⟩ := rd_use h
        refine ia_ hx hb hK hP 1 rfl hi25 dX7_halvesOf_53 ?_
        obtain ⟨r26, hc27, h⟩ := bd1_use h
        refine ro_S (As := [.int v2, .int (o_now ((4 : Int32) + v6).toNatClampNeg)]) (rest := []) S (c_X7_has l D cI cS v2 (o_now ((4 : Int32) + v6).toNatClampNeg) r26 hc27) (cwS1 hts csX7_has wmX7_77 rfl rfl ⟨(Nat.le_of_ble_eq_true rfl), (Nat.le_of_ble_eq_true rfl)⟩) hK hP [] rfl rfl hl.1 rfl (Nat.le_of_ble_eq_true rfl) dX7_halvesOf_54 ⟨Nat.zero_le _, Nat.zero_le _⟩ rfl ?_
        refine lv_if_eq (tgt := 74) hx hb dX7_halvesOf_57 (by decide) (fun c28 => ?_) (fun c28 => ?_)
        · have h := it_t c28 h
          refine lv_iconst (v := (0 : Int32)) hx hb dX7_halvesOf_74 (by decide) ?_
          exact L_75 k_20 hk_20 _ ih _ _ _ _ _ _ _ _ h _ _ hP hD hS _ (lv_sub hl [0, 1, 2, 3, 4, 5, 6] rfl)
        · have h := it_f c28 h
          refine lv_iload hx hb dX7_halvesOf_60 (lv_at hl 4 rfl) ?_
          obtain ⟨r29, hc30, h⟩ := bd1_use h
          refine ro_S (As := [.int v4]) (rest := []) S (c_X7_ones l D cI cS v4 r29 hc30) (cwS1 hts csX7_ones wmX7_90 rfl rfl ⟨(Nat.le_of_ble_eq_true rfl), (Nat.le_of_ble_eq_true rfl)⟩) hK hP [] rfl rfl hl.1 rfl (Nat.le_of_ble_eq_true rfl) dX7_halvesOf_62 ⟨Nat.zero_le _, Nat.zero_le _⟩ rfl ?_
          refine lv_iload hx hb dX7_halvesOf_65 (lv_at hl 5 rfl) ?_
          refine lv_icmp_ge (tgt := 74) hx hb dX7_halvesOf_67 (by decide) (fun c31 => ?_) (fun c31 => ?_)
          · have h := it_t c31 h
            refine lv_iconst (v := (0 : Int32)) hx hb dX7_halvesOf_74 (by decide) ?_
            exact L_75 k_20 hk_20 _ ih _ _ _ _ _ _ _ _ h _ _ hP hD hS _ (lv_sub hl [0, 1, 2, 3, 4, 5, 6] rfl)
          · have h := it_f c31 h
            refine lv_iconst (v := (1 : Int32)) hx hb dX7_halvesOf_70 (by decide) ?_
            refine lv_goto (tgt := 75) hx hb dX7_halvesOf_71 (by decide) ?_
            exact L_75 k_20 hk_20 _ ih _ _ _ _ _ _ _ _ h _ _ hP hD hS _ (lv_sub hl [0, 1, 2, 3, 4, 5, 6] rfl)
  have L_20 : ∀ (n : Nat) (v2 : Int32) (v3 : Int32) (o_triedMany : Int32) (o_tried : Ar), b_X7_halvesOf_20 o_now x1 n v2 v3 o_triedMany o_tried = some (r0, o_triedMany', o_tried') → ∀ (H : Heap) (locs : List Loc), va_P D vwCl [(a_o, .inr (6, [.ref a_o_now, .ref a_o_aside, .ref a_o_past, .int (o_states), .ref a_o_refusals, .ref a_o_text, .int (o_bytes), .ref a_o_tried, .int (o_triedMany), .ref a_o_shuffled, .ref a_o_letters, .ref a_o_numbers, .int (o_orders), .int (o_spot), .int (o_wrongAt), .long (o_hash)])), (a_o_now, .inl (cI, 52, .inl (o_now))), (a_o_tried, .inl (cI, 9, .inl (o_tried)))] H → va_D A [(a_o, .inr (6, [.ref a_o_now, .ref a_o_aside, .ref a_o_past, .int (o_states), .ref a_o_refusals, .ref a_o_text, .int (o_bytes), .ref a_o_tried, .int (o_triedMany), .ref a_o_shuffled, .ref a_o_letters, .ref a_o_numbers, .int (o_orders), .int (o_spot), .int (o_wrongAt), .long (o_hash)])), (a_o_now, .inl (cI, 52, .inl (o_now))), (a_o_tried, .inl (cI, 9, .inl (o_tried)))] → va_S A s.heap H locs → ∀ (ls : Array Slot), lv_has ls 8 [(0, .ref a_o), (1, .int x1), (2, .int v2), (3, .int v3)] → W p l e (headSpec (mws yX7_halvesOf cX7_halvesOf 8 (some .int)) { frames := 6, cells := 0, slots := 0, locals := 132 }).room s m [.ref a_o, .int x1].toArray below meth c H locs 0 0 (MQ below (wrQ D A [(a_o, .inr (6, [.ref a_o_now, .ref a_o_aside, .ref a_o_past, .int (o_states), .ref a_o_refusals, .ref a_o_text, .int (o_bytes), .ref a_o_tried, .int (o_triedMany'), .ref a_o_shuffled, .ref a_o_letters, .ref a_o_numbers, .int (o_orders), .int (o_spot), .int (o_wrongAt), .long (o_hash)])), (a_o_now, .inl (cI, 52, .inl (o_now))), (a_o_tried, .inl (cI, 9, .inl (o_tried')))] (some (.int r0))) [.ref a_o, .int x1].toArray s 0 0 A) (F0 m 20 ls []) := by
    intro n
    induction n with
    | zero =>
      intro v2 v3 o_triedMany o_tried h
      exact nn_no h
    | succ n ih =>
      intro v2 v3 o_triedMany o_tried h H locs hP hD hS ls hl
      rw [b_X7_halvesOf_20] at h
      refine lv_iload_n hx hb dX7_halvesOf_20 rfl (lv_at hl 3 rfl) ?_
      refine lv_if_eq (tgt := 171) hx hb dX7_halvesOf_21 (by decide) (fun c32 => ?_) (fun c32 => ?_)
      · have h := it_t c32 h
        refine lv_iload_n hx hb dX7_halvesOf_171 rfl (lv_at hl 2 rfl) ?_
        cases h
        exact W.iret hx hb hr (fun t ht _ => ⟨rfl, by rw [ht]; exact hP, hS.F ht⟩) hS.2.2 dX7_halvesOf_172
      · have h := it_f c32 h
        refine lv_iconst (v := (0 : Int32)) hx hb dX7_halvesOf_24 (by decide) ?_
        refine lv_istore (lv' := [(4, .int (0 : Int32)), (0, .ref a_o), (1, .int x1), (2, .int v2), (3, .int v3)]) hx hb dX7_halvesOf_25 hl (by decide) rfl (fun ls hl => ?_)
        refine lv_iload_n hx hb dX7_halvesOf_27 rfl (lv_at hl 3 rfl) ?_
        obtain ⟨r33, hc34, h⟩ := bd1_use h
        refine ro_S (As := [.int v2]) (rest := []) S (c_X7_ones l D cI cS v2 r33 hc34) (cwS1 hts csX7_ones wmX7_90 rfl rfl ⟨(Nat.le_of_ble_eq_true rfl), (Nat.le_of_ble_eq_true rfl)⟩) hK hP [] rfl rfl hl.1 rfl (Nat.le_of_ble_eq_true rfl) dX7_halvesOf_28 ⟨Nat.zero_le _, Nat.zero_le _⟩ rfl ?_
        refine lv_iconst (v := (2 : Int32)) hx hb dX7_halvesOf_31 (by decide) ?_
        refine lv_idiv hx hb dX7_halvesOf_32 (by decide) ?_
        refine lv_topi (fun y35 ey35 => ?_)
        have h := nm_use h ey35
        refine lv_istore (lv' := [(5, .int y35), (4, .int (0 : Int32)), (0, .ref a_o), (1, .int x1), (2, .int v2), (3, .int v3)]) hx hb dX7_halvesOf_33 hl (by decide) rfl (fun ls hl => ?_)
        refine lv_iconst (v := (0 : Int32)) hx hb dX7_halvesOf_35 (by decide) ?_
        refine lv_istore (lv' := [(6, .int (0 : Int32)), (5, .int y35), (4, .int (0 : Int32)), (0, .ref a_o), (1, .int x1), (2, .int v2), (3, .int v3)]) hx hb dX7_halvesOf_36 hl (by decide) rfl (fun ls hl => ?_)
        exact L_38 _ ih _ _ _ _ _ _ _ _ h _ _ hP hD hS _ (lv_sub hl [3, 4, 5, 6, 2, 1, 0] rfl)
  unfold f_X7_halvesOf at h
  refine lv_aload_n hx hb dX7_halvesOf_0 rfl (lv_at hl 0 rfl) ?_
  refine lv_iload_n hx hb dX7_halvesOf_1 rfl (lv_at hl 1 rfl) ?_
  obtain ⟨r36, hc37, h⟩ := bd1_use h
  refine ro_V (As := [.int x1]) (rest := []) S (c_X7_ahead l D cI cS a_o a_o_now a_o_aside a_o_past a_o_refusals a_o_text a_o_tried a_o_shuffled a_o_letters a_o_numbers o_states o_bytes o_triedMany o_orders o_spot o_wrongAt o_hash o_now x1 r36 hc37) (cwV1 hts cvX7_ahead wmX7_84 rfl rfl ⟨(Nat.le_of_ble_eq_true rfl), (Nat.le_of_ble_eq_true rfl)⟩) hK hP [0, 1] rfl 0 rfl rfl rfl rfl hl.1 rfl (Nat.le_of_ble_eq_true rfl) dX7_halvesOf_2 ⟨Nat.zero_le _, Nat.zero_le _⟩ rfl ?_
  refine lv_istore_n (lv' := [(2, .int r36), (0, .ref a_o), (1, .int x1)]) hx hb dX7_halvesOf_5 rfl hl (by decide) rfl (fun ls hl => ?_)
  refine lv_iload_n hx hb dX7_halvesOf_6 rfl (lv_at hl 0 rfl) ?_
  obtain ⟨r38, hc39, h⟩ := bd1_use h
  refine ro_S (As := [.int r36]) (rest := []) S (c_X7_ones l D cI cS r36 r38 hc39) (cwS1 hts csX7_ones wmX7_90 rfl rfl ⟨(Nat.le_of_ble_eq_true rfl), (Nat.le_of_ble_eq_true rfl)⟩) hK hP [] rfl rfl hl.1 rfl (Nat.le_of_ble_eq_true rfl) dX7_halvesOf_7 ⟨Nat.zero_le _, Nat.zero_le _⟩ rfl ?_
  refine lv_iconst (v := (1 : Int32)) hx hb dX7_halvesOf_10 (by decide) ?_
  refine lv_icmp_le (tgt := 18) hx hb dX7_halvesOf_11 (by decide) (fun c40 => ?_) (fun c40 => ?_)
  · have h := it_t c40 h
    refine lv_iconst (v := (0 : Int32)) hx hb dX7_halvesOf_18 (by decide) ?_
    refine lv_istore_n (lv' := [(3, .int (0 : Int32)), (2, .int r36), (0, .ref a_o), (1, .int x1)]) hx hb dX7_halvesOf_19 rfl hl (by decide) rfl (fun ls hl => ?_)
    exact L_20 _ _ _ _ _ h _ _ hP hD hS _ (lv_sub hl [2, 3, 1, 0] rfl)
  · have h := it_f c40 h
    refine lv_iconst (v := (1 : Int32)) hx hb dX7_halvesOf_14 (by decide) ?_
    refine lv_goto (tgt := 19) hx hb dX7_halvesOf_15 (by decide) ?_
    refine lv_istore_n (lv' := [(3, .int (1 : Int32)), (2, .int r36), (0, .ref a_o), (1, .int x1)]) hx hb dX7_halvesOf_19 rfl hl (by decide) rfl (fun ls hl => ?_)
    exact L_20 _ _ _ _ _ h _ _ hP hD hS _ (lv_sub hl [2, 3, 1, 0] rfl)
def f_X7_inRow (o_triedMany : Int32) (o_now : Ar) (o_refusals : Ar) (o_tried : Ar) (x1 : Int32) (x2 : Int32) : Option (Int32 × Int32 × Ar × Ar) := bd1 (f_X7_isTest o_now x1) (fun r1 => (if (b2i r1) = (0 : Int32) then bd2 (f_X7_refuses o_refusals (-2 : Int32)) (fun r4 w5 => some (r4, o_triedMany, w5, o_tried)) else bd1 (f_X7_in x2 (0 : Int32) (4 : Int32)) (fun r7 => (if (b2i r7) = (0 : Int32) then bd2 (f_X7_refuses o_refusals (-2 : Int32)) (fun r20 w21 => some (r20, o_triedMany, w21, o_tried)) else bd1 (f_X7_placeOf o_now x1) (fun r10 => (if r10 = (-1 : Int32) then bd2 (f_X7_refuses o_refusals (-3 : Int32)) (fun r17 w18 => some (r17, o_triedMany, w18, o_tried)) else bd3 (f_X7_placeTold o_triedMany o_now o_tried r10 x2) (fun r13 w14 w15 => some (r13, w14, o_refusals, w15))))))))
set_option maxHeartbeats 4000000 in
set_option maxRecDepth 100000 in
theorem c_X7_inRow (l : Launch) (D : va_G) (cI cS : ClassId) (a_o : Nat) (a_o_now : Nat) (a_o_refusals : Nat) (a_o_tried : Nat) (a_o_aside : Nat) (a_o_past : Nat) (a_o_text : Nat) (a_o_shuffled : Nat) (a_o_letters : Nat) (a_o_numbers : Nat) (o_states : Int32) (o_bytes : Int32) (o_triedMany : Int32) (o_orders : Int32) (o_spot : Int32) (o_wrongAt : Int32) (o_hash : Int64) (o_now : Ar) (o_refusals : Ar) (o_tried : Ar) (x1 : Int32) (x2 : Int32) (r0 : Int32) (o_triedMany' : Int32) (o_refusals' : Ar) (o_tried' : Ar) (h : f_X7_inRow o_triedMany o_now o_refusals o_tried x1 x2 = some (r0, o_triedMany', o_refusals', o_tried')) : wrM l D cI cS yX7_inRow cX7_inRow 4 (some .int) 5 113 [.ref a_o, .int x1, .int x2] [(a_o, .inr (6, [.ref a_o_now, .ref a_o_aside, .ref a_o_past, .int (o_states), .ref a_o_refusals, .ref a_o_text, .int (o_bytes), .ref a_o_tried, .int (o_triedMany), .ref a_o_shuffled, .ref a_o_letters, .ref a_o_numbers, .int (o_orders), .int (o_spot), .int (o_wrongAt), .long (o_hash)])), (a_o_now, .inl (cI, 52, .inl (o_now))), (a_o_refusals, .inl (cI, 3, .inl (o_refusals))), (a_o_tried, .inl (cI, 9, .inl (o_tried)))] [(a_o, .inr (6, [.ref a_o_now, .ref a_o_aside, .ref a_o_past, .int (o_states), .ref a_o_refusals, .ref a_o_text, .int (o_bytes), .ref a_o_tried, .int (o_triedMany'), .ref a_o_shuffled, .ref a_o_letters, .ref a_o_numbers, .int (o_orders), .int (o_spot), .int (o_wrongAt), .long (o_hash)])), (a_o_now, .inl (cI, 52, .inl (o_now))), (a_o_refusals, .inl (cI, 3, .inl (o_refusals'))), (a_o_tried, .inl (cI, 9, .inl (o_tried')))] (some (.int r0)) := by
  refine Met.ofW (cc := cX7_inRow) (maxL := 4) (ret := (some .int)) (by decide) rfl ?_
  intro p e s m args below meth c s₁ B hml hv
  obtain ⟨rfl, hP, hK, hD0⟩ := hv
  have hx := B.exec
  have hb := B.bytes
  have hr := B.returns
  have hts : ∀ w ∈ GW, w.before _ s = true := fun w hw => atoms_spec (ws := mws yX7_inRow cX7_inRow 4 (some .int)) B.pre w (List.mem_cons_of_mem _ hw)
  have hown : s.vm.findClass RX7 = some m.cls := findClass_of_methodNamed B.named
  have hlocks := B.notSynchronized
  have hD := inW_self hD0
  generalize hAe : inW [(a_o, .inr (6, [.ref a_o_now, .ref a_o_aside, .ref a_o_past, .int (o_states), .ref a_o_refusals, .ref a_o_text, .int (o_bytes), .ref a_o_tried, .int (o_triedMany), .ref a_o_shuffled, .ref a_o_letters, .ref a_o_numbers, .int (o_orders), .int (o_spot), .int (o_wrongAt), .long (o_hash)])), (a_o_now, .inl (cI, 52, .inl (o_now))), (a_o_refusals, .inl (cI, 3, .inl (o_refusals))), (a_o_tried, .inl (cI, 9, .inl (o_tried)))] = A at hD ⊢
  have hS : va_S A s.heap s.heap [] := va_S.rf
  have hl := lv_entry ([.ref a_o, .int x1, .int x2]) (n := 4) (Nat.le_of_ble_eq_true rfl)
  rw [lg_entry_eq]
  generalize (lg_sl ([.ref a_o, .int x1, .int x2]) ++ List.replicate (4 - (lg_sl ([.ref a_o, .int x1, .int x2])).length) Slot.unset).toArray = ls at hl ⊢
  have hl : lv_has ls 4 [(0, .ref a_o), (1, .int x1), (2, .int x2)] := hl
  have S : CallFix p m c cX7_inRow 4 s _ GW RX7 := ⟨hx, hb, hml, hown, hts⟩
  unfold f_X7_inRow at h
  refine lv_aload_n hx hb dX7_inRow_0 rfl (lv_at hl 0 rfl) ?_
  refine lv_iload_n hx hb dX7_inRow_1 rfl (lv_at hl 1 rfl) ?_
  obtain ⟨r1, hc2, h⟩ := bd1_use h
  refine ro_V (As := [.int x1]) (rest := []) S (c_X7_isTest l D cI cS a_o a_o_now a_o_aside a_o_past a_o_refusals a_o_text a_o_tried a_o_shuffled a_o_letters a_o_numbers o_states o_bytes o_triedMany o_orders o_spot o_wrongAt o_hash o_now x1 r1 hc2) (cwV1 hts cvX7_isTest wmX7_100 rfl rfl ⟨(Nat.le_of_ble_eq_true rfl), (Nat.le_of_ble_eq_true rfl)⟩) hK hP [0, 1] rfl 0 rfl rfl rfl rfl hl.1 rfl (Nat.le_of_ble_eq_true rfl) dX7_inRow_2 ⟨Nat.zero_le _, Nat.zero_le _⟩ rfl ?_
  refine lv_if_eq (tgt := 17) hx hb dX7_inRow_5 (by decide) (fun c3 => ?_) (fun c3 => ?_)
  · have h := it_t c3 h
    refine lv_aload_n hx hb dX7_inRow_17 rfl (lv_at hl 0 rfl) ?_
    refine lv_bipush (v := (-2 : Int32)) hx hb dX7_inRow_18 (by decide) ?_
    obtain ⟨r4, w5, hc6, h⟩ := bd2_use h
    refine wr_V (As := [.int (-2 : Int32)]) (rest := []) (ws' := [(a_o, .inr (6, [.ref a_o_now, .ref a_o_aside, .ref a_o_past, .int (o_states), .ref a_o_refusals, .ref a_o_text, .int (o_bytes), .ref a_o_tried, .int (o_triedMany), .ref a_o_shuffled, .ref a_o_letters, .ref a_o_numbers, .int (o_orders), .int (o_spot), .int (o_wrongAt), .long (o_hash)])), (a_o_now, .inl (cI, 52, .inl (o_now))), (a_o_refusals, .inl (cI, 3, .inl (w5))), (a_o_tried, .inl (cI, 9, .inl (o_tried)))]) S (c_X7_refuses l D cI cS a_o a_o_refusals a_o_now a_o_aside a_o_past a_o_text a_o_tried a_o_shuffled a_o_letters a_o_numbers o_states o_bytes o_triedMany o_orders o_spot o_wrongAt o_hash o_refusals (-2 : Int32) r4 w5 hc6) (cwV1 hts cvX7_refuses wmX7_41 rfl rfl ⟨(Nat.le_of_ble_eq_true rfl), (Nat.le_of_ble_eq_true rfl)⟩) hK hP hD hS [0, 2] rfl rfl [(true, 0), (false, 1), (true, 1), (false, 3)] rfl rfl rfl 0 rfl rfl rfl rfl hl.1 rfl (Nat.le_of_ble_eq_true rfl) dX7_inRow_20 ⟨Nat.zero_le _, Nat.zero_le _⟩ rfl (fun H locs hP hD hS => ?_)
    cases h
    exact W.iret hx hb hr (fun t ht _ => ⟨rfl, by rw [ht]; exact hP, hS.F ht⟩) hS.2.2 dX7_inRow_23
  · have h := it_f c3 h
    refine lv_iload_n hx hb dX7_inRow_8 rfl (lv_at hl 2 rfl) ?_
    refine lv_iconst (v := (0 : Int32)) hx hb dX7_inRow_9 (by decide) ?_
    refine lv_iconst (v := (4 : Int32)) hx hb dX7_inRow_10 (by decide) ?_
    obtain ⟨r7, hc8, h⟩ := bd1_use h
    refine ro_S (As := [.int x2, .int (0 : Int32), .int (4 : Int32)]) (rest := []) S (c_X7_in l D cI cS x2 (0 : Int32) (4 : Int32) r7 hc8) (cwS1 hts csX7_in wmX7_48 rfl rfl ⟨(Nat.le_of_ble_eq_true rfl), (Nat.le_of_ble_eq_true rfl)⟩) hK hP [] rfl rfl hl.1 rfl (Nat.le_of_ble_eq_true rfl) dX7_inRow_11 ⟨Nat.zero_le _, Nat.zero_le _⟩ rfl ?_
    refine lv_if_ne (tgt := 24) hx hb dX7_inRow_14 (by decide) (fun c9 => ?_) (fun c9 => ?_)
    · have h := it_f c9 h
      refine lv_aload_n hx hb dX7_inRow_24 rfl (lv_at hl 0 rfl) ?_
      refine lv_iload_n hx hb dX7_inRow_25 rfl (lv_at hl 1 rfl) ?_
      obtain ⟨r10, hc11, h⟩ := bd1_use h
      refine ro_V (As := [.int x1]) (rest := []) S (c_X7_placeOf l D cI cS a_o a_o_now a_o_aside a_o_past a_o_refusals a_o_text a_o_tried a_o_shuffled a_o_letters a_o_numbers o_states o_bytes o_triedMany o_orders o_spot o_wrongAt o_hash o_now x1 r10 hc11) (cwV1 hts cvX7_placeOf wmX7_93 rfl rfl ⟨(Nat.le_of_ble_eq_true rfl), (Nat.le_of_ble_eq_true rfl)⟩) hK hP [0, 1] rfl 0 rfl rfl rfl rfl hl.1 rfl (Nat.le_of_ble_eq_true rfl) dX7_inRow_26 ⟨Nat.zero_le _, Nat.zero_le _⟩ rfl ?_
      refine lv_istore_n (lv' := [(3, .int r10), (0, .ref a_o), (1, .int x1), (2, .int x2)]) hx hb dX7_inRow_29 rfl hl (by decide) rfl (fun ls hl => ?_)
      refine lv_iload_n hx hb dX7_inRow_30 rfl (lv_at hl 0 rfl) ?_
      refine lv_iconst (v := (-1 : Int32)) hx hb dX7_inRow_31 (by decide) ?_
      refine lv_icmp_ne (tgt := 44) hx hb dX7_inRow_32 (by decide) (fun c12 => ?_) (fun c12 => ?_)
      · have h := it_f c12 h
        refine lv_aload_n hx hb dX7_inRow_44 rfl (lv_at hl 1 rfl) ?_
        refine lv_iload_n hx hb dX7_inRow_45 rfl (lv_at hl 0 rfl) ?_
        refine lv_iload_n hx hb dX7_inRow_46 rfl (lv_at hl 3 rfl) ?_
        obtain ⟨r13, w14, w15, hc16, h⟩ := bd3_use h
        refine wr_V (As := [.int r10, .int x2]) (rest := []) (ws' := [(a_o, .inr (6, [.ref a_o_now, .ref a_o_aside, .ref a_o_past, .int (o_states), .ref a_o_refusals, .ref a_o_text, .int (o_bytes), .ref a_o_tried, .int (w14), .ref a_o_shuffled, .ref a_o_letters, .ref a_o_numbers, .int (o_orders), .int (o_spot), .int (o_wrongAt), .long (o_hash)])), (a_o_now, .inl (cI, 52, .inl (o_now))), (a_o_refusals, .inl (cI, 3, .inl (o_refusals))), (a_o_tried, .inl (cI, 9, .inl (w15)))]) S (c_X7_placeTold l D cI cS a_o a_o_now a_o_tried a_o_aside a_o_past a_o_refusals a_o_text a_o_shuffled a_o_letters a_o_numbers o_states o_bytes o_triedMany o_orders o_spot o_wrongAt o_hash o_now o_tried r10 x2 r13 w14 w15 hc16) (cwV1 hts cvX7_placeTold wmX7_165 rfl rfl ⟨(Nat.le_of_ble_eq_true rfl), (Nat.le_of_ble_eq_true rfl)⟩) hK hP hD hS [0, 1, 3] rfl rfl [(true, 0), (true, 1), (false, 2), (true, 2)] rfl rfl rfl 0 rfl rfl rfl rfl hl.1 rfl (Nat.le_of_ble_eq_true rfl) dX7_inRow_47 ⟨Nat.zero_le _, Nat.zero_le _⟩ rfl (fun H locs hP hD hS => ?_)
        cases h
        exact W.iret hx hb hr (fun t ht _ => ⟨rfl, by rw [ht]; exact hP, hS.F ht⟩) hS.2.2 dX7_inRow_50
      · have h := it_t c12 h
        refine lv_aload_n hx hb dX7_inRow_35 rfl (lv_at hl 1 rfl) ?_
        refine lv_bipush (v := (-3 : Int32)) hx hb dX7_inRow_36 (by decide) ?_
        obtain ⟨r17, w18, hc19, h⟩ := bd2_use h
        refine wr_V (As := [.int (-3 : Int32)]) (rest := []) (ws' := [(a_o, .inr (6, [.ref a_o_now, .ref a_o_aside, .ref a_o_past, .int (o_states), .ref a_o_refusals, .ref a_o_text, .int (o_bytes), .ref a_o_tried, .int (o_triedMany), .ref a_o_shuffled, .ref a_o_letters, .ref a_o_numbers, .int (o_orders), .int (o_spot), .int (o_wrongAt), .long (o_hash)])), (a_o_now, .inl (cI, 52, .inl (o_now))), (a_o_refusals, .inl (cI, 3, .inl (w18))), (a_o_tried, .inl (cI, 9, .inl (o_tried)))]) S (c_X7_refuses l D cI cS a_o a_o_refusals a_o_now a_o_aside a_o_past a_o_text a_o_tried a_o_shuffled a_o_letters a_o_numbers o_states o_bytes o_triedMany o_orders o_spot o_wrongAt o_hash o_refusals (-3 : Int32) r17 w18 hc19) (cwV1 hts cvX7_refuses wmX7_41 rfl rfl ⟨(Nat.le_of_ble_eq_true rfl), (Nat.le_of_ble_eq_true rfl)⟩) hK hP hD hS [0, 2] rfl rfl [(true, 0), (false, 1), (true, 1), (false, 3)] rfl rfl rfl 0 rfl rfl rfl rfl hl.1 rfl (Nat.le_of_ble_eq_true rfl) dX7_inRow_38 ⟨Nat.zero_le _, Nat.zero_le _⟩ rfl (fun H locs hP hD hS => ?_)
        refine lv_goto (tgt := 50) hx hb dX7_inRow_41 (by decide) ?_
        cases h
        exact W.iret hx hb hr (fun t ht _ => ⟨rfl, by rw [ht]; exact hP, hS.F ht⟩) hS.2.2 dX7_inRow_50
    · have h := it_t c9 h
      refine lv_aload_n hx hb dX7_inRow_17 rfl (lv_at hl 0 rfl) ?_
      refine lv_bipush (v := (-2 : Int32)) hx hb dX7_inRow_18 (by decide) ?_
      obtain ⟨r20, w21, hc22, h⟩ := bd2_use h
      refine wr_V (As := [.int (-2 : Int32)]) (rest := []) (ws' := [(a_o, .inr (6, [.ref a_o_now, .ref a_o_aside, .ref a_o_past, .int (o_states), .ref a_o_refusals, .ref a_o_text, .int (o_bytes), .ref a_o_tried, .int (o_triedMany), .ref a_o_shuffled, .ref a_o_letters, .ref a_o_numbers, .int (o_orders), .int (o_spot), .int (o_wrongAt), .long (o_hash)])), (a_o_now, .inl (cI, 52, .inl (o_now))), (a_o_refusals, .inl (cI, 3, .inl (w21))), (a_o_tried, .inl (cI, 9, .inl (o_tried)))]) S (c_X7_refuses l D cI cS a_o a_o_refusals a_o_now a_o_aside a_o_past a_o_text a_o_tried a_o_shuffled a_o_letters a_o_numbers o_states o_bytes o_triedMany o_orders o_spot o_wrongAt o_hash o_refusals (-2 : Int32) r20 w21 hc22) (cwV1 hts cvX7_refuses wmX7_41 rfl rfl ⟨(Nat.le_of_ble_eq_true rfl), (Nat.le_of_ble_eq_true rfl)⟩) hK hP hD hS [0, 2] rfl rfl [(true, 0), (false, 1), (true, 1), (false, 3)] rfl rfl rfl 0 rfl rfl rfl rfl hl.1 rfl (Nat.le_of_ble_eq_true rfl) dX7_inRow_20 ⟨Nat.zero_le _, Nat.zero_le _⟩ rfl (fun H locs hP hD hS => ?_)
      cases h
      exact W.iret hx hb hr (fun t ht _ => ⟨rfl, by rw [ht]; exact hP, hS.F ht⟩) hS.2.2 dX7_inRow_23
def f_X7_isFlippedInRow (o_triedMany : Int32) (o_now : Ar) (o_tried : Ar) (x1 : Int32) : Option (Bool × Int32 × Ar) := bd1 (f_X7_placeOf o_now x1) (fun r1 => (if r1 = (-1 : Int32) then some (false, o_triedMany, o_tried) else bd3 (f_X7_flipsIn o_triedMany o_now o_tried r1 (255 : Int32)) (fun r4 w5 w6 => (if (b2i r4) = (0 : Int32) then some (false, w5, w6) else some (true, w5, w6)))))
set_option maxHeartbeats 4000000 in
set_option maxRecDepth 100000 in
theorem c_X7_isFlippedInRow (l : Launch) (D : va_G) (cI cS : ClassId) (a_o : Nat) (a_o_now : Nat) (a_o_tried : Nat) (a_o_aside : Nat) (a_o_past : Nat) (a_o_refusals : Nat) (a_o_text : Nat) (a_o_shuffled : Nat) (a_o_letters : Nat) (a_o_numbers : Nat) (o_states : Int32) (o_bytes : Int32) (o_triedMany : Int32) (o_orders : Int32) (o_spot : Int32) (o_wrongAt : Int32) (o_hash : Int64) (o_now : Ar) (o_tried : Ar) (x1 : Int32) (r0 : Bool) (o_triedMany' : Int32) (o_tried' : Ar) (h : f_X7_isFlippedInRow o_triedMany o_now o_tried x1 = some (r0, o_triedMany', o_tried')) : wrM l D cI cS yX7_isFlippedInRow cX7_isFlippedInRow 3 (some .boolean) 6 132 [.ref a_o, .int x1] [(a_o, .inr (6, [.ref a_o_now, .ref a_o_aside, .ref a_o_past, .int (o_states), .ref a_o_refusals, .ref a_o_text, .int (o_bytes), .ref a_o_tried, .int (o_triedMany), .ref a_o_shuffled, .ref a_o_letters, .ref a_o_numbers, .int (o_orders), .int (o_spot), .int (o_wrongAt), .long (o_hash)])), (a_o_now, .inl (cI, 52, .inl (o_now))), (a_o_tried, .inl (cI, 9, .inl (o_tried)))] [(a_o, .inr (6, [.ref a_o_now, .ref a_o_aside, .ref a_o_past, .int (o_states), .ref a_o_refusals, .ref a_o_text, .int (o_bytes), .ref a_o_tried, .int (o_triedMany'), .ref a_o_shuffled, .ref a_o_letters, .ref a_o_numbers, .int (o_orders), .int (o_spot), .int (o_wrongAt), .long (o_hash)])), (a_o_now, .inl (cI, 52, .inl (o_now))), (a_o_tried, .inl (cI, 9, .inl (o_tried')))] (some (.int (b2i r0))) := by
  refine Met.ofW (cc := cX7_isFlippedInRow) (maxL := 3) (ret := (some .boolean)) (by decide) rfl ?_
  intro p e s m args below meth c s₁ B hml hv
  obtain ⟨rfl, hP, hK, hD0⟩ := hv
  have hx := B.exec
  have hb := B.bytes
  have hr := B.returns
  have hts : ∀ w ∈ GW, w.before _ s = true := fun w hw => atoms_spec (ws := mws yX7_isFlippedInRow cX7_isFlippedInRow 3 (some .boolean)) B.pre w (List.mem_cons_of_mem _ hw)
  have hown : s.vm.findClass RX7 = some m.cls := findClass_of_methodNamed B.named
  have hlocks := B.notSynchronized
  have hD := inW_self hD0
  generalize hAe : inW [(a_o, .inr (6, [.ref a_o_now, .ref a_o_aside, .ref a_o_past, .int (o_states), .ref a_o_refusals, .ref a_o_text, .int (o_bytes), .ref a_o_tried, .int (o_triedMany), .ref a_o_shuffled, .ref a_o_letters, .ref a_o_numbers, .int (o_orders), .int (o_spot), .int (o_wrongAt), .long (o_hash)])), (a_o_now, .inl (cI, 52, .inl (o_now))), (a_o_tried, .inl (cI, 9, .inl (o_tried)))] = A at hD ⊢
  have hS : va_S A s.heap s.heap [] := va_S.rf
  have hl := lv_entry ([.ref a_o, .int x1]) (n := 3) (Nat.le_of_ble_eq_true rfl)
  rw [lg_entry_eq]
  generalize (lg_sl ([.ref a_o, .int x1]) ++ List.replicate (3 - (lg_sl ([.ref a_o, .int x1])).length) Slot.unset).toArray = ls at hl ⊢
  have hl : lv_has ls 3 [(0, .ref a_o), (1, .int x1)] := hl
  have S : CallFix p m c cX7_isFlippedInRow 3 s _ GW RX7 := ⟨hx, hb, hml, hown, hts⟩
  unfold f_X7_isFlippedInRow at h
  refine lv_aload_n hx hb dX7_isFlippedInRow_0 rfl (lv_at hl 0 rfl) ?_
  refine lv_iload_n hx hb dX7_isFlippedInRow_1 rfl (lv_at hl 1 rfl) ?_
  obtain ⟨r1, hc2, h⟩ := bd1_use h
  refine ro_V (As := [.int x1]) (rest := []) S (c_X7_placeOf l D cI cS a_o a_o_now a_o_aside a_o_past a_o_refusals a_o_text a_o_tried a_o_shuffled a_o_letters a_o_numbers o_states o_bytes o_triedMany o_orders o_spot o_wrongAt o_hash o_now x1 r1 hc2) (cwV1 hts cvX7_placeOf wmX7_93 rfl rfl ⟨(Nat.le_of_ble_eq_true rfl), (Nat.le_of_ble_eq_true rfl)⟩) hK hP [0, 1] rfl 0 rfl rfl rfl rfl hl.1 rfl (Nat.le_of_ble_eq_true rfl) dX7_isFlippedInRow_2 ⟨Nat.zero_le _, Nat.zero_le _⟩ rfl ?_
  refine lv_istore_n (lv' := [(2, .int r1), (0, .ref a_o), (1, .int x1)]) hx hb dX7_isFlippedInRow_5 rfl hl (by decide) rfl (fun ls hl => ?_)
  refine lv_iload_n hx hb dX7_isFlippedInRow_6 rfl (lv_at hl 0 rfl) ?_
  refine lv_iconst (v := (-1 : Int32)) hx hb dX7_isFlippedInRow_7 (by decide) ?_
  refine lv_icmp_eq (tgt := 26) hx hb dX7_isFlippedInRow_8 (by decide) (fun c3 => ?_) (fun c3 => ?_)
  · have h := it_t c3 h
    refine lv_iconst (v := (0 : Int32)) hx hb dX7_isFlippedInRow_26 (by decide) ?_
    cases h
    exact W.zret hx hb hr rfl (fun t ht _ => ⟨rfl, by rw [ht]; exact hP, hS.F ht⟩) hS.2.2 dX7_isFlippedInRow_27
  · have h := it_f c3 h
    refine lv_aload_n hx hb dX7_isFlippedInRow_11 rfl (lv_at hl 1 rfl) ?_
    refine lv_iload_n hx hb dX7_isFlippedInRow_12 rfl (lv_at hl 0 rfl) ?_
    refine lv_sipush (v := (255 : Int32)) hx hb dX7_isFlippedInRow_13 (by decide) ?_
    obtain ⟨r4, w5, w6, hc7, h⟩ := bd3_use h
    refine wr_V (As := [.int r1, .int (255 : Int32)]) (rest := []) (ws' := [(a_o, .inr (6, [.ref a_o_now, .ref a_o_aside, .ref a_o_past, .int (o_states), .ref a_o_refusals, .ref a_o_text, .int (o_bytes), .ref a_o_tried, .int (w5), .ref a_o_shuffled, .ref a_o_letters, .ref a_o_numbers, .int (o_orders), .int (o_spot), .int (o_wrongAt), .long (o_hash)])), (a_o_now, .inl (cI, 52, .inl (o_now))), (a_o_tried, .inl (cI, 9, .inl (w6)))]) S (c_X7_flipsIn l D cI cS a_o a_o_now a_o_tried a_o_aside a_o_past a_o_refusals a_o_text a_o_shuffled a_o_letters a_o_numbers o_states o_bytes o_triedMany o_orders o_spot o_wrongAt o_hash o_now o_tried r1 (255 : Int32) r4 w5 w6 hc7) (cwV1 hts cvX7_flipsIn wmX7_87 rfl rfl ⟨(Nat.le_of_ble_eq_true rfl), (Nat.le_of_ble_eq_true rfl)⟩) hK hP hD hS [0, 1, 2] rfl rfl [(true, 0), (true, 1), (true, 2)] rfl rfl rfl 0 rfl rfl rfl rfl hl.1 rfl (Nat.le_of_ble_eq_true rfl) dX7_isFlippedInRow_16 ⟨Nat.zero_le _, Nat.zero_le _⟩ rfl (fun H locs hP hD hS => ?_)
    refine lv_if_eq (tgt := 26) hx hb dX7_isFlippedInRow_19 (by decide) (fun c8 => ?_) (fun c8 => ?_)
    · have h := it_t c8 h
      refine lv_iconst (v := (0 : Int32)) hx hb dX7_isFlippedInRow_26 (by decide) ?_
      cases h
      exact W.zret hx hb hr rfl (fun t ht _ => ⟨rfl, by rw [ht]; exact hP, hS.F ht⟩) hS.2.2 dX7_isFlippedInRow_27
    · have h := it_f c8 h
      refine lv_iconst (v := (1 : Int32)) hx hb dX7_isFlippedInRow_22 (by decide) ?_
      refine lv_goto (tgt := 27) hx hb dX7_isFlippedInRow_23 (by decide) ?_
      cases h
      exact W.zret hx hb hr rfl (fun t ht _ => ⟨rfl, by rw [ht]; exact hP, hS.F ht⟩) hS.2.2 dX7_isFlippedInRow_27
def f_X7_lays (o_states : Int32) (o_now : Ar) (o_aside : Ar) (o_past : Ar) (o_refusals : Ar) (x1 : Int32) : Option (Int32 × Int32 × Ar × Ar × Ar × Ar) := bd1 (f_X7_laysAside o_now o_aside) (fun w1 => bd2 (f_X7_putLaid o_now x1) (fun r3 w4 => bd4 (f_X7_finished o_states w1 o_past o_refusals r3) (fun r6 w7 w8 w9 => some (r6, w7, w4, w1, w8, w9))))
set_option maxHeartbeats 4000000 in
set_option maxRecDepth 100000 in
theorem c_X7_lays (l : Launch) (D : va_G) (cI cS : ClassId) (a_o : Nat) (a_o_now : Nat) (a_o_aside : Nat) (a_o_past : Nat) (a_o_refusals : Nat) (a_o_text : Nat) (a_o_tried : Nat) (a_o_shuffled : Nat) (a_o_letters : Nat) (a_o_numbers : Nat) (o_states : Int32) (o_bytes : Int32) (o_triedMany : Int32) (o_orders : Int32) (o_spot : Int32) (o_wrongAt : Int32) (o_hash : Int64) (o_now : Ar) (o_aside : Ar) (o_past : Ar) (o_refusals : Ar) (x1 : Int32) (r0 : Int32) (o_states' : Int32) (o_now' : Ar) (o_aside' : Ar) (o_past' : Ar) (o_refusals' : Ar) (h : f_X7_lays o_states o_now o_aside o_past o_refusals x1 = some (r0, o_states', o_now', o_aside', o_past', o_refusals')) : wrM l D cI cS yX7_lays cX7_lays 2 (some .int) 3 64 [.ref a_o, .int x1] [(a_o, .inr (6, [.ref a_o_now, .ref a_o_aside, .ref a_o_past, .int (o_states), .ref a_o_refusals, .ref a_o_text, .int (o_bytes), .ref a_o_tried, .int (o_triedMany), .ref a_o_shuffled, .ref a_o_letters, .ref a_o_numbers, .int (o_orders), .int (o_spot), .int (o_wrongAt), .long (o_hash)])), (a_o_now, .inl (cI, 52, .inl (o_now))), (a_o_aside, .inl (cI, 52, .inl (o_aside))), (a_o_past, .inl (cI, 260, .inl (o_past))), (a_o_refusals, .inl (cI, 3, .inl (o_refusals)))] [(a_o, .inr (6, [.ref a_o_now, .ref a_o_aside, .ref a_o_past, .int (o_states'), .ref a_o_refusals, .ref a_o_text, .int (o_bytes), .ref a_o_tried, .int (o_triedMany), .ref a_o_shuffled, .ref a_o_letters, .ref a_o_numbers, .int (o_orders), .int (o_spot), .int (o_wrongAt), .long (o_hash)])), (a_o_now, .inl (cI, 52, .inl (o_now'))), (a_o_aside, .inl (cI, 52, .inl (o_aside'))), (a_o_past, .inl (cI, 260, .inl (o_past'))), (a_o_refusals, .inl (cI, 3, .inl (o_refusals')))] (some (.int r0)) := by
  refine Met.ofW (cc := cX7_lays) (maxL := 2) (ret := (some .int)) (by decide) rfl ?_
  intro p e s m args below meth c s₁ B hml hv
  obtain ⟨rfl, hP, hK, hD0⟩ := hv
  have hx := B.exec
  have hb := B.bytes
  have hr := B.returns
  have hts : ∀ w ∈ GW, w.before _ s = true := fun w hw => atoms_spec (ws := mws yX7_lays cX7_lays 2 (some .int)) B.pre w (List.mem_cons_of_mem _ hw)
  have hown : s.vm.findClass RX7 = some m.cls := findClass_of_methodNamed B.named
  have hlocks := B.notSynchronized
  have hD := inW_self hD0
  generalize hAe : inW [(a_o, .inr (6, [.ref a_o_now, .ref a_o_aside, .ref a_o_past, .int (o_states), .ref a_o_refusals, .ref a_o_text, .int (o_bytes), .ref a_o_tried, .int (o_triedMany), .ref a_o_shuffled, .ref a_o_letters, .ref a_o_numbers, .int (o_orders), .int (o_spot), .int (o_wrongAt), .long (o_hash)])), (a_o_now, .inl (cI, 52, .inl (o_now))), (a_o_aside, .inl (cI, 52, .inl (o_aside))), (a_o_past, .inl (cI, 260, .inl (o_past))), (a_o_refusals, .inl (cI, 3, .inl (o_refusals)))] = A at hD ⊢
  have hS : va_S A s.heap s.heap [] := va_S.rf
  have hl := lv_entry ([.ref a_o, .int x1]) (n := 2) (Nat.le_of_ble_eq_true rfl)
  rw [lg_entry_eq]
  generalize (lg_sl ([.ref a_o, .int x1]) ++ List.replicate (2 - (lg_sl ([.ref a_o, .int x1])).length) Slot.unset).toArray = ls at hl ⊢
  have hl : lv_has ls 2 [(0, .ref a_o), (1, .int x1)] := hl
  have S : CallFix p m c cX7_lays 2 s _ GW RX7 := ⟨hx, hb, hml, hown, hts⟩
  unfold f_X7_lays at h
  refine lv_aload_n hx hb dX7_lays_0 rfl (lv_at hl 0 rfl) ?_
  obtain ⟨w1, hc2, h⟩ := bd1_use h
  refine wr_V (As := []) (rest := []) (ws' := [(a_o, .inr (6, [.ref a_o_now, .ref a_o_aside, .ref a_o_past, .int (o_states), .ref a_o_refusals, .ref a_o_text, .int (o_bytes), .ref a_o_tried, .int (o_triedMany), .ref a_o_shuffled, .ref a_o_letters, .ref a_o_numbers, .int (o_orders), .int (o_spot), .int (o_wrongAt), .long (o_hash)])), (a_o_now, .inl (cI, 52, .inl (o_now))), (a_o_aside, .inl (cI, 52, .inl (w1))), (a_o_past, .inl (cI, 260, .inl (o_past))), (a_o_refusals, .inl (cI, 3, .inl (o_refusals)))]) S (c_X7_laysAside l D cI cS a_o a_o_now a_o_aside a_o_past a_o_refusals a_o_text a_o_tried a_o_shuffled a_o_letters a_o_numbers o_states o_bytes o_triedMany o_orders o_spot o_wrongAt o_hash o_now o_aside w1 hc2) (cwV1 hts cvX7_laysAside wmX7_121 rfl rfl ⟨(Nat.le_of_ble_eq_true rfl), (Nat.le_of_ble_eq_true rfl)⟩) hK hP hD hS [0, 1, 2] rfl rfl [(true, 0), (true, 1), (true, 2), (false, 3), (false, 4)] rfl rfl rfl 0 rfl rfl rfl rfl hl.1 rfl (Nat.le_of_ble_eq_true rfl) dX7_lays_1 ⟨Nat.zero_le _, Nat.zero_le _⟩ rfl (fun H locs hP hD hS => ?_)
  refine lv_aload_n hx hb dX7_lays_4 rfl (lv_at hl 0 rfl) ?_
  refine lv_aload_n hx hb dX7_lays_5 rfl (lv_at hl 0 rfl) ?_
  refine lv_iload_n hx hb dX7_lays_6 rfl (lv_at hl 1 rfl) ?_
  obtain ⟨r3, w4, hc5, h⟩ := bd2_use h
  refine wr_V (As := [.int x1]) (rest := [.ref a_o]) (ws' := [(a_o, .inr (6, [.ref a_o_now, .ref a_o_aside, .ref a_o_past, .int (o_states), .ref a_o_refusals, .ref a_o_text, .int (o_bytes), .ref a_o_tried, .int (o_triedMany), .ref a_o_shuffled, .ref a_o_letters, .ref a_o_numbers, .int (o_orders), .int (o_spot), .int (o_wrongAt), .long (o_hash)])), (a_o_now, .inl (cI, 52, .inl (w4))), (a_o_aside, .inl (cI, 52, .inl (w1))), (a_o_past, .inl (cI, 260, .inl (o_past))), (a_o_refusals, .inl (cI, 3, .inl (o_refusals)))]) S (c_X7_putLaid l D cI cS a_o a_o_now a_o_aside a_o_past a_o_refusals a_o_text a_o_tried a_o_shuffled a_o_letters a_o_numbers o_states o_bytes o_triedMany o_orders o_spot o_wrongAt o_hash o_now x1 r3 w4 hc5) (cwV1 hts cvX7_putLaid wmX7_134 rfl rfl ⟨(Nat.le_of_ble_eq_true rfl), (Nat.le_of_ble_eq_true rfl)⟩) hK hP hD hS [0, 1] rfl rfl [(true, 0), (true, 1), (false, 2), (false, 3), (false, 4)] rfl rfl rfl 0 rfl rfl rfl rfl hl.1 rfl (Nat.le_of_ble_eq_true rfl) dX7_lays_7 ⟨Nat.zero_le _, Nat.zero_le _⟩ rfl (fun H locs hP hD hS => ?_)
  obtain ⟨r6, w7, w8, w9, hc10, h⟩ := bd4_use h
  refine wr_V (As := [.int r3]) (rest := []) (ws' := [(a_o, .inr (6, [.ref a_o_now, .ref a_o_aside, .ref a_o_past, .int (w7), .ref a_o_refusals, .ref a_o_text, .int (o_bytes), .ref a_o_tried, .int (o_triedMany), .ref a_o_shuffled, .ref a_o_letters, .ref a_o_numbers, .int (o_orders), .int (o_spot), .int (o_wrongAt), .long (o_hash)])), (a_o_now, .inl (cI, 52, .inl (w4))), (a_o_aside, .inl (cI, 52, .inl (w1))), (a_o_past, .inl (cI, 260, .inl (w8))), (a_o_refusals, .inl (cI, 3, .inl (w9)))]) S (c_X7_finished l D cI cS a_o a_o_aside a_o_past a_o_refusals a_o_now a_o_text a_o_tried a_o_shuffled a_o_letters a_o_numbers o_states o_bytes o_triedMany o_orders o_spot o_wrongAt o_hash w1 o_past o_refusals r3 r6 w7 w8 w9 hc10) (cwV1 hts cvX7_finished wmX7_128 rfl rfl ⟨(Nat.le_of_ble_eq_true rfl), (Nat.le_of_ble_eq_true rfl)⟩) hK hP hD hS [0, 2, 3, 4] rfl rfl [(true, 0), (false, 1), (true, 1), (true, 2), (true, 3)] rfl rfl rfl 0 rfl rfl rfl rfl hl.1 rfl (Nat.le_of_ble_eq_true rfl) dX7_lays_10 ⟨Nat.zero_le _, Nat.zero_le _⟩ rfl (fun H locs hP hD hS => ?_)
  cases h
  exact W.iret hx hb hr (fun t ht _ => ⟨rfl, by rw [ht]; exact hP, hS.F ht⟩) hS.2.2 dX7_lays_13
def b_X7_leastOf_17 (o_now : Ar) (x1 : Int32) (k_8 : Int32 → Int32 → Int32 → Ar → Option (Int32 × Int32 × Ar)) : Nat → Int32 → Int32 → Int32 → Int32 → Ar → Option (Int32 × Int32 × Ar)
  | 0, _, _, _, _, _ => none
  | n + 1, v2, v3, v4, o_triedMany, o_tried => (if x1 ≤ v4 then k_8 v2 v3 o_triedMany o_tried else rd o_now 52 ((4 : Int32) + v4) (fun rv2 => nm (v2 &&& (((1 : Int32) <<< (rv2 &&& (31 : Int32))) ^^^ (-1 : Int32))) (fun y4 => (if y4 = v2 then nm (v4 + (1 : Int32)) (fun y6 => b_X7_leastOf_17 o_now x1 k_8 n v2 v3 y6 o_triedMany o_tried) else bd3 (f_X7_flipsIn o_triedMany o_now o_tried x1 y4) (fun r7 w8 w9 => (if (b2i r7) = (0 : Int32) then nm (v4 + (1 : Int32)) (fun y12 => b_X7_leastOf_17 o_now x1 k_8 n v2 v3 y12 w8 w9) else nm (v4 + (1 : Int32)) (fun y13 => b_X7_leastOf_17 o_now x1 k_8 n y4 (1 : Int32) y13 w8 w9)))))))
def b_X7_leastOf_8 (o_now : Ar) (x1 : Int32) : Nat → Int32 → Int32 → Int32 → Ar → Option (Int32 × Int32 × Ar)
  | 0, _, _, _, _ => none
  | n + 1, v2, v3, o_triedMany, o_tried => (if v3 = (0 : Int32) then some (v2, o_triedMany, o_tried) else b_X7_leastOf_17 o_now x1 (fun z0 z1 z2 z3 => b_X7_leastOf_8 o_now x1 n z0 z1 z2 z3) FU v2 (0 : Int32) (0 : Int32) o_triedMany o_tried)
def f_X7_leastOf (o_triedMany : Int32) (o_now : Ar) (o_tried : Ar) (x1 : Int32) : Option (Int32 × Int32 × Ar) := bd1 (f_X7_ahead o_now x1) (fun r15 => b_X7_leastOf_8 o_now x1 FU r15 (1 : Int32) o_triedMany o_tried)
set_option maxHeartbeats 4000000 in
set_option maxRecDepth 100000 in
theorem c_X7_leastOf (l : Launch) (D : va_G) (cI cS : ClassId) (a_o : Nat) (a_o_now : Nat) (a_o_tried : Nat) (a_o_aside : Nat) (a_o_past : Nat) (a_o_refusals : Nat) (a_o_text : Nat) (a_o_shuffled : Nat) (a_o_letters : Nat) (a_o_numbers : Nat) (o_states : Int32) (o_bytes : Int32) (o_triedMany : Int32) (o_orders : Int32) (o_spot : Int32) (o_wrongAt : Int32) (o_hash : Int64) (o_now : Ar) (o_tried : Ar) (x1 : Int32) (r0 : Int32) (o_triedMany' : Int32) (o_tried' : Ar) (h : f_X7_leastOf o_triedMany o_now o_tried x1 = some (r0, o_triedMany', o_tried')) : wrM l D cI cS yX7_leastOf cX7_leastOf 6 (some .int) 6 132 [.ref a_o, .int x1] [(a_o, .inr (6, [.ref a_o_now, .ref a_o_aside, .ref a_o_past, .int (o_states), .ref a_o_refusals, .ref a_o_text, .int (o_bytes), .ref a_o_tried, .int (o_triedMany), .ref a_o_shuffled, .ref a_o_letters, .ref a_o_numbers, .int (o_orders), .int (o_spot), .int (o_wrongAt), .long (o_hash)])), (a_o_now, .inl (cI, 52, .inl (o_now))), (a_o_tried, .inl (cI, 9, .inl (o_tried)))] [(a_o, .inr (6, [.ref a_o_now, .ref a_o_aside, .ref a_o_past, .int (o_states), .ref a_o_refusals, .ref a_o_text, .int (o_bytes), .ref a_o_tried, .int (o_triedMany'), .ref a_o_shuffled, .ref a_o_letters, .ref a_o_numbers, .int (o_orders), .int (o_spot), .int (o_wrongAt), .long (o_hash)])), (a_o_now, .inl (cI, 52, .inl (o_now))), (a_o_tried, .inl (cI, 9, .inl (o_tried')))] (some (.int r0)) := by
  refine Met.ofW (cc := cX7_leastOf) (maxL := 6) (ret := (some .int)) (by decide) rfl ?_
  intro p e s m args below meth c s₁ B hml hv
  obtain ⟨rfl, hP, hK, hD0⟩ := hv
  have hx := B.exec
  have hb := B.bytes
  have hr := B.returns
  have hts : ∀ w ∈ GW, w.before _ s = true := fun w hw => atoms_spec (ws := mws yX7_leastOf cX7_leastOf 6 (some .int)) B.pre w (List.mem_cons_of_mem _ hw)
  have hown : s.vm.findClass RX7 = some m.cls := findClass_of_methodNamed B.named
  have hlocks := B.notSynchronized
  have hD := inW_self hD0
  generalize hAe : inW [(a_o, .inr (6, [.ref a_o_now, .ref a_o_aside, .ref a_o_past, .int (o_states), .ref a_o_refusals, .ref a_o_text, .int (o_bytes), .ref a_o_tried, .int (o_triedMany), .ref a_o_shuffled, .ref a_o_letters, .ref a_o_numbers, .int (o_orders), .int (o_spot), .int (o_wrongAt), .long (o_hash)])), (a_o_now, .inl (cI, 52, .inl (o_now))), (a_o_tried, .inl (cI, 9, .inl (o_tried)))] = A at hD ⊢
  have hS : va_S A s.heap s.heap [] := va_S.rf
  have hl := lv_entry ([.ref a_o, .int x1]) (n := 6) (Nat.le_of_ble_eq_true rfl)
  rw [lg_entry_eq]
  generalize (lg_sl ([.ref a_o, .int x1]) ++ List.replicate (6 - (lg_sl ([.ref a_o, .int x1])).length) Slot.unset).toArray = ls at hl ⊢
  have hl : lv_has ls 6 [(0, .ref a_o), (1, .int x1)] := hl
  have S : CallFix p m c cX7_leastOf 6 s _ GW RX7 := ⟨hx, hb, hml, hown, hts⟩
  have L_17 : ∀ (k_8 : Int32 → Int32 → Int32 → Ar → Option (Int32 × Int32 × Ar)) (hk_8 : ∀ (v2 : Int32) (v3 : Int32) (o_triedMany : Int32) (o_tried : Ar), k_8 v2 v3 o_triedMany o_tried = some (r0, o_triedMany', o_tried') → ∀ (H : Heap) (locs : List Loc), va_P D vwCl [(a_o, .inr (6, [.ref a_o_now, .ref a_o_aside, .ref a_o_past, .int (o_states), .ref a_o_refusals, .ref a_o_text, .int (o_bytes), .ref a_o_tried, .int (o_triedMany), .ref a_o_shuffled, .ref a_o_letters, .ref a_o_numbers, .int (o_orders), .int (o_spot), .int (o_wrongAt), .long (o_hash)])), (a_o_now, .inl (cI, 52, .inl (o_now))), (a_o_tried, .inl (cI, 9, .inl (o_tried)))] H → va_D A [(a_o, .inr (6, [.ref a_o_now, .ref a_o_aside, .ref a_o_past, .int (o_states), .ref a_o_refusals, .ref a_o_text, .int (o_bytes), .ref a_o_tried, .int (o_triedMany), .ref a_o_shuffled, .ref a_o_letters, .ref a_o_numbers, .int (o_orders), .int (o_spot), .int (o_wrongAt), .long (o_hash)])), (a_o_now, .inl (cI, 52, .inl (o_now))), (a_o_tried, .inl (cI, 9, .inl (o_tried)))] → va_S A s.heap H locs → ∀ (ls : Array Slot), lv_has ls 6 [(0, .ref a_o), (1, .int x1), (2, .int v2), (3, .int v3)] → W p l e (headSpec (mws yX7_leastOf cX7_leastOf 6 (some .int)) { frames := 6, cells := 0, slots := 0, locals := 132 }).room s m [.ref a_o, .int x1].toArray below meth c H locs 0 0 (MQ below (wrQ D A [(a_o, .inr (6, [.ref a_o_now, .ref a_o_aside, .ref a_o_past, .int (o_states), .ref a_o_refusals, .ref a_o_text, .int (o_bytes), .ref a_o_tried, .int (o_triedMany'), .ref a_o_shuffled, .ref a_o_letters, .ref a_o_numbers, .int (o_orders), .int (o_spot), .int (o_wrongAt), .long (o_hash)])), (a_o_now, .inl (cI, 52, .inl (o_now))), (a_o_tried, .inl (cI, 9, .inl (o_tried')))] (some (.int r0))) [.ref a_o, .int x1].toArray s 0 0 A) (F0 m 8 ls [])) (n : Nat) (v2 : Int32) (v3 : Int32) (v4 : Int32) (o_triedMany : Int32) (o_tried : Ar), b_X7_leastOf_17 o_now x1 k_8 n v2 v3 v4 o_triedMany o_tried = some (r0, o_triedMany', o_tried') → ∀ (H : Heap) (locs : List Loc), va_P D vwCl [(a_o, .inr (6, [.ref a_o_now, .ref a_o_aside, .ref a_o_past, .int (o_states), .ref a_o_refusals, .ref a_o_text, .int (o_bytes), .ref a_o_tried, .int (o_triedMany), .ref a_o_shuffled, .ref a_o_letters, .ref a_o_numbers, .int (o_orders), .int (o_spot), .int (o_wrongAt), .long (o_hash)])), (a_o_now, .inl (cI, 52, .inl (o_now))), (a_o_tried, .inl (cI, 9, .inl (o_tried)))] H → va_D A [(a_o, .inr (6, [.ref a_o_now, .ref a_o_aside, .ref a_o_past, .int (o_states), .ref a_o_refusals, .ref a_o_text, .int (o_bytes), .ref a_o_tried, .int (o_triedMany), .ref a_o_shuffled, .ref a_o_letters, .ref a_o_numbers, .int (o_orders), .int (o_spot), .int (o_wrongAt), .long (o_hash)])), (a_o_now, .inl (cI, 52, .inl (o_now))), (a_o_tried, .inl (cI, 9, .inl (o_tried)))] → va_S A s.heap H locs → ∀ (ls : Array Slot), lv_has ls 6 [(0, .ref a_o), (1, .int x1), (2, .int v2), (3, .int v3), (4, .int v4)] → W p l e (headSpec (mws yX7_leastOf cX7_leastOf 6 (some .int)) { frames := 6, cells := 0, slots := 0, locals := 132 }).room s m [.ref a_o, .int x1].toArray below meth c H locs 0 0 (MQ below (wrQ D A [(a_o, .inr (6, [.ref a_o_now, .ref a_o_aside, .ref a_o_past, .int (o_states), .ref a_o_refusals, .ref a_o_text, .int (o_bytes), .ref a_o_tried, .int (o_triedMany'), .ref a_o_shuffled, .ref a_o_letters, .ref a_o_numbers, .int (o_orders), .int (o_spot), .int (o_wrongAt), .long (o_hash)])), (a_o_now, .inl (cI, 52, .inl (o_now))), (a_o_tried, .inl (cI, 9, .inl (o_tried')))] (some (.int r0))) [.ref a_o, .int x1].toArray s 0 0 A) (F0 m 17 ls []) := by
    intro k_8 hk_8 n
    induction n with
    | zero =>
      intro v2 v3 v4 o_triedMany o_tried h
      exact nn_no h
    | succ n ih =>
      intro v2 v3 v4 o_triedMany o_tried h H locs hP hD hS ls hl
      rw [b_X7_leastOf_17] at h
      refine lv_iload hx hb dX7_leastOf_17 (lv_at hl 4 rfl) ?_
      refine lv_iload_n hx hb dX7_leastOf_19 rfl (lv_at hl 1 rfl) ?_
      refine lv_icmp_ge (tgt := 67) hx hb dX7_leastOf_20 (by decide) (fun c1 => ?_) (fun c1 => ?_)
      · have h := it_t c1 h
        refine lv_goto (tgt := 8) hx hb dX7_leastOf_67 (by decide) ?_
        exact hk_8 _ _ _ _ h _ _ hP hD hS _ (lv_sub hl [0, 1, 2, 3] rfl)
      · have h := it_f c1 h
        refine lv_iload_n hx hb dX7_leastOf_23 rfl (lv_at hl 2 rfl) ?_
        refine lv_iconst (v := (1 : Int32)) hx hb dX7_leastOf_24 (by decide) ?_
        refine lv_aload_n hx hb dX7_leastOf_25 rfl (lv_at hl 0 rfl) ?_
        refine gfX7_0 hx hb hts hown hK hP 0 rfl wfX7_7 dX7_leastOf_26 ?_
        refine lv_iconst (v := (4 : Int32)) hx hb dX7_leastOf_29 (by decide) ?_
        refine lv_iload hx hb dX7_leastOf_30 (lv_at hl 4 rfl) ?_
        refine lv_iadd hx hb dX7_leastOf_32 ?_
        obtain ⟨hi3, h⟩ := rd_use h
        refine ia_ hx hb hK hP 1 rfl hi3 dX7_leastOf_33 ?_
        refine lv_ishl hx hb dX7_leastOf_34 ?_
        refine lv_iconst (v := (-1 : Int32)) hx hb dX7_leastOf_35 (by decide) ?_
        refine lv_ixor hx hb dX7_leastOf_36 ?_
        refine lv_iand hx hb dX7_leastOf_37 ?_
        refine lv_topi (fun y4 ey4 => ?_)
        have h := nm_use h ey4
        refine lv_istore (lv' := [(5, .int y4), (0, .ref a_o), (1, .int x1), (2, .int v2), (3, .int v3), (4, .int v4)]) hx hb dX7_leastOf_38 hl (by decide) rfl (fun ls hl => ?_)
        refine lv_iload hx hb dX7_leastOf_40 (lv_at hl 0 rfl) ?_
        refine lv_iload_n hx hb dX7_leastOf_42 rfl (lv_at hl 3 rfl) ?_
        refine lv_icmp_eq (tgt := 61) hx hb dX7_leastOf_43 (by decide) (fun c5 => ?_) (fun c5 => ?_)
        · have h := it_t c5 h
          obtain ⟨y6, ey6⟩ : ∃ z : Int32, z = v4 + (1 : Int32) := ⟨_, rfl⟩
          have h := nm_use h ey6
          refine lv_iinc (v := y6) (lv' := [(4, .int y6), (5, .int y4), (0, .ref a_o), (1, .int x1), (2, .int v2), (3, .int v3)]) hx hb dX7_leastOf_61 hl (k := 5) rfl (by rw [ey6]; rfl) (by decide) rfl (fun ls hl => ?_)
          refine lv_goto (tgt := 17) hx hb dX7_leastOf_64 (by decide) ?_
          exact ih _ _ _ _ _ h _ _ hP hD hS _ (lv_sub hl [2, 3, 4, 5, 0] rfl)
        · have h := it_f c5 h
          refine lv_aload_n hx hb dX7_leastOf_46 rfl (lv_at hl 1 rfl) ?_
          refine lv_iload_n hx hb dX7_leastOf_47 rfl (lv_at hl 2 rfl) ?_
          refine lv_iload hx hb dX7_leastOf_48 (lv_at hl 0 rfl) ?_
          obtain ⟨r7, w8, w9, hc10, h⟩ := bd3_use h
          refine wr_V (As := [.int x1, .int y4]) (rest := []) (ws' := [(a_o, .inr (6, [.ref a_o_now, .ref a_o_aside, .ref a_o_past, .int (o_states), .ref a_o_refusals, .ref a_o_text, .int (o_bytes), .ref a_o_tried, .int (w8), .ref a_o_shuffled, .ref a_o_letters, .ref a_o_numbers, .int (o_orders), .int (o_spot), .int (o_wrongAt), .long (o_hash)])), (a_o_now, .inl (cI, 52, .inl (o_now))), (a_o_tried, .inl (cI, 9, .inl (w9)))]) S (c_X7_flipsIn l D cI cS a_o a_o_now a_o_tried a_o_aside a_o_past a_o_refusals a_o_text a_o_shuffled a_o_letters a_o_numbers o_states o_bytes o_triedMany o_orders o_spot o_wrongAt o_hash o_now o_tried x1 y4 r7 w8 w9 hc10) (cwV1 hts cvX7_flipsIn wmX7_87 rfl rfl ⟨(Nat.le_of_ble_eq_true rfl), (Nat.le_of_ble_eq_true rfl)⟩) hK hP hD hS [0, 1, 2] rfl rfl [(true, 0), (true, 1), (true, 2)] rfl rfl rfl 0 rfl rfl rfl rfl hl.1 rfl (Nat.le_of_ble_eq_true rfl) dX7_leastOf_50 ⟨Nat.zero_le _, Nat.zero_le _⟩ rfl (fun H locs hP hD hS => ?_)
          refine lv_if_eq (tgt := 61) hx hb dX7_leastOf_53 (by decide) (fun c11 => ?_) (fun c11 => ?_)
          · have h := it_t c11 h
            obtain ⟨y12, ey12⟩ : ∃ z : Int32, z = v4 + (1 : Int32) := ⟨_, rfl⟩
            have h := nm_use h ey12
            refine lv_iinc (v := y12) (lv' := [(4, .int y12), (5, .int y4), (0, .ref a_o), (1, .int x1), (2, .int v2), (3, .int v3)]) hx hb dX7_leastOf_61 hl (k := 5) rfl (by rw [ey12]; rfl) (by decide) rfl (fun ls hl => ?_)
            refine lv_goto (tgt := 17) hx hb dX7_leastOf_64 (by decide) ?_
            exact ih _ _ _ _ _ h _ _ hP hD hS _ (lv_sub hl [2, 3, 4, 5, 0] rfl)
          · have h := it_f c11 h
            refine lv_iload hx hb dX7_leastOf_56 (lv_at hl 0 rfl) ?_
            refine lv_istore_n (lv' := [(2, .int y4), (5, .int y4), (0, .ref a_o), (1, .int x1), (3, .int v3), (4, .int v4)]) hx hb dX7_leastOf_58 rfl hl (by decide) rfl (fun ls hl => ?_)
            refine lv_iconst (v := (1 : Int32)) hx hb dX7_leastOf_59 (by decide) ?_
            refine lv_istore_n (lv' := [(3, .int (1 : Int32)), (2, .int y4), (5, .int y4), (0, .ref a_o), (1, .int x1), (4, .int v4)]) hx hb dX7_leastOf_60 rfl hl (by decide) rfl (fun ls hl => ?_)
            obtain ⟨y13, ey13⟩ : ∃ z : Int32, z = v4 + (1 : Int32) := ⟨_, rfl⟩
            have h := nm_use h ey13
            refine lv_iinc (v := y13) (lv' := [(4, .int y13), (3, .int (1 : Int32)), (2, .int y4), (5, .int y4), (0, .ref a_o), (1, .int x1)]) hx hb dX7_leastOf_61 hl (k := 5) rfl (by rw [ey13]; rfl) (by decide) rfl (fun ls hl => ?_)
            refine lv_goto (tgt := 17) hx hb dX7_leastOf_64 (by decide) ?_
            exact ih _ _ _ _ _ h _ _ hP hD hS _ (lv_sub hl [4, 5, 2, 1, 0] rfl)
  have L_8 : ∀ (n : Nat) (v2 : Int32) (v3 : Int32) (o_triedMany : Int32) (o_tried : Ar), b_X7_leastOf_8 o_now x1 n v2 v3 o_triedMany o_tried = some (r0, o_triedMany', o_tried') → ∀ (H : Heap) (locs : List Loc), va_P D vwCl [(a_o, .inr (6, [.ref a_o_now, .ref a_o_aside, .ref a_o_past, .int (o_states), .ref a_o_refusals, .ref a_o_text, .int (o_bytes), .ref a_o_tried, .int (o_triedMany), .ref a_o_shuffled, .ref a_o_letters, .ref a_o_numbers, .int (o_orders), .int (o_spot), .int (o_wrongAt), .long (o_hash)])), (a_o_now, .inl (cI, 52, .inl (o_now))), (a_o_tried, .inl (cI, 9, .inl (o_tried)))] H → va_D A [(a_o, .inr (6, [.ref a_o_now, .ref a_o_aside, .ref a_o_past, .int (o_states), .ref a_o_refusals, .ref a_o_text, .int (o_bytes), .ref a_o_tried, .int (o_triedMany), .ref a_o_shuffled, .ref a_o_letters, .ref a_o_numbers, .int (o_orders), .int (o_spot), .int (o_wrongAt), .long (o_hash)])), (a_o_now, .inl (cI, 52, .inl (o_now))), (a_o_tried, .inl (cI, 9, .inl (o_tried)))] → va_S A s.heap H locs → ∀ (ls : Array Slot), lv_has ls 6 [(0, .ref a_o), (1, .int x1), (2, .int v2), (3, .int v3)] → W p l e (headSpec (mws yX7_leastOf cX7_leastOf 6 (some .int)) { frames := 6, cells := 0, slots := 0, locals := 132 }).room s m [.ref a_o, .int x1].toArray below meth c H locs 0 0 (MQ below (wrQ D A [(a_o, .inr (6, [.ref a_o_now, .ref a_o_aside, .ref a_o_past, .int (o_states), .ref a_o_refusals, .ref a_o_text, .int (o_bytes), .ref a_o_tried, .int (o_triedMany'), .ref a_o_shuffled, .ref a_o_letters, .ref a_o_numbers, .int (o_orders), .int (o_spot), .int (o_wrongAt), .long (o_hash)])), (a_o_now, .inl (cI, 52, .inl (o_now))), (a_o_tried, .inl (cI, 9, .inl (o_tried')))] (some (.int r0))) [.ref a_o, .int x1].toArray s 0 0 A) (F0 m 8 ls []) := by
    intro n
    induction n with
    | zero =>
      intro v2 v3 o_triedMany o_tried h
      exact nn_no h
    | succ n ih =>
      intro v2 v3 o_triedMany o_tried h H locs hP hD hS ls hl
      rw [b_X7_leastOf_8] at h
      refine lv_iload_n hx hb dX7_leastOf_8 rfl (lv_at hl 3 rfl) ?_
      refine lv_if_eq (tgt := 70) hx hb dX7_leastOf_9 (by decide) (fun c14 => ?_) (fun c14 => ?_)
      · have h := it_t c14 h
        refine lv_iload_n hx hb dX7_leastOf_70 rfl (lv_at hl 2 rfl) ?_
        cases h
        exact W.iret hx hb hr (fun t ht _ => ⟨rfl, by rw [ht]; exact hP, hS.F ht⟩) hS.2.2 dX7_leastOf_71
      · have h := it_f c14 h
        refine lv_iconst (v := (0 : Int32)) hx hb dX7_leastOf_12 (by decide) ?_
        refine lv_istore_n (lv' := [(3, .int (0 : Int32)), (0, .ref a_o), (1, .int x1), (2, .int v2)]) hx hb dX7_leastOf_13 rfl hl (by decide) rfl (fun ls hl => ?_)
        refine lv_iconst (v := (0 : Int32)) hx hb dX7_leastOf_14 (by decide) ?_
        refine lv_istore (lv' := [(4, .int (0 : Int32)), (3, .int (0 : Int32)), (0, .ref a_o), (1, .int x1), (2, .int v2)]) hx hb dX7_leastOf_15 hl (by decide) rfl (fun ls hl => ?_)
        exact L_17 _ ih _ _ _ _ _ _ h _ _ hP hD hS _ (lv_sub hl [2, 3, 4, 1, 0] rfl)
  unfold f_X7_leastOf at h
  refine lv_aload_n hx hb dX7_leastOf_0 rfl (lv_at hl 0 rfl) ?_
  refine lv_iload_n hx hb dX7_leastOf_1 rfl (lv_at hl 1 rfl) ?_
  obtain ⟨r15, hc16, h⟩ := bd1_use h
  refine ro_V (As := [.int x1]) (rest := []) S (c_X7_ahead l D cI cS a_o a_o_now a_o_aside a_o_past a_o_refusals a_o_text a_o_tried a_o_shuffled a_o_letters a_o_numbers o_states o_bytes o_triedMany o_orders o_spot o_wrongAt o_hash o_now x1 r15 hc16) (cwV1 hts cvX7_ahead wmX7_84 rfl rfl ⟨(Nat.le_of_ble_eq_true rfl), (Nat.le_of_ble_eq_true rfl)⟩) hK hP [0, 1] rfl 0 rfl rfl rfl rfl hl.1 rfl (Nat.le_of_ble_eq_true rfl) dX7_leastOf_2 ⟨Nat.zero_le _, Nat.zero_le _⟩ rfl ?_
  refine lv_istore_n (lv' := [(2, .int r15), (0, .ref a_o), (1, .int x1)]) hx hb dX7_leastOf_5 rfl hl (by decide) rfl (fun ls hl => ?_)
  refine lv_iconst (v := (1 : Int32)) hx hb dX7_leastOf_6 (by decide) ?_
  refine lv_istore_n (lv' := [(3, .int (1 : Int32)), (2, .int r15), (0, .ref a_o), (1, .int x1)]) hx hb dX7_leastOf_7 rfl hl (by decide) rfl (fun ls hl => ?_)
  exact L_8 _ _ _ _ _ h _ _ hP hD hS _ (lv_sub hl [2, 3, 1, 0] rfl)
def f_X7_left (o_triedMany : Int32) (o_now : Ar) (o_refusals : Ar) (o_tried : Ar) (x1 : Int32) (x2 : Int32) : Option (Int32 × Int32 × Ar × Ar) := bd1 (f_X7_isTest o_now x1) (fun r1 => (if (b2i r1) = (0 : Int32) then bd2 (f_X7_refuses o_refusals (-2 : Int32)) (fun r4 w5 => some (r4, o_triedMany, w5, o_tried)) else bd1 (f_X7_in x2 (0 : Int32) (2 : Int32)) (fun r7 => (if (b2i r7) = (0 : Int32) then bd2 (f_X7_refuses o_refusals (-2 : Int32)) (fun r34 w35 => some (r34, o_triedMany, w35, o_tried)) else bd3 (f_X7_isFlippedInRow o_triedMany o_now o_tried x1) (fun r10 w11 w12 => (if (b2i r10) = (0 : Int32) then bd2 (f_X7_refuses o_refusals (-3 : Int32)) (fun r31 w32 => some (r31, w11, w32, w12)) else bd1 (f_X7_placeOf o_now x1) (fun r15 => (if x2 = (0 : Int32) then bd3 (f_X7_leastOf w11 o_now w12 r15) (fun r27 w28 w29 => some (r27, w28, o_refusals, w29)) else (if x2 = (1 : Int32) then bd3 (f_X7_fewestOf w11 o_now w12 r15) (fun r23 w24 w25 => some (r23, w24, o_refusals, w25)) else bd3 (f_X7_halvesOf w11 o_now w12 r15) (fun r19 w20 w21 => some (r19, w20, o_refusals, w21)))))))))))
set_option maxHeartbeats 4000000 in
set_option maxRecDepth 100000 in
theorem c_X7_left (l : Launch) (D : va_G) (cI cS : ClassId) (a_o : Nat) (a_o_now : Nat) (a_o_refusals : Nat) (a_o_tried : Nat) (a_o_aside : Nat) (a_o_past : Nat) (a_o_text : Nat) (a_o_shuffled : Nat) (a_o_letters : Nat) (a_o_numbers : Nat) (o_states : Int32) (o_bytes : Int32) (o_triedMany : Int32) (o_orders : Int32) (o_spot : Int32) (o_wrongAt : Int32) (o_hash : Int64) (o_now : Ar) (o_refusals : Ar) (o_tried : Ar) (x1 : Int32) (x2 : Int32) (r0 : Int32) (o_triedMany' : Int32) (o_refusals' : Ar) (o_tried' : Ar) (h : f_X7_left o_triedMany o_now o_refusals o_tried x1 x2 = some (r0, o_triedMany', o_refusals', o_tried')) : wrM l D cI cS yX7_left cX7_left 4 (some .int) 7 159 [.ref a_o, .int x1, .int x2] [(a_o, .inr (6, [.ref a_o_now, .ref a_o_aside, .ref a_o_past, .int (o_states), .ref a_o_refusals, .ref a_o_text, .int (o_bytes), .ref a_o_tried, .int (o_triedMany), .ref a_o_shuffled, .ref a_o_letters, .ref a_o_numbers, .int (o_orders), .int (o_spot), .int (o_wrongAt), .long (o_hash)])), (a_o_now, .inl (cI, 52, .inl (o_now))), (a_o_refusals, .inl (cI, 3, .inl (o_refusals))), (a_o_tried, .inl (cI, 9, .inl (o_tried)))] [(a_o, .inr (6, [.ref a_o_now, .ref a_o_aside, .ref a_o_past, .int (o_states), .ref a_o_refusals, .ref a_o_text, .int (o_bytes), .ref a_o_tried, .int (o_triedMany'), .ref a_o_shuffled, .ref a_o_letters, .ref a_o_numbers, .int (o_orders), .int (o_spot), .int (o_wrongAt), .long (o_hash)])), (a_o_now, .inl (cI, 52, .inl (o_now))), (a_o_refusals, .inl (cI, 3, .inl (o_refusals'))), (a_o_tried, .inl (cI, 9, .inl (o_tried')))] (some (.int r0)) := by
  refine Met.ofW (cc := cX7_left) (maxL := 4) (ret := (some .int)) (by decide) rfl ?_
  intro p e s m args below meth c s₁ B hml hv
  obtain ⟨rfl, hP, hK, hD0⟩ := hv
  have hx := B.exec
  have hb := B.bytes
  have hr := B.returns
  have hts : ∀ w ∈ GW, w.before _ s = true := fun w hw => atoms_spec (ws := mws yX7_left cX7_left 4 (some .int)) B.pre w (List.mem_cons_of_mem _ hw)
  have hown : s.vm.findClass RX7 = some m.cls := findClass_of_methodNamed B.named
  have hlocks := B.notSynchronized
  have hD := inW_self hD0
  generalize hAe : inW [(a_o, .inr (6, [.ref a_o_now, .ref a_o_aside, .ref a_o_past, .int (o_states), .ref a_o_refusals, .ref a_o_text, .int (o_bytes), .ref a_o_tried, .int (o_triedMany), .ref a_o_shuffled, .ref a_o_letters, .ref a_o_numbers, .int (o_orders), .int (o_spot), .int (o_wrongAt), .long (o_hash)])), (a_o_now, .inl (cI, 52, .inl (o_now))), (a_o_refusals, .inl (cI, 3, .inl (o_refusals))), (a_o_tried, .inl (cI, 9, .inl (o_tried)))] = A at hD ⊢
  have hS : va_S A s.heap s.heap [] := va_S.rf
  have hl := lv_entry ([.ref a_o, .int x1, .int x2]) (n := 4) (Nat.le_of_ble_eq_true rfl)
  rw [lg_entry_eq]
  generalize (lg_sl ([.ref a_o, .int x1, .int x2]) ++ List.replicate (4 - (lg_sl ([.ref a_o, .int x1, .int x2])).length) Slot.unset).toArray = ls at hl ⊢
  have hl : lv_has ls 4 [(0, .ref a_o), (1, .int x1), (2, .int x2)] := hl
  have S : CallFix p m c cX7_left 4 s _ GW RX7 := ⟨hx, hb, hml, hown, hts⟩
  unfold f_X7_left at h
  refine lv_aload_n hx hb dX7_left_0 rfl (lv_at hl 0 rfl) ?_
  refine lv_iload_n hx hb dX7_left_1 rfl (lv_at hl 1 rfl) ?_
  obtain ⟨r1, hc2, h⟩ := bd1_use h
  refine ro_V (As := [.int x1]) (rest := []) S (c_X7_isTest l D cI cS a_o a_o_now a_o_aside a_o_past a_o_refusals a_o_text a_o_tried a_o_shuffled a_o_letters a_o_numbers o_states o_bytes o_triedMany o_orders o_spot o_wrongAt o_hash o_now x1 r1 hc2) (cwV1 hts cvX7_isTest wmX7_100 rfl rfl ⟨(Nat.le_of_ble_eq_true rfl), (Nat.le_of_ble_eq_true rfl)⟩) hK hP [0, 1] rfl 0 rfl rfl rfl rfl hl.1 rfl (Nat.le_of_ble_eq_true rfl) dX7_left_2 ⟨Nat.zero_le _, Nat.zero_le _⟩ rfl ?_
  refine lv_if_eq (tgt := 17) hx hb dX7_left_5 (by decide) (fun c3 => ?_) (fun c3 => ?_)
  · have h := it_t c3 h
    refine lv_aload_n hx hb dX7_left_17 rfl (lv_at hl 0 rfl) ?_
    refine lv_bipush (v := (-2 : Int32)) hx hb dX7_left_18 (by decide) ?_
    obtain ⟨r4, w5, hc6, h⟩ := bd2_use h
    refine wr_V (As := [.int (-2 : Int32)]) (rest := []) (ws' := [(a_o, .inr (6, [.ref a_o_now, .ref a_o_aside, .ref a_o_past, .int (o_states), .ref a_o_refusals, .ref a_o_text, .int (o_bytes), .ref a_o_tried, .int (o_triedMany), .ref a_o_shuffled, .ref a_o_letters, .ref a_o_numbers, .int (o_orders), .int (o_spot), .int (o_wrongAt), .long (o_hash)])), (a_o_now, .inl (cI, 52, .inl (o_now))), (a_o_refusals, .inl (cI, 3, .inl (w5))), (a_o_tried, .inl (cI, 9, .inl (o_tried)))]) S (c_X7_refuses l D cI cS a_o a_o_refusals a_o_now a_o_aside a_o_past a_o_text a_o_tried a_o_shuffled a_o_letters a_o_numbers o_states o_bytes o_triedMany o_orders o_spot o_wrongAt o_hash o_refusals (-2 : Int32) r4 w5 hc6) (cwV1 hts cvX7_refuses wmX7_41 rfl rfl ⟨(Nat.le_of_ble_eq_true rfl), (Nat.le_of_ble_eq_true rfl)⟩) hK hP hD hS [0, 2] rfl rfl [(true, 0), (false, 1), (true, 1), (false, 3)] rfl rfl rfl 0 rfl rfl rfl rfl hl.1 rfl (Nat.le_of_ble_eq_true rfl) dX7_left_20 ⟨Nat.zero_le _, Nat.zero_le _⟩ rfl (fun H locs hP hD hS => ?_)
    cases h
    exact W.iret hx hb hr (fun t ht _ => ⟨rfl, by rw [ht]; exact hP, hS.F ht⟩) hS.2.2 dX7_left_23
  · have h := it_f c3 h
    refine lv_iload_n hx hb dX7_left_8 rfl (lv_at hl 2 rfl) ?_
    refine lv_iconst (v := (0 : Int32)) hx hb dX7_left_9 (by decide) ?_
    refine lv_iconst (v := (2 : Int32)) hx hb dX7_left_10 (by decide) ?_
    obtain ⟨r7, hc8, h⟩ := bd1_use h
    refine ro_S (As := [.int x2, .int (0 : Int32), .int (2 : Int32)]) (rest := []) S (c_X7_in l D cI cS x2 (0 : Int32) (2 : Int32) r7 hc8) (cwS1 hts csX7_in wmX7_48 rfl rfl ⟨(Nat.le_of_ble_eq_true rfl), (Nat.le_of_ble_eq_true rfl)⟩) hK hP [] rfl rfl hl.1 rfl (Nat.le_of_ble_eq_true rfl) dX7_left_11 ⟨Nat.zero_le _, Nat.zero_le _⟩ rfl ?_
    refine lv_if_ne (tgt := 24) hx hb dX7_left_14 (by decide) (fun c9 => ?_) (fun c9 => ?_)
    · have h := it_f c9 h
      refine lv_aload_n hx hb dX7_left_24 rfl (lv_at hl 0 rfl) ?_
      refine lv_iload_n hx hb dX7_left_25 rfl (lv_at hl 1 rfl) ?_
      obtain ⟨r10, w11, w12, hc13, h⟩ := bd3_use h
      refine wr_V (As := [.int x1]) (rest := []) (ws' := [(a_o, .inr (6, [.ref a_o_now, .ref a_o_aside, .ref a_o_past, .int (o_states), .ref a_o_refusals, .ref a_o_text, .int (o_bytes), .ref a_o_tried, .int (w11), .ref a_o_shuffled, .ref a_o_letters, .ref a_o_numbers, .int (o_orders), .int (o_spot), .int (o_wrongAt), .long (o_hash)])), (a_o_now, .inl (cI, 52, .inl (o_now))), (a_o_refusals, .inl (cI, 3, .inl (o_refusals))), (a_o_tried, .inl (cI, 9, .inl (w12)))]) S (c_X7_isFlippedInRow l D cI cS a_o a_o_now a_o_tried a_o_aside a_o_past a_o_refusals a_o_text a_o_shuffled a_o_letters a_o_numbers o_states o_bytes o_triedMany o_orders o_spot o_wrongAt o_hash o_now o_tried x1 r10 w11 w12 hc13) (cwV1 hts cvX7_isFlippedInRow wmX7_115 rfl rfl ⟨(Nat.le_of_ble_eq_true rfl), (Nat.le_of_ble_eq_true rfl)⟩) hK hP hD hS [0, 1, 3] rfl rfl [(true, 0), (true, 1), (false, 2), (true, 2)] rfl rfl rfl 0 rfl rfl rfl rfl hl.1 rfl (Nat.le_of_ble_eq_true rfl) dX7_left_26 ⟨Nat.zero_le _, Nat.zero_le _⟩ rfl (fun H locs hP hD hS => ?_)
      refine lv_if_ne (tgt := 39) hx hb dX7_left_29 (by decide) (fun c14 => ?_) (fun c14 => ?_)
      · have h := it_f c14 h
        refine lv_aload_n hx hb dX7_left_39 rfl (lv_at hl 0 rfl) ?_
        refine lv_iload_n hx hb dX7_left_40 rfl (lv_at hl 1 rfl) ?_
        obtain ⟨r15, hc16, h⟩ := bd1_use h
        refine ro_V (As := [.int x1]) (rest := []) S (c_X7_placeOf l D cI cS a_o a_o_now a_o_aside a_o_past a_o_refusals a_o_text a_o_tried a_o_shuffled a_o_letters a_o_numbers o_states o_bytes w11 o_orders o_spot o_wrongAt o_hash o_now x1 r15 hc16) (cwV1 hts cvX7_placeOf wmX7_93 rfl rfl ⟨(Nat.le_of_ble_eq_true rfl), (Nat.le_of_ble_eq_true rfl)⟩) hK hP [0, 1] rfl 0 rfl rfl rfl rfl hl.1 rfl (Nat.le_of_ble_eq_true rfl) dX7_left_41 ⟨Nat.zero_le _, Nat.zero_le _⟩ rfl ?_
        refine lv_istore_n (lv' := [(3, .int r15), (0, .ref a_o), (1, .int x1), (2, .int x2)]) hx hb dX7_left_44 rfl hl (by decide) rfl (fun ls hl => ?_)
        refine lv_iload_n hx hb dX7_left_45 rfl (lv_at hl 3 rfl) ?_
        refine lv_if_ne (tgt := 57) hx hb dX7_left_46 (by decide) (fun c17 => ?_) (fun c17 => ?_)
        · have h := it_f c17 h
          refine lv_iload_n hx hb dX7_left_57 rfl (lv_at hl 3 rfl) ?_
          refine lv_iconst (v := (1 : Int32)) hx hb dX7_left_58 (by decide) ?_
          refine lv_icmp_ne (tgt := 70) hx hb dX7_left_59 (by decide) (fun c18 => ?_) (fun c18 => ?_)
          · have h := it_f c18 h
            refine lv_aload_n hx hb dX7_left_70 rfl (lv_at hl 1 rfl) ?_
            refine lv_iload_n hx hb dX7_left_71 rfl (lv_at hl 0 rfl) ?_
            obtain ⟨r19, w20, w21, hc22, h⟩ := bd3_use h
            refine wr_V (As := [.int r15]) (rest := []) (ws' := [(a_o, .inr (6, [.ref a_o_now, .ref a_o_aside, .ref a_o_past, .int (o_states), .ref a_o_refusals, .ref a_o_text, .int (o_bytes), .ref a_o_tried, .int (w20), .ref a_o_shuffled, .ref a_o_letters, .ref a_o_numbers, .int (o_orders), .int (o_spot), .int (o_wrongAt), .long (o_hash)])), (a_o_now, .inl (cI, 52, .inl (o_now))), (a_o_refusals, .inl (cI, 3, .inl (o_refusals))), (a_o_tried, .inl (cI, 9, .inl (w21)))]) S (c_X7_halvesOf l D cI cS a_o a_o_now a_o_tried a_o_aside a_o_past a_o_refusals a_o_text a_o_shuffled a_o_letters a_o_numbers o_states o_bytes w11 o_orders o_spot o_wrongAt o_hash o_now w12 r15 r19 w20 w21 hc22) (cwV1 hts cvX7_halvesOf wmX7_171 rfl rfl ⟨(Nat.le_of_ble_eq_true rfl), (Nat.le_of_ble_eq_true rfl)⟩) hK hP hD hS [0, 1, 3] rfl rfl [(true, 0), (true, 1), (false, 2), (true, 2)] rfl rfl rfl 0 rfl rfl rfl rfl hl.1 rfl (Nat.le_of_ble_eq_true rfl) dX7_left_72 ⟨Nat.zero_le _, Nat.zero_le _⟩ rfl (fun H locs hP hD hS => ?_)
            cases h
            exact W.iret hx hb hr (fun t ht _ => ⟨rfl, by rw [ht]; exact hP, hS.F ht⟩) hS.2.2 dX7_left_75
          · have h := it_t c18 h
            refine lv_aload_n hx hb dX7_left_62 rfl (lv_at hl 1 rfl) ?_
            refine lv_iload_n hx hb dX7_left_63 rfl (lv_at hl 0 rfl) ?_
            obtain ⟨r23, w24, w25, hc26, h⟩ := bd3_use h
            refine wr_V (As := [.int r15]) (rest := []) (ws' := [(a_o, .inr (6, [.ref a_o_now, .ref a_o_aside, .ref a_o_past, .int (o_states), .ref a_o_refusals, .ref a_o_text, .int (o_bytes), .ref a_o_tried, .int (w24), .ref a_o_shuffled, .ref a_o_letters, .ref a_o_numbers, .int (o_orders), .int (o_spot), .int (o_wrongAt), .long (o_hash)])), (a_o_now, .inl (cI, 52, .inl (o_now))), (a_o_refusals, .inl (cI, 3, .inl (o_refusals))), (a_o_tried, .inl (cI, 9, .inl (w25)))]) S (c_X7_fewestOf l D cI cS a_o a_o_now a_o_tried a_o_aside a_o_past a_o_refusals a_o_text a_o_shuffled a_o_letters a_o_numbers o_states o_bytes w11 o_orders o_spot o_wrongAt o_hash o_now w12 r15 r23 w24 w25 hc26) (cwV1 hts cvX7_fewestOf wmX7_168 rfl rfl ⟨(Nat.le_of_ble_eq_true rfl), (Nat.le_of_ble_eq_true rfl)⟩) hK hP hD hS [0, 1, 3] rfl rfl [(true, 0), (true, 1), (false, 2), (true, 2)] rfl rfl rfl 0 rfl rfl rfl rfl hl.1 rfl (Nat.le_of_ble_eq_true rfl) dX7_left_64 ⟨Nat.zero_le _, Nat.zero_le _⟩ rfl (fun H locs hP hD hS => ?_)
            refine lv_goto (tgt := 75) hx hb dX7_left_67 (by decide) ?_
            cases h
            exact W.iret hx hb hr (fun t ht _ => ⟨rfl, by rw [ht]; exact hP, hS.F ht⟩) hS.2.2 dX7_left_75
        · have h := it_t c17 h
          refine lv_aload_n hx hb dX7_left_49 rfl (lv_at hl 1 rfl) ?_
          refine lv_iload_n hx hb dX7_left_50 rfl (lv_at hl 0 rfl) ?_
          obtain ⟨r27, w28, w29, hc30, h⟩ := bd3_use h
          refine wr_V (As := [.int r15]) (rest := []) (ws' := [(a_o, .inr (6, [.ref a_o_now, .ref a_o_aside, .ref a_o_past, .int (o_states), .ref a_o_refusals, .ref a_o_text, .int (o_bytes), .ref a_o_tried, .int (w28), .ref a_o_shuffled, .ref a_o_letters, .ref a_o_numbers, .int (o_orders), .int (o_spot), .int (o_wrongAt), .long (o_hash)])), (a_o_now, .inl (cI, 52, .inl (o_now))), (a_o_refusals, .inl (cI, 3, .inl (o_refusals))), (a_o_tried, .inl (cI, 9, .inl (w29)))]) S (c_X7_leastOf l D cI cS a_o a_o_now a_o_tried a_o_aside a_o_past a_o_refusals a_o_text a_o_shuffled a_o_letters a_o_numbers o_states o_bytes w11 o_orders o_spot o_wrongAt o_hash o_now w12 r15 r27 w28 w29 hc30) (cwV1 hts cvX7_leastOf wmX7_118 rfl rfl ⟨(Nat.le_of_ble_eq_true rfl), (Nat.le_of_ble_eq_true rfl)⟩) hK hP hD hS [0, 1, 3] rfl rfl [(true, 0), (true, 1), (false, 2), (true, 2)] rfl rfl rfl 0 rfl rfl rfl rfl hl.1 rfl (Nat.le_of_ble_eq_true rfl) dX7_left_51 ⟨Nat.zero_le _, Nat.zero_le _⟩ rfl (fun H locs hP hD hS => ?_)
          refine lv_goto (tgt := 75) hx hb dX7_left_54 (by decide) ?_
          cases h
          exact W.iret hx hb hr (fun t ht _ => ⟨rfl, by rw [ht]; exact hP, hS.F ht⟩) hS.2.2 dX7_left_75
      · have h := it_t c14 h
        refine lv_aload_n hx hb dX7_left_32 rfl (lv_at hl 0 rfl) ?_
        refine lv_bipush (v := (-3 : Int32)) hx hb dX7_left_33 (by decide) ?_
        obtain ⟨r31, w32, hc33, h⟩ := bd2_use h
        refine wr_V (As := [.int (-3 : Int32)]) (rest := []) (ws' := [(a_o, .inr (6, [.ref a_o_now, .ref a_o_aside, .ref a_o_past, .int (o_states), .ref a_o_refusals, .ref a_o_text, .int (o_bytes), .ref a_o_tried, .int (w11), .ref a_o_shuffled, .ref a_o_letters, .ref a_o_numbers, .int (o_orders), .int (o_spot), .int (o_wrongAt), .long (o_hash)])), (a_o_now, .inl (cI, 52, .inl (o_now))), (a_o_refusals, .inl (cI, 3, .inl (w32))), (a_o_tried, .inl (cI, 9, .inl (w12)))]) S (c_X7_refuses l D cI cS a_o a_o_refusals a_o_now a_o_aside a_o_past a_o_text a_o_tried a_o_shuffled a_o_letters a_o_numbers o_states o_bytes w11 o_orders o_spot o_wrongAt o_hash o_refusals (-3 : Int32) r31 w32 hc33) (cwV1 hts cvX7_refuses wmX7_41 rfl rfl ⟨(Nat.le_of_ble_eq_true rfl), (Nat.le_of_ble_eq_true rfl)⟩) hK hP hD hS [0, 2] rfl rfl [(true, 0), (false, 1), (true, 1), (false, 3)] rfl rfl rfl 0 rfl rfl rfl rfl hl.1 rfl (Nat.le_of_ble_eq_true rfl) dX7_left_35 ⟨Nat.zero_le _, Nat.zero_le _⟩ rfl (fun H locs hP hD hS => ?_)
        cases h
        exact W.iret hx hb hr (fun t ht _ => ⟨rfl, by rw [ht]; exact hP, hS.F ht⟩) hS.2.2 dX7_left_38
    · have h := it_t c9 h
      refine lv_aload_n hx hb dX7_left_17 rfl (lv_at hl 0 rfl) ?_
      refine lv_bipush (v := (-2 : Int32)) hx hb dX7_left_18 (by decide) ?_
      obtain ⟨r34, w35, hc36, h⟩ := bd2_use h
      refine wr_V (As := [.int (-2 : Int32)]) (rest := []) (ws' := [(a_o, .inr (6, [.ref a_o_now, .ref a_o_aside, .ref a_o_past, .int (o_states), .ref a_o_refusals, .ref a_o_text, .int (o_bytes), .ref a_o_tried, .int (o_triedMany), .ref a_o_shuffled, .ref a_o_letters, .ref a_o_numbers, .int (o_orders), .int (o_spot), .int (o_wrongAt), .long (o_hash)])), (a_o_now, .inl (cI, 52, .inl (o_now))), (a_o_refusals, .inl (cI, 3, .inl (w35))), (a_o_tried, .inl (cI, 9, .inl (o_tried)))]) S (c_X7_refuses l D cI cS a_o a_o_refusals a_o_now a_o_aside a_o_past a_o_text a_o_tried a_o_shuffled a_o_letters a_o_numbers o_states o_bytes o_triedMany o_orders o_spot o_wrongAt o_hash o_refusals (-2 : Int32) r34 w35 hc36) (cwV1 hts cvX7_refuses wmX7_41 rfl rfl ⟨(Nat.le_of_ble_eq_true rfl), (Nat.le_of_ble_eq_true rfl)⟩) hK hP hD hS [0, 2] rfl rfl [(true, 0), (false, 1), (true, 1), (false, 3)] rfl rfl rfl 0 rfl rfl rfl rfl hl.1 rfl (Nat.le_of_ble_eq_true rfl) dX7_left_20 ⟨Nat.zero_le _, Nat.zero_le _⟩ rfl (fun H locs hP hD hS => ?_)
      cases h
      exact W.iret hx hb hr (fun t ht _ => ⟨rfl, by rw [ht]; exact hP, hS.F ht⟩) hS.2.2 dX7_left_23
def f_X7_mode (o_states : Int32) (o_now : Ar) (o_aside : Ar) (o_past : Ar) (o_refusals : Ar) (x1 : Int32) : Option (Int32 × Int32 × Ar × Ar × Ar × Ar) := bd1 (f_X7_laysAside o_now o_aside) (fun w1 => bd2 (f_X7_change o_now (2 : Int32) x1 (1 : Int32)) (fun r3 w4 => bd4 (f_X7_finished o_states w1 o_past o_refusals r3) (fun r6 w7 w8 w9 => some (r6, w7, w4, w1, w8, w9))))
set_option maxHeartbeats 4000000 in
set_option maxRecDepth 100000 in
theorem c_X7_mode (l : Launch) (D : va_G) (cI cS : ClassId) (a_o : Nat) (a_o_now : Nat) (a_o_aside : Nat) (a_o_past : Nat) (a_o_refusals : Nat) (a_o_text : Nat) (a_o_tried : Nat) (a_o_shuffled : Nat) (a_o_letters : Nat) (a_o_numbers : Nat) (o_states : Int32) (o_bytes : Int32) (o_triedMany : Int32) (o_orders : Int32) (o_spot : Int32) (o_wrongAt : Int32) (o_hash : Int64) (o_now : Ar) (o_aside : Ar) (o_past : Ar) (o_refusals : Ar) (x1 : Int32) (r0 : Int32) (o_states' : Int32) (o_now' : Ar) (o_aside' : Ar) (o_past' : Ar) (o_refusals' : Ar) (h : f_X7_mode o_states o_now o_aside o_past o_refusals x1 = some (r0, o_states', o_now', o_aside', o_past', o_refusals')) : wrM l D cI cS yX7_mode cX7_mode 2 (some .int) 2 46 [.ref a_o, .int x1] [(a_o, .inr (6, [.ref a_o_now, .ref a_o_aside, .ref a_o_past, .int (o_states), .ref a_o_refusals, .ref a_o_text, .int (o_bytes), .ref a_o_tried, .int (o_triedMany), .ref a_o_shuffled, .ref a_o_letters, .ref a_o_numbers, .int (o_orders), .int (o_spot), .int (o_wrongAt), .long (o_hash)])), (a_o_now, .inl (cI, 52, .inl (o_now))), (a_o_aside, .inl (cI, 52, .inl (o_aside))), (a_o_past, .inl (cI, 260, .inl (o_past))), (a_o_refusals, .inl (cI, 3, .inl (o_refusals)))] [(a_o, .inr (6, [.ref a_o_now, .ref a_o_aside, .ref a_o_past, .int (o_states'), .ref a_o_refusals, .ref a_o_text, .int (o_bytes), .ref a_o_tried, .int (o_triedMany), .ref a_o_shuffled, .ref a_o_letters, .ref a_o_numbers, .int (o_orders), .int (o_spot), .int (o_wrongAt), .long (o_hash)])), (a_o_now, .inl (cI, 52, .inl (o_now'))), (a_o_aside, .inl (cI, 52, .inl (o_aside'))), (a_o_past, .inl (cI, 260, .inl (o_past'))), (a_o_refusals, .inl (cI, 3, .inl (o_refusals')))] (some (.int r0)) := by
  refine Met.ofW (cc := cX7_mode) (maxL := 2) (ret := (some .int)) (by decide) rfl ?_
  intro p e s m args below meth c s₁ B hml hv
  obtain ⟨rfl, hP, hK, hD0⟩ := hv
  have hx := B.exec
  have hb := B.bytes
  have hr := B.returns
  have hts : ∀ w ∈ GW, w.before _ s = true := fun w hw => atoms_spec (ws := mws yX7_mode cX7_mode 2 (some .int)) B.pre w (List.mem_cons_of_mem _ hw)
  have hown : s.vm.findClass RX7 = some m.cls := findClass_of_methodNamed B.named
  have hlocks := B.notSynchronized
  have hD := inW_self hD0
  generalize hAe : inW [(a_o, .inr (6, [.ref a_o_now, .ref a_o_aside, .ref a_o_past, .int (o_states), .ref a_o_refusals, .ref a_o_text, .int (o_bytes), .ref a_o_tried, .int (o_triedMany), .ref a_o_shuffled, .ref a_o_letters, .ref a_o_numbers, .int (o_orders), .int (o_spot), .int (o_wrongAt), .long (o_hash)])), (a_o_now, .inl (cI, 52, .inl (o_now))), (a_o_aside, .inl (cI, 52, .inl (o_aside))), (a_o_past, .inl (cI, 260, .inl (o_past))), (a_o_refusals, .inl (cI, 3, .inl (o_refusals)))] = A at hD ⊢
  have hS : va_S A s.heap s.heap [] := va_S.rf
  have hl := lv_entry ([.ref a_o, .int x1]) (n := 2) (Nat.le_of_ble_eq_true rfl)
  rw [lg_entry_eq]
  generalize (lg_sl ([.ref a_o, .int x1]) ++ List.replicate (2 - (lg_sl ([.ref a_o, .int x1])).length) Slot.unset).toArray = ls at hl ⊢
  have hl : lv_has ls 2 [(0, .ref a_o), (1, .int x1)] := hl
  have S : CallFix p m c cX7_mode 2 s _ GW RX7 := ⟨hx, hb, hml, hown, hts⟩
  unfold f_X7_mode at h
  refine lv_aload_n hx hb dX7_mode_0 rfl (lv_at hl 0 rfl) ?_
  obtain ⟨w1, hc2, h⟩ := bd1_use h
  refine wr_V (As := []) (rest := []) (ws' := [(a_o, .inr (6, [.ref a_o_now, .ref a_o_aside, .ref a_o_past, .int (o_states), .ref a_o_refusals, .ref a_o_text, .int (o_bytes), .ref a_o_tried, .int (o_triedMany), .ref a_o_shuffled, .ref a_o_letters, .ref a_o_numbers, .int (o_orders), .int (o_spot), .int (o_wrongAt), .long (o_hash)])), (a_o_now, .inl (cI, 52, .inl (o_now))), (a_o_aside, .inl (cI, 52, .inl (w1))), (a_o_past, .inl (cI, 260, .inl (o_past))), (a_o_refusals, .inl (cI, 3, .inl (o_refusals)))]) S (c_X7_laysAside l D cI cS a_o a_o_now a_o_aside a_o_past a_o_refusals a_o_text a_o_tried a_o_shuffled a_o_letters a_o_numbers o_states o_bytes o_triedMany o_orders o_spot o_wrongAt o_hash o_now o_aside w1 hc2) (cwV1 hts cvX7_laysAside wmX7_121 rfl rfl ⟨(Nat.le_of_ble_eq_true rfl), (Nat.le_of_ble_eq_true rfl)⟩) hK hP hD hS [0, 1, 2] rfl rfl [(true, 0), (true, 1), (true, 2), (false, 3), (false, 4)] rfl rfl rfl 0 rfl rfl rfl rfl hl.1 rfl (Nat.le_of_ble_eq_true rfl) dX7_mode_1 ⟨Nat.zero_le _, Nat.zero_le _⟩ rfl (fun H locs hP hD hS => ?_)
  refine lv_aload_n hx hb dX7_mode_4 rfl (lv_at hl 0 rfl) ?_
  refine lv_aload_n hx hb dX7_mode_5 rfl (lv_at hl 0 rfl) ?_
  refine lv_iconst (v := (2 : Int32)) hx hb dX7_mode_6 (by decide) ?_
  refine lv_iload_n hx hb dX7_mode_7 rfl (lv_at hl 1 rfl) ?_
  refine lv_iconst (v := (1 : Int32)) hx hb dX7_mode_8 (by decide) ?_
  obtain ⟨r3, w4, hc5, h⟩ := bd2_use h
  refine wr_V (As := [.int (2 : Int32), .int x1, .int (1 : Int32)]) (rest := [.ref a_o]) (ws' := [(a_o, .inr (6, [.ref a_o_now, .ref a_o_aside, .ref a_o_past, .int (o_states), .ref a_o_refusals, .ref a_o_text, .int (o_bytes), .ref a_o_tried, .int (o_triedMany), .ref a_o_shuffled, .ref a_o_letters, .ref a_o_numbers, .int (o_orders), .int (o_spot), .int (o_wrongAt), .long (o_hash)])), (a_o_now, .inl (cI, 52, .inl (w4))), (a_o_aside, .inl (cI, 52, .inl (w1))), (a_o_past, .inl (cI, 260, .inl (o_past))), (a_o_refusals, .inl (cI, 3, .inl (o_refusals)))]) S (c_X7_change l D cI cS a_o a_o_now a_o_aside a_o_past a_o_refusals a_o_text a_o_tried a_o_shuffled a_o_letters a_o_numbers o_states o_bytes o_triedMany o_orders o_spot o_wrongAt o_hash o_now (2 : Int32) x1 (1 : Int32) r3 w4 hc5) (cwV1 hts cvX7_change wmX7_140 rfl rfl ⟨(Nat.le_of_ble_eq_true rfl), (Nat.le_of_ble_eq_true rfl)⟩) hK hP hD hS [0, 1] rfl rfl [(true, 0), (true, 1), (false, 2), (false, 3), (false, 4)] rfl rfl rfl 0 rfl rfl rfl rfl hl.1 rfl (Nat.le_of_ble_eq_true rfl) dX7_mode_9 ⟨Nat.zero_le _, Nat.zero_le _⟩ rfl (fun H locs hP hD hS => ?_)
  obtain ⟨r6, w7, w8, w9, hc10, h⟩ := bd4_use h
  refine wr_V (As := [.int r3]) (rest := []) (ws' := [(a_o, .inr (6, [.ref a_o_now, .ref a_o_aside, .ref a_o_past, .int (w7), .ref a_o_refusals, .ref a_o_text, .int (o_bytes), .ref a_o_tried, .int (o_triedMany), .ref a_o_shuffled, .ref a_o_letters, .ref a_o_numbers, .int (o_orders), .int (o_spot), .int (o_wrongAt), .long (o_hash)])), (a_o_now, .inl (cI, 52, .inl (w4))), (a_o_aside, .inl (cI, 52, .inl (w1))), (a_o_past, .inl (cI, 260, .inl (w8))), (a_o_refusals, .inl (cI, 3, .inl (w9)))]) S (c_X7_finished l D cI cS a_o a_o_aside a_o_past a_o_refusals a_o_now a_o_text a_o_tried a_o_shuffled a_o_letters a_o_numbers o_states o_bytes o_triedMany o_orders o_spot o_wrongAt o_hash w1 o_past o_refusals r3 r6 w7 w8 w9 hc10) (cwV1 hts cvX7_finished wmX7_128 rfl rfl ⟨(Nat.le_of_ble_eq_true rfl), (Nat.le_of_ble_eq_true rfl)⟩) hK hP hD hS [0, 2, 3, 4] rfl rfl [(true, 0), (false, 1), (true, 1), (true, 2), (true, 3)] rfl rfl rfl 0 rfl rfl rfl rfl hl.1 rfl (Nat.le_of_ble_eq_true rfl) dX7_mode_12 ⟨Nat.zero_le _, Nat.zero_le _⟩ rfl (fun H locs hP hD hS => ?_)
  cases h
  exact W.iret hx hb hr (fun t ht _ => ⟨rfl, by rw [ht]; exact hP, hS.F ht⟩) hS.2.2 dX7_mode_15
def f_X7_of (o_now : Ar) (o_refusals : Ar) (x1 : Int32) (x2 : Int32) : Option (Int32 × Ar) := bd1 (f_X7_isTest o_now x1) (fun r1 => (if (b2i r1) = (0 : Int32) then bd2 (f_X7_refuses o_refusals (-2 : Int32)) (fun r4 w5 => some (r4, w5)) else bd1 (f_X7_in x2 (0 : Int32) (5 : Int32)) (fun r7 => (if (b2i r7) = (0 : Int32) then bd2 (f_X7_refuses o_refusals (-2 : Int32)) (fun r10 w11 => some (r10, w11)) else bd1 (f_X7_testTold o_now x1 x2) (fun r13 => some (r13, o_refusals))))))
set_option maxHeartbeats 4000000 in
set_option maxRecDepth 100000 in
theorem c_X7_of (l : Launch) (D : va_G) (cI cS : ClassId) (a_o : Nat) (a_o_now : Nat) (a_o_refusals : Nat) (a_o_aside : Nat) (a_o_past : Nat) (a_o_text : Nat) (a_o_tried : Nat) (a_o_shuffled : Nat) (a_o_letters : Nat) (a_o_numbers : Nat) (o_states : Int32) (o_bytes : Int32) (o_triedMany : Int32) (o_orders : Int32) (o_spot : Int32) (o_wrongAt : Int32) (o_hash : Int64) (o_now : Ar) (o_refusals : Ar) (x1 : Int32) (x2 : Int32) (r0 : Int32) (o_refusals' : Ar) (h : f_X7_of o_now o_refusals x1 x2 = some (r0, o_refusals')) : wrM l D cI cS yX7_of cX7_of 3 (some .int) 4 87 [.ref a_o, .int x1, .int x2] [(a_o, .inr (6, [.ref a_o_now, .ref a_o_aside, .ref a_o_past, .int (o_states), .ref a_o_refusals, .ref a_o_text, .int (o_bytes), .ref a_o_tried, .int (o_triedMany), .ref a_o_shuffled, .ref a_o_letters, .ref a_o_numbers, .int (o_orders), .int (o_spot), .int (o_wrongAt), .long (o_hash)])), (a_o_now, .inl (cI, 52, .inl (o_now))), (a_o_refusals, .inl (cI, 3, .inl (o_refusals)))] [(a_o, .inr (6, [.ref a_o_now, .ref a_o_aside, .ref a_o_past, .int (o_states), .ref a_o_refusals, .ref a_o_text, .int (o_bytes), .ref a_o_tried, .int (o_triedMany), .ref a_o_shuffled, .ref a_o_letters, .ref a_o_numbers, .int (o_orders), .int (o_spot), .int (o_wrongAt), .long (o_hash)])), (a_o_now, .inl (cI, 52, .inl (o_now))), (a_o_refusals, .inl (cI, 3, .inl (o_refusals')))] (some (.int r0)) := by
  refine Met.ofW (cc := cX7_of) (maxL := 3) (ret := (some .int)) (by decide) rfl ?_
  intro p e s m args below meth c s₁ B hml hv
  obtain ⟨rfl, hP, hK, hD0⟩ := hv
  have hx := B.exec
  have hb := B.bytes
  have hr := B.returns
  have hts : ∀ w ∈ GW, w.before _ s = true := fun w hw => atoms_spec (ws := mws yX7_of cX7_of 3 (some .int)) B.pre w (List.mem_cons_of_mem _ hw)
  have hown : s.vm.findClass RX7 = some m.cls := findClass_of_methodNamed B.named
  have hlocks := B.notSynchronized
  have hD := inW_self hD0
  generalize hAe : inW [(a_o, .inr (6, [.ref a_o_now, .ref a_o_aside, .ref a_o_past, .int (o_states), .ref a_o_refusals, .ref a_o_text, .int (o_bytes), .ref a_o_tried, .int (o_triedMany), .ref a_o_shuffled, .ref a_o_letters, .ref a_o_numbers, .int (o_orders), .int (o_spot), .int (o_wrongAt), .long (o_hash)])), (a_o_now, .inl (cI, 52, .inl (o_now))), (a_o_refusals, .inl (cI, 3, .inl (o_refusals)))] = A at hD ⊢
  have hS : va_S A s.heap s.heap [] := va_S.rf
  have hl := lv_entry ([.ref a_o, .int x1, .int x2]) (n := 3) (Nat.le_of_ble_eq_true rfl)
  rw [lg_entry_eq]
  generalize (lg_sl ([.ref a_o, .int x1, .int x2]) ++ List.replicate (3 - (lg_sl ([.ref a_o, .int x1, .int x2])).length) Slot.unset).toArray = ls at hl ⊢
  have hl : lv_has ls 3 [(0, .ref a_o), (1, .int x1), (2, .int x2)] := hl
  have S : CallFix p m c cX7_of 3 s _ GW RX7 := ⟨hx, hb, hml, hown, hts⟩
  unfold f_X7_of at h
  refine lv_aload_n hx hb dX7_of_0 rfl (lv_at hl 0 rfl) ?_
  refine lv_iload_n hx hb dX7_of_1 rfl (lv_at hl 1 rfl) ?_
  obtain ⟨r1, hc2, h⟩ := bd1_use h
  refine ro_V (As := [.int x1]) (rest := []) S (c_X7_isTest l D cI cS a_o a_o_now a_o_aside a_o_past a_o_refusals a_o_text a_o_tried a_o_shuffled a_o_letters a_o_numbers o_states o_bytes o_triedMany o_orders o_spot o_wrongAt o_hash o_now x1 r1 hc2) (cwV1 hts cvX7_isTest wmX7_100 rfl rfl ⟨(Nat.le_of_ble_eq_true rfl), (Nat.le_of_ble_eq_true rfl)⟩) hK hP [0, 1] rfl 0 rfl rfl rfl rfl hl.1 rfl (Nat.le_of_ble_eq_true rfl) dX7_of_2 ⟨Nat.zero_le _, Nat.zero_le _⟩ rfl ?_
  refine lv_if_eq (tgt := 26) hx hb dX7_of_5 (by decide) (fun c3 => ?_) (fun c3 => ?_)
  · have h := it_t c3 h
    refine lv_aload_n hx hb dX7_of_26 rfl (lv_at hl 0 rfl) ?_
    refine lv_bipush (v := (-2 : Int32)) hx hb dX7_of_27 (by decide) ?_
    obtain ⟨r4, w5, hc6, h⟩ := bd2_use h
    refine wr_V (As := [.int (-2 : Int32)]) (rest := []) (ws' := [(a_o, .inr (6, [.ref a_o_now, .ref a_o_aside, .ref a_o_past, .int (o_states), .ref a_o_refusals, .ref a_o_text, .int (o_bytes), .ref a_o_tried, .int (o_triedMany), .ref a_o_shuffled, .ref a_o_letters, .ref a_o_numbers, .int (o_orders), .int (o_spot), .int (o_wrongAt), .long (o_hash)])), (a_o_now, .inl (cI, 52, .inl (o_now))), (a_o_refusals, .inl (cI, 3, .inl (w5)))]) S (c_X7_refuses l D cI cS a_o a_o_refusals a_o_now a_o_aside a_o_past a_o_text a_o_tried a_o_shuffled a_o_letters a_o_numbers o_states o_bytes o_triedMany o_orders o_spot o_wrongAt o_hash o_refusals (-2 : Int32) r4 w5 hc6) (cwV1 hts cvX7_refuses wmX7_41 rfl rfl ⟨(Nat.le_of_ble_eq_true rfl), (Nat.le_of_ble_eq_true rfl)⟩) hK hP hD hS [0, 2] rfl rfl [(true, 0), (false, 1), (true, 1)] rfl rfl rfl 0 rfl rfl rfl rfl hl.1 rfl (Nat.le_of_ble_eq_true rfl) dX7_of_29 ⟨Nat.zero_le _, Nat.zero_le _⟩ rfl (fun H locs hP hD hS => ?_)
    cases h
    exact W.iret hx hb hr (fun t ht _ => ⟨rfl, by rw [ht]; exact hP, hS.F ht⟩) hS.2.2 dX7_of_32
  · have h := it_f c3 h
    refine lv_iload_n hx hb dX7_of_8 rfl (lv_at hl 2 rfl) ?_
    refine lv_iconst (v := (0 : Int32)) hx hb dX7_of_9 (by decide) ?_
    refine lv_iconst (v := (5 : Int32)) hx hb dX7_of_10 (by decide) ?_
    obtain ⟨r7, hc8, h⟩ := bd1_use h
    refine ro_S (As := [.int x2, .int (0 : Int32), .int (5 : Int32)]) (rest := []) S (c_X7_in l D cI cS x2 (0 : Int32) (5 : Int32) r7 hc8) (cwS1 hts csX7_in wmX7_48 rfl rfl ⟨(Nat.le_of_ble_eq_true rfl), (Nat.le_of_ble_eq_true rfl)⟩) hK hP [] rfl rfl hl.1 rfl (Nat.le_of_ble_eq_true rfl) dX7_of_11 ⟨Nat.zero_le _, Nat.zero_le _⟩ rfl ?_
    refine lv_if_eq (tgt := 26) hx hb dX7_of_14 (by decide) (fun c9 => ?_) (fun c9 => ?_)
    · have h := it_t c9 h
      refine lv_aload_n hx hb dX7_of_26 rfl (lv_at hl 0 rfl) ?_
      refine lv_bipush (v := (-2 : Int32)) hx hb dX7_of_27 (by decide) ?_
      obtain ⟨r10, w11, hc12, h⟩ := bd2_use h
      refine wr_V (As := [.int (-2 : Int32)]) (rest := []) (ws' := [(a_o, .inr (6, [.ref a_o_now, .ref a_o_aside, .ref a_o_past, .int (o_states), .ref a_o_refusals, .ref a_o_text, .int (o_bytes), .ref a_o_tried, .int (o_triedMany), .ref a_o_shuffled, .ref a_o_letters, .ref a_o_numbers, .int (o_orders), .int (o_spot), .int (o_wrongAt), .long (o_hash)])), (a_o_now, .inl (cI, 52, .inl (o_now))), (a_o_refusals, .inl (cI, 3, .inl (w11)))]) S (c_X7_refuses l D cI cS a_o a_o_refusals a_o_now a_o_aside a_o_past a_o_text a_o_tried a_o_shuffled a_o_letters a_o_numbers o_states o_bytes o_triedMany o_orders o_spot o_wrongAt o_hash o_refusals (-2 : Int32) r10 w11 hc12) (cwV1 hts cvX7_refuses wmX7_41 rfl rfl ⟨(Nat.le_of_ble_eq_true rfl), (Nat.le_of_ble_eq_true rfl)⟩) hK hP hD hS [0, 2] rfl rfl [(true, 0), (false, 1), (true, 1)] rfl rfl rfl 0 rfl rfl rfl rfl hl.1 rfl (Nat.le_of_ble_eq_true rfl) dX7_of_29 ⟨Nat.zero_le _, Nat.zero_le _⟩ rfl (fun H locs hP hD hS => ?_)
      cases h
      exact W.iret hx hb hr (fun t ht _ => ⟨rfl, by rw [ht]; exact hP, hS.F ht⟩) hS.2.2 dX7_of_32
    · have h := it_f c9 h
      refine lv_aload_n hx hb dX7_of_17 rfl (lv_at hl 0 rfl) ?_
      refine lv_iload_n hx hb dX7_of_18 rfl (lv_at hl 1 rfl) ?_
      refine lv_iload_n hx hb dX7_of_19 rfl (lv_at hl 2 rfl) ?_
      obtain ⟨r13, hc14, h⟩ := bd1_use h
      refine ro_V (As := [.int x1, .int x2]) (rest := []) S (c_X7_testTold l D cI cS a_o a_o_now a_o_aside a_o_past a_o_refusals a_o_text a_o_tried a_o_shuffled a_o_letters a_o_numbers o_states o_bytes o_triedMany o_orders o_spot o_wrongAt o_hash o_now x1 x2 r13 hc14) (cwV1 hts cvX7_testTold wmX7_150 rfl rfl ⟨(Nat.le_of_ble_eq_true rfl), (Nat.le_of_ble_eq_true rfl)⟩) hK hP [0, 1] rfl 0 rfl rfl rfl rfl hl.1 rfl (Nat.le_of_ble_eq_true rfl) dX7_of_20 ⟨Nat.zero_le _, Nat.zero_le _⟩ rfl ?_
      refine lv_goto (tgt := 32) hx hb dX7_of_23 (by decide) ?_
      cases h
      exact W.iret hx hb hr (fun t ht _ => ⟨rfl, by rw [ht]; exact hP, hS.F ht⟩) hS.2.2 dX7_of_32
def b_X7_putShuffled_32 : Nat → Int32 → Ar → Ar → Option (Int32 × Ar × Ar)
  | 0, _, _, _ => none
  | n + 1, v2, o_now, o_shuffled => rd o_now 52 (3 : Int32) (fun rv1 => (if rv1 ≤ v2 then rd o_now 52 (3 : Int32) (fun rv4 => some (rv4, o_now, o_shuffled)) else rd o_shuffled 8 v2 (fun rv6 => wr o_now 52 ((4 : Int32) + v2) rv6 (fun fv8 => nm (v2 + (1 : Int32)) (fun y10 => b_X7_putShuffled_32  n y10 fv8 o_shuffled)))))
def f_X7_putShuffled (o_now : Ar) (o_shuffled : Ar) (x1 : Int32) : Option (Int32 × Ar × Ar) := bd1 (f_X7_in x1 (0 : Int32) (999999 : Int32)) (fun r11 => (if (b2i r11) = (0 : Int32) then some ((-2 : Int32), o_now, o_shuffled) else bd1 (f_X7_laysShuffled o_now o_shuffled x1) (fun w14 => rd o_now 52 (0 : Int32) (fun rv16 => wr o_now 52 (3 : Int32) rv16 (fun fv18 => b_X7_putShuffled_32  FU (0 : Int32) fv18 w14)))))
set_option maxHeartbeats 4000000 in
set_option maxRecDepth 100000 in
theorem c_X7_putShuffled (l : Launch) (D : va_G) (cI cS : ClassId) (a_o : Nat) (a_o_now : Nat) (a_o_shuffled : Nat) (a_o_aside : Nat) (a_o_past : Nat) (a_o_refusals : Nat) (a_o_text : Nat) (a_o_tried : Nat) (a_o_letters : Nat) (a_o_numbers : Nat) (o_states : Int32) (o_bytes : Int32) (o_triedMany : Int32) (o_orders : Int32) (o_spot : Int32) (o_wrongAt : Int32) (o_hash : Int64) (o_now : Ar) (o_shuffled : Ar) (x1 : Int32) (r0 : Int32) (o_now' : Ar) (o_shuffled' : Ar) (h : f_X7_putShuffled o_now o_shuffled x1 = some (r0, o_now', o_shuffled')) : wrM l D cI cS yX7_putShuffled cX7_putShuffled 3 (some .int) 1 26 [.ref a_o, .int x1] [(a_o, .inr (6, [.ref a_o_now, .ref a_o_aside, .ref a_o_past, .int (o_states), .ref a_o_refusals, .ref a_o_text, .int (o_bytes), .ref a_o_tried, .int (o_triedMany), .ref a_o_shuffled, .ref a_o_letters, .ref a_o_numbers, .int (o_orders), .int (o_spot), .int (o_wrongAt), .long (o_hash)])), (a_o_now, .inl (cI, 52, .inl (o_now))), (a_o_shuffled, .inl (cI, 8, .inl (o_shuffled)))] [(a_o, .inr (6, [.ref a_o_now, .ref a_o_aside, .ref a_o_past, .int (o_states), .ref a_o_refusals, .ref a_o_text, .int (o_bytes), .ref a_o_tried, .int (o_triedMany), .ref a_o_shuffled, .ref a_o_letters, .ref a_o_numbers, .int (o_orders), .int (o_spot), .int (o_wrongAt), .long (o_hash)])), (a_o_now, .inl (cI, 52, .inl (o_now'))), (a_o_shuffled, .inl (cI, 8, .inl (o_shuffled')))] (some (.int r0)) := by
  refine Met.ofW (cc := cX7_putShuffled) (maxL := 3) (ret := (some .int)) (by decide) rfl ?_
  intro p e s m args below meth c s₁ B hml hv
  obtain ⟨rfl, hP, hK, hD0⟩ := hv
  have hx := B.exec
  have hb := B.bytes
  have hr := B.returns
  have hts : ∀ w ∈ GW, w.before _ s = true := fun w hw => atoms_spec (ws := mws yX7_putShuffled cX7_putShuffled 3 (some .int)) B.pre w (List.mem_cons_of_mem _ hw)
  have hown : s.vm.findClass RX7 = some m.cls := findClass_of_methodNamed B.named
  have hlocks := B.notSynchronized
  have hD := inW_self hD0
  generalize hAe : inW [(a_o, .inr (6, [.ref a_o_now, .ref a_o_aside, .ref a_o_past, .int (o_states), .ref a_o_refusals, .ref a_o_text, .int (o_bytes), .ref a_o_tried, .int (o_triedMany), .ref a_o_shuffled, .ref a_o_letters, .ref a_o_numbers, .int (o_orders), .int (o_spot), .int (o_wrongAt), .long (o_hash)])), (a_o_now, .inl (cI, 52, .inl (o_now))), (a_o_shuffled, .inl (cI, 8, .inl (o_shuffled)))] = A at hD ⊢
  have hS : va_S A s.heap s.heap [] := va_S.rf
  have hl := lv_entry ([.ref a_o, .int x1]) (n := 3) (Nat.le_of_ble_eq_true rfl)
  rw [lg_entry_eq]
  generalize (lg_sl ([.ref a_o, .int x1]) ++ List.replicate (3 - (lg_sl ([.ref a_o, .int x1])).length) Slot.unset).toArray = ls at hl ⊢
  have hl : lv_has ls 3 [(0, .ref a_o), (1, .int x1)] := hl
  have S : CallFix p m c cX7_putShuffled 3 s _ GW RX7 := ⟨hx, hb, hml, hown, hts⟩
  have L_32 : ∀ (n : Nat) (v2 : Int32) (o_now : Ar) (o_shuffled : Ar), b_X7_putShuffled_32  n v2 o_now o_shuffled = some (r0, o_now', o_shuffled') → ∀ (H : Heap) (locs : List Loc), va_P D vwCl [(a_o, .inr (6, [.ref a_o_now, .ref a_o_aside, .ref a_o_past, .int (o_states), .ref a_o_refusals, .ref a_o_text, .int (o_bytes), .ref a_o_tried, .int (o_triedMany), .ref a_o_shuffled, .ref a_o_letters, .ref a_o_numbers, .int (o_orders), .int (o_spot), .int (o_wrongAt), .long (o_hash)])), (a_o_now, .inl (cI, 52, .inl (o_now))), (a_o_shuffled, .inl (cI, 8, .inl (o_shuffled)))] H → va_D A [(a_o, .inr (6, [.ref a_o_now, .ref a_o_aside, .ref a_o_past, .int (o_states), .ref a_o_refusals, .ref a_o_text, .int (o_bytes), .ref a_o_tried, .int (o_triedMany), .ref a_o_shuffled, .ref a_o_letters, .ref a_o_numbers, .int (o_orders), .int (o_spot), .int (o_wrongAt), .long (o_hash)])), (a_o_now, .inl (cI, 52, .inl (o_now))), (a_o_shuffled, .inl (cI, 8, .inl (o_shuffled)))] → va_S A s.heap H locs → ∀ (ls : Array Slot), lv_has ls 3 [(0, .ref a_o), (2, .int v2)] → W p l e (headSpec (mws yX7_putShuffled cX7_putShuffled 3 (some .int)) { frames := 1, cells := 0, slots := 0, locals := 26 }).room s m [.ref a_o, .int x1].toArray below meth c H locs 0 0 (MQ below (wrQ D A [(a_o, .inr (6, [.ref a_o_now, .ref a_o_aside, .ref a_o_past, .int (o_states), .ref a_o_refusals, .ref a_o_text, .int (o_bytes), .ref a_o_tried, .int (o_triedMany), .ref a_o_shuffled, .ref a_o_letters, .ref a_o_numbers, .int (o_orders), .int (o_spot), .int (o_wrongAt), .long (o_hash)])), (a_o_now, .inl (cI, 52, .inl (o_now'))), (a_o_shuffled, .inl (cI, 8, .inl (o_shuffled')))] (some (.int r0))) [.ref a_o, .int x1].toArray s 0 0 A) (F0 m 32 ls []) := by
    intro n
    induction n with
    | zero =>
      intro v2 o_now o_shuffled h
      exact nn_no h
    | succ n ih =>
      intro v2 o_now o_shuffled h H locs hP hD hS ls hl
      rw [b_X7_putShuffled_32] at h
      refine lv_iload_n hx hb dX7_putShuffled_32 rfl (lv_at hl 1 rfl) ?_
      refine lv_aload_n hx hb dX7_putShuffled_33 rfl (lv_at hl 0 rfl) ?_
      refine gfX7_0 hx hb hts hown hK hP 0 rfl wfX7_7 dX7_putShuffled_34 ?_
      refine lv_iconst (v := (3 : Int32)) hx hb dX7_putShuffled_37 (by decide) ?_
      obtain ⟨hi2, h⟩ := rd_use h
      refine ia_ hx hb hK hP 1 rfl hi2 dX7_putShuffled_38 ?_
      refine lv_icmp_ge (tgt := 62) hx hb dX7_putShuffled_39 (by decide) (fun c3 => ?_) (fun c3 => ?_)
      · have h := it_t c3 h
        refine lv_aload_n hx hb dX7_putShuffled_62 rfl (lv_at hl 0 rfl) ?_
        refine gfX7_0 hx hb hts hown hK hP 0 rfl wfX7_7 dX7_putShuffled_63 ?_
        refine lv_iconst (v := (3 : Int32)) hx hb dX7_putShuffled_66 (by decide) ?_
        obtain ⟨hi5, h⟩ := rd_use h
        refine ia_ hx hb hK hP 1 rfl hi5 dX7_putShuffled_67 ?_
        cases h
        exact W.iret hx hb hr (fun t ht _ => ⟨rfl, by rw [ht]; exact hP, hS.F ht⟩) hS.2.2 dX7_putShuffled_68
      · have h := it_f c3 h
        refine lv_aload_n hx hb dX7_putShuffled_42 rfl (lv_at hl 0 rfl) ?_
        refine gfX7_0 hx hb hts hown hK hP 0 rfl wfX7_7 dX7_putShuffled_43 ?_
        refine lv_iconst (v := (4 : Int32)) hx hb dX7_putShuffled_46 (by decide) ?_
        refine lv_iload_n hx hb dX7_putShuffled_47 rfl (lv_at hl 1 rfl) ?_
        refine lv_iadd hx hb dX7_putShuffled_48 ?_
        refine lv_aload_n hx hb dX7_putShuffled_49 rfl (lv_at hl 0 rfl) ?_
        refine gfX7_9 hx hb hts hown hK hP 0 rfl wfX7_28 dX7_putShuffled_50 ?_
        refine lv_iload_n hx hb dX7_putShuffled_53 rfl (lv_at hl 1 rfl) ?_
        obtain ⟨hi7, h⟩ := rd_use h
        refine ia_ hx hb hK hP 2 rfl hi7 dX7_putShuffled_54 ?_
        obtain ⟨hi9, h⟩ := wr_use h
        refine is_ (ws' := [(a_o, .inr (6, [.ref a_o_now, .ref a_o_aside, .ref a_o_past, .int (o_states), .ref a_o_refusals, .ref a_o_text, .int (o_bytes), .ref a_o_tried, .int (o_triedMany), .ref a_o_shuffled, .ref a_o_letters, .ref a_o_numbers, .int (o_orders), .int (o_spot), .int (o_wrongAt), .long (o_hash)])), (a_o_now, .inl (cI, 52, .inl ((upd o_now ((4 : Int32) + v2).toNatClampNeg (o_shuffled v2.toNatClampNeg))))), (a_o_shuffled, .inl (cI, 8, .inl (o_shuffled)))]) hx hb hK hP hD hS 1 rfl rfl hi9 dX7_putShuffled_55 (fun H locs hP hD hS => ?_)
        obtain ⟨y10, ey10⟩ : ∃ z : Int32, z = v2 + (1 : Int32) := ⟨_, rfl⟩
        have h := nm_use h ey10
        refine lv_iinc (v := y10) (lv' := [(2, .int y10), (0, .ref a_o)]) hx hb dX7_putShuffled_56 hl (k := 1) rfl (by rw [ey10]; rfl) (by decide) rfl (fun ls hl => ?_)
        refine lv_goto (tgt := 32) hx hb dX7_putShuffled_59 (by decide) ?_
        exact ih _ _ _ h _ _ hP hD hS _ (lv_sub hl [1, 0] rfl)
  unfold f_X7_putShuffled at h
  refine lv_iload_n hx hb dX7_putShuffled_0 rfl (lv_at hl 1 rfl) ?_
  refine lv_iconst (v := (0 : Int32)) hx hb dX7_putShuffled_1 (by decide) ?_
  refine lv_ldc (v := (999999 : Int32)) hx hb hown (hts _ wkX7_111) dX7_putShuffled_2 ?_
  obtain ⟨r11, hc12, h⟩ := bd1_use h
  refine ro_S (As := [.int x1, .int (0 : Int32), .int (999999 : Int32)]) (rest := []) S (c_X7_in l D cI cS x1 (0 : Int32) (999999 : Int32) r11 hc12) (cwS1 hts csX7_in wmX7_48 rfl rfl ⟨(Nat.le_of_ble_eq_true rfl), (Nat.le_of_ble_eq_true rfl)⟩) hK hP [] rfl rfl hl.1 rfl (Nat.le_of_ble_eq_true rfl) dX7_putShuffled_4 ⟨Nat.zero_le _, Nat.zero_le _⟩ rfl ?_
  refine lv_if_ne (tgt := 13) hx hb dX7_putShuffled_7 (by decide) (fun c13 => ?_) (fun c13 => ?_)
  · have h := it_f c13 h
    refine lv_aload_n hx hb dX7_putShuffled_13 rfl (lv_at hl 0 rfl) ?_
    refine lv_iload_n hx hb dX7_putShuffled_14 rfl (lv_at hl 1 rfl) ?_
    obtain ⟨w14, hc15, h⟩ := bd1_use h
    refine wr_V (As := [.int x1]) (rest := []) (ws' := [(a_o, .inr (6, [.ref a_o_now, .ref a_o_aside, .ref a_o_past, .int (o_states), .ref a_o_refusals, .ref a_o_text, .int (o_bytes), .ref a_o_tried, .int (o_triedMany), .ref a_o_shuffled, .ref a_o_letters, .ref a_o_numbers, .int (o_orders), .int (o_spot), .int (o_wrongAt), .long (o_hash)])), (a_o_now, .inl (cI, 52, .inl (o_now))), (a_o_shuffled, .inl (cI, 8, .inl (w14)))]) S (c_X7_laysShuffled l D cI cS a_o a_o_now a_o_shuffled a_o_aside a_o_past a_o_refusals a_o_text a_o_tried a_o_letters a_o_numbers o_states o_bytes o_triedMany o_orders o_spot o_wrongAt o_hash o_now o_shuffled x1 w14 hc15) (cwV1 hts cvX7_laysShuffled wmX7_112 rfl rfl ⟨(Nat.le_of_ble_eq_true rfl), (Nat.le_of_ble_eq_true rfl)⟩) hK hP hD hS [0, 1, 2] rfl rfl [(true, 0), (true, 1), (true, 2)] rfl rfl rfl 0 rfl rfl rfl rfl hl.1 rfl (Nat.le_of_ble_eq_true rfl) dX7_putShuffled_15 ⟨Nat.zero_le _, Nat.zero_le _⟩ rfl (fun H locs hP hD hS => ?_)
    refine lv_aload_n hx hb dX7_putShuffled_18 rfl (lv_at hl 0 rfl) ?_
    refine gfX7_0 hx hb hts hown hK hP 0 rfl wfX7_7 dX7_putShuffled_19 ?_
    refine lv_iconst (v := (3 : Int32)) hx hb dX7_putShuffled_22 (by decide) ?_
    refine lv_aload_n hx hb dX7_putShuffled_23 rfl (lv_at hl 0 rfl) ?_
    refine gfX7_0 hx hb hts hown hK hP 0 rfl wfX7_7 dX7_putShuffled_24 ?_
    refine lv_iconst (v := (0 : Int32)) hx hb dX7_putShuffled_27 (by decide) ?_
    obtain ⟨hi17, h⟩ := rd_use h
    refine ia_ hx hb hK hP 1 rfl hi17 dX7_putShuffled_28 ?_
    obtain ⟨hi19, h⟩ := wr_use h
    refine is_ (ws' := [(a_o, .inr (6, [.ref a_o_now, .ref a_o_aside, .ref a_o_past, .int (o_states), .ref a_o_refusals, .ref a_o_text, .int (o_bytes), .ref a_o_tried, .int (o_triedMany), .ref a_o_shuffled, .ref a_o_letters, .ref a_o_numbers, .int (o_orders), .int (o_spot), .int (o_wrongAt), .long (o_hash)])), (a_o_now, .inl (cI, 52, .inl ((upd o_now (3 : Int32).toNatClampNeg (o_now (0 : Int32).toNatClampNeg))))), (a_o_shuffled, .inl (cI, 8, .inl (w14)))]) hx hb hK hP hD hS 1 rfl rfl hi19 dX7_putShuffled_29 (fun H locs hP hD hS => ?_)
    refine lv_iconst (v := (0 : Int32)) hx hb dX7_putShuffled_30 (by decide) ?_
    refine lv_istore_n (lv' := [(2, .int (0 : Int32)), (0, .ref a_o), (1, .int x1)]) hx hb dX7_putShuffled_31 rfl hl (by decide) rfl (fun ls hl => ?_)
    exact L_32 _ _ _ _ h _ _ hP hD hS _ (lv_sub hl [1, 0] rfl)
  · have h := it_t c13 h
    refine lv_bipush (v := (-2 : Int32)) hx hb dX7_putShuffled_10 (by decide) ?_
    cases h
    exact W.iret hx hb hr (fun t ht _ => ⟨rfl, by rw [ht]; exact hP, hS.F ht⟩) hS.2.2 dX7_putShuffled_12
def b_X7_putTrimmed_42 : Nat → Int32 → Int32 → Int32 → Int32 → Ar → Ar → Option (Int32 × Int32 × Ar × Ar)
  | 0, _, _, _, _, _, _ => none
  | n + 1, v3, v4, v5, o_triedMany, o_now, o_tried => (if v5 < (0 : Int32) then some (v4, o_triedMany, o_now, o_tried) else rd o_now 52 ((4 : Int32) + v5) (fun rv2 => bd1 (f_X7_has v3 rv2) (fun r4 => (if (b2i r4) = (0 : Int32) then bd1 (f_X7_takesOut o_now v5) (fun w8 => nm (v4 + (1 : Int32)) (fun y10 => nm (v5 + (-1 : Int32)) (fun y11 => b_X7_putTrimmed_42  n v3 y10 y11 o_triedMany w8 o_tried))) else nm (v5 + (-1 : Int32)) (fun y7 => b_X7_putTrimmed_42  n v3 v4 y7 o_triedMany o_now o_tried)))))
def f_X7_putTrimmed (o_triedMany : Int32) (o_now : Ar) (o_tried : Ar) (x1 : Int32) : Option (Int32 × Int32 × Ar × Ar) := bd1 (f_X7_isTest o_now x1) (fun r12 => (if (b2i r12) = (0 : Int32) then some ((-2 : Int32), o_triedMany, o_now, o_tried) else bd3 (f_X7_isFlippedInRow o_triedMany o_now o_tried x1) (fun r15 w16 w17 => (if (b2i r15) = (0 : Int32) then some ((-3 : Int32), w16, o_now, w17) else bd1 (f_X7_placeOf o_now x1) (fun r20 => bd3 (f_X7_leastOf w16 o_now w17 r20) (fun r22 w23 w24 => nm (r20 - (1 : Int32)) (fun y26 => b_X7_putTrimmed_42  FU r22 (0 : Int32) y26 w23 o_now w24)))))))
set_option maxHeartbeats 4000000 in
set_option maxRecDepth 100000 in
theorem c_X7_putTrimmed (l : Launch) (D : va_G) (cI cS : ClassId) (a_o : Nat) (a_o_now : Nat) (a_o_tried : Nat) (a_o_aside : Nat) (a_o_past : Nat) (a_o_refusals : Nat) (a_o_text : Nat) (a_o_shuffled : Nat) (a_o_letters : Nat) (a_o_numbers : Nat) (o_states : Int32) (o_bytes : Int32) (o_triedMany : Int32) (o_orders : Int32) (o_spot : Int32) (o_wrongAt : Int32) (o_hash : Int64) (o_now : Ar) (o_tried : Ar) (x1 : Int32) (r0 : Int32) (o_triedMany' : Int32) (o_now' : Ar) (o_tried' : Ar) (h : f_X7_putTrimmed o_triedMany o_now o_tried x1 = some (r0, o_triedMany', o_now', o_tried')) : wrM l D cI cS yX7_putTrimmed cX7_putTrimmed 6 (some .int) 7 157 [.ref a_o, .int x1] [(a_o, .inr (6, [.ref a_o_now, .ref a_o_aside, .ref a_o_past, .int (o_states), .ref a_o_refusals, .ref a_o_text, .int (o_bytes), .ref a_o_tried, .int (o_triedMany), .ref a_o_shuffled, .ref a_o_letters, .ref a_o_numbers, .int (o_orders), .int (o_spot), .int (o_wrongAt), .long (o_hash)])), (a_o_now, .inl (cI, 52, .inl (o_now))), (a_o_tried, .inl (cI, 9, .inl (o_tried)))] [(a_o, .inr (6, [.ref a_o_now, .ref a_o_aside, .ref a_o_past, .int (o_states), .ref a_o_refusals, .ref a_o_text, .int (o_bytes), .ref a_o_tried, .int (o_triedMany'), .ref a_o_shuffled, .ref a_o_letters, .ref a_o_numbers, .int (o_orders), .int (o_spot), .int (o_wrongAt), .long (o_hash)])), (a_o_now, .inl (cI, 52, .inl (o_now'))), (a_o_tried, .inl (cI, 9, .inl (o_tried')))] (some (.int r0)) := by
  refine Met.ofW (cc := cX7_putTrimmed) (maxL := 6) (ret := (some .int)) (by decide) rfl ?_
  intro p e s m args below meth c s₁ B hml hv
  obtain ⟨rfl, hP, hK, hD0⟩ := hv
  have hx := B.exec
  have hb := B.bytes
  have hr := B.returns
  have hts : ∀ w ∈ GW, w.before _ s = true := fun w hw => atoms_spec (ws := mws yX7_putTrimmed cX7_putTrimmed 6 (some .int)) B.pre w (List.mem_cons_of_mem _ hw)
  have hown : s.vm.findClass RX7 = some m.cls := findClass_of_methodNamed B.named
  have hlocks := B.notSynchronized
  have hD := inW_self hD0
  generalize hAe : inW [(a_o, .inr (6, [.ref a_o_now, .ref a_o_aside, .ref a_o_past, .int (o_states), .ref a_o_refusals, .ref a_o_text, .int (o_bytes), .ref a_o_tried, .int (o_triedMany), .ref a_o_shuffled, .ref a_o_letters, .ref a_o_numbers, .int (o_orders), .int (o_spot), .int (o_wrongAt), .long (o_hash)])), (a_o_now, .inl (cI, 52, .inl (o_now))), (a_o_tried, .inl (cI, 9, .inl (o_tried)))] = A at hD ⊢
  have hS : va_S A s.heap s.heap [] := va_S.rf
  have hl := lv_entry ([.ref a_o, .int x1]) (n := 6) (Nat.le_of_ble_eq_true rfl)
  rw [lg_entry_eq]
  generalize (lg_sl ([.ref a_o, .int x1]) ++ List.replicate (6 - (lg_sl ([.ref a_o, .int x1])).length) Slot.unset).toArray = ls at hl ⊢
  have hl : lv_has ls 6 [(0, .ref a_o), (1, .int x1)] := hl
  have S : CallFix p m c cX7_putTrimmed 6 s _ GW RX7 := ⟨hx, hb, hml, hown, hts⟩
  have L_42 : ∀ (n : Nat) (v3 : Int32) (v4 : Int32) (v5 : Int32) (o_triedMany : Int32) (o_now : Ar) (o_tried : Ar), b_X7_putTrimmed_42  n v3 v4 v5 o_triedMany o_now o_tried = some (r0, o_triedMany', o_now', o_tried') → ∀ (H : Heap) (locs : List Loc), va_P D vwCl [(a_o, .inr (6, [.ref a_o_now, .ref a_o_aside, .ref a_o_past, .int (o_states), .ref a_o_refusals, .ref a_o_text, .int (o_bytes), .ref a_o_tried, .int (o_triedMany), .ref a_o_shuffled, .ref a_o_letters, .ref a_o_numbers, .int (o_orders), .int (o_spot), .int (o_wrongAt), .long (o_hash)])), (a_o_now, .inl (cI, 52, .inl (o_now))), (a_o_tried, .inl (cI, 9, .inl (o_tried)))] H → va_D A [(a_o, .inr (6, [.ref a_o_now, .ref a_o_aside, .ref a_o_past, .int (o_states), .ref a_o_refusals, .ref a_o_text, .int (o_bytes), .ref a_o_tried, .int (o_triedMany), .ref a_o_shuffled, .ref a_o_letters, .ref a_o_numbers, .int (o_orders), .int (o_spot), .int (o_wrongAt), .long (o_hash)])), (a_o_now, .inl (cI, 52, .inl (o_now))), (a_o_tried, .inl (cI, 9, .inl (o_tried)))] → va_S A s.heap H locs → ∀ (ls : Array Slot), lv_has ls 6 [(0, .ref a_o), (3, .int v3), (4, .int v4), (5, .int v5)] → W p l e (headSpec (mws yX7_putTrimmed cX7_putTrimmed 6 (some .int)) { frames := 7, cells := 0, slots := 0, locals := 157 }).room s m [.ref a_o, .int x1].toArray below meth c H locs 0 0 (MQ below (wrQ D A [(a_o, .inr (6, [.ref a_o_now, .ref a_o_aside, .ref a_o_past, .int (o_states), .ref a_o_refusals, .ref a_o_text, .int (o_bytes), .ref a_o_tried, .int (o_triedMany'), .ref a_o_shuffled, .ref a_o_letters, .ref a_o_numbers, .int (o_orders), .int (o_spot), .int (o_wrongAt), .long (o_hash)])), (a_o_now, .inl (cI, 52, .inl (o_now'))), (a_o_tried, .inl (cI, 9, .inl (o_tried')))] (some (.int r0))) [.ref a_o, .int x1].toArray s 0 0 A) (F0 m 42 ls []) := by
    intro n
    induction n with
    | zero =>
      intro v3 v4 v5 o_triedMany o_now o_tried h
      exact nn_no h
    | succ n ih =>
      intro v3 v4 v5 o_triedMany o_now o_tried h H locs hP hD hS ls hl
      rw [b_X7_putTrimmed_42] at h
      refine lv_iload hx hb dX7_putTrimmed_42 (lv_at hl 3 rfl) ?_
      refine lv_if_lt (tgt := 78) hx hb dX7_putTrimmed_44 (by decide) (fun c1 => ?_) (fun c1 => ?_)
      · have h := it_t c1 h
        refine lv_iload hx hb dX7_putTrimmed_78 (lv_at hl 2 rfl) ?_
        cases h
        exact W.iret hx hb hr (fun t ht _ => ⟨rfl, by rw [ht]; exact hP, hS.F ht⟩) hS.2.2 dX7_putTrimmed_80
      · have h := it_f c1 h
        refine lv_iload_n hx hb dX7_putTrimmed_47 rfl (lv_at hl 1 rfl) ?_
        refine lv_aload_n hx hb dX7_putTrimmed_48 rfl (lv_at hl 0 rfl) ?_
        refine gfX7_0 hx hb hts hown hK hP 0 rfl wfX7_7 dX7_putTrimmed_49 ?_
        refine lv_iconst (v := (4 : Int32)) hx hb dX7_putTrimmed_52 (by decide) ?_
        refine lv_iload hx hb dX7_putTrimmed_53 (lv_at hl 3 rfl) ?_
        refine lv_iadd hx hb dX7_putTrimmed_55 ?_
        obtain ⟨hi3, h⟩ := rd_use h
        refine ia_ hx hb hK hP 1 rfl hi3 dX7_putTrimmed_56 ?_
        obtain ⟨r4, hc5, h⟩ := bd1_use h
        refine ro_S (As := [.int v3, .int (o_now ((4 : Int32) + v5).toNatClampNeg)]) (rest := []) S (c_X7_has l D cI cS v3 (o_now ((4 : Int32) + v5).toNatClampNeg) r4 hc5) (cwS1 hts csX7_has wmX7_77 rfl rfl ⟨(Nat.le_of_ble_eq_true rfl), (Nat.le_of_ble_eq_true rfl)⟩) hK hP [] rfl rfl hl.1 rfl (Nat.le_of_ble_eq_true rfl) dX7_putTrimmed_57 ⟨Nat.zero_le _, Nat.zero_le _⟩ rfl ?_
        refine lv_if_ne (tgt := 72) hx hb dX7_putTrimmed_60 (by decide) (fun c6 => ?_) (fun c6 => ?_)
        · have h := it_f c6 h
          obtain ⟨y7, ey7⟩ : ∃ z : Int32, z = v5 + (-1 : Int32) := ⟨_, rfl⟩
          have h := nm_use h ey7
          refine lv_iinc (v := y7) (lv' := [(5, .int y7), (0, .ref a_o), (3, .int v3), (4, .int v4)]) hx hb dX7_putTrimmed_72 hl (k := 3) rfl (by rw [ey7]; rfl) (by decide) rfl (fun ls hl => ?_)
          refine lv_goto (tgt := 42) hx hb dX7_putTrimmed_75 (by decide) ?_
          exact ih _ _ _ _ _ _ h _ _ hP hD hS _ (lv_sub hl [1, 2, 3, 0] rfl)
        · have h := it_t c6 h
          refine lv_aload_n hx hb dX7_putTrimmed_63 rfl (lv_at hl 0 rfl) ?_
          refine lv_iload hx hb dX7_putTrimmed_64 (lv_at hl 3 rfl) ?_
          obtain ⟨w8, hc9, h⟩ := bd1_use h
          refine wr_V (As := [.int v5]) (rest := []) (ws' := [(a_o, .inr (6, [.ref a_o_now, .ref a_o_aside, .ref a_o_past, .int (o_states), .ref a_o_refusals, .ref a_o_text, .int (o_bytes), .ref a_o_tried, .int (o_triedMany), .ref a_o_shuffled, .ref a_o_letters, .ref a_o_numbers, .int (o_orders), .int (o_spot), .int (o_wrongAt), .long (o_hash)])), (a_o_now, .inl (cI, 52, .inl (w8))), (a_o_tried, .inl (cI, 9, .inl (o_tried)))]) S (c_X7_takesOut l D cI cS a_o a_o_now a_o_aside a_o_past a_o_refusals a_o_text a_o_tried a_o_shuffled a_o_letters a_o_numbers o_states o_bytes o_triedMany o_orders o_spot o_wrongAt o_hash o_now v5 w8 hc9) (cwV1 hts cvX7_takesOut wmX7_96 rfl rfl ⟨(Nat.le_of_ble_eq_true rfl), (Nat.le_of_ble_eq_true rfl)⟩) hK hP hD hS [0, 1] rfl rfl [(true, 0), (true, 1), (false, 2)] rfl rfl rfl 0 rfl rfl rfl rfl hl.1 rfl (Nat.le_of_ble_eq_true rfl) dX7_putTrimmed_66 ⟨Nat.zero_le _, Nat.zero_le _⟩ rfl (fun H locs hP hD hS => ?_)
          obtain ⟨y10, ey10⟩ : ∃ z : Int32, z = v4 + (1 : Int32) := ⟨_, rfl⟩
          have h := nm_use h ey10
          refine lv_iinc (v := y10) (lv' := [(4, .int y10), (0, .ref a_o), (3, .int v3), (5, .int v5)]) hx hb dX7_putTrimmed_69 hl (k := 2) rfl (by rw [ey10]; rfl) (by decide) rfl (fun ls hl => ?_)
          obtain ⟨y11, ey11⟩ : ∃ z : Int32, z = v5 + (-1 : Int32) := ⟨_, rfl⟩
          have h := nm_use h ey11
          refine lv_iinc (v := y11) (lv' := [(5, .int y11), (4, .int y10), (0, .ref a_o), (3, .int v3)]) hx hb dX7_putTrimmed_72 hl (k := 3) rfl (by rw [ey11]; rfl) (by decide) rfl (fun ls hl => ?_)
          refine lv_goto (tgt := 42) hx hb dX7_putTrimmed_75 (by decide) ?_
          exact ih _ _ _ _ _ _ h _ _ hP hD hS _ (lv_sub hl [2, 3, 1, 0] rfl)
  unfold f_X7_putTrimmed at h
  refine lv_aload_n hx hb dX7_putTrimmed_0 rfl (lv_at hl 0 rfl) ?_
  refine lv_iload_n hx hb dX7_putTrimmed_1 rfl (lv_at hl 1 rfl) ?_
  obtain ⟨r12, hc13, h⟩ := bd1_use h
  refine ro_V (As := [.int x1]) (rest := []) S (c_X7_isTest l D cI cS a_o a_o_now a_o_aside a_o_past a_o_refusals a_o_text a_o_tried a_o_shuffled a_o_letters a_o_numbers o_states o_bytes o_triedMany o_orders o_spot o_wrongAt o_hash o_now x1 r12 hc13) (cwV1 hts cvX7_isTest wmX7_100 rfl rfl ⟨(Nat.le_of_ble_eq_true rfl), (Nat.le_of_ble_eq_true rfl)⟩) hK hP [0, 1] rfl 0 rfl rfl rfl rfl hl.1 rfl (Nat.le_of_ble_eq_true rfl) dX7_putTrimmed_2 ⟨Nat.zero_le _, Nat.zero_le _⟩ rfl ?_
  refine lv_if_ne (tgt := 11) hx hb dX7_putTrimmed_5 (by decide) (fun c14 => ?_) (fun c14 => ?_)
  · have h := it_f c14 h
    refine lv_aload_n hx hb dX7_putTrimmed_11 rfl (lv_at hl 0 rfl) ?_
    refine lv_iload_n hx hb dX7_putTrimmed_12 rfl (lv_at hl 1 rfl) ?_
    obtain ⟨r15, w16, w17, hc18, h⟩ := bd3_use h
    refine wr_V (As := [.int x1]) (rest := []) (ws' := [(a_o, .inr (6, [.ref a_o_now, .ref a_o_aside, .ref a_o_past, .int (o_states), .ref a_o_refusals, .ref a_o_text, .int (o_bytes), .ref a_o_tried, .int (w16), .ref a_o_shuffled, .ref a_o_letters, .ref a_o_numbers, .int (o_orders), .int (o_spot), .int (o_wrongAt), .long (o_hash)])), (a_o_now, .inl (cI, 52, .inl (o_now))), (a_o_tried, .inl (cI, 9, .inl (w17)))]) S (c_X7_isFlippedInRow l D cI cS a_o a_o_now a_o_tried a_o_aside a_o_past a_o_refusals a_o_text a_o_shuffled a_o_letters a_o_numbers o_states o_bytes o_triedMany o_orders o_spot o_wrongAt o_hash o_now o_tried x1 r15 w16 w17 hc18) (cwV1 hts cvX7_isFlippedInRow wmX7_115 rfl rfl ⟨(Nat.le_of_ble_eq_true rfl), (Nat.le_of_ble_eq_true rfl)⟩) hK hP hD hS [0, 1, 2] rfl rfl [(true, 0), (true, 1), (true, 2)] rfl rfl rfl 0 rfl rfl rfl rfl hl.1 rfl (Nat.le_of_ble_eq_true rfl) dX7_putTrimmed_13 ⟨Nat.zero_le _, Nat.zero_le _⟩ rfl (fun H locs hP hD hS => ?_)
    refine lv_if_ne (tgt := 22) hx hb dX7_putTrimmed_16 (by decide) (fun c19 => ?_) (fun c19 => ?_)
    · have h := it_f c19 h
      refine lv_aload_n hx hb dX7_putTrimmed_22 rfl (lv_at hl 0 rfl) ?_
      refine lv_iload_n hx hb dX7_putTrimmed_23 rfl (lv_at hl 1 rfl) ?_
      obtain ⟨r20, hc21, h⟩ := bd1_use h
      refine ro_V (As := [.int x1]) (rest := []) S (c_X7_placeOf l D cI cS a_o a_o_now a_o_aside a_o_past a_o_refusals a_o_text a_o_tried a_o_shuffled a_o_letters a_o_numbers o_states o_bytes w16 o_orders o_spot o_wrongAt o_hash o_now x1 r20 hc21) (cwV1 hts cvX7_placeOf wmX7_93 rfl rfl ⟨(Nat.le_of_ble_eq_true rfl), (Nat.le_of_ble_eq_true rfl)⟩) hK hP [0, 1] rfl 0 rfl rfl rfl rfl hl.1 rfl (Nat.le_of_ble_eq_true rfl) dX7_putTrimmed_24 ⟨Nat.zero_le _, Nat.zero_le _⟩ rfl ?_
      refine lv_istore_n (lv' := [(2, .int r20), (0, .ref a_o), (1, .int x1)]) hx hb dX7_putTrimmed_27 rfl hl (by decide) rfl (fun ls hl => ?_)
      refine lv_aload_n hx hb dX7_putTrimmed_28 rfl (lv_at hl 1 rfl) ?_
      refine lv_iload_n hx hb dX7_putTrimmed_29 rfl (lv_at hl 0 rfl) ?_
      obtain ⟨r22, w23, w24, hc25, h⟩ := bd3_use h
      refine wr_V (As := [.int r20]) (rest := []) (ws' := [(a_o, .inr (6, [.ref a_o_now, .ref a_o_aside, .ref a_o_past, .int (o_states), .ref a_o_refusals, .ref a_o_text, .int (o_bytes), .ref a_o_tried, .int (w23), .ref a_o_shuffled, .ref a_o_letters, .ref a_o_numbers, .int (o_orders), .int (o_spot), .int (o_wrongAt), .long (o_hash)])), (a_o_now, .inl (cI, 52, .inl (o_now))), (a_o_tried, .inl (cI, 9, .inl (w24)))]) S (c_X7_leastOf l D cI cS a_o a_o_now a_o_tried a_o_aside a_o_past a_o_refusals a_o_text a_o_shuffled a_o_letters a_o_numbers o_states o_bytes w16 o_orders o_spot o_wrongAt o_hash o_now w17 r20 r22 w23 w24 hc25) (cwV1 hts cvX7_leastOf wmX7_118 rfl rfl ⟨(Nat.le_of_ble_eq_true rfl), (Nat.le_of_ble_eq_true rfl)⟩) hK hP hD hS [0, 1, 2] rfl rfl [(true, 0), (true, 1), (true, 2)] rfl rfl rfl 0 rfl rfl rfl rfl hl.1 rfl (Nat.le_of_ble_eq_true rfl) dX7_putTrimmed_30 ⟨Nat.zero_le _, Nat.zero_le _⟩ rfl (fun H locs hP hD hS => ?_)
      refine lv_istore_n (lv' := [(3, .int r22), (2, .int r20), (0, .ref a_o), (1, .int x1)]) hx hb dX7_putTrimmed_33 rfl hl (by decide) rfl (fun ls hl => ?_)
      refine lv_iconst (v := (0 : Int32)) hx hb dX7_putTrimmed_34 (by decide) ?_
      refine lv_istore (lv' := [(4, .int (0 : Int32)), (3, .int r22), (2, .int r20), (0, .ref a_o), (1, .int x1)]) hx hb dX7_putTrimmed_35 hl (by decide) rfl (fun ls hl => ?_)
      refine lv_iload_n hx hb dX7_putTrimmed_37 rfl (lv_at hl 2 rfl) ?_
      refine lv_iconst (v := (1 : Int32)) hx hb dX7_putTrimmed_38 (by decide) ?_
      refine lv_isub hx hb dX7_putTrimmed_39 ?_
      refine lv_topi (fun y26 ey26 => ?_)
      have h := nm_use h ey26
      refine lv_istore (lv' := [(5, .int y26), (4, .int (0 : Int32)), (3, .int r22), (2, .int r20), (0, .ref a_o), (1, .int x1)]) hx hb dX7_putTrimmed_40 hl (by decide) rfl (fun ls hl => ?_)
      exact L_42 _ _ _ _ _ _ _ h _ _ hP hD hS _ (lv_sub hl [4, 2, 1, 0] rfl)
    · have h := it_t c19 h
      refine lv_bipush (v := (-3 : Int32)) hx hb dX7_putTrimmed_19 (by decide) ?_
      cases h
      exact W.iret hx hb hr (fun t ht _ => ⟨rfl, by rw [ht]; exact hP, hS.F ht⟩) hS.2.2 dX7_putTrimmed_21
  · have h := it_t c14 h
    refine lv_bipush (v := (-2 : Int32)) hx hb dX7_putTrimmed_8 (by decide) ?_
    cases h
    exact W.iret hx hb hr (fun t ht _ => ⟨rfl, by rw [ht]; exact hP, hS.F ht⟩) hS.2.2 dX7_putTrimmed_10
def b_X7_seed_27 (o_now : Ar) (x1 : Int32) (x2 : Int32) : Nat → Int32 → Ar → Ar → Option (Int32 × Ar × Ar)
  | 0, _, _, _ => none
  | n + 1, v3, o_refusals, o_shuffled => (if (x1 + (200 : Int32)) ≤ v3 then some ((-1 : Int32), o_refusals, o_shuffled) else (if (999999 : Int32) < v3 then some ((-1 : Int32), o_refusals, o_shuffled) else bd2 (f_X7_flipsBy o_now o_shuffled v3) (fun r3 w4 => bd1 (f_X7_has r3 x2) (fun r6 => (if (b2i r6) = (0 : Int32) then nm (v3 + (1 : Int32)) (fun y9 => b_X7_seed_27 o_now x1 x2 n y9 o_refusals w4) else some (v3, o_refusals, w4))))))
def f_X7_seed (o_now : Ar) (o_refusals : Ar) (o_shuffled : Ar) (x1 : Int32) (x2 : Int32) : Option (Int32 × Ar × Ar) := bd1 (f_X7_in x1 (0 : Int32) (999999 : Int32)) (fun r10 => (if (b2i r10) = (0 : Int32) then bd2 (f_X7_refuses o_refusals (-2 : Int32)) (fun r13 w14 => some (r13, w14, o_shuffled)) else bd1 (f_X7_isTest o_now x2) (fun r16 => (if (b2i r16) = (0 : Int32) then bd2 (f_X7_refuses o_refusals (-2 : Int32)) (fun r19 w20 => some (r19, w20, o_shuffled)) else b_X7_seed_27 o_now x1 x2 FU x1 o_refusals o_shuffled))))
set_option maxHeartbeats 4000000 in
set_option maxRecDepth 100000 in
theorem c_X7_seed (l : Launch) (D : va_G) (cI cS : ClassId) (a_o : Nat) (a_o_now : Nat) (a_o_refusals : Nat) (a_o_shuffled : Nat) (a_o_aside : Nat) (a_o_past : Nat) (a_o_text : Nat) (a_o_tried : Nat) (a_o_letters : Nat) (a_o_numbers : Nat) (o_states : Int32) (o_bytes : Int32) (o_triedMany : Int32) (o_orders : Int32) (o_spot : Int32) (o_wrongAt : Int32) (o_hash : Int64) (o_now : Ar) (o_refusals : Ar) (o_shuffled : Ar) (x1 : Int32) (x2 : Int32) (r0 : Int32) (o_refusals' : Ar) (o_shuffled' : Ar) (h : f_X7_seed o_now o_refusals o_shuffled x1 x2 = some (r0, o_refusals', o_shuffled')) : wrM l D cI cS yX7_seed cX7_seed 4 (some .int) 4 92 [.ref a_o, .int x1, .int x2] [(a_o, .inr (6, [.ref a_o_now, .ref a_o_aside, .ref a_o_past, .int (o_states), .ref a_o_refusals, .ref a_o_text, .int (o_bytes), .ref a_o_tried, .int (o_triedMany), .ref a_o_shuffled, .ref a_o_letters, .ref a_o_numbers, .int (o_orders), .int (o_spot), .int (o_wrongAt), .long (o_hash)])), (a_o_now, .inl (cI, 52, .inl (o_now))), (a_o_refusals, .inl (cI, 3, .inl (o_refusals))), (a_o_shuffled, .inl (cI, 8, .inl (o_shuffled)))] [(a_o, .inr (6, [.ref a_o_now, .ref a_o_aside, .ref a_o_past, .int (o_states), .ref a_o_refusals, .ref a_o_text, .int (o_bytes), .ref a_o_tried, .int (o_triedMany), .ref a_o_shuffled, .ref a_o_letters, .ref a_o_numbers, .int (o_orders), .int (o_spot), .int (o_wrongAt), .long (o_hash)])), (a_o_now, .inl (cI, 52, .inl (o_now))), (a_o_refusals, .inl (cI, 3, .inl (o_refusals'))), (a_o_shuffled, .inl (cI, 8, .inl (o_shuffled')))] (some (.int r0)) := by
  refine Met.ofW (cc := cX7_seed) (maxL := 4) (ret := (some .int)) (by decide) rfl ?_
  intro p e s m args below meth c s₁ B hml hv
  obtain ⟨rfl, hP, hK, hD0⟩ := hv
  have hx := B.exec
  have hb := B.bytes
  have hr := B.returns
  have hts : ∀ w ∈ GW, w.before _ s = true := fun w hw => atoms_spec (ws := mws yX7_seed cX7_seed 4 (some .int)) B.pre w (List.mem_cons_of_mem _ hw)
  have hown : s.vm.findClass RX7 = some m.cls := findClass_of_methodNamed B.named
  have hlocks := B.notSynchronized
  have hD := inW_self hD0
  generalize hAe : inW [(a_o, .inr (6, [.ref a_o_now, .ref a_o_aside, .ref a_o_past, .int (o_states), .ref a_o_refusals, .ref a_o_text, .int (o_bytes), .ref a_o_tried, .int (o_triedMany), .ref a_o_shuffled, .ref a_o_letters, .ref a_o_numbers, .int (o_orders), .int (o_spot), .int (o_wrongAt), .long (o_hash)])), (a_o_now, .inl (cI, 52, .inl (o_now))), (a_o_refusals, .inl (cI, 3, .inl (o_refusals))), (a_o_shuffled, .inl (cI, 8, .inl (o_shuffled)))] = A at hD ⊢
  have hS : va_S A s.heap s.heap [] := va_S.rf
  have hl := lv_entry ([.ref a_o, .int x1, .int x2]) (n := 4) (Nat.le_of_ble_eq_true rfl)
  rw [lg_entry_eq]
  generalize (lg_sl ([.ref a_o, .int x1, .int x2]) ++ List.replicate (4 - (lg_sl ([.ref a_o, .int x1, .int x2])).length) Slot.unset).toArray = ls at hl ⊢
  have hl : lv_has ls 4 [(0, .ref a_o), (1, .int x1), (2, .int x2)] := hl
  have S : CallFix p m c cX7_seed 4 s _ GW RX7 := ⟨hx, hb, hml, hown, hts⟩
  have L_27 : ∀ (n : Nat) (v3 : Int32) (o_refusals : Ar) (o_shuffled : Ar), b_X7_seed_27 o_now x1 x2 n v3 o_refusals o_shuffled = some (r0, o_refusals', o_shuffled') → ∀ (H : Heap) (locs : List Loc), va_P D vwCl [(a_o, .inr (6, [.ref a_o_now, .ref a_o_aside, .ref a_o_past, .int (o_states), .ref a_o_refusals, .ref a_o_text, .int (o_bytes), .ref a_o_tried, .int (o_triedMany), .ref a_o_shuffled, .ref a_o_letters, .ref a_o_numbers, .int (o_orders), .int (o_spot), .int (o_wrongAt), .long (o_hash)])), (a_o_now, .inl (cI, 52, .inl (o_now))), (a_o_refusals, .inl (cI, 3, .inl (o_refusals))), (a_o_shuffled, .inl (cI, 8, .inl (o_shuffled)))] H → va_D A [(a_o, .inr (6, [.ref a_o_now, .ref a_o_aside, .ref a_o_past, .int (o_states), .ref a_o_refusals, .ref a_o_text, .int (o_bytes), .ref a_o_tried, .int (o_triedMany), .ref a_o_shuffled, .ref a_o_letters, .ref a_o_numbers, .int (o_orders), .int (o_spot), .int (o_wrongAt), .long (o_hash)])), (a_o_now, .inl (cI, 52, .inl (o_now))), (a_o_refusals, .inl (cI, 3, .inl (o_refusals))), (a_o_shuffled, .inl (cI, 8, .inl (o_shuffled)))] → va_S A s.heap H locs → ∀ (ls : Array Slot), lv_has ls 4 [(0, .ref a_o), (1, .int x1), (2, .int x2), (3, .int v3)] → W p l e (headSpec (mws yX7_seed cX7_seed 4 (some .int)) { frames := 4, cells := 0, slots := 0, locals := 92 }).room s m [.ref a_o, .int x1, .int x2].toArray below meth c H locs 0 0 (MQ below (wrQ D A [(a_o, .inr (6, [.ref a_o_now, .ref a_o_aside, .ref a_o_past, .int (o_states), .ref a_o_refusals, .ref a_o_text, .int (o_bytes), .ref a_o_tried, .int (o_triedMany), .ref a_o_shuffled, .ref a_o_letters, .ref a_o_numbers, .int (o_orders), .int (o_spot), .int (o_wrongAt), .long (o_hash)])), (a_o_now, .inl (cI, 52, .inl (o_now))), (a_o_refusals, .inl (cI, 3, .inl (o_refusals'))), (a_o_shuffled, .inl (cI, 8, .inl (o_shuffled')))] (some (.int r0))) [.ref a_o, .int x1, .int x2].toArray s 0 0 A) (F0 m 27 ls []) := by
    intro n
    induction n with
    | zero =>
      intro v3 o_refusals o_shuffled h
      exact nn_no h
    | succ n ih =>
      intro v3 o_refusals o_shuffled h H locs hP hD hS ls hl
      rw [b_X7_seed_27] at h
      refine lv_iload_n hx hb dX7_seed_27 rfl (lv_at hl 3 rfl) ?_
      refine lv_iload_n hx hb dX7_seed_28 rfl (lv_at hl 1 rfl) ?_
      refine lv_sipush (v := (200 : Int32)) hx hb dX7_seed_29 (by decide) ?_
      refine lv_iadd hx hb dX7_seed_32 ?_
      refine lv_icmp_ge (tgt := 62) hx hb dX7_seed_33 (by decide) (fun c1 => ?_) (fun c1 => ?_)
      · have h := it_t c1 h
        refine lv_iconst (v := (-1 : Int32)) hx hb dX7_seed_62 (by decide) ?_
        cases h
        exact W.iret hx hb hr (fun t ht _ => ⟨rfl, by rw [ht]; exact hP, hS.F ht⟩) hS.2.2 dX7_seed_63
      · have h := it_f c1 h
        refine lv_iload_n hx hb dX7_seed_36 rfl (lv_at hl 3 rfl) ?_
        refine lv_ldc (v := (999999 : Int32)) hx hb hown (hts _ wkX7_111) dX7_seed_37 ?_
        refine lv_icmp_gt (tgt := 62) hx hb dX7_seed_39 (by decide) (fun c2 => ?_) (fun c2 => ?_)
        · have h := it_t c2 h
          refine lv_iconst (v := (-1 : Int32)) hx hb dX7_seed_62 (by decide) ?_
          cases h
          exact W.iret hx hb hr (fun t ht _ => ⟨rfl, by rw [ht]; exact hP, hS.F ht⟩) hS.2.2 dX7_seed_63
        · have h := it_f c2 h
          refine lv_aload_n hx hb dX7_seed_42 rfl (lv_at hl 0 rfl) ?_
          refine lv_iload_n hx hb dX7_seed_43 rfl (lv_at hl 3 rfl) ?_
          obtain ⟨r3, w4, hc5, h⟩ := bd2_use h
          refine wr_V (As := [.int v3]) (rest := []) (ws' := [(a_o, .inr (6, [.ref a_o_now, .ref a_o_aside, .ref a_o_past, .int (o_states), .ref a_o_refusals, .ref a_o_text, .int (o_bytes), .ref a_o_tried, .int (o_triedMany), .ref a_o_shuffled, .ref a_o_letters, .ref a_o_numbers, .int (o_orders), .int (o_spot), .int (o_wrongAt), .long (o_hash)])), (a_o_now, .inl (cI, 52, .inl (o_now))), (a_o_refusals, .inl (cI, 3, .inl (o_refusals))), (a_o_shuffled, .inl (cI, 8, .inl (w4)))]) S (c_X7_flipsBy l D cI cS a_o a_o_now a_o_shuffled a_o_aside a_o_past a_o_refusals a_o_text a_o_tried a_o_letters a_o_numbers o_states o_bytes o_triedMany o_orders o_spot o_wrongAt o_hash o_now o_shuffled v3 r3 w4 hc5) (cwV1 hts cvX7_flipsBy wmX7_162 rfl rfl ⟨(Nat.le_of_ble_eq_true rfl), (Nat.le_of_ble_eq_true rfl)⟩) hK hP hD hS [0, 1, 3] rfl rfl [(true, 0), (true, 1), (false, 2), (true, 2)] rfl rfl rfl 0 rfl rfl rfl rfl hl.1 rfl (Nat.le_of_ble_eq_true rfl) dX7_seed_44 ⟨Nat.zero_le _, Nat.zero_le _⟩ rfl (fun H locs hP hD hS => ?_)
          refine lv_iload_n hx hb dX7_seed_47 rfl (lv_at hl 2 rfl) ?_
          obtain ⟨r6, hc7, h⟩ := bd1_use h
          refine ro_S (As := [.int r3, .int x2]) (rest := []) S (c_X7_has l D cI cS r3 x2 r6 hc7) (cwS1 hts csX7_has wmX7_77 rfl rfl ⟨(Nat.le_of_ble_eq_true rfl), (Nat.le_of_ble_eq_true rfl)⟩) hK hP [] rfl rfl hl.1 rfl (Nat.le_of_ble_eq_true rfl) dX7_seed_48 ⟨Nat.zero_le _, Nat.zero_le _⟩ rfl ?_
          refine lv_if_eq (tgt := 56) hx hb dX7_seed_51 (by decide) (fun c8 => ?_) (fun c8 => ?_)
          · have h := it_t c8 h
            obtain ⟨y9, ey9⟩ : ∃ z : Int32, z = v3 + (1 : Int32) := ⟨_, rfl⟩
            have h := nm_use h ey9
            refine lv_iinc (v := y9) (lv' := [(3, .int y9), (0, .ref a_o), (1, .int x1), (2, .int x2)]) hx hb dX7_seed_56 hl (k := 3) rfl (by rw [ey9]; rfl) (by decide) rfl (fun ls hl => ?_)
            refine lv_goto (tgt := 27) hx hb dX7_seed_59 (by decide) ?_
            exact ih _ _ _ h _ _ hP hD hS _ (lv_sub hl [1, 2, 3, 0] rfl)
          · have h := it_f c8 h
            refine lv_iload_n hx hb dX7_seed_54 rfl (lv_at hl 3 rfl) ?_
            cases h
            exact W.iret hx hb hr (fun t ht _ => ⟨rfl, by rw [ht]; exact hP, hS.F ht⟩) hS.2.2 dX7_seed_55
  unfold f_X7_seed at h
  refine lv_iload_n hx hb dX7_seed_0 rfl (lv_at hl 1 rfl) ?_
  refine lv_iconst (v := (0 : Int32)) hx hb dX7_seed_1 (by decide) ?_
  refine lv_ldc (v := (999999 : Int32)) hx hb hown (hts _ wkX7_111) dX7_seed_2 ?_
  obtain ⟨r10, hc11, h⟩ := bd1_use h
  refine ro_S (As := [.int x1, .int (0 : Int32), .int (999999 : Int32)]) (rest := []) S (c_X7_in l D cI cS x1 (0 : Int32) (999999 : Int32) r10 hc11) (cwS1 hts csX7_in wmX7_48 rfl rfl ⟨(Nat.le_of_ble_eq_true rfl), (Nat.le_of_ble_eq_true rfl)⟩) hK hP [] rfl rfl hl.1 rfl (Nat.le_of_ble_eq_true rfl) dX7_seed_4 ⟨Nat.zero_le _, Nat.zero_le _⟩ rfl ?_
  refine lv_if_eq (tgt := 18) hx hb dX7_seed_7 (by decide) (fun c12 => ?_) (fun c12 => ?_)
  · have h := it_t c12 h
    refine lv_aload_n hx hb dX7_seed_18 rfl (lv_at hl 0 rfl) ?_
    refine lv_bipush (v := (-2 : Int32)) hx hb dX7_seed_19 (by decide) ?_
    obtain ⟨r13, w14, hc15, h⟩ := bd2_use h
    refine wr_V (As := [.int (-2 : Int32)]) (rest := []) (ws' := [(a_o, .inr (6, [.ref a_o_now, .ref a_o_aside, .ref a_o_past, .int (o_states), .ref a_o_refusals, .ref a_o_text, .int (o_bytes), .ref a_o_tried, .int (o_triedMany), .ref a_o_shuffled, .ref a_o_letters, .ref a_o_numbers, .int (o_orders), .int (o_spot), .int (o_wrongAt), .long (o_hash)])), (a_o_now, .inl (cI, 52, .inl (o_now))), (a_o_refusals, .inl (cI, 3, .inl (w14))), (a_o_shuffled, .inl (cI, 8, .inl (o_shuffled)))]) S (c_X7_refuses l D cI cS a_o a_o_refusals a_o_now a_o_aside a_o_past a_o_text a_o_tried a_o_shuffled a_o_letters a_o_numbers o_states o_bytes o_triedMany o_orders o_spot o_wrongAt o_hash o_refusals (-2 : Int32) r13 w14 hc15) (cwV1 hts cvX7_refuses wmX7_41 rfl rfl ⟨(Nat.le_of_ble_eq_true rfl), (Nat.le_of_ble_eq_true rfl)⟩) hK hP hD hS [0, 2] rfl rfl [(true, 0), (false, 1), (true, 1), (false, 3)] rfl rfl rfl 0 rfl rfl rfl rfl hl.1 rfl (Nat.le_of_ble_eq_true rfl) dX7_seed_21 ⟨Nat.zero_le _, Nat.zero_le _⟩ rfl (fun H locs hP hD hS => ?_)
    cases h
    exact W.iret hx hb hr (fun t ht _ => ⟨rfl, by rw [ht]; exact hP, hS.F ht⟩) hS.2.2 dX7_seed_24
  · have h := it_f c12 h
    refine lv_aload_n hx hb dX7_seed_10 rfl (lv_at hl 0 rfl) ?_
    refine lv_iload_n hx hb dX7_seed_11 rfl (lv_at hl 2 rfl) ?_
    obtain ⟨r16, hc17, h⟩ := bd1_use h
    refine ro_V (As := [.int x2]) (rest := []) S (c_X7_isTest l D cI cS a_o a_o_now a_o_aside a_o_past a_o_refusals a_o_text a_o_tried a_o_shuffled a_o_letters a_o_numbers o_states o_bytes o_triedMany o_orders o_spot o_wrongAt o_hash o_now x2 r16 hc17) (cwV1 hts cvX7_isTest wmX7_100 rfl rfl ⟨(Nat.le_of_ble_eq_true rfl), (Nat.le_of_ble_eq_true rfl)⟩) hK hP [0, 1] rfl 0 rfl rfl rfl rfl hl.1 rfl (Nat.le_of_ble_eq_true rfl) dX7_seed_12 ⟨Nat.zero_le _, Nat.zero_le _⟩ rfl ?_
    refine lv_if_ne (tgt := 25) hx hb dX7_seed_15 (by decide) (fun c18 => ?_) (fun c18 => ?_)
    · have h := it_f c18 h
      refine lv_iload_n hx hb dX7_seed_25 rfl (lv_at hl 1 rfl) ?_
      refine lv_istore_n (lv' := [(3, .int x1), (0, .ref a_o), (1, .int x1), (2, .int x2)]) hx hb dX7_seed_26 rfl hl (by decide) rfl (fun ls hl => ?_)
      exact L_27 _ _ _ _ h _ _ hP hD hS _ (lv_sub hl [1, 2, 3, 0] rfl)
    · have h := it_t c18 h
      refine lv_aload_n hx hb dX7_seed_18 rfl (lv_at hl 0 rfl) ?_
      refine lv_bipush (v := (-2 : Int32)) hx hb dX7_seed_19 (by decide) ?_
      obtain ⟨r19, w20, hc21, h⟩ := bd2_use h
      refine wr_V (As := [.int (-2 : Int32)]) (rest := []) (ws' := [(a_o, .inr (6, [.ref a_o_now, .ref a_o_aside, .ref a_o_past, .int (o_states), .ref a_o_refusals, .ref a_o_text, .int (o_bytes), .ref a_o_tried, .int (o_triedMany), .ref a_o_shuffled, .ref a_o_letters, .ref a_o_numbers, .int (o_orders), .int (o_spot), .int (o_wrongAt), .long (o_hash)])), (a_o_now, .inl (cI, 52, .inl (o_now))), (a_o_refusals, .inl (cI, 3, .inl (w20))), (a_o_shuffled, .inl (cI, 8, .inl (o_shuffled)))]) S (c_X7_refuses l D cI cS a_o a_o_refusals a_o_now a_o_aside a_o_past a_o_text a_o_tried a_o_shuffled a_o_letters a_o_numbers o_states o_bytes o_triedMany o_orders o_spot o_wrongAt o_hash o_refusals (-2 : Int32) r19 w20 hc21) (cwV1 hts cvX7_refuses wmX7_41 rfl rfl ⟨(Nat.le_of_ble_eq_true rfl), (Nat.le_of_ble_eq_true rfl)⟩) hK hP hD hS [0, 2] rfl rfl [(true, 0), (false, 1), (true, 1), (false, 3)] rfl rfl rfl 0 rfl rfl rfl rfl hl.1 rfl (Nat.le_of_ble_eq_true rfl) dX7_seed_21 ⟨Nat.zero_le _, Nat.zero_le _⟩ rfl (fun H locs hP hD hS => ?_)
      cases h
      exact W.iret hx hb hr (fun t ht _ => ⟨rfl, by rw [ht]; exact hP, hS.F ht⟩) hS.2.2 dX7_seed_24
def f_X7_shuffles (o_states : Int32) (o_now : Ar) (o_aside : Ar) (o_past : Ar) (o_refusals : Ar) (o_shuffled : Ar) (x1 : Int32) : Option (Int32 × Int32 × Ar × Ar × Ar × Ar × Ar) := bd1 (f_X7_laysAside o_now o_aside) (fun w1 => bd3 (f_X7_putShuffled o_now o_shuffled x1) (fun r3 w4 w5 => bd4 (f_X7_finished o_states w1 o_past o_refusals r3) (fun r7 w8 w9 w10 => some (r7, w8, w4, w1, w9, w10, w5))))
set_option maxHeartbeats 4000000 in
set_option maxRecDepth 100000 in
theorem c_X7_shuffles (l : Launch) (D : va_G) (cI cS : ClassId) (a_o : Nat) (a_o_now : Nat) (a_o_aside : Nat) (a_o_past : Nat) (a_o_refusals : Nat) (a_o_shuffled : Nat) (a_o_text : Nat) (a_o_tried : Nat) (a_o_letters : Nat) (a_o_numbers : Nat) (o_states : Int32) (o_bytes : Int32) (o_triedMany : Int32) (o_orders : Int32) (o_spot : Int32) (o_wrongAt : Int32) (o_hash : Int64) (o_now : Ar) (o_aside : Ar) (o_past : Ar) (o_refusals : Ar) (o_shuffled : Ar) (x1 : Int32) (r0 : Int32) (o_states' : Int32) (o_now' : Ar) (o_aside' : Ar) (o_past' : Ar) (o_refusals' : Ar) (o_shuffled' : Ar) (h : f_X7_shuffles o_states o_now o_aside o_past o_refusals o_shuffled x1 = some (r0, o_states', o_now', o_aside', o_past', o_refusals', o_shuffled')) : wrM l D cI cS yX7_shuffles cX7_shuffles 2 (some .int) 2 48 [.ref a_o, .int x1] [(a_o, .inr (6, [.ref a_o_now, .ref a_o_aside, .ref a_o_past, .int (o_states), .ref a_o_refusals, .ref a_o_text, .int (o_bytes), .ref a_o_tried, .int (o_triedMany), .ref a_o_shuffled, .ref a_o_letters, .ref a_o_numbers, .int (o_orders), .int (o_spot), .int (o_wrongAt), .long (o_hash)])), (a_o_now, .inl (cI, 52, .inl (o_now))), (a_o_aside, .inl (cI, 52, .inl (o_aside))), (a_o_past, .inl (cI, 260, .inl (o_past))), (a_o_refusals, .inl (cI, 3, .inl (o_refusals))), (a_o_shuffled, .inl (cI, 8, .inl (o_shuffled)))] [(a_o, .inr (6, [.ref a_o_now, .ref a_o_aside, .ref a_o_past, .int (o_states'), .ref a_o_refusals, .ref a_o_text, .int (o_bytes), .ref a_o_tried, .int (o_triedMany), .ref a_o_shuffled, .ref a_o_letters, .ref a_o_numbers, .int (o_orders), .int (o_spot), .int (o_wrongAt), .long (o_hash)])), (a_o_now, .inl (cI, 52, .inl (o_now'))), (a_o_aside, .inl (cI, 52, .inl (o_aside'))), (a_o_past, .inl (cI, 260, .inl (o_past'))), (a_o_refusals, .inl (cI, 3, .inl (o_refusals'))), (a_o_shuffled, .inl (cI, 8, .inl (o_shuffled')))] (some (.int r0)) := by
  refine Met.ofW (cc := cX7_shuffles) (maxL := 2) (ret := (some .int)) (by decide) rfl ?_
  intro p e s m args below meth c s₁ B hml hv
  obtain ⟨rfl, hP, hK, hD0⟩ := hv
  have hx := B.exec
  have hb := B.bytes
  have hr := B.returns
  have hts : ∀ w ∈ GW, w.before _ s = true := fun w hw => atoms_spec (ws := mws yX7_shuffles cX7_shuffles 2 (some .int)) B.pre w (List.mem_cons_of_mem _ hw)
  have hown : s.vm.findClass RX7 = some m.cls := findClass_of_methodNamed B.named
  have hlocks := B.notSynchronized
  have hD := inW_self hD0
  generalize hAe : inW [(a_o, .inr (6, [.ref a_o_now, .ref a_o_aside, .ref a_o_past, .int (o_states), .ref a_o_refusals, .ref a_o_text, .int (o_bytes), .ref a_o_tried, .int (o_triedMany), .ref a_o_shuffled, .ref a_o_letters, .ref a_o_numbers, .int (o_orders), .int (o_spot), .int (o_wrongAt), .long (o_hash)])), (a_o_now, .inl (cI, 52, .inl (o_now))), (a_o_aside, .inl (cI, 52, .inl (o_aside))), (a_o_past, .inl (cI, 260, .inl (o_past))), (a_o_refusals, .inl (cI, 3, .inl (o_refusals))), (a_o_shuffled, .inl (cI, 8, .inl (o_shuffled)))] = A at hD ⊢
  have hS : va_S A s.heap s.heap [] := va_S.rf
  have hl := lv_entry ([.ref a_o, .int x1]) (n := 2) (Nat.le_of_ble_eq_true rfl)
  rw [lg_entry_eq]
  generalize (lg_sl ([.ref a_o, .int x1]) ++ List.replicate (2 - (lg_sl ([.ref a_o, .int x1])).length) Slot.unset).toArray = ls at hl ⊢
  have hl : lv_has ls 2 [(0, .ref a_o), (1, .int x1)] := hl
  have S : CallFix p m c cX7_shuffles 2 s _ GW RX7 := ⟨hx, hb, hml, hown, hts⟩
  unfold f_X7_shuffles at h
  refine lv_aload_n hx hb dX7_shuffles_0 rfl (lv_at hl 0 rfl) ?_
  obtain ⟨w1, hc2, h⟩ := bd1_use h
  refine wr_V (As := []) (rest := []) (ws' := [(a_o, .inr (6, [.ref a_o_now, .ref a_o_aside, .ref a_o_past, .int (o_states), .ref a_o_refusals, .ref a_o_text, .int (o_bytes), .ref a_o_tried, .int (o_triedMany), .ref a_o_shuffled, .ref a_o_letters, .ref a_o_numbers, .int (o_orders), .int (o_spot), .int (o_wrongAt), .long (o_hash)])), (a_o_now, .inl (cI, 52, .inl (o_now))), (a_o_aside, .inl (cI, 52, .inl (w1))), (a_o_past, .inl (cI, 260, .inl (o_past))), (a_o_refusals, .inl (cI, 3, .inl (o_refusals))), (a_o_shuffled, .inl (cI, 8, .inl (o_shuffled)))]) S (c_X7_laysAside l D cI cS a_o a_o_now a_o_aside a_o_past a_o_refusals a_o_text a_o_tried a_o_shuffled a_o_letters a_o_numbers o_states o_bytes o_triedMany o_orders o_spot o_wrongAt o_hash o_now o_aside w1 hc2) (cwV1 hts cvX7_laysAside wmX7_121 rfl rfl ⟨(Nat.le_of_ble_eq_true rfl), (Nat.le_of_ble_eq_true rfl)⟩) hK hP hD hS [0, 1, 2] rfl rfl [(true, 0), (true, 1), (true, 2), (false, 3), (false, 4), (false, 5)] rfl rfl rfl 0 rfl rfl rfl rfl hl.1 rfl (Nat.le_of_ble_eq_true rfl) dX7_shuffles_1 ⟨Nat.zero_le _, Nat.zero_le _⟩ rfl (fun H locs hP hD hS => ?_)
  refine lv_aload_n hx hb dX7_shuffles_4 rfl (lv_at hl 0 rfl) ?_
  refine lv_aload_n hx hb dX7_shuffles_5 rfl (lv_at hl 0 rfl) ?_
  refine lv_iload_n hx hb dX7_shuffles_6 rfl (lv_at hl 1 rfl) ?_
  obtain ⟨r3, w4, w5, hc6, h⟩ := bd3_use h
  refine wr_V (As := [.int x1]) (rest := [.ref a_o]) (ws' := [(a_o, .inr (6, [.ref a_o_now, .ref a_o_aside, .ref a_o_past, .int (o_states), .ref a_o_refusals, .ref a_o_text, .int (o_bytes), .ref a_o_tried, .int (o_triedMany), .ref a_o_shuffled, .ref a_o_letters, .ref a_o_numbers, .int (o_orders), .int (o_spot), .int (o_wrongAt), .long (o_hash)])), (a_o_now, .inl (cI, 52, .inl (w4))), (a_o_aside, .inl (cI, 52, .inl (w1))), (a_o_past, .inl (cI, 260, .inl (o_past))), (a_o_refusals, .inl (cI, 3, .inl (o_refusals))), (a_o_shuffled, .inl (cI, 8, .inl (w5)))]) S (c_X7_putShuffled l D cI cS a_o a_o_now a_o_shuffled a_o_aside a_o_past a_o_refusals a_o_text a_o_tried a_o_letters a_o_numbers o_states o_bytes o_triedMany o_orders o_spot o_wrongAt o_hash o_now o_shuffled x1 r3 w4 w5 hc6) (cwV1 hts cvX7_putShuffled wmX7_144 rfl rfl ⟨(Nat.le_of_ble_eq_true rfl), (Nat.le_of_ble_eq_true rfl)⟩) hK hP hD hS [0, 1, 5] rfl rfl [(true, 0), (true, 1), (false, 2), (false, 3), (false, 4), (true, 2)] rfl rfl rfl 0 rfl rfl rfl rfl hl.1 rfl (Nat.le_of_ble_eq_true rfl) dX7_shuffles_7 ⟨Nat.zero_le _, Nat.zero_le _⟩ rfl (fun H locs hP hD hS => ?_)
  obtain ⟨r7, w8, w9, w10, hc11, h⟩ := bd4_use h
  refine wr_V (As := [.int r3]) (rest := []) (ws' := [(a_o, .inr (6, [.ref a_o_now, .ref a_o_aside, .ref a_o_past, .int (w8), .ref a_o_refusals, .ref a_o_text, .int (o_bytes), .ref a_o_tried, .int (o_triedMany), .ref a_o_shuffled, .ref a_o_letters, .ref a_o_numbers, .int (o_orders), .int (o_spot), .int (o_wrongAt), .long (o_hash)])), (a_o_now, .inl (cI, 52, .inl (w4))), (a_o_aside, .inl (cI, 52, .inl (w1))), (a_o_past, .inl (cI, 260, .inl (w9))), (a_o_refusals, .inl (cI, 3, .inl (w10))), (a_o_shuffled, .inl (cI, 8, .inl (w5)))]) S (c_X7_finished l D cI cS a_o a_o_aside a_o_past a_o_refusals a_o_now a_o_text a_o_tried a_o_shuffled a_o_letters a_o_numbers o_states o_bytes o_triedMany o_orders o_spot o_wrongAt o_hash w1 o_past o_refusals r3 r7 w8 w9 w10 hc11) (cwV1 hts cvX7_finished wmX7_128 rfl rfl ⟨(Nat.le_of_ble_eq_true rfl), (Nat.le_of_ble_eq_true rfl)⟩) hK hP hD hS [0, 2, 3, 4] rfl rfl [(true, 0), (false, 1), (true, 1), (true, 2), (true, 3), (false, 5)] rfl rfl rfl 0 rfl rfl rfl rfl hl.1 rfl (Nat.le_of_ble_eq_true rfl) dX7_shuffles_10 ⟨Nat.zero_le _, Nat.zero_le _⟩ rfl (fun H locs hP hD hS => ?_)
  cases h
  exact W.iret hx hb hr (fun t ht _ => ⟨rfl, by rw [ht]; exact hP, hS.F ht⟩) hS.2.2 dX7_shuffles_13
def f_X7_soils (o_triedMany : Int32) (o_now : Ar) (o_refusals : Ar) (o_tried : Ar) (x1 : Int32) (x2 : Int32) : Option (Int32 × Int32 × Ar × Ar) := bd1 (f_X7_areTwo o_now x1 x2) (fun r1 => (if (b2i r1) = (0 : Int32) then bd2 (f_X7_refuses o_refusals (-2 : Int32)) (fun r9 w10 => some (r9, o_triedMany, w10, o_tried)) else bd3 (f_X7_soilsFor o_triedMany o_now o_tried x1 x2) (fun r4 w5 w6 => (if (b2i r4) = (0 : Int32) then some ((0 : Int32), w5, o_refusals, w6) else some ((1 : Int32), w5, o_refusals, w6)))))
set_option maxHeartbeats 4000000 in
set_option maxRecDepth 100000 in
theorem c_X7_soils (l : Launch) (D : va_G) (cI cS : ClassId) (a_o : Nat) (a_o_now : Nat) (a_o_refusals : Nat) (a_o_tried : Nat) (a_o_aside : Nat) (a_o_past : Nat) (a_o_text : Nat) (a_o_shuffled : Nat) (a_o_letters : Nat) (a_o_numbers : Nat) (o_states : Int32) (o_bytes : Int32) (o_triedMany : Int32) (o_orders : Int32) (o_spot : Int32) (o_wrongAt : Int32) (o_hash : Int64) (o_now : Ar) (o_refusals : Ar) (o_tried : Ar) (x1 : Int32) (x2 : Int32) (r0 : Int32) (o_triedMany' : Int32) (o_refusals' : Ar) (o_tried' : Ar) (h : f_X7_soils o_triedMany o_now o_refusals o_tried x1 x2 = some (r0, o_triedMany', o_refusals', o_tried')) : wrM l D cI cS yX7_soils cX7_soils 3 (some .int) 6 132 [.ref a_o, .int x1, .int x2] [(a_o, .inr (6, [.ref a_o_now, .ref a_o_aside, .ref a_o_past, .int (o_states), .ref a_o_refusals, .ref a_o_text, .int (o_bytes), .ref a_o_tried, .int (o_triedMany), .ref a_o_shuffled, .ref a_o_letters, .ref a_o_numbers, .int (o_orders), .int (o_spot), .int (o_wrongAt), .long (o_hash)])), (a_o_now, .inl (cI, 52, .inl (o_now))), (a_o_refusals, .inl (cI, 3, .inl (o_refusals))), (a_o_tried, .inl (cI, 9, .inl (o_tried)))] [(a_o, .inr (6, [.ref a_o_now, .ref a_o_aside, .ref a_o_past, .int (o_states), .ref a_o_refusals, .ref a_o_text, .int (o_bytes), .ref a_o_tried, .int (o_triedMany'), .ref a_o_shuffled, .ref a_o_letters, .ref a_o_numbers, .int (o_orders), .int (o_spot), .int (o_wrongAt), .long (o_hash)])), (a_o_now, .inl (cI, 52, .inl (o_now))), (a_o_refusals, .inl (cI, 3, .inl (o_refusals'))), (a_o_tried, .inl (cI, 9, .inl (o_tried')))] (some (.int r0)) := by
  refine Met.ofW (cc := cX7_soils) (maxL := 3) (ret := (some .int)) (by decide) rfl ?_
  intro p e s m args below meth c s₁ B hml hv
  obtain ⟨rfl, hP, hK, hD0⟩ := hv
  have hx := B.exec
  have hb := B.bytes
  have hr := B.returns
  have hts : ∀ w ∈ GW, w.before _ s = true := fun w hw => atoms_spec (ws := mws yX7_soils cX7_soils 3 (some .int)) B.pre w (List.mem_cons_of_mem _ hw)
  have hown : s.vm.findClass RX7 = some m.cls := findClass_of_methodNamed B.named
  have hlocks := B.notSynchronized
  have hD := inW_self hD0
  generalize hAe : inW [(a_o, .inr (6, [.ref a_o_now, .ref a_o_aside, .ref a_o_past, .int (o_states), .ref a_o_refusals, .ref a_o_text, .int (o_bytes), .ref a_o_tried, .int (o_triedMany), .ref a_o_shuffled, .ref a_o_letters, .ref a_o_numbers, .int (o_orders), .int (o_spot), .int (o_wrongAt), .long (o_hash)])), (a_o_now, .inl (cI, 52, .inl (o_now))), (a_o_refusals, .inl (cI, 3, .inl (o_refusals))), (a_o_tried, .inl (cI, 9, .inl (o_tried)))] = A at hD ⊢
  have hS : va_S A s.heap s.heap [] := va_S.rf
  have hl := lv_entry ([.ref a_o, .int x1, .int x2]) (n := 3) (Nat.le_of_ble_eq_true rfl)
  rw [lg_entry_eq]
  generalize (lg_sl ([.ref a_o, .int x1, .int x2]) ++ List.replicate (3 - (lg_sl ([.ref a_o, .int x1, .int x2])).length) Slot.unset).toArray = ls at hl ⊢
  have hl : lv_has ls 3 [(0, .ref a_o), (1, .int x1), (2, .int x2)] := hl
  have S : CallFix p m c cX7_soils 3 s _ GW RX7 := ⟨hx, hb, hml, hown, hts⟩
  unfold f_X7_soils at h
  refine lv_aload_n hx hb dX7_soils_0 rfl (lv_at hl 0 rfl) ?_
  refine lv_iload_n hx hb dX7_soils_1 rfl (lv_at hl 1 rfl) ?_
  refine lv_iload_n hx hb dX7_soils_2 rfl (lv_at hl 2 rfl) ?_
  obtain ⟨r1, hc2, h⟩ := bd1_use h
  refine ro_V (As := [.int x1, .int x2]) (rest := []) S (c_X7_areTwo l D cI cS a_o a_o_now a_o_aside a_o_past a_o_refusals a_o_text a_o_tried a_o_shuffled a_o_letters a_o_numbers o_states o_bytes o_triedMany o_orders o_spot o_wrongAt o_hash o_now x1 x2 r1 hc2) (cwV1 hts cvX7_areTwo wmX7_153 rfl rfl ⟨(Nat.le_of_ble_eq_true rfl), (Nat.le_of_ble_eq_true rfl)⟩) hK hP [0, 1] rfl 0 rfl rfl rfl rfl hl.1 rfl (Nat.le_of_ble_eq_true rfl) dX7_soils_3 ⟨Nat.zero_le _, Nat.zero_le _⟩ rfl ?_
  refine lv_if_ne (tgt := 18) hx hb dX7_soils_6 (by decide) (fun c3 => ?_) (fun c3 => ?_)
  · have h := it_f c3 h
    refine lv_aload_n hx hb dX7_soils_18 rfl (lv_at hl 0 rfl) ?_
    refine lv_iload_n hx hb dX7_soils_19 rfl (lv_at hl 1 rfl) ?_
    refine lv_iload_n hx hb dX7_soils_20 rfl (lv_at hl 2 rfl) ?_
    obtain ⟨r4, w5, w6, hc7, h⟩ := bd3_use h
    refine wr_V (As := [.int x1, .int x2]) (rest := []) (ws' := [(a_o, .inr (6, [.ref a_o_now, .ref a_o_aside, .ref a_o_past, .int (o_states), .ref a_o_refusals, .ref a_o_text, .int (o_bytes), .ref a_o_tried, .int (w5), .ref a_o_shuffled, .ref a_o_letters, .ref a_o_numbers, .int (o_orders), .int (o_spot), .int (o_wrongAt), .long (o_hash)])), (a_o_now, .inl (cI, 52, .inl (o_now))), (a_o_refusals, .inl (cI, 3, .inl (o_refusals))), (a_o_tried, .inl (cI, 9, .inl (w6)))]) S (c_X7_soilsFor l D cI cS a_o a_o_now a_o_tried a_o_aside a_o_past a_o_refusals a_o_text a_o_shuffled a_o_letters a_o_numbers o_states o_bytes o_triedMany o_orders o_spot o_wrongAt o_hash o_now o_tried x1 x2 r4 w5 w6 hc7) (cwV1 hts cvX7_soilsFor wmX7_156 rfl rfl ⟨(Nat.le_of_ble_eq_true rfl), (Nat.le_of_ble_eq_true rfl)⟩) hK hP hD hS [0, 1, 3] rfl rfl [(true, 0), (true, 1), (false, 2), (true, 2)] rfl rfl rfl 0 rfl rfl rfl rfl hl.1 rfl (Nat.le_of_ble_eq_true rfl) dX7_soils_21 ⟨Nat.zero_le _, Nat.zero_le _⟩ rfl (fun H locs hP hD hS => ?_)
    refine lv_if_eq (tgt := 31) hx hb dX7_soils_24 (by decide) (fun c8 => ?_) (fun c8 => ?_)
    · have h := it_t c8 h
      refine lv_iconst (v := (0 : Int32)) hx hb dX7_soils_31 (by decide) ?_
      cases h
      exact W.iret hx hb hr (fun t ht _ => ⟨rfl, by rw [ht]; exact hP, hS.F ht⟩) hS.2.2 dX7_soils_32
    · have h := it_f c8 h
      refine lv_iconst (v := (1 : Int32)) hx hb dX7_soils_27 (by decide) ?_
      refine lv_goto (tgt := 32) hx hb dX7_soils_28 (by decide) ?_
      cases h
      exact W.iret hx hb hr (fun t ht _ => ⟨rfl, by rw [ht]; exact hP, hS.F ht⟩) hS.2.2 dX7_soils_32
  · have h := it_t c3 h
    refine lv_aload_n hx hb dX7_soils_9 rfl (lv_at hl 0 rfl) ?_
    refine lv_bipush (v := (-2 : Int32)) hx hb dX7_soils_10 (by decide) ?_
    obtain ⟨r9, w10, hc11, h⟩ := bd2_use h
    refine wr_V (As := [.int (-2 : Int32)]) (rest := []) (ws' := [(a_o, .inr (6, [.ref a_o_now, .ref a_o_aside, .ref a_o_past, .int (o_states), .ref a_o_refusals, .ref a_o_text, .int (o_bytes), .ref a_o_tried, .int (o_triedMany), .ref a_o_shuffled, .ref a_o_letters, .ref a_o_numbers, .int (o_orders), .int (o_spot), .int (o_wrongAt), .long (o_hash)])), (a_o_now, .inl (cI, 52, .inl (o_now))), (a_o_refusals, .inl (cI, 3, .inl (w10))), (a_o_tried, .inl (cI, 9, .inl (o_tried)))]) S (c_X7_refuses l D cI cS a_o a_o_refusals a_o_now a_o_aside a_o_past a_o_text a_o_tried a_o_shuffled a_o_letters a_o_numbers o_states o_bytes o_triedMany o_orders o_spot o_wrongAt o_hash o_refusals (-2 : Int32) r9 w10 hc11) (cwV1 hts cvX7_refuses wmX7_41 rfl rfl ⟨(Nat.le_of_ble_eq_true rfl), (Nat.le_of_ble_eq_true rfl)⟩) hK hP hD hS [0, 2] rfl rfl [(true, 0), (false, 1), (true, 1), (false, 3)] rfl rfl rfl 0 rfl rfl rfl rfl hl.1 rfl (Nat.le_of_ble_eq_true rfl) dX7_soils_12 ⟨Nat.zero_le _, Nat.zero_le _⟩ rfl (fun H locs hP hD hS => ?_)
    refine lv_goto (tgt := 32) hx hb dX7_soils_15 (by decide) ?_
    cases h
    exact W.iret hx hb hr (fun t ht _ => ⟨rfl, by rw [ht]; exact hP, hS.F ht⟩) hS.2.2 dX7_soils_32
def f_X7_start (o_states : Int32) (o_now : Ar) (o_aside : Ar) (o_past : Ar) (o_refusals : Ar) (x1 : Int32) : Option (Int32 × Int32 × Ar × Ar × Ar × Ar) := bd1 (f_X7_laysAside o_now o_aside) (fun w1 => bd2 (f_X7_change o_now (1 : Int32) x1 (63 : Int32)) (fun r3 w4 => bd4 (f_X7_finished o_states w1 o_past o_refusals r3) (fun r6 w7 w8 w9 => some (r6, w7, w4, w1, w8, w9))))
set_option maxHeartbeats 4000000 in
set_option maxRecDepth 100000 in
theorem c_X7_start (l : Launch) (D : va_G) (cI cS : ClassId) (a_o : Nat) (a_o_now : Nat) (a_o_aside : Nat) (a_o_past : Nat) (a_o_refusals : Nat) (a_o_text : Nat) (a_o_tried : Nat) (a_o_shuffled : Nat) (a_o_letters : Nat) (a_o_numbers : Nat) (o_states : Int32) (o_bytes : Int32) (o_triedMany : Int32) (o_orders : Int32) (o_spot : Int32) (o_wrongAt : Int32) (o_hash : Int64) (o_now : Ar) (o_aside : Ar) (o_past : Ar) (o_refusals : Ar) (x1 : Int32) (r0 : Int32) (o_states' : Int32) (o_now' : Ar) (o_aside' : Ar) (o_past' : Ar) (o_refusals' : Ar) (h : f_X7_start o_states o_now o_aside o_past o_refusals x1 = some (r0, o_states', o_now', o_aside', o_past', o_refusals')) : wrM l D cI cS yX7_start cX7_start 2 (some .int) 2 46 [.ref a_o, .int x1] [(a_o, .inr (6, [.ref a_o_now, .ref a_o_aside, .ref a_o_past, .int (o_states), .ref a_o_refusals, .ref a_o_text, .int (o_bytes), .ref a_o_tried, .int (o_triedMany), .ref a_o_shuffled, .ref a_o_letters, .ref a_o_numbers, .int (o_orders), .int (o_spot), .int (o_wrongAt), .long (o_hash)])), (a_o_now, .inl (cI, 52, .inl (o_now))), (a_o_aside, .inl (cI, 52, .inl (o_aside))), (a_o_past, .inl (cI, 260, .inl (o_past))), (a_o_refusals, .inl (cI, 3, .inl (o_refusals)))] [(a_o, .inr (6, [.ref a_o_now, .ref a_o_aside, .ref a_o_past, .int (o_states'), .ref a_o_refusals, .ref a_o_text, .int (o_bytes), .ref a_o_tried, .int (o_triedMany), .ref a_o_shuffled, .ref a_o_letters, .ref a_o_numbers, .int (o_orders), .int (o_spot), .int (o_wrongAt), .long (o_hash)])), (a_o_now, .inl (cI, 52, .inl (o_now'))), (a_o_aside, .inl (cI, 52, .inl (o_aside'))), (a_o_past, .inl (cI, 260, .inl (o_past'))), (a_o_refusals, .inl (cI, 3, .inl (o_refusals')))] (some (.int r0)) := by
  refine Met.ofW (cc := cX7_start) (maxL := 2) (ret := (some .int)) (by decide) rfl ?_
  intro p e s m args below meth c s₁ B hml hv
  obtain ⟨rfl, hP, hK, hD0⟩ := hv
  have hx := B.exec
  have hb := B.bytes
  have hr := B.returns
  have hts : ∀ w ∈ GW, w.before _ s = true := fun w hw => atoms_spec (ws := mws yX7_start cX7_start 2 (some .int)) B.pre w (List.mem_cons_of_mem _ hw)
  have hown : s.vm.findClass RX7 = some m.cls := findClass_of_methodNamed B.named
  have hlocks := B.notSynchronized
  have hD := inW_self hD0
  generalize hAe : inW [(a_o, .inr (6, [.ref a_o_now, .ref a_o_aside, .ref a_o_past, .int (o_states), .ref a_o_refusals, .ref a_o_text, .int (o_bytes), .ref a_o_tried, .int (o_triedMany), .ref a_o_shuffled, .ref a_o_letters, .ref a_o_numbers, .int (o_orders), .int (o_spot), .int (o_wrongAt), .long (o_hash)])), (a_o_now, .inl (cI, 52, .inl (o_now))), (a_o_aside, .inl (cI, 52, .inl (o_aside))), (a_o_past, .inl (cI, 260, .inl (o_past))), (a_o_refusals, .inl (cI, 3, .inl (o_refusals)))] = A at hD ⊢
  have hS : va_S A s.heap s.heap [] := va_S.rf
  have hl := lv_entry ([.ref a_o, .int x1]) (n := 2) (Nat.le_of_ble_eq_true rfl)
  rw [lg_entry_eq]
  generalize (lg_sl ([.ref a_o, .int x1]) ++ List.replicate (2 - (lg_sl ([.ref a_o, .int x1])).length) Slot.unset).toArray = ls at hl ⊢
  have hl : lv_has ls 2 [(0, .ref a_o), (1, .int x1)] := hl
  have S : CallFix p m c cX7_start 2 s _ GW RX7 := ⟨hx, hb, hml, hown, hts⟩
  unfold f_X7_start at h
  refine lv_aload_n hx hb dX7_start_0 rfl (lv_at hl 0 rfl) ?_
  obtain ⟨w1, hc2, h⟩ := bd1_use h
  refine wr_V (As := []) (rest := []) (ws' := [(a_o, .inr (6, [.ref a_o_now, .ref a_o_aside, .ref a_o_past, .int (o_states), .ref a_o_refusals, .ref a_o_text, .int (o_bytes), .ref a_o_tried, .int (o_triedMany), .ref a_o_shuffled, .ref a_o_letters, .ref a_o_numbers, .int (o_orders), .int (o_spot), .int (o_wrongAt), .long (o_hash)])), (a_o_now, .inl (cI, 52, .inl (o_now))), (a_o_aside, .inl (cI, 52, .inl (w1))), (a_o_past, .inl (cI, 260, .inl (o_past))), (a_o_refusals, .inl (cI, 3, .inl (o_refusals)))]) S (c_X7_laysAside l D cI cS a_o a_o_now a_o_aside a_o_past a_o_refusals a_o_text a_o_tried a_o_shuffled a_o_letters a_o_numbers o_states o_bytes o_triedMany o_orders o_spot o_wrongAt o_hash o_now o_aside w1 hc2) (cwV1 hts cvX7_laysAside wmX7_121 rfl rfl ⟨(Nat.le_of_ble_eq_true rfl), (Nat.le_of_ble_eq_true rfl)⟩) hK hP hD hS [0, 1, 2] rfl rfl [(true, 0), (true, 1), (true, 2), (false, 3), (false, 4)] rfl rfl rfl 0 rfl rfl rfl rfl hl.1 rfl (Nat.le_of_ble_eq_true rfl) dX7_start_1 ⟨Nat.zero_le _, Nat.zero_le _⟩ rfl (fun H locs hP hD hS => ?_)
  refine lv_aload_n hx hb dX7_start_4 rfl (lv_at hl 0 rfl) ?_
  refine lv_aload_n hx hb dX7_start_5 rfl (lv_at hl 0 rfl) ?_
  refine lv_iconst (v := (1 : Int32)) hx hb dX7_start_6 (by decide) ?_
  refine lv_iload_n hx hb dX7_start_7 rfl (lv_at hl 1 rfl) ?_
  refine lv_bipush (v := (63 : Int32)) hx hb dX7_start_8 (by decide) ?_
  obtain ⟨r3, w4, hc5, h⟩ := bd2_use h
  refine wr_V (As := [.int (1 : Int32), .int x1, .int (63 : Int32)]) (rest := [.ref a_o]) (ws' := [(a_o, .inr (6, [.ref a_o_now, .ref a_o_aside, .ref a_o_past, .int (o_states), .ref a_o_refusals, .ref a_o_text, .int (o_bytes), .ref a_o_tried, .int (o_triedMany), .ref a_o_shuffled, .ref a_o_letters, .ref a_o_numbers, .int (o_orders), .int (o_spot), .int (o_wrongAt), .long (o_hash)])), (a_o_now, .inl (cI, 52, .inl (w4))), (a_o_aside, .inl (cI, 52, .inl (w1))), (a_o_past, .inl (cI, 260, .inl (o_past))), (a_o_refusals, .inl (cI, 3, .inl (o_refusals)))]) S (c_X7_change l D cI cS a_o a_o_now a_o_aside a_o_past a_o_refusals a_o_text a_o_tried a_o_shuffled a_o_letters a_o_numbers o_states o_bytes o_triedMany o_orders o_spot o_wrongAt o_hash o_now (1 : Int32) x1 (63 : Int32) r3 w4 hc5) (cwV1 hts cvX7_change wmX7_140 rfl rfl ⟨(Nat.le_of_ble_eq_true rfl), (Nat.le_of_ble_eq_true rfl)⟩) hK hP hD hS [0, 1] rfl rfl [(true, 0), (true, 1), (false, 2), (false, 3), (false, 4)] rfl rfl rfl 0 rfl rfl rfl rfl hl.1 rfl (Nat.le_of_ble_eq_true rfl) dX7_start_10 ⟨Nat.zero_le _, Nat.zero_le _⟩ rfl (fun H locs hP hD hS => ?_)
  obtain ⟨r6, w7, w8, w9, hc10, h⟩ := bd4_use h
  refine wr_V (As := [.int r3]) (rest := []) (ws' := [(a_o, .inr (6, [.ref a_o_now, .ref a_o_aside, .ref a_o_past, .int (w7), .ref a_o_refusals, .ref a_o_text, .int (o_bytes), .ref a_o_tried, .int (o_triedMany), .ref a_o_shuffled, .ref a_o_letters, .ref a_o_numbers, .int (o_orders), .int (o_spot), .int (o_wrongAt), .long (o_hash)])), (a_o_now, .inl (cI, 52, .inl (w4))), (a_o_aside, .inl (cI, 52, .inl (w1))), (a_o_past, .inl (cI, 260, .inl (w8))), (a_o_refusals, .inl (cI, 3, .inl (w9)))]) S (c_X7_finished l D cI cS a_o a_o_aside a_o_past a_o_refusals a_o_now a_o_text a_o_tried a_o_shuffled a_o_letters a_o_numbers o_states o_bytes o_triedMany o_orders o_spot o_wrongAt o_hash w1 o_past o_refusals r3 r6 w7 w8 w9 hc10) (cwV1 hts cvX7_finished wmX7_128 rfl rfl ⟨(Nat.le_of_ble_eq_true rfl), (Nat.le_of_ble_eq_true rfl)⟩) hK hP hD hS [0, 2, 3, 4] rfl rfl [(true, 0), (false, 1), (true, 1), (true, 2), (true, 3)] rfl rfl rfl 0 rfl rfl rfl rfl hl.1 rfl (Nat.le_of_ble_eq_true rfl) dX7_start_13 ⟨Nat.zero_le _, Nat.zero_le _⟩ rfl (fun H locs hP hD hS => ?_)
  cases h
  exact W.iret hx hb hr (fun t ht _ => ⟨rfl, by rw [ht]; exact hP, hS.F ht⟩) hS.2.2 dX7_start_16
def f_X7_test (o_states : Int32) (o_now : Ar) (o_aside : Ar) (o_past : Ar) (o_refusals : Ar) (x1 : Int32) (x2 : Int32) (x3 : Int32) (x4 : Int32) (x5 : Int32) : Option (Int32 × Int32 × Ar × Ar × Ar × Ar) := bd1 (f_X7_laysAside o_now o_aside) (fun w1 => bd2 (f_X7_putTest o_now x1 x2 x3 x4 x5) (fun r3 w4 => bd4 (f_X7_finished o_states w1 o_past o_refusals r3) (fun r6 w7 w8 w9 => some (r6, w7, w4, w1, w8, w9))))
set_option maxHeartbeats 4000000 in
set_option maxRecDepth 100000 in
theorem c_X7_test (l : Launch) (D : va_G) (cI cS : ClassId) (a_o : Nat) (a_o_now : Nat) (a_o_aside : Nat) (a_o_past : Nat) (a_o_refusals : Nat) (a_o_text : Nat) (a_o_tried : Nat) (a_o_shuffled : Nat) (a_o_letters : Nat) (a_o_numbers : Nat) (o_states : Int32) (o_bytes : Int32) (o_triedMany : Int32) (o_orders : Int32) (o_spot : Int32) (o_wrongAt : Int32) (o_hash : Int64) (o_now : Ar) (o_aside : Ar) (o_past : Ar) (o_refusals : Ar) (x1 : Int32) (x2 : Int32) (x3 : Int32) (x4 : Int32) (x5 : Int32) (r0 : Int32) (o_states' : Int32) (o_now' : Ar) (o_aside' : Ar) (o_past' : Ar) (o_refusals' : Ar) (h : f_X7_test o_states o_now o_aside o_past o_refusals x1 x2 x3 x4 x5 = some (r0, o_states', o_now', o_aside', o_past', o_refusals')) : wrM l D cI cS yX7_test cX7_test 6 (some .int) 2 49 [.ref a_o, .int x1, .int x2, .int x3, .int x4, .int x5] [(a_o, .inr (6, [.ref a_o_now, .ref a_o_aside, .ref a_o_past, .int (o_states), .ref a_o_refusals, .ref a_o_text, .int (o_bytes), .ref a_o_tried, .int (o_triedMany), .ref a_o_shuffled, .ref a_o_letters, .ref a_o_numbers, .int (o_orders), .int (o_spot), .int (o_wrongAt), .long (o_hash)])), (a_o_now, .inl (cI, 52, .inl (o_now))), (a_o_aside, .inl (cI, 52, .inl (o_aside))), (a_o_past, .inl (cI, 260, .inl (o_past))), (a_o_refusals, .inl (cI, 3, .inl (o_refusals)))] [(a_o, .inr (6, [.ref a_o_now, .ref a_o_aside, .ref a_o_past, .int (o_states'), .ref a_o_refusals, .ref a_o_text, .int (o_bytes), .ref a_o_tried, .int (o_triedMany), .ref a_o_shuffled, .ref a_o_letters, .ref a_o_numbers, .int (o_orders), .int (o_spot), .int (o_wrongAt), .long (o_hash)])), (a_o_now, .inl (cI, 52, .inl (o_now'))), (a_o_aside, .inl (cI, 52, .inl (o_aside'))), (a_o_past, .inl (cI, 260, .inl (o_past'))), (a_o_refusals, .inl (cI, 3, .inl (o_refusals')))] (some (.int r0)) := by
  refine Met.ofW (cc := cX7_test) (maxL := 6) (ret := (some .int)) (by decide) rfl ?_
  intro p e s m args below meth c s₁ B hml hv
  obtain ⟨rfl, hP, hK, hD0⟩ := hv
  have hx := B.exec
  have hb := B.bytes
  have hr := B.returns
  have hts : ∀ w ∈ GW, w.before _ s = true := fun w hw => atoms_spec (ws := mws yX7_test cX7_test 6 (some .int)) B.pre w (List.mem_cons_of_mem _ hw)
  have hown : s.vm.findClass RX7 = some m.cls := findClass_of_methodNamed B.named
  have hlocks := B.notSynchronized
  have hD := inW_self hD0
  generalize hAe : inW [(a_o, .inr (6, [.ref a_o_now, .ref a_o_aside, .ref a_o_past, .int (o_states), .ref a_o_refusals, .ref a_o_text, .int (o_bytes), .ref a_o_tried, .int (o_triedMany), .ref a_o_shuffled, .ref a_o_letters, .ref a_o_numbers, .int (o_orders), .int (o_spot), .int (o_wrongAt), .long (o_hash)])), (a_o_now, .inl (cI, 52, .inl (o_now))), (a_o_aside, .inl (cI, 52, .inl (o_aside))), (a_o_past, .inl (cI, 260, .inl (o_past))), (a_o_refusals, .inl (cI, 3, .inl (o_refusals)))] = A at hD ⊢
  have hS : va_S A s.heap s.heap [] := va_S.rf
  have hl := lv_entry ([.ref a_o, .int x1, .int x2, .int x3, .int x4, .int x5]) (n := 6) (Nat.le_of_ble_eq_true rfl)
  rw [lg_entry_eq]
  generalize (lg_sl ([.ref a_o, .int x1, .int x2, .int x3, .int x4, .int x5]) ++ List.replicate (6 - (lg_sl ([.ref a_o, .int x1, .int x2, .int x3, .int x4, .int x5])).length) Slot.unset).toArray = ls at hl ⊢
  have hl : lv_has ls 6 [(0, .ref a_o), (1, .int x1), (2, .int x2), (3, .int x3), (4, .int x4), (5, .int x5)] := hl
  have S : CallFix p m c cX7_test 6 s _ GW RX7 := ⟨hx, hb, hml, hown, hts⟩
  unfold f_X7_test at h
  refine lv_aload_n hx hb dX7_test_0 rfl (lv_at hl 0 rfl) ?_
  obtain ⟨w1, hc2, h⟩ := bd1_use h
  refine wr_V (As := []) (rest := []) (ws' := [(a_o, .inr (6, [.ref a_o_now, .ref a_o_aside, .ref a_o_past, .int (o_states), .ref a_o_refusals, .ref a_o_text, .int (o_bytes), .ref a_o_tried, .int (o_triedMany), .ref a_o_shuffled, .ref a_o_letters, .ref a_o_numbers, .int (o_orders), .int (o_spot), .int (o_wrongAt), .long (o_hash)])), (a_o_now, .inl (cI, 52, .inl (o_now))), (a_o_aside, .inl (cI, 52, .inl (w1))), (a_o_past, .inl (cI, 260, .inl (o_past))), (a_o_refusals, .inl (cI, 3, .inl (o_refusals)))]) S (c_X7_laysAside l D cI cS a_o a_o_now a_o_aside a_o_past a_o_refusals a_o_text a_o_tried a_o_shuffled a_o_letters a_o_numbers o_states o_bytes o_triedMany o_orders o_spot o_wrongAt o_hash o_now o_aside w1 hc2) (cwV1 hts cvX7_laysAside wmX7_121 rfl rfl ⟨(Nat.le_of_ble_eq_true rfl), (Nat.le_of_ble_eq_true rfl)⟩) hK hP hD hS [0, 1, 2] rfl rfl [(true, 0), (true, 1), (true, 2), (false, 3), (false, 4)] rfl rfl rfl 0 rfl rfl rfl rfl hl.1 rfl (Nat.le_of_ble_eq_true rfl) dX7_test_1 ⟨Nat.zero_le _, Nat.zero_le _⟩ rfl (fun H locs hP hD hS => ?_)
  refine lv_aload_n hx hb dX7_test_4 rfl (lv_at hl 0 rfl) ?_
  refine lv_aload_n hx hb dX7_test_5 rfl (lv_at hl 0 rfl) ?_
  refine lv_iload_n hx hb dX7_test_6 rfl (lv_at hl 1 rfl) ?_
  refine lv_iload_n hx hb dX7_test_7 rfl (lv_at hl 2 rfl) ?_
  refine lv_iload_n hx hb dX7_test_8 rfl (lv_at hl 3 rfl) ?_
  refine lv_iload hx hb dX7_test_9 (lv_at hl 4 rfl) ?_
  refine lv_iload hx hb dX7_test_11 (lv_at hl 5 rfl) ?_
  obtain ⟨r3, w4, hc5, h⟩ := bd2_use h
  refine wr_V (As := [.int x1, .int x2, .int x3, .int x4, .int x5]) (rest := [.ref a_o]) (ws' := [(a_o, .inr (6, [.ref a_o_now, .ref a_o_aside, .ref a_o_past, .int (o_states), .ref a_o_refusals, .ref a_o_text, .int (o_bytes), .ref a_o_tried, .int (o_triedMany), .ref a_o_shuffled, .ref a_o_letters, .ref a_o_numbers, .int (o_orders), .int (o_spot), .int (o_wrongAt), .long (o_hash)])), (a_o_now, .inl (cI, 52, .inl (w4))), (a_o_aside, .inl (cI, 52, .inl (w1))), (a_o_past, .inl (cI, 260, .inl (o_past))), (a_o_refusals, .inl (cI, 3, .inl (o_refusals)))]) S (c_X7_putTest l D cI cS a_o a_o_now a_o_aside a_o_past a_o_refusals a_o_text a_o_tried a_o_shuffled a_o_letters a_o_numbers o_states o_bytes o_triedMany o_orders o_spot o_wrongAt o_hash o_now x1 x2 x3 x4 x5 r3 w4 hc5) (cwV1 hts cvX7_putTest wmX7_124 rfl rfl ⟨(Nat.le_of_ble_eq_true rfl), (Nat.le_of_ble_eq_true rfl)⟩) hK hP hD hS [0, 1] rfl rfl [(true, 0), (true, 1), (false, 2), (false, 3), (false, 4)] rfl rfl rfl 0 rfl rfl rfl rfl hl.1 rfl (Nat.le_of_ble_eq_true rfl) dX7_test_13 ⟨Nat.zero_le _, Nat.zero_le _⟩ rfl (fun H locs hP hD hS => ?_)
  obtain ⟨r6, w7, w8, w9, hc10, h⟩ := bd4_use h
  refine wr_V (As := [.int r3]) (rest := []) (ws' := [(a_o, .inr (6, [.ref a_o_now, .ref a_o_aside, .ref a_o_past, .int (w7), .ref a_o_refusals, .ref a_o_text, .int (o_bytes), .ref a_o_tried, .int (o_triedMany), .ref a_o_shuffled, .ref a_o_letters, .ref a_o_numbers, .int (o_orders), .int (o_spot), .int (o_wrongAt), .long (o_hash)])), (a_o_now, .inl (cI, 52, .inl (w4))), (a_o_aside, .inl (cI, 52, .inl (w1))), (a_o_past, .inl (cI, 260, .inl (w8))), (a_o_refusals, .inl (cI, 3, .inl (w9)))]) S (c_X7_finished l D cI cS a_o a_o_aside a_o_past a_o_refusals a_o_now a_o_text a_o_tried a_o_shuffled a_o_letters a_o_numbers o_states o_bytes o_triedMany o_orders o_spot o_wrongAt o_hash w1 o_past o_refusals r3 r6 w7 w8 w9 hc10) (cwV1 hts cvX7_finished wmX7_128 rfl rfl ⟨(Nat.le_of_ble_eq_true rfl), (Nat.le_of_ble_eq_true rfl)⟩) hK hP hD hS [0, 2, 3, 4] rfl rfl [(true, 0), (false, 1), (true, 1), (true, 2), (true, 3)] rfl rfl rfl 0 rfl rfl rfl rfl hl.1 rfl (Nat.le_of_ble_eq_true rfl) dX7_test_16 ⟨Nat.zero_le _, Nat.zero_le _⟩ rfl (fun H locs hP hD hS => ?_)
  cases h
  exact W.iret hx hb hr (fun t ht _ => ⟨rfl, by rw [ht]; exact hP, hS.F ht⟩) hS.2.2 dX7_test_19
def f_X7_told (o_states : Int32) (o_bytes : Int32) (o_refusals : Ar) (x1 : Int32) : Option (Int32 × Ar) := bd1 (f_X7_in x1 (0 : Int32) (4 : Int32)) (fun r1 => (if (b2i r1) = (0 : Int32) then bd2 (f_X7_refuses o_refusals (-2 : Int32)) (fun r4 w5 => some (r4, w5)) else bd1 (f_X7_toldAt o_states o_bytes o_refusals x1) (fun r7 => some (r7, o_refusals))))
set_option maxHeartbeats 4000000 in
set_option maxRecDepth 100000 in
theorem c_X7_told (l : Launch) (D : va_G) (cI cS : ClassId) (a_o : Nat) (a_o_refusals : Nat) (a_o_now : Nat) (a_o_aside : Nat) (a_o_past : Nat) (a_o_text : Nat) (a_o_tried : Nat) (a_o_shuffled : Nat) (a_o_letters : Nat) (a_o_numbers : Nat) (o_states : Int32) (o_bytes : Int32) (o_triedMany : Int32) (o_orders : Int32) (o_spot : Int32) (o_wrongAt : Int32) (o_hash : Int64) (o_refusals : Ar) (x1 : Int32) (r0 : Int32) (o_refusals' : Ar) (h : f_X7_told o_states o_bytes o_refusals x1 = some (r0, o_refusals')) : wrM l D cI cS yX7_told cX7_told 2 (some .int) 1 22 [.ref a_o, .int x1] [(a_o, .inr (6, [.ref a_o_now, .ref a_o_aside, .ref a_o_past, .int (o_states), .ref a_o_refusals, .ref a_o_text, .int (o_bytes), .ref a_o_tried, .int (o_triedMany), .ref a_o_shuffled, .ref a_o_letters, .ref a_o_numbers, .int (o_orders), .int (o_spot), .int (o_wrongAt), .long (o_hash)])), (a_o_refusals, .inl (cI, 3, .inl (o_refusals)))] [(a_o, .inr (6, [.ref a_o_now, .ref a_o_aside, .ref a_o_past, .int (o_states), .ref a_o_refusals, .ref a_o_text, .int (o_bytes), .ref a_o_tried, .int (o_triedMany), .ref a_o_shuffled, .ref a_o_letters, .ref a_o_numbers, .int (o_orders), .int (o_spot), .int (o_wrongAt), .long (o_hash)])), (a_o_refusals, .inl (cI, 3, .inl (o_refusals')))] (some (.int r0)) := by
  refine Met.ofW (cc := cX7_told) (maxL := 2) (ret := (some .int)) (by decide) rfl ?_
  intro p e s m args below meth c s₁ B hml hv
  obtain ⟨rfl, hP, hK, hD0⟩ := hv
  have hx := B.exec
  have hb := B.bytes
  have hr := B.returns
  have hts : ∀ w ∈ GW, w.before _ s = true := fun w hw => atoms_spec (ws := mws yX7_told cX7_told 2 (some .int)) B.pre w (List.mem_cons_of_mem _ hw)
  have hown : s.vm.findClass RX7 = some m.cls := findClass_of_methodNamed B.named
  have hlocks := B.notSynchronized
  have hD := inW_self hD0
  generalize hAe : inW [(a_o, .inr (6, [.ref a_o_now, .ref a_o_aside, .ref a_o_past, .int (o_states), .ref a_o_refusals, .ref a_o_text, .int (o_bytes), .ref a_o_tried, .int (o_triedMany), .ref a_o_shuffled, .ref a_o_letters, .ref a_o_numbers, .int (o_orders), .int (o_spot), .int (o_wrongAt), .long (o_hash)])), (a_o_refusals, .inl (cI, 3, .inl (o_refusals)))] = A at hD ⊢
  have hS : va_S A s.heap s.heap [] := va_S.rf
  have hl := lv_entry ([.ref a_o, .int x1]) (n := 2) (Nat.le_of_ble_eq_true rfl)
  rw [lg_entry_eq]
  generalize (lg_sl ([.ref a_o, .int x1]) ++ List.replicate (2 - (lg_sl ([.ref a_o, .int x1])).length) Slot.unset).toArray = ls at hl ⊢
  have hl : lv_has ls 2 [(0, .ref a_o), (1, .int x1)] := hl
  have S : CallFix p m c cX7_told 2 s _ GW RX7 := ⟨hx, hb, hml, hown, hts⟩
  unfold f_X7_told at h
  refine lv_iload_n hx hb dX7_told_0 rfl (lv_at hl 1 rfl) ?_
  refine lv_iconst (v := (0 : Int32)) hx hb dX7_told_1 (by decide) ?_
  refine lv_iconst (v := (4 : Int32)) hx hb dX7_told_2 (by decide) ?_
  obtain ⟨r1, hc2, h⟩ := bd1_use h
  refine ro_S (As := [.int x1, .int (0 : Int32), .int (4 : Int32)]) (rest := []) S (c_X7_in l D cI cS x1 (0 : Int32) (4 : Int32) r1 hc2) (cwS1 hts csX7_in wmX7_48 rfl rfl ⟨(Nat.le_of_ble_eq_true rfl), (Nat.le_of_ble_eq_true rfl)⟩) hK hP [] rfl rfl hl.1 rfl (Nat.le_of_ble_eq_true rfl) dX7_told_3 ⟨Nat.zero_le _, Nat.zero_le _⟩ rfl ?_
  refine lv_if_eq (tgt := 17) hx hb dX7_told_6 (by decide) (fun c3 => ?_) (fun c3 => ?_)
  · have h := it_t c3 h
    refine lv_aload_n hx hb dX7_told_17 rfl (lv_at hl 0 rfl) ?_
    refine lv_bipush (v := (-2 : Int32)) hx hb dX7_told_18 (by decide) ?_
    obtain ⟨r4, w5, hc6, h⟩ := bd2_use h
    refine wr_V (As := [.int (-2 : Int32)]) (rest := []) (ws' := [(a_o, .inr (6, [.ref a_o_now, .ref a_o_aside, .ref a_o_past, .int (o_states), .ref a_o_refusals, .ref a_o_text, .int (o_bytes), .ref a_o_tried, .int (o_triedMany), .ref a_o_shuffled, .ref a_o_letters, .ref a_o_numbers, .int (o_orders), .int (o_spot), .int (o_wrongAt), .long (o_hash)])), (a_o_refusals, .inl (cI, 3, .inl (w5)))]) S (c_X7_refuses l D cI cS a_o a_o_refusals a_o_now a_o_aside a_o_past a_o_text a_o_tried a_o_shuffled a_o_letters a_o_numbers o_states o_bytes o_triedMany o_orders o_spot o_wrongAt o_hash o_refusals (-2 : Int32) r4 w5 hc6) (cwV1 hts cvX7_refuses wmX7_41 rfl rfl ⟨(Nat.le_of_ble_eq_true rfl), (Nat.le_of_ble_eq_true rfl)⟩) hK hP hD hS [0, 1] rfl rfl [(true, 0), (true, 1)] rfl rfl rfl 0 rfl rfl rfl rfl hl.1 rfl (Nat.le_of_ble_eq_true rfl) dX7_told_20 ⟨Nat.zero_le _, Nat.zero_le _⟩ rfl (fun H locs hP hD hS => ?_)
    cases h
    exact W.iret hx hb hr (fun t ht _ => ⟨rfl, by rw [ht]; exact hP, hS.F ht⟩) hS.2.2 dX7_told_23
  · have h := it_f c3 h
    refine lv_aload_n hx hb dX7_told_9 rfl (lv_at hl 0 rfl) ?_
    refine lv_iload_n hx hb dX7_told_10 rfl (lv_at hl 1 rfl) ?_
    obtain ⟨r7, hc8, h⟩ := bd1_use h
    refine ro_V (As := [.int x1]) (rest := []) S (c_X7_toldAt l D cI cS a_o a_o_refusals a_o_now a_o_aside a_o_past a_o_text a_o_tried a_o_shuffled a_o_letters a_o_numbers o_states o_bytes o_triedMany o_orders o_spot o_wrongAt o_hash o_refusals x1 r7 hc8) (cwV1 hts cvX7_toldAt wmX7_220 rfl rfl ⟨(Nat.le_of_ble_eq_true rfl), (Nat.le_of_ble_eq_true rfl)⟩) hK hP [0, 1] rfl 0 rfl rfl rfl rfl hl.1 rfl (Nat.le_of_ble_eq_true rfl) dX7_told_11 ⟨Nat.zero_le _, Nat.zero_le _⟩ rfl ?_
    refine lv_goto (tgt := 23) hx hb dX7_told_14 (by decide) ?_
    cases h
    exact W.iret hx hb hr (fun t ht _ => ⟨rfl, by rw [ht]; exact hP, hS.F ht⟩) hS.2.2 dX7_told_23
def f_X7_trims (o_states : Int32) (o_triedMany : Int32) (o_now : Ar) (o_aside : Ar) (o_past : Ar) (o_refusals : Ar) (o_tried : Ar) (x1 : Int32) : Option (Int32 × Int32 × Int32 × Ar × Ar × Ar × Ar × Ar) := bd1 (f_X7_laysAside o_now o_aside) (fun w1 => bd4 (f_X7_putTrimmed o_triedMany o_now o_tried x1) (fun r3 w4 w5 w6 => bd4 (f_X7_finished o_states w1 o_past o_refusals r3) (fun r8 w9 w10 w11 => some (r8, w9, w4, w5, w1, w10, w11, w6))))
set_option maxHeartbeats 4000000 in
set_option maxRecDepth 100000 in
theorem c_X7_trims (l : Launch) (D : va_G) (cI cS : ClassId) (a_o : Nat) (a_o_now : Nat) (a_o_aside : Nat) (a_o_past : Nat) (a_o_refusals : Nat) (a_o_tried : Nat) (a_o_text : Nat) (a_o_shuffled : Nat) (a_o_letters : Nat) (a_o_numbers : Nat) (o_states : Int32) (o_bytes : Int32) (o_triedMany : Int32) (o_orders : Int32) (o_spot : Int32) (o_wrongAt : Int32) (o_hash : Int64) (o_now : Ar) (o_aside : Ar) (o_past : Ar) (o_refusals : Ar) (o_tried : Ar) (x1 : Int32) (r0 : Int32) (o_states' : Int32) (o_triedMany' : Int32) (o_now' : Ar) (o_aside' : Ar) (o_past' : Ar) (o_refusals' : Ar) (o_tried' : Ar) (h : f_X7_trims o_states o_triedMany o_now o_aside o_past o_refusals o_tried x1 = some (r0, o_states', o_triedMany', o_now', o_aside', o_past', o_refusals', o_tried')) : wrM l D cI cS yX7_trims cX7_trims 2 (some .int) 8 182 [.ref a_o, .int x1] [(a_o, .inr (6, [.ref a_o_now, .ref a_o_aside, .ref a_o_past, .int (o_states), .ref a_o_refusals, .ref a_o_text, .int (o_bytes), .ref a_o_tried, .int (o_triedMany), .ref a_o_shuffled, .ref a_o_letters, .ref a_o_numbers, .int (o_orders), .int (o_spot), .int (o_wrongAt), .long (o_hash)])), (a_o_now, .inl (cI, 52, .inl (o_now))), (a_o_aside, .inl (cI, 52, .inl (o_aside))), (a_o_past, .inl (cI, 260, .inl (o_past))), (a_o_refusals, .inl (cI, 3, .inl (o_refusals))), (a_o_tried, .inl (cI, 9, .inl (o_tried)))] [(a_o, .inr (6, [.ref a_o_now, .ref a_o_aside, .ref a_o_past, .int (o_states'), .ref a_o_refusals, .ref a_o_text, .int (o_bytes), .ref a_o_tried, .int (o_triedMany'), .ref a_o_shuffled, .ref a_o_letters, .ref a_o_numbers, .int (o_orders), .int (o_spot), .int (o_wrongAt), .long (o_hash)])), (a_o_now, .inl (cI, 52, .inl (o_now'))), (a_o_aside, .inl (cI, 52, .inl (o_aside'))), (a_o_past, .inl (cI, 260, .inl (o_past'))), (a_o_refusals, .inl (cI, 3, .inl (o_refusals'))), (a_o_tried, .inl (cI, 9, .inl (o_tried')))] (some (.int r0)) := by
  refine Met.ofW (cc := cX7_trims) (maxL := 2) (ret := (some .int)) (by decide) rfl ?_
  intro p e s m args below meth c s₁ B hml hv
  obtain ⟨rfl, hP, hK, hD0⟩ := hv
  have hx := B.exec
  have hb := B.bytes
  have hr := B.returns
  have hts : ∀ w ∈ GW, w.before _ s = true := fun w hw => atoms_spec (ws := mws yX7_trims cX7_trims 2 (some .int)) B.pre w (List.mem_cons_of_mem _ hw)
  have hown : s.vm.findClass RX7 = some m.cls := findClass_of_methodNamed B.named
  have hlocks := B.notSynchronized
  have hD := inW_self hD0
  generalize hAe : inW [(a_o, .inr (6, [.ref a_o_now, .ref a_o_aside, .ref a_o_past, .int (o_states), .ref a_o_refusals, .ref a_o_text, .int (o_bytes), .ref a_o_tried, .int (o_triedMany), .ref a_o_shuffled, .ref a_o_letters, .ref a_o_numbers, .int (o_orders), .int (o_spot), .int (o_wrongAt), .long (o_hash)])), (a_o_now, .inl (cI, 52, .inl (o_now))), (a_o_aside, .inl (cI, 52, .inl (o_aside))), (a_o_past, .inl (cI, 260, .inl (o_past))), (a_o_refusals, .inl (cI, 3, .inl (o_refusals))), (a_o_tried, .inl (cI, 9, .inl (o_tried)))] = A at hD ⊢
  have hS : va_S A s.heap s.heap [] := va_S.rf
  have hl := lv_entry ([.ref a_o, .int x1]) (n := 2) (Nat.le_of_ble_eq_true rfl)
  rw [lg_entry_eq]
  generalize (lg_sl ([.ref a_o, .int x1]) ++ List.replicate (2 - (lg_sl ([.ref a_o, .int x1])).length) Slot.unset).toArray = ls at hl ⊢
  have hl : lv_has ls 2 [(0, .ref a_o), (1, .int x1)] := hl
  have S : CallFix p m c cX7_trims 2 s _ GW RX7 := ⟨hx, hb, hml, hown, hts⟩
  unfold f_X7_trims at h
  refine lv_aload_n hx hb dX7_trims_0 rfl (lv_at hl 0 rfl) ?_
  obtain ⟨w1, hc2, h⟩ := bd1_use h
  refine wr_V (As := []) (rest := []) (ws' := [(a_o, .inr (6, [.ref a_o_now, .ref a_o_aside, .ref a_o_past, .int (o_states), .ref a_o_refusals, .ref a_o_text, .int (o_bytes), .ref a_o_tried, .int (o_triedMany), .ref a_o_shuffled, .ref a_o_letters, .ref a_o_numbers, .int (o_orders), .int (o_spot), .int (o_wrongAt), .long (o_hash)])), (a_o_now, .inl (cI, 52, .inl (o_now))), (a_o_aside, .inl (cI, 52, .inl (w1))), (a_o_past, .inl (cI, 260, .inl (o_past))), (a_o_refusals, .inl (cI, 3, .inl (o_refusals))), (a_o_tried, .inl (cI, 9, .inl (o_tried)))]) S (c_X7_laysAside l D cI cS a_o a_o_now a_o_aside a_o_past a_o_refusals a_o_text a_o_tried a_o_shuffled a_o_letters a_o_numbers o_states o_bytes o_triedMany o_orders o_spot o_wrongAt o_hash o_now o_aside w1 hc2) (cwV1 hts cvX7_laysAside wmX7_121 rfl rfl ⟨(Nat.le_of_ble_eq_true rfl), (Nat.le_of_ble_eq_true rfl)⟩) hK hP hD hS [0, 1, 2] rfl rfl [(true, 0), (true, 1), (true, 2), (false, 3), (false, 4), (false, 5)] rfl rfl rfl 0 rfl rfl rfl rfl hl.1 rfl (Nat.le_of_ble_eq_true rfl) dX7_trims_1 ⟨Nat.zero_le _, Nat.zero_le _⟩ rfl (fun H locs hP hD hS => ?_)
  refine lv_aload_n hx hb dX7_trims_4 rfl (lv_at hl 0 rfl) ?_
  refine lv_aload_n hx hb dX7_trims_5 rfl (lv_at hl 0 rfl) ?_
  refine lv_iload_n hx hb dX7_trims_6 rfl (lv_at hl 1 rfl) ?_
  obtain ⟨r3, w4, w5, w6, hc7, h⟩ := bd4_use h
  refine wr_V (As := [.int x1]) (rest := [.ref a_o]) (ws' := [(a_o, .inr (6, [.ref a_o_now, .ref a_o_aside, .ref a_o_past, .int (o_states), .ref a_o_refusals, .ref a_o_text, .int (o_bytes), .ref a_o_tried, .int (w4), .ref a_o_shuffled, .ref a_o_letters, .ref a_o_numbers, .int (o_orders), .int (o_spot), .int (o_wrongAt), .long (o_hash)])), (a_o_now, .inl (cI, 52, .inl (w5))), (a_o_aside, .inl (cI, 52, .inl (w1))), (a_o_past, .inl (cI, 260, .inl (o_past))), (a_o_refusals, .inl (cI, 3, .inl (o_refusals))), (a_o_tried, .inl (cI, 9, .inl (w6)))]) S (c_X7_putTrimmed l D cI cS a_o a_o_now a_o_tried a_o_aside a_o_past a_o_refusals a_o_text a_o_shuffled a_o_letters a_o_numbers o_states o_bytes o_triedMany o_orders o_spot o_wrongAt o_hash o_now o_tried x1 r3 w4 w5 w6 hc7) (cwV1 hts cvX7_putTrimmed wmX7_147 rfl rfl ⟨(Nat.le_of_ble_eq_true rfl), (Nat.le_of_ble_eq_true rfl)⟩) hK hP hD hS [0, 1, 5] rfl rfl [(true, 0), (true, 1), (false, 2), (false, 3), (false, 4), (true, 2)] rfl rfl rfl 0 rfl rfl rfl rfl hl.1 rfl (Nat.le_of_ble_eq_true rfl) dX7_trims_7 ⟨Nat.zero_le _, Nat.zero_le _⟩ rfl (fun H locs hP hD hS => ?_)
  obtain ⟨r8, w9, w10, w11, hc12, h⟩ := bd4_use h
  refine wr_V (As := [.int r3]) (rest := []) (ws' := [(a_o, .inr (6, [.ref a_o_now, .ref a_o_aside, .ref a_o_past, .int (w9), .ref a_o_refusals, .ref a_o_text, .int (o_bytes), .ref a_o_tried, .int (w4), .ref a_o_shuffled, .ref a_o_letters, .ref a_o_numbers, .int (o_orders), .int (o_spot), .int (o_wrongAt), .long (o_hash)])), (a_o_now, .inl (cI, 52, .inl (w5))), (a_o_aside, .inl (cI, 52, .inl (w1))), (a_o_past, .inl (cI, 260, .inl (w10))), (a_o_refusals, .inl (cI, 3, .inl (w11))), (a_o_tried, .inl (cI, 9, .inl (w6)))]) S (c_X7_finished l D cI cS a_o a_o_aside a_o_past a_o_refusals a_o_now a_o_text a_o_tried a_o_shuffled a_o_letters a_o_numbers o_states o_bytes w4 o_orders o_spot o_wrongAt o_hash w1 o_past o_refusals r3 r8 w9 w10 w11 hc12) (cwV1 hts cvX7_finished wmX7_128 rfl rfl ⟨(Nat.le_of_ble_eq_true rfl), (Nat.le_of_ble_eq_true rfl)⟩) hK hP hD hS [0, 2, 3, 4] rfl rfl [(true, 0), (false, 1), (true, 1), (true, 2), (true, 3), (false, 5)] rfl rfl rfl 0 rfl rfl rfl rfl hl.1 rfl (Nat.le_of_ble_eq_true rfl) dX7_trims_10 ⟨Nat.zero_le _, Nat.zero_le _⟩ rfl (fun H locs hP hD hS => ?_)
  cases h
  exact W.iret hx hb hr (fun t ht _ => ⟨rfl, by rw [ht]; exact hP, hS.F ht⟩) hS.2.2 dX7_trims_13
def f_X7_type (o_bytes : Int32) (o_refusals : Ar) (o_text : Ar) (x1 : Int32) : Option (Int32 × Int32 × Ar × Ar) := bd1 (f_X7_in x1 (0 : Int32) (127 : Int32)) (fun r1 => (if (b2i r1) = (0 : Int32) then bd2 (f_X7_refuses o_refusals (-2 : Int32)) (fun r11 w12 => some (r11, o_bytes, w12, o_text)) else (if o_bytes = (150 : Int32) then bd2 (f_X7_refuses o_refusals (-4 : Int32)) (fun r8 w9 => some (r8, o_bytes, w9, o_text)) else wr o_text 150 o_bytes x1 (fun fv5 => nm (o_bytes + (1 : Int32)) (fun y7 => some (y7, y7, o_refusals, fv5))))))
set_option maxHeartbeats 4000000 in
set_option maxRecDepth 100000 in
theorem c_X7_type (l : Launch) (D : va_G) (cI cS : ClassId) (a_o : Nat) (a_o_refusals : Nat) (a_o_text : Nat) (a_o_now : Nat) (a_o_aside : Nat) (a_o_past : Nat) (a_o_tried : Nat) (a_o_shuffled : Nat) (a_o_letters : Nat) (a_o_numbers : Nat) (o_states : Int32) (o_bytes : Int32) (o_triedMany : Int32) (o_orders : Int32) (o_spot : Int32) (o_wrongAt : Int32) (o_hash : Int64) (o_refusals : Ar) (o_text : Ar) (x1 : Int32) (r0 : Int32) (o_bytes' : Int32) (o_refusals' : Ar) (o_text' : Ar) (h : f_X7_type o_bytes o_refusals o_text x1 = some (r0, o_bytes', o_refusals', o_text')) : wrM l D cI cS yX7_type cX7_type 2 (some .int) 1 22 [.ref a_o, .int x1] [(a_o, .inr (6, [.ref a_o_now, .ref a_o_aside, .ref a_o_past, .int (o_states), .ref a_o_refusals, .ref a_o_text, .int (o_bytes), .ref a_o_tried, .int (o_triedMany), .ref a_o_shuffled, .ref a_o_letters, .ref a_o_numbers, .int (o_orders), .int (o_spot), .int (o_wrongAt), .long (o_hash)])), (a_o_refusals, .inl (cI, 3, .inl (o_refusals))), (a_o_text, .inl (cI, 150, .inl (o_text)))] [(a_o, .inr (6, [.ref a_o_now, .ref a_o_aside, .ref a_o_past, .int (o_states), .ref a_o_refusals, .ref a_o_text, .int (o_bytes'), .ref a_o_tried, .int (o_triedMany), .ref a_o_shuffled, .ref a_o_letters, .ref a_o_numbers, .int (o_orders), .int (o_spot), .int (o_wrongAt), .long (o_hash)])), (a_o_refusals, .inl (cI, 3, .inl (o_refusals'))), (a_o_text, .inl (cI, 150, .inl (o_text')))] (some (.int r0)) := by
  refine Met.ofW (cc := cX7_type) (maxL := 2) (ret := (some .int)) (by decide) rfl ?_
  intro p e s m args below meth c s₁ B hml hv
  obtain ⟨rfl, hP, hK, hD0⟩ := hv
  have hx := B.exec
  have hb := B.bytes
  have hr := B.returns
  have hts : ∀ w ∈ GW, w.before _ s = true := fun w hw => atoms_spec (ws := mws yX7_type cX7_type 2 (some .int)) B.pre w (List.mem_cons_of_mem _ hw)
  have hown : s.vm.findClass RX7 = some m.cls := findClass_of_methodNamed B.named
  have hlocks := B.notSynchronized
  have hD := inW_self hD0
  generalize hAe : inW [(a_o, .inr (6, [.ref a_o_now, .ref a_o_aside, .ref a_o_past, .int (o_states), .ref a_o_refusals, .ref a_o_text, .int (o_bytes), .ref a_o_tried, .int (o_triedMany), .ref a_o_shuffled, .ref a_o_letters, .ref a_o_numbers, .int (o_orders), .int (o_spot), .int (o_wrongAt), .long (o_hash)])), (a_o_refusals, .inl (cI, 3, .inl (o_refusals))), (a_o_text, .inl (cI, 150, .inl (o_text)))] = A at hD ⊢
  have hS : va_S A s.heap s.heap [] := va_S.rf
  have hl := lv_entry ([.ref a_o, .int x1]) (n := 2) (Nat.le_of_ble_eq_true rfl)
  rw [lg_entry_eq]
  generalize (lg_sl ([.ref a_o, .int x1]) ++ List.replicate (2 - (lg_sl ([.ref a_o, .int x1])).length) Slot.unset).toArray = ls at hl ⊢
  have hl : lv_has ls 2 [(0, .ref a_o), (1, .int x1)] := hl
  have S : CallFix p m c cX7_type 2 s _ GW RX7 := ⟨hx, hb, hml, hown, hts⟩
  unfold f_X7_type at h
  refine lv_iload_n hx hb dX7_type_0 rfl (lv_at hl 1 rfl) ?_
  refine lv_iconst (v := (0 : Int32)) hx hb dX7_type_1 (by decide) ?_
  refine lv_bipush (v := (127 : Int32)) hx hb dX7_type_2 (by decide) ?_
  obtain ⟨r1, hc2, h⟩ := bd1_use h
  refine ro_S (As := [.int x1, .int (0 : Int32), .int (127 : Int32)]) (rest := []) S (c_X7_in l D cI cS x1 (0 : Int32) (127 : Int32) r1 hc2) (cwS1 hts csX7_in wmX7_48 rfl rfl ⟨(Nat.le_of_ble_eq_true rfl), (Nat.le_of_ble_eq_true rfl)⟩) hK hP [] rfl rfl hl.1 rfl (Nat.le_of_ble_eq_true rfl) dX7_type_4 ⟨Nat.zero_le _, Nat.zero_le _⟩ rfl ?_
  refine lv_if_ne (tgt := 17) hx hb dX7_type_7 (by decide) (fun c3 => ?_) (fun c3 => ?_)
  · have h := it_f c3 h
    refine lv_aload_n hx hb dX7_type_17 rfl (lv_at hl 0 rfl) ?_
    refine gfX7_6 hx hb hts hown hK hP 0 rfl wfX7_180 dX7_type_18 ?_
    refine lv_sipush (v := (150 : Int32)) hx hb dX7_type_21 (by decide) ?_
    refine lv_icmp_ne (tgt := 34) hx hb dX7_type_24 (by decide) (fun c4 => ?_) (fun c4 => ?_)
    · have h := it_f c4 h
      refine lv_aload_n hx hb dX7_type_34 rfl (lv_at hl 0 rfl) ?_
      refine gfX7_5 hx hb hts hown hK hP 0 rfl wfX7_22 dX7_type_35 ?_
      refine lv_aload_n hx hb dX7_type_38 rfl (lv_at hl 0 rfl) ?_
      refine gfX7_6 hx hb hts hown hK hP 0 rfl wfX7_180 dX7_type_39 ?_
      refine lv_iload_n hx hb dX7_type_42 rfl (lv_at hl 1 rfl) ?_
      obtain ⟨hi6, h⟩ := wr_use h
      refine is_ (ws' := [(a_o, .inr (6, [.ref a_o_now, .ref a_o_aside, .ref a_o_past, .int (o_states), .ref a_o_refusals, .ref a_o_text, .int (o_bytes), .ref a_o_tried, .int (o_triedMany), .ref a_o_shuffled, .ref a_o_letters, .ref a_o_numbers, .int (o_orders), .int (o_spot), .int (o_wrongAt), .long (o_hash)])), (a_o_refusals, .inl (cI, 3, .inl (o_refusals))), (a_o_text, .inl (cI, 150, .inl ((upd o_text o_bytes.toNatClampNeg x1))))]) hx hb hK hP hD hS 2 rfl rfl hi6 dX7_type_43 (fun H locs hP hD hS => ?_)
      refine lv_aload_n hx hb dX7_type_44 rfl (lv_at hl 0 rfl) ?_
      refine lv_dup hx hb dX7_type_45 rfl ?_
      refine gfX7_6 hx hb hts hown hK hP 0 rfl wfX7_180 dX7_type_46 ?_
      refine lv_iconst (v := (1 : Int32)) hx hb dX7_type_49 (by decide) ?_
      refine lv_iadd hx hb dX7_type_50 ?_
      refine lv_topi (fun y7 ey7 => ?_)
      have h := nm_use h ey7
      refine pfX7_6 (ws' := [(a_o, .inr (6, [.ref a_o_now, .ref a_o_aside, .ref a_o_past, .int (o_states), .ref a_o_refusals, .ref a_o_text, .int (y7), .ref a_o_tried, .int (o_triedMany), .ref a_o_shuffled, .ref a_o_letters, .ref a_o_numbers, .int (o_orders), .int (o_spot), .int (o_wrongAt), .long (o_hash)])), (a_o_refusals, .inl (cI, 3, .inl (o_refusals))), (a_o_text, .inl (cI, 150, .inl ((upd o_text o_bytes.toNatClampNeg x1))))]) hx hb hts hown hK hP hD hS 0 rfl rfl wfX7_180 dX7_type_51 (fun H locs hP hD hS => ?_)
      refine lv_aload_n hx hb dX7_type_54 rfl (lv_at hl 0 rfl) ?_
      refine gfX7_6 hx hb hts hown hK hP 0 rfl wfX7_180 dX7_type_55 ?_
      cases h
      exact W.iret hx hb hr (fun t ht _ => ⟨rfl, by rw [ht]; exact hP, hS.F ht⟩) hS.2.2 dX7_type_58
    · have h := it_t c4 h
      refine lv_aload_n hx hb dX7_type_27 rfl (lv_at hl 0 rfl) ?_
      refine lv_bipush (v := (-4 : Int32)) hx hb dX7_type_28 (by decide) ?_
      obtain ⟨r8, w9, hc10, h⟩ := bd2_use h
      refine wr_V (As := [.int (-4 : Int32)]) (rest := []) (ws' := [(a_o, .inr (6, [.ref a_o_now, .ref a_o_aside, .ref a_o_past, .int (o_states), .ref a_o_refusals, .ref a_o_text, .int (o_bytes), .ref a_o_tried, .int (o_triedMany), .ref a_o_shuffled, .ref a_o_letters, .ref a_o_numbers, .int (o_orders), .int (o_spot), .int (o_wrongAt), .long (o_hash)])), (a_o_refusals, .inl (cI, 3, .inl (w9))), (a_o_text, .inl (cI, 150, .inl (o_text)))]) S (c_X7_refuses l D cI cS a_o a_o_refusals a_o_now a_o_aside a_o_past a_o_text a_o_tried a_o_shuffled a_o_letters a_o_numbers o_states o_bytes o_triedMany o_orders o_spot o_wrongAt o_hash o_refusals (-4 : Int32) r8 w9 hc10) (cwV1 hts cvX7_refuses wmX7_41 rfl rfl ⟨(Nat.le_of_ble_eq_true rfl), (Nat.le_of_ble_eq_true rfl)⟩) hK hP hD hS [0, 1] rfl rfl [(true, 0), (true, 1), (false, 2)] rfl rfl rfl 0 rfl rfl rfl rfl hl.1 rfl (Nat.le_of_ble_eq_true rfl) dX7_type_30 ⟨Nat.zero_le _, Nat.zero_le _⟩ rfl (fun H locs hP hD hS => ?_)
      cases h
      exact W.iret hx hb hr (fun t ht _ => ⟨rfl, by rw [ht]; exact hP, hS.F ht⟩) hS.2.2 dX7_type_33
  · have h := it_t c3 h
    refine lv_aload_n hx hb dX7_type_10 rfl (lv_at hl 0 rfl) ?_
    refine lv_bipush (v := (-2 : Int32)) hx hb dX7_type_11 (by decide) ?_
    obtain ⟨r11, w12, hc13, h⟩ := bd2_use h
    refine wr_V (As := [.int (-2 : Int32)]) (rest := []) (ws' := [(a_o, .inr (6, [.ref a_o_now, .ref a_o_aside, .ref a_o_past, .int (o_states), .ref a_o_refusals, .ref a_o_text, .int (o_bytes), .ref a_o_tried, .int (o_triedMany), .ref a_o_shuffled, .ref a_o_letters, .ref a_o_numbers, .int (o_orders), .int (o_spot), .int (o_wrongAt), .long (o_hash)])), (a_o_refusals, .inl (cI, 3, .inl (w12))), (a_o_text, .inl (cI, 150, .inl (o_text)))]) S (c_X7_refuses l D cI cS a_o a_o_refusals a_o_now a_o_aside a_o_past a_o_text a_o_tried a_o_shuffled a_o_letters a_o_numbers o_states o_bytes o_triedMany o_orders o_spot o_wrongAt o_hash o_refusals (-2 : Int32) r11 w12 hc13) (cwV1 hts cvX7_refuses wmX7_41 rfl rfl ⟨(Nat.le_of_ble_eq_true rfl), (Nat.le_of_ble_eq_true rfl)⟩) hK hP hD hS [0, 1] rfl rfl [(true, 0), (true, 1), (false, 2)] rfl rfl rfl 0 rfl rfl rfl rfl hl.1 rfl (Nat.le_of_ble_eq_true rfl) dX7_type_13 ⟨Nat.zero_le _, Nat.zero_le _⟩ rfl (fun H locs hP hD hS => ?_)
    cases h
    exact W.iret hx hb hr (fun t ht _ => ⟨rfl, by rw [ht]; exact hP, hS.F ht⟩) hS.2.2 dX7_type_16
def b_X7_who_56 (o_now : Ar) (x2 : Int32) : Nat → Int32 → Int32 → Int32 → Int32 → Ar → Option (Int32 × Ar)
  | 0, _, _, _, _, _ => none
  | n + 1, v3, v4, v5, v6, o_refusals => (if v3 ≤ v6 then some (v4, o_refusals) else rd o_now 52 ((4 : Int32) + v6) (fun rv2 => bd1 (f_X7_behind o_now rv2 v5) (fun r4 => bd1 (f_X7_has (v5 ^^^ r4) x2) (fun r6 => (if (b2i r6) = (0 : Int32) then nm (v6 + (1 : Int32)) (fun y9 => b_X7_who_56 o_now x2 n v3 v4 r4 y9 o_refusals) else rd o_now 52 ((4 : Int32) + v6) (fun rv10 => nm (v6 + (1 : Int32)) (fun y12 => b_X7_who_56 o_now x2 n v3 rv10 r4 y12 o_refusals)))))))
def f_X7_who (o_now : Ar) (o_refusals : Ar) (x1 : Int32) (x2 : Int32) : Option (Int32 × Ar) := bd1 (f_X7_isTest o_now x1) (fun r13 => (if (b2i r13) = (0 : Int32) then bd2 (f_X7_refuses o_refusals (-2 : Int32)) (fun r16 w17 => some (r16, w17)) else bd1 (f_X7_in x2 (0 : Int32) (5 : Int32)) (fun r19 => (if (b2i r19) = (0 : Int32) then bd2 (f_X7_refuses o_refusals (-2 : Int32)) (fun r30 w31 => some (r30, w31)) else bd1 (f_X7_placeOf o_now x1) (fun r22 => (if r22 = (-1 : Int32) then bd2 (f_X7_refuses o_refusals (-3 : Int32)) (fun r27 w28 => some (r27, w28)) else rd o_now 52 (1 : Int32) (fun rv25 => b_X7_who_56 o_now x2 FU r22 (-1 : Int32) rv25 (0 : Int32) o_refusals)))))))
set_option maxHeartbeats 4000000 in
set_option maxRecDepth 100000 in
theorem c_X7_who (l : Launch) (D : va_G) (cI cS : ClassId) (a_o : Nat) (a_o_now : Nat) (a_o_refusals : Nat) (a_o_aside : Nat) (a_o_past : Nat) (a_o_text : Nat) (a_o_tried : Nat) (a_o_shuffled : Nat) (a_o_letters : Nat) (a_o_numbers : Nat) (o_states : Int32) (o_bytes : Int32) (o_triedMany : Int32) (o_orders : Int32) (o_spot : Int32) (o_wrongAt : Int32) (o_hash : Int64) (o_now : Ar) (o_refusals : Ar) (x1 : Int32) (x2 : Int32) (r0 : Int32) (o_refusals' : Ar) (h : f_X7_who o_now o_refusals x1 x2 = some (r0, o_refusals')) : wrM l D cI cS yX7_who cX7_who 8 (some .int) 3 67 [.ref a_o, .int x1, .int x2] [(a_o, .inr (6, [.ref a_o_now, .ref a_o_aside, .ref a_o_past, .int (o_states), .ref a_o_refusals, .ref a_o_text, .int (o_bytes), .ref a_o_tried, .int (o_triedMany), .ref a_o_shuffled, .ref a_o_letters, .ref a_o_numbers, .int (o_orders), .int (o_spot), .int (o_wrongAt), .long (o_hash)])), (a_o_now, .inl (cI, 52, .inl (o_now))), (a_o_refusals, .inl (cI, 3, .inl (o_refusals)))] [(a_o, .inr (6, [.ref a_o_now, .ref a_o_aside, .ref a_o_past, .int (o_states), .ref a_o_refusals, .ref a_o_text, .int (o_bytes), .ref a_o_tried, .int (o_triedMany), .ref a_o_shuffled, .ref a_o_letters, .ref a_o_numbers, .int (o_orders), .int (o_spot), .int (o_wrongAt), .long (o_hash)])), (a_o_now, .inl (cI, 52, .inl (o_now))), (a_o_refusals, .inl (cI, 3, .inl (o_refusals')))] (some (.int r0)) := by
  refine Met.ofW (cc := cX7_who) (maxL := 8) (ret := (some .int)) (by decide) rfl ?_
  intro p e s m args below meth c s₁ B hml hv
  obtain ⟨rfl, hP, hK, hD0⟩ := hv
  have hx := B.exec
  have hb := B.bytes
  have hr := B.returns
  have hts : ∀ w ∈ GW, w.before _ s = true := fun w hw => atoms_spec (ws := mws yX7_who cX7_who 8 (some .int)) B.pre w (List.mem_cons_of_mem _ hw)
  have hown : s.vm.findClass RX7 = some m.cls := findClass_of_methodNamed B.named
  have hlocks := B.notSynchronized
  have hD := inW_self hD0
  generalize hAe : inW [(a_o, .inr (6, [.ref a_o_now, .ref a_o_aside, .ref a_o_past, .int (o_states), .ref a_o_refusals, .ref a_o_text, .int (o_bytes), .ref a_o_tried, .int (o_triedMany), .ref a_o_shuffled, .ref a_o_letters, .ref a_o_numbers, .int (o_orders), .int (o_spot), .int (o_wrongAt), .long (o_hash)])), (a_o_now, .inl (cI, 52, .inl (o_now))), (a_o_refusals, .inl (cI, 3, .inl (o_refusals)))] = A at hD ⊢
  have hS : va_S A s.heap s.heap [] := va_S.rf
  have hl := lv_entry ([.ref a_o, .int x1, .int x2]) (n := 8) (Nat.le_of_ble_eq_true rfl)
  rw [lg_entry_eq]
  generalize (lg_sl ([.ref a_o, .int x1, .int x2]) ++ List.replicate (8 - (lg_sl ([.ref a_o, .int x1, .int x2])).length) Slot.unset).toArray = ls at hl ⊢
  have hl : lv_has ls 8 [(0, .ref a_o), (1, .int x1), (2, .int x2)] := hl
  have S : CallFix p m c cX7_who 8 s _ GW RX7 := ⟨hx, hb, hml, hown, hts⟩
  have L_56 : ∀ (n : Nat) (v3 : Int32) (v4 : Int32) (v5 : Int32) (v6 : Int32) (o_refusals : Ar), b_X7_who_56 o_now x2 n v3 v4 v5 v6 o_refusals = some (r0, o_refusals') → ∀ (H : Heap) (locs : List Loc), va_P D vwCl [(a_o, .inr (6, [.ref a_o_now, .ref a_o_aside, .ref a_o_past, .int (o_states), .ref a_o_refusals, .ref a_o_text, .int (o_bytes), .ref a_o_tried, .int (o_triedMany), .ref a_o_shuffled, .ref a_o_letters, .ref a_o_numbers, .int (o_orders), .int (o_spot), .int (o_wrongAt), .long (o_hash)])), (a_o_now, .inl (cI, 52, .inl (o_now))), (a_o_refusals, .inl (cI, 3, .inl (o_refusals)))] H → va_D A [(a_o, .inr (6, [.ref a_o_now, .ref a_o_aside, .ref a_o_past, .int (o_states), .ref a_o_refusals, .ref a_o_text, .int (o_bytes), .ref a_o_tried, .int (o_triedMany), .ref a_o_shuffled, .ref a_o_letters, .ref a_o_numbers, .int (o_orders), .int (o_spot), .int (o_wrongAt), .long (o_hash)])), (a_o_now, .inl (cI, 52, .inl (o_now))), (a_o_refusals, .inl (cI, 3, .inl (o_refusals)))] → va_S A s.heap H locs → ∀ (ls : Array Slot), lv_has ls 8 [(0, .ref a_o), (2, .int x2), (3, .int v3), (4, .int v4), (5, .int v5), (6, .int v6)] → W p l e (headSpec (mws yX7_who cX7_who 8 (some .int)) { frames := 3, cells := 0, slots := 0, locals := 67 }).room s m [.ref a_o, .int x1, .int x2].toArray below meth c H locs 0 0 (MQ below (wrQ D A [(a_o, .inr (6, [.ref a_o_now, .ref a_o_aside, .ref a_o_past, .int (o_states), .ref a_o_refusals, .ref a_o_text, .int (o_bytes), .ref a_o_tried, .int (o_triedMany), .ref a_o_shuffled, .ref a_o_letters, .ref a_o_numbers, .int (o_orders), .int (o_spot), .int (o_wrongAt), .long (o_hash)])), (a_o_now, .inl (cI, 52, .inl (o_now))), (a_o_refusals, .inl (cI, 3, .inl (o_refusals')))] (some (.int r0))) [.ref a_o, .int x1, .int x2].toArray s 0 0 A) (F0 m 56 ls []) := by
    intro n
    induction n with
    | zero =>
      intro v3 v4 v5 v6 o_refusals h
      exact nn_no h
    | succ n ih =>
      intro v3 v4 v5 v6 o_refusals h H locs hP hD hS ls hl
      rw [b_X7_who_56] at h
      refine lv_iload hx hb dX7_who_56 (lv_at hl 5 rfl) ?_
      refine lv_iload_n hx hb dX7_who_58 rfl (lv_at hl 2 rfl) ?_
      refine lv_icmp_ge (tgt := 117) hx hb dX7_who_59 (by decide) (fun c1 => ?_) (fun c1 => ?_)
      · have h := it_t c1 h
        refine lv_iload hx hb dX7_who_117 (lv_at hl 3 rfl) ?_
        cases h
        exact W.iret hx hb hr (fun t ht _ => ⟨rfl, by rw [ht]; exact hP, hS.F ht⟩) hS.2.2 dX7_who_119
      · have h := it_f c1 h
        refine lv_aload_n hx hb dX7_who_62 rfl (lv_at hl 0 rfl) ?_
        refine lv_aload_n hx hb dX7_who_63 rfl (lv_at hl 0 rfl) ?_
        refine gfX7_0 hx hb hts hown hK hP 0 rfl wfX7_7 dX7_who_64 ?_
        refine lv_iconst (v := (4 : Int32)) hx hb dX7_who_67 (by decide) ?_
        refine lv_iload hx hb dX7_who_68 (lv_at hl 5 rfl) ?_
        refine lv_iadd hx hb dX7_who_70 ?_
        obtain ⟨hi3, h⟩ := rd_use h
        refine ia_ hx hb hK hP 1 rfl hi3 dX7_who_71 ?_
        refine lv_iload hx hb dX7_who_72 (lv_at hl 4 rfl) ?_
        obtain ⟨r4, hc5, h⟩ := bd1_use h
        refine ro_V (As := [.int (o_now ((4 : Int32) + v6).toNatClampNeg), .int v5]) (rest := []) S (c_X7_behind l D cI cS a_o a_o_now a_o_aside a_o_past a_o_refusals a_o_text a_o_tried a_o_shuffled a_o_letters a_o_numbers o_states o_bytes o_triedMany o_orders o_spot o_wrongAt o_hash o_now (o_now ((4 : Int32) + v6).toNatClampNeg) v5 r4 hc5) (cwV1 hts cvX7_behind wmX7_63 rfl rfl ⟨(Nat.le_of_ble_eq_true rfl), (Nat.le_of_ble_eq_true rfl)⟩) hK hP [0, 1] rfl 0 rfl rfl rfl rfl hl.1 rfl (Nat.le_of_ble_eq_true rfl) dX7_who_74 ⟨Nat.zero_le _, Nat.zero_le _⟩ rfl ?_
        refine lv_istore (lv' := [(7, .int r4), (0, .ref a_o), (2, .int x2), (3, .int v3), (4, .int v4), (5, .int v5), (6, .int v6)]) hx hb dX7_who_77 hl (by decide) rfl (fun ls hl => ?_)
        refine lv_iload hx hb dX7_who_79 (lv_at hl 5 rfl) ?_
        refine lv_iload hx hb dX7_who_81 (lv_at hl 0 rfl) ?_
        refine lv_ixor hx hb dX7_who_83 ?_
        refine lv_iload_n hx hb dX7_who_84 rfl (lv_at hl 2 rfl) ?_
        obtain ⟨r6, hc7, h⟩ := bd1_use h
        refine ro_S (As := [.int (v5 ^^^ r4), .int x2]) (rest := []) S (c_X7_has l D cI cS (v5 ^^^ r4) x2 r6 hc7) (cwS1 hts csX7_has wmX7_77 rfl rfl ⟨(Nat.le_of_ble_eq_true rfl), (Nat.le_of_ble_eq_true rfl)⟩) hK hP [] rfl rfl hl.1 rfl (Nat.le_of_ble_eq_true rfl) dX7_who_85 ⟨Nat.zero_le _, Nat.zero_le _⟩ rfl ?_
        refine lv_if_eq (tgt := 103) hx hb dX7_who_88 (by decide) (fun c8 => ?_) (fun c8 => ?_)
        · have h := it_t c8 h
          refine lv_iload hx hb dX7_who_103 (lv_at hl 4 rfl) ?_
          refine lv_istore (lv' := [(4, .int v4), (7, .int r4), (0, .ref a_o), (2, .int x2), (3, .int v3), (5, .int v5), (6, .int v6)]) hx hb dX7_who_105 hl (by decide) rfl (fun ls hl => ?_)
          refine lv_iload hx hb dX7_who_107 (lv_at hl 1 rfl) ?_
          refine lv_istore (lv' := [(5, .int r4), (4, .int v4), (7, .int r4), (0, .ref a_o), (2, .int x2), (3, .int v3), (6, .int v6)]) hx hb dX7_who_109 hl (by decide) rfl (fun ls hl => ?_)
          obtain ⟨y9, ey9⟩ : ∃ z : Int32, z = v6 + (1 : Int32) := ⟨_, rfl⟩
          have h := nm_use h ey9
          refine lv_iinc (v := y9) (lv' := [(6, .int y9), (5, .int r4), (4, .int v4), (7, .int r4), (0, .ref a_o), (2, .int x2), (3, .int v3)]) hx hb dX7_who_111 hl (k := 6) rfl (by rw [ey9]; rfl) (by decide) rfl (fun ls hl => ?_)
          refine lv_goto (tgt := 56) hx hb dX7_who_114 (by decide) ?_
          exact ih _ _ _ _ _ h _ _ hP hD hS _ (lv_sub hl [4, 5, 6, 2, 1, 0] rfl)
        · have h := it_f c8 h
          refine lv_aload_n hx hb dX7_who_91 rfl (lv_at hl 1 rfl) ?_
          refine gfX7_0 hx hb hts hown hK hP 0 rfl wfX7_7 dX7_who_92 ?_
          refine lv_iconst (v := (4 : Int32)) hx hb dX7_who_95 (by decide) ?_
          refine lv_iload hx hb dX7_who_96 (lv_at hl 6 rfl) ?_
          refine lv_iadd hx hb dX7_who_98 ?_
          obtain ⟨hi11, h⟩ := rd_use h
          refine ia_ hx hb hK hP 1 rfl hi11 dX7_who_99 ?_
          refine lv_goto (tgt := 105) hx hb dX7_who_100 (by decide) ?_
          refine lv_istore (lv' := [(4, .int (o_now ((4 : Int32) + v6).toNatClampNeg)), (7, .int r4), (0, .ref a_o), (2, .int x2), (3, .int v3), (5, .int v5), (6, .int v6)]) hx hb dX7_who_105 hl (by decide) rfl (fun ls hl => ?_)
          refine lv_iload hx hb dX7_who_107 (lv_at hl 1 rfl) ?_
          refine lv_istore (lv' := [(5, .int r4), (4, .int (o_now ((4 : Int32) + v6).toNatClampNeg)), (7, .int r4), (0, .ref a_o), (2, .int x2), (3, .int v3), (6, .int v6)]) hx hb dX7_who_109 hl (by decide) rfl (fun ls hl => ?_)
          obtain ⟨y12, ey12⟩ : ∃ z : Int32, z = v6 + (1 : Int32) := ⟨_, rfl⟩
          have h := nm_use h ey12
          refine lv_iinc (v := y12) (lv' := [(6, .int y12), (5, .int r4), (4, .int (o_now ((4 : Int32) + v6).toNatClampNeg)), (7, .int r4), (0, .ref a_o), (2, .int x2), (3, .int v3)]) hx hb dX7_who_111 hl (k := 6) rfl (by rw [ey12]; rfl) (by decide) rfl (fun ls hl => ?_)
          refine lv_goto (tgt := 56) hx hb dX7_who_114 (by decide) ?_
          exact ih _ _ _ _ _ h _ _ hP hD hS _ (lv_sub hl [4, 5, 6, 2, 1, 0] rfl)
  unfold f_X7_who at h
  refine lv_aload_n hx hb dX7_who_0 rfl (lv_at hl 0 rfl) ?_
  refine lv_iload_n hx hb dX7_who_1 rfl (lv_at hl 1 rfl) ?_
  obtain ⟨r13, hc14, h⟩ := bd1_use h
  refine ro_V (As := [.int x1]) (rest := []) S (c_X7_isTest l D cI cS a_o a_o_now a_o_aside a_o_past a_o_refusals a_o_text a_o_tried a_o_shuffled a_o_letters a_o_numbers o_states o_bytes o_triedMany o_orders o_spot o_wrongAt o_hash o_now x1 r13 hc14) (cwV1 hts cvX7_isTest wmX7_100 rfl rfl ⟨(Nat.le_of_ble_eq_true rfl), (Nat.le_of_ble_eq_true rfl)⟩) hK hP [0, 1] rfl 0 rfl rfl rfl rfl hl.1 rfl (Nat.le_of_ble_eq_true rfl) dX7_who_2 ⟨Nat.zero_le _, Nat.zero_le _⟩ rfl ?_
  refine lv_if_eq (tgt := 17) hx hb dX7_who_5 (by decide) (fun c15 => ?_) (fun c15 => ?_)
  · have h := it_t c15 h
    refine lv_aload_n hx hb dX7_who_17 rfl (lv_at hl 0 rfl) ?_
    refine lv_bipush (v := (-2 : Int32)) hx hb dX7_who_18 (by decide) ?_
    obtain ⟨r16, w17, hc18, h⟩ := bd2_use h
    refine wr_V (As := [.int (-2 : Int32)]) (rest := []) (ws' := [(a_o, .inr (6, [.ref a_o_now, .ref a_o_aside, .ref a_o_past, .int (o_states), .ref a_o_refusals, .ref a_o_text, .int (o_bytes), .ref a_o_tried, .int (o_triedMany), .ref a_o_shuffled, .ref a_o_letters, .ref a_o_numbers, .int (o_orders), .int (o_spot), .int (o_wrongAt), .long (o_hash)])), (a_o_now, .inl (cI, 52, .inl (o_now))), (a_o_refusals, .inl (cI, 3, .inl (w17)))]) S (c_X7_refuses l D cI cS a_o a_o_refusals a_o_now a_o_aside a_o_past a_o_text a_o_tried a_o_shuffled a_o_letters a_o_numbers o_states o_bytes o_triedMany o_orders o_spot o_wrongAt o_hash o_refusals (-2 : Int32) r16 w17 hc18) (cwV1 hts cvX7_refuses wmX7_41 rfl rfl ⟨(Nat.le_of_ble_eq_true rfl), (Nat.le_of_ble_eq_true rfl)⟩) hK hP hD hS [0, 2] rfl rfl [(true, 0), (false, 1), (true, 1)] rfl rfl rfl 0 rfl rfl rfl rfl hl.1 rfl (Nat.le_of_ble_eq_true rfl) dX7_who_20 ⟨Nat.zero_le _, Nat.zero_le _⟩ rfl (fun H locs hP hD hS => ?_)
    cases h
    exact W.iret hx hb hr (fun t ht _ => ⟨rfl, by rw [ht]; exact hP, hS.F ht⟩) hS.2.2 dX7_who_23
  · have h := it_f c15 h
    refine lv_iload_n hx hb dX7_who_8 rfl (lv_at hl 2 rfl) ?_
    refine lv_iconst (v := (0 : Int32)) hx hb dX7_who_9 (by decide) ?_
    refine lv_iconst (v := (5 : Int32)) hx hb dX7_who_10 (by decide) ?_
    obtain ⟨r19, hc20, h⟩ := bd1_use h
    refine ro_S (As := [.int x2, .int (0 : Int32), .int (5 : Int32)]) (rest := []) S (c_X7_in l D cI cS x2 (0 : Int32) (5 : Int32) r19 hc20) (cwS1 hts csX7_in wmX7_48 rfl rfl ⟨(Nat.le_of_ble_eq_true rfl), (Nat.le_of_ble_eq_true rfl)⟩) hK hP [] rfl rfl hl.1 rfl (Nat.le_of_ble_eq_true rfl) dX7_who_11 ⟨Nat.zero_le _, Nat.zero_le _⟩ rfl ?_
    refine lv_if_ne (tgt := 24) hx hb dX7_who_14 (by decide) (fun c21 => ?_) (fun c21 => ?_)
    · have h := it_f c21 h
      refine lv_aload_n hx hb dX7_who_24 rfl (lv_at hl 0 rfl) ?_
      refine lv_iload_n hx hb dX7_who_25 rfl (lv_at hl 1 rfl) ?_
      obtain ⟨r22, hc23, h⟩ := bd1_use h
      refine ro_V (As := [.int x1]) (rest := []) S (c_X7_placeOf l D cI cS a_o a_o_now a_o_aside a_o_past a_o_refusals a_o_text a_o_tried a_o_shuffled a_o_letters a_o_numbers o_states o_bytes o_triedMany o_orders o_spot o_wrongAt o_hash o_now x1 r22 hc23) (cwV1 hts cvX7_placeOf wmX7_93 rfl rfl ⟨(Nat.le_of_ble_eq_true rfl), (Nat.le_of_ble_eq_true rfl)⟩) hK hP [0, 1] rfl 0 rfl rfl rfl rfl hl.1 rfl (Nat.le_of_ble_eq_true rfl) dX7_who_26 ⟨Nat.zero_le _, Nat.zero_le _⟩ rfl ?_
      refine lv_istore_n (lv' := [(3, .int r22), (0, .ref a_o), (1, .int x1), (2, .int x2)]) hx hb dX7_who_29 rfl hl (by decide) rfl (fun ls hl => ?_)
      refine lv_iload_n hx hb dX7_who_30 rfl (lv_at hl 0 rfl) ?_
      refine lv_iconst (v := (-1 : Int32)) hx hb dX7_who_31 (by decide) ?_
      refine lv_icmp_ne (tgt := 42) hx hb dX7_who_32 (by decide) (fun c24 => ?_) (fun c24 => ?_)
      · have h := it_f c24 h
        refine lv_iconst (v := (-1 : Int32)) hx hb dX7_who_42 (by decide) ?_
        refine lv_istore (lv' := [(4, .int (-1 : Int32)), (3, .int r22), (0, .ref a_o), (1, .int x1), (2, .int x2)]) hx hb dX7_who_43 hl (by decide) rfl (fun ls hl => ?_)
        refine lv_aload_n hx hb dX7_who_45 rfl (lv_at hl 2 rfl) ?_
        refine gfX7_0 hx hb hts hown hK hP 0 rfl wfX7_7 dX7_who_46 ?_
        refine lv_iconst (v := (1 : Int32)) hx hb dX7_who_49 (by decide) ?_
        obtain ⟨hi26, h⟩ := rd_use h
        refine ia_ hx hb hK hP 1 rfl hi26 dX7_who_50 ?_
        refine lv_istore (lv' := [(5, .int (o_now (1 : Int32).toNatClampNeg)), (4, .int (-1 : Int32)), (3, .int r22), (0, .ref a_o), (1, .int x1), (2, .int x2)]) hx hb dX7_who_51 hl (by decide) rfl (fun ls hl => ?_)
        refine lv_iconst (v := (0 : Int32)) hx hb dX7_who_53 (by decide) ?_
        refine lv_istore (lv' := [(6, .int (0 : Int32)), (5, .int (o_now (1 : Int32).toNatClampNeg)), (4, .int (-1 : Int32)), (3, .int r22), (0, .ref a_o), (1, .int x1), (2, .int x2)]) hx hb dX7_who_54 hl (by decide) rfl (fun ls hl => ?_)
        exact L_56 _ _ _ _ _ _ h _ _ hP hD hS _ (lv_sub hl [4, 6, 3, 2, 1, 0] rfl)
      · have h := it_t c24 h
        refine lv_aload_n hx hb dX7_who_35 rfl (lv_at hl 1 rfl) ?_
        refine lv_bipush (v := (-3 : Int32)) hx hb dX7_who_36 (by decide) ?_
        obtain ⟨r27, w28, hc29, h⟩ := bd2_use h
        refine wr_V (As := [.int (-3 : Int32)]) (rest := []) (ws' := [(a_o, .inr (6, [.ref a_o_now, .ref a_o_aside, .ref a_o_past, .int (o_states), .ref a_o_refusals, .ref a_o_text, .int (o_bytes), .ref a_o_tried, .int (o_triedMany), .ref a_o_shuffled, .ref a_o_letters, .ref a_o_numbers, .int (o_orders), .int (o_spot), .int (o_wrongAt), .long (o_hash)])), (a_o_now, .inl (cI, 52, .inl (o_now))), (a_o_refusals, .inl (cI, 3, .inl (w28)))]) S (c_X7_refuses l D cI cS a_o a_o_refusals a_o_now a_o_aside a_o_past a_o_text a_o_tried a_o_shuffled a_o_letters a_o_numbers o_states o_bytes o_triedMany o_orders o_spot o_wrongAt o_hash o_refusals (-3 : Int32) r27 w28 hc29) (cwV1 hts cvX7_refuses wmX7_41 rfl rfl ⟨(Nat.le_of_ble_eq_true rfl), (Nat.le_of_ble_eq_true rfl)⟩) hK hP hD hS [0, 2] rfl rfl [(true, 0), (false, 1), (true, 1)] rfl rfl rfl 0 rfl rfl rfl rfl hl.1 rfl (Nat.le_of_ble_eq_true rfl) dX7_who_38 ⟨Nat.zero_le _, Nat.zero_le _⟩ rfl (fun H locs hP hD hS => ?_)
        cases h
        exact W.iret hx hb hr (fun t ht _ => ⟨rfl, by rw [ht]; exact hP, hS.F ht⟩) hS.2.2 dX7_who_41
    · have h := it_t c21 h
      refine lv_aload_n hx hb dX7_who_17 rfl (lv_at hl 0 rfl) ?_
      refine lv_bipush (v := (-2 : Int32)) hx hb dX7_who_18 (by decide) ?_
      obtain ⟨r30, w31, hc32, h⟩ := bd2_use h
      refine wr_V (As := [.int (-2 : Int32)]) (rest := []) (ws' := [(a_o, .inr (6, [.ref a_o_now, .ref a_o_aside, .ref a_o_past, .int (o_states), .ref a_o_refusals, .ref a_o_text, .int (o_bytes), .ref a_o_tried, .int (o_triedMany), .ref a_o_shuffled, .ref a_o_letters, .ref a_o_numbers, .int (o_orders), .int (o_spot), .int (o_wrongAt), .long (o_hash)])), (a_o_now, .inl (cI, 52, .inl (o_now))), (a_o_refusals, .inl (cI, 3, .inl (w31)))]) S (c_X7_refuses l D cI cS a_o a_o_refusals a_o_now a_o_aside a_o_past a_o_text a_o_tried a_o_shuffled a_o_letters a_o_numbers o_states o_bytes o_triedMany o_orders o_spot o_wrongAt o_hash o_refusals (-2 : Int32) r30 w31 hc32) (cwV1 hts cvX7_refuses wmX7_41 rfl rfl ⟨(Nat.le_of_ble_eq_true rfl), (Nat.le_of_ble_eq_true rfl)⟩) hK hP hD hS [0, 2] rfl rfl [(true, 0), (false, 1), (true, 1)] rfl rfl rfl 0 rfl rfl rfl rfl hl.1 rfl (Nat.le_of_ble_eq_true rfl) dX7_who_20 ⟨Nat.zero_le _, Nat.zero_le _⟩ rfl (fun H locs hP hD hS => ?_)
      cases h
      exact W.iret hx hb hr (fun t ht _ => ⟨rfl, by rw [ht]; exact hP, hS.F ht⟩) hS.2.2 dX7_who_23
def f_X7_wipes (o_states : Int32) (o_now : Ar) (o_aside : Ar) (o_past : Ar) (o_refusals : Ar) : Option (Int32 × Int32 × Ar × Ar × Ar × Ar) := bd1 (f_X7_laysAside o_now o_aside) (fun w1 => bd2 (f_X7_putWiped o_now) (fun r3 w4 => bd4 (f_X7_finished o_states w1 o_past o_refusals r3) (fun r6 w7 w8 w9 => some (r6, w7, w4, w1, w8, w9))))
set_option maxHeartbeats 4000000 in
set_option maxRecDepth 100000 in
theorem c_X7_wipes (l : Launch) (D : va_G) (cI cS : ClassId) (a_o : Nat) (a_o_now : Nat) (a_o_aside : Nat) (a_o_past : Nat) (a_o_refusals : Nat) (a_o_text : Nat) (a_o_tried : Nat) (a_o_shuffled : Nat) (a_o_letters : Nat) (a_o_numbers : Nat) (o_states : Int32) (o_bytes : Int32) (o_triedMany : Int32) (o_orders : Int32) (o_spot : Int32) (o_wrongAt : Int32) (o_hash : Int64) (o_now : Ar) (o_aside : Ar) (o_past : Ar) (o_refusals : Ar) (r0 : Int32) (o_states' : Int32) (o_now' : Ar) (o_aside' : Ar) (o_past' : Ar) (o_refusals' : Ar) (h : f_X7_wipes o_states o_now o_aside o_past o_refusals = some (r0, o_states', o_now', o_aside', o_past', o_refusals')) : wrM l D cI cS yX7_wipes cX7_wipes 1 (some .int) 2 42 [.ref a_o] [(a_o, .inr (6, [.ref a_o_now, .ref a_o_aside, .ref a_o_past, .int (o_states), .ref a_o_refusals, .ref a_o_text, .int (o_bytes), .ref a_o_tried, .int (o_triedMany), .ref a_o_shuffled, .ref a_o_letters, .ref a_o_numbers, .int (o_orders), .int (o_spot), .int (o_wrongAt), .long (o_hash)])), (a_o_now, .inl (cI, 52, .inl (o_now))), (a_o_aside, .inl (cI, 52, .inl (o_aside))), (a_o_past, .inl (cI, 260, .inl (o_past))), (a_o_refusals, .inl (cI, 3, .inl (o_refusals)))] [(a_o, .inr (6, [.ref a_o_now, .ref a_o_aside, .ref a_o_past, .int (o_states'), .ref a_o_refusals, .ref a_o_text, .int (o_bytes), .ref a_o_tried, .int (o_triedMany), .ref a_o_shuffled, .ref a_o_letters, .ref a_o_numbers, .int (o_orders), .int (o_spot), .int (o_wrongAt), .long (o_hash)])), (a_o_now, .inl (cI, 52, .inl (o_now'))), (a_o_aside, .inl (cI, 52, .inl (o_aside'))), (a_o_past, .inl (cI, 260, .inl (o_past'))), (a_o_refusals, .inl (cI, 3, .inl (o_refusals')))] (some (.int r0)) := by
  refine Met.ofW (cc := cX7_wipes) (maxL := 1) (ret := (some .int)) (by decide) rfl ?_
  intro p e s m args below meth c s₁ B hml hv
  obtain ⟨rfl, hP, hK, hD0⟩ := hv
  have hx := B.exec
  have hb := B.bytes
  have hr := B.returns
  have hts : ∀ w ∈ GW, w.before _ s = true := fun w hw => atoms_spec (ws := mws yX7_wipes cX7_wipes 1 (some .int)) B.pre w (List.mem_cons_of_mem _ hw)
  have hown : s.vm.findClass RX7 = some m.cls := findClass_of_methodNamed B.named
  have hlocks := B.notSynchronized
  have hD := inW_self hD0
  generalize hAe : inW [(a_o, .inr (6, [.ref a_o_now, .ref a_o_aside, .ref a_o_past, .int (o_states), .ref a_o_refusals, .ref a_o_text, .int (o_bytes), .ref a_o_tried, .int (o_triedMany), .ref a_o_shuffled, .ref a_o_letters, .ref a_o_numbers, .int (o_orders), .int (o_spot), .int (o_wrongAt), .long (o_hash)])), (a_o_now, .inl (cI, 52, .inl (o_now))), (a_o_aside, .inl (cI, 52, .inl (o_aside))), (a_o_past, .inl (cI, 260, .inl (o_past))), (a_o_refusals, .inl (cI, 3, .inl (o_refusals)))] = A at hD ⊢
  have hS : va_S A s.heap s.heap [] := va_S.rf
  have hl := lv_entry ([.ref a_o]) (n := 1) (Nat.le_of_ble_eq_true rfl)
  rw [lg_entry_eq]
  generalize (lg_sl ([.ref a_o]) ++ List.replicate (1 - (lg_sl ([.ref a_o])).length) Slot.unset).toArray = ls at hl ⊢
  have hl : lv_has ls 1 [(0, .ref a_o)] := hl
  have S : CallFix p m c cX7_wipes 1 s _ GW RX7 := ⟨hx, hb, hml, hown, hts⟩
  unfold f_X7_wipes at h
  refine lv_aload_n hx hb dX7_wipes_0 rfl (lv_at hl 0 rfl) ?_
  obtain ⟨w1, hc2, h⟩ := bd1_use h
  refine wr_V (As := []) (rest := []) (ws' := [(a_o, .inr (6, [.ref a_o_now, .ref a_o_aside, .ref a_o_past, .int (o_states), .ref a_o_refusals, .ref a_o_text, .int (o_bytes), .ref a_o_tried, .int (o_triedMany), .ref a_o_shuffled, .ref a_o_letters, .ref a_o_numbers, .int (o_orders), .int (o_spot), .int (o_wrongAt), .long (o_hash)])), (a_o_now, .inl (cI, 52, .inl (o_now))), (a_o_aside, .inl (cI, 52, .inl (w1))), (a_o_past, .inl (cI, 260, .inl (o_past))), (a_o_refusals, .inl (cI, 3, .inl (o_refusals)))]) S (c_X7_laysAside l D cI cS a_o a_o_now a_o_aside a_o_past a_o_refusals a_o_text a_o_tried a_o_shuffled a_o_letters a_o_numbers o_states o_bytes o_triedMany o_orders o_spot o_wrongAt o_hash o_now o_aside w1 hc2) (cwV1 hts cvX7_laysAside wmX7_121 rfl rfl ⟨(Nat.le_of_ble_eq_true rfl), (Nat.le_of_ble_eq_true rfl)⟩) hK hP hD hS [0, 1, 2] rfl rfl [(true, 0), (true, 1), (true, 2), (false, 3), (false, 4)] rfl rfl rfl 0 rfl rfl rfl rfl hl.1 rfl (Nat.le_of_ble_eq_true rfl) dX7_wipes_1 ⟨Nat.zero_le _, Nat.zero_le _⟩ rfl (fun H locs hP hD hS => ?_)
  refine lv_aload_n hx hb dX7_wipes_4 rfl (lv_at hl 0 rfl) ?_
  refine lv_aload_n hx hb dX7_wipes_5 rfl (lv_at hl 0 rfl) ?_
  obtain ⟨r3, w4, hc5, h⟩ := bd2_use h
  refine wr_V (As := []) (rest := [.ref a_o]) (ws' := [(a_o, .inr (6, [.ref a_o_now, .ref a_o_aside, .ref a_o_past, .int (o_states), .ref a_o_refusals, .ref a_o_text, .int (o_bytes), .ref a_o_tried, .int (o_triedMany), .ref a_o_shuffled, .ref a_o_letters, .ref a_o_numbers, .int (o_orders), .int (o_spot), .int (o_wrongAt), .long (o_hash)])), (a_o_now, .inl (cI, 52, .inl (w4))), (a_o_aside, .inl (cI, 52, .inl (w1))), (a_o_past, .inl (cI, 260, .inl (o_past))), (a_o_refusals, .inl (cI, 3, .inl (o_refusals)))]) S (c_X7_putWiped l D cI cS a_o a_o_now a_o_aside a_o_past a_o_refusals a_o_text a_o_tried a_o_shuffled a_o_letters a_o_numbers o_states o_bytes o_triedMany o_orders o_spot o_wrongAt o_hash o_now r3 w4 hc5) (cwV1 hts cvX7_putWiped wmX7_137 rfl rfl ⟨(Nat.le_of_ble_eq_true rfl), (Nat.le_of_ble_eq_true rfl)⟩) hK hP hD hS [0, 1] rfl rfl [(true, 0), (true, 1), (false, 2), (false, 3), (false, 4)] rfl rfl rfl 0 rfl rfl rfl rfl hl.1 rfl (Nat.le_of_ble_eq_true rfl) dX7_wipes_6 ⟨Nat.zero_le _, Nat.zero_le _⟩ rfl (fun H locs hP hD hS => ?_)
  obtain ⟨r6, w7, w8, w9, hc10, h⟩ := bd4_use h
  refine wr_V (As := [.int r3]) (rest := []) (ws' := [(a_o, .inr (6, [.ref a_o_now, .ref a_o_aside, .ref a_o_past, .int (w7), .ref a_o_refusals, .ref a_o_text, .int (o_bytes), .ref a_o_tried, .int (o_triedMany), .ref a_o_shuffled, .ref a_o_letters, .ref a_o_numbers, .int (o_orders), .int (o_spot), .int (o_wrongAt), .long (o_hash)])), (a_o_now, .inl (cI, 52, .inl (w4))), (a_o_aside, .inl (cI, 52, .inl (w1))), (a_o_past, .inl (cI, 260, .inl (w8))), (a_o_refusals, .inl (cI, 3, .inl (w9)))]) S (c_X7_finished l D cI cS a_o a_o_aside a_o_past a_o_refusals a_o_now a_o_text a_o_tried a_o_shuffled a_o_letters a_o_numbers o_states o_bytes o_triedMany o_orders o_spot o_wrongAt o_hash w1 o_past o_refusals r3 r6 w7 w8 w9 hc10) (cwV1 hts cvX7_finished wmX7_128 rfl rfl ⟨(Nat.le_of_ble_eq_true rfl), (Nat.le_of_ble_eq_true rfl)⟩) hK hP hD hS [0, 2, 3, 4] rfl rfl [(true, 0), (false, 1), (true, 1), (true, 2), (true, 3)] rfl rfl rfl 0 rfl rfl rfl rfl hl.1 rfl (Nat.le_of_ble_eq_true rfl) dX7_wipes_9 ⟨Nat.zero_le _, Nat.zero_le _⟩ rfl (fun H locs hP hD hS => ?_)
  cases h
  exact W.iret hx hb hr (fun t ht _ => ⟨rfl, by rw [ht]; exact hP, hS.F ht⟩) hS.2.2 dX7_wipes_12
