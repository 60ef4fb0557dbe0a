/-! the reference, first part -/
def b_X7_ahead_4 (o_now : Ar) (x1 : Int32) : Nat → Int32 → Int32 → Option (Int32)
  | 0, _, _ => none
  | n + 1, v2, v3 => (if x1 ≤ v3 then some (v2) else rd o_now 52 ((4 : Int32) + v3) (fun rv2 => nm (v2 ||| ((1 : Int32) <<< (rv2 &&& (31 : Int32)))) (fun y4 => nm (v3 + (1 : Int32)) (fun y5 => b_X7_ahead_4 o_now x1 n y4 y5))))
def f_X7_ahead (o_now : Ar) (x1 : Int32) : Option (Int32) := b_X7_ahead_4 o_now x1 FU (0 : Int32) (0 : Int32)
set_option maxHeartbeats 4000000 in
set_option maxRecDepth 100000 in
theorem c_X7_ahead (l : Launch) (D : va_G) (cI cS : ClassId) (a_o : Nat) (a_o_now : Nat) (a_o_aside : Nat) (a_o_past : Nat) (a_o_refusals : Nat) (a_o_text : Nat) (a_o_tried : Nat) (a_o_shuffled : Nat) (a_o_letters : Nat) (a_o_numbers : Nat) (o_states : Int32) (o_bytes : Int32) (o_triedMany : Int32) (o_orders : Int32) (o_spot : Int32) (o_wrongAt : Int32) (o_hash : Int64) (o_now : Ar) (x1 : Int32) (r0 : Int32) (h : f_X7_ahead o_now x1 = some r0) : roM l D cI cS yX7_ahead cX7_ahead 4 (some .int) 0 0 [.ref a_o, .int x1] [(a_o, .inr (6, [.ref a_o_now, .ref a_o_aside, .ref a_o_past, .int (o_states), .ref a_o_refusals, .ref a_o_text, .int (o_bytes), .ref a_o_tried, .int (o_triedMany), .ref a_o_shuffled, .ref a_o_letters, .ref a_o_numbers, .int (o_orders), .int (o_spot), .int (o_wrongAt), .long (o_hash)])), (a_o_now, .inl (cI, 52, .inl (o_now)))] (some (.int r0)) := by
  refine Met.ofW (cc := cX7_ahead) (maxL := 4) (ret := (some .int)) (by decide) rfl ?_
  intro p e s m args below meth c s₁ B hml hv
  obtain ⟨rfl, hP, hK⟩ := hv
  have hx := B.exec
  have hb := B.bytes
  have hr := B.returns
  have hts : ∀ w ∈ GW, w.before _ s = true := fun w hw => atoms_spec (ws := mws yX7_ahead cX7_ahead 4 (some .int)) B.pre w (List.mem_cons_of_mem _ hw)
  have hown : s.vm.findClass RX7 = some m.cls := findClass_of_methodNamed B.named
  have hlocks := B.notSynchronized
  have hl := lv_entry ([.ref a_o, .int x1]) (n := 4) (Nat.le_of_ble_eq_true rfl)
  rw [lg_entry_eq]
  generalize (lg_sl ([.ref a_o, .int x1]) ++ List.replicate (4 - (lg_sl ([.ref a_o, .int x1])).length) Slot.unset).toArray = ls at hl ⊢
  have hl : lv_has ls 4 [(0, .ref a_o), (1, .int x1)] := hl
  have S : CallFix p m c cX7_ahead 4 s _ GW RX7 := ⟨hx, hb, hml, hown, hts⟩
  have L_4 : ∀ (n : Nat) (v2 : Int32) (v3 : Int32), b_X7_ahead_4 o_now x1 n v2 v3 = some r0 → ∀ (ls : Array Slot), lv_has ls 4 [(0, .ref a_o), (1, .int x1), (2, .int v2), (3, .int v3)] → W p l e (headSpec (mws yX7_ahead cX7_ahead 4 (some .int)) { frames := 0, cells := 0, slots := 0, locals := 0 }).room s m [.ref a_o, .int x1].toArray below meth c s.heap [] 0 0 (MQ below (roQ (some (.int r0))) [.ref a_o, .int x1].toArray s 0 0 noF) (F0 m 4 ls []) := by
    intro n
    induction n with
    | zero =>
      intro v2 v3 h
      exact nn_no h
    | succ n ih =>
      intro v2 v3 h ls hl
      rw [b_X7_ahead_4] at h
      refine lv_iload_n hx hb dX7_ahead_4 rfl (lv_at hl 3 rfl) ?_
      refine lv_iload_n hx hb dX7_ahead_5 rfl (lv_at hl 1 rfl) ?_
      refine lv_icmp_ge (tgt := 28) hx hb dX7_ahead_6 (by decide) (fun c1 => ?_) (fun c1 => ?_)
      · have h := it_t c1 h
        refine lv_iload_n hx hb dX7_ahead_28 rfl (lv_at hl 2 rfl) ?_
        exact W.iret hx hb hr (fun t ht _ => ⟨congrArg (fun z => Outcome.returned (some (Value.int z))) (Option.some.inj h), ht⟩) (fun q hq => by cases hq) dX7_ahead_29
      · have h := it_f c1 h
        refine lv_iload_n hx hb dX7_ahead_9 rfl (lv_at hl 2 rfl) ?_
        refine lv_iconst (v := (1 : Int32)) hx hb dX7_ahead_10 (by decide) ?_
        refine lv_aload_n hx hb dX7_ahead_11 rfl (lv_at hl 0 rfl) ?_
        refine gfX7_0 hx hb hts hown hK hP 0 rfl wfX7_7 dX7_ahead_12 ?_
        refine lv_iconst (v := (4 : Int32)) hx hb dX7_ahead_15 (by decide) ?_
        refine lv_iload_n hx hb dX7_ahead_16 rfl (lv_at hl 3 rfl) ?_
        refine lv_iadd hx hb dX7_ahead_17 ?_
        obtain ⟨hi3, h⟩ := rd_use h
        refine ia_ hx hb hK hP 1 rfl hi3 dX7_ahead_18 ?_
        refine lv_ishl hx hb dX7_ahead_19 ?_
        refine lv_ior hx hb dX7_ahead_20 ?_
        refine lv_topi (fun y4 ey4 => ?_)
        have h := nm_use h ey4
        refine lv_istore_n (lv' := [(2, .int y4), (0, .ref a_o), (1, .int x1), (3, .int v3)]) hx hb dX7_ahead_21 rfl hl (by decide) rfl (fun ls hl => ?_)
        obtain ⟨y5, ey5⟩ : ∃ z : Int32, z = v3 + (1 : Int32) := ⟨_, rfl⟩
        have h := nm_use h ey5
        refine lv_iinc (v := y5) (lv' := [(3, .int y5), (2, .int y4), (0, .ref a_o), (1, .int x1)]) hx hb dX7_ahead_22 hl (k := 3) rfl (by rw [ey5]; rfl) (by decide) rfl (fun ls hl => ?_)
        refine lv_goto (tgt := 4) hx hb dX7_ahead_25 (by decide) ?_
        exact ih _ _ h _ (lv_sub hl [2, 3, 1, 0] rfl)
  unfold f_X7_ahead at h
  refine lv_iconst (v := (0 : Int32)) hx hb dX7_ahead_0 (by decide) ?_
  refine lv_istore_n (lv' := [(2, .int (0 : Int32)), (0, .ref a_o), (1, .int x1)]) hx hb dX7_ahead_1 rfl hl (by decide) rfl (fun ls hl => ?_)
  refine lv_iconst (v := (0 : Int32)) hx hb dX7_ahead_2 (by decide) ?_
  refine lv_istore_n (lv' := [(3, .int (0 : Int32)), (2, .int (0 : Int32)), (0, .ref a_o), (1, .int x1)]) hx hb dX7_ahead_3 rfl hl (by decide) rfl (fun ls hl => ?_)
  exact L_4 _ _ _ h _ (lv_sub hl [2, 3, 1, 0] rfl)
def f_X7_in (x1 : Int32) (x2 : Int32) (x3 : Int32) : Option (Bool) := (if x1 < x2 then some (false) else (if x3 < x1 then some (false) else some (true)))
set_option maxHeartbeats 4000000 in
set_option maxRecDepth 100000 in
theorem c_X7_in (l : Launch) (D : va_G) (cI cS : ClassId) (x1 : Int32) (x2 : Int32) (x3 : Int32) (r0 : Bool) (h : f_X7_in x1 x2 x3 = some r0) : roM l D cI cS yX7_in cX7_in 3 (some .boolean) 0 0 [.int x1, .int x2, .int x3] [] (some (.int (b2i r0))) := by
  refine Met.ofW (cc := cX7_in) (maxL := 3) (ret := (some .boolean)) (by decide) rfl ?_
  intro p e s m args below meth c s₁ B hml hv
  obtain ⟨rfl, hP, hK⟩ := hv
  have hx := B.exec
  have hb := B.bytes
  have hr := B.returns
  have hts : ∀ w ∈ GW, w.before _ s = true := fun w hw => atoms_spec (ws := mws yX7_in cX7_in 3 (some .boolean)) B.pre w (List.mem_cons_of_mem _ hw)
  have hown : s.vm.findClass RX7 = some m.cls := findClass_of_methodNamed B.named
  have hlocks := B.notSynchronized
  have hl := lv_entry ([.int x1, .int x2, .int x3]) (n := 3) (Nat.le_of_ble_eq_true rfl)
  rw [lg_entry_eq]
  generalize (lg_sl ([.int x1, .int x2, .int x3]) ++ List.replicate (3 - (lg_sl ([.int x1, .int x2, .int x3])).length) Slot.unset).toArray = ls at hl ⊢
  have hl : lv_has ls 3 [(0, .int x1), (1, .int x2), (2, .int x3)] := hl
  have S : CallFix p m c cX7_in 3 s _ GW RX7 := ⟨hx, hb, hml, hown, hts⟩
  unfold f_X7_in at h
  refine lv_iload_n hx hb dX7_in_0 rfl (lv_at hl 0 rfl) ?_
  refine lv_iload_n hx hb dX7_in_1 rfl (lv_at hl 1 rfl) ?_
  refine lv_icmp_lt (tgt := 14) hx hb dX7_in_2 (by decide) (fun c1 => ?_) (fun c1 => ?_)
  · have h := it_t c1 h
    refine lv_iconst (v := (0 : Int32)) hx hb dX7_in_14 (by decide) ?_
    exact W.zret hx hb hr rfl (fun t ht _ => ⟨congrArg (fun z => Outcome.returned (some (Value.int (b2i z)))) (Option.some.inj h), ht⟩) (fun q hq => by cases hq) dX7_in_15
  · have h := it_f c1 h
    refine lv_iload_n hx hb dX7_in_5 rfl (lv_at hl 0 rfl) ?_
    refine lv_iload_n hx hb dX7_in_6 rfl (lv_at hl 2 rfl) ?_
    refine lv_icmp_gt (tgt := 14) hx hb dX7_in_7 (by decide) (fun c2 => ?_) (fun c2 => ?_)
    · have h := it_t c2 h
      refine lv_iconst (v := (0 : Int32)) hx hb dX7_in_14 (by decide) ?_
      exact W.zret hx hb hr rfl (fun t ht _ => ⟨congrArg (fun z => Outcome.returned (some (Value.int (b2i z)))) (Option.some.inj h), ht⟩) (fun q hq => by cases hq) dX7_in_15
    · have h := it_f c2 h
      refine lv_iconst (v := (1 : Int32)) hx hb dX7_in_10 (by decide) ?_
      refine lv_goto (tgt := 15) hx hb dX7_in_11 (by decide) ?_
      exact W.zret hx hb hr rfl (fun t ht _ => ⟨congrArg (fun z => Outcome.returned (some (Value.int (b2i z)))) (Option.some.inj h), ht⟩) (fun q hq => by cases hq) dX7_in_15
def f_X7_isTest (o_now : Ar) (x1 : Int32) : Option (Bool) := rd o_now 52 (0 : Int32) (fun rv1 => bd1 (f_X7_in x1 (0 : Int32) (rv1 - (1 : Int32))) (fun r3 => some (r3)))
set_option maxHeartbeats 4000000 in
set_option maxRecDepth 100000 in
theorem c_X7_isTest (l : Launch) (D : va_G) (cI cS : ClassId) (a_o : Nat) (a_o_now : Nat) (a_o_aside : Nat) (a_o_past : Nat) (a_o_refusals : Nat) (a_o_text : Nat) (a_o_tried : Nat) (a_o_shuffled : Nat) (a_o_letters : Nat) (a_o_numbers : Nat) (o_states : Int32) (o_bytes : Int32) (o_triedMany : Int32) (o_orders : Int32) (o_spot : Int32) (o_wrongAt : Int32) (o_hash : Int64) (o_now : Ar) (x1 : Int32) (r0 : Bool) (h : f_X7_isTest o_now x1 = some r0) : roM l D cI cS yX7_isTest cX7_isTest 2 (some .boolean) 1 22 [.ref a_o, .int x1] [(a_o, .inr (6, [.ref a_o_now, .ref a_o_aside, .ref a_o_past, .int (o_states), .ref a_o_refusals, .ref a_o_text, .int (o_bytes), .ref a_o_tried, .int (o_triedMany), .ref a_o_shuffled, .ref a_o_letters, .ref a_o_numbers, .int (o_orders), .int (o_spot), .int (o_wrongAt), .long (o_hash)])), (a_o_now, .inl (cI, 52, .inl (o_now)))] (some (.int (b2i r0))) := by
  refine Met.ofW (cc := cX7_isTest) (maxL := 2) (ret := (some .boolean)) (by decide) rfl ?_
  intro p e s m args below meth c s₁ B hml hv
  obtain ⟨rfl, hP, hK⟩ := hv
  have hx := B.exec
  have hb := B.bytes
  have hr := B.returns
  have hts : ∀ w ∈ GW, w.before _ s = true := fun w hw => atoms_spec (ws := mws yX7_isTest cX7_isTest 2 (some .boolean)) B.pre w (List.mem_cons_of_mem _ hw)
  have hown : s.vm.findClass RX7 = some m.cls := findClass_of_methodNamed B.named
  have hlocks := B.notSynchronized
  have hl := lv_entry ([.ref a_o, .int x1]) (n := 2) (Nat.le_of_ble_eq_true rfl)
  rw [lg_entry_eq]
  generalize (lg_sl ([.ref a_o, .int x1]) ++ List.replicate (2 - (lg_sl ([.ref a_o, .int x1])).length) Slot.unset).toArray = ls at hl ⊢
  have hl : lv_has ls 2 [(0, .ref a_o), (1, .int x1)] := hl
  have S : CallFix p m c cX7_isTest 2 s _ GW RX7 := ⟨hx, hb, hml, hown, hts⟩
  unfold f_X7_isTest at h
  refine lv_iload_n hx hb dX7_isTest_0 rfl (lv_at hl 1 rfl) ?_
  refine lv_iconst (v := (0 : Int32)) hx hb dX7_isTest_1 (by decide) ?_
  refine lv_aload_n hx hb dX7_isTest_2 rfl (lv_at hl 0 rfl) ?_
  refine gfX7_0 hx hb hts hown hK hP 0 rfl wfX7_7 dX7_isTest_3 ?_
  refine lv_iconst (v := (0 : Int32)) hx hb dX7_isTest_6 (by decide) ?_
  obtain ⟨hi2, h⟩ := rd_use h
  refine ia_ hx hb hK hP 1 rfl hi2 dX7_isTest_7 ?_
  refine lv_iconst (v := (1 : Int32)) hx hb dX7_isTest_8 (by decide) ?_
  refine lv_isub hx hb dX7_isTest_9 ?_
  obtain ⟨r3, hc4, h⟩ := bd1_use h
  refine ro_S (As := [.int x1, .int (0 : Int32), .int ((o_now (0 : Int32).toNatClampNeg) - (1 : Int32))]) (rest := []) S (c_X7_in l D cI cS x1 (0 : Int32) ((o_now (0 : Int32).toNatClampNeg) - (1 : Int32)) r3 hc4) (cwS1 hts csX7_in wmX7_48 rfl rfl ⟨(Nat.le_of_ble_eq_true rfl), (Nat.le_of_ble_eq_true rfl)⟩) hK hP [] rfl rfl hl.1 rfl (Nat.le_of_ble_eq_true rfl) dX7_isTest_10 ⟨Nat.zero_le _, Nat.zero_le _⟩ rfl ?_
  exact W.zret hx hb hr (b2i_nar _) (fun t ht _ => ⟨congrArg (fun z => Outcome.returned (some (Value.int (b2i z)))) (Option.some.inj h), ht⟩) (fun q hq => by cases hq) dX7_isTest_13
def f_X7_areTwo (o_now : Ar) (x1 : Int32) (x2 : Int32) : Option (Bool) := bd1 (f_X7_isTest o_now x1) (fun r1 => (if (b2i r1) = (0 : Int32) then some (false) else bd1 (f_X7_isTest o_now x2) (fun r4 => (if (b2i r4) = (0 : Int32) then some (false) else (if x1 = x2 then some (false) else some (true))))))
set_option maxHeartbeats 4000000 in
set_option maxRecDepth 100000 in
theorem c_X7_areTwo (l : Launch) (D : va_G) (cI cS : ClassId) (a_o : Nat) (a_o_now : Nat) (a_o_aside : Nat) (a_o_past : Nat) (a_o_refusals : Nat) (a_o_text : Nat) (a_o_tried : Nat) (a_o_shuffled : Nat) (a_o_letters : Nat) (a_o_numbers : Nat) (o_states : Int32) (o_bytes : Int32) (o_triedMany : Int32) (o_orders : Int32) (o_spot : Int32) (o_wrongAt : Int32) (o_hash : Int64) (o_now : Ar) (x1 : Int32) (x2 : Int32) (r0 : Bool) (h : f_X7_areTwo o_now x1 x2 = some r0) : roM l D cI cS yX7_areTwo cX7_areTwo 3 (some .boolean) 2 43 [.ref a_o, .int x1, .int x2] [(a_o, .inr (6, [.ref a_o_now, .ref a_o_aside, .ref a_o_past, .int (o_states), .ref a_o_refusals, .ref a_o_text, .int (o_bytes), .ref a_o_tried, .int (o_triedMany), .ref a_o_shuffled, .ref a_o_letters, .ref a_o_numbers, .int (o_orders), .int (o_spot), .int (o_wrongAt), .long (o_hash)])), (a_o_now, .inl (cI, 52, .inl (o_now)))] (some (.int (b2i r0))) := by
  refine Met.ofW (cc := cX7_areTwo) (maxL := 3) (ret := (some .boolean)) (by decide) rfl ?_
  intro p e s m args below meth c s₁ B hml hv
  obtain ⟨rfl, hP, hK⟩ := hv
  have hx := B.exec
  have hb := B.bytes
  have hr := B.returns
  have hts : ∀ w ∈ GW, w.before _ s = true := fun w hw => atoms_spec (ws := mws yX7_areTwo cX7_areTwo 3 (some .boolean)) B.pre w (List.mem_cons_of_mem _ hw)
  have hown : s.vm.findClass RX7 = some m.cls := findClass_of_methodNamed B.named
  have hlocks := B.notSynchronized
  have hl := lv_entry ([.ref a_o, .int x1, .int x2]) (n := 3) (Nat.le_of_ble_eq_true rfl)
  rw [lg_entry_eq]
  generalize (lg_sl ([.ref a_o, .int x1, .int x2]) ++ List.replicate (3 - (lg_sl ([.ref a_o, .int x1, .int x2])).length) Slot.unset).toArray = ls at hl ⊢
  have hl : lv_has ls 3 [(0, .ref a_o), (1, .int x1), (2, .int x2)] := hl
  have S : CallFix p m c cX7_areTwo 3 s _ GW RX7 := ⟨hx, hb, hml, hown, hts⟩
  unfold f_X7_areTwo at h
  refine lv_aload_n hx hb dX7_areTwo_0 rfl (lv_at hl 0 rfl) ?_
  refine lv_iload_n hx hb dX7_areTwo_1 rfl (lv_at hl 1 rfl) ?_
  obtain ⟨r1, hc2, h⟩ := bd1_use h
  refine ro_V (As := [.int x1]) (rest := []) S (c_X7_isTest l D cI cS a_o a_o_now a_o_aside a_o_past a_o_refusals a_o_text a_o_tried a_o_shuffled a_o_letters a_o_numbers o_states o_bytes o_triedMany o_orders o_spot o_wrongAt o_hash o_now x1 r1 hc2) (cwV1 hts cvX7_isTest wmX7_100 rfl rfl ⟨(Nat.le_of_ble_eq_true rfl), (Nat.le_of_ble_eq_true rfl)⟩) hK hP [0, 1] rfl 0 rfl rfl rfl rfl hl.1 rfl (Nat.le_of_ble_eq_true rfl) dX7_areTwo_2 ⟨Nat.zero_le _, Nat.zero_le _⟩ rfl ?_
  refine lv_if_eq (tgt := 25) hx hb dX7_areTwo_5 (by decide) (fun c3 => ?_) (fun c3 => ?_)
  · have h := it_t c3 h
    refine lv_iconst (v := (0 : Int32)) hx hb dX7_areTwo_25 (by decide) ?_
    exact W.zret hx hb hr rfl (fun t ht _ => ⟨congrArg (fun z => Outcome.returned (some (Value.int (b2i z)))) (Option.some.inj h), ht⟩) (fun q hq => by cases hq) dX7_areTwo_26
  · have h := it_f c3 h
    refine lv_aload_n hx hb dX7_areTwo_8 rfl (lv_at hl 0 rfl) ?_
    refine lv_iload_n hx hb dX7_areTwo_9 rfl (lv_at hl 2 rfl) ?_
    obtain ⟨r4, hc5, h⟩ := bd1_use h
    refine ro_V (As := [.int x2]) (rest := []) S (c_X7_isTest l D cI cS a_o a_o_now a_o_aside a_o_past a_o_refusals a_o_text a_o_tried a_o_shuffled a_o_letters a_o_numbers o_states o_bytes o_triedMany o_orders o_spot o_wrongAt o_hash o_now x2 r4 hc5) (cwV1 hts cvX7_isTest wmX7_100 rfl rfl ⟨(Nat.le_of_ble_eq_true rfl), (Nat.le_of_ble_eq_true rfl)⟩) hK hP [0, 1] rfl 0 rfl rfl rfl rfl hl.1 rfl (Nat.le_of_ble_eq_true rfl) dX7_areTwo_10 ⟨Nat.zero_le _, Nat.zero_le _⟩ rfl ?_
    refine lv_if_eq (tgt := 25) hx hb dX7_areTwo_13 (by decide) (fun c6 => ?_) (fun c6 => ?_)
    · have h := it_t c6 h
      refine lv_iconst (v := (0 : Int32)) hx hb dX7_areTwo_25 (by decide) ?_
      exact W.zret hx hb hr rfl (fun t ht _ => ⟨congrArg (fun z => Outcome.returned (some (Value.int (b2i z)))) (Option.some.inj h), ht⟩) (fun q hq => by cases hq) dX7_areTwo_26
    · have h := it_f c6 h
      refine lv_iload_n hx hb dX7_areTwo_16 rfl (lv_at hl 1 rfl) ?_
      refine lv_iload_n hx hb dX7_areTwo_17 rfl (lv_at hl 2 rfl) ?_
      refine lv_icmp_eq (tgt := 25) hx hb dX7_areTwo_18 (by decide) (fun c7 => ?_) (fun c7 => ?_)
      · have h := it_t c7 h
        refine lv_iconst (v := (0 : Int32)) hx hb dX7_areTwo_25 (by decide) ?_
        exact W.zret hx hb hr rfl (fun t ht _ => ⟨congrArg (fun z => Outcome.returned (some (Value.int (b2i z)))) (Option.some.inj h), ht⟩) (fun q hq => by cases hq) dX7_areTwo_26
      · have h := it_f c7 h
        refine lv_iconst (v := (1 : Int32)) hx hb dX7_areTwo_21 (by decide) ?_
        refine lv_goto (tgt := 26) hx hb dX7_areTwo_22 (by decide) ?_
        exact W.zret hx hb hr rfl (fun t ht _ => ⟨congrArg (fun z => Outcome.returned (some (Value.int (b2i z)))) (Option.some.inj h), ht⟩) (fun q hq => by cases hq) dX7_areTwo_26
def f_X7_refuses (o_refusals : Ar) (x1 : Int32) : Option (Int32 × Ar) := rd o_refusals 3 ((-2 : Int32) - x1) (fun rv1 => wr o_refusals 3 ((-2 : Int32) - x1) (rv1 + (1 : Int32)) (fun fv3 => some (x1, fv3)))
set_option maxHeartbeats 4000000 in
set_option maxRecDepth 100000 in
theorem c_X7_refuses (l : Launch) (D : va_G) (cI cS : ClassId) (a_o : Nat) (a_o_refusals : Nat) (a_o_now : Nat) (a_o_aside : Nat) (a_o_past : Nat) (a_o_text : Nat) (a_o_tried : Nat) (a_o_shuffled : Nat) (a_o_letters : Nat) (a_o_numbers : Nat) (o_states : Int32) (o_bytes : Int32) (o_triedMany : Int32) (o_orders : Int32) (o_spot : Int32) (o_wrongAt : Int32) (o_hash : Int64) (o_refusals : Ar) (x1 : Int32) (r0 : Int32) (o_refusals' : Ar) (h : f_X7_refuses o_refusals x1 = some (r0, o_refusals')) : wrM l D cI cS yX7_refuses cX7_refuses 2 (some .int) 0 0 [.ref a_o, .int x1] [(a_o, .inr (6, [.ref a_o_now, .ref a_o_aside, .ref a_o_past, .int (o_states), .ref a_o_refusals, .ref a_o_text, .int (o_bytes), .ref a_o_tried, .int (o_triedMany), .ref a_o_shuffled, .ref a_o_letters, .ref a_o_numbers, .int (o_orders), .int (o_spot), .int (o_wrongAt), .long (o_hash)])), (a_o_refusals, .inl (cI, 3, .inl (o_refusals)))] [(a_o, .inr (6, [.ref a_o_now, .ref a_o_aside, .ref a_o_past, .int (o_states), .ref a_o_refusals, .ref a_o_text, .int (o_bytes), .ref a_o_tried, .int (o_triedMany), .ref a_o_shuffled, .ref a_o_letters, .ref a_o_numbers, .int (o_orders), .int (o_spot), .int (o_wrongAt), .long (o_hash)])), (a_o_refusals, .inl (cI, 3, .inl (o_refusals')))] (some (.int r0)) := by
  refine Met.ofW (cc := cX7_refuses) (maxL := 2) (ret := (some .int)) (by decide) rfl ?_
  intro p e s m args below meth c s₁ B hml hv
  obtain ⟨rfl, hP, hK, hD0⟩ := hv
  have hx := B.exec
  have hb := B.bytes
  have hr := B.returns
  have hts : ∀ w ∈ GW, w.before _ s = true := fun w hw => atoms_spec (ws := mws yX7_refuses cX7_refuses 2 (some .int)) B.pre w (List.mem_cons_of_mem _ hw)
  have hown : s.vm.findClass RX7 = some m.cls := findClass_of_methodNamed B.named
  have hlocks := B.notSynchronized
  have hD := inW_self hD0
  generalize hAe : inW [(a_o, .inr (6, [.ref a_o_now, .ref a_o_aside, .ref a_o_past, .int (o_states), .ref a_o_refusals, .ref a_o_text, .int (o_bytes), .ref a_o_tried, .int (o_triedMany), .ref a_o_shuffled, .ref a_o_letters, .ref a_o_numbers, .int (o_orders), .int (o_spot), .int (o_wrongAt), .long (o_hash)])), (a_o_refusals, .inl (cI, 3, .inl (o_refusals)))] = A at hD ⊢
  have hS : va_S A s.heap s.heap [] := va_S.rf
  have hl := lv_entry ([.ref a_o, .int x1]) (n := 2) (Nat.le_of_ble_eq_true rfl)
  rw [lg_entry_eq]
  generalize (lg_sl ([.ref a_o, .int x1]) ++ List.replicate (2 - (lg_sl ([.ref a_o, .int x1])).length) Slot.unset).toArray = ls at hl ⊢
  have hl : lv_has ls 2 [(0, .ref a_o), (1, .int x1)] := hl
  have S : CallFix p m c cX7_refuses 2 s _ GW RX7 := ⟨hx, hb, hml, hown, hts⟩
  unfold f_X7_refuses at h
  refine lv_aload_n hx hb dX7_refuses_0 rfl (lv_at hl 0 rfl) ?_
  refine gfX7_4 hx hb hts hown hK hP 0 rfl wfX7_19 dX7_refuses_1 ?_
  refine lv_bipush (v := (-2 : Int32)) hx hb dX7_refuses_4 (by decide) ?_
  refine lv_iload_n hx hb dX7_refuses_6 rfl (lv_at hl 1 rfl) ?_
  refine lv_isub hx hb dX7_refuses_7 ?_
  refine lv_dup2_11 hx hb dX7_refuses_8 rfl rfl ?_
  obtain ⟨hi2, h⟩ := rd_use h
  refine ia_ hx hb hK hP 1 rfl hi2 dX7_refuses_9 ?_
  refine lv_iconst (v := (1 : Int32)) hx hb dX7_refuses_10 (by decide) ?_
  refine lv_iadd hx hb dX7_refuses_11 ?_
  obtain ⟨hi4, h⟩ := wr_use h
  refine is_ (ws' := [(a_o, .inr (6, [.ref a_o_now, .ref a_o_aside, .ref a_o_past, .int (o_states), .ref a_o_refusals, .ref a_o_text, .int (o_bytes), .ref a_o_tried, .int (o_triedMany), .ref a_o_shuffled, .ref a_o_letters, .ref a_o_numbers, .int (o_orders), .int (o_spot), .int (o_wrongAt), .long (o_hash)])), (a_o_refusals, .inl (cI, 3, .inl ((upd o_refusals ((-2 : Int32) - x1).toNatClampNeg ((o_refusals ((-2 : Int32) - x1).toNatClampNeg) + (1 : Int32))))))]) hx hb hK hP hD hS 1 rfl rfl hi4 dX7_refuses_12 (fun H locs hP hD hS => ?_)
  refine lv_iload_n hx hb dX7_refuses_13 rfl (lv_at hl 1 rfl) ?_
  cases h
  exact W.iret hx hb hr (fun t ht _ => ⟨rfl, by rw [ht]; exact hP, hS.F ht⟩) hS.2.2 dX7_refuses_14
def f_X7_at (o_now : Ar) (o_refusals : Ar) (x1 : Int32) : Option (Int32 × Ar) := (if (0 : Int32) ≤ x1 then rd o_now 52 (3 : Int32) (fun rv2 => (if rv2 ≤ x1 then some ((-1 : Int32), o_refusals) else rd o_now 52 ((4 : Int32) + x1) (fun rv5 => some (rv5, o_refusals)))) else bd2 (f_X7_refuses o_refusals (-2 : Int32)) (fun r7 w8 => some (r7, w8)))
set_option maxHeartbeats 4000000 in
set_option maxRecDepth 100000 in
theorem c_X7_at (l : Launch) (D : va_G) (cI cS : ClassId) (a_o : Nat) (a_o_now : Nat) (a_o_refusals : Nat) (a_o_aside : Nat) (a_o_past : Nat) (a_o_text : Nat) (a_o_tried : Nat) (a_o_shuffled : Nat) (a_o_letters : Nat) (a_o_numbers : Nat) (o_states : Int32) (o_bytes : Int32) (o_triedMany : Int32) (o_orders : Int32) (o_spot : Int32) (o_wrongAt : Int32) (o_hash : Int64) (o_now : Ar) (o_refusals : Ar) (x1 : Int32) (r0 : Int32) (o_refusals' : Ar) (h : f_X7_at o_now o_refusals x1 = some (r0, o_refusals')) : wrM l D cI cS yX7_at cX7_at 2 (some .int) 1 21 [.ref a_o, .int x1] [(a_o, .inr (6, [.ref a_o_now, .ref a_o_aside, .ref a_o_past, .int (o_states), .ref a_o_refusals, .ref a_o_text, .int (o_bytes), .ref a_o_tried, .int (o_triedMany), .ref a_o_shuffled, .ref a_o_letters, .ref a_o_numbers, .int (o_orders), .int (o_spot), .int (o_wrongAt), .long (o_hash)])), (a_o_now, .inl (cI, 52, .inl (o_now))), (a_o_refusals, .inl (cI, 3, .inl (o_refusals)))] [(a_o, .inr (6, [.ref a_o_now, .ref a_o_aside, .ref a_o_past, .int (o_states), .ref a_o_refusals, .ref a_o_text, .int (o_bytes), .ref a_o_tried, .int (o_triedMany), .ref a_o_shuffled, .ref a_o_letters, .ref a_o_numbers, .int (o_orders), .int (o_spot), .int (o_wrongAt), .long (o_hash)])), (a_o_now, .inl (cI, 52, .inl (o_now))), (a_o_refusals, .inl (cI, 3, .inl (o_refusals')))] (some (.int r0)) := by
  refine Met.ofW (cc := cX7_at) (maxL := 2) (ret := (some .int)) (by decide) rfl ?_
  intro p e s m args below meth c s₁ B hml hv
  obtain ⟨rfl, hP, hK, hD0⟩ := hv
  have hx := B.exec
  have hb := B.bytes
  have hr := B.returns
  have hts : ∀ w ∈ GW, w.before _ s = true := fun w hw => atoms_spec (ws := mws yX7_at cX7_at 2 (some .int)) B.pre w (List.mem_cons_of_mem _ hw)
  have hown : s.vm.findClass RX7 = some m.cls := findClass_of_methodNamed B.named
  have hlocks := B.notSynchronized
  have hD := inW_self hD0
  generalize hAe : inW [(a_o, .inr (6, [.ref a_o_now, .ref a_o_aside, .ref a_o_past, .int (o_states), .ref a_o_refusals, .ref a_o_text, .int (o_bytes), .ref a_o_tried, .int (o_triedMany), .ref a_o_shuffled, .ref a_o_letters, .ref a_o_numbers, .int (o_orders), .int (o_spot), .int (o_wrongAt), .long (o_hash)])), (a_o_now, .inl (cI, 52, .inl (o_now))), (a_o_refusals, .inl (cI, 3, .inl (o_refusals)))] = A at hD ⊢
  have hS : va_S A s.heap s.heap [] := va_S.rf
  have hl := lv_entry ([.ref a_o, .int x1]) (n := 2) (Nat.le_of_ble_eq_true rfl)
  rw [lg_entry_eq]
  generalize (lg_sl ([.ref a_o, .int x1]) ++ List.replicate (2 - (lg_sl ([.ref a_o, .int x1])).length) Slot.unset).toArray = ls at hl ⊢
  have hl : lv_has ls 2 [(0, .ref a_o), (1, .int x1)] := hl
  have S : CallFix p m c cX7_at 2 s _ GW RX7 := ⟨hx, hb, hml, hown, hts⟩
  unfold f_X7_at at h
  refine lv_iload_n hx hb dX7_at_0 rfl (lv_at hl 1 rfl) ?_
  refine lv_if_ge (tgt := 13) hx hb dX7_at_1 (by decide) (fun c1 => ?_) (fun c1 => ?_)
  · have h := it_t c1 h
    refine lv_iload_n hx hb dX7_at_13 rfl (lv_at hl 1 rfl) ?_
    refine lv_aload_n hx hb dX7_at_14 rfl (lv_at hl 0 rfl) ?_
    refine gfX7_0 hx hb hts hown hK hP 0 rfl wfX7_7 dX7_at_15 ?_
    refine lv_iconst (v := (3 : Int32)) hx hb dX7_at_18 (by decide) ?_
    obtain ⟨hi3, h⟩ := rd_use h
    refine ia_ hx hb hK hP 1 rfl hi3 dX7_at_19 ?_
    refine lv_icmp_ge (tgt := 34) hx hb dX7_at_20 (by decide) (fun c4 => ?_) (fun c4 => ?_)
    · have h := it_t c4 h
      refine lv_iconst (v := (-1 : Int32)) hx hb dX7_at_34 (by decide) ?_
      cases h
      exact W.iret hx hb hr (fun t ht _ => ⟨rfl, by rw [ht]; exact hP, hS.F ht⟩) hS.2.2 dX7_at_35
    · have h := it_f c4 h
      refine lv_aload_n hx hb dX7_at_23 rfl (lv_at hl 0 rfl) ?_
      refine gfX7_0 hx hb hts hown hK hP 0 rfl wfX7_7 dX7_at_24 ?_
      refine lv_iconst (v := (4 : Int32)) hx hb dX7_at_27 (by decide) ?_
      refine lv_iload_n hx hb dX7_at_28 rfl (lv_at hl 1 rfl) ?_
      refine lv_iadd hx hb dX7_at_29 ?_
      obtain ⟨hi6, h⟩ := rd_use h
      refine ia_ hx hb hK hP 1 rfl hi6 dX7_at_30 ?_
      refine lv_goto (tgt := 35) hx hb dX7_at_31 (by decide) ?_
      cases h
      exact W.iret hx hb hr (fun t ht _ => ⟨rfl, by rw [ht]; exact hP, hS.F ht⟩) hS.2.2 dX7_at_35
  · have h := it_f c1 h
    refine lv_aload_n hx hb dX7_at_4 rfl (lv_at hl 0 rfl) ?_
    refine lv_bipush (v := (-2 : Int32)) hx hb dX7_at_5 (by decide) ?_
    obtain ⟨r7, w8, hc9, h⟩ := bd2_use h
    refine wr_V (As := [.int (-2 : Int32)]) (rest := []) (ws' := [(a_o, .inr (6, [.ref a_o_now, .ref a_o_aside, .ref a_o_past, .int (o_states), .ref a_o_refusals, .ref a_o_text, .int (o_bytes), .ref a_o_tried, .int (o_triedMany), .ref a_o_shuffled, .ref a_o_letters, .ref a_o_numbers, .int (o_orders), .int (o_spot), .int (o_wrongAt), .long (o_hash)])), (a_o_now, .inl (cI, 52, .inl (o_now))), (a_o_refusals, .inl (cI, 3, .inl (w8)))]) S (c_X7_refuses l D cI cS a_o a_o_refusals a_o_now a_o_aside a_o_past a_o_text a_o_tried a_o_shuffled a_o_letters a_o_numbers o_states o_bytes o_triedMany o_orders o_spot o_wrongAt o_hash o_refusals (-2 : Int32) r7 w8 hc9) (cwV1 hts cvX7_refuses wmX7_41 rfl rfl ⟨(Nat.le_of_ble_eq_true rfl), (Nat.le_of_ble_eq_true rfl)⟩) hK hP hD hS [0, 2] rfl rfl [(true, 0), (false, 1), (true, 1)] rfl rfl rfl 0 rfl rfl rfl rfl hl.1 rfl (Nat.le_of_ble_eq_true rfl) dX7_at_7 ⟨Nat.zero_le _, Nat.zero_le _⟩ rfl (fun H locs hP hD hS => ?_)
    refine lv_goto (tgt := 35) hx hb dX7_at_10 (by decide) ?_
    cases h
    exact W.iret hx hb hr (fun t ht _ => ⟨rfl, by rw [ht]; exact hP, hS.F ht⟩) hS.2.2 dX7_at_35
def b_X7_back_26 (o_past : Ar) : Nat → Int32 → Int32 → Ar → Ar → Option (Int32 × Int32 × Ar × Ar)
  | 0, _, _, _, _ => none
  | n + 1, v1, o_states, o_now, o_refusals => (if (52 : Int32) ≤ v1 then some (o_states, o_states, o_now, o_refusals) else rd o_past 260 (((52 : Int32) * o_states) + v1) (fun rv2 => wr o_now 52 v1 rv2 (fun fv4 => nm (v1 + (1 : Int32)) (fun y6 => b_X7_back_26 o_past n y6 o_states fv4 o_refusals))))
def f_X7_back (o_states : Int32) (o_now : Ar) (o_past : Ar) (o_refusals : Ar) : Option (Int32 × Int32 × Ar × Ar) := (if o_states = (0 : Int32) then bd2 (f_X7_refuses o_refusals (-3 : Int32)) (fun r9 w10 => some (r9, o_states, o_now, w10)) else nm (o_states - (1 : Int32)) (fun y8 => b_X7_back_26 o_past FU (0 : Int32) y8 o_now o_refusals))
set_option maxHeartbeats 4000000 in
set_option maxRecDepth 100000 in
theorem c_X7_back (l : Launch) (D : va_G) (cI cS : ClassId) (a_o : Nat) (a_o_now : Nat) (a_o_past : Nat) (a_o_refusals : Nat) (a_o_aside : Nat) (a_o_text : Nat) (a_o_tried : Nat) (a_o_shuffled : Nat) (a_o_letters : Nat) (a_o_numbers : Nat) (o_states : Int32) (o_bytes : Int32) (o_triedMany : Int32) (o_orders : Int32) (o_spot : Int32) (o_wrongAt : Int32) (o_hash : Int64) (o_now : Ar) (o_past : Ar) (o_refusals : Ar) (r0 : Int32) (o_states' : Int32) (o_now' : Ar) (o_refusals' : Ar) (h : f_X7_back o_states o_now o_past o_refusals = some (r0, o_states', o_now', o_refusals')) : wrM l D cI cS yX7_back cX7_back 2 (some .int) 1 21 [.ref a_o] [(a_o, .inr (6, [.ref a_o_now, .ref a_o_aside, .ref a_o_past, .int (o_states), .ref a_o_refusals, .ref a_o_text, .int (o_bytes), .ref a_o_tried, .int (o_triedMany), .ref a_o_shuffled, .ref a_o_letters, .ref a_o_numbers, .int (o_orders), .int (o_spot), .int (o_wrongAt), .long (o_hash)])), (a_o_now, .inl (cI, 52, .inl (o_now))), (a_o_past, .inl (cI, 260, .inl (o_past))), (a_o_refusals, .inl (cI, 3, .inl (o_refusals)))] [(a_o, .inr (6, [.ref a_o_now, .ref a_o_aside, .ref a_o_past, .int (o_states'), .ref a_o_refusals, .ref a_o_text, .int (o_bytes), .ref a_o_tried, .int (o_triedMany), .ref a_o_shuffled, .ref a_o_letters, .ref a_o_numbers, .int (o_orders), .int (o_spot), .int (o_wrongAt), .long (o_hash)])), (a_o_now, .inl (cI, 52, .inl (o_now'))), (a_o_past, .inl (cI, 260, .inl (o_past))), (a_o_refusals, .inl (cI, 3, .inl (o_refusals')))] (some (.int r0)) := by
  refine Met.ofW (cc := cX7_back) (maxL := 2) (ret := (some .int)) (by decide) rfl ?_
  intro p e s m args below meth c s₁ B hml hv
  obtain ⟨rfl, hP, hK, hD0⟩ := hv
  have hx := B.exec
  have hb := B.bytes
  have hr := B.returns
  have hts : ∀ w ∈ GW, w.before _ s = true := fun w hw => atoms_spec (ws := mws yX7_back cX7_back 2 (some .int)) B.pre w (List.mem_cons_of_mem _ hw)
  have hown : s.vm.findClass RX7 = some m.cls := findClass_of_methodNamed B.named
  have hlocks := B.notSynchronized
  have hD := inW_self hD0
  generalize hAe : inW [(a_o, .inr (6, [.ref a_o_now, .ref a_o_aside, .ref a_o_past, .int (o_states), .ref a_o_refusals, .ref a_o_text, .int (o_bytes), .ref a_o_tried, .int (o_triedMany), .ref a_o_shuffled, .ref a_o_letters, .ref a_o_numbers, .int (o_orders), .int (o_spot), .int (o_wrongAt), .long (o_hash)])), (a_o_now, .inl (cI, 52, .inl (o_now))), (a_o_past, .inl (cI, 260, .inl (o_past))), (a_o_refusals, .inl (cI, 3, .inl (o_refusals)))] = A at hD ⊢
  have hS : va_S A s.heap s.heap [] := va_S.rf
  have hl := lv_entry ([.ref a_o]) (n := 2) (Nat.le_of_ble_eq_true rfl)
  rw [lg_entry_eq]
  generalize (lg_sl ([.ref a_o]) ++ List.replicate (2 - (lg_sl ([.ref a_o])).length) Slot.unset).toArray = ls at hl ⊢
  have hl : lv_has ls 2 [(0, .ref a_o)] := hl
  have S : CallFix p m c cX7_back 2 s _ GW RX7 := ⟨hx, hb, hml, hown, hts⟩
  have L_26 : ∀ (n : Nat) (v1 : Int32) (o_states : Int32) (o_now : Ar) (o_refusals : Ar), b_X7_back_26 o_past n v1 o_states o_now o_refusals = some (r0, o_states', o_now', o_refusals') → ∀ (H : Heap) (locs : List Loc), va_P D vwCl [(a_o, .inr (6, [.ref a_o_now, .ref a_o_aside, .ref a_o_past, .int (o_states), .ref a_o_refusals, .ref a_o_text, .int (o_bytes), .ref a_o_tried, .int (o_triedMany), .ref a_o_shuffled, .ref a_o_letters, .ref a_o_numbers, .int (o_orders), .int (o_spot), .int (o_wrongAt), .long (o_hash)])), (a_o_now, .inl (cI, 52, .inl (o_now))), (a_o_past, .inl (cI, 260, .inl (o_past))), (a_o_refusals, .inl (cI, 3, .inl (o_refusals)))] H → va_D A [(a_o, .inr (6, [.ref a_o_now, .ref a_o_aside, .ref a_o_past, .int (o_states), .ref a_o_refusals, .ref a_o_text, .int (o_bytes), .ref a_o_tried, .int (o_triedMany), .ref a_o_shuffled, .ref a_o_letters, .ref a_o_numbers, .int (o_orders), .int (o_spot), .int (o_wrongAt), .long (o_hash)])), (a_o_now, .inl (cI, 52, .inl (o_now))), (a_o_past, .inl (cI, 260, .inl (o_past))), (a_o_refusals, .inl (cI, 3, .inl (o_refusals)))] → va_S A s.heap H locs → ∀ (ls : Array Slot), lv_has ls 2 [(0, .ref a_o), (1, .int v1)] → W p l e (headSpec (mws yX7_back cX7_back 2 (some .int)) { frames := 1, cells := 0, slots := 0, locals := 21 }).room s m [.ref a_o].toArray below meth c H locs 0 0 (MQ below (wrQ D A [(a_o, .inr (6, [.ref a_o_now, .ref a_o_aside, .ref a_o_past, .int (o_states'), .ref a_o_refusals, .ref a_o_text, .int (o_bytes), .ref a_o_tried, .int (o_triedMany), .ref a_o_shuffled, .ref a_o_letters, .ref a_o_numbers, .int (o_orders), .int (o_spot), .int (o_wrongAt), .long (o_hash)])), (a_o_now, .inl (cI, 52, .inl (o_now'))), (a_o_past, .inl (cI, 260, .inl (o_past))), (a_o_refusals, .inl (cI, 3, .inl (o_refusals')))] (some (.int r0))) [.ref a_o].toArray s 0 0 A) (F0 m 26 ls []) := by
    intro n
    induction n with
    | zero =>
      intro v1 o_states o_now o_refusals h
      exact nn_no h
    | succ n ih =>
      intro v1 o_states o_now o_refusals h H locs hP hD hS ls hl
      rw [b_X7_back_26] at h
      refine lv_iload_n hx hb dX7_back_26 rfl (lv_at hl 1 rfl) ?_
      refine lv_bipush (v := (52 : Int32)) hx hb dX7_back_27 (by decide) ?_
      refine lv_icmp_ge (tgt := 58) hx hb dX7_back_29 (by decide) (fun c1 => ?_) (fun c1 => ?_)
      · have h := it_t c1 h
        refine lv_aload_n hx hb dX7_back_58 rfl (lv_at hl 0 rfl) ?_
        refine gfX7_3 hx hb hts hown hK hP 0 rfl wfX7_37 dX7_back_59 ?_
        cases h
        exact W.iret hx hb hr (fun t ht _ => ⟨rfl, by rw [ht]; exact hP, hS.F ht⟩) hS.2.2 dX7_back_62
      · have h := it_f c1 h
        refine lv_aload_n hx hb dX7_back_32 rfl (lv_at hl 0 rfl) ?_
        refine gfX7_0 hx hb hts hown hK hP 0 rfl wfX7_7 dX7_back_33 ?_
        refine lv_iload_n hx hb dX7_back_36 rfl (lv_at hl 1 rfl) ?_
        refine lv_aload_n hx hb dX7_back_37 rfl (lv_at hl 0 rfl) ?_
        refine gfX7_2 hx hb hts hown hK hP 0 rfl wfX7_16 dX7_back_38 ?_
        refine lv_bipush (v := (52 : Int32)) hx hb dX7_back_41 (by decide) ?_
        refine lv_aload_n hx hb dX7_back_43 rfl (lv_at hl 0 rfl) ?_
        refine gfX7_3 hx hb hts hown hK hP 0 rfl wfX7_37 dX7_back_44 ?_
        refine lv_imul hx hb dX7_back_47 ?_
        refine lv_iload_n hx hb dX7_back_48 rfl (lv_at hl 1 rfl) ?_
        refine lv_iadd hx hb dX7_back_49 ?_
        obtain ⟨hi3, h⟩ := rd_use h
        refine ia_ hx hb hK hP 2 rfl hi3 dX7_back_50 ?_
        obtain ⟨hi5, h⟩ := wr_use h
        refine is_ (ws' := [(a_o, .inr (6, [.ref a_o_now, .ref a_o_aside, .ref a_o_past, .int (o_states), .ref a_o_refusals, .ref a_o_text, .int (o_bytes), .ref a_o_tried, .int (o_triedMany), .ref a_o_shuffled, .ref a_o_letters, .ref a_o_numbers, .int (o_orders), .int (o_spot), .int (o_wrongAt), .long (o_hash)])), (a_o_now, .inl (cI, 52, .inl ((upd o_now v1.toNatClampNeg (o_past (((52 : Int32) * o_states) + v1).toNatClampNeg))))), (a_o_past, .inl (cI, 260, .inl (o_past))), (a_o_refusals, .inl (cI, 3, .inl (o_refusals)))]) hx hb hK hP hD hS 1 rfl rfl hi5 dX7_back_51 (fun H locs hP hD hS => ?_)
        obtain ⟨y6, ey6⟩ : ∃ z : Int32, z = v1 + (1 : Int32) := ⟨_, rfl⟩
        have h := nm_use h ey6
        refine lv_iinc (v := y6) (lv' := [(1, .int y6), (0, .ref a_o)]) hx hb dX7_back_52 hl (k := 1) rfl (by rw [ey6]; rfl) (by decide) rfl (fun ls hl => ?_)
        refine lv_goto (tgt := 26) hx hb dX7_back_55 (by decide) ?_
        exact ih _ _ _ _ h _ _ hP hD hS _ (lv_sub hl [1, 0] rfl)
  unfold f_X7_back at h
  refine lv_aload_n hx hb dX7_back_0 rfl (lv_at hl 0 rfl) ?_
  refine gfX7_3 hx hb hts hown hK hP 0 rfl wfX7_37 dX7_back_1 ?_
  refine lv_if_ne (tgt := 14) hx hb dX7_back_4 (by decide) (fun c7 => ?_) (fun c7 => ?_)
  · have h := it_f c7 h
    refine lv_aload_n hx hb dX7_back_14 rfl (lv_at hl 0 rfl) ?_
    refine lv_dup hx hb dX7_back_15 rfl ?_
    refine gfX7_3 hx hb hts hown hK hP 0 rfl wfX7_37 dX7_back_16 ?_
    refine lv_iconst (v := (1 : Int32)) hx hb dX7_back_19 (by decide) ?_
    refine lv_isub hx hb dX7_back_20 ?_
    refine lv_topi (fun y8 ey8 => ?_)
    have h := nm_use h ey8
    refine pfX7_3 (ws' := [(a_o, .inr (6, [.ref a_o_now, .ref a_o_aside, .ref a_o_past, .int (y8), .ref a_o_refusals, .ref a_o_text, .int (o_bytes), .ref a_o_tried, .int (o_triedMany), .ref a_o_shuffled, .ref a_o_letters, .ref a_o_numbers, .int (o_orders), .int (o_spot), .int (o_wrongAt), .long (o_hash)])), (a_o_now, .inl (cI, 52, .inl (o_now))), (a_o_past, .inl (cI, 260, .inl (o_past))), (a_o_refusals, .inl (cI, 3, .inl (o_refusals)))]) hx hb hts hown hK hP hD hS 0 rfl rfl wfX7_37 dX7_back_21 (fun H locs hP hD hS => ?_)
    refine lv_iconst (v := (0 : Int32)) hx hb dX7_back_24 (by decide) ?_
    refine lv_istore_n (lv' := [(1, .int (0 : Int32)), (0, .ref a_o)]) hx hb dX7_back_25 rfl hl (by decide) rfl (fun ls hl => ?_)
    exact L_26 _ _ _ _ _ h _ _ hP hD hS _ (lv_sub hl [1, 0] rfl)
  · have h := it_t c7 h
    refine lv_aload_n hx hb dX7_back_7 rfl (lv_at hl 0 rfl) ?_
    refine lv_bipush (v := (-3 : Int32)) hx hb dX7_back_8 (by decide) ?_
    obtain ⟨r9, w10, hc11, h⟩ := bd2_use h
    refine wr_V (As := [.int (-3 : Int32)]) (rest := []) (ws' := [(a_o, .inr (6, [.ref a_o_now, .ref a_o_aside, .ref a_o_past, .int (o_states), .ref a_o_refusals, .ref a_o_text, .int (o_bytes), .ref a_o_tried, .int (o_triedMany), .ref a_o_shuffled, .ref a_o_letters, .ref a_o_numbers, .int (o_orders), .int (o_spot), .int (o_wrongAt), .long (o_hash)])), (a_o_now, .inl (cI, 52, .inl (o_now))), (a_o_past, .inl (cI, 260, .inl (o_past))), (a_o_refusals, .inl (cI, 3, .inl (w10)))]) S (c_X7_refuses l D cI cS a_o a_o_refusals a_o_now a_o_aside a_o_past a_o_text a_o_tried a_o_shuffled a_o_letters a_o_numbers o_states o_bytes o_triedMany o_orders o_spot o_wrongAt o_hash o_refusals (-3 : Int32) r9 w10 hc11) (cwV1 hts cvX7_refuses wmX7_41 rfl rfl ⟨(Nat.le_of_ble_eq_true rfl), (Nat.le_of_ble_eq_true rfl)⟩) hK hP hD hS [0, 3] rfl rfl [(true, 0), (false, 1), (false, 2), (true, 1)] rfl rfl rfl 0 rfl rfl rfl rfl hl.1 rfl (Nat.le_of_ble_eq_true rfl) dX7_back_10 ⟨Nat.zero_le _, Nat.zero_le _⟩ rfl (fun H locs hP hD hS => ?_)
    cases h
    exact W.iret hx hb hr (fun t ht _ => ⟨rfl, by rw [ht]; exact hP, hS.F ht⟩) hS.2.2 dX7_back_13
def f_X7_ofTest (o_now : Ar) (x1 : Int32) (x2 : Int32) : Option (Int32) := rd o_now 52 (((12 : Int32) + ((5 : Int32) * x1)) + x2) (fun rv1 => some (rv1))
set_option maxHeartbeats 4000000 in
set_option maxRecDepth 100000 in
theorem c_X7_ofTest (l : Launch) (D : va_G) (cI cS : ClassId) (a_o : Nat) (a_o_now : Nat) (a_o_aside : Nat) (a_o_past : Nat) (a_o_refusals : Nat) (a_o_text : Nat) (a_o_tried : Nat) (a_o_shuffled : Nat) (a_o_letters : Nat) (a_o_numbers : Nat) (o_states : Int32) (o_bytes : Int32) (o_triedMany : Int32) (o_orders : Int32) (o_spot : Int32) (o_wrongAt : Int32) (o_hash : Int64) (o_now : Ar) (x1 : Int32) (x2 : Int32) (r0 : Int32) (h : f_X7_ofTest o_now x1 x2 = some r0) : roM l D cI cS yX7_ofTest cX7_ofTest 3 (some .int) 0 0 [.ref a_o, .int x1, .int x2] [(a_o, .inr (6, [.ref a_o_now, .ref a_o_aside, .ref a_o_past, .int (o_states), .ref a_o_refusals, .ref a_o_text, .int (o_bytes), .ref a_o_tried, .int (o_triedMany), .ref a_o_shuffled, .ref a_o_letters, .ref a_o_numbers, .int (o_orders), .int (o_spot), .int (o_wrongAt), .long (o_hash)])), (a_o_now, .inl (cI, 52, .inl (o_now)))] (some (.int r0)) := by
  refine Met.ofW (cc := cX7_ofTest) (maxL := 3) (ret := (some .int)) (by decide) rfl ?_
  intro p e s m args below meth c s₁ B hml hv
  obtain ⟨rfl, hP, hK⟩ := hv
  have hx := B.exec
  have hb := B.bytes
  have hr := B.returns
  have hts : ∀ w ∈ GW, w.before _ s = true := fun w hw => atoms_spec (ws := mws yX7_ofTest cX7_ofTest 3 (some .int)) B.pre w (List.mem_cons_of_mem _ hw)
  have hown : s.vm.findClass RX7 = some m.cls := findClass_of_methodNamed B.named
  have hlocks := B.notSynchronized
  have hl := lv_entry ([.ref a_o, .int x1, .int x2]) (n := 3) (Nat.le_of_ble_eq_true rfl)
  rw [lg_entry_eq]
  generalize (lg_sl ([.ref a_o, .int x1, .int x2]) ++ List.replicate (3 - (lg_sl ([.ref a_o, .int x1, .int x2])).length) Slot.unset).toArray = ls at hl ⊢
  have hl : lv_has ls 3 [(0, .ref a_o), (1, .int x1), (2, .int x2)] := hl
  have S : CallFix p m c cX7_ofTest 3 s _ GW RX7 := ⟨hx, hb, hml, hown, hts⟩
  unfold f_X7_ofTest at h
  refine lv_aload_n hx hb dX7_ofTest_0 rfl (lv_at hl 0 rfl) ?_
  refine gfX7_0 hx hb hts hown hK hP 0 rfl wfX7_7 dX7_ofTest_1 ?_
  refine lv_bipush (v := (12 : Int32)) hx hb dX7_ofTest_4 (by decide) ?_
  refine lv_iconst (v := (5 : Int32)) hx hb dX7_ofTest_6 (by decide) ?_
  refine lv_iload_n hx hb dX7_ofTest_7 rfl (lv_at hl 1 rfl) ?_
  refine lv_imul hx hb dX7_ofTest_8 ?_
  refine lv_iadd hx hb dX7_ofTest_9 ?_
  refine lv_iload_n hx hb dX7_ofTest_10 rfl (lv_at hl 2 rfl) ?_
  refine lv_iadd hx hb dX7_ofTest_11 ?_
  obtain ⟨hi2, h⟩ := rd_use h
  refine ia_ hx hb hK hP 1 rfl hi2 dX7_ofTest_12 ?_
  exact W.iret hx hb hr (fun t ht _ => ⟨congrArg (fun z => Outcome.returned (some (Value.int z))) (Option.some.inj h), ht⟩) (fun q hq => by cases hq) dX7_ofTest_13
def f_X7_passes (o_now : Ar) (x1 : Int32) (x2 : Int32) : Option (Bool) := bd1 (f_X7_ofTest o_now x1 (0 : Int32)) (fun r1 => (if (x2 &&& r1) = (0 : Int32) then bd1 (f_X7_ofTest o_now x1 (1 : Int32)) (fun r4 => (if ((x2 ^^^ (-1 : Int32)) &&& r4) = (0 : Int32) then some (true) else some (false))) else some (false)))
set_option maxHeartbeats 4000000 in
set_option maxRecDepth 100000 in
theorem c_X7_passes (l : Launch) (D : va_G) (cI cS : ClassId) (a_o : Nat) (a_o_now : Nat) (a_o_aside : Nat) (a_o_past : Nat) (a_o_refusals : Nat) (a_o_text : Nat) (a_o_tried : Nat) (a_o_shuffled : Nat) (a_o_letters : Nat) (a_o_numbers : Nat) (o_states : Int32) (o_bytes : Int32) (o_triedMany : Int32) (o_orders : Int32) (o_spot : Int32) (o_wrongAt : Int32) (o_hash : Int64) (o_now : Ar) (x1 : Int32) (x2 : Int32) (r0 : Bool) (h : f_X7_passes o_now x1 x2 = some r0) : roM l D cI cS yX7_passes cX7_passes 3 (some .boolean) 1 22 [.ref a_o, .int x1, .int x2] [(a_o, .inr (6, [.ref a_o_now, .ref a_o_aside, .ref a_o_past, .int (o_states), .ref a_o_refusals, .ref a_o_text, .int (o_bytes), .ref a_o_tried, .int (o_triedMany), .ref a_o_shuffled, .ref a_o_letters, .ref a_o_numbers, .int (o_orders), .int (o_spot), .int (o_wrongAt), .long (o_hash)])), (a_o_now, .inl (cI, 52, .inl (o_now)))] (some (.int (b2i r0))) := by
  refine Met.ofW (cc := cX7_passes) (maxL := 3) (ret := (some .boolean)) (by decide) rfl ?_
  intro p e s m args below meth c s₁ B hml hv
  obtain ⟨rfl, hP, hK⟩ := hv
  have hx := B.exec
  have hb := B.bytes
  have hr := B.returns
  have hts : ∀ w ∈ GW, w.before _ s = true := fun w hw => atoms_spec (ws := mws yX7_passes cX7_passes 3 (some .boolean)) B.pre w (List.mem_cons_of_mem _ hw)
  have hown : s.vm.findClass RX7 = some m.cls := findClass_of_methodNamed B.named
  have hlocks := B.notSynchronized
  have hl := lv_entry ([.ref a_o, .int x1, .int x2]) (n := 3) (Nat.le_of_ble_eq_true rfl)
  rw [lg_entry_eq]
  generalize (lg_sl ([.ref a_o, .int x1, .int x2]) ++ List.replicate (3 - (lg_sl ([.ref a_o, .int x1, .int x2])).length) Slot.unset).toArray = ls at hl ⊢
  have hl : lv_has ls 3 [(0, .ref a_o), (1, .int x1), (2, .int x2)] := hl
  have S : CallFix p m c cX7_passes 3 s _ GW RX7 := ⟨hx, hb, hml, hown, hts⟩
  unfold f_X7_passes at h
  refine lv_iload_n hx hb dX7_passes_0 rfl (lv_at hl 2 rfl) ?_
  refine lv_aload_n hx hb dX7_passes_1 rfl (lv_at hl 0 rfl) ?_
  refine lv_iload_n hx hb dX7_passes_2 rfl (lv_at hl 1 rfl) ?_
  refine lv_iconst (v := (0 : Int32)) hx hb dX7_passes_3 (by decide) ?_
  obtain ⟨r1, hc2, h⟩ := bd1_use h
  refine ro_V (As := [.int x1, .int (0 : Int32)]) (rest := [.int x2]) S (c_X7_ofTest l D cI cS a_o a_o_now a_o_aside a_o_past a_o_refusals a_o_text a_o_tried a_o_shuffled a_o_letters a_o_numbers o_states o_bytes o_triedMany o_orders o_spot o_wrongAt o_hash o_now x1 (0 : Int32) r1 hc2) (cwV1 hts cvX7_ofTest wmX7_52 rfl rfl ⟨(Nat.le_of_ble_eq_true rfl), (Nat.le_of_ble_eq_true rfl)⟩) hK hP [0, 1] rfl 0 rfl rfl rfl rfl hl.1 rfl (Nat.le_of_ble_eq_true rfl) dX7_passes_4 ⟨Nat.zero_le _, Nat.zero_le _⟩ rfl ?_
  refine lv_iand hx hb dX7_passes_7 ?_
  refine lv_if_ne (tgt := 28) hx hb dX7_passes_8 (by decide) (fun c3 => ?_) (fun c3 => ?_)
  · have h := it_f c3 h
    refine lv_iconst (v := (0 : Int32)) hx hb dX7_passes_28 (by decide) ?_
    exact W.zret hx hb hr rfl (fun t ht _ => ⟨congrArg (fun z => Outcome.returned (some (Value.int (b2i z)))) (Option.some.inj h), ht⟩) (fun q hq => by cases hq) dX7_passes_29
  · have h := it_t c3 h
    refine lv_iload_n hx hb dX7_passes_11 rfl (lv_at hl 2 rfl) ?_
    refine lv_iconst (v := (-1 : Int32)) hx hb dX7_passes_12 (by decide) ?_
    refine lv_ixor hx hb dX7_passes_13 ?_
    refine lv_aload_n hx hb dX7_passes_14 rfl (lv_at hl 0 rfl) ?_
    refine lv_iload_n hx hb dX7_passes_15 rfl (lv_at hl 1 rfl) ?_
    refine lv_iconst (v := (1 : Int32)) hx hb dX7_passes_16 (by decide) ?_
    obtain ⟨r4, hc5, h⟩ := bd1_use h
    refine ro_V (As := [.int x1, .int (1 : Int32)]) (rest := [.int (x2 ^^^ (-1 : Int32))]) S (c_X7_ofTest l D cI cS a_o a_o_now a_o_aside a_o_past a_o_refusals a_o_text a_o_tried a_o_shuffled a_o_letters a_o_numbers o_states o_bytes o_triedMany o_orders o_spot o_wrongAt o_hash o_now x1 (1 : Int32) r4 hc5) (cwV1 hts cvX7_ofTest wmX7_52 rfl rfl ⟨(Nat.le_of_ble_eq_true rfl), (Nat.le_of_ble_eq_true rfl)⟩) hK hP [0, 1] rfl 0 rfl rfl rfl rfl hl.1 rfl (Nat.le_of_ble_eq_true rfl) dX7_passes_17 ⟨Nat.zero_le _, Nat.zero_le _⟩ rfl ?_
    refine lv_iand hx hb dX7_passes_20 ?_
    refine lv_if_ne (tgt := 28) hx hb dX7_passes_21 (by decide) (fun c6 => ?_) (fun c6 => ?_)
    · have h := it_f c6 h
      refine lv_iconst (v := (0 : Int32)) hx hb dX7_passes_28 (by decide) ?_
      exact W.zret hx hb hr rfl (fun t ht _ => ⟨congrArg (fun z => Outcome.returned (some (Value.int (b2i z)))) (Option.some.inj h), ht⟩) (fun q hq => by cases hq) dX7_passes_29
    · have h := it_t c6 h
      refine lv_iconst (v := (1 : Int32)) hx hb dX7_passes_24 (by decide) ?_
      refine lv_goto (tgt := 29) hx hb dX7_passes_25 (by decide) ?_
      exact W.zret hx hb hr rfl (fun t ht _ => ⟨congrArg (fun z => Outcome.returned (some (Value.int (b2i z)))) (Option.some.inj h), ht⟩) (fun q hq => by cases hq) dX7_passes_29
def b_X7_behind_24 (o_now : Ar) (x1 : Int32) (x2 : Int32) (s0 : Int32) : Option (Int32) := (if s0 = (0 : Int32) then some (x2) else bd1 (f_X7_ofTest o_now x1 (2 : Int32)) (fun r2 => bd1 (f_X7_ofTest o_now x1 (3 : Int32)) (fun r4 => bd1 (f_X7_ofTest o_now x1 (4 : Int32)) (fun r6 => some ((((x2 &&& (r2 ^^^ (-1 : Int32))) ||| r4) ^^^ r6))))))
def f_X7_behind (o_now : Ar) (x1 : Int32) (x2 : Int32) : Option (Int32) := rd o_now 52 (2 : Int32) (fun rv8 => (if rv8 = (1 : Int32) then b_X7_behind_24 o_now x1 x2 (1 : Int32) else bd1 (f_X7_passes o_now x1 x2) (fun r11 => (if (b2i r11) = (0 : Int32) then b_X7_behind_24 o_now x1 x2 (0 : Int32) else b_X7_behind_24 o_now x1 x2 (1 : Int32)))))
set_option maxHeartbeats 4000000 in
set_option maxRecDepth 100000 in
theorem c_X7_behind (l : Launch) (D : va_G) (cI cS : ClassId) (a_o : Nat) (a_o_now : Nat) (a_o_aside : Nat) (a_o_past : Nat) (a_o_refusals : Nat) (a_o_text : Nat) (a_o_tried : Nat) (a_o_shuffled : Nat) (a_o_letters : Nat) (a_o_numbers : Nat) (o_states : Int32) (o_bytes : Int32) (o_triedMany : Int32) (o_orders : Int32) (o_spot : Int32) (o_wrongAt : Int32) (o_hash : Int64) (o_now : Ar) (x1 : Int32) (x2 : Int32) (r0 : Int32) (h : f_X7_behind o_now x1 x2 = some r0) : roM l D cI cS yX7_behind cX7_behind 4 (some .int) 2 44 [.ref a_o, .int x1, .int x2] [(a_o, .inr (6, [.ref a_o_now, .ref a_o_aside, .ref a_o_past, .int (o_states), .ref a_o_refusals, .ref a_o_text, .int (o_bytes), .ref a_o_tried, .int (o_triedMany), .ref a_o_shuffled, .ref a_o_letters, .ref a_o_numbers, .int (o_orders), .int (o_spot), .int (o_wrongAt), .long (o_hash)])), (a_o_now, .inl (cI, 52, .inl (o_now)))] (some (.int r0)) := by
  refine Met.ofW (cc := cX7_behind) (maxL := 4) (ret := (some .int)) (by decide) rfl ?_
  intro p e s m args below meth c s₁ B hml hv
  obtain ⟨rfl, hP, hK⟩ := hv
  have hx := B.exec
  have hb := B.bytes
  have hr := B.returns
  have hts : ∀ w ∈ GW, w.before _ s = true := fun w hw => atoms_spec (ws := mws yX7_behind cX7_behind 4 (some .int)) B.pre w (List.mem_cons_of_mem _ hw)
  have hown : s.vm.findClass RX7 = some m.cls := findClass_of_methodNamed B.named
  have hlocks := B.notSynchronized
  have hl := lv_entry ([.ref a_o, .int x1, .int x2]) (n := 4) (Nat.le_of_ble_eq_true rfl)
  rw [lg_entry_eq]
  generalize (lg_sl ([.ref a_o, .int x1, .int x2]) ++ List.replicate (4 - (lg_sl ([.ref a_o, .int x1, .int x2])).length) Slot.unset).toArray = ls at hl ⊢
  have hl : lv_has ls 4 [(0, .ref a_o), (1, .int x1), (2, .int x2)] := hl
  have S : CallFix p m c cX7_behind 4 s _ GW RX7 := ⟨hx, hb, hml, hown, hts⟩
  have L_24 : ∀ (s0 : Int32), b_X7_behind_24 o_now x1 x2 s0 = some r0 → ∀ (ls : Array Slot), lv_has ls 4 [(0, .ref a_o), (1, .int x1), (2, .int x2)] → W p l e (headSpec (mws yX7_behind cX7_behind 4 (some .int)) { frames := 2, cells := 0, slots := 0, locals := 44 }).room s m [.ref a_o, .int x1, .int x2].toArray below meth c s.heap [] 0 0 (MQ below (roQ (some (.int r0))) [.ref a_o, .int x1, .int x2].toArray s 0 0 noF) (F0 m 24 ls [.int s0]) := by
    intro s0 h ls hl
    unfold b_X7_behind_24 at h
    refine lv_istore_n (lv' := [(3, .int s0), (0, .ref a_o), (1, .int x1), (2, .int x2)]) hx hb dX7_behind_24 rfl hl (by decide) rfl (fun ls hl => ?_)
    refine lv_iload_n hx hb dX7_behind_25 rfl (lv_at hl 0 rfl) ?_
    refine lv_if_eq (tgt := 56) hx hb dX7_behind_26 (by decide) (fun c1 => ?_) (fun c1 => ?_)
    · have h := it_t c1 h
      refine lv_iload_n hx hb dX7_behind_56 rfl (lv_at hl 3 rfl) ?_
      exact W.iret hx hb hr (fun t ht _ => ⟨congrArg (fun z => Outcome.returned (some (Value.int z))) (Option.some.inj h), ht⟩) (fun q hq => by cases hq) dX7_behind_57
    · have h := it_f c1 h
      refine lv_iload_n hx hb dX7_behind_29 rfl (lv_at hl 3 rfl) ?_
      refine lv_aload_n hx hb dX7_behind_30 rfl (lv_at hl 1 rfl) ?_
      refine lv_iload_n hx hb dX7_behind_31 rfl (lv_at hl 2 rfl) ?_
      refine lv_iconst (v := (2 : Int32)) hx hb dX7_behind_32 (by decide) ?_
      obtain ⟨r2, hc3, h⟩ := bd1_use h
      refine ro_V (As := [.int x1, .int (2 : Int32)]) (rest := [.int x2]) S (c_X7_ofTest l D cI cS a_o a_o_now a_o_aside a_o_past a_o_refusals a_o_text a_o_tried a_o_shuffled a_o_letters a_o_numbers o_states o_bytes o_triedMany o_orders o_spot o_wrongAt o_hash o_now x1 (2 : Int32) r2 hc3) (cwV1 hts cvX7_ofTest wmX7_52 rfl rfl ⟨(Nat.le_of_ble_eq_true rfl), (Nat.le_of_ble_eq_true rfl)⟩) hK hP [0, 1] rfl 0 rfl rfl rfl rfl hl.1 rfl (Nat.le_of_ble_eq_true rfl) dX7_behind_33 ⟨Nat.zero_le _, Nat.zero_le _⟩ rfl ?_
      refine lv_iconst (v := (-1 : Int32)) hx hb dX7_behind_36 (by decide) ?_
      refine lv_ixor hx hb dX7_behind_37 ?_
      refine lv_iand hx hb dX7_behind_38 ?_
      refine lv_aload_n hx hb dX7_behind_39 rfl (lv_at hl 1 rfl) ?_
      refine lv_iload_n hx hb dX7_behind_40 rfl (lv_at hl 2 rfl) ?_
      refine lv_iconst (v := (3 : Int32)) hx hb dX7_behind_41 (by decide) ?_
      obtain ⟨r4, hc5, h⟩ := bd1_use h
      refine ro_V (As := [.int x1, .int (3 : Int32)]) (rest := [.int (x2 &&& (r2 ^^^ (-1 : Int32)))]) S (c_X7_ofTest l D cI cS a_o a_o_now a_o_aside a_o_past a_o_refusals a_o_text a_o_tried a_o_shuffled a_o_letters a_o_numbers o_states o_bytes o_triedMany o_orders o_spot o_wrongAt o_hash o_now x1 (3 : Int32) r4 hc5) (cwV1 hts cvX7_ofTest wmX7_52 rfl rfl ⟨(Nat.le_of_ble_eq_true rfl), (Nat.le_of_ble_eq_true rfl)⟩) hK hP [0, 1] rfl 0 rfl rfl rfl rfl hl.1 rfl (Nat.le_of_ble_eq_true rfl) dX7_behind_42 ⟨Nat.zero_le _, Nat.zero_le _⟩ rfl ?_
      refine lv_ior hx hb dX7_behind_45 ?_
      refine lv_aload_n hx hb dX7_behind_46 rfl (lv_at hl 1 rfl) ?_
      refine lv_iload_n hx hb dX7_behind_47 rfl (lv_at hl 2 rfl) ?_
      refine lv_iconst (v := (4 : Int32)) hx hb dX7_behind_48 (by decide) ?_
      obtain ⟨r6, hc7, h⟩ := bd1_use h
      refine ro_V (As := [.int x1, .int (4 : Int32)]) (rest := [.int ((x2 &&& (r2 ^^^ (-1 : Int32))) ||| r4)]) S (c_X7_ofTest l D cI cS a_o a_o_now a_o_aside a_o_past a_o_refusals a_o_text a_o_tried a_o_shuffled a_o_letters a_o_numbers o_states o_bytes o_triedMany o_orders o_spot o_wrongAt o_hash o_now x1 (4 : Int32) r6 hc7) (cwV1 hts cvX7_ofTest wmX7_52 rfl rfl ⟨(Nat.le_of_ble_eq_true rfl), (Nat.le_of_ble_eq_true rfl)⟩) hK hP [0, 1] rfl 0 rfl rfl rfl rfl hl.1 rfl (Nat.le_of_ble_eq_true rfl) dX7_behind_49 ⟨Nat.zero_le _, Nat.zero_le _⟩ rfl ?_
      refine lv_ixor hx hb dX7_behind_52 ?_
      refine lv_goto (tgt := 57) hx hb dX7_behind_53 (by decide) ?_
      exact W.iret hx hb hr (fun t ht _ => ⟨congrArg (fun z => Outcome.returned (some (Value.int z))) (Option.some.inj h), ht⟩) (fun q hq => by cases hq) dX7_behind_57
  unfold f_X7_behind at h
  refine lv_aload_n hx hb dX7_behind_0 rfl (lv_at hl 0 rfl) ?_
  refine gfX7_0 hx hb hts hown hK hP 0 rfl wfX7_7 dX7_behind_1 ?_
  refine lv_iconst (v := (2 : Int32)) hx hb dX7_behind_4 (by decide) ?_
  obtain ⟨hi9, h⟩ := rd_use h
  refine ia_ hx hb hK hP 1 rfl hi9 dX7_behind_5 ?_
  refine lv_iconst (v := (1 : Int32)) hx hb dX7_behind_6 (by decide) ?_
  refine lv_icmp_eq (tgt := 19) hx hb dX7_behind_7 (by decide) (fun c10 => ?_) (fun c10 => ?_)
  · have h := it_t c10 h
    refine lv_iconst (v := (1 : Int32)) hx hb dX7_behind_19 (by decide) ?_
    refine lv_goto (tgt := 24) hx hb dX7_behind_20 (by decide) ?_
    exact L_24 _ h _ (lv_sub hl [0, 1, 2] rfl)
  · have h := it_f c10 h
    refine lv_aload_n hx hb dX7_behind_10 rfl (lv_at hl 0 rfl) ?_
    refine lv_iload_n hx hb dX7_behind_11 rfl (lv_at hl 1 rfl) ?_
    refine lv_iload_n hx hb dX7_behind_12 rfl (lv_at hl 2 rfl) ?_
    obtain ⟨r11, hc12, h⟩ := bd1_use h
    refine ro_V (As := [.int x1, .int x2]) (rest := []) S (c_X7_passes l D cI cS a_o a_o_now a_o_aside a_o_past a_o_refusals a_o_text a_o_tried a_o_shuffled a_o_letters a_o_numbers o_states o_bytes o_triedMany o_orders o_spot o_wrongAt o_hash o_now x1 x2 r11 hc12) (cwV1 hts cvX7_passes wmX7_56 rfl rfl ⟨(Nat.le_of_ble_eq_true rfl), (Nat.le_of_ble_eq_true rfl)⟩) hK hP [0, 1] rfl 0 rfl rfl rfl rfl hl.1 rfl (Nat.le_of_ble_eq_true rfl) dX7_behind_13 ⟨Nat.zero_le _, Nat.zero_le _⟩ rfl ?_
    refine lv_if_eq (tgt := 23) hx hb dX7_behind_16 (by decide) (fun c13 => ?_) (fun c13 => ?_)
    · have h := it_t c13 h
      refine lv_iconst (v := (0 : Int32)) hx hb dX7_behind_23 (by decide) ?_
      exact L_24 _ h _ (lv_sub hl [0, 1, 2] rfl)
    · have h := it_f c13 h
      refine lv_iconst (v := (1 : Int32)) hx hb dX7_behind_19 (by decide) ?_
      refine lv_goto (tgt := 24) hx hb dX7_behind_20 (by decide) ?_
      exact L_24 _ h _ (lv_sub hl [0, 1, 2] rfl)
def b_X7_behindTried_9 (o_triedMany : Int32) (o_now : Ar) (o_tried : Ar) : Nat → Int32 → Int32 → Option (Int32)
  | 0, _, _ => none
  | n + 1, v1, v2 => (if o_triedMany ≤ v2 then some (v1) else rd o_tried 9 v2 (fun rv2 => bd1 (f_X7_behind o_now rv2 v1) (fun r4 => nm (v2 + (1 : Int32)) (fun y6 => b_X7_behindTried_9 o_triedMany o_now o_tried n r4 y6))))
def f_X7_behindTried (o_triedMany : Int32) (o_now : Ar) (o_tried : Ar) : Option (Int32) := rd o_now 52 (1 : Int32) (fun rv7 => b_X7_behindTried_9 o_triedMany o_now o_tried FU rv7 (0 : Int32))
set_option maxHeartbeats 4000000 in
set_option maxRecDepth 100000 in
theorem c_X7_behindTried (l : Launch) (D : va_G) (cI cS : ClassId) (a_o : Nat) (a_o_now : Nat) (a_o_tried : Nat) (a_o_aside : Nat) (a_o_past : Nat) (a_o_refusals : Nat) (a_o_text : Nat) (a_o_shuffled : Nat) (a_o_letters : Nat) (a_o_numbers : Nat) (o_states : Int32) (o_bytes : Int32) (o_triedMany : Int32) (o_orders : Int32) (o_spot : Int32) (o_wrongAt : Int32) (o_hash : Int64) (o_now : Ar) (o_tried : Ar) (r0 : Int32) (h : f_X7_behindTried o_triedMany o_now o_tried = some r0) : roM l D cI cS yX7_behindTried cX7_behindTried 3 (some .int) 3 67 [.ref a_o] [(a_o, .inr (6, [.ref a_o_now, .ref a_o_aside, .ref a_o_past, .int (o_states), .ref a_o_refusals, .ref a_o_text, .int (o_bytes), .ref a_o_tried, .int (o_triedMany), .ref a_o_shuffled, .ref a_o_letters, .ref a_o_numbers, .int (o_orders), .int (o_spot), .int (o_wrongAt), .long (o_hash)])), (a_o_now, .inl (cI, 52, .inl (o_now))), (a_o_tried, .inl (cI, 9, .inl (o_tried)))] (some (.int r0)) := by
  refine Met.ofW (cc := cX7_behindTried) (maxL := 3) (ret := (some .int)) (by decide) rfl ?_
  intro p e s m args below meth c s₁ B hml hv
  obtain ⟨rfl, hP, hK⟩ := hv
  have hx := B.exec
  have hb := B.bytes
  have hr := B.returns
  have hts : ∀ w ∈ GW, w.before _ s = true := fun w hw => atoms_spec (ws := mws yX7_behindTried cX7_behindTried 3 (some .int)) B.pre w (List.mem_cons_of_mem _ hw)
  have hown : s.vm.findClass RX7 = some m.cls := findClass_of_methodNamed B.named
  have hlocks := B.notSynchronized
  have hl := lv_entry ([.ref a_o]) (n := 3) (Nat.le_of_ble_eq_true rfl)
  rw [lg_entry_eq]
  generalize (lg_sl ([.ref a_o]) ++ List.replicate (3 - (lg_sl ([.ref a_o])).length) Slot.unset).toArray = ls at hl ⊢
  have hl : lv_has ls 3 [(0, .ref a_o)] := hl
  have S : CallFix p m c cX7_behindTried 3 s _ GW RX7 := ⟨hx, hb, hml, hown, hts⟩
  have L_9 : ∀ (n : Nat) (v1 : Int32) (v2 : Int32), b_X7_behindTried_9 o_triedMany o_now o_tried n v1 v2 = some r0 → ∀ (ls : Array Slot), lv_has ls 3 [(0, .ref a_o), (1, .int v1), (2, .int v2)] → W p l e (headSpec (mws yX7_behindTried cX7_behindTried 3 (some .int)) { frames := 3, cells := 0, slots := 0, locals := 67 }).room s m [.ref a_o].toArray below meth c s.heap [] 0 0 (MQ below (roQ (some (.int r0))) [.ref a_o].toArray s 0 0 noF) (F0 m 9 ls []) := by
    intro n
    induction n with
    | zero =>
      intro v1 v2 h
      exact nn_no h
    | succ n ih =>
      intro v1 v2 h ls hl
      rw [b_X7_behindTried_9] at h
      refine lv_iload_n hx hb dX7_behindTried_9 rfl (lv_at hl 2 rfl) ?_
      refine lv_aload_n hx hb dX7_behindTried_10 rfl (lv_at hl 0 rfl) ?_
      refine gfX7_8 hx hb hts hown hK hP 0 rfl wfX7_60 dX7_behindTried_11 ?_
      refine lv_icmp_ge (tgt := 35) hx hb dX7_behindTried_14 (by decide) (fun c1 => ?_) (fun c1 => ?_)
      · have h := it_t c1 h
        refine lv_iload_n hx hb dX7_behindTried_35 rfl (lv_at hl 1 rfl) ?_
        exact W.iret hx hb hr (fun t ht _ => ⟨congrArg (fun z => Outcome.returned (some (Value.int z))) (Option.some.inj h), ht⟩) (fun q hq => by cases hq) dX7_behindTried_36
      · have h := it_f c1 h
        refine lv_aload_n hx hb dX7_behindTried_17 rfl (lv_at hl 0 rfl) ?_
        refine lv_aload_n hx hb dX7_behindTried_18 rfl (lv_at hl 0 rfl) ?_
        refine gfX7_7 hx hb hts hown hK hP 0 rfl wfX7_25 dX7_behindTried_19 ?_
        refine lv_iload_n hx hb dX7_behindTried_22 rfl (lv_at hl 2 rfl) ?_
        obtain ⟨hi3, h⟩ := rd_use h
        refine ia_ hx hb hK hP 2 rfl hi3 dX7_behindTried_23 ?_
        refine lv_iload_n hx hb dX7_behindTried_24 rfl (lv_at hl 1 rfl) ?_
        obtain ⟨r4, hc5, h⟩ := bd1_use h
        refine ro_V (As := [.int (o_tried v2.toNatClampNeg), .int v1]) (rest := []) S (c_X7_behind l D cI cS a_o a_o_now a_o_aside a_o_past a_o_refusals a_o_text a_o_tried a_o_shuffled a_o_letters a_o_numbers o_states o_bytes o_triedMany o_orders o_spot o_wrongAt o_hash o_now (o_tried v2.toNatClampNeg) v1 r4 hc5) (cwV1 hts cvX7_behind wmX7_63 rfl rfl ⟨(Nat.le_of_ble_eq_true rfl), (Nat.le_of_ble_eq_true rfl)⟩) hK hP [0, 1] rfl 0 rfl rfl rfl rfl hl.1 rfl (Nat.le_of_ble_eq_true rfl) dX7_behindTried_25 ⟨Nat.zero_le _, Nat.zero_le _⟩ rfl ?_
        refine lv_istore_n (lv' := [(1, .int r4), (0, .ref a_o), (2, .int v2)]) hx hb dX7_behindTried_28 rfl hl (by decide) rfl (fun ls hl => ?_)
        obtain ⟨y6, ey6⟩ : ∃ z : Int32, z = v2 + (1 : Int32) := ⟨_, rfl⟩
        have h := nm_use h ey6
        refine lv_iinc (v := y6) (lv' := [(2, .int y6), (1, .int r4), (0, .ref a_o)]) hx hb dX7_behindTried_29 hl (k := 2) rfl (by rw [ey6]; rfl) (by decide) rfl (fun ls hl => ?_)
        refine lv_goto (tgt := 9) hx hb dX7_behindTried_32 (by decide) ?_
        exact ih _ _ h _ (lv_sub hl [2, 1, 0] rfl)
  unfold f_X7_behindTried at h
  refine lv_aload_n hx hb dX7_behindTried_0 rfl (lv_at hl 0 rfl) ?_
  refine gfX7_0 hx hb hts hown hK hP 0 rfl wfX7_7 dX7_behindTried_1 ?_
  refine lv_iconst (v := (1 : Int32)) hx hb dX7_behindTried_4 (by decide) ?_
  obtain ⟨hi8, h⟩ := rd_use h
  refine ia_ hx hb hK hP 1 rfl hi8 dX7_behindTried_5 ?_
  refine lv_istore_n (lv' := [(1, .int (o_now (1 : Int32).toNatClampNeg)), (0, .ref a_o)]) hx hb dX7_behindTried_6 rfl hl (by decide) rfl (fun ls hl => ?_)
  refine lv_iconst (v := (0 : Int32)) hx hb dX7_behindTried_7 (by decide) ?_
  refine lv_istore_n (lv' := [(2, .int (0 : Int32)), (1, .int (o_now (1 : Int32).toNatClampNeg)), (0, .ref a_o)]) hx hb dX7_behindTried_8 rfl hl (by decide) rfl (fun ls hl => ?_)
  exact L_9 _ _ _ h _ (lv_sub hl [2, 1, 0] rfl)
def f_X7_isAt (o_bytes : Int32) (o_spot : Int32) (o_text : Ar) (x1 : Int32) (x2 : Int32) : Option (Bool) := (if o_bytes ≤ o_spot then some (false) else rd o_text 150 o_spot (fun rv2 => bd1 (f_X7_in rv2 x1 x2) (fun r4 => (if (b2i r4) = (0 : Int32) then some (false) else some (true)))))
set_option maxHeartbeats 4000000 in
set_option maxRecDepth 100000 in
theorem c_X7_isAt (l : Launch) (D : va_G) (cI cS : ClassId) (a_o : Nat) (a_o_text : Nat) (a_o_now : Nat) (a_o_aside : Nat) (a_o_past : Nat) (a_o_refusals : Nat) (a_o_tried : Nat) (a_o_shuffled : Nat) (a_o_letters : Nat) (a_o_numbers : Nat) (o_states : Int32) (o_bytes : Int32) (o_triedMany : Int32) (o_orders : Int32) (o_spot : Int32) (o_wrongAt : Int32) (o_hash : Int64) (o_text : Ar) (x1 : Int32) (x2 : Int32) (r0 : Bool) (h : f_X7_isAt o_bytes o_spot o_text x1 x2 = some r0) : roM l D cI cS yX7_isAt cX7_isAt 3 (some .boolean) 1 22 [.ref a_o, .int x1, .int x2] [(a_o, .inr (6, [.ref a_o_now, .ref a_o_aside, .ref a_o_past, .int (o_states), .ref a_o_refusals, .ref a_o_text, .int (o_bytes), .ref a_o_tried, .int (o_triedMany), .ref a_o_shuffled, .ref a_o_letters, .ref a_o_numbers, .int (o_orders), .int (o_spot), .int (o_wrongAt), .long (o_hash)])), (a_o_text, .inl (cI, 150, .inl (o_text)))] (some (.int (b2i r0))) := by
  refine Met.ofW (cc := cX7_isAt) (maxL := 3) (ret := (some .boolean)) (by decide) rfl ?_
  intro p e s m args below meth c s₁ B hml hv
  obtain ⟨rfl, hP, hK⟩ := hv
  have hx := B.exec
  have hb := B.bytes
  have hr := B.returns
  have hts : ∀ w ∈ GW, w.before _ s = true := fun w hw => atoms_spec (ws := mws yX7_isAt cX7_isAt 3 (some .boolean)) B.pre w (List.mem_cons_of_mem _ hw)
  have hown : s.vm.findClass RX7 = some m.cls := findClass_of_methodNamed B.named
  have hlocks := B.notSynchronized
  have hl := lv_entry ([.ref a_o, .int x1, .int x2]) (n := 3) (Nat.le_of_ble_eq_true rfl)
  rw [lg_entry_eq]
  generalize (lg_sl ([.ref a_o, .int x1, .int x2]) ++ List.replicate (3 - (lg_sl ([.ref a_o, .int x1, .int x2])).length) Slot.unset).toArray = ls at hl ⊢
  have hl : lv_has ls 3 [(0, .ref a_o), (1, .int x1), (2, .int x2)] := hl
  have S : CallFix p m c cX7_isAt 3 s _ GW RX7 := ⟨hx, hb, hml, hown, hts⟩
  unfold f_X7_isAt at h
  refine lv_aload_n hx hb dX7_isAt_0 rfl (lv_at hl 0 rfl) ?_
  refine gfX7_13 hx hb hts hown hK hP 0 rfl wfX7_183 dX7_isAt_1 ?_
  refine lv_aload_n hx hb dX7_isAt_4 rfl (lv_at hl 0 rfl) ?_
  refine gfX7_6 hx hb hts hown hK hP 0 rfl wfX7_180 dX7_isAt_5 ?_
  refine lv_icmp_ge (tgt := 32) hx hb dX7_isAt_8 (by decide) (fun c1 => ?_) (fun c1 => ?_)
  · have h := it_t c1 h
    refine lv_iconst (v := (0 : Int32)) hx hb dX7_isAt_32 (by decide) ?_
    exact W.zret hx hb hr rfl (fun t ht _ => ⟨congrArg (fun z => Outcome.returned (some (Value.int (b2i z)))) (Option.some.inj h), ht⟩) (fun q hq => by cases hq) dX7_isAt_33
  · have h := it_f c1 h
    refine lv_aload_n hx hb dX7_isAt_11 rfl (lv_at hl 0 rfl) ?_
    refine gfX7_5 hx hb hts hown hK hP 0 rfl wfX7_22 dX7_isAt_12 ?_
    refine lv_aload_n hx hb dX7_isAt_15 rfl (lv_at hl 0 rfl) ?_
    refine gfX7_13 hx hb hts hown hK hP 0 rfl wfX7_183 dX7_isAt_16 ?_
    obtain ⟨hi3, h⟩ := rd_use h
    refine ia_ hx hb hK hP 1 rfl hi3 dX7_isAt_19 ?_
    refine lv_iload_n hx hb dX7_isAt_20 rfl (lv_at hl 1 rfl) ?_
    refine lv_iload_n hx hb dX7_isAt_21 rfl (lv_at hl 2 rfl) ?_
    obtain ⟨r4, hc5, h⟩ := bd1_use h
    refine ro_S (As := [.int (o_text o_spot.toNatClampNeg), .int x1, .int x2]) (rest := []) S (c_X7_in l D cI cS (o_text o_spot.toNatClampNeg) x1 x2 r4 hc5) (cwS1 hts csX7_in wmX7_48 rfl rfl ⟨(Nat.le_of_ble_eq_true rfl), (Nat.le_of_ble_eq_true rfl)⟩) hK hP [] rfl rfl hl.1 rfl (Nat.le_of_ble_eq_true rfl) dX7_isAt_22 ⟨Nat.zero_le _, Nat.zero_le _⟩ rfl ?_
    refine lv_if_eq (tgt := 32) hx hb dX7_isAt_25 (by decide) (fun c6 => ?_) (fun c6 => ?_)
    · have h := it_t c6 h
      refine lv_iconst (v := (0 : Int32)) hx hb dX7_isAt_32 (by decide) ?_
      exact W.zret hx hb hr rfl (fun t ht _ => ⟨congrArg (fun z => Outcome.returned (some (Value.int (b2i z)))) (Option.some.inj h), ht⟩) (fun q hq => by cases hq) dX7_isAt_33
    · have h := it_f c6 h
      refine lv_iconst (v := (1 : Int32)) hx hb dX7_isAt_28 (by decide) ?_
      refine lv_goto (tgt := 33) hx hb dX7_isAt_29 (by decide) ?_
      exact W.zret hx hb hr rfl (fun t ht _ => ⟨congrArg (fun z => Outcome.returned (some (Value.int (b2i z)))) (Option.some.inj h), ht⟩) (fun q hq => by cases hq) dX7_isAt_33
def b_X7_blanks_0 (o_bytes : Int32) (o_text : Ar) : Nat → Int32 → Option (Int32)
  | 0, _ => none
  | n + 1, o_spot => bd1 (f_X7_isAt o_bytes o_spot o_text (32 : Int32) (32 : Int32)) (fun r1 => (if (b2i r1) = (0 : Int32) then some (o_spot) else nm (o_spot + (1 : Int32)) (fun y4 => b_X7_blanks_0 o_bytes o_text n y4)))
def f_X7_blanks (o_bytes : Int32) (o_spot : Int32) (o_text : Ar) : Option (Int32) := b_X7_blanks_0 o_bytes o_text FU o_spot
set_option maxHeartbeats 4000000 in
set_option maxRecDepth 100000 in
theorem c_X7_blanks (l : Launch) (D : va_G) (cI cS : ClassId) (a_o : Nat) (a_o_text : Nat) (a_o_now : Nat) (a_o_aside : Nat) (a_o_past : Nat) (a_o_refusals : Nat) (a_o_tried : Nat) (a_o_shuffled : Nat) (a_o_letters : Nat) (a_o_numbers : Nat) (o_states : Int32) (o_bytes : Int32) (o_triedMany : Int32) (o_orders : Int32) (o_spot : Int32) (o_wrongAt : Int32) (o_hash : Int64) (o_text : Ar) (o_spot' : Int32) (h : f_X7_blanks o_bytes o_spot o_text = some o_spot') : wrM l D cI cS yX7_blanks cX7_blanks 1 none 2 44 [.ref a_o] [(a_o, .inr (6, [.ref a_o_now, .ref a_o_aside, .ref a_o_past, .int (o_states), .ref a_o_refusals, .ref a_o_text, .int (o_bytes), .ref a_o_tried, .int (o_triedMany), .ref a_o_shuffled, .ref a_o_letters, .ref a_o_numbers, .int (o_orders), .int (o_spot), .int (o_wrongAt), .long (o_hash)])), (a_o_text, .inl (cI, 150, .inl (o_text)))] [(a_o, .inr (6, [.ref a_o_now, .ref a_o_aside, .ref a_o_past, .int (o_states), .ref a_o_refusals, .ref a_o_text, .int (o_bytes), .ref a_o_tried, .int (o_triedMany), .ref a_o_shuffled, .ref a_o_letters, .ref a_o_numbers, .int (o_orders), .int (o_spot'), .int (o_wrongAt), .long (o_hash)])), (a_o_text, .inl (cI, 150, .inl (o_text)))] none := by
  refine Met.ofW (cc := cX7_blanks) (maxL := 1) (ret := none) (by decide) rfl ?_
  intro p e s m args below meth c s₁ B hml hv
  obtain ⟨rfl, hP, hK, hD0⟩ := hv
  have hx := B.exec
  have hb := B.bytes
  have hr := B.returns
  have hts : ∀ w ∈ GW, w.before _ s = true := fun w hw => atoms_spec (ws := mws yX7_blanks cX7_blanks 1 none) B.pre w (List.mem_cons_of_mem _ hw)
  have hown : s.vm.findClass RX7 = some m.cls := findClass_of_methodNamed B.named
  have hlocks := B.notSynchronized
  have hD := inW_self hD0
  generalize hAe : inW [(a_o, .inr (6, [.ref a_o_now, .ref a_o_aside, .ref a_o_past, .int (o_states), .ref a_o_refusals, .ref a_o_text, .int (o_bytes), .ref a_o_tried, .int (o_triedMany), .ref a_o_shuffled, .ref a_o_letters, .ref a_o_numbers, .int (o_orders), .int (o_spot), .int (o_wrongAt), .long (o_hash)])), (a_o_text, .inl (cI, 150, .inl (o_text)))] = A at hD ⊢
  have hS : va_S A s.heap s.heap [] := va_S.rf
  have hl := lv_entry ([.ref a_o]) (n := 1) (Nat.le_of_ble_eq_true rfl)
  rw [lg_entry_eq]
  generalize (lg_sl ([.ref a_o]) ++ List.replicate (1 - (lg_sl ([.ref a_o])).length) Slot.unset).toArray = ls at hl ⊢
  have hl : lv_has ls 1 [(0, .ref a_o)] := hl
  have S : CallFix p m c cX7_blanks 1 s _ GW RX7 := ⟨hx, hb, hml, hown, hts⟩
  have L_0 : ∀ (n : Nat) (o_spot : Int32), b_X7_blanks_0 o_bytes o_text n o_spot = some o_spot' → ∀ (H : Heap) (locs : List Loc), va_P D vwCl [(a_o, .inr (6, [.ref a_o_now, .ref a_o_aside, .ref a_o_past, .int (o_states), .ref a_o_refusals, .ref a_o_text, .int (o_bytes), .ref a_o_tried, .int (o_triedMany), .ref a_o_shuffled, .ref a_o_letters, .ref a_o_numbers, .int (o_orders), .int (o_spot), .int (o_wrongAt), .long (o_hash)])), (a_o_text, .inl (cI, 150, .inl (o_text)))] H → va_D A [(a_o, .inr (6, [.ref a_o_now, .ref a_o_aside, .ref a_o_past, .int (o_states), .ref a_o_refusals, .ref a_o_text, .int (o_bytes), .ref a_o_tried, .int (o_triedMany), .ref a_o_shuffled, .ref a_o_letters, .ref a_o_numbers, .int (o_orders), .int (o_spot), .int (o_wrongAt), .long (o_hash)])), (a_o_text, .inl (cI, 150, .inl (o_text)))] → va_S A s.heap H locs → ∀ (ls : Array Slot), lv_has ls 1 [(0, .ref a_o)] → W p l e (headSpec (mws yX7_blanks cX7_blanks 1 none) { frames := 2, cells := 0, slots := 0, locals := 44 }).room s m [.ref a_o].toArray below meth c H locs 0 0 (MQ below (wrQ D A [(a_o, .inr (6, [.ref a_o_now, .ref a_o_aside, .ref a_o_past, .int (o_states), .ref a_o_refusals, .ref a_o_text, .int (o_bytes), .ref a_o_tried, .int (o_triedMany), .ref a_o_shuffled, .ref a_o_letters, .ref a_o_numbers, .int (o_orders), .int (o_spot'), .int (o_wrongAt), .long (o_hash)])), (a_o_text, .inl (cI, 150, .inl (o_text)))] none) [.ref a_o].toArray s 0 0 A) (F0 m 0 ls []) := by
    intro n
    induction n with
    | zero =>
      intro o_spot h
      exact nn_no h
    | succ n ih =>
      intro o_spot h H locs hP hD hS ls hl
      rw [b_X7_blanks_0] at h
      refine lv_aload_n hx hb dX7_blanks_0 rfl (lv_at hl 0 rfl) ?_
      refine lv_bipush (v := (32 : Int32)) hx hb dX7_blanks_1 (by decide) ?_
      refine lv_bipush (v := (32 : Int32)) hx hb dX7_blanks_3 (by decide) ?_
      obtain ⟨r1, hc2, h⟩ := bd1_use h
      refine ro_V (As := [.int (32 : Int32), .int (32 : Int32)]) (rest := []) S (c_X7_isAt l D cI cS a_o a_o_text a_o_now a_o_aside a_o_past a_o_refusals a_o_tried a_o_shuffled a_o_letters a_o_numbers o_states o_bytes o_triedMany o_orders o_spot o_wrongAt o_hash o_text (32 : Int32) (32 : Int32) r1 hc2) (cwV1 hts cvX7_isAt wmX7_186 rfl rfl ⟨(Nat.le_of_ble_eq_true rfl), (Nat.le_of_ble_eq_true rfl)⟩) hK hP [0, 1] rfl 0 rfl rfl rfl rfl hl.1 rfl (Nat.le_of_ble_eq_true rfl) dX7_blanks_5 ⟨Nat.zero_le _, Nat.zero_le _⟩ rfl ?_
      refine lv_if_eq (tgt := 24) hx hb dX7_blanks_8 (by decide) (fun c3 => ?_) (fun c3 => ?_)
      · have h := it_t c3 h
        cases h
        exact W.vret hx hb hr (fun t ht _ => ⟨rfl, by rw [ht]; exact hP, hS.F ht⟩) hS.2.2 dX7_blanks_24
      · have h := it_f c3 h
        refine lv_aload_n hx hb dX7_blanks_11 rfl (lv_at hl 0 rfl) ?_
        refine lv_dup hx hb dX7_blanks_12 rfl ?_
        refine gfX7_13 hx hb hts hown hK hP 0 rfl wfX7_183 dX7_blanks_13 ?_
        refine lv_iconst (v := (1 : Int32)) hx hb dX7_blanks_16 (by decide) ?_
        refine lv_iadd hx hb dX7_blanks_17 ?_
        refine lv_topi (fun y4 ey4 => ?_)
        have h := nm_use h ey4
        refine pfX7_13 (ws' := [(a_o, .inr (6, [.ref a_o_now, .ref a_o_aside, .ref a_o_past, .int (o_states), .ref a_o_refusals, .ref a_o_text, .int (o_bytes), .ref a_o_tried, .int (o_triedMany), .ref a_o_shuffled, .ref a_o_letters, .ref a_o_numbers, .int (o_orders), .int (y4), .int (o_wrongAt), .long (o_hash)])), (a_o_text, .inl (cI, 150, .inl (o_text)))]) hx hb hts hown hK hP hD hS 0 rfl rfl wfX7_183 dX7_blanks_18 (fun H locs hP hD hS => ?_)
        refine lv_goto (tgt := 0) hx hb dX7_blanks_21 (by decide) ?_
        exact ih _ h _ _ hP hD hS _ (lv_sub hl [0] rfl)
  unfold f_X7_blanks at h
  exact L_0 _ _ h _ _ hP hD hS _ (lv_sub hl [0] rfl)
def f_X7_change (o_now : Ar) (x1 : Int32) (x2 : Int32) (x3 : Int32) : Option (Int32 × Ar) := bd1 (f_X7_in x2 (0 : Int32) x3) (fun r1 => (if (b2i r1) = (0 : Int32) then some ((-2 : Int32), o_now) else rd o_now 52 x1 (fun rv4 => wr o_now 52 x1 x2 (fun fv6 => some (rv4, fv6)))))
set_option maxHeartbeats 4000000 in
set_option maxRecDepth 100000 in
theorem c_X7_change (l : Launch) (D : va_G) (cI cS : ClassId) (a_o : Nat) (a_o_now : Nat) (a_o_aside : Nat) (a_o_past : Nat) (a_o_refusals : Nat) (a_o_text : Nat) (a_o_tried : Nat) (a_o_shuffled : Nat) (a_o_letters : Nat) (a_o_numbers : Nat) (o_states : Int32) (o_bytes : Int32) (o_triedMany : Int32) (o_orders : Int32) (o_spot : Int32) (o_wrongAt : Int32) (o_hash : Int64) (o_now : Ar) (x1 : Int32) (x2 : Int32) (x3 : Int32) (r0 : Int32) (o_now' : Ar) (h : f_X7_change o_now x1 x2 x3 = some (r0, o_now')) : wrM l D cI cS yX7_change cX7_change 5 (some .int) 1 22 [.ref a_o, .int x1, .int x2, .int x3] [(a_o, .inr (6, [.ref a_o_now, .ref a_o_aside, .ref a_o_past, .int (o_states), .ref a_o_refusals, .ref a_o_text, .int (o_bytes), .ref a_o_tried, .int (o_triedMany), .ref a_o_shuffled, .ref a_o_letters, .ref a_o_numbers, .int (o_orders), .int (o_spot), .int (o_wrongAt), .long (o_hash)])), (a_o_now, .inl (cI, 52, .inl (o_now)))] [(a_o, .inr (6, [.ref a_o_now, .ref a_o_aside, .ref a_o_past, .int (o_states), .ref a_o_refusals, .ref a_o_text, .int (o_bytes), .ref a_o_tried, .int (o_triedMany), .ref a_o_shuffled, .ref a_o_letters, .ref a_o_numbers, .int (o_orders), .int (o_spot), .int (o_wrongAt), .long (o_hash)])), (a_o_now, .inl (cI, 52, .inl (o_now')))] (some (.int r0)) := by
  refine Met.ofW (cc := cX7_change) (maxL := 5) (ret := (some .int)) (by decide) rfl ?_
  intro p e s m args below meth c s₁ B hml hv
  obtain ⟨rfl, hP, hK, hD0⟩ := hv
  have hx := B.exec
  have hb := B.bytes
  have hr := B.returns
  have hts : ∀ w ∈ GW, w.before _ s = true := fun w hw => atoms_spec (ws := mws yX7_change cX7_change 5 (some .int)) B.pre w (List.mem_cons_of_mem _ hw)
  have hown : s.vm.findClass RX7 = some m.cls := findClass_of_methodNamed B.named
  have hlocks := B.notSynchronized
  have hD := inW_self hD0
  generalize hAe : inW [(a_o, .inr (6, [.ref a_o_now, .ref a_o_aside, .ref a_o_past, .int (o_states), .ref a_o_refusals, .ref a_o_text, .int (o_bytes), .ref a_o_tried, .int (o_triedMany), .ref a_o_shuffled, .ref a_o_letters, .ref a_o_numbers, .int (o_orders), .int (o_spot), .int (o_wrongAt), .long (o_hash)])), (a_o_now, .inl (cI, 52, .inl (o_now)))] = A at hD ⊢
  have hS : va_S A s.heap s.heap [] := va_S.rf
  have hl := lv_entry ([.ref a_o, .int x1, .int x2, .int x3]) (n := 5) (Nat.le_of_ble_eq_true rfl)
  rw [lg_entry_eq]
  generalize (lg_sl ([.ref a_o, .int x1, .int x2, .int x3]) ++ List.replicate (5 - (lg_sl ([.ref a_o, .int x1, .int x2, .int x3])).length) Slot.unset).toArray = ls at hl ⊢
  have hl : lv_has ls 5 [(0, .ref a_o), (1, .int x1), (2, .int x2), (3, .int x3)] := hl
  have S : CallFix p m c cX7_change 5 s _ GW RX7 := ⟨hx, hb, hml, hown, hts⟩
  unfold f_X7_change at h
  refine lv_iload_n hx hb dX7_change_0 rfl (lv_at hl 2 rfl) ?_
  refine lv_iconst (v := (0 : Int32)) hx hb dX7_change_1 (by decide) ?_
  refine lv_iload_n hx hb dX7_change_2 rfl (lv_at hl 3 rfl) ?_
  obtain ⟨r1, hc2, h⟩ := bd1_use h
  refine ro_S (As := [.int x2, .int (0 : Int32), .int x3]) (rest := []) S (c_X7_in l D cI cS x2 (0 : Int32) x3 r1 hc2) (cwS1 hts csX7_in wmX7_48 rfl rfl ⟨(Nat.le_of_ble_eq_true rfl), (Nat.le_of_ble_eq_true rfl)⟩) hK hP [] rfl rfl hl.1 rfl (Nat.le_of_ble_eq_true rfl) dX7_change_3 ⟨Nat.zero_le _, Nat.zero_le _⟩ rfl ?_
  refine lv_if_ne (tgt := 12) hx hb dX7_change_6 (by decide) (fun c3 => ?_) (fun c3 => ?_)
  · have h := it_f c3 h
    refine lv_aload_n hx hb dX7_change_12 rfl (lv_at hl 0 rfl) ?_
    refine gfX7_0 hx hb hts hown hK hP 0 rfl wfX7_7 dX7_change_13 ?_
    refine lv_iload_n hx hb dX7_change_16 rfl (lv_at hl 1 rfl) ?_
    obtain ⟨hi5, h⟩ := rd_use h
    refine ia_ hx hb hK hP 1 rfl hi5 dX7_change_17 ?_
    refine lv_istore (lv' := [(4, .int (o_now x1.toNatClampNeg)), (0, .ref a_o), (1, .int x1), (2, .int x2), (3, .int x3)]) hx hb dX7_change_18 hl (by decide) rfl (fun ls hl => ?_)
    refine lv_aload_n hx hb dX7_change_20 rfl (lv_at hl 1 rfl) ?_
    refine gfX7_0 hx hb hts hown hK hP 0 rfl wfX7_7 dX7_change_21 ?_
    refine lv_iload_n hx hb dX7_change_24 rfl (lv_at hl 2 rfl) ?_
    refine lv_iload_n hx hb dX7_change_25 rfl (lv_at hl 3 rfl) ?_
    obtain ⟨hi7, h⟩ := wr_use h
    refine is_ (ws' := [(a_o, .inr (6, [.ref a_o_now, .ref a_o_aside, .ref a_o_past, .int (o_states), .ref a_o_refusals, .ref a_o_text, .int (o_bytes), .ref a_o_tried, .int (o_triedMany), .ref a_o_shuffled, .ref a_o_letters, .ref a_o_numbers, .int (o_orders), .int (o_spot), .int (o_wrongAt), .long (o_hash)])), (a_o_now, .inl (cI, 52, .inl ((upd o_now x1.toNatClampNeg x2))))]) hx hb hK hP hD hS 1 rfl rfl hi7 dX7_change_26 (fun H locs hP hD hS => ?_)
    refine lv_iload hx hb dX7_change_27 (lv_at hl 0 rfl) ?_
    cases h
    exact W.iret hx hb hr (fun t ht _ => ⟨rfl, by rw [ht]; exact hP, hS.F ht⟩) hS.2.2 dX7_change_29
  · have h := it_t c3 h
    refine lv_bipush (v := (-2 : Int32)) hx hb dX7_change_9 (by decide) ?_
    cases h
    exact W.iret hx hb hr (fun t ht _ => ⟨rfl, by rw [ht]; exact hP, hS.F ht⟩) hS.2.2 dX7_change_11
def f_X7_isAlone (o_now : Ar) (x1 : Int32) : Option (Bool) := rd o_now 52 (1 : Int32) (fun rv1 => bd1 (f_X7_passes o_now x1 rv1) (fun r3 => some (r3)))
set_option maxHeartbeats 4000000 in
set_option maxRecDepth 100000 in
theorem c_X7_isAlone (l : Launch) (D : va_G) (cI cS : ClassId) (a_o : Nat) (a_o_now : Nat) (a_o_aside : Nat) (a_o_past : Nat) (a_o_refusals : Nat) (a_o_text : Nat) (a_o_tried : Nat) (a_o_shuffled : Nat) (a_o_letters : Nat) (a_o_numbers : Nat) (o_states : Int32) (o_bytes : Int32) (o_triedMany : Int32) (o_orders : Int32) (o_spot : Int32) (o_wrongAt : Int32) (o_hash : Int64) (o_now : Ar) (x1 : Int32) (r0 : Bool) (h : f_X7_isAlone o_now x1 = some r0) : roM l D cI cS yX7_isAlone cX7_isAlone 2 (some .boolean) 2 44 [.ref a_o, .int x1] [(a_o, .inr (6, [.ref a_o_now, .ref a_o_aside, .ref a_o_past, .int (o_states), .ref a_o_refusals, .ref a_o_text, .int (o_bytes), .ref a_o_tried, .int (o_triedMany), .ref a_o_shuffled, .ref a_o_letters, .ref a_o_numbers, .int (o_orders), .int (o_spot), .int (o_wrongAt), .long (o_hash)])), (a_o_now, .inl (cI, 52, .inl (o_now)))] (some (.int (b2i r0))) := by
  refine Met.ofW (cc := cX7_isAlone) (maxL := 2) (ret := (some .boolean)) (by decide) rfl ?_
  intro p e s m args below meth c s₁ B hml hv
  obtain ⟨rfl, hP, hK⟩ := hv
  have hx := B.exec
  have hb := B.bytes
  have hr := B.returns
  have hts : ∀ w ∈ GW, w.before _ s = true := fun w hw => atoms_spec (ws := mws yX7_isAlone cX7_isAlone 2 (some .boolean)) B.pre w (List.mem_cons_of_mem _ hw)
  have hown : s.vm.findClass RX7 = some m.cls := findClass_of_methodNamed B.named
  have hlocks := B.notSynchronized
  have hl := lv_entry ([.ref a_o, .int x1]) (n := 2) (Nat.le_of_ble_eq_true rfl)
  rw [lg_entry_eq]
  generalize (lg_sl ([.ref a_o, .int x1]) ++ List.replicate (2 - (lg_sl ([.ref a_o, .int x1])).length) Slot.unset).toArray = ls at hl ⊢
  have hl : lv_has ls 2 [(0, .ref a_o), (1, .int x1)] := hl
  have S : CallFix p m c cX7_isAlone 2 s _ GW RX7 := ⟨hx, hb, hml, hown, hts⟩
  unfold f_X7_isAlone at h
  refine lv_aload_n hx hb dX7_isAlone_0 rfl (lv_at hl 0 rfl) ?_
  refine lv_iload_n hx hb dX7_isAlone_1 rfl (lv_at hl 1 rfl) ?_
  refine lv_aload_n hx hb dX7_isAlone_2 rfl (lv_at hl 0 rfl) ?_
  refine gfX7_0 hx hb hts hown hK hP 0 rfl wfX7_7 dX7_isAlone_3 ?_
  refine lv_iconst (v := (1 : Int32)) hx hb dX7_isAlone_6 (by decide) ?_
  obtain ⟨hi2, h⟩ := rd_use h
  refine ia_ hx hb hK hP 1 rfl hi2 dX7_isAlone_7 ?_
  obtain ⟨r3, hc4, h⟩ := bd1_use h
  refine ro_V (As := [.int x1, .int (o_now (1 : Int32).toNatClampNeg)]) (rest := []) S (c_X7_passes l D cI cS a_o a_o_now a_o_aside a_o_past a_o_refusals a_o_text a_o_tried a_o_shuffled a_o_letters a_o_numbers o_states o_bytes o_triedMany o_orders o_spot o_wrongAt o_hash o_now x1 (o_now (1 : Int32).toNatClampNeg) r3 hc4) (cwV1 hts cvX7_passes wmX7_56 rfl rfl ⟨(Nat.le_of_ble_eq_true rfl), (Nat.le_of_ble_eq_true rfl)⟩) hK hP [0, 1] rfl 0 rfl rfl rfl rfl hl.1 rfl (Nat.le_of_ble_eq_true rfl) dX7_isAlone_8 ⟨Nat.zero_le _, Nat.zero_le _⟩ rfl ?_
  exact W.zret hx hb hr (b2i_nar _) (fun t ht _ => ⟨congrArg (fun z => Outcome.returned (some (Value.int (b2i z)))) (Option.some.inj h), ht⟩) (fun q hq => by cases hq) dX7_isAlone_11
def f_X7_isFlipped (o_triedMany : Int32) (o_now : Ar) (o_tried : Ar) (x1 : Int32) : Option (Bool) := bd1 (f_X7_behindTried o_triedMany o_now o_tried) (fun r1 => bd1 (f_X7_passes o_now x1 r1) (fun r3 => bd1 (f_X7_isAlone o_now x1) (fun r5 => (if (b2i r3) = (b2i r5) then some (false) else some (true)))))
set_option maxHeartbeats 4000000 in
set_option maxRecDepth 100000 in
theorem c_X7_isFlipped (l : Launch) (D : va_G) (cI cS : ClassId) (a_o : Nat) (a_o_now : Nat) (a_o_tried : Nat) (a_o_aside : Nat) (a_o_past : Nat) (a_o_refusals : Nat) (a_o_text : Nat) (a_o_shuffled : Nat) (a_o_letters : Nat) (a_o_numbers : Nat) (o_states : Int32) (o_bytes : Int32) (o_triedMany : Int32) (o_orders : Int32) (o_spot : Int32) (o_wrongAt : Int32) (o_hash : Int64) (o_now : Ar) (o_tried : Ar) (x1 : Int32) (r0 : Bool) (h : f_X7_isFlipped o_triedMany o_now o_tried x1 = some r0) : roM l D cI cS yX7_isFlipped cX7_isFlipped 2 (some .boolean) 4 89 [.ref a_o, .int x1] [(a_o, .inr (6, [.ref a_o_now, .ref a_o_aside, .ref a_o_past, .int (o_states), .ref a_o_refusals, .ref a_o_text, .int (o_bytes), .ref a_o_tried, .int (o_triedMany), .ref a_o_shuffled, .ref a_o_letters, .ref a_o_numbers, .int (o_orders), .int (o_spot), .int (o_wrongAt), .long (o_hash)])), (a_o_now, .inl (cI, 52, .inl (o_now))), (a_o_tried, .inl (cI, 9, .inl (o_tried)))] (some (.int (b2i r0))) := by
  refine Met.ofW (cc := cX7_isFlipped) (maxL := 2) (ret := (some .boolean)) (by decide) rfl ?_
  intro p e s m args below meth c s₁ B hml hv
  obtain ⟨rfl, hP, hK⟩ := hv
  have hx := B.exec
  have hb := B.bytes
  have hr := B.returns
  have hts : ∀ w ∈ GW, w.before _ s = true := fun w hw => atoms_spec (ws := mws yX7_isFlipped cX7_isFlipped 2 (some .boolean)) B.pre w (List.mem_cons_of_mem _ hw)
  have hown : s.vm.findClass RX7 = some m.cls := findClass_of_methodNamed B.named
  have hlocks := B.notSynchronized
  have hl := lv_entry ([.ref a_o, .int x1]) (n := 2) (Nat.le_of_ble_eq_true rfl)
  rw [lg_entry_eq]
  generalize (lg_sl ([.ref a_o, .int x1]) ++ List.replicate (2 - (lg_sl ([.ref a_o, .int x1])).length) Slot.unset).toArray = ls at hl ⊢
  have hl : lv_has ls 2 [(0, .ref a_o), (1, .int x1)] := hl
  have S : CallFix p m c cX7_isFlipped 2 s _ GW RX7 := ⟨hx, hb, hml, hown, hts⟩
  unfold f_X7_isFlipped at h
  refine lv_aload_n hx hb dX7_isFlipped_0 rfl (lv_at hl 0 rfl) ?_
  refine lv_iload_n hx hb dX7_isFlipped_1 rfl (lv_at hl 1 rfl) ?_
  refine lv_aload_n hx hb dX7_isFlipped_2 rfl (lv_at hl 0 rfl) ?_
  obtain ⟨r1, hc2, h⟩ := bd1_use h
  refine ro_V (As := []) (rest := [.int x1, .ref a_o]) S (c_X7_behindTried l D cI cS a_o a_o_now a_o_tried a_o_aside a_o_past a_o_refusals a_o_text a_o_shuffled a_o_letters a_o_numbers o_states o_bytes o_triedMany o_orders o_spot o_wrongAt o_hash o_now o_tried r1 hc2) (cwV1 hts cvX7_behindTried wmX7_66 rfl rfl ⟨(Nat.le_of_ble_eq_true rfl), (Nat.le_of_ble_eq_true rfl)⟩) hK hP [0, 1, 2] rfl 0 rfl rfl rfl rfl hl.1 rfl (Nat.le_of_ble_eq_true rfl) dX7_isFlipped_3 ⟨Nat.zero_le _, Nat.zero_le _⟩ rfl ?_
  obtain ⟨r3, hc4, h⟩ := bd1_use h
  refine ro_V (As := [.int x1, .int r1]) (rest := []) S (c_X7_passes l D cI cS a_o a_o_now a_o_aside a_o_past a_o_refusals a_o_text a_o_tried a_o_shuffled a_o_letters a_o_numbers o_states o_bytes o_triedMany o_orders o_spot o_wrongAt o_hash o_now x1 r1 r3 hc4) (cwV1 hts cvX7_passes wmX7_56 rfl rfl ⟨(Nat.le_of_ble_eq_true rfl), (Nat.le_of_ble_eq_true rfl)⟩) hK hP [0, 1] rfl 0 rfl rfl rfl rfl hl.1 rfl (Nat.le_of_ble_eq_true rfl) dX7_isFlipped_6 ⟨Nat.zero_le _, Nat.zero_le _⟩ rfl ?_
  refine lv_aload_n hx hb dX7_isFlipped_9 rfl (lv_at hl 0 rfl) ?_
  refine lv_iload_n hx hb dX7_isFlipped_10 rfl (lv_at hl 1 rfl) ?_
  obtain ⟨r5, hc6, h⟩ := bd1_use h
  refine ro_V (As := [.int x1]) (rest := [.int (b2i r3)]) S (c_X7_isAlone l D cI cS a_o a_o_now a_o_aside a_o_past a_o_refusals a_o_text a_o_tried a_o_shuffled a_o_letters a_o_numbers o_states o_bytes o_triedMany o_orders o_spot o_wrongAt o_hash o_now x1 r5 hc6) (cwV1 hts cvX7_isAlone wmX7_70 rfl rfl ⟨(Nat.le_of_ble_eq_true rfl), (Nat.le_of_ble_eq_true rfl)⟩) hK hP [0, 1] rfl 0 rfl rfl rfl rfl hl.1 rfl (Nat.le_of_ble_eq_true rfl) dX7_isFlipped_11 ⟨Nat.zero_le _, Nat.zero_le _⟩ rfl ?_
  refine lv_icmp_eq (tgt := 21) hx hb dX7_isFlipped_14 (by decide) (fun c7 => ?_) (fun c7 => ?_)
  · have h := it_t c7 h
    refine lv_iconst (v := (0 : Int32)) hx hb dX7_isFlipped_21 (by decide) ?_
    exact W.zret hx hb hr rfl (fun t ht _ => ⟨congrArg (fun z => Outcome.returned (some (Value.int (b2i z)))) (Option.some.inj h), ht⟩) (fun q hq => by cases hq) dX7_isFlipped_22
  · have h := it_f c7 h
    refine lv_iconst (v := (1 : Int32)) hx hb dX7_isFlipped_17 (by decide) ?_
    refine lv_goto (tgt := 22) hx hb dX7_isFlipped_18 (by decide) ?_
    exact W.zret hx hb hr rfl (fun t ht _ => ⟨congrArg (fun z => Outcome.returned (some (Value.int (b2i z)))) (Option.some.inj h), ht⟩) (fun q hq => by cases hq) dX7_isFlipped_22
def f_X7_soilsFor (o_triedMany : Int32) (o_now : Ar) (o_tried : Ar) (x1 : Int32) (x2 : Int32) : Option (Bool × Int32 × Ar) := wr o_tried 9 (0 : Int32) x1 (fun fv1 => bd1 (f_X7_isFlipped (1 : Int32) o_now fv1 x2) (fun r3 => some (r3, (1 : Int32), fv1)))
set_option maxHeartbeats 4000000 in
set_option maxRecDepth 100000 in
theorem c_X7_soilsFor (l : Launch) (D : va_G) (cI cS : ClassId) (a_o : Nat) (a_o_now : Nat) (a_o_tried : Nat) (a_o_aside : Nat) (a_o_past : Nat) (a_o_refusals : Nat) (a_o_text : Nat) (a_o_shuffled : Nat) (a_o_letters : Nat) (a_o_numbers : Nat) (o_states : Int32) (o_bytes : Int32) (o_triedMany : Int32) (o_orders : Int32) (o_spot : Int32) (o_wrongAt : Int32) (o_hash : Int64) (o_now : Ar) (o_tried : Ar) (x1 : Int32) (x2 : Int32) (r0 : Bool) (o_triedMany' : Int32) (o_tried' : Ar) (h : f_X7_soilsFor o_triedMany o_now o_tried x1 x2 = some (r0, o_triedMany', o_tried')) : wrM l D cI cS yX7_soilsFor cX7_soilsFor 3 (some .boolean) 5 110 [.ref a_o, .int x1, .int x2] [(a_o, .inr (6, [.ref a_o_now, .ref a_o_aside, .ref a_o_past, .int (o_states), .ref a_o_refusals, .ref a_o_text, .int (o_bytes), .ref a_o_tried, .int (o_triedMany), .ref a_o_shuffled, .ref a_o_letters, .ref a_o_numbers, .int (o_orders), .int (o_spot), .int (o_wrongAt), .long (o_hash)])), (a_o_now, .inl (cI, 52, .inl (o_now))), (a_o_tried, .inl (cI, 9, .inl (o_tried)))] [(a_o, .inr (6, [.ref a_o_now, .ref a_o_aside, .ref a_o_past, .int (o_states), .ref a_o_refusals, .ref a_o_text, .int (o_bytes), .ref a_o_tried, .int (o_triedMany'), .ref a_o_shuffled, .ref a_o_letters, .ref a_o_numbers, .int (o_orders), .int (o_spot), .int (o_wrongAt), .long (o_hash)])), (a_o_now, .inl (cI, 52, .inl (o_now))), (a_o_tried, .inl (cI, 9, .inl (o_tried')))] (some (.int (b2i r0))) := by
  refine Met.ofW (cc := cX7_soilsFor) (maxL := 3) (ret := (some .boolean)) (by decide) rfl ?_
  intro p e s m args below meth c s₁ B hml hv
  obtain ⟨rfl, hP, hK, hD0⟩ := hv
  have hx := B.exec
  have hb := B.bytes
  have hr := B.returns
  have hts : ∀ w ∈ GW, w.before _ s = true := fun w hw => atoms_spec (ws := mws yX7_soilsFor cX7_soilsFor 3 (some .boolean)) B.pre w (List.mem_cons_of_mem _ hw)
  have hown : s.vm.findClass RX7 = some m.cls := findClass_of_methodNamed B.named
  have hlocks := B.notSynchronized
  have hD := inW_self hD0
  generalize hAe : inW [(a_o, .inr (6, [.ref a_o_now, .ref a_o_aside, .ref a_o_past, .int (o_states), .ref a_o_refusals, .ref a_o_text, .int (o_bytes), .ref a_o_tried, .int (o_triedMany), .ref a_o_shuffled, .ref a_o_letters, .ref a_o_numbers, .int (o_orders), .int (o_spot), .int (o_wrongAt), .long (o_hash)])), (a_o_now, .inl (cI, 52, .inl (o_now))), (a_o_tried, .inl (cI, 9, .inl (o_tried)))] = A at hD ⊢
  have hS : va_S A s.heap s.heap [] := va_S.rf
  have hl := lv_entry ([.ref a_o, .int x1, .int x2]) (n := 3) (Nat.le_of_ble_eq_true rfl)
  rw [lg_entry_eq]
  generalize (lg_sl ([.ref a_o, .int x1, .int x2]) ++ List.replicate (3 - (lg_sl ([.ref a_o, .int x1, .int x2])).length) Slot.unset).toArray = ls at hl ⊢
  have hl : lv_has ls 3 [(0, .ref a_o), (1, .int x1), (2, .int x2)] := hl
  have S : CallFix p m c cX7_soilsFor 3 s _ GW RX7 := ⟨hx, hb, hml, hown, hts⟩
  unfold f_X7_soilsFor at h
  refine lv_aload_n hx hb dX7_soilsFor_0 rfl (lv_at hl 0 rfl) ?_
  refine gfX7_7 hx hb hts hown hK hP 0 rfl wfX7_25 dX7_soilsFor_1 ?_
  refine lv_iconst (v := (0 : Int32)) hx hb dX7_soilsFor_4 (by decide) ?_
  refine lv_iload_n hx hb dX7_soilsFor_5 rfl (lv_at hl 1 rfl) ?_
  obtain ⟨hi2, h⟩ := wr_use h
  refine is_ (ws' := [(a_o, .inr (6, [.ref a_o_now, .ref a_o_aside, .ref a_o_past, .int (o_states), .ref a_o_refusals, .ref a_o_text, .int (o_bytes), .ref a_o_tried, .int (o_triedMany), .ref a_o_shuffled, .ref a_o_letters, .ref a_o_numbers, .int (o_orders), .int (o_spot), .int (o_wrongAt), .long (o_hash)])), (a_o_now, .inl (cI, 52, .inl (o_now))), (a_o_tried, .inl (cI, 9, .inl ((upd o_tried (0 : Int32).toNatClampNeg x1))))]) hx hb hK hP hD hS 2 rfl rfl hi2 dX7_soilsFor_6 (fun H locs hP hD hS => ?_)
  refine lv_aload_n hx hb dX7_soilsFor_7 rfl (lv_at hl 0 rfl) ?_
  refine lv_iconst (v := (1 : Int32)) hx hb dX7_soilsFor_8 (by decide) ?_
  refine pfX7_8 (ws' := [(a_o, .inr (6, [.ref a_o_now, .ref a_o_aside, .ref a_o_past, .int (o_states), .ref a_o_refusals, .ref a_o_text, .int (o_bytes), .ref a_o_tried, .int ((1 : Int32)), .ref a_o_shuffled, .ref a_o_letters, .ref a_o_numbers, .int (o_orders), .int (o_spot), .int (o_wrongAt), .long (o_hash)])), (a_o_now, .inl (cI, 52, .inl (o_now))), (a_o_tried, .inl (cI, 9, .inl ((upd o_tried (0 : Int32).toNatClampNeg x1))))]) hx hb hts hown hK hP hD hS 0 rfl rfl wfX7_60 dX7_soilsFor_9 (fun H locs hP hD hS => ?_)
  refine lv_aload_n hx hb dX7_soilsFor_12 rfl (lv_at hl 0 rfl) ?_
  refine lv_iload_n hx hb dX7_soilsFor_13 rfl (lv_at hl 2 rfl) ?_
  obtain ⟨r3, hc4, h⟩ := bd1_use h
  refine ro_V (As := [.int x2]) (rest := []) S (c_X7_isFlipped l D cI cS a_o a_o_now a_o_tried a_o_aside a_o_past a_o_refusals a_o_text a_o_shuffled a_o_letters a_o_numbers o_states o_bytes (1 : Int32) o_orders o_spot o_wrongAt o_hash o_now (upd o_tried (0 : Int32).toNatClampNeg x1) x2 r3 hc4) (cwV1 hts cvX7_isFlipped wmX7_74 rfl rfl ⟨(Nat.le_of_ble_eq_true rfl), (Nat.le_of_ble_eq_true rfl)⟩) hK hP [0, 1, 2] rfl 0 rfl rfl rfl rfl hl.1 rfl (Nat.le_of_ble_eq_true rfl) dX7_soilsFor_14 ⟨Nat.zero_le _, Nat.zero_le _⟩ rfl ?_
  cases h
  exact W.zret hx hb hr (b2i_nar _) (fun t ht _ => ⟨rfl, by rw [ht]; exact hP, hS.F ht⟩) hS.2.2 dX7_soilsFor_17
def f_X7_cleansFor (o_triedMany : Int32) (o_now : Ar) (o_tried : Ar) (x1 : Int32) (x2 : Int32) (x3 : Int32) : Option (Bool × Int32 × Ar) := wr o_tried 9 (0 : Int32) x2 (fun fv1 => wr fv1 9 (1 : Int32) x1 (fun fv3 => bd1 (f_X7_isFlipped (2 : Int32) o_now fv3 x3) (fun r5 => (if (b2i r5) = (0 : Int32) then some (true, (2 : Int32), fv3) else some (false, (2 : Int32), fv3)))))
set_option maxHeartbeats 4000000 in
set_option maxRecDepth 100000 in
theorem c_X7_cleansFor (l : Launch) (D : va_G) (cI cS : ClassId) (a_o : Nat) (a_o_now : Nat) (a_o_tried : Nat) (a_o_aside : Nat) (a_o_past : Nat) (a_o_refusals : Nat) (a_o_text : Nat) (a_o_shuffled : Nat) (a_o_letters : Nat) (a_o_numbers : Nat) (o_states : Int32) (o_bytes : Int32) (o_triedMany : Int32) (o_orders : Int32) (o_spot : Int32) (o_wrongAt : Int32) (o_hash : Int64) (o_now : Ar) (o_tried : Ar) (x1 : Int32) (x2 : Int32) (x3 : Int32) (r0 : Bool) (o_triedMany' : Int32) (o_tried' : Ar) (h : f_X7_cleansFor o_triedMany o_now o_tried x1 x2 x3 = some (r0, o_triedMany', o_tried')) : wrM l D cI cS yX7_cleansFor cX7_cleansFor 4 (some .boolean) 5 110 [.ref a_o, .int x1, .int x2, .int x3] [(a_o, .inr (6, [.ref a_o_now, .ref a_o_aside, .ref a_o_past, .int (o_states), .ref a_o_refusals, .ref a_o_text, .int (o_bytes), .ref a_o_tried, .int (o_triedMany), .ref a_o_shuffled, .ref a_o_letters, .ref a_o_numbers, .int (o_orders), .int (o_spot), .int (o_wrongAt), .long (o_hash)])), (a_o_now, .inl (cI, 52, .inl (o_now))), (a_o_tried, .inl (cI, 9, .inl (o_tried)))] [(a_o, .inr (6, [.ref a_o_now, .ref a_o_aside, .ref a_o_past, .int (o_states), .ref a_o_refusals, .ref a_o_text, .int (o_bytes), .ref a_o_tried, .int (o_triedMany'), .ref a_o_shuffled, .ref a_o_letters, .ref a_o_numbers, .int (o_orders), .int (o_spot), .int (o_wrongAt), .long (o_hash)])), (a_o_now, .inl (cI, 52, .inl (o_now))), (a_o_tried, .inl (cI, 9, .inl (o_tried')))] (some (.int (b2i r0))) := by
  refine Met.ofW (cc := cX7_cleansFor) (maxL := 4) (ret := (some .boolean)) (by decide) rfl ?_
  intro p e s m args below meth c s₁ B hml hv
  obtain ⟨rfl, hP, hK, hD0⟩ := hv
  have hx := B.exec
  have hb := B.bytes
  have hr := B.returns
  have hts : ∀ w ∈ GW, w.before _ s = true := fun w hw => atoms_spec (ws := mws yX7_cleansFor cX7_cleansFor 4 (some .boolean)) B.pre w (List.mem_cons_of_mem _ hw)
  have hown : s.vm.findClass RX7 = some m.cls := findClass_of_methodNamed B.named
  have hlocks := B.notSynchronized
  have hD := inW_self hD0
  generalize hAe : inW [(a_o, .inr (6, [.ref a_o_now, .ref a_o_aside, .ref a_o_past, .int (o_states), .ref a_o_refusals, .ref a_o_text, .int (o_bytes), .ref a_o_tried, .int (o_triedMany), .ref a_o_shuffled, .ref a_o_letters, .ref a_o_numbers, .int (o_orders), .int (o_spot), .int (o_wrongAt), .long (o_hash)])), (a_o_now, .inl (cI, 52, .inl (o_now))), (a_o_tried, .inl (cI, 9, .inl (o_tried)))] = A at hD ⊢
  have hS : va_S A s.heap s.heap [] := va_S.rf
  have hl := lv_entry ([.ref a_o, .int x1, .int x2, .int x3]) (n := 4) (Nat.le_of_ble_eq_true rfl)
  rw [lg_entry_eq]
  generalize (lg_sl ([.ref a_o, .int x1, .int x2, .int x3]) ++ List.replicate (4 - (lg_sl ([.ref a_o, .int x1, .int x2, .int x3])).length) Slot.unset).toArray = ls at hl ⊢
  have hl : lv_has ls 4 [(0, .ref a_o), (1, .int x1), (2, .int x2), (3, .int x3)] := hl
  have S : CallFix p m c cX7_cleansFor 4 s _ GW RX7 := ⟨hx, hb, hml, hown, hts⟩
  unfold f_X7_cleansFor at h
  refine lv_aload_n hx hb dX7_cleansFor_0 rfl (lv_at hl 0 rfl) ?_
  refine gfX7_7 hx hb hts hown hK hP 0 rfl wfX7_25 dX7_cleansFor_1 ?_
  refine lv_iconst (v := (0 : Int32)) hx hb dX7_cleansFor_4 (by decide) ?_
  refine lv_iload_n hx hb dX7_cleansFor_5 rfl (lv_at hl 2 rfl) ?_
  obtain ⟨hi2, h⟩ := wr_use h
  refine is_ (ws' := [(a_o, .inr (6, [.ref a_o_now, .ref a_o_aside, .ref a_o_past, .int (o_states), .ref a_o_refusals, .ref a_o_text, .int (o_bytes), .ref a_o_tried, .int (o_triedMany), .ref a_o_shuffled, .ref a_o_letters, .ref a_o_numbers, .int (o_orders), .int (o_spot), .int (o_wrongAt), .long (o_hash)])), (a_o_now, .inl (cI, 52, .inl (o_now))), (a_o_tried, .inl (cI, 9, .inl ((upd o_tried (0 : Int32).toNatClampNeg x2))))]) hx hb hK hP hD hS 2 rfl rfl hi2 dX7_cleansFor_6 (fun H locs hP hD hS => ?_)
  refine lv_aload_n hx hb dX7_cleansFor_7 rfl (lv_at hl 0 rfl) ?_
  refine gfX7_7 hx hb hts hown hK hP 0 rfl wfX7_25 dX7_cleansFor_8 ?_
  refine lv_iconst (v := (1 : Int32)) hx hb dX7_cleansFor_11 (by decide) ?_
  refine lv_iload_n hx hb dX7_cleansFor_12 rfl (lv_at hl 1 rfl) ?_
  obtain ⟨hi4, h⟩ := wr_use h
  refine is_ (ws' := [(a_o, .inr (6, [.ref a_o_now, .ref a_o_aside, .ref a_o_past, .int (o_states), .ref a_o_refusals, .ref a_o_text, .int (o_bytes), .ref a_o_tried, .int (o_triedMany), .ref a_o_shuffled, .ref a_o_letters, .ref a_o_numbers, .int (o_orders), .int (o_spot), .int (o_wrongAt), .long (o_hash)])), (a_o_now, .inl (cI, 52, .inl (o_now))), (a_o_tried, .inl (cI, 9, .inl ((upd (upd o_tried (0 : Int32).toNatClampNeg x2) (1 : Int32).toNatClampNeg x1))))]) hx hb hK hP hD hS 2 rfl rfl hi4 dX7_cleansFor_13 (fun H locs hP hD hS => ?_)
  refine lv_aload_n hx hb dX7_cleansFor_14 rfl (lv_at hl 0 rfl) ?_
  refine lv_iconst (v := (2 : Int32)) hx hb dX7_cleansFor_15 (by decide) ?_
  refine pfX7_8 (ws' := [(a_o, .inr (6, [.ref a_o_now, .ref a_o_aside, .ref a_o_past, .int (o_states), .ref a_o_refusals, .ref a_o_text, .int (o_bytes), .ref a_o_tried, .int ((2 : Int32)), .ref a_o_shuffled, .ref a_o_letters, .ref a_o_numbers, .int (o_orders), .int (o_spot), .int (o_wrongAt), .long (o_hash)])), (a_o_now, .inl (cI, 52, .inl (o_now))), (a_o_tried, .inl (cI, 9, .inl ((upd (upd o_tried (0 : Int32).toNatClampNeg x2) (1 : Int32).toNatClampNeg x1))))]) hx hb hts hown hK hP hD hS 0 rfl rfl wfX7_60 dX7_cleansFor_16 (fun H locs hP hD hS => ?_)
  refine lv_aload_n hx hb dX7_cleansFor_19 rfl (lv_at hl 0 rfl) ?_
  refine lv_iload_n hx hb dX7_cleansFor_20 rfl (lv_at hl 3 rfl) ?_
  obtain ⟨r5, hc6, h⟩ := bd1_use h
  refine ro_V (As := [.int x3]) (rest := []) S (c_X7_isFlipped l D cI cS a_o a_o_now a_o_tried a_o_aside a_o_past a_o_refusals a_o_text a_o_shuffled a_o_letters a_o_numbers o_states o_bytes (2 : Int32) o_orders o_spot o_wrongAt o_hash o_now (upd (upd o_tried (0 : Int32).toNatClampNeg x2) (1 : Int32).toNatClampNeg x1) x3 r5 hc6) (cwV1 hts cvX7_isFlipped wmX7_74 rfl rfl ⟨(Nat.le_of_ble_eq_true rfl), (Nat.le_of_ble_eq_true rfl)⟩) hK hP [0, 1, 2] rfl 0 rfl rfl rfl rfl hl.1 rfl (Nat.le_of_ble_eq_true rfl) dX7_cleansFor_21 ⟨Nat.zero_le _, Nat.zero_le _⟩ rfl ?_
  refine lv_if_ne (tgt := 31) hx hb dX7_cleansFor_24 (by decide) (fun c7 => ?_) (fun c7 => ?_)
  · have h := it_f c7 h
    refine lv_iconst (v := (0 : Int32)) hx hb dX7_cleansFor_31 (by decide) ?_
    cases h
    exact W.zret hx hb hr rfl (fun t ht _ => ⟨rfl, by rw [ht]; exact hP, hS.F ht⟩) hS.2.2 dX7_cleansFor_32
  · have h := it_t c7 h
    refine lv_iconst (v := (1 : Int32)) hx hb dX7_cleansFor_27 (by decide) ?_
    refine lv_goto (tgt := 32) hx hb dX7_cleansFor_28 (by decide) ?_
    cases h
    exact W.zret hx hb hr rfl (fun t ht _ => ⟨rfl, by rw [ht]; exact hP, hS.F ht⟩) hS.2.2 dX7_cleansFor_32
def b_X7_cleans_37 (o_now : Ar) (x1 : Int32) (x2 : Int32) : Nat → Int32 → Int32 → Int32 → Ar → Ar → Option (Int32 × Int32 × Ar × Ar)
  | 0, _, _, _, _, _ => none
  | n + 1, v3, v4, o_triedMany, o_refusals, o_tried => rd o_now 52 (0 : Int32) (fun rv1 => (if rv1 ≤ v4 then some (v3, o_triedMany, o_refusals, o_tried) else (if v4 = x1 then nm (v3 ||| (0 : Int32)) (fun y5 => nm (v4 + (1 : Int32)) (fun y6 => b_X7_cleans_37 o_now x1 x2 n y5 y6 o_triedMany o_refusals o_tried)) else (if v4 = x2 then nm (v3 ||| (0 : Int32)) (fun y8 => nm (v4 + (1 : Int32)) (fun y9 => b_X7_cleans_37 o_now x1 x2 n y8 y9 o_triedMany o_refusals o_tried)) else bd3 (f_X7_cleansFor o_triedMany o_now o_tried v4 x1 x2) (fun r10 w11 w12 => (if (b2i r10) = (0 : Int32) then nm (v3 ||| (0 : Int32)) (fun y15 => nm (v4 + (1 : Int32)) (fun y16 => b_X7_cleans_37 o_now x1 x2 n y15 y16 w11 o_refusals w12)) else nm (v3 ||| ((1 : Int32) <<< (v4 &&& (31 : Int32)))) (fun y17 => nm (v4 + (1 : Int32)) (fun y18 => b_X7_cleans_37 o_now x1 x2 n y17 y18 w11 o_refusals w12))))))))
def f_X7_cleans (o_triedMany : Int32) (o_now : Ar) (o_refusals : Ar) (o_tried : Ar) (x1 : Int32) (x2 : Int32) : Option (Int32 × Int32 × Ar × Ar) := bd1 (f_X7_areTwo o_now x1 x2) (fun r19 => (if (b2i r19) = (0 : Int32) then bd2 (f_X7_refuses o_refusals (-2 : Int32)) (fun r30 w31 => some (r30, o_triedMany, w31, o_tried)) else bd3 (f_X7_soilsFor o_triedMany o_now o_tried x1 x2) (fun r22 w23 w24 => (if (b2i r22) = (0 : Int32) then bd2 (f_X7_refuses o_refusals (-3 : Int32)) (fun r27 w28 => some (r27, w23, w28, w24)) else b_X7_cleans_37 o_now x1 x2 FU (0 : Int32) (0 : Int32) w23 o_refusals w24))))
set_option maxHeartbeats 4000000 in
set_option maxRecDepth 100000 in
theorem c_X7_cleans (l : Launch) (D : va_G) (cI cS : ClassId) (a_o : Nat) (a_o_now : Nat) (a_o_refusals : Nat) (a_o_tried : Nat) (a_o_aside : Nat) (a_o_past : Nat) (a_o_text : Nat) (a_o_shuffled : Nat) (a_o_letters : Nat) (a_o_numbers : Nat) (o_states : Int32) (o_bytes : Int32) (o_triedMany : Int32) (o_orders : Int32) (o_spot : Int32) (o_wrongAt : Int32) (o_hash : Int64) (o_now : Ar) (o_refusals : Ar) (o_tried : Ar) (x1 : Int32) (x2 : Int32) (r0 : Int32) (o_triedMany' : Int32) (o_refusals' : Ar) (o_tried' : Ar) (h : f_X7_cleans o_triedMany o_now o_refusals o_tried x1 x2 = some (r0, o_triedMany', o_refusals', o_tried')) : wrM l D cI cS yX7_cleans cX7_cleans 5 (some .int) 6 133 [.ref a_o, .int x1, .int x2] [(a_o, .inr (6, [.ref a_o_now, .ref a_o_aside, .ref a_o_past, .int (o_states), .ref a_o_refusals, .ref a_o_text, .int (o_bytes), .ref a_o_tried, .int (o_triedMany), .ref a_o_shuffled, .ref a_o_letters, .ref a_o_numbers, .int (o_orders), .int (o_spot), .int (o_wrongAt), .long (o_hash)])), (a_o_now, .inl (cI, 52, .inl (o_now))), (a_o_refusals, .inl (cI, 3, .inl (o_refusals))), (a_o_tried, .inl (cI, 9, .inl (o_tried)))] [(a_o, .inr (6, [.ref a_o_now, .ref a_o_aside, .ref a_o_past, .int (o_states), .ref a_o_refusals, .ref a_o_text, .int (o_bytes), .ref a_o_tried, .int (o_triedMany'), .ref a_o_shuffled, .ref a_o_letters, .ref a_o_numbers, .int (o_orders), .int (o_spot), .int (o_wrongAt), .long (o_hash)])), (a_o_now, .inl (cI, 52, .inl (o_now))), (a_o_refusals, .inl (cI, 3, .inl (o_refusals'))), (a_o_tried, .inl (cI, 9, .inl (o_tried')))] (some (.int r0)) := by
  refine Met.ofW (cc := cX7_cleans) (maxL := 5) (ret := (some .int)) (by decide) rfl ?_
  intro p e s m args below meth c s₁ B hml hv
  obtain ⟨rfl, hP, hK, hD0⟩ := hv
  have hx := B.exec
  have hb := B.bytes
  have hr := B.returns
  have hts : ∀ w ∈ GW, w.before _ s = true := fun w hw => atoms_spec (ws := mws yX7_cleans cX7_cleans 5 (some .int)) B.pre w (List.mem_cons_of_mem _ hw)
  have hown : s.vm.findClass RX7 = some m.cls := findClass_of_methodNamed B.named
  have hlocks := B.notSynchronized
  have hD := inW_self hD0
  generalize hAe : inW [(a_o, .inr (6, [.ref a_o_now, .ref a_o_aside, .ref a_o_past, .int (o_states), .ref a_o_refusals, .ref a_o_text, .int (o_bytes), .ref a_o_tried, .int (o_triedMany), .ref a_o_shuffled, .ref a_o_letters, .ref a_o_numbers, .int (o_orders), .int (o_spot), .int (o_wrongAt), .long (o_hash)])), (a_o_now, .inl (cI, 52, .inl (o_now))), (a_o_refusals, .inl (cI, 3, .inl (o_refusals))), (a_o_tried, .inl (cI, 9, .inl (o_tried)))] = A at hD ⊢
  have hS : va_S A s.heap s.heap [] := va_S.rf
  have hl := lv_entry ([.ref a_o, .int x1, .int x2]) (n := 5) (Nat.le_of_ble_eq_true rfl)
  rw [lg_entry_eq]
  generalize (lg_sl ([.ref a_o, .int x1, .int x2]) ++ List.replicate (5 - (lg_sl ([.ref a_o, .int x1, .int x2])).length) Slot.unset).toArray = ls at hl ⊢
  have hl : lv_has ls 5 [(0, .ref a_o), (1, .int x1), (2, .int x2)] := hl
  have S : CallFix p m c cX7_cleans 5 s _ GW RX7 := ⟨hx, hb, hml, hown, hts⟩
  have L_37 : ∀ (n : Nat) (v3 : Int32) (v4 : Int32) (o_triedMany : Int32) (o_refusals : Ar) (o_tried : Ar), b_X7_cleans_37 o_now x1 x2 n v3 v4 o_triedMany o_refusals o_tried = some (r0, o_triedMany', o_refusals', o_tried') → ∀ (H : Heap) (locs : List Loc), va_P D vwCl [(a_o, .inr (6, [.ref a_o_now, .ref a_o_aside, .ref a_o_past, .int (o_states), .ref a_o_refusals, .ref a_o_text, .int (o_bytes), .ref a_o_tried, .int (o_triedMany), .ref a_o_shuffled, .ref a_o_letters, .ref a_o_numbers, .int (o_orders), .int (o_spot), .int (o_wrongAt), .long (o_hash)])), (a_o_now, .inl (cI, 52, .inl (o_now))), (a_o_refusals, .inl (cI, 3, .inl (o_refusals))), (a_o_tried, .inl (cI, 9, .inl (o_tried)))] H → va_D A [(a_o, .inr (6, [.ref a_o_now, .ref a_o_aside, .ref a_o_past, .int (o_states), .ref a_o_refusals, .ref a_o_text, .int (o_bytes), .ref a_o_tried, .int (o_triedMany), .ref a_o_shuffled, .ref a_o_letters, .ref a_o_numbers, .int (o_orders), .int (o_spot), .int (o_wrongAt), .long (o_hash)])), (a_o_now, .inl (cI, 52, .inl (o_now))), (a_o_refusals, .inl (cI, 3, .inl (o_refusals))), (a_o_tried, .inl (cI, 9, .inl (o_tried)))] → va_S A s.heap H locs → ∀ (ls : Array Slot), lv_has ls 5 [(0, .ref a_o), (1, .int x1), (2, .int x2), (3, .int v3), (4, .int v4)] → W p l e (headSpec (mws yX7_cleans cX7_cleans 5 (some .int)) { frames := 6, cells := 0, slots := 0, locals := 133 }).room s m [.ref a_o, .int x1, .int x2].toArray below meth c H locs 0 0 (MQ below (wrQ D A [(a_o, .inr (6, [.ref a_o_now, .ref a_o_aside, .ref a_o_past, .int (o_states), .ref a_o_refusals, .ref a_o_text, .int (o_bytes), .ref a_o_tried, .int (o_triedMany'), .ref a_o_shuffled, .ref a_o_letters, .ref a_o_numbers, .int (o_orders), .int (o_spot), .int (o_wrongAt), .long (o_hash)])), (a_o_now, .inl (cI, 52, .inl (o_now))), (a_o_refusals, .inl (cI, 3, .inl (o_refusals'))), (a_o_tried, .inl (cI, 9, .inl (o_tried')))] (some (.int r0))) [.ref a_o, .int x1, .int x2].toArray s 0 0 A) (F0 m 37 ls []) := by
    intro n
    induction n with
    | zero =>
      intro v3 v4 o_triedMany o_refusals o_tried h
      exact nn_no h
    | succ n ih =>
      intro v3 v4 o_triedMany o_refusals o_tried h H locs hP hD hS ls hl
      rw [b_X7_cleans_37] at h
      refine lv_iload hx hb dX7_cleans_37 (lv_at hl 4 rfl) ?_
      refine lv_aload_n hx hb dX7_cleans_39 rfl (lv_at hl 0 rfl) ?_
      refine gfX7_0 hx hb hts hown hK hP 0 rfl wfX7_7 dX7_cleans_40 ?_
      refine lv_iconst (v := (0 : Int32)) hx hb dX7_cleans_43 (by decide) ?_
      obtain ⟨hi2, h⟩ := rd_use h
      refine ia_ hx hb hK hP 1 rfl hi2 dX7_cleans_44 ?_
      refine lv_icmp_ge (tgt := 88) hx hb dX7_cleans_45 (by decide) (fun c3 => ?_) (fun c3 => ?_)
      · have h := it_t c3 h
        refine lv_iload_n hx hb dX7_cleans_88 rfl (lv_at hl 3 rfl) ?_
        cases h
        exact W.iret hx hb hr (fun t ht _ => ⟨rfl, by rw [ht]; exact hP, hS.F ht⟩) hS.2.2 dX7_cleans_89
      · have h := it_f c3 h
        refine lv_iload_n hx hb dX7_cleans_48 rfl (lv_at hl 3 rfl) ?_
        refine lv_iload hx hb dX7_cleans_49 (lv_at hl 4 rfl) ?_
        refine lv_iload_n hx hb dX7_cleans_51 rfl (lv_at hl 1 rfl) ?_
        refine lv_icmp_eq (tgt := 79) hx hb dX7_cleans_52 (by decide) (fun c4 => ?_) (fun c4 => ?_)
        · have h := it_t c4 h
          refine lv_iconst (v := (0 : Int32)) hx hb dX7_cleans_79 (by decide) ?_
          refine lv_ior hx hb dX7_cleans_80 ?_
          refine lv_topi (fun y5 ey5 => ?_)
          have h := nm_use h ey5
          refine lv_istore_n (lv' := [(3, .int y5), (0, .ref a_o), (1, .int x1), (2, .int x2), (4, .int v4)]) hx hb dX7_cleans_81 rfl hl (by decide) rfl (fun ls hl => ?_)
          obtain ⟨y6, ey6⟩ : ∃ z : Int32, z = v4 + (1 : Int32) := ⟨_, rfl⟩
          have h := nm_use h ey6
          refine lv_iinc (v := y6) (lv' := [(4, .int y6), (3, .int y5), (0, .ref a_o), (1, .int x1), (2, .int x2)]) hx hb dX7_cleans_82 hl (k := 4) rfl (by rw [ey6]; rfl) (by decide) rfl (fun ls hl => ?_)
          refine lv_goto (tgt := 37) hx hb dX7_cleans_85 (by decide) ?_
          exact ih _ _ _ _ _ h _ _ hP hD hS _ (lv_sub hl [2, 3, 4, 1, 0] rfl)
        · have h := it_f c4 h
          refine lv_iload hx hb dX7_cleans_55 (lv_at hl 4 rfl) ?_
          refine lv_iload_n hx hb dX7_cleans_57 rfl (lv_at hl 2 rfl) ?_
          refine lv_icmp_eq (tgt := 79) hx hb dX7_cleans_58 (by decide) (fun c7 => ?_) (fun c7 => ?_)
          · have h := it_t c7 h
            refine lv_iconst (v := (0 : Int32)) hx hb dX7_cleans_79 (by decide) ?_
            refine lv_ior hx hb dX7_cleans_80 ?_
            refine lv_topi (fun y8 ey8 => ?_)
            have h := nm_use h ey8
            refine lv_istore_n (lv' := [(3, .int y8), (0, .ref a_o), (1, .int x1), (2, .int x2), (4, .int v4)]) hx hb dX7_cleans_81 rfl hl (by decide) rfl (fun ls hl => ?_)
            obtain ⟨y9, ey9⟩ : ∃ z : Int32, z = v4 + (1 : Int32) := ⟨_, rfl⟩
            have h := nm_use h ey9
            refine lv_iinc (v := y9) (lv' := [(4, .int y9), (3, .int y8), (0, .ref a_o), (1, .int x1), (2, .int x2)]) hx hb dX7_cleans_82 hl (k := 4) rfl (by rw [ey9]; rfl) (by decide) rfl (fun ls hl => ?_)
            refine lv_goto (tgt := 37) hx hb dX7_cleans_85 (by decide) ?_
            exact ih _ _ _ _ _ h _ _ hP hD hS _ (lv_sub hl [2, 3, 4, 1, 0] rfl)
          · have h := it_f c7 h
            refine lv_aload_n hx hb dX7_cleans_61 rfl (lv_at hl 0 rfl) ?_
            refine lv_iload hx hb dX7_cleans_62 (lv_at hl 4 rfl) ?_
            refine lv_iload_n hx hb dX7_cleans_64 rfl (lv_at hl 1 rfl) ?_
            refine lv_iload_n hx hb dX7_cleans_65 rfl (lv_at hl 2 rfl) ?_
            obtain ⟨r10, w11, w12, hc13, h⟩ := bd3_use h
            refine wr_V (As := [.int v4, .int x1, .int x2]) (rest := [.int v3]) (ws' := [(a_o, .inr (6, [.ref a_o_now, .ref a_o_aside, .ref a_o_past, .int (o_states), .ref a_o_refusals, .ref a_o_text, .int (o_bytes), .ref a_o_tried, .int (w11), .ref a_o_shuffled, .ref a_o_letters, .ref a_o_numbers, .int (o_orders), .int (o_spot), .int (o_wrongAt), .long (o_hash)])), (a_o_now, .inl (cI, 52, .inl (o_now))), (a_o_refusals, .inl (cI, 3, .inl (o_refusals))), (a_o_tried, .inl (cI, 9, .inl (w12)))]) S (c_X7_cleansFor l D cI cS a_o a_o_now a_o_tried a_o_aside a_o_past a_o_refusals a_o_text a_o_shuffled a_o_letters a_o_numbers o_states o_bytes o_triedMany o_orders o_spot o_wrongAt o_hash o_now o_tried v4 x1 x2 r10 w11 w12 hc13) (cwV1 hts cvX7_cleansFor wmX7_159 rfl rfl ⟨(Nat.le_of_ble_eq_true rfl), (Nat.le_of_ble_eq_true rfl)⟩) hK hP hD hS [0, 1, 3] rfl rfl [(true, 0), (true, 1), (false, 2), (true, 2)] rfl rfl rfl 0 rfl rfl rfl rfl hl.1 rfl (Nat.le_of_ble_eq_true rfl) dX7_cleans_66 ⟨Nat.zero_le _, Nat.zero_le _⟩ rfl (fun H locs hP hD hS => ?_)
            refine lv_if_eq (tgt := 79) hx hb dX7_cleans_69 (by decide) (fun c14 => ?_) (fun c14 => ?_)
            · have h := it_t c14 h
              refine lv_iconst (v := (0 : Int32)) hx hb dX7_cleans_79 (by decide) ?_
              refine lv_ior hx hb dX7_cleans_80 ?_
              refine lv_topi (fun y15 ey15 => ?_)
              have h := nm_use h ey15
              refine lv_istore_n (lv' := [(3, .int y15), (0, .ref a_o), (1, .int x1), (2, .int x2), (4, .int v4)]) hx hb dX7_cleans_81 rfl hl (by decide) rfl (fun ls hl => ?_)
              obtain ⟨y16, ey16⟩ : ∃ z : Int32, z = v4 + (1 : Int32) := ⟨_, rfl⟩
              have h := nm_use h ey16
              refine lv_iinc (v := y16) (lv' := [(4, .int y16), (3, .int y15), (0, .ref a_o), (1, .int x1), (2, .int x2)]) hx hb dX7_cleans_82 hl (k := 4) rfl (by rw [ey16]; rfl) (by decide) rfl (fun ls hl => ?_)
              refine lv_goto (tgt := 37) hx hb dX7_cleans_85 (by decide) ?_
              exact ih _ _ _ _ _ h _ _ hP hD hS _ (lv_sub hl [2, 3, 4, 1, 0] rfl)
            · have h := it_f c14 h
              refine lv_iconst (v := (1 : Int32)) hx hb dX7_cleans_72 (by decide) ?_
              refine lv_iload hx hb dX7_cleans_73 (lv_at hl 4 rfl) ?_
              refine lv_ishl hx hb dX7_cleans_75 ?_
              refine lv_goto (tgt := 80) hx hb dX7_cleans_76 (by decide) ?_
              refine lv_ior hx hb dX7_cleans_80 ?_
              refine lv_topi (fun y17 ey17 => ?_)
              have h := nm_use h ey17
              refine lv_istore_n (lv' := [(3, .int y17), (0, .ref a_o), (1, .int x1), (2, .int x2), (4, .int v4)]) hx hb dX7_cleans_81 rfl hl (by decide) rfl (fun ls hl => ?_)
              obtain ⟨y18, ey18⟩ : ∃ z : Int32, z = v4 + (1 : Int32) := ⟨_, rfl⟩
              have h := nm_use h ey18
              refine lv_iinc (v := y18) (lv' := [(4, .int y18), (3, .int y17), (0, .ref a_o), (1, .int x1), (2, .int x2)]) hx hb dX7_cleans_82 hl (k := 4) rfl (by rw [ey18]; rfl) (by decide) rfl (fun ls hl => ?_)
              refine lv_goto (tgt := 37) hx hb dX7_cleans_85 (by decide) ?_
              exact ih _ _ _ _ _ h _ _ hP hD hS _ (lv_sub hl [2, 3, 4, 1, 0] rfl)
  unfold f_X7_cleans at h
  refine lv_aload_n hx hb dX7_cleans_0 rfl (lv_at hl 0 rfl) ?_
  refine lv_iload_n hx hb dX7_cleans_1 rfl (lv_at hl 1 rfl) ?_
  refine lv_iload_n hx hb dX7_cleans_2 rfl (lv_at hl 2 rfl) ?_
  obtain ⟨r19, hc20, h⟩ := bd1_use h
  refine ro_V (As := [.int x1, .int x2]) (rest := []) S (c_X7_areTwo l D cI cS a_o a_o_now a_o_aside a_o_past a_o_refusals a_o_text a_o_tried a_o_shuffled a_o_letters a_o_numbers o_states o_bytes o_triedMany o_orders o_spot o_wrongAt o_hash o_now x1 x2 r19 hc20) (cwV1 hts cvX7_areTwo wmX7_153 rfl rfl ⟨(Nat.le_of_ble_eq_true rfl), (Nat.le_of_ble_eq_true rfl)⟩) hK hP [0, 1] rfl 0 rfl rfl rfl rfl hl.1 rfl (Nat.le_of_ble_eq_true rfl) dX7_cleans_3 ⟨Nat.zero_le _, Nat.zero_le _⟩ rfl ?_
  refine lv_if_ne (tgt := 16) hx hb dX7_cleans_6 (by decide) (fun c21 => ?_) (fun c21 => ?_)
  · have h := it_f c21 h
    refine lv_aload_n hx hb dX7_cleans_16 rfl (lv_at hl 0 rfl) ?_
    refine lv_iload_n hx hb dX7_cleans_17 rfl (lv_at hl 1 rfl) ?_
    refine lv_iload_n hx hb dX7_cleans_18 rfl (lv_at hl 2 rfl) ?_
    obtain ⟨r22, w23, w24, hc25, h⟩ := bd3_use h
    refine wr_V (As := [.int x1, .int x2]) (rest := []) (ws' := [(a_o, .inr (6, [.ref a_o_now, .ref a_o_aside, .ref a_o_past, .int (o_states), .ref a_o_refusals, .ref a_o_text, .int (o_bytes), .ref a_o_tried, .int (w23), .ref a_o_shuffled, .ref a_o_letters, .ref a_o_numbers, .int (o_orders), .int (o_spot), .int (o_wrongAt), .long (o_hash)])), (a_o_now, .inl (cI, 52, .inl (o_now))), (a_o_refusals, .inl (cI, 3, .inl (o_refusals))), (a_o_tried, .inl (cI, 9, .inl (w24)))]) S (c_X7_soilsFor l D cI cS a_o a_o_now a_o_tried a_o_aside a_o_past a_o_refusals a_o_text a_o_shuffled a_o_letters a_o_numbers o_states o_bytes o_triedMany o_orders o_spot o_wrongAt o_hash o_now o_tried x1 x2 r22 w23 w24 hc25) (cwV1 hts cvX7_soilsFor wmX7_156 rfl rfl ⟨(Nat.le_of_ble_eq_true rfl), (Nat.le_of_ble_eq_true rfl)⟩) hK hP hD hS [0, 1, 3] rfl rfl [(true, 0), (true, 1), (false, 2), (true, 2)] rfl rfl rfl 0 rfl rfl rfl rfl hl.1 rfl (Nat.le_of_ble_eq_true rfl) dX7_cleans_19 ⟨Nat.zero_le _, Nat.zero_le _⟩ rfl (fun H locs hP hD hS => ?_)
    refine lv_if_ne (tgt := 32) hx hb dX7_cleans_22 (by decide) (fun c26 => ?_) (fun c26 => ?_)
    · have h := it_f c26 h
      refine lv_iconst (v := (0 : Int32)) hx hb dX7_cleans_32 (by decide) ?_
      refine lv_istore_n (lv' := [(3, .int (0 : Int32)), (0, .ref a_o), (1, .int x1), (2, .int x2)]) hx hb dX7_cleans_33 rfl hl (by decide) rfl (fun ls hl => ?_)
      refine lv_iconst (v := (0 : Int32)) hx hb dX7_cleans_34 (by decide) ?_
      refine lv_istore (lv' := [(4, .int (0 : Int32)), (3, .int (0 : Int32)), (0, .ref a_o), (1, .int x1), (2, .int x2)]) hx hb dX7_cleans_35 hl (by decide) rfl (fun ls hl => ?_)
      exact L_37 _ _ _ _ _ _ h _ _ hP hD hS _ (lv_sub hl [2, 3, 4, 1, 0] rfl)
    · have h := it_t c26 h
      refine lv_aload_n hx hb dX7_cleans_25 rfl (lv_at hl 0 rfl) ?_
      refine lv_bipush (v := (-3 : Int32)) hx hb dX7_cleans_26 (by decide) ?_
      obtain ⟨r27, w28, hc29, h⟩ := bd2_use h
      refine wr_V (As := [.int (-3 : Int32)]) (rest := []) (ws' := [(a_o, .inr (6, [.ref a_o_now, .ref a_o_aside, .ref a_o_past, .int (o_states), .ref a_o_refusals, .ref a_o_text, .int (o_bytes), .ref a_o_tried, .int (w23), .ref a_o_shuffled, .ref a_o_letters, .ref a_o_numbers, .int (o_orders), .int (o_spot), .int (o_wrongAt), .long (o_hash)])), (a_o_now, .inl (cI, 52, .inl (o_now))), (a_o_refusals, .inl (cI, 3, .inl (w28))), (a_o_tried, .inl (cI, 9, .inl (w24)))]) S (c_X7_refuses l D cI cS a_o a_o_refusals a_o_now a_o_aside a_o_past a_o_text a_o_tried a_o_shuffled a_o_letters a_o_numbers o_states o_bytes w23 o_orders o_spot o_wrongAt o_hash o_refusals (-3 : Int32) r27 w28 hc29) (cwV1 hts cvX7_refuses wmX7_41 rfl rfl ⟨(Nat.le_of_ble_eq_true rfl), (Nat.le_of_ble_eq_true rfl)⟩) hK hP hD hS [0, 2] rfl rfl [(true, 0), (false, 1), (true, 1), (false, 3)] rfl rfl rfl 0 rfl rfl rfl rfl hl.1 rfl (Nat.le_of_ble_eq_true rfl) dX7_cleans_28 ⟨Nat.zero_le _, Nat.zero_le _⟩ rfl (fun H locs hP hD hS => ?_)
      cases h
      exact W.iret hx hb hr (fun t ht _ => ⟨rfl, by rw [ht]; exact hP, hS.F ht⟩) hS.2.2 dX7_cleans_31
  · have h := it_t c21 h
    refine lv_aload_n hx hb dX7_cleans_9 rfl (lv_at hl 0 rfl) ?_
    refine lv_bipush (v := (-2 : Int32)) hx hb dX7_cleans_10 (by decide) ?_
    obtain ⟨r30, w31, hc32, h⟩ := bd2_use h
    refine wr_V (As := [.int (-2 : Int32)]) (rest := []) (ws' := [(a_o, .inr (6, [.ref a_o_now, .ref a_o_aside, .ref a_o_past, .int (o_states), .ref a_o_refusals, .ref a_o_text, .int (o_bytes), .ref a_o_tried, .int (o_triedMany), .ref a_o_shuffled, .ref a_o_letters, .ref a_o_numbers, .int (o_orders), .int (o_spot), .int (o_wrongAt), .long (o_hash)])), (a_o_now, .inl (cI, 52, .inl (o_now))), (a_o_refusals, .inl (cI, 3, .inl (w31))), (a_o_tried, .inl (cI, 9, .inl (o_tried)))]) S (c_X7_refuses l D cI cS a_o a_o_refusals a_o_now a_o_aside a_o_past a_o_text a_o_tried a_o_shuffled a_o_letters a_o_numbers o_states o_bytes o_triedMany o_orders o_spot o_wrongAt o_hash o_refusals (-2 : Int32) r30 w31 hc32) (cwV1 hts cvX7_refuses wmX7_41 rfl rfl ⟨(Nat.le_of_ble_eq_true rfl), (Nat.le_of_ble_eq_true rfl)⟩) hK hP hD hS [0, 2] rfl rfl [(true, 0), (false, 1), (true, 1), (false, 3)] rfl rfl rfl 0 rfl rfl rfl rfl hl.1 rfl (Nat.le_of_ble_eq_true rfl) dX7_cleans_12 ⟨Nat.zero_le _, Nat.zero_le _⟩ rfl (fun H locs hP hD hS => ?_)
    cases h
    exact W.iret hx hb hr (fun t ht _ => ⟨rfl, by rw [ht]; exact hP, hS.F ht⟩) hS.2.2 dX7_cleans_15
def f_X7_clear (o_bytes : Int32) : Option (Int32 × Int32) := some (o_bytes, (0 : Int32))
set_option maxHeartbeats 4000000 in
set_option maxRecDepth 100000 in
theorem c_X7_clear (l : Launch) (D : va_G) (cI cS : ClassId) (a_o : Nat) (a_o_now : Nat) (a_o_aside : Nat) (a_o_past : Nat) (a_o_refusals : Nat) (a_o_text : Nat) (a_o_tried : Nat) (a_o_shuffled : Nat) (a_o_letters : Nat) (a_o_numbers : Nat) (o_states : Int32) (o_bytes : Int32) (o_triedMany : Int32) (o_orders : Int32) (o_spot : Int32) (o_wrongAt : Int32) (o_hash : Int64) (r0 : Int32) (o_bytes' : Int32) (h : f_X7_clear o_bytes = some (r0, o_bytes')) : wrM l D cI cS yX7_clear cX7_clear 2 (some .int) 0 0 [.ref a_o] [(a_o, .inr (6, [.ref a_o_now, .ref a_o_aside, .ref a_o_past, .int (o_states), .ref a_o_refusals, .ref a_o_text, .int (o_bytes), .ref a_o_tried, .int (o_triedMany), .ref a_o_shuffled, .ref a_o_letters, .ref a_o_numbers, .int (o_orders), .int (o_spot), .int (o_wrongAt), .long (o_hash)]))] [(a_o, .inr (6, [.ref a_o_now, .ref a_o_aside, .ref a_o_past, .int (o_states), .ref a_o_refusals, .ref a_o_text, .int (o_bytes'), .ref a_o_tried, .int (o_triedMany), .ref a_o_shuffled, .ref a_o_letters, .ref a_o_numbers, .int (o_orders), .int (o_spot), .int (o_wrongAt), .long (o_hash)]))] (some (.int r0)) := by
  refine Met.ofW (cc := cX7_clear) (maxL := 2) (ret := (some .int)) (by decide) rfl ?_
  intro p e s m args below meth c s₁ B hml hv
  obtain ⟨rfl, hP, hK, hD0⟩ := hv
  have hx := B.exec
  have hb := B.bytes
  have hr := B.returns
  have hts : ∀ w ∈ GW, w.before _ s = true := fun w hw => atoms_spec (ws := mws yX7_clear cX7_clear 2 (some .int)) B.pre w (List.mem_cons_of_mem _ hw)
  have hown : s.vm.findClass RX7 = some m.cls := findClass_of_methodNamed B.named
  have hlocks := B.notSynchronized
  have hD := inW_self hD0
  generalize hAe : inW [(a_o, .inr (6, [.ref a_o_now, .ref a_o_aside, .ref a_o_past, .int (o_states), .ref a_o_refusals, .ref a_o_text, .int (o_bytes), .ref a_o_tried, .int (o_triedMany), .ref a_o_shuffled, .ref a_o_letters, .ref a_o_numbers, .int (o_orders), .int (o_spot), .int (o_wrongAt), .long (o_hash)]))] = A at hD ⊢
  have hS : va_S A s.heap s.heap [] := va_S.rf
  have hl := lv_entry ([.ref a_o]) (n := 2) (Nat.le_of_ble_eq_true rfl)
  rw [lg_entry_eq]
  generalize (lg_sl ([.ref a_o]) ++ List.replicate (2 - (lg_sl ([.ref a_o])).length) Slot.unset).toArray = ls at hl ⊢
  have hl : lv_has ls 2 [(0, .ref a_o)] := hl
  have S : CallFix p m c cX7_clear 2 s _ GW RX7 := ⟨hx, hb, hml, hown, hts⟩
  unfold f_X7_clear at h
  refine lv_aload_n hx hb dX7_clear_0 rfl (lv_at hl 0 rfl) ?_
  refine gfX7_6 hx hb hts hown hK hP 0 rfl wfX7_180 dX7_clear_1 ?_
  refine lv_istore_n (lv' := [(1, .int o_bytes), (0, .ref a_o)]) hx hb dX7_clear_4 rfl hl (by decide) rfl (fun ls hl => ?_)
  refine lv_aload_n hx hb dX7_clear_5 rfl (lv_at hl 1 rfl) ?_
  refine lv_iconst (v := (0 : Int32)) hx hb dX7_clear_6 (by decide) ?_
  refine pfX7_6 (ws' := [(a_o, .inr (6, [.ref a_o_now, .ref a_o_aside, .ref a_o_past, .int (o_states), .ref a_o_refusals, .ref a_o_text, .int ((0 : Int32)), .ref a_o_tried, .int (o_triedMany), .ref a_o_shuffled, .ref a_o_letters, .ref a_o_numbers, .int (o_orders), .int (o_spot), .int (o_wrongAt), .long (o_hash)]))]) hx hb hts hown hK hP hD hS 0 rfl rfl wfX7_180 dX7_clear_7 (fun H locs hP hD hS => ?_)
  refine lv_iload_n hx hb dX7_clear_10 rfl (lv_at hl 0 rfl) ?_
  cases h
  exact W.iret hx hb hr (fun t ht _ => ⟨rfl, by rw [ht]; exact hP, hS.F ht⟩) hS.2.2 dX7_clear_11
def f_X7_has (x1 : Int32) (x2 : Int32) : Option (Bool) := (if ((x1 >>> (x2 &&& (31 : Int32))) &&& (1 : Int32)) = (1 : Int32) then some (true) else some (false))
set_option maxHeartbeats 4000000 in
set_option maxRecDepth 100000 in
theorem c_X7_has (l : Launch) (D : va_G) (cI cS : ClassId) (x1 : Int32) (x2 : Int32) (r0 : Bool) (h : f_X7_has x1 x2 = some r0) : roM l D cI cS yX7_has cX7_has 2 (some .boolean) 0 0 [.int x1, .int x2] [] (some (.int (b2i r0))) := by
  refine Met.ofW (cc := cX7_has) (maxL := 2) (ret := (some .boolean)) (by decide) rfl ?_
  intro p e s m args below meth c s₁ B hml hv
  obtain ⟨rfl, hP, hK⟩ := hv
  have hx := B.exec
  have hb := B.bytes
  have hr := B.returns
  have hts : ∀ w ∈ GW, w.before _ s = true := fun w hw => atoms_spec (ws := mws yX7_has cX7_has 2 (some .boolean)) B.pre w (List.mem_cons_of_mem _ hw)
  have hown : s.vm.findClass RX7 = some m.cls := findClass_of_methodNamed B.named
  have hlocks := B.notSynchronized
  have hl := lv_entry ([.int x1, .int x2]) (n := 2) (Nat.le_of_ble_eq_true rfl)
  rw [lg_entry_eq]
  generalize (lg_sl ([.int x1, .int x2]) ++ List.replicate (2 - (lg_sl ([.int x1, .int x2])).length) Slot.unset).toArray = ls at hl ⊢
  have hl : lv_has ls 2 [(0, .int x1), (1, .int x2)] := hl
  have S : CallFix p m c cX7_has 2 s _ GW RX7 := ⟨hx, hb, hml, hown, hts⟩
  unfold f_X7_has at h
  refine lv_iload_n hx hb dX7_has_0 rfl (lv_at hl 0 rfl) ?_
  refine lv_iload_n hx hb dX7_has_1 rfl (lv_at hl 1 rfl) ?_
  refine lv_ishr hx hb dX7_has_2 ?_
  refine lv_iconst (v := (1 : Int32)) hx hb dX7_has_3 (by decide) ?_
  refine lv_iand hx hb dX7_has_4 ?_
  refine lv_iconst (v := (1 : Int32)) hx hb dX7_has_5 (by decide) ?_
  refine lv_icmp_ne (tgt := 13) hx hb dX7_has_6 (by decide) (fun c1 => ?_) (fun c1 => ?_)
  · have h := it_f c1 h
    refine lv_iconst (v := (0 : Int32)) hx hb dX7_has_13 (by decide) ?_
    exact W.zret hx hb hr rfl (fun t ht _ => ⟨congrArg (fun z => Outcome.returned (some (Value.int (b2i z)))) (Option.some.inj h), ht⟩) (fun q hq => by cases hq) dX7_has_14
  · have h := it_t c1 h
    refine lv_iconst (v := (1 : Int32)) hx hb dX7_has_9 (by decide) ?_
    refine lv_goto (tgt := 14) hx hb dX7_has_10 (by decide) ?_
    exact W.zret hx hb hr rfl (fun t ht _ => ⟨congrArg (fun z => Outcome.returned (some (Value.int (b2i z)))) (Option.some.inj h), ht⟩) (fun q hq => by cases hq) dX7_has_14
def b_X7_tries_7 (o_now : Ar) (x1 : Int32) (x2 : Int32) : Nat → Int32 → Int32 → Ar → Option (Int32 × Ar)
  | 0, _, _, _ => none
  | n + 1, v3, o_triedMany, o_tried => (if x1 ≤ v3 then some (o_triedMany, o_tried) else rd o_now 52 ((4 : Int32) + v3) (fun rv2 => bd1 (f_X7_has x2 rv2) (fun r4 => (if (b2i r4) = (0 : Int32) then nm (v3 + (1 : Int32)) (fun y7 => b_X7_tries_7 o_now x1 x2 n y7 o_triedMany o_tried) else rd o_now 52 ((4 : Int32) + v3) (fun rv8 => wr o_tried 9 o_triedMany rv8 (fun fv10 => nm (o_triedMany + (1 : Int32)) (fun y12 => nm (v3 + (1 : Int32)) (fun y13 => b_X7_tries_7 o_now x1 x2 n y13 y12 fv10))))))))
def f_X7_tries (o_triedMany : Int32) (o_now : Ar) (o_tried : Ar) (x1 : Int32) (x2 : Int32) : Option (Int32 × Ar) := b_X7_tries_7 o_now x1 x2 FU (0 : Int32) (0 : Int32) o_tried
set_option maxHeartbeats 4000000 in
set_option maxRecDepth 100000 in
theorem c_X7_tries (l : Launch) (D : va_G) (cI cS : ClassId) (a_o : Nat) (a_o_now : Nat) (a_o_tried : Nat) (a_o_aside : Nat) (a_o_past : Nat) (a_o_refusals : Nat) (a_o_text : Nat) (a_o_shuffled : Nat) (a_o_letters : Nat) (a_o_numbers : Nat) (o_states : Int32) (o_bytes : Int32) (o_triedMany : Int32) (o_orders : Int32) (o_spot : Int32) (o_wrongAt : Int32) (o_hash : Int64) (o_now : Ar) (o_tried : Ar) (x1 : Int32) (x2 : Int32) (o_triedMany' : Int32) (o_tried' : Ar) (h : f_X7_tries o_triedMany o_now o_tried x1 x2 = some (o_triedMany', o_tried')) : wrM l D cI cS yX7_tries cX7_tries 4 none 1 21 [.ref a_o, .int x1, .int x2] [(a_o, .inr (6, [.ref a_o_now, .ref a_o_aside, .ref a_o_past, .int (o_states), .ref a_o_refusals, .ref a_o_text, .int (o_bytes), .ref a_o_tried, .int (o_triedMany), .ref a_o_shuffled, .ref a_o_letters, .ref a_o_numbers, .int (o_orders), .int (o_spot), .int (o_wrongAt), .long (o_hash)])), (a_o_now, .inl (cI, 52, .inl (o_now))), (a_o_tried, .inl (cI, 9, .inl (o_tried)))] [(a_o, .inr (6, [.ref a_o_now, .ref a_o_aside, .ref a_o_past, .int (o_states), .ref a_o_refusals, .ref a_o_text, .int (o_bytes), .ref a_o_tried, .int (o_triedMany'), .ref a_o_shuffled, .ref a_o_letters, .ref a_o_numbers, .int (o_orders), .int (o_spot), .int (o_wrongAt), .long (o_hash)])), (a_o_now, .inl (cI, 52, .inl (o_now))), (a_o_tried, .inl (cI, 9, .inl (o_tried')))] none := by
  refine Met.ofW (cc := cX7_tries) (maxL := 4) (ret := none) (by decide) rfl ?_
  intro p e s m args below meth c s₁ B hml hv
  obtain ⟨rfl, hP, hK, hD0⟩ := hv
  have hx := B.exec
  have hb := B.bytes
  have hr := B.returns
  have hts : ∀ w ∈ GW, w.before _ s = true := fun w hw => atoms_spec (ws := mws yX7_tries cX7_tries 4 none) B.pre w (List.mem_cons_of_mem _ hw)
  have hown : s.vm.findClass RX7 = some m.cls := findClass_of_methodNamed B.named
  have hlocks := B.notSynchronized
  have hD := inW_self hD0
  generalize hAe : inW [(a_o, .inr (6, [.ref a_o_now, .ref a_o_aside, .ref a_o_past, .int (o_states), .ref a_o_refusals, .ref a_o_text, .int (o_bytes), .ref a_o_tried, .int (o_triedMany), .ref a_o_shuffled, .ref a_o_letters, .ref a_o_numbers, .int (o_orders), .int (o_spot), .int (o_wrongAt), .long (o_hash)])), (a_o_now, .inl (cI, 52, .inl (o_now))), (a_o_tried, .inl (cI, 9, .inl (o_tried)))] = A at hD ⊢
  have hS : va_S A s.heap s.heap [] := va_S.rf
  have hl := lv_entry ([.ref a_o, .int x1, .int x2]) (n := 4) (Nat.le_of_ble_eq_true rfl)
  rw [lg_entry_eq]
  generalize (lg_sl ([.ref a_o, .int x1, .int x2]) ++ List.replicate (4 - (lg_sl ([.ref a_o, .int x1, .int x2])).length) Slot.unset).toArray = ls at hl ⊢
  have hl : lv_has ls 4 [(0, .ref a_o), (1, .int x1), (2, .int x2)] := hl
  have S : CallFix p m c cX7_tries 4 s _ GW RX7 := ⟨hx, hb, hml, hown, hts⟩
  have L_7 : ∀ (n : Nat) (v3 : Int32) (o_triedMany : Int32) (o_tried : Ar), b_X7_tries_7 o_now x1 x2 n v3 o_triedMany o_tried = some (o_triedMany', o_tried') → ∀ (H : Heap) (locs : List Loc), va_P D vwCl [(a_o, .inr (6, [.ref a_o_now, .ref a_o_aside, .ref a_o_past, .int (o_states), .ref a_o_refusals, .ref a_o_text, .int (o_bytes), .ref a_o_tried, .int (o_triedMany), .ref a_o_shuffled, .ref a_o_letters, .ref a_o_numbers, .int (o_orders), .int (o_spot), .int (o_wrongAt), .long (o_hash)])), (a_o_now, .inl (cI, 52, .inl (o_now))), (a_o_tried, .inl (cI, 9, .inl (o_tried)))] H → va_D A [(a_o, .inr (6, [.ref a_o_now, .ref a_o_aside, .ref a_o_past, .int (o_states), .ref a_o_refusals, .ref a_o_text, .int (o_bytes), .ref a_o_tried, .int (o_triedMany), .ref a_o_shuffled, .ref a_o_letters, .ref a_o_numbers, .int (o_orders), .int (o_spot), .int (o_wrongAt), .long (o_hash)])), (a_o_now, .inl (cI, 52, .inl (o_now))), (a_o_tried, .inl (cI, 9, .inl (o_tried)))] → va_S A s.heap H locs → ∀ (ls : Array Slot), lv_has ls 4 [(0, .ref a_o), (1, .int x1), (2, .int x2), (3, .int v3)] → W p l e (headSpec (mws yX7_tries cX7_tries 4 none) { frames := 1, cells := 0, slots := 0, locals := 21 }).room s m [.ref a_o, .int x1, .int x2].toArray below meth c H locs 0 0 (MQ below (wrQ D A [(a_o, .inr (6, [.ref a_o_now, .ref a_o_aside, .ref a_o_past, .int (o_states), .ref a_o_refusals, .ref a_o_text, .int (o_bytes), .ref a_o_tried, .int (o_triedMany'), .ref a_o_shuffled, .ref a_o_letters, .ref a_o_numbers, .int (o_orders), .int (o_spot), .int (o_wrongAt), .long (o_hash)])), (a_o_now, .inl (cI, 52, .inl (o_now))), (a_o_tried, .inl (cI, 9, .inl (o_tried')))] none) [.ref a_o, .int x1, .int x2].toArray s 0 0 A) (F0 m 7 ls []) := by
    intro n
    induction n with
    | zero =>
      intro v3 o_triedMany o_tried h
      exact nn_no h
    | succ n ih =>
      intro v3 o_triedMany o_tried h H locs hP hD hS ls hl
      rw [b_X7_tries_7] at h
      refine lv_iload_n hx hb dX7_tries_7 rfl (lv_at hl 3 rfl) ?_
      refine lv_iload_n hx hb dX7_tries_8 rfl (lv_at hl 1 rfl) ?_
      refine lv_icmp_ge (tgt := 60) hx hb dX7_tries_9 (by decide) (fun c1 => ?_) (fun c1 => ?_)
      · have h := it_t c1 h
        cases h
        exact W.vret hx hb hr (fun t ht _ => ⟨rfl, by rw [ht]; exact hP, hS.F ht⟩) hS.2.2 dX7_tries_60
      · have h := it_f c1 h
        refine lv_iload_n hx hb dX7_tries_12 rfl (lv_at hl 2 rfl) ?_
        refine lv_aload_n hx hb dX7_tries_13 rfl (lv_at hl 0 rfl) ?_
        refine gfX7_0 hx hb hts hown hK hP 0 rfl wfX7_7 dX7_tries_14 ?_
        refine lv_iconst (v := (4 : Int32)) hx hb dX7_tries_17 (by decide) ?_
        refine lv_iload_n hx hb dX7_tries_18 rfl (lv_at hl 3 rfl) ?_
        refine lv_iadd hx hb dX7_tries_19 ?_
        obtain ⟨hi3, h⟩ := rd_use h
        refine ia_ hx hb hK hP 1 rfl hi3 dX7_tries_20 ?_
        obtain ⟨r4, hc5, h⟩ := bd1_use h
        refine ro_S (As := [.int x2, .int (o_now ((4 : Int32) + v3).toNatClampNeg)]) (rest := []) S (c_X7_has l D cI cS x2 (o_now ((4 : Int32) + v3).toNatClampNeg) r4 hc5) (cwS1 hts csX7_has wmX7_77 rfl rfl ⟨(Nat.le_of_ble_eq_true rfl), (Nat.le_of_ble_eq_true rfl)⟩) hK hP [] rfl rfl hl.1 rfl (Nat.le_of_ble_eq_true rfl) dX7_tries_21 ⟨Nat.zero_le _, Nat.zero_le _⟩ rfl ?_
        refine lv_if_eq (tgt := 54) hx hb dX7_tries_24 (by decide) (fun c6 => ?_) (fun c6 => ?_)
        · have h := it_t c6 h
          obtain ⟨y7, ey7⟩ : ∃ z : Int32, z = v3 + (1 : Int32) := ⟨_, rfl⟩
          have h := nm_use h ey7
          refine lv_iinc (v := y7) (lv' := [(3, .int y7), (0, .ref a_o), (1, .int x1), (2, .int x2)]) hx hb dX7_tries_54 hl (k := 3) rfl (by rw [ey7]; rfl) (by decide) rfl (fun ls hl => ?_)
          refine lv_goto (tgt := 7) hx hb dX7_tries_57 (by decide) ?_
          exact ih _ _ _ h _ _ hP hD hS _ (lv_sub hl [1, 2, 3, 0] rfl)
        · have h := it_f c6 h
          refine lv_aload_n hx hb dX7_tries_27 rfl (lv_at hl 0 rfl) ?_
          refine gfX7_7 hx hb hts hown hK hP 0 rfl wfX7_25 dX7_tries_28 ?_
          refine lv_aload_n hx hb dX7_tries_31 rfl (lv_at hl 0 rfl) ?_
          refine gfX7_8 hx hb hts hown hK hP 0 rfl wfX7_60 dX7_tries_32 ?_
          refine lv_aload_n hx hb dX7_tries_35 rfl (lv_at hl 0 rfl) ?_
          refine gfX7_0 hx hb hts hown hK hP 0 rfl wfX7_7 dX7_tries_36 ?_
          refine lv_iconst (v := (4 : Int32)) hx hb dX7_tries_39 (by decide) ?_
          refine lv_iload_n hx hb dX7_tries_40 rfl (lv_at hl 3 rfl) ?_
          refine lv_iadd hx hb dX7_tries_41 ?_
          obtain ⟨hi9, h⟩ := rd_use h
          refine ia_ hx hb hK hP 1 rfl hi9 dX7_tries_42 ?_
          obtain ⟨hi11, h⟩ := wr_use h
          refine is_ (ws' := [(a_o, .inr (6, [.ref a_o_now, .ref a_o_aside, .ref a_o_past, .int (o_states), .ref a_o_refusals, .ref a_o_text, .int (o_bytes), .ref a_o_tried, .int (o_triedMany), .ref a_o_shuffled, .ref a_o_letters, .ref a_o_numbers, .int (o_orders), .int (o_spot), .int (o_wrongAt), .long (o_hash)])), (a_o_now, .inl (cI, 52, .inl (o_now))), (a_o_tried, .inl (cI, 9, .inl ((upd o_tried o_triedMany.toNatClampNeg (o_now ((4 : Int32) + v3).toNatClampNeg)))))]) hx hb hK hP hD hS 2 rfl rfl hi11 dX7_tries_43 (fun H locs hP hD hS => ?_)
          refine lv_aload_n hx hb dX7_tries_44 rfl (lv_at hl 0 rfl) ?_
          refine lv_dup hx hb dX7_tries_45 rfl ?_
          refine gfX7_8 hx hb hts hown hK hP 0 rfl wfX7_60 dX7_tries_46 ?_
          refine lv_iconst (v := (1 : Int32)) hx hb dX7_tries_49 (by decide) ?_
          refine lv_iadd hx hb dX7_tries_50 ?_
          refine lv_topi (fun y12 ey12 => ?_)
          have h := nm_use h ey12
          refine pfX7_8 (ws' := [(a_o, .inr (6, [.ref a_o_now, .ref a_o_aside, .ref a_o_past, .int (o_states), .ref a_o_refusals, .ref a_o_text, .int (o_bytes), .ref a_o_tried, .int (y12), .ref a_o_shuffled, .ref a_o_letters, .ref a_o_numbers, .int (o_orders), .int (o_spot), .int (o_wrongAt), .long (o_hash)])), (a_o_now, .inl (cI, 52, .inl (o_now))), (a_o_tried, .inl (cI, 9, .inl ((upd o_tried o_triedMany.toNatClampNeg (o_now ((4 : Int32) + v3).toNatClampNeg)))))]) hx hb hts hown hK hP hD hS 0 rfl rfl wfX7_60 dX7_tries_51 (fun H locs hP hD hS => ?_)
          obtain ⟨y13, ey13⟩ : ∃ z : Int32, z = v3 + (1 : Int32) := ⟨_, rfl⟩
          have h := nm_use h ey13
          refine lv_iinc (v := y13) (lv' := [(3, .int y13), (0, .ref a_o), (1, .int x1), (2, .int x2)]) hx hb dX7_tries_54 hl (k := 3) rfl (by rw [ey13]; rfl) (by decide) rfl (fun ls hl => ?_)
          refine lv_goto (tgt := 7) hx hb dX7_tries_57 (by decide) ?_
          exact ih _ _ _ h _ _ hP hD hS _ (lv_sub hl [1, 2, 3, 0] rfl)
  unfold f_X7_tries at h
  refine lv_aload_n hx hb dX7_tries_0 rfl (lv_at hl 0 rfl) ?_
  refine lv_iconst (v := (0 : Int32)) hx hb dX7_tries_1 (by decide) ?_
  refine pfX7_8 (ws' := [(a_o, .inr (6, [.ref a_o_now, .ref a_o_aside, .ref a_o_past, .int (o_states), .ref a_o_refusals, .ref a_o_text, .int (o_bytes), .ref a_o_tried, .int ((0 : Int32)), .ref a_o_shuffled, .ref a_o_letters, .ref a_o_numbers, .int (o_orders), .int (o_spot), .int (o_wrongAt), .long (o_hash)])), (a_o_now, .inl (cI, 52, .inl (o_now))), (a_o_tried, .inl (cI, 9, .inl (o_tried)))]) hx hb hts hown hK hP hD hS 0 rfl rfl wfX7_60 dX7_tries_2 (fun H locs hP hD hS => ?_)
  refine lv_iconst (v := (0 : Int32)) hx hb dX7_tries_5 (by decide) ?_
  refine lv_istore_n (lv' := [(3, .int (0 : Int32)), (0, .ref a_o), (1, .int x1), (2, .int x2)]) hx hb dX7_tries_6 rfl hl (by decide) rfl (fun ls hl => ?_)
  exact L_7 _ _ _ _ h _ _ hP hD hS _ (lv_sub hl [1, 2, 3, 0] rfl)
def f_X7_placeTold (o_triedMany : Int32) (o_now : Ar) (o_tried : Ar) (x1 : Int32) (x2 : Int32) : Option (Int32 × Int32 × Ar) := rd o_now 52 ((4 : Int32) + x1) (fun rv1 => bd2 (f_X7_tries o_triedMany o_now o_tried x1 (255 : Int32)) (fun w3 w4 => bd1 (f_X7_behindTried w3 o_now w4) (fun r6 => (if x2 = (0 : Int32) then some (x1, w3, w4) else (if x2 = (1 : Int32) then bd1 (f_X7_passes o_now rv1 r6) (fun r24 => (if (b2i r24) = (0 : Int32) then some ((0 : Int32), w3, w4) else some ((1 : Int32), w3, w4))) else (if x2 = (2 : Int32) then bd1 (f_X7_passes o_now rv1 r6) (fun r19 => bd1 (f_X7_isAlone o_now rv1) (fun r21 => (if (b2i r19) = (b2i r21) then some ((0 : Int32), w3, w4) else some ((1 : Int32), w3, w4)))) else (if x2 = (3 : Int32) then bd1 (f_X7_ofTest o_now rv1 (0 : Int32)) (fun r14 => bd1 (f_X7_ofTest o_now rv1 (1 : Int32)) (fun r16 => nm ((r6 &&& r14) ||| ((r6 ^^^ (-1 : Int32)) &&& r16)) (fun y18 => some (y18, w3, w4)))) else bd1 (f_X7_behind o_now rv1 r6) (fun r8 => some (r8, w3, w4)))))))))
set_option maxHeartbeats 4000000 in
set_option maxRecDepth 100000 in
theorem c_X7_placeTold (l : Launch) (D : va_G) (cI cS : ClassId) (a_o : Nat) (a_o_now : Nat) (a_o_tried : Nat) (a_o_aside : Nat) (a_o_past : Nat) (a_o_refusals : Nat) (a_o_text : Nat) (a_o_shuffled : Nat) (a_o_letters : Nat) (a_o_numbers : Nat) (o_states : Int32) (o_bytes : Int32) (o_triedMany : Int32) (o_orders : Int32) (o_spot : Int32) (o_wrongAt : Int32) (o_hash : Int64) (o_now : Ar) (o_tried : Ar) (x1 : Int32) (x2 : Int32) (r0 : Int32) (o_triedMany' : Int32) (o_tried' : Ar) (h : f_X7_placeTold o_triedMany o_now o_tried x1 x2 = some (r0, o_triedMany', o_tried')) : wrM l D cI cS yX7_placeTold cX7_placeTold 5 (some .int) 4 89 [.ref a_o, .int x1, .int x2] [(a_o, .inr (6, [.ref a_o_now, .ref a_o_aside, .ref a_o_past, .int (o_states), .ref a_o_refusals, .ref a_o_text, .int (o_bytes), .ref a_o_tried, .int (o_triedMany), .ref a_o_shuffled, .ref a_o_letters, .ref a_o_numbers, .int (o_orders), .int (o_spot), .int (o_wrongAt), .long (o_hash)])), (a_o_now, .inl (cI, 52, .inl (o_now))), (a_o_tried, .inl (cI, 9, .inl (o_tried)))] [(a_o, .inr (6, [.ref a_o_now, .ref a_o_aside, .ref a_o_past, .int (o_states), .ref a_o_refusals, .ref a_o_text, .int (o_bytes), .ref a_o_tried, .int (o_triedMany'), .ref a_o_shuffled, .ref a_o_letters, .ref a_o_numbers, .int (o_orders), .int (o_spot), .int (o_wrongAt), .long (o_hash)])), (a_o_now, .inl (cI, 52, .inl (o_now))), (a_o_tried, .inl (cI, 9, .inl (o_tried')))] (some (.int r0)) := by
  refine Met.ofW (cc := cX7_placeTold) (maxL := 5) (ret := (some .int)) (by decide) rfl ?_
  intro p e s m args below meth c s₁ B hml hv
  obtain ⟨rfl, hP, hK, hD0⟩ := hv
  have hx := B.exec
  have hb := B.bytes
  have hr := B.returns
  have hts : ∀ w ∈ GW, w.before _ s = true := fun w hw => atoms_spec (ws := mws yX7_placeTold cX7_placeTold 5 (some .int)) B.pre w (List.mem_cons_of_mem _ hw)
  have hown : s.vm.findClass RX7 = some m.cls := findClass_of_methodNamed B.named
  have hlocks := B.notSynchronized
  have hD := inW_self hD0
  generalize hAe : inW [(a_o, .inr (6, [.ref a_o_now, .ref a_o_aside, .ref a_o_past, .int (o_states), .ref a_o_refusals, .ref a_o_text, .int (o_bytes), .ref a_o_tried, .int (o_triedMany), .ref a_o_shuffled, .ref a_o_letters, .ref a_o_numbers, .int (o_orders), .int (o_spot), .int (o_wrongAt), .long (o_hash)])), (a_o_now, .inl (cI, 52, .inl (o_now))), (a_o_tried, .inl (cI, 9, .inl (o_tried)))] = A at hD ⊢
  have hS : va_S A s.heap s.heap [] := va_S.rf
  have hl := lv_entry ([.ref a_o, .int x1, .int x2]) (n := 5) (Nat.le_of_ble_eq_true rfl)
  rw [lg_entry_eq]
  generalize (lg_sl ([.ref a_o, .int x1, .int x2]) ++ List.replicate (5 - (lg_sl ([.ref a_o, .int x1, .int x2])).length) Slot.unset).toArray = ls at hl ⊢
  have hl : lv_has ls 5 [(0, .ref a_o), (1, .int x1), (2, .int x2)] := hl
  have S : CallFix p m c cX7_placeTold 5 s _ GW RX7 := ⟨hx, hb, hml, hown, hts⟩
  unfold f_X7_placeTold at h
  refine lv_aload_n hx hb dX7_placeTold_0 rfl (lv_at hl 0 rfl) ?_
  refine gfX7_0 hx hb hts hown hK hP 0 rfl wfX7_7 dX7_placeTold_1 ?_
  refine lv_iconst (v := (4 : Int32)) hx hb dX7_placeTold_4 (by decide) ?_
  refine lv_iload_n hx hb dX7_placeTold_5 rfl (lv_at hl 1 rfl) ?_
  refine lv_iadd hx hb dX7_placeTold_6 ?_
  obtain ⟨hi2, h⟩ := rd_use h
  refine ia_ hx hb hK hP 1 rfl hi2 dX7_placeTold_7 ?_
  refine lv_istore_n (lv' := [(3, .int (o_now ((4 : Int32) + x1).toNatClampNeg)), (0, .ref a_o), (1, .int x1), (2, .int x2)]) hx hb dX7_placeTold_8 rfl hl (by decide) rfl (fun ls hl => ?_)
  refine lv_aload_n hx hb dX7_placeTold_9 rfl (lv_at hl 1 rfl) ?_
  refine lv_iload_n hx hb dX7_placeTold_10 rfl (lv_at hl 2 rfl) ?_
  refine lv_sipush (v := (255 : Int32)) hx hb dX7_placeTold_11 (by decide) ?_
  obtain ⟨w3, w4, hc5, h⟩ := bd2_use h
  refine wr_V (As := [.int x1, .int (255 : Int32)]) (rest := []) (ws' := [(a_o, .inr (6, [.ref a_o_now, .ref a_o_aside, .ref a_o_past, .int (o_states), .ref a_o_refusals, .ref a_o_text, .int (o_bytes), .ref a_o_tried, .int (w3), .ref a_o_shuffled, .ref a_o_letters, .ref a_o_numbers, .int (o_orders), .int (o_spot), .int (o_wrongAt), .long (o_hash)])), (a_o_now, .inl (cI, 52, .inl (o_now))), (a_o_tried, .inl (cI, 9, .inl (w4)))]) S (c_X7_tries l D cI cS a_o a_o_now a_o_tried a_o_aside a_o_past a_o_refusals a_o_text a_o_shuffled a_o_letters a_o_numbers o_states o_bytes o_triedMany o_orders o_spot o_wrongAt o_hash o_now o_tried x1 (255 : Int32) w3 w4 hc5) (cwV1 hts cvX7_tries wmX7_80 rfl rfl ⟨(Nat.le_of_ble_eq_true rfl), (Nat.le_of_ble_eq_true rfl)⟩) hK hP hD hS [0, 1, 2] rfl rfl [(true, 0), (true, 1), (true, 2)] rfl rfl rfl 0 rfl rfl rfl rfl hl.1 rfl (Nat.le_of_ble_eq_true rfl) dX7_placeTold_14 ⟨Nat.zero_le _, Nat.zero_le _⟩ rfl (fun H locs hP hD hS => ?_)
  refine lv_aload_n hx hb dX7_placeTold_17 rfl (lv_at hl 1 rfl) ?_
  obtain ⟨r6, hc7, h⟩ := bd1_use h
  refine ro_V (As := []) (rest := []) S (c_X7_behindTried l D cI cS a_o a_o_now a_o_tried a_o_aside a_o_past a_o_refusals a_o_text a_o_shuffled a_o_letters a_o_numbers o_states o_bytes w3 o_orders o_spot o_wrongAt o_hash o_now w4 r6 hc7) (cwV1 hts cvX7_behindTried wmX7_66 rfl rfl ⟨(Nat.le_of_ble_eq_true rfl), (Nat.le_of_ble_eq_true rfl)⟩) hK hP [0, 1, 2] rfl 0 rfl rfl rfl rfl hl.1 rfl (Nat.le_of_ble_eq_true rfl) dX7_placeTold_18 ⟨Nat.zero_le _, Nat.zero_le _⟩ rfl ?_
  refine lv_istore (lv' := [(4, .int r6), (3, .int (o_now ((4 : Int32) + x1).toNatClampNeg)), (0, .ref a_o), (1, .int x1), (2, .int x2)]) hx hb dX7_placeTold_21 hl (by decide) rfl (fun ls hl => ?_)
  refine lv_iload_n hx hb dX7_placeTold_23 rfl (lv_at hl 4 rfl) ?_
  by_cases c10 : x2 = (0 : Int32)
  · have h := it_t c10 h
    refine lv_tableIn (off := 32) (tgt := 56) hx hb dX7_placeTold_24 (by rw [c10]; decide) (by rw [c10]; decide) (by rw [c10]; rfl) (by decide) ?_
    refine lv_iload_n hx hb dX7_placeTold_56 rfl (lv_at hl 3 rfl) ?_
    cases h
    exact W.iret hx hb hr (fun t ht _ => ⟨rfl, by rw [ht]; exact hP, hS.F ht⟩) hS.2.2 dX7_placeTold_57
  · have h := it_f c10 h
    by_cases c11 : x2 = (1 : Int32)
    · have h := it_t c11 h
      refine lv_tableIn (off := 34) (tgt := 58) hx hb dX7_placeTold_24 (by rw [c11]; decide) (by rw [c11]; decide) (by rw [c11]; rfl) (by decide) ?_
      refine lv_aload_n hx hb dX7_placeTold_58 rfl (lv_at hl 2 rfl) ?_
      refine lv_iload_n hx hb dX7_placeTold_59 rfl (lv_at hl 1 rfl) ?_
      refine lv_iload hx hb dX7_placeTold_60 (lv_at hl 0 rfl) ?_
      obtain ⟨r24, hc25, h⟩ := bd1_use h
      refine ro_V (As := [.int (o_now ((4 : Int32) + x1).toNatClampNeg), .int r6]) (rest := []) S (c_X7_passes l D cI cS a_o a_o_now a_o_aside a_o_past a_o_refusals a_o_text a_o_tried a_o_shuffled a_o_letters a_o_numbers o_states o_bytes w3 o_orders o_spot o_wrongAt o_hash o_now (o_now ((4 : Int32) + x1).toNatClampNeg) r6 r24 hc25) (cwV1 hts cvX7_passes wmX7_56 rfl rfl ⟨(Nat.le_of_ble_eq_true rfl), (Nat.le_of_ble_eq_true rfl)⟩) hK hP [0, 1] rfl 0 rfl rfl rfl rfl hl.1 rfl (Nat.le_of_ble_eq_true rfl) dX7_placeTold_62 ⟨Nat.zero_le _, Nat.zero_le _⟩ rfl ?_
      refine lv_if_eq (tgt := 72) hx hb dX7_placeTold_65 (by decide) (fun c26 => ?_) (fun c26 => ?_)
      · have h := it_t c26 h
        refine lv_iconst (v := (0 : Int32)) hx hb dX7_placeTold_72 (by decide) ?_
        cases h
        exact W.iret hx hb hr (fun t ht _ => ⟨rfl, by rw [ht]; exact hP, hS.F ht⟩) hS.2.2 dX7_placeTold_73
      · have h := it_f c26 h
        refine lv_iconst (v := (1 : Int32)) hx hb dX7_placeTold_68 (by decide) ?_
        refine lv_goto (tgt := 73) hx hb dX7_placeTold_69 (by decide) ?_
        cases h
        exact W.iret hx hb hr (fun t ht _ => ⟨rfl, by rw [ht]; exact hP, hS.F ht⟩) hS.2.2 dX7_placeTold_73
    · have h := it_f c11 h
      by_cases c12 : x2 = (2 : Int32)
      · have h := it_t c12 h
        refine lv_tableIn (off := 50) (tgt := 74) hx hb dX7_placeTold_24 (by rw [c12]; decide) (by rw [c12]; decide) (by rw [c12]; rfl) (by decide) ?_
        refine lv_aload_n hx hb dX7_placeTold_74 rfl (lv_at hl 2 rfl) ?_
        refine lv_iload_n hx hb dX7_placeTold_75 rfl (lv_at hl 1 rfl) ?_
        refine lv_iload hx hb dX7_placeTold_76 (lv_at hl 0 rfl) ?_
        obtain ⟨r19, hc20, h⟩ := bd1_use h
        refine ro_V (As := [.int (o_now ((4 : Int32) + x1).toNatClampNeg), .int r6]) (rest := []) S (c_X7_passes l D cI cS a_o a_o_now a_o_aside a_o_past a_o_refusals a_o_text a_o_tried a_o_shuffled a_o_letters a_o_numbers o_states o_bytes w3 o_orders o_spot o_wrongAt o_hash o_now (o_now ((4 : Int32) + x1).toNatClampNeg) r6 r19 hc20) (cwV1 hts cvX7_passes wmX7_56 rfl rfl ⟨(Nat.le_of_ble_eq_true rfl), (Nat.le_of_ble_eq_true rfl)⟩) hK hP [0, 1] rfl 0 rfl rfl rfl rfl hl.1 rfl (Nat.le_of_ble_eq_true rfl) dX7_placeTold_78 ⟨Nat.zero_le _, Nat.zero_le _⟩ rfl ?_
        refine lv_aload_n hx hb dX7_placeTold_81 rfl (lv_at hl 2 rfl) ?_
        refine lv_iload_n hx hb dX7_placeTold_82 rfl (lv_at hl 1 rfl) ?_
        obtain ⟨r21, hc22, h⟩ := bd1_use h
        refine ro_V (As := [.int (o_now ((4 : Int32) + x1).toNatClampNeg)]) (rest := [.int (b2i r19)]) S (c_X7_isAlone l D cI cS a_o a_o_now a_o_aside a_o_past a_o_refusals a_o_text a_o_tried a_o_shuffled a_o_letters a_o_numbers o_states o_bytes w3 o_orders o_spot o_wrongAt o_hash o_now (o_now ((4 : Int32) + x1).toNatClampNeg) r21 hc22) (cwV1 hts cvX7_isAlone wmX7_70 rfl rfl ⟨(Nat.le_of_ble_eq_true rfl), (Nat.le_of_ble_eq_true rfl)⟩) hK hP [0, 1] rfl 0 rfl rfl rfl rfl hl.1 rfl (Nat.le_of_ble_eq_true rfl) dX7_placeTold_83 ⟨Nat.zero_le _, Nat.zero_le _⟩ rfl ?_
        refine lv_icmp_eq (tgt := 93) hx hb dX7_placeTold_86 (by decide) (fun c23 => ?_) (fun c23 => ?_)
        · have h := it_t c23 h
          refine lv_iconst (v := (0 : Int32)) hx hb dX7_placeTold_93 (by decide) ?_
          cases h
          exact W.iret hx hb hr (fun t ht _ => ⟨rfl, by rw [ht]; exact hP, hS.F ht⟩) hS.2.2 dX7_placeTold_94
        · have h := it_f c23 h
          refine lv_iconst (v := (1 : Int32)) hx hb dX7_placeTold_89 (by decide) ?_
          refine lv_goto (tgt := 94) hx hb dX7_placeTold_90 (by decide) ?_
          cases h
          exact W.iret hx hb hr (fun t ht _ => ⟨rfl, by rw [ht]; exact hP, hS.F ht⟩) hS.2.2 dX7_placeTold_94
      · have h := it_f c12 h
        by_cases c13 : x2 = (3 : Int32)
        · have h := it_t c13 h
          refine lv_tableIn (off := 71) (tgt := 95) hx hb dX7_placeTold_24 (by rw [c13]; decide) (by rw [c13]; decide) (by rw [c13]; rfl) (by decide) ?_
          refine lv_iload hx hb dX7_placeTold_95 (lv_at hl 0 rfl) ?_
          refine lv_aload_n hx hb dX7_placeTold_97 rfl (lv_at hl 2 rfl) ?_
          refine lv_iload_n hx hb dX7_placeTold_98 rfl (lv_at hl 1 rfl) ?_
          refine lv_iconst (v := (0 : Int32)) hx hb dX7_placeTold_99 (by decide) ?_
          obtain ⟨r14, hc15, h⟩ := bd1_use h
          refine ro_V (As := [.int (o_now ((4 : Int32) + x1).toNatClampNeg), .int (0 : Int32)]) (rest := [.int r6]) S (c_X7_ofTest l D cI cS a_o a_o_now a_o_aside a_o_past a_o_refusals a_o_text a_o_tried a_o_shuffled a_o_letters a_o_numbers o_states o_bytes w3 o_orders o_spot o_wrongAt o_hash o_now (o_now ((4 : Int32) + x1).toNatClampNeg) (0 : Int32) r14 hc15) (cwV1 hts cvX7_ofTest wmX7_52 rfl rfl ⟨(Nat.le_of_ble_eq_true rfl), (Nat.le_of_ble_eq_true rfl)⟩) hK hP [0, 1] rfl 0 rfl rfl rfl rfl hl.1 rfl (Nat.le_of_ble_eq_true rfl) dX7_placeTold_100 ⟨Nat.zero_le _, Nat.zero_le _⟩ rfl ?_
          refine lv_iand hx hb dX7_placeTold_103 ?_
          refine lv_iload hx hb dX7_placeTold_104 (lv_at hl 0 rfl) ?_
          refine lv_iconst (v := (-1 : Int32)) hx hb dX7_placeTold_106 (by decide) ?_
          refine lv_ixor hx hb dX7_placeTold_107 ?_
          refine lv_aload_n hx hb dX7_placeTold_108 rfl (lv_at hl 2 rfl) ?_
          refine lv_iload_n hx hb dX7_placeTold_109 rfl (lv_at hl 1 rfl) ?_
          refine lv_iconst (v := (1 : Int32)) hx hb dX7_placeTold_110 (by decide) ?_
          obtain ⟨r16, hc17, h⟩ := bd1_use h
          refine ro_V (As := [.int (o_now ((4 : Int32) + x1).toNatClampNeg), .int (1 : Int32)]) (rest := [.int (r6 ^^^ (-1 : Int32)), .int (r6 &&& r14)]) S (c_X7_ofTest l D cI cS a_o a_o_now a_o_aside a_o_past a_o_refusals a_o_text a_o_tried a_o_shuffled a_o_letters a_o_numbers o_states o_bytes w3 o_orders o_spot o_wrongAt o_hash o_now (o_now ((4 : Int32) + x1).toNatClampNeg) (1 : Int32) r16 hc17) (cwV1 hts cvX7_ofTest wmX7_52 rfl rfl ⟨(Nat.le_of_ble_eq_true rfl), (Nat.le_of_ble_eq_true rfl)⟩) hK hP [0, 1] rfl 0 rfl rfl rfl rfl hl.1 rfl (Nat.le_of_ble_eq_true rfl) dX7_placeTold_111 ⟨Nat.zero_le _, Nat.zero_le _⟩ rfl ?_
          refine lv_iand hx hb dX7_placeTold_114 ?_
          refine lv_ior hx hb dX7_placeTold_115 ?_
          refine lv_topi (fun y18 ey18 => ?_)
          have h := nm_use h ey18
          cases h
          exact W.iret hx hb hr (fun t ht _ => ⟨rfl, by rw [ht]; exact hP, hS.F ht⟩) hS.2.2 dX7_placeTold_116
        · have h := it_f c13 h
          refine lv_tableOut (tgt := 117) hx hb dX7_placeTold_24 (by have q0 := lv_neT c10 (a := 0) (by decide); have q1 := lv_neT c11 (a := 1) (by decide); have q2 := lv_neT c12 (a := 2) (by decide); have q3 := lv_neT c13 (a := 3) (by decide); omega) (by decide) ?_
          refine lv_aload_n hx hb dX7_placeTold_117 rfl (lv_at hl 2 rfl) ?_
          refine lv_iload_n hx hb dX7_placeTold_118 rfl (lv_at hl 1 rfl) ?_
          refine lv_iload hx hb dX7_placeTold_119 (lv_at hl 0 rfl) ?_
          obtain ⟨r8, hc9, h⟩ := bd1_use h
          refine ro_V (As := [.int (o_now ((4 : Int32) + x1).toNatClampNeg), .int r6]) (rest := []) S (c_X7_behind l D cI cS a_o a_o_now a_o_aside a_o_past a_o_refusals a_o_text a_o_tried a_o_shuffled a_o_letters a_o_numbers o_states o_bytes w3 o_orders o_spot o_wrongAt o_hash o_now (o_now ((4 : Int32) + x1).toNatClampNeg) r6 r8 hc9) (cwV1 hts cvX7_behind wmX7_63 rfl rfl ⟨(Nat.le_of_ble_eq_true rfl), (Nat.le_of_ble_eq_true rfl)⟩) hK hP [0, 1] rfl 0 rfl rfl rfl rfl hl.1 rfl (Nat.le_of_ble_eq_true rfl) dX7_placeTold_121 ⟨Nat.zero_le _, Nat.zero_le _⟩ rfl ?_
          cases h
          exact W.iret hx hb hr (fun t ht _ => ⟨rfl, by rw [ht]; exact hP, hS.F ht⟩) hS.2.2 dX7_placeTold_124
def b_X7_soilsAll_16 (o_now : Ar) (k_4 : Int32 → Int32 → Int32 → Ar → Option (Int32 × Int32 × Ar)) : Nat → Int32 → Int32 → Int32 → Int32 → Ar → Option (Int32 × Int32 × Ar)
  | 0, _, _, _, _, _ => none
  | n + 1, v1, v2, v3, o_triedMany, o_tried => rd o_now 52 (0 : Int32) (fun rv1 => (if rv1 ≤ v3 then nm (v2 + (1 : Int32)) (fun y4 => k_4 v1 y4 o_triedMany o_tried) else (if v2 = v3 then nm (v1 + (0 : Int32)) (fun y6 => nm (v3 + (1 : Int32)) (fun y7 => b_X7_soilsAll_16 o_now k_4 n y6 v2 y7 o_triedMany o_tried)) else bd3 (f_X7_soilsFor o_triedMany o_now o_tried v2 v3) (fun r8 w9 w10 => (if (b2i r8) = (0 : Int32) then nm (v1 + (0 : Int32)) (fun y13 => nm (v3 + (1 : Int32)) (fun y14 => b_X7_soilsAll_16 o_now k_4 n y13 v2 y14 w9 w10)) else nm (v1 + (1 : Int32)) (fun y15 => nm (v3 + (1 : Int32)) (fun y16 => b_X7_soilsAll_16 o_now k_4 n y15 v2 y16 w9 w10)))))))
def b_X7_soilsAll_4 (o_now : Ar) : Nat → Int32 → Int32 → Int32 → Ar → Option (Int32 × Int32 × Ar)
  | 0, _, _, _, _ => none
  | n + 1, v1, v2, o_triedMany, o_tried => rd o_now 52 (0 : Int32) (fun rv17 => (if rv17 ≤ v2 then some (v1, o_triedMany, o_tried) else b_X7_soilsAll_16 o_now (fun z0 z1 z2 z3 => b_X7_soilsAll_4 o_now n z0 z1 z2 z3) FU v1 v2 (0 : Int32) o_triedMany o_tried))
def f_X7_soilsAll (o_triedMany : Int32) (o_now : Ar) (o_tried : Ar) : Option (Int32 × Int32 × Ar) := b_X7_soilsAll_4 o_now FU (0 : Int32) (0 : Int32) o_triedMany o_tried
set_option maxHeartbeats 4000000 in
set_option maxRecDepth 100000 in
theorem c_X7_soilsAll (l : Launch) (D : va_G) (cI cS : ClassId) (a_o : Nat) (a_o_now : Nat) (a_o_tried : Nat) (a_o_aside : Nat) (a_o_past : Nat) (a_o_refusals : Nat) (a_o_text : Nat) (a_o_shuffled : Nat) (a_o_letters : Nat) (a_o_numbers : Nat) (o_states : Int32) (o_bytes : Int32) (o_triedMany : Int32) (o_orders : Int32) (o_spot : Int32) (o_wrongAt : Int32) (o_hash : Int64) (o_now : Ar) (o_tried : Ar) (r0 : Int32) (o_triedMany' : Int32) (o_tried' : Ar) (h : f_X7_soilsAll o_triedMany o_now o_tried = some (r0, o_triedMany', o_tried')) : wrM l D cI cS yX7_soilsAll cX7_soilsAll 4 (some .int) 6 132 [.ref a_o] [(a_o, .inr (6, [.ref a_o_now, .ref a_o_aside, .ref a_o_past, .int (o_states), .ref a_o_refusals, .ref a_o_text, .int (o_bytes), .ref a_o_tried, .int (o_triedMany), .ref a_o_shuffled, .ref a_o_letters, .ref a_o_numbers, .int (o_orders), .int (o_spot), .int (o_wrongAt), .long (o_hash)])), (a_o_now, .inl (cI, 52, .inl (o_now))), (a_o_tried, .inl (cI, 9, .inl (o_tried)))] [(a_o, .inr (6, [.ref a_o_now, .ref a_o_aside, .ref a_o_past, .int (o_states), .ref a_o_refusals, .ref a_o_text, .int (o_bytes), .ref a_o_tried, .int (o_triedMany'), .ref a_o_shuffled, .ref a_o_letters, .ref a_o_numbers, .int (o_orders), .int (o_spot), .int (o_wrongAt), .long (o_hash)])), (a_o_now, .inl (cI, 52, .inl (o_now))), (a_o_tried, .inl (cI, 9, .inl (o_tried')))] (some (.int r0)) := by
  refine Met.ofW (cc := cX7_soilsAll) (maxL := 4) (ret := (some .int)) (by decide) rfl ?_
  intro p e s m args below meth c s₁ B hml hv
  obtain ⟨rfl, hP, hK, hD0⟩ := hv
  have hx := B.exec
  have hb := B.bytes
  have hr := B.returns
  have hts : ∀ w ∈ GW, w.before _ s = true := fun w hw => atoms_spec (ws := mws yX7_soilsAll cX7_soilsAll 4 (some .int)) B.pre w (List.mem_cons_of_mem _ hw)
  have hown : s.vm.findClass RX7 = some m.cls := findClass_of_methodNamed B.named
  have hlocks := B.notSynchronized
  have hD := inW_self hD0
  generalize hAe : inW [(a_o, .inr (6, [.ref a_o_now, .ref a_o_aside, .ref a_o_past, .int (o_states), .ref a_o_refusals, .ref a_o_text, .int (o_bytes), .ref a_o_tried, .int (o_triedMany), .ref a_o_shuffled, .ref a_o_letters, .ref a_o_numbers, .int (o_orders), .int (o_spot), .int (o_wrongAt), .long (o_hash)])), (a_o_now, .inl (cI, 52, .inl (o_now))), (a_o_tried, .inl (cI, 9, .inl (o_tried)))] = A at hD ⊢
  have hS : va_S A s.heap s.heap [] := va_S.rf
  have hl := lv_entry ([.ref a_o]) (n := 4) (Nat.le_of_ble_eq_true rfl)
  rw [lg_entry_eq]
  generalize (lg_sl ([.ref a_o]) ++ List.replicate (4 - (lg_sl ([.ref a_o])).length) Slot.unset).toArray = ls at hl ⊢
  have hl : lv_has ls 4 [(0, .ref a_o)] := hl
  have S : CallFix p m c cX7_soilsAll 4 s _ GW RX7 := ⟨hx, hb, hml, hown, hts⟩
  have L_16 : ∀ (k_4 : Int32 → Int32 → Int32 → Ar → Option (Int32 × Int32 × Ar)) (hk_4 : ∀ (v1 : Int32) (v2 : Int32) (o_triedMany : Int32) (o_tried : Ar), k_4 v1 v2 o_triedMany o_tried = some (r0, o_triedMany', o_tried') → ∀ (H : Heap) (locs : List Loc), va_P D vwCl [(a_o, .inr (6, [.ref a_o_now, .ref a_o_aside, .ref a_o_past, .int (o_states), .ref a_o_refusals, .ref a_o_text, .int (o_bytes), .ref a_o_tried, .int (o_triedMany), .ref a_o_shuffled, .ref a_o_letters, .ref a_o_numbers, .int (o_orders), .int (o_spot), .int (o_wrongAt), .long (o_hash)])), (a_o_now, .inl (cI, 52, .inl (o_now))), (a_o_tried, .inl (cI, 9, .inl (o_tried)))] H → va_D A [(a_o, .inr (6, [.ref a_o_now, .ref a_o_aside, .ref a_o_past, .int (o_states), .ref a_o_refusals, .ref a_o_text, .int (o_bytes), .ref a_o_tried, .int (o_triedMany), .ref a_o_shuffled, .ref a_o_letters, .ref a_o_numbers, .int (o_orders), .int (o_spot), .int (o_wrongAt), .long (o_hash)])), (a_o_now, .inl (cI, 52, .inl (o_now))), (a_o_tried, .inl (cI, 9, .inl (o_tried)))] → va_S A s.heap H locs → ∀ (ls : Array Slot), lv_has ls 4 [(0, .ref a_o), (1, .int v1), (2, .int v2)] → W p l e (headSpec (mws yX7_soilsAll cX7_soilsAll 4 (some .int)) { frames := 6, cells := 0, slots := 0, locals := 132 }).room s m [.ref a_o].toArray below meth c H locs 0 0 (MQ below (wrQ D A [(a_o, .inr (6, [.ref a_o_now, .ref a_o_aside, .ref a_o_past, .int (o_states), .ref a_o_refusals, .ref a_o_text, .int (o_bytes), .ref a_o_tried, .int (o_triedMany'), .ref a_o_shuffled, .ref a_o_letters, .ref a_o_numbers, .int (o_orders), .int (o_spot), .int (o_wrongAt), .long (o_hash)])), (a_o_now, .inl (cI, 52, .inl (o_now))), (a_o_tried, .inl (cI, 9, .inl (o_tried')))] (some (.int r0))) [.ref a_o].toArray s 0 0 A) (F0 m 4 ls [])) (n : Nat) (v1 : Int32) (v2 : Int32) (v3 : Int32) (o_triedMany : Int32) (o_tried : Ar), b_X7_soilsAll_16 o_now k_4 n v1 v2 v3 o_triedMany o_tried = some (r0, o_triedMany', o_tried') → ∀ (H : Heap) (locs : List Loc), va_P D vwCl [(a_o, .inr (6, [.ref a_o_now, .ref a_o_aside, .ref a_o_past, .int (o_states), .ref a_o_refusals, .ref a_o_text, .int (o_bytes), .ref a_o_tried, .int (o_triedMany), .ref a_o_shuffled, .ref a_o_letters, .ref a_o_numbers, .int (o_orders), .int (o_spot), .int (o_wrongAt), .long (o_hash)])), (a_o_now, .inl (cI, 52, .inl (o_now))), (a_o_tried, .inl (cI, 9, .inl (o_tried)))] H → va_D A [(a_o, .inr (6, [.ref a_o_now, .ref a_o_aside, .ref a_o_past, .int (o_states), .ref a_o_refusals, .ref a_o_text, .int (o_bytes), .ref a_o_tried, .int (o_triedMany), .ref a_o_shuffled, .ref a_o_letters, .ref a_o_numbers, .int (o_orders), .int (o_spot), .int (o_wrongAt), .long (o_hash)])), (a_o_now, .inl (cI, 52, .inl (o_now))), (a_o_tried, .inl (cI, 9, .inl (o_tried)))] → va_S A s.heap H locs → ∀ (ls : Array Slot), lv_has ls 4 [(0, .ref a_o), (1, .int v1), (2, .int v2), (3, .int v3)] → W p l e (headSpec (mws yX7_soilsAll cX7_soilsAll 4 (some .int)) { frames := 6, cells := 0, slots := 0, locals := 132 }).room s m [.ref a_o].toArray below meth c H locs 0 0 (MQ below (wrQ D A [(a_o, .inr (6, [.ref a_o_now, .ref a_o_aside, .ref a_o_past, .int (o_states), .ref a_o_refusals, .ref a_o_text, .int (o_bytes), .ref a_o_tried, .int (o_triedMany'), .ref a_o_shuffled, .ref a_o_letters, .ref a_o_numbers, .int (o_orders), .int (o_spot), .int (o_wrongAt), .long (o_hash)])), (a_o_now, .inl (cI, 52, .inl (o_now))), (a_o_tried, .inl (cI, 9, .inl (o_tried')))] (some (.int r0))) [.ref a_o].toArray s 0 0 A) (F0 m 16 ls []) := by
    intro k_4 hk_4 n
    induction n with
    | zero =>
      intro v1 v2 v3 o_triedMany o_tried h
      exact nn_no h
    | succ n ih =>
      intro v1 v2 v3 o_triedMany o_tried h H locs hP hD hS ls hl
      rw [b_X7_soilsAll_16] at h
      refine lv_iload_n hx hb dX7_soilsAll_16 rfl (lv_at hl 3 rfl) ?_
      refine lv_aload_n hx hb dX7_soilsAll_17 rfl (lv_at hl 0 rfl) ?_
      refine gfX7_0 hx hb hts hown hK hP 0 rfl wfX7_7 dX7_soilsAll_18 ?_
      refine lv_iconst (v := (0 : Int32)) hx hb dX7_soilsAll_21 (by decide) ?_
      obtain ⟨hi2, h⟩ := rd_use h
      refine ia_ hx hb hK hP 1 rfl hi2 dX7_soilsAll_22 ?_
      refine lv_icmp_ge (tgt := 54) hx hb dX7_soilsAll_23 (by decide) (fun c3 => ?_) (fun c3 => ?_)
      · have h := it_t c3 h
        obtain ⟨y4, ey4⟩ : ∃ z : Int32, z = v2 + (1 : Int32) := ⟨_, rfl⟩
        have h := nm_use h ey4
        refine lv_iinc (v := y4) (lv' := [(2, .int y4), (0, .ref a_o), (1, .int v1), (3, .int v3)]) hx hb dX7_soilsAll_54 hl (k := 2) rfl (by rw [ey4]; rfl) (by decide) rfl (fun ls hl => ?_)
        refine lv_goto (tgt := 4) hx hb dX7_soilsAll_57 (by decide) ?_
        exact hk_4 _ _ _ _ h _ _ hP hD hS _ (lv_sub hl [1, 2, 0] rfl)
      · have h := it_f c3 h
        refine lv_iload_n hx hb dX7_soilsAll_26 rfl (lv_at hl 1 rfl) ?_
        refine lv_iload_n hx hb dX7_soilsAll_27 rfl (lv_at hl 2 rfl) ?_
        refine lv_iload_n hx hb dX7_soilsAll_28 rfl (lv_at hl 3 rfl) ?_
        refine lv_icmp_eq (tgt := 45) hx hb dX7_soilsAll_29 (by decide) (fun c5 => ?_) (fun c5 => ?_)
        · have h := it_t c5 h
          refine lv_iconst (v := (0 : Int32)) hx hb dX7_soilsAll_45 (by decide) ?_
          refine lv_iadd hx hb dX7_soilsAll_46 ?_
          refine lv_topi (fun y6 ey6 => ?_)
          have h := nm_use h ey6
          refine lv_istore_n (lv' := [(1, .int y6), (0, .ref a_o), (2, .int v2), (3, .int v3)]) hx hb dX7_soilsAll_47 rfl hl (by decide) rfl (fun ls hl => ?_)
          obtain ⟨y7, ey7⟩ : ∃ z : Int32, z = v3 + (1 : Int32) := ⟨_, rfl⟩
          have h := nm_use h ey7
          refine lv_iinc (v := y7) (lv' := [(3, .int y7), (1, .int y6), (0, .ref a_o), (2, .int v2)]) hx hb dX7_soilsAll_48 hl (k := 3) rfl (by rw [ey7]; rfl) (by decide) rfl (fun ls hl => ?_)
          refine lv_goto (tgt := 16) hx hb dX7_soilsAll_51 (by decide) ?_
          exact ih _ _ _ _ _ h _ _ hP hD hS _ (lv_sub hl [2, 1, 3, 0] rfl)
        · have h := it_f c5 h
          refine lv_aload_n hx hb dX7_soilsAll_32 rfl (lv_at hl 0 rfl) ?_
          refine lv_iload_n hx hb dX7_soilsAll_33 rfl (lv_at hl 2 rfl) ?_
          refine lv_iload_n hx hb dX7_soilsAll_34 rfl (lv_at hl 3 rfl) ?_
          obtain ⟨r8, w9, w10, hc11, h⟩ := bd3_use h
          refine wr_V (As := [.int v2, .int v3]) (rest := [.int v1]) (ws' := [(a_o, .inr (6, [.ref a_o_now, .ref a_o_aside, .ref a_o_past, .int (o_states), .ref a_o_refusals, .ref a_o_text, .int (o_bytes), .ref a_o_tried, .int (w9), .ref a_o_shuffled, .ref a_o_letters, .ref a_o_numbers, .int (o_orders), .int (o_spot), .int (o_wrongAt), .long (o_hash)])), (a_o_now, .inl (cI, 52, .inl (o_now))), (a_o_tried, .inl (cI, 9, .inl (w10)))]) S (c_X7_soilsFor l D cI cS a_o a_o_now a_o_tried a_o_aside a_o_past a_o_refusals a_o_text a_o_shuffled a_o_letters a_o_numbers o_states o_bytes o_triedMany o_orders o_spot o_wrongAt o_hash o_now o_tried v2 v3 r8 w9 w10 hc11) (cwV1 hts cvX7_soilsFor wmX7_156 rfl rfl ⟨(Nat.le_of_ble_eq_true rfl), (Nat.le_of_ble_eq_true rfl)⟩) hK hP hD hS [0, 1, 2] rfl rfl [(true, 0), (true, 1), (true, 2)] rfl rfl rfl 0 rfl rfl rfl rfl hl.1 rfl (Nat.le_of_ble_eq_true rfl) dX7_soilsAll_35 ⟨Nat.zero_le _, Nat.zero_le _⟩ rfl (fun H locs hP hD hS => ?_)
          refine lv_if_eq (tgt := 45) hx hb dX7_soilsAll_38 (by decide) (fun c12 => ?_) (fun c12 => ?_)
          · have h := it_t c12 h
            refine lv_iconst (v := (0 : Int32)) hx hb dX7_soilsAll_45 (by decide) ?_
            refine lv_iadd hx hb dX7_soilsAll_46 ?_
            refine lv_topi (fun y13 ey13 => ?_)
            have h := nm_use h ey13
            refine lv_istore_n (lv' := [(1, .int y13), (0, .ref a_o), (2, .int v2), (3, .int v3)]) hx hb dX7_soilsAll_47 rfl hl (by decide) rfl (fun ls hl => ?_)
            obtain ⟨y14, ey14⟩ : ∃ z : Int32, z = v3 + (1 : Int32) := ⟨_, rfl⟩
            have h := nm_use h ey14
            refine lv_iinc (v := y14) (lv' := [(3, .int y14), (1, .int y13), (0, .ref a_o), (2, .int v2)]) hx hb dX7_soilsAll_48 hl (k := 3) rfl (by rw [ey14]; rfl) (by decide) rfl (fun ls hl => ?_)
            refine lv_goto (tgt := 16) hx hb dX7_soilsAll_51 (by decide) ?_
            exact ih _ _ _ _ _ h _ _ hP hD hS _ (lv_sub hl [2, 1, 3, 0] rfl)
          · have h := it_f c12 h
            refine lv_iconst (v := (1 : Int32)) hx hb dX7_soilsAll_41 (by decide) ?_
            refine lv_goto (tgt := 46) hx hb dX7_soilsAll_42 (by decide) ?_
            refine lv_iadd hx hb dX7_soilsAll_46 ?_
            refine lv_topi (fun y15 ey15 => ?_)
            have h := nm_use h ey15
            refine lv_istore_n (lv' := [(1, .int y15), (0, .ref a_o), (2, .int v2), (3, .int v3)]) hx hb dX7_soilsAll_47 rfl hl (by decide) rfl (fun ls hl => ?_)
            obtain ⟨y16, ey16⟩ : ∃ z : Int32, z = v3 + (1 : Int32) := ⟨_, rfl⟩
            have h := nm_use h ey16
            refine lv_iinc (v := y16) (lv' := [(3, .int y16), (1, .int y15), (0, .ref a_o), (2, .int v2)]) hx hb dX7_soilsAll_48 hl (k := 3) rfl (by rw [ey16]; rfl) (by decide) rfl (fun ls hl => ?_)
            refine lv_goto (tgt := 16) hx hb dX7_soilsAll_51 (by decide) ?_
            exact ih _ _ _ _ _ h _ _ hP hD hS _ (lv_sub hl [2, 1, 3, 0] rfl)
  have L_4 : ∀ (n : Nat) (v1 : Int32) (v2 : Int32) (o_triedMany : Int32) (o_tried : Ar), b_X7_soilsAll_4 o_now n v1 v2 o_triedMany o_tried = some (r0, o_triedMany', o_tried') → ∀ (H : Heap) (locs : List Loc), va_P D vwCl [(a_o, .inr (6, [.ref a_o_now, .ref a_o_aside, .ref a_o_past, .int (o_states), .ref a_o_refusals, .ref a_o_text, .int (o_bytes), .ref a_o_tried, .int (o_triedMany), .ref a_o_shuffled, .ref a_o_letters, .ref a_o_numbers, .int (o_orders), .int (o_spot), .int (o_wrongAt), .long (o_hash)])), (a_o_now, .inl (cI, 52, .inl (o_now))), (a_o_tried, .inl (cI, 9, .inl (o_tried)))] H → va_D A [(a_o, .inr (6, [.ref a_o_now, .ref a_o_aside, .ref a_o_past, .int (o_states), .ref a_o_refusals, .ref a_o_text, .int (o_bytes), .ref a_o_tried, .int (o_triedMany), .ref a_o_shuffled, .ref a_o_letters, .ref a_o_numbers, .int (o_orders), .int (o_spot), .int (o_wrongAt), .long (o_hash)])), (a_o_now, .inl (cI, 52, .inl (o_now))), (a_o_tried, .inl (cI, 9, .inl (o_tried)))] → va_S A s.heap H locs → ∀ (ls : Array Slot), lv_has ls 4 [(0, .ref a_o), (1, .int v1), (2, .int v2)] → W p l e (headSpec (mws yX7_soilsAll cX7_soilsAll 4 (some .int)) { frames := 6, cells := 0, slots := 0, locals := 132 }).room s m [.ref a_o].toArray below meth c H locs 0 0 (MQ below (wrQ D A [(a_o, .inr (6, [.ref a_o_now, .ref a_o_aside, .ref a_o_past, .int (o_states), .ref a_o_refusals, .ref a_o_text, .int (o_bytes), .ref a_o_tried, .int (o_triedMany'), .ref a_o_shuffled, .ref a_o_letters, .ref a_o_numbers, .int (o_orders), .int (o_spot), .int (o_wrongAt), .long (o_hash)])), (a_o_now, .inl (cI, 52, .inl (o_now))), (a_o_tried, .inl (cI, 9, .inl (o_tried')))] (some (.int r0))) [.ref a_o].toArray s 0 0 A) (F0 m 4 ls []) := by
    intro n
    induction n with
    | zero =>
      intro v1 v2 o_triedMany o_tried h
      exact nn_no h
    | succ n ih =>
      intro v1 v2 o_triedMany o_tried h H locs hP hD hS ls hl
      rw [b_X7_soilsAll_4] at h
      refine lv_iload_n hx hb dX7_soilsAll_4 rfl (lv_at hl 2 rfl) ?_
      refine lv_aload_n hx hb dX7_soilsAll_5 rfl (lv_at hl 0 rfl) ?_
      refine gfX7_0 hx hb hts hown hK hP 0 rfl wfX7_7 dX7_soilsAll_6 ?_
      refine lv_iconst (v := (0 : Int32)) hx hb dX7_soilsAll_9 (by decide) ?_
      obtain ⟨hi18, h⟩ := rd_use h
      refine ia_ hx hb hK hP 1 rfl hi18 dX7_soilsAll_10 ?_
      refine lv_icmp_ge (tgt := 60) hx hb dX7_soilsAll_11 (by decide) (fun c19 => ?_) (fun c19 => ?_)
      · have h := it_t c19 h
        refine lv_iload_n hx hb dX7_soilsAll_60 rfl (lv_at hl 1 rfl) ?_
        cases h
        exact W.iret hx hb hr (fun t ht _ => ⟨rfl, by rw [ht]; exact hP, hS.F ht⟩) hS.2.2 dX7_soilsAll_61
      · have h := it_f c19 h
        refine lv_iconst (v := (0 : Int32)) hx hb dX7_soilsAll_14 (by decide) ?_
        refine lv_istore_n (lv' := [(3, .int (0 : Int32)), (0, .ref a_o), (1, .int v1), (2, .int v2)]) hx hb dX7_soilsAll_15 rfl hl (by decide) rfl (fun ls hl => ?_)
        exact L_16 _ ih _ _ _ _ _ _ h _ _ hP hD hS _ (lv_sub hl [1, 2, 3, 0] rfl)
  unfold f_X7_soilsAll at h
  refine lv_iconst (v := (0 : Int32)) hx hb dX7_soilsAll_0 (by decide) ?_
  refine lv_istore_n (lv' := [(1, .int (0 : Int32)), (0, .ref a_o)]) hx hb dX7_soilsAll_1 rfl hl (by decide) rfl (fun ls hl => ?_)
  refine lv_iconst (v := (0 : Int32)) hx hb dX7_soilsAll_2 (by decide) ?_
  refine lv_istore_n (lv' := [(2, .int (0 : Int32)), (1, .int (0 : Int32)), (0, .ref a_o)]) hx hb dX7_soilsAll_3 rfl hl (by decide) rfl (fun ls hl => ?_)
  exact L_4 _ _ _ _ _ h _ _ hP hD hS _ (lv_sub hl [2, 1, 0] rfl)
def b_X7_countTold_7 (o_now : Ar) (x1 : Int32) : Nat → Int32 → Int32 → Int32 → Int32 → Ar → Option (Int32 × Int32 × Ar)
  | 0, _, _, _, _, _ => none
  | n + 1, v2, v3, v4, o_triedMany, o_tried => rd o_now 52 (3 : Int32) (fun rv1 => (if rv1 ≤ v4 then (if x1 = (0 : Int32) then rd o_now 52 (0 : Int32) (fun rv28 => some (rv28, o_triedMany, o_tried)) else (if x1 = (1 : Int32) then rd o_now 52 (3 : Int32) (fun rv26 => some (rv26, o_triedMany, o_tried)) else (if x1 = (2 : Int32) then rd o_now 52 (1 : Int32) (fun rv24 => some (rv24, o_triedMany, o_tried)) else (if x1 = (3 : Int32) then rd o_now 52 (2 : Int32) (fun rv22 => some (rv22, o_triedMany, o_tried)) else (if x1 = (4 : Int32) then rd o_now 52 (3 : Int32) (fun rv15 => bd2 (f_X7_tries o_triedMany o_now o_tried rv15 (255 : Int32)) (fun w17 w18 => bd1 (f_X7_behindTried w17 o_now w18) (fun r20 => some (r20, w17, w18)))) else (if x1 = (5 : Int32) then some (v2, o_triedMany, o_tried) else (if x1 = (6 : Int32) then some (v3, o_triedMany, o_tried) else bd3 (f_X7_soilsAll o_triedMany o_now o_tried) (fun r4 w5 w6 => some (r4, w5, w6))))))))) else bd3 (f_X7_placeTold o_triedMany o_now o_tried v4 (1 : Int32)) (fun r30 w31 w32 => nm (v2 + r30) (fun y34 => bd3 (f_X7_placeTold w31 o_now w32 v4 (2 : Int32)) (fun r35 w36 w37 => nm (v3 + r35) (fun y39 => nm (v4 + (1 : Int32)) (fun y40 => b_X7_countTold_7 o_now x1 n y34 y39 y40 w36 w37)))))))
def f_X7_countTold (o_triedMany : Int32) (o_now : Ar) (o_tried : Ar) (x1 : Int32) : Option (Int32 × Int32 × Ar) := b_X7_countTold_7 o_now x1 FU (0 : Int32) (0 : Int32) (0 : Int32) o_triedMany o_tried
set_option maxHeartbeats 4000000 in
set_option maxRecDepth 100000 in
theorem c_X7_countTold (l : Launch) (D : va_G) (cI cS : ClassId) (a_o : Nat) (a_o_now : Nat) (a_o_tried : Nat) (a_o_aside : Nat) (a_o_past : Nat) (a_o_refusals : Nat) (a_o_text : Nat) (a_o_shuffled : Nat) (a_o_letters : Nat) (a_o_numbers : Nat) (o_states : Int32) (o_bytes : Int32) (o_triedMany : Int32) (o_orders : Int32) (o_spot : Int32) (o_wrongAt : Int32) (o_hash : Int64) (o_now : Ar) (o_tried : Ar) (x1 : Int32) (r0 : Int32) (o_triedMany' : Int32) (o_tried' : Ar) (h : f_X7_countTold o_triedMany o_now o_tried x1 = some (r0, o_triedMany', o_tried')) : wrM l D cI cS yX7_countTold cX7_countTold 5 (some .int) 7 155 [.ref a_o, .int x1] [(a_o, .inr (6, [.ref a_o_now, .ref a_o_aside, .ref a_o_past, .int (o_states), .ref a_o_refusals, .ref a_o_text, .int (o_bytes), .ref a_o_tried, .int (o_triedMany), .ref a_o_shuffled, .ref a_o_letters, .ref a_o_numbers, .int (o_orders), .int (o_spot), .int (o_wrongAt), .long (o_hash)])), (a_o_now, .inl (cI, 52, .inl (o_now))), (a_o_tried, .inl (cI, 9, .inl (o_tried)))] [(a_o, .inr (6, [.ref a_o_now, .ref a_o_aside, .ref a_o_past, .int (o_states), .ref a_o_refusals, .ref a_o_text, .int (o_bytes), .ref a_o_tried, .int (o_triedMany'), .ref a_o_shuffled, .ref a_o_letters, .ref a_o_numbers, .int (o_orders), .int (o_spot), .int (o_wrongAt), .long (o_hash)])), (a_o_now, .inl (cI, 52, .inl (o_now))), (a_o_tried, .inl (cI, 9, .inl (o_tried')))] (some (.int r0)) := by
  refine Met.ofW (cc := cX7_countTold) (maxL := 5) (ret := (some .int)) (by decide) rfl ?_
  intro p e s m args below meth c s₁ B hml hv
  obtain ⟨rfl, hP, hK, hD0⟩ := hv
  have hx := B.exec
  have hb := B.bytes
  have hr := B.returns
  have hts : ∀ w ∈ GW, w.before _ s = true := fun w hw => atoms_spec (ws := mws yX7_countTold cX7_countTold 5 (some .int)) B.pre w (List.mem_cons_of_mem _ hw)
  have hown : s.vm.findClass RX7 = some m.cls := findClass_of_methodNamed B.named
  have hlocks := B.notSynchronized
  have hD := inW_self hD0
  generalize hAe : inW [(a_o, .inr (6, [.ref a_o_now, .ref a_o_aside, .ref a_o_past, .int (o_states), .ref a_o_refusals, .ref a_o_text, .int (o_bytes), .ref a_o_tried, .int (o_triedMany), .ref a_o_shuffled, .ref a_o_letters, .ref a_o_numbers, .int (o_orders), .int (o_spot), .int (o_wrongAt), .long (o_hash)])), (a_o_now, .inl (cI, 52, .inl (o_now))), (a_o_tried, .inl (cI, 9, .inl (o_tried)))] = A at hD ⊢
  have hS : va_S A s.heap s.heap [] := va_S.rf
  have hl := lv_entry ([.ref a_o, .int x1]) (n := 5) (Nat.le_of_ble_eq_true rfl)
  rw [lg_entry_eq]
  generalize (lg_sl ([.ref a_o, .int x1]) ++ List.replicate (5 - (lg_sl ([.ref a_o, .int x1])).length) Slot.unset).toArray = ls at hl ⊢
  have hl : lv_has ls 5 [(0, .ref a_o), (1, .int x1)] := hl
  have S : CallFix p m c cX7_countTold 5 s _ GW RX7 := ⟨hx, hb, hml, hown, hts⟩
  have L_7 : ∀ (n : Nat) (v2 : Int32) (v3 : Int32) (v4 : Int32) (o_triedMany : Int32) (o_tried : Ar), b_X7_countTold_7 o_now x1 n v2 v3 v4 o_triedMany o_tried = some (r0, o_triedMany', o_tried') → ∀ (H : Heap) (locs : List Loc), va_P D vwCl [(a_o, .inr (6, [.ref a_o_now, .ref a_o_aside, .ref a_o_past, .int (o_states), .ref a_o_refusals, .ref a_o_text, .int (o_bytes), .ref a_o_tried, .int (o_triedMany), .ref a_o_shuffled, .ref a_o_letters, .ref a_o_numbers, .int (o_orders), .int (o_spot), .int (o_wrongAt), .long (o_hash)])), (a_o_now, .inl (cI, 52, .inl (o_now))), (a_o_tried, .inl (cI, 9, .inl (o_tried)))] H → va_D A [(a_o, .inr (6, [.ref a_o_now, .ref a_o_aside, .ref a_o_past, .int (o_states), .ref a_o_refusals, .ref a_o_text, .int (o_bytes), .ref a_o_tried, .int (o_triedMany), .ref a_o_shuffled, .ref a_o_letters, .ref a_o_numbers, .int (o_orders), .int (o_spot), .int (o_wrongAt), .long (o_hash)])), (a_o_now, .inl (cI, 52, .inl (o_now))), (a_o_tried, .inl (cI, 9, .inl (o_tried)))] → va_S A s.heap H locs → ∀ (ls : Array Slot), lv_has ls 5 [(0, .ref a_o), (1, .int x1), (2, .int v2), (3, .int v3), (4, .int v4)] → W p l e (headSpec (mws yX7_countTold cX7_countTold 5 (some .int)) { frames := 7, cells := 0, slots := 0, locals := 155 }).room s m [.ref a_o, .int x1].toArray below meth c H locs 0 0 (MQ below (wrQ D A [(a_o, .inr (6, [.ref a_o_now, .ref a_o_aside, .ref a_o_past, .int (o_states), .ref a_o_refusals, .ref a_o_text, .int (o_bytes), .ref a_o_tried, .int (o_triedMany'), .ref a_o_shuffled, .ref a_o_letters, .ref a_o_numbers, .int (o_orders), .int (o_spot), .int (o_wrongAt), .long (o_hash)])), (a_o_now, .inl (cI, 52, .inl (o_now))), (a_o_tried, .inl (cI, 9, .inl (o_tried')))] (some (.int r0))) [.ref a_o, .int x1].toArray s 0 0 A) (F0 m 7 ls []) := by
    intro n
    induction n with
    | zero =>
      intro v2 v3 v4 o_triedMany o_tried h
      exact nn_no h
    | succ n ih =>
      intro v2 v3 v4 o_triedMany o_tried h H locs hP hD hS ls hl
      rw [b_X7_countTold_7] at h
      refine lv_iload hx hb dX7_countTold_7 (lv_at hl 4 rfl) ?_
      refine lv_aload_n hx hb dX7_countTold_9 rfl (lv_at hl 0 rfl) ?_
      refine gfX7_0 hx hb hts hown hK hP 0 rfl wfX7_7 dX7_countTold_10 ?_
      refine lv_iconst (v := (3 : Int32)) hx hb dX7_countTold_13 (by decide) ?_
      obtain ⟨hi2, h⟩ := rd_use h
      refine ia_ hx hb hK hP 1 rfl hi2 dX7_countTold_14 ?_
      refine lv_icmp_ge (tgt := 44) hx hb dX7_countTold_15 (by decide) (fun c3 => ?_) (fun c3 => ?_)
      · have h := it_t c3 h
        refine lv_iload_n hx hb dX7_countTold_44 rfl (lv_at hl 1 rfl) ?_
        by_cases c8 : x1 = (0 : Int32)
        · have h := it_t c8 h
          refine lv_tableIn (off := 43) (tgt := 88) hx hb dX7_countTold_45 (by rw [c8]; decide) (by rw [c8]; decide) (by rw [c8]; rfl) (by decide) ?_
          refine lv_aload_n hx hb dX7_countTold_88 rfl (lv_at hl 0 rfl) ?_
          refine gfX7_0 hx hb hts hown hK hP 0 rfl wfX7_7 dX7_countTold_89 ?_
          refine lv_iconst (v := (0 : Int32)) hx hb dX7_countTold_92 (by decide) ?_
          obtain ⟨hi29, h⟩ := rd_use h
          refine ia_ hx hb hK hP 1 rfl hi29 dX7_countTold_93 ?_
          cases h
          exact W.iret hx hb hr (fun t ht _ => ⟨rfl, by rw [ht]; exact hP, hS.F ht⟩) hS.2.2 dX7_countTold_94
        · have h := it_f c8 h
          by_cases c9 : x1 = (1 : Int32)
          · have h := it_t c9 h
            refine lv_tableIn (off := 50) (tgt := 95) hx hb dX7_countTold_45 (by rw [c9]; decide) (by rw [c9]; decide) (by rw [c9]; rfl) (by decide) ?_
            refine lv_aload_n hx hb dX7_countTold_95 rfl (lv_at hl 0 rfl) ?_
            refine gfX7_0 hx hb hts hown hK hP 0 rfl wfX7_7 dX7_countTold_96 ?_
            refine lv_iconst (v := (3 : Int32)) hx hb dX7_countTold_99 (by decide) ?_
            obtain ⟨hi27, h⟩ := rd_use h
            refine ia_ hx hb hK hP 1 rfl hi27 dX7_countTold_100 ?_
            cases h
            exact W.iret hx hb hr (fun t ht _ => ⟨rfl, by rw [ht]; exact hP, hS.F ht⟩) hS.2.2 dX7_countTold_101
          · have h := it_f c9 h
            by_cases c10 : x1 = (2 : Int32)
            · have h := it_t c10 h
              refine lv_tableIn (off := 57) (tgt := 102) hx hb dX7_countTold_45 (by rw [c10]; decide) (by rw [c10]; decide) (by rw [c10]; rfl) (by decide) ?_
              refine lv_aload_n hx hb dX7_countTold_102 rfl (lv_at hl 0 rfl) ?_
              refine gfX7_0 hx hb hts hown hK hP 0 rfl wfX7_7 dX7_countTold_103 ?_
              refine lv_iconst (v := (1 : Int32)) hx hb dX7_countTold_106 (by decide) ?_
              obtain ⟨hi25, h⟩ := rd_use h
              refine ia_ hx hb hK hP 1 rfl hi25 dX7_countTold_107 ?_
              cases h
              exact W.iret hx hb hr (fun t ht _ => ⟨rfl, by rw [ht]; exact hP, hS.F ht⟩) hS.2.2 dX7_countTold_108
            · have h := it_f c10 h
              by_cases c11 : x1 = (3 : Int32)
              · have h := it_t c11 h
                refine lv_tableIn (off := 64) (tgt := 109) hx hb dX7_countTold_45 (by rw [c11]; decide) (by rw [c11]; decide) (by rw [c11]; rfl) (by decide) ?_
                refine lv_aload_n hx hb dX7_countTold_109 rfl (lv_at hl 0 rfl) ?_
                refine gfX7_0 hx hb hts hown hK hP 0 rfl wfX7_7 dX7_countTold_110 ?_
                refine lv_iconst (v := (2 : Int32)) hx hb dX7_countTold_113 (by decide) ?_
                obtain ⟨hi23, h⟩ := rd_use h
                refine ia_ hx hb hK hP 1 rfl hi23 dX7_countTold_114 ?_
                cases h
                exact W.iret hx hb hr (fun t ht _ => ⟨rfl, by rw [ht]; exact hP, hS.F ht⟩) hS.2.2 dX7_countTold_115
              · have h := it_f c11 h
                by_cases c12 : x1 = (4 : Int32)
                · have h := it_t c12 h
                  refine lv_tableIn (off := 71) (tgt := 116) hx hb dX7_countTold_45 (by rw [c12]; decide) (by rw [c12]; decide) (by rw [c12]; rfl) (by decide) ?_
                  refine lv_aload_n hx hb dX7_countTold_116 rfl (lv_at hl 0 rfl) ?_
                  refine lv_aload_n hx hb dX7_countTold_117 rfl (lv_at hl 0 rfl) ?_
                  refine gfX7_0 hx hb hts hown hK hP 0 rfl wfX7_7 dX7_countTold_118 ?_
                  refine lv_iconst (v := (3 : Int32)) hx hb dX7_countTold_121 (by decide) ?_
                  obtain ⟨hi16, h⟩ := rd_use h
                  refine ia_ hx hb hK hP 1 rfl hi16 dX7_countTold_122 ?_
                  refine lv_sipush (v := (255 : Int32)) hx hb dX7_countTold_123 (by decide) ?_
                  obtain ⟨w17, w18, hc19, h⟩ := bd2_use h
                  refine wr_V (As := [.int (o_now (3 : Int32).toNatClampNeg), .int (255 : Int32)]) (rest := []) (ws' := [(a_o, .inr (6, [.ref a_o_now, .ref a_o_aside, .ref a_o_past, .int (o_states), .ref a_o_refusals, .ref a_o_text, .int (o_bytes), .ref a_o_tried, .int (w17), .ref a_o_shuffled, .ref a_o_letters, .ref a_o_numbers, .int (o_orders), .int (o_spot), .int (o_wrongAt), .long (o_hash)])), (a_o_now, .inl (cI, 52, .inl (o_now))), (a_o_tried, .inl (cI, 9, .inl (w18)))]) S (c_X7_tries l D cI cS a_o a_o_now a_o_tried a_o_aside a_o_past a_o_refusals a_o_text a_o_shuffled a_o_letters a_o_numbers o_states o_bytes o_triedMany o_orders o_spot o_wrongAt o_hash o_now o_tried (o_now (3 : Int32).toNatClampNeg) (255 : Int32) w17 w18 hc19) (cwV1 hts cvX7_tries wmX7_80 rfl rfl ⟨(Nat.le_of_ble_eq_true rfl), (Nat.le_of_ble_eq_true rfl)⟩) hK hP hD hS [0, 1, 2] rfl rfl [(true, 0), (true, 1), (true, 2)] rfl rfl rfl 0 rfl rfl rfl rfl hl.1 rfl (Nat.le_of_ble_eq_true rfl) dX7_countTold_126 ⟨Nat.zero_le _, Nat.zero_le _⟩ rfl (fun H locs hP hD hS => ?_)
                  refine lv_aload_n hx hb dX7_countTold_129 rfl (lv_at hl 0 rfl) ?_
                  obtain ⟨r20, hc21, h⟩ := bd1_use h
                  refine ro_V (As := []) (rest := []) S (c_X7_behindTried l D cI cS a_o a_o_now a_o_tried a_o_aside a_o_past a_o_refusals a_o_text a_o_shuffled a_o_letters a_o_numbers o_states o_bytes w17 o_orders o_spot o_wrongAt o_hash o_now w18 r20 hc21) (cwV1 hts cvX7_behindTried wmX7_66 rfl rfl ⟨(Nat.le_of_ble_eq_true rfl), (Nat.le_of_ble_eq_true rfl)⟩) hK hP [0, 1, 2] rfl 0 rfl rfl rfl rfl hl.1 rfl (Nat.le_of_ble_eq_true rfl) dX7_countTold_130 ⟨Nat.zero_le _, Nat.zero_le _⟩ rfl ?_
                  cases h
                  exact W.iret hx hb hr (fun t ht _ => ⟨rfl, by rw [ht]; exact hP, hS.F ht⟩) hS.2.2 dX7_countTold_133
                · have h := it_f c12 h
                  by_cases c13 : x1 = (5 : Int32)
                  · have h := it_t c13 h
                    refine lv_tableIn (off := 89) (tgt := 134) hx hb dX7_countTold_45 (by rw [c13]; decide) (by rw [c13]; decide) (by rw [c13]; rfl) (by decide) ?_
                    refine lv_iload_n hx hb dX7_countTold_134 rfl (lv_at hl 2 rfl) ?_
                    cases h
                    exact W.iret hx hb hr (fun t ht _ => ⟨rfl, by rw [ht]; exact hP, hS.F ht⟩) hS.2.2 dX7_countTold_135
                  · have h := it_f c13 h
                    by_cases c14 : x1 = (6 : Int32)
                    · have h := it_t c14 h
                      refine lv_tableIn (off := 91) (tgt := 136) hx hb dX7_countTold_45 (by rw [c14]; decide) (by rw [c14]; decide) (by rw [c14]; rfl) (by decide) ?_
                      refine lv_iload_n hx hb dX7_countTold_136 rfl (lv_at hl 3 rfl) ?_
                      cases h
                      exact W.iret hx hb hr (fun t ht _ => ⟨rfl, by rw [ht]; exact hP, hS.F ht⟩) hS.2.2 dX7_countTold_137
                    · have h := it_f c14 h
                      refine lv_tableOut (tgt := 138) hx hb dX7_countTold_45 (by have q0 := lv_neT c8 (a := 0) (by decide); have q1 := lv_neT c9 (a := 1) (by decide); have q2 := lv_neT c10 (a := 2) (by decide); have q3 := lv_neT c11 (a := 3) (by decide); have q4 := lv_neT c12 (a := 4) (by decide); have q5 := lv_neT c13 (a := 5) (by decide); have q6 := lv_neT c14 (a := 6) (by decide); omega) (by decide) ?_
                      refine lv_aload_n hx hb dX7_countTold_138 rfl (lv_at hl 0 rfl) ?_
                      obtain ⟨r4, w5, w6, hc7, h⟩ := bd3_use h
                      refine wr_V (As := []) (rest := []) (ws' := [(a_o, .inr (6, [.ref a_o_now, .ref a_o_aside, .ref a_o_past, .int (o_states), .ref a_o_refusals, .ref a_o_text, .int (o_bytes), .ref a_o_tried, .int (w5), .ref a_o_shuffled, .ref a_o_letters, .ref a_o_numbers, .int (o_orders), .int (o_spot), .int (o_wrongAt), .long (o_hash)])), (a_o_now, .inl (cI, 52, .inl (o_now))), (a_o_tried, .inl (cI, 9, .inl (w6)))]) S (c_X7_soilsAll l D cI cS a_o a_o_now a_o_tried a_o_aside a_o_past a_o_refusals a_o_text a_o_shuffled a_o_letters a_o_numbers o_states o_bytes o_triedMany o_orders o_spot o_wrongAt o_hash o_now o_tried r4 w5 w6 hc7) (cwV1 hts cvX7_soilsAll wmX7_174 rfl rfl ⟨(Nat.le_of_ble_eq_true rfl), (Nat.le_of_ble_eq_true rfl)⟩) hK hP hD hS [0, 1, 2] rfl rfl [(true, 0), (true, 1), (true, 2)] rfl rfl rfl 0 rfl rfl rfl rfl hl.1 rfl (Nat.le_of_ble_eq_true rfl) dX7_countTold_139 ⟨Nat.zero_le _, Nat.zero_le _⟩ rfl (fun H locs hP hD hS => ?_)
                      cases h
                      exact W.iret hx hb hr (fun t ht _ => ⟨rfl, by rw [ht]; exact hP, hS.F ht⟩) hS.2.2 dX7_countTold_142
      · have h := it_f c3 h
        refine lv_iload_n hx hb dX7_countTold_18 rfl (lv_at hl 2 rfl) ?_
        refine lv_aload_n hx hb dX7_countTold_19 rfl (lv_at hl 0 rfl) ?_
        refine lv_iload hx hb dX7_countTold_20 (lv_at hl 4 rfl) ?_
        refine lv_iconst (v := (1 : Int32)) hx hb dX7_countTold_22 (by decide) ?_
        obtain ⟨r30, w31, w32, hc33, h⟩ := bd3_use h
        refine wr_V (As := [.int v4, .int (1 : Int32)]) (rest := [.int v2]) (ws' := [(a_o, .inr (6, [.ref a_o_now, .ref a_o_aside, .ref a_o_past, .int (o_states), .ref a_o_refusals, .ref a_o_text, .int (o_bytes), .ref a_o_tried, .int (w31), .ref a_o_shuffled, .ref a_o_letters, .ref a_o_numbers, .int (o_orders), .int (o_spot), .int (o_wrongAt), .long (o_hash)])), (a_o_now, .inl (cI, 52, .inl (o_now))), (a_o_tried, .inl (cI, 9, .inl (w32)))]) S (c_X7_placeTold l D cI cS a_o a_o_now a_o_tried a_o_aside a_o_past a_o_refusals a_o_text a_o_shuffled a_o_letters a_o_numbers o_states o_bytes o_triedMany o_orders o_spot o_wrongAt o_hash o_now o_tried v4 (1 : Int32) r30 w31 w32 hc33) (cwV1 hts cvX7_placeTold wmX7_165 rfl rfl ⟨(Nat.le_of_ble_eq_true rfl), (Nat.le_of_ble_eq_true rfl)⟩) hK hP hD hS [0, 1, 2] rfl rfl [(true, 0), (true, 1), (true, 2)] rfl rfl rfl 0 rfl rfl rfl rfl hl.1 rfl (Nat.le_of_ble_eq_true rfl) dX7_countTold_23 ⟨Nat.zero_le _, Nat.zero_le _⟩ rfl (fun H locs hP hD hS => ?_)
        refine lv_iadd hx hb dX7_countTold_26 ?_
        refine lv_topi (fun y34 ey34 => ?_)
        have h := nm_use h ey34
        refine lv_istore_n (lv' := [(2, .int y34), (0, .ref a_o), (1, .int x1), (3, .int v3), (4, .int v4)]) hx hb dX7_countTold_27 rfl hl (by decide) rfl (fun ls hl => ?_)
        refine lv_iload_n hx hb dX7_countTold_28 rfl (lv_at hl 3 rfl) ?_
        refine lv_aload_n hx hb dX7_countTold_29 rfl (lv_at hl 1 rfl) ?_
        refine lv_iload hx hb dX7_countTold_30 (lv_at hl 4 rfl) ?_
        refine lv_iconst (v := (2 : Int32)) hx hb dX7_countTold_32 (by decide) ?_
        obtain ⟨r35, w36, w37, hc38, h⟩ := bd3_use h
        refine wr_V (As := [.int v4, .int (2 : Int32)]) (rest := [.int v3]) (ws' := [(a_o, .inr (6, [.ref a_o_now, .ref a_o_aside, .ref a_o_past, .int (o_states), .ref a_o_refusals, .ref a_o_text, .int (o_bytes), .ref a_o_tried, .int (w36), .ref a_o_shuffled, .ref a_o_letters, .ref a_o_numbers, .int (o_orders), .int (o_spot), .int (o_wrongAt), .long (o_hash)])), (a_o_now, .inl (cI, 52, .inl (o_now))), (a_o_tried, .inl (cI, 9, .inl (w37)))]) S (c_X7_placeTold l D cI cS a_o a_o_now a_o_tried a_o_aside a_o_past a_o_refusals a_o_text a_o_shuffled a_o_letters a_o_numbers o_states o_bytes w31 o_orders o_spot o_wrongAt o_hash o_now w32 v4 (2 : Int32) r35 w36 w37 hc38) (cwV1 hts cvX7_placeTold wmX7_165 rfl rfl ⟨(Nat.le_of_ble_eq_true rfl), (Nat.le_of_ble_eq_true rfl)⟩) hK hP hD hS [0, 1, 2] rfl rfl [(true, 0), (true, 1), (true, 2)] rfl rfl rfl 0 rfl rfl rfl rfl hl.1 rfl (Nat.le_of_ble_eq_true rfl) dX7_countTold_33 ⟨Nat.zero_le _, Nat.zero_le _⟩ rfl (fun H locs hP hD hS => ?_)
        refine lv_iadd hx hb dX7_countTold_36 ?_
        refine lv_topi (fun y39 ey39 => ?_)
        have h := nm_use h ey39
        refine lv_istore_n (lv' := [(3, .int y39), (2, .int y34), (0, .ref a_o), (1, .int x1), (4, .int v4)]) hx hb dX7_countTold_37 rfl hl (by decide) rfl (fun ls hl => ?_)
        obtain ⟨y40, ey40⟩ : ∃ z : Int32, z = v4 + (1 : Int32) := ⟨_, rfl⟩
        have h := nm_use h ey40
        refine lv_iinc (v := y40) (lv' := [(4, .int y40), (3, .int y39), (2, .int y34), (0, .ref a_o), (1, .int x1)]) hx hb dX7_countTold_38 hl (k := 4) rfl (by rw [ey40]; rfl) (by decide) rfl (fun ls hl => ?_)
        refine lv_goto (tgt := 7) hx hb dX7_countTold_41 (by decide) ?_
        exact ih _ _ _ _ _ h _ _ hP hD hS _ (lv_sub hl [3, 4, 2, 1, 0] rfl)
  unfold f_X7_countTold at h
  refine lv_iconst (v := (0 : Int32)) hx hb dX7_countTold_0 (by decide) ?_
  refine lv_istore_n (lv' := [(2, .int (0 : Int32)), (0, .ref a_o), (1, .int x1)]) hx hb dX7_countTold_1 rfl hl (by decide) rfl (fun ls hl => ?_)
  refine lv_iconst (v := (0 : Int32)) hx hb dX7_countTold_2 (by decide) ?_
  refine lv_istore_n (lv' := [(3, .int (0 : Int32)), (2, .int (0 : Int32)), (0, .ref a_o), (1, .int x1)]) hx hb dX7_countTold_3 rfl hl (by decide) rfl (fun ls hl => ?_)
  refine lv_iconst (v := (0 : Int32)) hx hb dX7_countTold_4 (by decide) ?_
  refine lv_istore (lv' := [(4, .int (0 : Int32)), (3, .int (0 : Int32)), (2, .int (0 : Int32)), (0, .ref a_o), (1, .int x1)]) hx hb dX7_countTold_5 hl (by decide) rfl (fun ls hl => ?_)
  exact L_7 _ _ _ _ _ _ h _ _ hP hD hS _ (lv_sub hl [3, 4, 2, 1, 0] rfl)
def f_X7_count (o_triedMany : Int32) (o_now : Ar) (o_refusals : Ar) (o_tried : Ar) (x1 : Int32) : Option (Int32 × Int32 × Ar × Ar) := bd1 (f_X7_in x1 (0 : Int32) (7 : Int32)) (fun r1 => (if (b2i r1) = (0 : Int32) then bd2 (f_X7_refuses o_refusals (-2 : Int32)) (fun r4 w5 => some (r4, o_triedMany, w5, o_tried)) else bd3 (f_X7_countTold o_triedMany o_now o_tried x1) (fun r7 w8 w9 => some (r7, w8, o_refusals, w9))))
set_option maxHeartbeats 4000000 in
set_option maxRecDepth 100000 in
theorem c_X7_count (l : Launch) (D : va_G) (cI cS : ClassId) (a_o : Nat) (a_o_now : Nat) (a_o_refusals : Nat) (a_o_tried : Nat) (a_o_aside : Nat) (a_o_past : Nat) (a_o_text : Nat) (a_o_shuffled : Nat) (a_o_letters : Nat) (a_o_numbers : Nat) (o_states : Int32) (o_bytes : Int32) (o_triedMany : Int32) (o_orders : Int32) (o_spot : Int32) (o_wrongAt : Int32) (o_hash : Int64) (o_now : Ar) (o_refusals : Ar) (o_tried : Ar) (x1 : Int32) (r0 : Int32) (o_triedMany' : Int32) (o_refusals' : Ar) (o_tried' : Ar) (h : f_X7_count o_triedMany o_now o_refusals o_tried x1 = some (r0, o_triedMany', o_refusals', o_tried')) : wrM l D cI cS yX7_count cX7_count 2 (some .int) 8 179 [.ref a_o, .int x1] [(a_o, .inr (6, [.ref a_o_now, .ref a_o_aside, .ref a_o_past, .int (o_states), .ref a_o_refusals, .ref a_o_text, .int (o_bytes), .ref a_o_tried, .int (o_triedMany), .ref a_o_shuffled, .ref a_o_letters, .ref a_o_numbers, .int (o_orders), .int (o_spot), .int (o_wrongAt), .long (o_hash)])), (a_o_now, .inl (cI, 52, .inl (o_now))), (a_o_refusals, .inl (cI, 3, .inl (o_refusals))), (a_o_tried, .inl (cI, 9, .inl (o_tried)))] [(a_o, .inr (6, [.ref a_o_now, .ref a_o_aside, .ref a_o_past, .int (o_states), .ref a_o_refusals, .ref a_o_text, .int (o_bytes), .ref a_o_tried, .int (o_triedMany'), .ref a_o_shuffled, .ref a_o_letters, .ref a_o_numbers, .int (o_orders), .int (o_spot), .int (o_wrongAt), .long (o_hash)])), (a_o_now, .inl (cI, 52, .inl (o_now))), (a_o_refusals, .inl (cI, 3, .inl (o_refusals'))), (a_o_tried, .inl (cI, 9, .inl (o_tried')))] (some (.int r0)) := by
  refine Met.ofW (cc := cX7_count) (maxL := 2) (ret := (some .int)) (by decide) rfl ?_
  intro p e s m args below meth c s₁ B hml hv
  obtain ⟨rfl, hP, hK, hD0⟩ := hv
  have hx := B.exec
  have hb := B.bytes
  have hr := B.returns
  have hts : ∀ w ∈ GW, w.before _ s = true := fun w hw => atoms_spec (ws := mws yX7_count cX7_count 2 (some .int)) B.pre w (List.mem_cons_of_mem _ hw)
  have hown : s.vm.findClass RX7 = some m.cls := findClass_of_methodNamed B.named
  have hlocks := B.notSynchronized
  have hD := inW_self hD0
  generalize hAe : inW [(a_o, .inr (6, [.ref a_o_now, .ref a_o_aside, .ref a_o_past, .int (o_states), .ref a_o_refusals, .ref a_o_text, .int (o_bytes), .ref a_o_tried, .int (o_triedMany), .ref a_o_shuffled, .ref a_o_letters, .ref a_o_numbers, .int (o_orders), .int (o_spot), .int (o_wrongAt), .long (o_hash)])), (a_o_now, .inl (cI, 52, .inl (o_now))), (a_o_refusals, .inl (cI, 3, .inl (o_refusals))), (a_o_tried, .inl (cI, 9, .inl (o_tried)))] = A at hD ⊢
  have hS : va_S A s.heap s.heap [] := va_S.rf
  have hl := lv_entry ([.ref a_o, .int x1]) (n := 2) (Nat.le_of_ble_eq_true rfl)
  rw [lg_entry_eq]
  generalize (lg_sl ([.ref a_o, .int x1]) ++ List.replicate (2 - (lg_sl ([.ref a_o, .int x1])).length) Slot.unset).toArray = ls at hl ⊢
  have hl : lv_has ls 2 [(0, .ref a_o), (1, .int x1)] := hl
  have S : CallFix p m c cX7_count 2 s _ GW RX7 := ⟨hx, hb, hml, hown, hts⟩
  unfold f_X7_count at h
  refine lv_iload_n hx hb dX7_count_0 rfl (lv_at hl 1 rfl) ?_
  refine lv_iconst (v := (0 : Int32)) hx hb dX7_count_1 (by decide) ?_
  refine lv_bipush (v := (7 : Int32)) hx hb dX7_count_2 (by decide) ?_
  obtain ⟨r1, hc2, h⟩ := bd1_use h
  refine ro_S (As := [.int x1, .int (0 : Int32), .int (7 : Int32)]) (rest := []) S (c_X7_in l D cI cS x1 (0 : Int32) (7 : Int32) r1 hc2) (cwS1 hts csX7_in wmX7_48 rfl rfl ⟨(Nat.le_of_ble_eq_true rfl), (Nat.le_of_ble_eq_true rfl)⟩) hK hP [] rfl rfl hl.1 rfl (Nat.le_of_ble_eq_true rfl) dX7_count_4 ⟨Nat.zero_le _, Nat.zero_le _⟩ rfl ?_
  refine lv_if_eq (tgt := 18) hx hb dX7_count_7 (by decide) (fun c3 => ?_) (fun c3 => ?_)
  · have h := it_t c3 h
    refine lv_aload_n hx hb dX7_count_18 rfl (lv_at hl 0 rfl) ?_
    refine lv_bipush (v := (-2 : Int32)) hx hb dX7_count_19 (by decide) ?_
    obtain ⟨r4, w5, hc6, h⟩ := bd2_use h
    refine wr_V (As := [.int (-2 : Int32)]) (rest := []) (ws' := [(a_o, .inr (6, [.ref a_o_now, .ref a_o_aside, .ref a_o_past, .int (o_states), .ref a_o_refusals, .ref a_o_text, .int (o_bytes), .ref a_o_tried, .int (o_triedMany), .ref a_o_shuffled, .ref a_o_letters, .ref a_o_numbers, .int (o_orders), .int (o_spot), .int (o_wrongAt), .long (o_hash)])), (a_o_now, .inl (cI, 52, .inl (o_now))), (a_o_refusals, .inl (cI, 3, .inl (w5))), (a_o_tried, .inl (cI, 9, .inl (o_tried)))]) S (c_X7_refuses l D cI cS a_o a_o_refusals a_o_now a_o_aside a_o_past a_o_text a_o_tried a_o_shuffled a_o_letters a_o_numbers o_states o_bytes o_triedMany o_orders o_spot o_wrongAt o_hash o_refusals (-2 : Int32) r4 w5 hc6) (cwV1 hts cvX7_refuses wmX7_41 rfl rfl ⟨(Nat.le_of_ble_eq_true rfl), (Nat.le_of_ble_eq_true rfl)⟩) hK hP hD hS [0, 2] rfl rfl [(true, 0), (false, 1), (true, 1), (false, 3)] rfl rfl rfl 0 rfl rfl rfl rfl hl.1 rfl (Nat.le_of_ble_eq_true rfl) dX7_count_21 ⟨Nat.zero_le _, Nat.zero_le _⟩ rfl (fun H locs hP hD hS => ?_)
    cases h
    exact W.iret hx hb hr (fun t ht _ => ⟨rfl, by rw [ht]; exact hP, hS.F ht⟩) hS.2.2 dX7_count_24
  · have h := it_f c3 h
    refine lv_aload_n hx hb dX7_count_10 rfl (lv_at hl 0 rfl) ?_
    refine lv_iload_n hx hb dX7_count_11 rfl (lv_at hl 1 rfl) ?_
    obtain ⟨r7, w8, w9, hc10, h⟩ := bd3_use h
    refine wr_V (As := [.int x1]) (rest := []) (ws' := [(a_o, .inr (6, [.ref a_o_now, .ref a_o_aside, .ref a_o_past, .int (o_states), .ref a_o_refusals, .ref a_o_text, .int (o_bytes), .ref a_o_tried, .int (w8), .ref a_o_shuffled, .ref a_o_letters, .ref a_o_numbers, .int (o_orders), .int (o_spot), .int (o_wrongAt), .long (o_hash)])), (a_o_now, .inl (cI, 52, .inl (o_now))), (a_o_refusals, .inl (cI, 3, .inl (o_refusals))), (a_o_tried, .inl (cI, 9, .inl (w9)))]) S (c_X7_countTold l D cI cS a_o a_o_now a_o_tried a_o_aside a_o_past a_o_refusals a_o_text a_o_shuffled a_o_letters a_o_numbers o_states o_bytes o_triedMany o_orders o_spot o_wrongAt o_hash o_now o_tried x1 r7 w8 w9 hc10) (cwV1 hts cvX7_countTold wmX7_177 rfl rfl ⟨(Nat.le_of_ble_eq_true rfl), (Nat.le_of_ble_eq_true rfl)⟩) hK hP hD hS [0, 1, 3] rfl rfl [(true, 0), (true, 1), (false, 2), (true, 2)] rfl rfl rfl 0 rfl rfl rfl rfl hl.1 rfl (Nat.le_of_ble_eq_true rfl) dX7_count_12 ⟨Nat.zero_le _, Nat.zero_le _⟩ rfl (fun H locs hP hD hS => ?_)
    refine lv_goto (tgt := 24) hx hb dX7_count_15 (by decide) ?_
    cases h
    exact W.iret hx hb hr (fun t ht _ => ⟨rfl, by rw [ht]; exact hP, hS.F ht⟩) hS.2.2 dX7_count_24
def b_X7_laysAside_2 (o_now : Ar) : Nat → Int32 → Ar → Option (Ar)
  | 0, _, _ => none
  | n + 1, v1, o_aside => (if (52 : Int32) ≤ v1 then some (o_aside) else rd o_now 52 v1 (fun rv2 => wr o_aside 52 v1 rv2 (fun fv4 => nm (v1 + (1 : Int32)) (fun y6 => b_X7_laysAside_2 o_now n y6 fv4))))
def f_X7_laysAside (o_now : Ar) (o_aside : Ar) : Option (Ar) := b_X7_laysAside_2 o_now FU (0 : Int32) o_aside
set_option maxHeartbeats 4000000 in
set_option maxRecDepth 100000 in
theorem c_X7_laysAside (l : Launch) (D : va_G) (cI cS : ClassId) (a_o : Nat) (a_o_now : Nat) (a_o_aside : Nat) (a_o_past : Nat) (a_o_refusals : Nat) (a_o_text : Nat) (a_o_tried : Nat) (a_o_shuffled : Nat) (a_o_letters : Nat) (a_o_numbers : Nat) (o_states : Int32) (o_bytes : Int32) (o_triedMany : Int32) (o_orders : Int32) (o_spot : Int32) (o_wrongAt : Int32) (o_hash : Int64) (o_now : Ar) (o_aside : Ar) (o_aside' : Ar) (h : f_X7_laysAside o_now o_aside = some o_aside') : wrM l D cI cS yX7_laysAside cX7_laysAside 2 none 0 0 [.ref a_o] [(a_o, .inr (6, [.ref a_o_now, .ref a_o_aside, .ref a_o_past, .int (o_states), .ref a_o_refusals, .ref a_o_text, .int (o_bytes), .ref a_o_tried, .int (o_triedMany), .ref a_o_shuffled, .ref a_o_letters, .ref a_o_numbers, .int (o_orders), .int (o_spot), .int (o_wrongAt), .long (o_hash)])), (a_o_now, .inl (cI, 52, .inl (o_now))), (a_o_aside, .inl (cI, 52, .inl (o_aside)))] [(a_o, .inr (6, [.ref a_o_now, .ref a_o_aside, .ref a_o_past, .int (o_states), .ref a_o_refusals, .ref a_o_text, .int (o_bytes), .ref a_o_tried, .int (o_triedMany), .ref a_o_shuffled, .ref a_o_letters, .ref a_o_numbers, .int (o_orders), .int (o_spot), .int (o_wrongAt), .long (o_hash)])), (a_o_now, .inl (cI, 52, .inl (o_now))), (a_o_aside, .inl (cI, 52, .inl (o_aside')))] none := by
  refine Met.ofW (cc := cX7_laysAside) (maxL := 2) (ret := none) (by decide) rfl ?_
  intro p e s m args below meth c s₁ B hml hv
  obtain ⟨rfl, hP, hK, hD0⟩ := hv
  have hx := B.exec
  have hb := B.bytes
  have hr := B.returns
  have hts : ∀ w ∈ GW, w.before _ s = true := fun w hw => atoms_spec (ws := mws yX7_laysAside cX7_laysAside 2 none) B.pre w (List.mem_cons_of_mem _ hw)
  have hown : s.vm.findClass RX7 = some m.cls := findClass_of_methodNamed B.named
  have hlocks := B.notSynchronized
  have hD := inW_self hD0
  generalize hAe : inW [(a_o, .inr (6, [.ref a_o_now, .ref a_o_aside, .ref a_o_past, .int (o_states), .ref a_o_refusals, .ref a_o_text, .int (o_bytes), .ref a_o_tried, .int (o_triedMany), .ref a_o_shuffled, .ref a_o_letters, .ref a_o_numbers, .int (o_orders), .int (o_spot), .int (o_wrongAt), .long (o_hash)])), (a_o_now, .inl (cI, 52, .inl (o_now))), (a_o_aside, .inl (cI, 52, .inl (o_aside)))] = A at hD ⊢
  have hS : va_S A s.heap s.heap [] := va_S.rf
  have hl := lv_entry ([.ref a_o]) (n := 2) (Nat.le_of_ble_eq_true rfl)
  rw [lg_entry_eq]
  generalize (lg_sl ([.ref a_o]) ++ List.replicate (2 - (lg_sl ([.ref a_o])).length) Slot.unset).toArray = ls at hl ⊢
  have hl : lv_has ls 2 [(0, .ref a_o)] := hl
  have S : CallFix p m c cX7_laysAside 2 s _ GW RX7 := ⟨hx, hb, hml, hown, hts⟩
  have L_2 : ∀ (n : Nat) (v1 : Int32) (o_aside : Ar), b_X7_laysAside_2 o_now n v1 o_aside = some o_aside' → ∀ (H : Heap) (locs : List Loc), va_P D vwCl [(a_o, .inr (6, [.ref a_o_now, .ref a_o_aside, .ref a_o_past, .int (o_states), .ref a_o_refusals, .ref a_o_text, .int (o_bytes), .ref a_o_tried, .int (o_triedMany), .ref a_o_shuffled, .ref a_o_letters, .ref a_o_numbers, .int (o_orders), .int (o_spot), .int (o_wrongAt), .long (o_hash)])), (a_o_now, .inl (cI, 52, .inl (o_now))), (a_o_aside, .inl (cI, 52, .inl (o_aside)))] H → va_D A [(a_o, .inr (6, [.ref a_o_now, .ref a_o_aside, .ref a_o_past, .int (o_states), .ref a_o_refusals, .ref a_o_text, .int (o_bytes), .ref a_o_tried, .int (o_triedMany), .ref a_o_shuffled, .ref a_o_letters, .ref a_o_numbers, .int (o_orders), .int (o_spot), .int (o_wrongAt), .long (o_hash)])), (a_o_now, .inl (cI, 52, .inl (o_now))), (a_o_aside, .inl (cI, 52, .inl (o_aside)))] → va_S A s.heap H locs → ∀ (ls : Array Slot), lv_has ls 2 [(0, .ref a_o), (1, .int v1)] → W p l e (headSpec (mws yX7_laysAside cX7_laysAside 2 none) { frames := 0, cells := 0, slots := 0, locals := 0 }).room s m [.ref a_o].toArray below meth c H locs 0 0 (MQ below (wrQ D A [(a_o, .inr (6, [.ref a_o_now, .ref a_o_aside, .ref a_o_past, .int (o_states), .ref a_o_refusals, .ref a_o_text, .int (o_bytes), .ref a_o_tried, .int (o_triedMany), .ref a_o_shuffled, .ref a_o_letters, .ref a_o_numbers, .int (o_orders), .int (o_spot), .int (o_wrongAt), .long (o_hash)])), (a_o_now, .inl (cI, 52, .inl (o_now))), (a_o_aside, .inl (cI, 52, .inl (o_aside')))] none) [.ref a_o].toArray s 0 0 A) (F0 m 2 ls []) := by
    intro n
    induction n with
    | zero =>
      intro v1 o_aside h
      exact nn_no h
    | succ n ih =>
      intro v1 o_aside h H locs hP hD hS ls hl
      rw [b_X7_laysAside_2] at h
      refine lv_iload_n hx hb dX7_laysAside_2 rfl (lv_at hl 1 rfl) ?_
      refine lv_bipush (v := (52 : Int32)) hx hb dX7_laysAside_3 (by decide) ?_
      refine lv_icmp_ge (tgt := 26) hx hb dX7_laysAside_5 (by decide) (fun c1 => ?_) (fun c1 => ?_)
      · have h := it_t c1 h
        cases h
        exact W.vret hx hb hr (fun t ht _ => ⟨rfl, by rw [ht]; exact hP, hS.F ht⟩) hS.2.2 dX7_laysAside_26
      · have h := it_f c1 h
        refine lv_aload_n hx hb dX7_laysAside_8 rfl (lv_at hl 0 rfl) ?_
        refine gfX7_1 hx hb hts hown hK hP 0 rfl wfX7_13 dX7_laysAside_9 ?_
        refine lv_iload_n hx hb dX7_laysAside_12 rfl (lv_at hl 1 rfl) ?_
        refine lv_aload_n hx hb dX7_laysAside_13 rfl (lv_at hl 0 rfl) ?_
        refine gfX7_0 hx hb hts hown hK hP 0 rfl wfX7_7 dX7_laysAside_14 ?_
        refine lv_iload_n hx hb dX7_laysAside_17 rfl (lv_at hl 1 rfl) ?_
        obtain ⟨hi3, h⟩ := rd_use h
        refine ia_ hx hb hK hP 1 rfl hi3 dX7_laysAside_18 ?_
        obtain ⟨hi5, h⟩ := wr_use h
        refine is_ (ws' := [(a_o, .inr (6, [.ref a_o_now, .ref a_o_aside, .ref a_o_past, .int (o_states), .ref a_o_refusals, .ref a_o_text, .int (o_bytes), .ref a_o_tried, .int (o_triedMany), .ref a_o_shuffled, .ref a_o_letters, .ref a_o_numbers, .int (o_orders), .int (o_spot), .int (o_wrongAt), .long (o_hash)])), (a_o_now, .inl (cI, 52, .inl (o_now))), (a_o_aside, .inl (cI, 52, .inl ((upd o_aside v1.toNatClampNeg (o_now v1.toNatClampNeg)))))]) hx hb hK hP hD hS 2 rfl rfl hi5 dX7_laysAside_19 (fun H locs hP hD hS => ?_)
        obtain ⟨y6, ey6⟩ : ∃ z : Int32, z = v1 + (1 : Int32) := ⟨_, rfl⟩
        have h := nm_use h ey6
        refine lv_iinc (v := y6) (lv' := [(1, .int y6), (0, .ref a_o)]) hx hb dX7_laysAside_20 hl (k := 1) rfl (by rw [ey6]; rfl) (by decide) rfl (fun ls hl => ?_)
        refine lv_goto (tgt := 2) hx hb dX7_laysAside_23 (by decide) ?_
        exact ih _ _ h _ _ hP hD hS _ (lv_sub hl [1, 0] rfl)
  unfold f_X7_laysAside at h
  refine lv_iconst (v := (0 : Int32)) hx hb dX7_laysAside_0 (by decide) ?_
  refine lv_istore_n (lv' := [(1, .int (0 : Int32)), (0, .ref a_o)]) hx hb dX7_laysAside_1 rfl hl (by decide) rfl (fun ls hl => ?_)
  exact L_2 _ _ _ h _ _ hP hD hS _ (lv_sub hl [1, 0] rfl)
def b_X7_placeOf_2 (o_now : Ar) (x1 : Int32) : Nat → Int32 → Option (Int32)
  | 0, _ => none
  | n + 1, v2 => rd o_now 52 (3 : Int32) (fun rv1 => (if rv1 ≤ v2 then some ((-1 : Int32)) else rd o_now 52 ((4 : Int32) + v2) (fun rv4 => (if rv4 = x1 then some (v2) else nm (v2 + (1 : Int32)) (fun y7 => b_X7_placeOf_2 o_now x1 n y7)))))
def f_X7_placeOf (o_now : Ar) (x1 : Int32) : Option (Int32) := b_X7_placeOf_2 o_now x1 FU (0 : Int32)
set_option maxHeartbeats 4000000 in
set_option maxRecDepth 100000 in
theorem c_X7_placeOf (l : Launch) (D : va_G) (cI cS : ClassId) (a_o : Nat) (a_o_now : Nat) (a_o_aside : Nat) (a_o_past : Nat) (a_o_refusals : Nat) (a_o_text : Nat) (a_o_tried : Nat) (a_o_shuffled : Nat) (a_o_letters : Nat) (a_o_numbers : Nat) (o_states : Int32) (o_bytes : Int32) (o_triedMany : Int32) (o_orders : Int32) (o_spot : Int32) (o_wrongAt : Int32) (o_hash : Int64) (o_now : Ar) (x1 : Int32) (r0 : Int32) (h : f_X7_placeOf o_now x1 = some r0) : roM l D cI cS yX7_placeOf cX7_placeOf 3 (some .int) 0 0 [.ref a_o, .int x1] [(a_o, .inr (6, [.ref a_o_now, .ref a_o_aside, .ref a_o_past, .int (o_states), .ref a_o_refusals, .ref a_o_text, .int (o_bytes), .ref a_o_tried, .int (o_triedMany), .ref a_o_shuffled, .ref a_o_letters, .ref a_o_numbers, .int (o_orders), .int (o_spot), .int (o_wrongAt), .long (o_hash)])), (a_o_now, .inl (cI, 52, .inl (o_now)))] (some (.int r0)) := by
  refine Met.ofW (cc := cX7_placeOf) (maxL := 3) (ret := (some .int)) (by decide) rfl ?_
  intro p e s m args below meth c s₁ B hml hv
  obtain ⟨rfl, hP, hK⟩ := hv
  have hx := B.exec
  have hb := B.bytes
  have hr := B.returns
  have hts : ∀ w ∈ GW, w.before _ s = true := fun w hw => atoms_spec (ws := mws yX7_placeOf cX7_placeOf 3 (some .int)) B.pre w (List.mem_cons_of_mem _ hw)
  have hown : s.vm.findClass RX7 = some m.cls := findClass_of_methodNamed B.named
  have hlocks := B.notSynchronized
  have hl := lv_entry ([.ref a_o, .int x1]) (n := 3) (Nat.le_of_ble_eq_true rfl)
  rw [lg_entry_eq]
  generalize (lg_sl ([.ref a_o, .int x1]) ++ List.replicate (3 - (lg_sl ([.ref a_o, .int x1])).length) Slot.unset).toArray = ls at hl ⊢
  have hl : lv_has ls 3 [(0, .ref a_o), (1, .int x1)] := hl
  have S : CallFix p m c cX7_placeOf 3 s _ GW RX7 := ⟨hx, hb, hml, hown, hts⟩
  have L_2 : ∀ (n : Nat) (v2 : Int32), b_X7_placeOf_2 o_now x1 n v2 = some r0 → ∀ (ls : Array Slot), lv_has ls 3 [(0, .ref a_o), (1, .int x1), (2, .int v2)] → W p l e (headSpec (mws yX7_placeOf cX7_placeOf 3 (some .int)) { frames := 0, cells := 0, slots := 0, locals := 0 }).room s m [.ref a_o, .int x1].toArray below meth c s.heap [] 0 0 (MQ below (roQ (some (.int r0))) [.ref a_o, .int x1].toArray s 0 0 noF) (F0 m 2 ls []) := by
    intro n
    induction n with
    | zero =>
      intro v2 h
      exact nn_no h
    | succ n ih =>
      intro v2 h ls hl
      rw [b_X7_placeOf_2] at h
      refine lv_iload_n hx hb dX7_placeOf_2 rfl (lv_at hl 2 rfl) ?_
      refine lv_aload_n hx hb dX7_placeOf_3 rfl (lv_at hl 0 rfl) ?_
      refine gfX7_0 hx hb hts hown hK hP 0 rfl wfX7_7 dX7_placeOf_4 ?_
      refine lv_iconst (v := (3 : Int32)) hx hb dX7_placeOf_7 (by decide) ?_
      obtain ⟨hi2, h⟩ := rd_use h
      refine ia_ hx hb hK hP 1 rfl hi2 dX7_placeOf_8 ?_
      refine lv_icmp_ge (tgt := 32) hx hb dX7_placeOf_9 (by decide) (fun c3 => ?_) (fun c3 => ?_)
      · have h := it_t c3 h
        refine lv_iconst (v := (-1 : Int32)) hx hb dX7_placeOf_32 (by decide) ?_
        exact W.iret hx hb hr (fun t ht _ => ⟨congrArg (fun z => Outcome.returned (some (Value.int z))) (Option.some.inj h), ht⟩) (fun q hq => by cases hq) dX7_placeOf_33
      · have h := it_f c3 h
        refine lv_aload_n hx hb dX7_placeOf_12 rfl (lv_at hl 0 rfl) ?_
        refine gfX7_0 hx hb hts hown hK hP 0 rfl wfX7_7 dX7_placeOf_13 ?_
        refine lv_iconst (v := (4 : Int32)) hx hb dX7_placeOf_16 (by decide) ?_
        refine lv_iload_n hx hb dX7_placeOf_17 rfl (lv_at hl 2 rfl) ?_
        refine lv_iadd hx hb dX7_placeOf_18 ?_
        obtain ⟨hi5, h⟩ := rd_use h
        refine ia_ hx hb hK hP 1 rfl hi5 dX7_placeOf_19 ?_
        refine lv_iload_n hx hb dX7_placeOf_20 rfl (lv_at hl 1 rfl) ?_
        refine lv_icmp_ne (tgt := 26) hx hb dX7_placeOf_21 (by decide) (fun c6 => ?_) (fun c6 => ?_)
        · have h := it_f c6 h
          obtain ⟨y7, ey7⟩ : ∃ z : Int32, z = v2 + (1 : Int32) := ⟨_, rfl⟩
          have h := nm_use h ey7
          refine lv_iinc (v := y7) (lv' := [(2, .int y7), (0, .ref a_o), (1, .int x1)]) hx hb dX7_placeOf_26 hl (k := 2) rfl (by rw [ey7]; rfl) (by decide) rfl (fun ls hl => ?_)
          refine lv_goto (tgt := 2) hx hb dX7_placeOf_29 (by decide) ?_
          exact ih _ h _ (lv_sub hl [1, 2, 0] rfl)
        · have h := it_t c6 h
          refine lv_iload_n hx hb dX7_placeOf_24 rfl (lv_at hl 2 rfl) ?_
          exact W.iret hx hb hr (fun t ht _ => ⟨congrArg (fun z => Outcome.returned (some (Value.int z))) (Option.some.inj h), ht⟩) (fun q hq => by cases hq) dX7_placeOf_25
  unfold f_X7_placeOf at h
  refine lv_iconst (v := (0 : Int32)) hx hb dX7_placeOf_0 (by decide) ?_
  refine lv_istore_n (lv' := [(2, .int (0 : Int32)), (0, .ref a_o), (1, .int x1)]) hx hb dX7_placeOf_1 rfl hl (by decide) rfl (fun ls hl => ?_)
  exact L_2 _ _ h _ (lv_sub hl [1, 2, 0] rfl)
def b_X7_takesOut_12 : Nat → Int32 → Ar → Option (Ar)
  | 0, _, _ => none
  | n + 1, v2, o_now => rd o_now 52 (3 : Int32) (fun rv1 => (if rv1 ≤ v2 then rd o_now 52 (3 : Int32) (fun rv4 => wr o_now 52 ((4 : Int32) + rv4) (0 : Int32) (fun fv6 => some (fv6))) else rd o_now 52 (((4 : Int32) + v2) + (1 : Int32)) (fun rv8 => wr o_now 52 ((4 : Int32) + v2) rv8 (fun fv10 => nm (v2 + (1 : Int32)) (fun y12 => b_X7_takesOut_12  n y12 fv10)))))
def f_X7_takesOut (o_now : Ar) (x1 : Int32) : Option (Ar) := rd o_now 52 (3 : Int32) (fun rv13 => wr o_now 52 (3 : Int32) (rv13 - (1 : Int32)) (fun fv15 => b_X7_takesOut_12  FU x1 fv15))
set_option maxHeartbeats 4000000 in
set_option maxRecDepth 100000 in
theorem c_X7_takesOut (l : Launch) (D : va_G) (cI cS : ClassId) (a_o : Nat) (a_o_now : Nat) (a_o_aside : Nat) (a_o_past : Nat) (a_o_refusals : Nat) (a_o_text : Nat) (a_o_tried : Nat) (a_o_shuffled : Nat) (a_o_letters : Nat) (a_o_numbers : Nat) (o_states : Int32) (o_bytes : Int32) (o_triedMany : Int32) (o_orders : Int32) (o_spot : Int32) (o_wrongAt : Int32) (o_hash : Int64) (o_now : Ar) (x1 : Int32) (o_now' : Ar) (h : f_X7_takesOut o_now x1 = some o_now') : wrM l D cI cS yX7_takesOut cX7_takesOut 3 none 0 0 [.ref a_o, .int x1] [(a_o, .inr (6, [.ref a_o_now, .ref a_o_aside, .ref a_o_past, .int (o_states), .ref a_o_refusals, .ref a_o_text, .int (o_bytes), .ref a_o_tried, .int (o_triedMany), .ref a_o_shuffled, .ref a_o_letters, .ref a_o_numbers, .int (o_orders), .int (o_spot), .int (o_wrongAt), .long (o_hash)])), (a_o_now, .inl (cI, 52, .inl (o_now)))] [(a_o, .inr (6, [.ref a_o_now, .ref a_o_aside, .ref a_o_past, .int (o_states), .ref a_o_refusals, .ref a_o_text, .int (o_bytes), .ref a_o_tried, .int (o_triedMany), .ref a_o_shuffled, .ref a_o_letters, .ref a_o_numbers, .int (o_orders), .int (o_spot), .int (o_wrongAt), .long (o_hash)])), (a_o_now, .inl (cI, 52, .inl (o_now')))] none := by
  refine Met.ofW (cc := cX7_takesOut) (maxL := 3) (ret := none) (by decide) rfl ?_
  intro p e s m args below meth c s₁ B hml hv
  obtain ⟨rfl, hP, hK, hD0⟩ := hv
  have hx := B.exec
  have hb := B.bytes
  have hr := B.returns
  have hts : ∀ w ∈ GW, w.before _ s = true := fun w hw => atoms_spec (ws := mws yX7_takesOut cX7_takesOut 3 none) B.pre w (List.mem_cons_of_mem _ hw)
  have hown : s.vm.findClass RX7 = some m.cls := findClass_of_methodNamed B.named
  have hlocks := B.notSynchronized
  have hD := inW_self hD0
  generalize hAe : inW [(a_o, .inr (6, [.ref a_o_now, .ref a_o_aside, .ref a_o_past, .int (o_states), .ref a_o_refusals, .ref a_o_text, .int (o_bytes), .ref a_o_tried, .int (o_triedMany), .ref a_o_shuffled, .ref a_o_letters, .ref a_o_numbers, .int (o_orders), .int (o_spot), .int (o_wrongAt), .long (o_hash)])), (a_o_now, .inl (cI, 52, .inl (o_now)))] = A at hD ⊢
  have hS : va_S A s.heap s.heap [] := va_S.rf
  have hl := lv_entry ([.ref a_o, .int x1]) (n := 3) (Nat.le_of_ble_eq_true rfl)
  rw [lg_entry_eq]
  generalize (lg_sl ([.ref a_o, .int x1]) ++ List.replicate (3 - (lg_sl ([.ref a_o, .int x1])).length) Slot.unset).toArray = ls at hl ⊢
  have hl : lv_has ls 3 [(0, .ref a_o), (1, .int x1)] := hl
  have S : CallFix p m c cX7_takesOut 3 s _ GW RX7 := ⟨hx, hb, hml, hown, hts⟩
  have L_12 : ∀ (n : Nat) (v2 : Int32) (o_now : Ar), b_X7_takesOut_12  n v2 o_now = some o_now' → ∀ (H : Heap) (locs : List Loc), va_P D vwCl [(a_o, .inr (6, [.ref a_o_now, .ref a_o_aside, .ref a_o_past, .int (o_states), .ref a_o_refusals, .ref a_o_text, .int (o_bytes), .ref a_o_tried, .int (o_triedMany), .ref a_o_shuffled, .ref a_o_letters, .ref a_o_numbers, .int (o_orders), .int (o_spot), .int (o_wrongAt), .long (o_hash)])), (a_o_now, .inl (cI, 52, .inl (o_now)))] H → va_D A [(a_o, .inr (6, [.ref a_o_now, .ref a_o_aside, .ref a_o_past, .int (o_states), .ref a_o_refusals, .ref a_o_text, .int (o_bytes), .ref a_o_tried, .int (o_triedMany), .ref a_o_shuffled, .ref a_o_letters, .ref a_o_numbers, .int (o_orders), .int (o_spot), .int (o_wrongAt), .long (o_hash)])), (a_o_now, .inl (cI, 52, .inl (o_now)))] → va_S A s.heap H locs → ∀ (ls : Array Slot), lv_has ls 3 [(0, .ref a_o), (2, .int v2)] → W p l e (headSpec (mws yX7_takesOut cX7_takesOut 3 none) { frames := 0, cells := 0, slots := 0, locals := 0 }).room s m [.ref a_o, .int x1].toArray below meth c H locs 0 0 (MQ below (wrQ D A [(a_o, .inr (6, [.ref a_o_now, .ref a_o_aside, .ref a_o_past, .int (o_states), .ref a_o_refusals, .ref a_o_text, .int (o_bytes), .ref a_o_tried, .int (o_triedMany), .ref a_o_shuffled, .ref a_o_letters, .ref a_o_numbers, .int (o_orders), .int (o_spot), .int (o_wrongAt), .long (o_hash)])), (a_o_now, .inl (cI, 52, .inl (o_now')))] none) [.ref a_o, .int x1].toArray s 0 0 A) (F0 m 12 ls []) := by
    intro n
    induction n with
    | zero =>
      intro v2 o_now h
      exact nn_no h
    | succ n ih =>
      intro v2 o_now h H locs hP hD hS ls hl
      rw [b_X7_takesOut_12] at h
      refine lv_iload_n hx hb dX7_takesOut_12 rfl (lv_at hl 1 rfl) ?_
      refine lv_aload_n hx hb dX7_takesOut_13 rfl (lv_at hl 0 rfl) ?_
      refine gfX7_0 hx hb hts hown hK hP 0 rfl wfX7_7 dX7_takesOut_14 ?_
      refine lv_iconst (v := (3 : Int32)) hx hb dX7_takesOut_17 (by decide) ?_
      obtain ⟨hi2, h⟩ := rd_use h
      refine ia_ hx hb hK hP 1 rfl hi2 dX7_takesOut_18 ?_
      refine lv_icmp_ge (tgt := 46) hx hb dX7_takesOut_19 (by decide) (fun c3 => ?_) (fun c3 => ?_)
      · have h := it_t c3 h
        refine lv_aload_n hx hb dX7_takesOut_46 rfl (lv_at hl 0 rfl) ?_
        refine gfX7_0 hx hb hts hown hK hP 0 rfl wfX7_7 dX7_takesOut_47 ?_
        refine lv_iconst (v := (4 : Int32)) hx hb dX7_takesOut_50 (by decide) ?_
        refine lv_aload_n hx hb dX7_takesOut_51 rfl (lv_at hl 0 rfl) ?_
        refine gfX7_0 hx hb hts hown hK hP 0 rfl wfX7_7 dX7_takesOut_52 ?_
        refine lv_iconst (v := (3 : Int32)) hx hb dX7_takesOut_55 (by decide) ?_
        obtain ⟨hi5, h⟩ := rd_use h
        refine ia_ hx hb hK hP 1 rfl hi5 dX7_takesOut_56 ?_
        refine lv_iadd hx hb dX7_takesOut_57 ?_
        refine lv_iconst (v := (0 : Int32)) hx hb dX7_takesOut_58 (by decide) ?_
        obtain ⟨hi7, h⟩ := wr_use h
        refine is_ (ws' := [(a_o, .inr (6, [.ref a_o_now, .ref a_o_aside, .ref a_o_past, .int (o_states), .ref a_o_refusals, .ref a_o_text, .int (o_bytes), .ref a_o_tried, .int (o_triedMany), .ref a_o_shuffled, .ref a_o_letters, .ref a_o_numbers, .int (o_orders), .int (o_spot), .int (o_wrongAt), .long (o_hash)])), (a_o_now, .inl (cI, 52, .inl ((upd o_now ((4 : Int32) + (o_now (3 : Int32).toNatClampNeg)).toNatClampNeg (0 : Int32)))))]) hx hb hK hP hD hS 1 rfl rfl hi7 dX7_takesOut_59 (fun H locs hP hD hS => ?_)
        cases h
        exact W.vret hx hb hr (fun t ht _ => ⟨rfl, by rw [ht]; exact hP, hS.F ht⟩) hS.2.2 dX7_takesOut_60
      · have h := it_f c3 h
        refine lv_aload_n hx hb dX7_takesOut_22 rfl (lv_at hl 0 rfl) ?_
        refine gfX7_0 hx hb hts hown hK hP 0 rfl wfX7_7 dX7_takesOut_23 ?_
        refine lv_iconst (v := (4 : Int32)) hx hb dX7_takesOut_26 (by decide) ?_
        refine lv_iload_n hx hb dX7_takesOut_27 rfl (lv_at hl 1 rfl) ?_
        refine lv_iadd hx hb dX7_takesOut_28 ?_
        refine lv_aload_n hx hb dX7_takesOut_29 rfl (lv_at hl 0 rfl) ?_
        refine gfX7_0 hx hb hts hown hK hP 0 rfl wfX7_7 dX7_takesOut_30 ?_
        refine lv_iconst (v := (4 : Int32)) hx hb dX7_takesOut_33 (by decide) ?_
        refine lv_iload_n hx hb dX7_takesOut_34 rfl (lv_at hl 1 rfl) ?_
        refine lv_iadd hx hb dX7_takesOut_35 ?_
        refine lv_iconst (v := (1 : Int32)) hx hb dX7_takesOut_36 (by decide) ?_
        refine lv_iadd hx hb dX7_takesOut_37 ?_
        obtain ⟨hi9, h⟩ := rd_use h
        refine ia_ hx hb hK hP 1 rfl hi9 dX7_takesOut_38 ?_
        obtain ⟨hi11, h⟩ := wr_use h
        refine is_ (ws' := [(a_o, .inr (6, [.ref a_o_now, .ref a_o_aside, .ref a_o_past, .int (o_states), .ref a_o_refusals, .ref a_o_text, .int (o_bytes), .ref a_o_tried, .int (o_triedMany), .ref a_o_shuffled, .ref a_o_letters, .ref a_o_numbers, .int (o_orders), .int (o_spot), .int (o_wrongAt), .long (o_hash)])), (a_o_now, .inl (cI, 52, .inl ((upd o_now ((4 : Int32) + v2).toNatClampNeg (o_now (((4 : Int32) + v2) + (1 : Int32)).toNatClampNeg)))))]) hx hb hK hP hD hS 1 rfl rfl hi11 dX7_takesOut_39 (fun H locs hP hD hS => ?_)
        obtain ⟨y12, ey12⟩ : ∃ z : Int32, z = v2 + (1 : Int32) := ⟨_, rfl⟩
        have h := nm_use h ey12
        refine lv_iinc (v := y12) (lv' := [(2, .int y12), (0, .ref a_o)]) hx hb dX7_takesOut_40 hl (k := 1) rfl (by rw [ey12]; rfl) (by decide) rfl (fun ls hl => ?_)
        refine lv_goto (tgt := 12) hx hb dX7_takesOut_43 (by decide) ?_
        exact ih _ _ h _ _ hP hD hS _ (lv_sub hl [1, 0] rfl)
  unfold f_X7_takesOut at h
  refine lv_aload_n hx hb dX7_takesOut_0 rfl (lv_at hl 0 rfl) ?_
  refine gfX7_0 hx hb hts hown hK hP 0 rfl wfX7_7 dX7_takesOut_1 ?_
  refine lv_iconst (v := (3 : Int32)) hx hb dX7_takesOut_4 (by decide) ?_
  refine lv_dup2_11 hx hb dX7_takesOut_5 rfl rfl ?_
  obtain ⟨hi14, h⟩ := rd_use h
  refine ia_ hx hb hK hP 1 rfl hi14 dX7_takesOut_6 ?_
  refine lv_iconst (v := (1 : Int32)) hx hb dX7_takesOut_7 (by decide) ?_
  refine lv_isub hx hb dX7_takesOut_8 ?_
  obtain ⟨hi16, h⟩ := wr_use h
  refine is_ (ws' := [(a_o, .inr (6, [.ref a_o_now, .ref a_o_aside, .ref a_o_past, .int (o_states), .ref a_o_refusals, .ref a_o_text, .int (o_bytes), .ref a_o_tried, .int (o_triedMany), .ref a_o_shuffled, .ref a_o_letters, .ref a_o_numbers, .int (o_orders), .int (o_spot), .int (o_wrongAt), .long (o_hash)])), (a_o_now, .inl (cI, 52, .inl ((upd o_now (3 : Int32).toNatClampNeg ((o_now (3 : Int32).toNatClampNeg) - (1 : Int32))))))]) hx hb hK hP hD hS 1 rfl rfl hi16 dX7_takesOut_9 (fun H locs hP hD hS => ?_)
  refine lv_iload_n hx hb dX7_takesOut_10 rfl (lv_at hl 1 rfl) ?_
  refine lv_istore_n (lv' := [(2, .int x1), (0, .ref a_o), (1, .int x1)]) hx hb dX7_takesOut_11 rfl hl (by decide) rfl (fun ls hl => ?_)
  exact L_12 _ _ _ h _ _ hP hD hS _ (lv_sub hl [1, 0] rfl)
def f_X7_putCut (o_now : Ar) : Option (Int32 × Ar) := rd o_now 52 (0 : Int32) (fun rv1 => (if rv1 = (0 : Int32) then some ((-3 : Int32), o_now) else rd o_now 52 (0 : Int32) (fun rv4 => wr o_now 52 (0 : Int32) (rv4 - (1 : Int32)) (fun fv6 => rd fv6 52 (0 : Int32) (fun rv8 => bd1 (f_X7_placeOf fv6 rv8) (fun r10 => (if r10 = (-1 : Int32) then rd fv6 52 (0 : Int32) (fun rv13 => some (rv13, fv6)) else bd1 (f_X7_takesOut fv6 r10) (fun w15 => rd w15 52 (0 : Int32) (fun rv17 => some (rv17, w15))))))))))
set_option maxHeartbeats 4000000 in
set_option maxRecDepth 100000 in
theorem c_X7_putCut (l : Launch) (D : va_G) (cI cS : ClassId) (a_o : Nat) (a_o_now : Nat) (a_o_aside : Nat) (a_o_past : Nat) (a_o_refusals : Nat) (a_o_text : Nat) (a_o_tried : Nat) (a_o_shuffled : Nat) (a_o_letters : Nat) (a_o_numbers : Nat) (o_states : Int32) (o_bytes : Int32) (o_triedMany : Int32) (o_orders : Int32) (o_spot : Int32) (o_wrongAt : Int32) (o_hash : Int64) (o_now : Ar) (r0 : Int32) (o_now' : Ar) (h : f_X7_putCut o_now = some (r0, o_now')) : wrM l D cI cS yX7_putCut cX7_putCut 2 (some .int) 1 22 [.ref a_o] [(a_o, .inr (6, [.ref a_o_now, .ref a_o_aside, .ref a_o_past, .int (o_states), .ref a_o_refusals, .ref a_o_text, .int (o_bytes), .ref a_o_tried, .int (o_triedMany), .ref a_o_shuffled, .ref a_o_letters, .ref a_o_numbers, .int (o_orders), .int (o_spot), .int (o_wrongAt), .long (o_hash)])), (a_o_now, .inl (cI, 52, .inl (o_now)))] [(a_o, .inr (6, [.ref a_o_now, .ref a_o_aside, .ref a_o_past, .int (o_states), .ref a_o_refusals, .ref a_o_text, .int (o_bytes), .ref a_o_tried, .int (o_triedMany), .ref a_o_shuffled, .ref a_o_letters, .ref a_o_numbers, .int (o_orders), .int (o_spot), .int (o_wrongAt), .long (o_hash)])), (a_o_now, .inl (cI, 52, .inl (o_now')))] (some (.int r0)) := by
  refine Met.ofW (cc := cX7_putCut) (maxL := 2) (ret := (some .int)) (by decide) rfl ?_
  intro p e s m args below meth c s₁ B hml hv
  obtain ⟨rfl, hP, hK, hD0⟩ := hv
  have hx := B.exec
  have hb := B.bytes
  have hr := B.returns
  have hts : ∀ w ∈ GW, w.before _ s = true := fun w hw => atoms_spec (ws := mws yX7_putCut cX7_putCut 2 (some .int)) B.pre w (List.mem_cons_of_mem _ hw)
  have hown : s.vm.findClass RX7 = some m.cls := findClass_of_methodNamed B.named
  have hlocks := B.notSynchronized
  have hD := inW_self hD0
  generalize hAe : inW [(a_o, .inr (6, [.ref a_o_now, .ref a_o_aside, .ref a_o_past, .int (o_states), .ref a_o_refusals, .ref a_o_text, .int (o_bytes), .ref a_o_tried, .int (o_triedMany), .ref a_o_shuffled, .ref a_o_letters, .ref a_o_numbers, .int (o_orders), .int (o_spot), .int (o_wrongAt), .long (o_hash)])), (a_o_now, .inl (cI, 52, .inl (o_now)))] = A at hD ⊢
  have hS : va_S A s.heap s.heap [] := va_S.rf
  have hl := lv_entry ([.ref a_o]) (n := 2) (Nat.le_of_ble_eq_true rfl)
  rw [lg_entry_eq]
  generalize (lg_sl ([.ref a_o]) ++ List.replicate (2 - (lg_sl ([.ref a_o])).length) Slot.unset).toArray = ls at hl ⊢
  have hl : lv_has ls 2 [(0, .ref a_o)] := hl
  have S : CallFix p m c cX7_putCut 2 s _ GW RX7 := ⟨hx, hb, hml, hown, hts⟩
  unfold f_X7_putCut at h
  refine lv_aload_n hx hb dX7_putCut_0 rfl (lv_at hl 0 rfl) ?_
  refine gfX7_0 hx hb hts hown hK hP 0 rfl wfX7_7 dX7_putCut_1 ?_
  refine lv_iconst (v := (0 : Int32)) hx hb dX7_putCut_4 (by decide) ?_
  obtain ⟨hi2, h⟩ := rd_use h
  refine ia_ hx hb hK hP 1 rfl hi2 dX7_putCut_5 ?_
  refine lv_if_ne (tgt := 12) hx hb dX7_putCut_6 (by decide) (fun c3 => ?_) (fun c3 => ?_)
  · have h := it_f c3 h
    refine lv_aload_n hx hb dX7_putCut_12 rfl (lv_at hl 0 rfl) ?_
    refine gfX7_0 hx hb hts hown hK hP 0 rfl wfX7_7 dX7_putCut_13 ?_
    refine lv_iconst (v := (0 : Int32)) hx hb dX7_putCut_16 (by decide) ?_
    refine lv_dup2_11 hx hb dX7_putCut_17 rfl rfl ?_
    obtain ⟨hi5, h⟩ := rd_use h
    refine ia_ hx hb hK hP 1 rfl hi5 dX7_putCut_18 ?_
    refine lv_iconst (v := (1 : Int32)) hx hb dX7_putCut_19 (by decide) ?_
    refine lv_isub hx hb dX7_putCut_20 ?_
    obtain ⟨hi7, h⟩ := wr_use h
    refine is_ (ws' := [(a_o, .inr (6, [.ref a_o_now, .ref a_o_aside, .ref a_o_past, .int (o_states), .ref a_o_refusals, .ref a_o_text, .int (o_bytes), .ref a_o_tried, .int (o_triedMany), .ref a_o_shuffled, .ref a_o_letters, .ref a_o_numbers, .int (o_orders), .int (o_spot), .int (o_wrongAt), .long (o_hash)])), (a_o_now, .inl (cI, 52, .inl ((upd o_now (0 : Int32).toNatClampNeg ((o_now (0 : Int32).toNatClampNeg) - (1 : Int32))))))]) hx hb hK hP hD hS 1 rfl rfl hi7 dX7_putCut_21 (fun H locs hP hD hS => ?_)
    refine lv_aload_n hx hb dX7_putCut_22 rfl (lv_at hl 0 rfl) ?_
    refine lv_aload_n hx hb dX7_putCut_23 rfl (lv_at hl 0 rfl) ?_
    refine gfX7_0 hx hb hts hown hK hP 0 rfl wfX7_7 dX7_putCut_24 ?_
    refine lv_iconst (v := (0 : Int32)) hx hb dX7_putCut_27 (by decide) ?_
    obtain ⟨hi9, h⟩ := rd_use h
    refine ia_ hx hb hK hP 1 rfl hi9 dX7_putCut_28 ?_
    obtain ⟨r10, hc11, h⟩ := bd1_use h
    refine ro_V (As := [.int ((upd o_now (0 : Int32).toNatClampNeg ((o_now (0 : Int32).toNatClampNeg) - (1 : Int32))) (0 : Int32).toNatClampNeg)]) (rest := []) S (c_X7_placeOf l D cI cS a_o a_o_now a_o_aside a_o_past a_o_refusals a_o_text a_o_tried a_o_shuffled a_o_letters a_o_numbers o_states o_bytes o_triedMany o_orders o_spot o_wrongAt o_hash (upd o_now (0 : Int32).toNatClampNeg ((o_now (0 : Int32).toNatClampNeg) - (1 : Int32))) ((upd o_now (0 : Int32).toNatClampNeg ((o_now (0 : Int32).toNatClampNeg) - (1 : Int32))) (0 : Int32).toNatClampNeg) r10 hc11) (cwV1 hts cvX7_placeOf wmX7_93 rfl rfl ⟨(Nat.le_of_ble_eq_true rfl), (Nat.le_of_ble_eq_true rfl)⟩) hK hP [0, 1] rfl 0 rfl rfl rfl rfl hl.1 rfl (Nat.le_of_ble_eq_true rfl) dX7_putCut_29 ⟨Nat.zero_le _, Nat.zero_le _⟩ rfl ?_
    refine lv_istore_n (lv' := [(1, .int r10), (0, .ref a_o)]) hx hb dX7_putCut_32 rfl hl (by decide) rfl (fun ls hl => ?_)
    refine lv_iload_n hx hb dX7_putCut_33 rfl (lv_at hl 0 rfl) ?_
    refine lv_iconst (v := (-1 : Int32)) hx hb dX7_putCut_34 (by decide) ?_
    refine lv_icmp_eq (tgt := 43) hx hb dX7_putCut_35 (by decide) (fun c12 => ?_) (fun c12 => ?_)
    · have h := it_t c12 h
      refine lv_aload_n hx hb dX7_putCut_43 rfl (lv_at hl 1 rfl) ?_
      refine gfX7_0 hx hb hts hown hK hP 0 rfl wfX7_7 dX7_putCut_44 ?_
      refine lv_iconst (v := (0 : Int32)) hx hb dX7_putCut_47 (by decide) ?_
      obtain ⟨hi14, h⟩ := rd_use h
      refine ia_ hx hb hK hP 1 rfl hi14 dX7_putCut_48 ?_
      cases h
      exact W.iret hx hb hr (fun t ht _ => ⟨rfl, by rw [ht]; exact hP, hS.F ht⟩) hS.2.2 dX7_putCut_49
    · have h := it_f c12 h
      refine lv_aload_n hx hb dX7_putCut_38 rfl (lv_at hl 1 rfl) ?_
      refine lv_iload_n hx hb dX7_putCut_39 rfl (lv_at hl 0 rfl) ?_
      obtain ⟨w15, hc16, h⟩ := bd1_use h
      refine wr_V (As := [.int r10]) (rest := []) (ws' := [(a_o, .inr (6, [.ref a_o_now, .ref a_o_aside, .ref a_o_past, .int (o_states), .ref a_o_refusals, .ref a_o_text, .int (o_bytes), .ref a_o_tried, .int (o_triedMany), .ref a_o_shuffled, .ref a_o_letters, .ref a_o_numbers, .int (o_orders), .int (o_spot), .int (o_wrongAt), .long (o_hash)])), (a_o_now, .inl (cI, 52, .inl (w15)))]) S (c_X7_takesOut l D cI cS a_o a_o_now a_o_aside a_o_past a_o_refusals a_o_text a_o_tried a_o_shuffled a_o_letters a_o_numbers o_states o_bytes o_triedMany o_orders o_spot o_wrongAt o_hash (upd o_now (0 : Int32).toNatClampNeg ((o_now (0 : Int32).toNatClampNeg) - (1 : Int32))) r10 w15 hc16) (cwV1 hts cvX7_takesOut wmX7_96 rfl rfl ⟨(Nat.le_of_ble_eq_true rfl), (Nat.le_of_ble_eq_true rfl)⟩) hK hP hD hS [0, 1] rfl rfl [(true, 0), (true, 1)] rfl rfl rfl 0 rfl rfl rfl rfl hl.1 rfl (Nat.le_of_ble_eq_true rfl) dX7_putCut_40 ⟨Nat.zero_le _, Nat.zero_le _⟩ rfl (fun H locs hP hD hS => ?_)
      refine lv_aload_n hx hb dX7_putCut_43 rfl (lv_at hl 1 rfl) ?_
      refine gfX7_0 hx hb hts hown hK hP 0 rfl wfX7_7 dX7_putCut_44 ?_
      refine lv_iconst (v := (0 : Int32)) hx hb dX7_putCut_47 (by decide) ?_
      obtain ⟨hi18, h⟩ := rd_use h
      refine ia_ hx hb hK hP 1 rfl hi18 dX7_putCut_48 ?_
      cases h
      exact W.iret hx hb hr (fun t ht _ => ⟨rfl, by rw [ht]; exact hP, hS.F ht⟩) hS.2.2 dX7_putCut_49
  · have h := it_t c3 h
    refine lv_bipush (v := (-3 : Int32)) hx hb dX7_putCut_9 (by decide) ?_
    cases h
    exact W.iret hx hb hr (fun t ht _ => ⟨rfl, by rw [ht]; exact hP, hS.F ht⟩) hS.2.2 dX7_putCut_11
def b_X7_remembers_50 (o_aside : Ar) : Nat → Int32 → Int32 → Ar → Option (Int32 × Ar)
  | 0, _, _, _ => none
  | n + 1, v1, o_states, o_past => (if (52 : Int32) ≤ v1 then nm (o_states + (1 : Int32)) (fun y2 => some (y2, o_past)) else rd o_aside 52 v1 (fun rv3 => wr o_past 260 (((52 : Int32) * o_states) + v1) rv3 (fun fv5 => nm (v1 + (1 : Int32)) (fun y7 => b_X7_remembers_50 o_aside n y7 o_states fv5))))
def b_X7_remembers_10 (o_aside : Ar) : Nat → Int32 → Int32 → Ar → Option (Int32 × Ar)
  | 0, _, _, _ => none
  | n + 1, v1, o_states, o_past => (if (208 : Int32) ≤ v1 then nm (o_states - (1 : Int32)) (fun y9 => b_X7_remembers_50 o_aside FU (0 : Int32) y9 o_past) else rd o_past 260 (v1 + (52 : Int32)) (fun rv10 => wr o_past 260 v1 rv10 (fun fv12 => nm (v1 + (1 : Int32)) (fun y14 => b_X7_remembers_10 o_aside n y14 o_states fv12))))
def f_X7_remembers (o_states : Int32) (o_aside : Ar) (o_past : Ar) : Option (Int32 × Ar) := (if o_states = (5 : Int32) then b_X7_remembers_10 o_aside FU (0 : Int32) o_states o_past else b_X7_remembers_50 o_aside FU (0 : Int32) o_states o_past)
set_option maxHeartbeats 4000000 in
set_option maxRecDepth 100000 in
theorem c_X7_remembers (l : Launch) (D : va_G) (cI cS : ClassId) (a_o : Nat) (a_o_aside : Nat) (a_o_past : Nat) (a_o_now : Nat) (a_o_refusals : Nat) (a_o_text : Nat) (a_o_tried : Nat) (a_o_shuffled : Nat) (a_o_letters : Nat) (a_o_numbers : Nat) (o_states : Int32) (o_bytes : Int32) (o_triedMany : Int32) (o_orders : Int32) (o_spot : Int32) (o_wrongAt : Int32) (o_hash : Int64) (o_aside : Ar) (o_past : Ar) (o_states' : Int32) (o_past' : Ar) (h : f_X7_remembers o_states o_aside o_past = some (o_states', o_past')) : wrM l D cI cS yX7_remembers cX7_remembers 2 none 0 0 [.ref a_o] [(a_o, .inr (6, [.ref a_o_now, .ref a_o_aside, .ref a_o_past, .int (o_states), .ref a_o_refusals, .ref a_o_text, .int (o_bytes), .ref a_o_tried, .int (o_triedMany), .ref a_o_shuffled, .ref a_o_letters, .ref a_o_numbers, .int (o_orders), .int (o_spot), .int (o_wrongAt), .long (o_hash)])), (a_o_aside, .inl (cI, 52, .inl (o_aside))), (a_o_past, .inl (cI, 260, .inl (o_past)))] [(a_o, .inr (6, [.ref a_o_now, .ref a_o_aside, .ref a_o_past, .int (o_states'), .ref a_o_refusals, .ref a_o_text, .int (o_bytes), .ref a_o_tried, .int (o_triedMany), .ref a_o_shuffled, .ref a_o_letters, .ref a_o_numbers, .int (o_orders), .int (o_spot), .int (o_wrongAt), .long (o_hash)])), (a_o_aside, .inl (cI, 52, .inl (o_aside))), (a_o_past, .inl (cI, 260, .inl (o_past')))] none := by
  refine Met.ofW (cc := cX7_remembers) (maxL := 2) (ret := none) (by decide) rfl ?_
  intro p e s m args below meth c s₁ B hml hv
  obtain ⟨rfl, hP, hK, hD0⟩ := hv
  have hx := B.exec
  have hb := B.bytes
  have hr := B.returns
  have hts : ∀ w ∈ GW, w.before _ s = true := fun w hw => atoms_spec (ws := mws yX7_remembers cX7_remembers 2 none) B.pre w (List.mem_cons_of_mem _ hw)
  have hown : s.vm.findClass RX7 = some m.cls := findClass_of_methodNamed B.named
  have hlocks := B.notSynchronized
  have hD := inW_self hD0
  generalize hAe : inW [(a_o, .inr (6, [.ref a_o_now, .ref a_o_aside, .ref a_o_past, .int (o_states), .ref a_o_refusals, .ref a_o_text, .int (o_bytes), .ref a_o_tried, .int (o_triedMany), .ref a_o_shuffled, .ref a_o_letters, .ref a_o_numbers, .int (o_orders), .int (o_spot), .int (o_wrongAt), .long (o_hash)])), (a_o_aside, .inl (cI, 52, .inl (o_aside))), (a_o_past, .inl (cI, 260, .inl (o_past)))] = A at hD ⊢
  have hS : va_S A s.heap s.heap [] := va_S.rf
  have hl := lv_entry ([.ref a_o]) (n := 2) (Nat.le_of_ble_eq_true rfl)
  rw [lg_entry_eq]
  generalize (lg_sl ([.ref a_o]) ++ List.replicate (2 - (lg_sl ([.ref a_o])).length) Slot.unset).toArray = ls at hl ⊢
  have hl : lv_has ls 2 [(0, .ref a_o)] := hl
  have S : CallFix p m c cX7_remembers 2 s _ GW RX7 := ⟨hx, hb, hml, hown, hts⟩
  have L_50 : ∀ (n : Nat) (v1 : Int32) (o_states : Int32) (o_past : Ar), b_X7_remembers_50 o_aside n v1 o_states o_past = some (o_states', o_past') → ∀ (H : Heap) (locs : List Loc), va_P D vwCl [(a_o, .inr (6, [.ref a_o_now, .ref a_o_aside, .ref a_o_past, .int (o_states), .ref a_o_refusals, .ref a_o_text, .int (o_bytes), .ref a_o_tried, .int (o_triedMany), .ref a_o_shuffled, .ref a_o_letters, .ref a_o_numbers, .int (o_orders), .int (o_spot), .int (o_wrongAt), .long (o_hash)])), (a_o_aside, .inl (cI, 52, .inl (o_aside))), (a_o_past, .inl (cI, 260, .inl (o_past)))] H → va_D A [(a_o, .inr (6, [.ref a_o_now, .ref a_o_aside, .ref a_o_past, .int (o_states), .ref a_o_refusals, .ref a_o_text, .int (o_bytes), .ref a_o_tried, .int (o_triedMany), .ref a_o_shuffled, .ref a_o_letters, .ref a_o_numbers, .int (o_orders), .int (o_spot), .int (o_wrongAt), .long (o_hash)])), (a_o_aside, .inl (cI, 52, .inl (o_aside))), (a_o_past, .inl (cI, 260, .inl (o_past)))] → va_S A s.heap H locs → ∀ (ls : Array Slot), lv_has ls 2 [(0, .ref a_o), (1, .int v1)] → W p l e (headSpec (mws yX7_remembers cX7_remembers 2 none) { frames := 0, cells := 0, slots := 0, locals := 0 }).room s m [.ref a_o].toArray below meth c H locs 0 0 (MQ below (wrQ D A [(a_o, .inr (6, [.ref a_o_now, .ref a_o_aside, .ref a_o_past, .int (o_states'), .ref a_o_refusals, .ref a_o_text, .int (o_bytes), .ref a_o_tried, .int (o_triedMany), .ref a_o_shuffled, .ref a_o_letters, .ref a_o_numbers, .int (o_orders), .int (o_spot), .int (o_wrongAt), .long (o_hash)])), (a_o_aside, .inl (cI, 52, .inl (o_aside))), (a_o_past, .inl (cI, 260, .inl (o_past')))] none) [.ref a_o].toArray s 0 0 A) (F0 m 50 ls []) := by
    intro n
    induction n with
    | zero =>
      intro v1 o_states o_past h
      exact nn_no h
    | succ n ih =>
      intro v1 o_states o_past h H locs hP hD hS ls hl
      rw [b_X7_remembers_50] at h
      refine lv_iload_n hx hb dX7_remembers_50 rfl (lv_at hl 1 rfl) ?_
      refine lv_bipush (v := (52 : Int32)) hx hb dX7_remembers_51 (by decide) ?_
      refine lv_icmp_ge (tgt := 82) hx hb dX7_remembers_53 (by decide) (fun c1 => ?_) (fun c1 => ?_)
      · have h := it_t c1 h
        refine lv_aload_n hx hb dX7_remembers_82 rfl (lv_at hl 0 rfl) ?_
        refine lv_dup hx hb dX7_remembers_83 rfl ?_
        refine gfX7_3 hx hb hts hown hK hP 0 rfl wfX7_37 dX7_remembers_84 ?_
        refine lv_iconst (v := (1 : Int32)) hx hb dX7_remembers_87 (by decide) ?_
        refine lv_iadd hx hb dX7_remembers_88 ?_
        refine lv_topi (fun y2 ey2 => ?_)
        have h := nm_use h ey2
        refine pfX7_3 (ws' := [(a_o, .inr (6, [.ref a_o_now, .ref a_o_aside, .ref a_o_past, .int (y2), .ref a_o_refusals, .ref a_o_text, .int (o_bytes), .ref a_o_tried, .int (o_triedMany), .ref a_o_shuffled, .ref a_o_letters, .ref a_o_numbers, .int (o_orders), .int (o_spot), .int (o_wrongAt), .long (o_hash)])), (a_o_aside, .inl (cI, 52, .inl (o_aside))), (a_o_past, .inl (cI, 260, .inl (o_past)))]) hx hb hts hown hK hP hD hS 0 rfl rfl wfX7_37 dX7_remembers_89 (fun H locs hP hD hS => ?_)
        cases h
        exact W.vret hx hb hr (fun t ht _ => ⟨rfl, by rw [ht]; exact hP, hS.F ht⟩) hS.2.2 dX7_remembers_92
      · have h := it_f c1 h
        refine lv_aload_n hx hb dX7_remembers_56 rfl (lv_at hl 0 rfl) ?_
        refine gfX7_2 hx hb hts hown hK hP 0 rfl wfX7_16 dX7_remembers_57 ?_
        refine lv_bipush (v := (52 : Int32)) hx hb dX7_remembers_60 (by decide) ?_
        refine lv_aload_n hx hb dX7_remembers_62 rfl (lv_at hl 0 rfl) ?_
        refine gfX7_3 hx hb hts hown hK hP 0 rfl wfX7_37 dX7_remembers_63 ?_
        refine lv_imul hx hb dX7_remembers_66 ?_
        refine lv_iload_n hx hb dX7_remembers_67 rfl (lv_at hl 1 rfl) ?_
        refine lv_iadd hx hb dX7_remembers_68 ?_
        refine lv_aload_n hx hb dX7_remembers_69 rfl (lv_at hl 0 rfl) ?_
        refine gfX7_1 hx hb hts hown hK hP 0 rfl wfX7_13 dX7_remembers_70 ?_
        refine lv_iload_n hx hb dX7_remembers_73 rfl (lv_at hl 1 rfl) ?_
        obtain ⟨hi4, h⟩ := rd_use h
        refine ia_ hx hb hK hP 1 rfl hi4 dX7_remembers_74 ?_
        obtain ⟨hi6, h⟩ := wr_use h
        refine is_ (ws' := [(a_o, .inr (6, [.ref a_o_now, .ref a_o_aside, .ref a_o_past, .int (o_states), .ref a_o_refusals, .ref a_o_text, .int (o_bytes), .ref a_o_tried, .int (o_triedMany), .ref a_o_shuffled, .ref a_o_letters, .ref a_o_numbers, .int (o_orders), .int (o_spot), .int (o_wrongAt), .long (o_hash)])), (a_o_aside, .inl (cI, 52, .inl (o_aside))), (a_o_past, .inl (cI, 260, .inl ((upd o_past (((52 : Int32) * o_states) + v1).toNatClampNeg (o_aside v1.toNatClampNeg)))))]) hx hb hK hP hD hS 2 rfl rfl hi6 dX7_remembers_75 (fun H locs hP hD hS => ?_)
        obtain ⟨y7, ey7⟩ : ∃ z : Int32, z = v1 + (1 : Int32) := ⟨_, rfl⟩
        have h := nm_use h ey7
        refine lv_iinc (v := y7) (lv' := [(1, .int y7), (0, .ref a_o)]) hx hb dX7_remembers_76 hl (k := 1) rfl (by rw [ey7]; rfl) (by decide) rfl (fun ls hl => ?_)
        refine lv_goto (tgt := 50) hx hb dX7_remembers_79 (by decide) ?_
        exact ih _ _ _ h _ _ hP hD hS _ (lv_sub hl [1, 0] rfl)
  have L_10 : ∀ (n : Nat) (v1 : Int32) (o_states : Int32) (o_past : Ar), b_X7_remembers_10 o_aside n v1 o_states o_past = some (o_states', o_past') → ∀ (H : Heap) (locs : List Loc), va_P D vwCl [(a_o, .inr (6, [.ref a_o_now, .ref a_o_aside, .ref a_o_past, .int (o_states), .ref a_o_refusals, .ref a_o_text, .int (o_bytes), .ref a_o_tried, .int (o_triedMany), .ref a_o_shuffled, .ref a_o_letters, .ref a_o_numbers, .int (o_orders), .int (o_spot), .int (o_wrongAt), .long (o_hash)])), (a_o_aside, .inl (cI, 52, .inl (o_aside))), (a_o_past, .inl (cI, 260, .inl (o_past)))] H → va_D A [(a_o, .inr (6, [.ref a_o_now, .ref a_o_aside, .ref a_o_past, .int (o_states), .ref a_o_refusals, .ref a_o_text, .int (o_bytes), .ref a_o_tried, .int (o_triedMany), .ref a_o_shuffled, .ref a_o_letters, .ref a_o_numbers, .int (o_orders), .int (o_spot), .int (o_wrongAt), .long (o_hash)])), (a_o_aside, .inl (cI, 52, .inl (o_aside))), (a_o_past, .inl (cI, 260, .inl (o_past)))] → va_S A s.heap H locs → ∀ (ls : Array Slot), lv_has ls 2 [(0, .ref a_o), (1, .int v1)] → W p l e (headSpec (mws yX7_remembers cX7_remembers 2 none) { frames := 0, cells := 0, slots := 0, locals := 0 }).room s m [.ref a_o].toArray below meth c H locs 0 0 (MQ below (wrQ D A [(a_o, .inr (6, [.ref a_o_now, .ref a_o_aside, .ref a_o_past, .int (o_states'), .ref a_o_refusals, .ref a_o_text, .int (o_bytes), .ref a_o_tried, .int (o_triedMany), .ref a_o_shuffled, .ref a_o_letters, .ref a_o_numbers, .int (o_orders), .int (o_spot), .int (o_wrongAt), .long (o_hash)])), (a_o_aside, .inl (cI, 52, .inl (o_aside))), (a_o_past, .inl (cI, 260, .inl (o_past')))] none) [.ref a_o].toArray s 0 0 A) (F0 m 10 ls []) := by
    intro n
    induction n with
    | zero =>
      intro v1 o_states o_past h
      exact nn_no h
    | succ n ih =>
      intro v1 o_states o_past h H locs hP hD hS ls hl
      rw [b_X7_remembers_10] at h
      refine lv_iload_n hx hb dX7_remembers_10 rfl (lv_at hl 1 rfl) ?_
      refine lv_sipush (v := (208 : Int32)) hx hb dX7_remembers_11 (by decide) ?_
      refine lv_icmp_ge (tgt := 38) hx hb dX7_remembers_14 (by decide) (fun c8 => ?_) (fun c8 => ?_)
      · have h := it_t c8 h
        refine lv_aload_n hx hb dX7_remembers_38 rfl (lv_at hl 0 rfl) ?_
        refine lv_dup hx hb dX7_remembers_39 rfl ?_
        refine gfX7_3 hx hb hts hown hK hP 0 rfl wfX7_37 dX7_remembers_40 ?_
        refine lv_iconst (v := (1 : Int32)) hx hb dX7_remembers_43 (by decide) ?_
        refine lv_isub hx hb dX7_remembers_44 ?_
        refine lv_topi (fun y9 ey9 => ?_)
        have h := nm_use h ey9
        refine pfX7_3 (ws' := [(a_o, .inr (6, [.ref a_o_now, .ref a_o_aside, .ref a_o_past, .int (y9), .ref a_o_refusals, .ref a_o_text, .int (o_bytes), .ref a_o_tried, .int (o_triedMany), .ref a_o_shuffled, .ref a_o_letters, .ref a_o_numbers, .int (o_orders), .int (o_spot), .int (o_wrongAt), .long (o_hash)])), (a_o_aside, .inl (cI, 52, .inl (o_aside))), (a_o_past, .inl (cI, 260, .inl (o_past)))]) hx hb hts hown hK hP hD hS 0 rfl rfl wfX7_37 dX7_remembers_45 (fun H locs hP hD hS => ?_)
        refine lv_iconst (v := (0 : Int32)) hx hb dX7_remembers_48 (by decide) ?_
        refine lv_istore_n (lv' := [(1, .int (0 : Int32)), (0, .ref a_o)]) hx hb dX7_remembers_49 rfl hl (by decide) rfl (fun ls hl => ?_)
        exact L_50 _ _ _ _ h _ _ hP hD hS _ (lv_sub hl [1, 0] rfl)
      · have h := it_f c8 h
        refine lv_aload_n hx hb dX7_remembers_17 rfl (lv_at hl 0 rfl) ?_
        refine gfX7_2 hx hb hts hown hK hP 0 rfl wfX7_16 dX7_remembers_18 ?_
        refine lv_iload_n hx hb dX7_remembers_21 rfl (lv_at hl 1 rfl) ?_
        refine lv_aload_n hx hb dX7_remembers_22 rfl (lv_at hl 0 rfl) ?_
        refine gfX7_2 hx hb hts hown hK hP 0 rfl wfX7_16 dX7_remembers_23 ?_
        refine lv_iload_n hx hb dX7_remembers_26 rfl (lv_at hl 1 rfl) ?_
        refine lv_bipush (v := (52 : Int32)) hx hb dX7_remembers_27 (by decide) ?_
        refine lv_iadd hx hb dX7_remembers_29 ?_
        obtain ⟨hi11, h⟩ := rd_use h
        refine ia_ hx hb hK hP 2 rfl hi11 dX7_remembers_30 ?_
        obtain ⟨hi13, h⟩ := wr_use h
        refine is_ (ws' := [(a_o, .inr (6, [.ref a_o_now, .ref a_o_aside, .ref a_o_past, .int (o_states), .ref a_o_refusals, .ref a_o_text, .int (o_bytes), .ref a_o_tried, .int (o_triedMany), .ref a_o_shuffled, .ref a_o_letters, .ref a_o_numbers, .int (o_orders), .int (o_spot), .int (o_wrongAt), .long (o_hash)])), (a_o_aside, .inl (cI, 52, .inl (o_aside))), (a_o_past, .inl (cI, 260, .inl ((upd o_past v1.toNatClampNeg (o_past (v1 + (52 : Int32)).toNatClampNeg)))))]) hx hb hK hP hD hS 2 rfl rfl hi13 dX7_remembers_31 (fun H locs hP hD hS => ?_)
        obtain ⟨y14, ey14⟩ : ∃ z : Int32, z = v1 + (1 : Int32) := ⟨_, rfl⟩
        have h := nm_use h ey14
        refine lv_iinc (v := y14) (lv' := [(1, .int y14), (0, .ref a_o)]) hx hb dX7_remembers_32 hl (k := 1) rfl (by rw [ey14]; rfl) (by decide) rfl (fun ls hl => ?_)
        refine lv_goto (tgt := 10) hx hb dX7_remembers_35 (by decide) ?_
        exact ih _ _ _ h _ _ hP hD hS _ (lv_sub hl [1, 0] rfl)
  unfold f_X7_remembers at h
  refine lv_aload_n hx hb dX7_remembers_0 rfl (lv_at hl 0 rfl) ?_
  refine gfX7_3 hx hb hts hown hK hP 0 rfl wfX7_37 dX7_remembers_1 ?_
  refine lv_iconst (v := (5 : Int32)) hx hb dX7_remembers_4 (by decide) ?_
  refine lv_icmp_ne (tgt := 48) hx hb dX7_remembers_5 (by decide) (fun c15 => ?_) (fun c15 => ?_)
  · have h := it_f c15 h
    refine lv_iconst (v := (0 : Int32)) hx hb dX7_remembers_48 (by decide) ?_
    refine lv_istore_n (lv' := [(1, .int (0 : Int32)), (0, .ref a_o)]) hx hb dX7_remembers_49 rfl hl (by decide) rfl (fun ls hl => ?_)
    exact L_50 _ _ _ _ h _ _ hP hD hS _ (lv_sub hl [1, 0] rfl)
  · have h := it_t c15 h
    refine lv_iconst (v := (0 : Int32)) hx hb dX7_remembers_8 (by decide) ?_
    refine lv_istore_n (lv' := [(1, .int (0 : Int32)), (0, .ref a_o)]) hx hb dX7_remembers_9 rfl hl (by decide) rfl (fun ls hl => ?_)
    exact L_10 _ _ _ _ h _ _ hP hD hS _ (lv_sub hl [1, 0] rfl)
def f_X7_finished (o_states : Int32) (o_aside : Ar) (o_past : Ar) (o_refusals : Ar) (x1 : Int32) : Option (Int32 × Int32 × Ar × Ar) := (if (-2 : Int32) < x1 then bd2 (f_X7_remembers o_states o_aside o_past) (fun w2 w3 => some (x1, w2, w3, o_refusals)) else bd2 (f_X7_refuses o_refusals x1) (fun r5 w6 => some (r5, o_states, o_past, w6)))
set_option maxHeartbeats 4000000 in
set_option maxRecDepth 100000 in
theorem c_X7_finished (l : Launch) (D : va_G) (cI cS : ClassId) (a_o : Nat) (a_o_aside : Nat) (a_o_past : Nat) (a_o_refusals : Nat) (a_o_now : Nat) (a_o_text : Nat) (a_o_tried : Nat) (a_o_shuffled : Nat) (a_o_letters : Nat) (a_o_numbers : Nat) (o_states : Int32) (o_bytes : Int32) (o_triedMany : Int32) (o_orders : Int32) (o_spot : Int32) (o_wrongAt : Int32) (o_hash : Int64) (o_aside : Ar) (o_past : Ar) (o_refusals : Ar) (x1 : Int32) (r0 : Int32) (o_states' : Int32) (o_past' : Ar) (o_refusals' : Ar) (h : f_X7_finished o_states o_aside o_past o_refusals x1 = some (r0, o_states', o_past', o_refusals')) : wrM l D cI cS yX7_finished cX7_finished 2 (some .int) 1 21 [.ref a_o, .int x1] [(a_o, .inr (6, [.ref a_o_now, .ref a_o_aside, .ref a_o_past, .int (o_states), .ref a_o_refusals, .ref a_o_text, .int (o_bytes), .ref a_o_tried, .int (o_triedMany), .ref a_o_shuffled, .ref a_o_letters, .ref a_o_numbers, .int (o_orders), .int (o_spot), .int (o_wrongAt), .long (o_hash)])), (a_o_aside, .inl (cI, 52, .inl (o_aside))), (a_o_past, .inl (cI, 260, .inl (o_past))), (a_o_refusals, .inl (cI, 3, .inl (o_refusals)))] [(a_o, .inr (6, [.ref a_o_now, .ref a_o_aside, .ref a_o_past, .int (o_states'), .ref a_o_refusals, .ref a_o_text, .int (o_bytes), .ref a_o_tried, .int (o_triedMany), .ref a_o_shuffled, .ref a_o_letters, .ref a_o_numbers, .int (o_orders), .int (o_spot), .int (o_wrongAt), .long (o_hash)])), (a_o_aside, .inl (cI, 52, .inl (o_aside))), (a_o_past, .inl (cI, 260, .inl (o_past'))), (a_o_refusals, .inl (cI, 3, .inl (o_refusals')))] (some (.int r0)) := by
  refine Met.ofW (cc := cX7_finished) (maxL := 2) (ret := (some .int)) (by decide) rfl ?_
  intro p e s m args below meth c s₁ B hml hv
  obtain ⟨rfl, hP, hK, hD0⟩ := hv
  have hx := B.exec
  have hb := B.bytes
  have hr := B.returns
  have hts : ∀ w ∈ GW, w.before _ s = true := fun w hw => atoms_spec (ws := mws yX7_finished cX7_finished 2 (some .int)) B.pre w (List.mem_cons_of_mem _ hw)
  have hown : s.vm.findClass RX7 = some m.cls := findClass_of_methodNamed B.named
  have hlocks := B.notSynchronized
  have hD := inW_self hD0
  generalize hAe : inW [(a_o, .inr (6, [.ref a_o_now, .ref a_o_aside, .ref a_o_past, .int (o_states), .ref a_o_refusals, .ref a_o_text, .int (o_bytes), .ref a_o_tried, .int (o_triedMany), .ref a_o_shuffled, .ref a_o_letters, .ref a_o_numbers, .int (o_orders), .int (o_spot), .int (o_wrongAt), .long (o_hash)])), (a_o_aside, .inl (cI, 52, .inl (o_aside))), (a_o_past, .inl (cI, 260, .inl (o_past))), (a_o_refusals, .inl (cI, 3, .inl (o_refusals)))] = A at hD ⊢
  have hS : va_S A s.heap s.heap [] := va_S.rf
  have hl := lv_entry ([.ref a_o, .int x1]) (n := 2) (Nat.le_of_ble_eq_true rfl)
  rw [lg_entry_eq]
  generalize (lg_sl ([.ref a_o, .int x1]) ++ List.replicate (2 - (lg_sl ([.ref a_o, .int x1])).length) Slot.unset).toArray = ls at hl ⊢
  have hl : lv_has ls 2 [(0, .ref a_o), (1, .int x1)] := hl
  have S : CallFix p m c cX7_finished 2 s _ GW RX7 := ⟨hx, hb, hml, hown, hts⟩
  unfold f_X7_finished at h
  refine lv_iload_n hx hb dX7_finished_0 rfl (lv_at hl 1 rfl) ?_
  refine lv_bipush (v := (-2 : Int32)) hx hb dX7_finished_1 (by decide) ?_
  refine lv_icmp_gt (tgt := 12) hx hb dX7_finished_3 (by decide) (fun c1 => ?_) (fun c1 => ?_)
  · have h := it_t c1 h
    refine lv_aload_n hx hb dX7_finished_12 rfl (lv_at hl 0 rfl) ?_
    obtain ⟨w2, w3, hc4, h⟩ := bd2_use h
    refine wr_V (As := []) (rest := []) (ws' := [(a_o, .inr (6, [.ref a_o_now, .ref a_o_aside, .ref a_o_past, .int (w2), .ref a_o_refusals, .ref a_o_text, .int (o_bytes), .ref a_o_tried, .int (o_triedMany), .ref a_o_shuffled, .ref a_o_letters, .ref a_o_numbers, .int (o_orders), .int (o_spot), .int (o_wrongAt), .long (o_hash)])), (a_o_aside, .inl (cI, 52, .inl (o_aside))), (a_o_past, .inl (cI, 260, .inl (w3))), (a_o_refusals, .inl (cI, 3, .inl (o_refusals)))]) S (c_X7_remembers l D cI cS a_o a_o_aside a_o_past a_o_now a_o_refusals a_o_text a_o_tried a_o_shuffled a_o_letters a_o_numbers o_states o_bytes o_triedMany o_orders o_spot o_wrongAt o_hash o_aside o_past w2 w3 hc4) (cwV1 hts cvX7_remembers wmX7_45 rfl rfl ⟨(Nat.le_of_ble_eq_true rfl), (Nat.le_of_ble_eq_true rfl)⟩) hK hP hD hS [0, 1, 2] rfl rfl [(true, 0), (true, 1), (true, 2), (false, 3)] rfl rfl rfl 0 rfl rfl rfl rfl hl.1 rfl (Nat.le_of_ble_eq_true rfl) dX7_finished_13 ⟨Nat.zero_le _, Nat.zero_le _⟩ rfl (fun H locs hP hD hS => ?_)
    refine lv_iload_n hx hb dX7_finished_16 rfl (lv_at hl 1 rfl) ?_
    cases h
    exact W.iret hx hb hr (fun t ht _ => ⟨rfl, by rw [ht]; exact hP, hS.F ht⟩) hS.2.2 dX7_finished_17
  · have h := it_f c1 h
    refine lv_aload_n hx hb dX7_finished_6 rfl (lv_at hl 0 rfl) ?_
    refine lv_iload_n hx hb dX7_finished_7 rfl (lv_at hl 1 rfl) ?_
    obtain ⟨r5, w6, hc7, h⟩ := bd2_use h
    refine wr_V (As := [.int x1]) (rest := []) (ws' := [(a_o, .inr (6, [.ref a_o_now, .ref a_o_aside, .ref a_o_past, .int (o_states), .ref a_o_refusals, .ref a_o_text, .int (o_bytes), .ref a_o_tried, .int (o_triedMany), .ref a_o_shuffled, .ref a_o_letters, .ref a_o_numbers, .int (o_orders), .int (o_spot), .int (o_wrongAt), .long (o_hash)])), (a_o_aside, .inl (cI, 52, .inl (o_aside))), (a_o_past, .inl (cI, 260, .inl (o_past))), (a_o_refusals, .inl (cI, 3, .inl (w6)))]) S (c_X7_refuses l D cI cS a_o a_o_refusals a_o_now a_o_aside a_o_past a_o_text a_o_tried a_o_shuffled a_o_letters a_o_numbers o_states o_bytes o_triedMany o_orders o_spot o_wrongAt o_hash o_refusals x1 r5 w6 hc7) (cwV1 hts cvX7_refuses wmX7_41 rfl rfl ⟨(Nat.le_of_ble_eq_true rfl), (Nat.le_of_ble_eq_true rfl)⟩) hK hP hD hS [0, 3] rfl rfl [(true, 0), (false, 1), (false, 2), (true, 1)] rfl rfl rfl 0 rfl rfl rfl rfl hl.1 rfl (Nat.le_of_ble_eq_true rfl) dX7_finished_8 ⟨Nat.zero_le _, Nat.zero_le _⟩ rfl (fun H locs hP hD hS => ?_)
    cases h
    exact W.iret hx hb hr (fun t ht _ => ⟨rfl, by rw [ht]; exact hP, hS.F ht⟩) hS.2.2 dX7_finished_11
def f_X7_cuts (o_states : Int32) (o_now : Ar) (o_aside : Ar) (o_past : Ar) (o_refusals : Ar) : Option (Int32 × Int32 × Ar × Ar × Ar × Ar) := bd1 (f_X7_laysAside o_now o_aside) (fun w1 => bd2 (f_X7_putCut o_now) (fun r3 w4 => bd4 (f_X7_finished o_states w1 o_past o_refusals r3) (fun r6 w7 w8 w9 => some (r6, w7, w4, w1, w8, w9))))
set_option maxHeartbeats 4000000 in
set_option maxRecDepth 100000 in
theorem c_X7_cuts (l : Launch) (D : va_G) (cI cS : ClassId) (a_o : Nat) (a_o_now : Nat) (a_o_aside : Nat) (a_o_past : Nat) (a_o_refusals : Nat) (a_o_text : Nat) (a_o_tried : Nat) (a_o_shuffled : Nat) (a_o_letters : Nat) (a_o_numbers : Nat) (o_states : Int32) (o_bytes : Int32) (o_triedMany : Int32) (o_orders : Int32) (o_spot : Int32) (o_wrongAt : Int32) (o_hash : Int64) (o_now : Ar) (o_aside : Ar) (o_past : Ar) (o_refusals : Ar) (r0 : Int32) (o_states' : Int32) (o_now' : Ar) (o_aside' : Ar) (o_past' : Ar) (o_refusals' : Ar) (h : f_X7_cuts o_states o_now o_aside o_past o_refusals = some (r0, o_states', o_now', o_aside', o_past', o_refusals')) : wrM l D cI cS yX7_cuts cX7_cuts 1 (some .int) 2 43 [.ref a_o] [(a_o, .inr (6, [.ref a_o_now, .ref a_o_aside, .ref a_o_past, .int (o_states), .ref a_o_refusals, .ref a_o_text, .int (o_bytes), .ref a_o_tried, .int (o_triedMany), .ref a_o_shuffled, .ref a_o_letters, .ref a_o_numbers, .int (o_orders), .int (o_spot), .int (o_wrongAt), .long (o_hash)])), (a_o_now, .inl (cI, 52, .inl (o_now))), (a_o_aside, .inl (cI, 52, .inl (o_aside))), (a_o_past, .inl (cI, 260, .inl (o_past))), (a_o_refusals, .inl (cI, 3, .inl (o_refusals)))] [(a_o, .inr (6, [.ref a_o_now, .ref a_o_aside, .ref a_o_past, .int (o_states'), .ref a_o_refusals, .ref a_o_text, .int (o_bytes), .ref a_o_tried, .int (o_triedMany), .ref a_o_shuffled, .ref a_o_letters, .ref a_o_numbers, .int (o_orders), .int (o_spot), .int (o_wrongAt), .long (o_hash)])), (a_o_now, .inl (cI, 52, .inl (o_now'))), (a_o_aside, .inl (cI, 52, .inl (o_aside'))), (a_o_past, .inl (cI, 260, .inl (o_past'))), (a_o_refusals, .inl (cI, 3, .inl (o_refusals')))] (some (.int r0)) := by
  refine Met.ofW (cc := cX7_cuts) (maxL := 1) (ret := (some .int)) (by decide) rfl ?_
  intro p e s m args below meth c s₁ B hml hv
  obtain ⟨rfl, hP, hK, hD0⟩ := hv
  have hx := B.exec
  have hb := B.bytes
  have hr := B.returns
  have hts : ∀ w ∈ GW, w.before _ s = true := fun w hw => atoms_spec (ws := mws yX7_cuts cX7_cuts 1 (some .int)) B.pre w (List.mem_cons_of_mem _ hw)
  have hown : s.vm.findClass RX7 = some m.cls := findClass_of_methodNamed B.named
  have hlocks := B.notSynchronized
  have hD := inW_self hD0
  generalize hAe : inW [(a_o, .inr (6, [.ref a_o_now, .ref a_o_aside, .ref a_o_past, .int (o_states), .ref a_o_refusals, .ref a_o_text, .int (o_bytes), .ref a_o_tried, .int (o_triedMany), .ref a_o_shuffled, .ref a_o_letters, .ref a_o_numbers, .int (o_orders), .int (o_spot), .int (o_wrongAt), .long (o_hash)])), (a_o_now, .inl (cI, 52, .inl (o_now))), (a_o_aside, .inl (cI, 52, .inl (o_aside))), (a_o_past, .inl (cI, 260, .inl (o_past))), (a_o_refusals, .inl (cI, 3, .inl (o_refusals)))] = A at hD ⊢
  have hS : va_S A s.heap s.heap [] := va_S.rf
  have hl := lv_entry ([.ref a_o]) (n := 1) (Nat.le_of_ble_eq_true rfl)
  rw [lg_entry_eq]
  generalize (lg_sl ([.ref a_o]) ++ List.replicate (1 - (lg_sl ([.ref a_o])).length) Slot.unset).toArray = ls at hl ⊢
  have hl : lv_has ls 1 [(0, .ref a_o)] := hl
  have S : CallFix p m c cX7_cuts 1 s _ GW RX7 := ⟨hx, hb, hml, hown, hts⟩
  unfold f_X7_cuts at h
  refine lv_aload_n hx hb dX7_cuts_0 rfl (lv_at hl 0 rfl) ?_
  obtain ⟨w1, hc2, h⟩ := bd1_use h
  refine wr_V (As := []) (rest := []) (ws' := [(a_o, .inr (6, [.ref a_o_now, .ref a_o_aside, .ref a_o_past, .int (o_states), .ref a_o_refusals, .ref a_o_text, .int (o_bytes), .ref a_o_tried, .int (o_triedMany), .ref a_o_shuffled, .ref a_o_letters, .ref a_o_numbers, .int (o_orders), .int (o_spot), .int (o_wrongAt), .long (o_hash)])), (a_o_now, .inl (cI, 52, .inl (o_now))), (a_o_aside, .inl (cI, 52, .inl (w1))), (a_o_past, .inl (cI, 260, .inl (o_past))), (a_o_refusals, .inl (cI, 3, .inl (o_refusals)))]) S (c_X7_laysAside l D cI cS a_o a_o_now a_o_aside a_o_past a_o_refusals a_o_text a_o_tried a_o_shuffled a_o_letters a_o_numbers o_states o_bytes o_triedMany o_orders o_spot o_wrongAt o_hash o_now o_aside w1 hc2) (cwV1 hts cvX7_laysAside wmX7_121 rfl rfl ⟨(Nat.le_of_ble_eq_true rfl), (Nat.le_of_ble_eq_true rfl)⟩) hK hP hD hS [0, 1, 2] rfl rfl [(true, 0), (true, 1), (true, 2), (false, 3), (false, 4)] rfl rfl rfl 0 rfl rfl rfl rfl hl.1 rfl (Nat.le_of_ble_eq_true rfl) dX7_cuts_1 ⟨Nat.zero_le _, Nat.zero_le _⟩ rfl (fun H locs hP hD hS => ?_)
  refine lv_aload_n hx hb dX7_cuts_4 rfl (lv_at hl 0 rfl) ?_
  refine lv_aload_n hx hb dX7_cuts_5 rfl (lv_at hl 0 rfl) ?_
  obtain ⟨r3, w4, hc5, h⟩ := bd2_use h
  refine wr_V (As := []) (rest := [.ref a_o]) (ws' := [(a_o, .inr (6, [.ref a_o_now, .ref a_o_aside, .ref a_o_past, .int (o_states), .ref a_o_refusals, .ref a_o_text, .int (o_bytes), .ref a_o_tried, .int (o_triedMany), .ref a_o_shuffled, .ref a_o_letters, .ref a_o_numbers, .int (o_orders), .int (o_spot), .int (o_wrongAt), .long (o_hash)])), (a_o_now, .inl (cI, 52, .inl (w4))), (a_o_aside, .inl (cI, 52, .inl (w1))), (a_o_past, .inl (cI, 260, .inl (o_past))), (a_o_refusals, .inl (cI, 3, .inl (o_refusals)))]) S (c_X7_putCut l D cI cS a_o a_o_now a_o_aside a_o_past a_o_refusals a_o_text a_o_tried a_o_shuffled a_o_letters a_o_numbers o_states o_bytes o_triedMany o_orders o_spot o_wrongAt o_hash o_now r3 w4 hc5) (cwV1 hts cvX7_putCut wmX7_131 rfl rfl ⟨(Nat.le_of_ble_eq_true rfl), (Nat.le_of_ble_eq_true rfl)⟩) hK hP hD hS [0, 1] rfl rfl [(true, 0), (true, 1), (false, 2), (false, 3), (false, 4)] rfl rfl rfl 0 rfl rfl rfl rfl hl.1 rfl (Nat.le_of_ble_eq_true rfl) dX7_cuts_6 ⟨Nat.zero_le _, Nat.zero_le _⟩ rfl (fun H locs hP hD hS => ?_)
  obtain ⟨r6, w7, w8, w9, hc10, h⟩ := bd4_use h
  refine wr_V (As := [.int r3]) (rest := []) (ws' := [(a_o, .inr (6, [.ref a_o_now, .ref a_o_aside, .ref a_o_past, .int (w7), .ref a_o_refusals, .ref a_o_text, .int (o_bytes), .ref a_o_tried, .int (o_triedMany), .ref a_o_shuffled, .ref a_o_letters, .ref a_o_numbers, .int (o_orders), .int (o_spot), .int (o_wrongAt), .long (o_hash)])), (a_o_now, .inl (cI, 52, .inl (w4))), (a_o_aside, .inl (cI, 52, .inl (w1))), (a_o_past, .inl (cI, 260, .inl (w8))), (a_o_refusals, .inl (cI, 3, .inl (w9)))]) S (c_X7_finished l D cI cS a_o a_o_aside a_o_past a_o_refusals a_o_now a_o_text a_o_tried a_o_shuffled a_o_letters a_o_numbers o_states o_bytes o_triedMany o_orders o_spot o_wrongAt o_hash w1 o_past o_refusals r3 r6 w7 w8 w9 hc10) (cwV1 hts cvX7_finished wmX7_128 rfl rfl ⟨(Nat.le_of_ble_eq_true rfl), (Nat.le_of_ble_eq_true rfl)⟩) hK hP hD hS [0, 2, 3, 4] rfl rfl [(true, 0), (false, 1), (true, 1), (true, 2), (true, 3)] rfl rfl rfl 0 rfl rfl rfl rfl hl.1 rfl (Nat.le_of_ble_eq_true rfl) dX7_cuts_9 ⟨Nat.zero_le _, Nat.zero_le _⟩ rfl (fun H locs hP hD hS => ?_)
  cases h
  exact W.iret hx hb hr (fun t ht _ => ⟨rfl, by rw [ht]; exact hP, hS.F ht⟩) hS.2.2 dX7_cuts_12
def f_X7_toldAt (o_states : Int32) (o_bytes : Int32) (o_refusals : Ar) (x1 : Int32) : Option (Int32) := (if (3 : Int32) ≤ x1 then (if x1 = (3 : Int32) then some (o_bytes) else some (o_states)) else rd o_refusals 3 x1 (fun rv3 => some (rv3)))
set_option maxHeartbeats 4000000 in
set_option maxRecDepth 100000 in
theorem c_X7_toldAt (l : Launch) (D : va_G) (cI cS : ClassId) (a_o : Nat) (a_o_refusals : Nat) (a_o_now : Nat) (a_o_aside : Nat) (a_o_past : Nat) (a_o_text : Nat) (a_o_tried : Nat) (a_o_shuffled : Nat) (a_o_letters : Nat) (a_o_numbers : Nat) (o_states : Int32) (o_bytes : Int32) (o_triedMany : Int32) (o_orders : Int32) (o_spot : Int32) (o_wrongAt : Int32) (o_hash : Int64) (o_refusals : Ar) (x1 : Int32) (r0 : Int32) (h : f_X7_toldAt o_states o_bytes o_refusals x1 = some r0) : roM l D cI cS yX7_toldAt cX7_toldAt 2 (some .int) 0 0 [.ref a_o, .int x1] [(a_o, .inr (6, [.ref a_o_now, .ref a_o_aside, .ref a_o_past, .int (o_states), .ref a_o_refusals, .ref a_o_text, .int (o_bytes), .ref a_o_tried, .int (o_triedMany), .ref a_o_shuffled, .ref a_o_letters, .ref a_o_numbers, .int (o_orders), .int (o_spot), .int (o_wrongAt), .long (o_hash)])), (a_o_refusals, .inl (cI, 3, .inl (o_refusals)))] (some (.int r0)) := by
  refine Met.ofW (cc := cX7_toldAt) (maxL := 2) (ret := (some .int)) (by decide) rfl ?_
  intro p e s m args below meth c s₁ B hml hv
  obtain ⟨rfl, hP, hK⟩ := hv
  have hx := B.exec
  have hb := B.bytes
  have hr := B.returns
  have hts : ∀ w ∈ GW, w.before _ s = true := fun w hw => atoms_spec (ws := mws yX7_toldAt cX7_toldAt 2 (some .int)) B.pre w (List.mem_cons_of_mem _ hw)
  have hown : s.vm.findClass RX7 = some m.cls := findClass_of_methodNamed B.named
  have hlocks := B.notSynchronized
  have hl := lv_entry ([.ref a_o, .int x1]) (n := 2) (Nat.le_of_ble_eq_true rfl)
  rw [lg_entry_eq]
  generalize (lg_sl ([.ref a_o, .int x1]) ++ List.replicate (2 - (lg_sl ([.ref a_o, .int x1])).length) Slot.unset).toArray = ls at hl ⊢
  have hl : lv_has ls 2 [(0, .ref a_o), (1, .int x1)] := hl
  have S : CallFix p m c cX7_toldAt 2 s _ GW RX7 := ⟨hx, hb, hml, hown, hts⟩
  unfold f_X7_toldAt at h
  refine lv_iload_n hx hb dX7_toldAt_0 rfl (lv_at hl 1 rfl) ?_
  refine lv_iconst (v := (3 : Int32)) hx hb dX7_toldAt_1 (by decide) ?_
  refine lv_icmp_ge (tgt := 14) hx hb dX7_toldAt_2 (by decide) (fun c1 => ?_) (fun c1 => ?_)
  · have h := it_t c1 h
    refine lv_iload_n hx hb dX7_toldAt_14 rfl (lv_at hl 1 rfl) ?_
    refine lv_iconst (v := (3 : Int32)) hx hb dX7_toldAt_15 (by decide) ?_
    refine lv_icmp_ne (tgt := 26) hx hb dX7_toldAt_16 (by decide) (fun c2 => ?_) (fun c2 => ?_)
    · have h := it_f c2 h
      refine lv_aload_n hx hb dX7_toldAt_26 rfl (lv_at hl 0 rfl) ?_
      refine gfX7_3 hx hb hts hown hK hP 0 rfl wfX7_37 dX7_toldAt_27 ?_
      exact W.iret hx hb hr (fun t ht _ => ⟨congrArg (fun z => Outcome.returned (some (Value.int z))) (Option.some.inj h), ht⟩) (fun q hq => by cases hq) dX7_toldAt_30
    · have h := it_t c2 h
      refine lv_aload_n hx hb dX7_toldAt_19 rfl (lv_at hl 0 rfl) ?_
      refine gfX7_6 hx hb hts hown hK hP 0 rfl wfX7_180 dX7_toldAt_20 ?_
      refine lv_goto (tgt := 30) hx hb dX7_toldAt_23 (by decide) ?_
      exact W.iret hx hb hr (fun t ht _ => ⟨congrArg (fun z => Outcome.returned (some (Value.int z))) (Option.some.inj h), ht⟩) (fun q hq => by cases hq) dX7_toldAt_30
  · have h := it_f c1 h
    refine lv_aload_n hx hb dX7_toldAt_5 rfl (lv_at hl 0 rfl) ?_
    refine gfX7_4 hx hb hts hown hK hP 0 rfl wfX7_19 dX7_toldAt_6 ?_
    refine lv_iload_n hx hb dX7_toldAt_9 rfl (lv_at hl 1 rfl) ?_
    obtain ⟨hi4, h⟩ := rd_use h
    refine ia_ hx hb hK hP 1 rfl hi4 dX7_toldAt_10 ?_
    refine lv_goto (tgt := 30) hx hb dX7_toldAt_11 (by decide) ?_
    exact W.iret hx hb hr (fun t ht _ => ⟨congrArg (fun z => Outcome.returned (some (Value.int z))) (Option.some.inj h), ht⟩) (fun q hq => by cases hq) dX7_toldAt_30
def f_X7_mix (o_hash : Int64) (x1 : Int64) : Option (Int64) := nm (((31 : Int64) * o_hash) + x1) (fun y1 => some (y1))
set_option maxHeartbeats 4000000 in
set_option maxRecDepth 100000 in
theorem c_X7_mix (l : Launch) (D : va_G) (cI cS : ClassId) (a_o : Nat) (a_o_now : Nat) (a_o_aside : Nat) (a_o_past : Nat) (a_o_refusals : Nat) (a_o_text : Nat) (a_o_tried : Nat) (a_o_shuffled : Nat) (a_o_letters : Nat) (a_o_numbers : Nat) (o_states : Int32) (o_bytes : Int32) (o_triedMany : Int32) (o_orders : Int32) (o_spot : Int32) (o_wrongAt : Int32) (o_hash : Int64) (x1 : Int64) (o_hash' : Int64) (h : f_X7_mix o_hash x1 = some o_hash') : wrM l D cI cS yX7_mix cX7_mix 3 none 0 0 [.ref a_o, .long x1] [(a_o, .inr (6, [.ref a_o_now, .ref a_o_aside, .ref a_o_past, .int (o_states), .ref a_o_refusals, .ref a_o_text, .int (o_bytes), .ref a_o_tried, .int (o_triedMany), .ref a_o_shuffled, .ref a_o_letters, .ref a_o_numbers, .int (o_orders), .int (o_spot), .int (o_wrongAt), .long (o_hash)]))] [(a_o, .inr (6, [.ref a_o_now, .ref a_o_aside, .ref a_o_past, .int (o_states), .ref a_o_refusals, .ref a_o_text, .int (o_bytes), .ref a_o_tried, .int (o_triedMany), .ref a_o_shuffled, .ref a_o_letters, .ref a_o_numbers, .int (o_orders), .int (o_spot), .int (o_wrongAt), .long (o_hash')]))] none := by
  refine Met.ofW (cc := cX7_mix) (maxL := 3) (ret := none) (by decide) rfl ?_
  intro p e s m args below meth c s₁ B hml hv
  obtain ⟨rfl, hP, hK, hD0⟩ := hv
  have hx := B.exec
  have hb := B.bytes
  have hr := B.returns
  have hts : ∀ w ∈ GW, w.before _ s = true := fun w hw => atoms_spec (ws := mws yX7_mix cX7_mix 3 none) B.pre w (List.mem_cons_of_mem _ hw)
  have hown : s.vm.findClass RX7 = some m.cls := findClass_of_methodNamed B.named
  have hlocks := B.notSynchronized
  have hD := inW_self hD0
  generalize hAe : inW [(a_o, .inr (6, [.ref a_o_now, .ref a_o_aside, .ref a_o_past, .int (o_states), .ref a_o_refusals, .ref a_o_text, .int (o_bytes), .ref a_o_tried, .int (o_triedMany), .ref a_o_shuffled, .ref a_o_letters, .ref a_o_numbers, .int (o_orders), .int (o_spot), .int (o_wrongAt), .long (o_hash)]))] = A at hD ⊢
  have hS : va_S A s.heap s.heap [] := va_S.rf
  have hl := lv_entry ([.ref a_o, .long x1]) (n := 3) (Nat.le_of_ble_eq_true rfl)
  rw [lg_entry_eq]
  generalize (lg_sl ([.ref a_o, .long x1]) ++ List.replicate (3 - (lg_sl ([.ref a_o, .long x1])).length) Slot.unset).toArray = ls at hl ⊢
  have hl : lv_has ls 3 [(0, .ref a_o), (1, .long x1)] := hl
  have S : CallFix p m c cX7_mix 3 s _ GW RX7 := ⟨hx, hb, hml, hown, hts⟩
  unfold f_X7_mix at h
  refine lv_aload_n hx hb dX7_mix_0 rfl (lv_at hl 0 rfl) ?_
  refine lv_ldc2 (v := (31 : Int64)) hx hb hown (hts _ wkX7_223) dX7_mix_1 ?_
  refine lv_aload_n hx hb dX7_mix_4 rfl (lv_at hl 0 rfl) ?_
  refine gfX7_15 hx hb hts hown hK hP 0 rfl wfX7_225 dX7_mix_5 ?_
  refine lv_lmul hx hb dX7_mix_8 ?_
  refine lv_lload_n hx hb dX7_mix_9 rfl (lv_at hl 1 rfl) ?_
  refine lv_ladd hx hb dX7_mix_10 ?_
  refine lv_topl (fun y1 ey1 => ?_)
  have h := nm_use h ey1
  refine pfX7_15 (ws' := [(a_o, .inr (6, [.ref a_o_now, .ref a_o_aside, .ref a_o_past, .int (o_states), .ref a_o_refusals, .ref a_o_text, .int (o_bytes), .ref a_o_tried, .int (o_triedMany), .ref a_o_shuffled, .ref a_o_letters, .ref a_o_numbers, .int (o_orders), .int (o_spot), .int (o_wrongAt), .long (y1)]))]) hx hb hts hown hK hP hD hS 0 rfl rfl wfX7_225 dX7_mix_11 (fun H locs hP hD hS => ?_)
  cases h
  exact W.vret hx hb hr (fun t ht _ => ⟨rfl, by rw [ht]; exact hP, hS.F ht⟩) hS.2.2 dX7_mix_14
def f_X7_testTold (o_now : Ar) (x1 : Int32) (x2 : Int32) : Option (Int32) := (if (5 : Int32) ≤ x2 then bd1 (f_X7_isAlone o_now x1) (fun r2 => (if (b2i r2) = (0 : Int32) then some ((0 : Int32)) else some ((1 : Int32)))) else bd1 (f_X7_ofTest o_now x1 x2) (fun r5 => some (r5)))
set_option maxHeartbeats 4000000 in
set_option maxRecDepth 100000 in
theorem c_X7_testTold (l : Launch) (D : va_G) (cI cS : ClassId) (a_o : Nat) (a_o_now : Nat) (a_o_aside : Nat) (a_o_past : Nat) (a_o_refusals : Nat) (a_o_text : Nat) (a_o_tried : Nat) (a_o_shuffled : Nat) (a_o_letters : Nat) (a_o_numbers : Nat) (o_states : Int32) (o_bytes : Int32) (o_triedMany : Int32) (o_orders : Int32) (o_spot : Int32) (o_wrongAt : Int32) (o_hash : Int64) (o_now : Ar) (x1 : Int32) (x2 : Int32) (r0 : Int32) (h : f_X7_testTold o_now x1 x2 = some r0) : roM l D cI cS yX7_testTold cX7_testTold 3 (some .int) 3 65 [.ref a_o, .int x1, .int x2] [(a_o, .inr (6, [.ref a_o_now, .ref a_o_aside, .ref a_o_past, .int (o_states), .ref a_o_refusals, .ref a_o_text, .int (o_bytes), .ref a_o_tried, .int (o_triedMany), .ref a_o_shuffled, .ref a_o_letters, .ref a_o_numbers, .int (o_orders), .int (o_spot), .int (o_wrongAt), .long (o_hash)])), (a_o_now, .inl (cI, 52, .inl (o_now)))] (some (.int r0)) := by
  refine Met.ofW (cc := cX7_testTold) (maxL := 3) (ret := (some .int)) (by decide) rfl ?_
  intro p e s m args below meth c s₁ B hml hv
  obtain ⟨rfl, hP, hK⟩ := hv
  have hx := B.exec
  have hb := B.bytes
  have hr := B.returns
  have hts : ∀ w ∈ GW, w.before _ s = true := fun w hw => atoms_spec (ws := mws yX7_testTold cX7_testTold 3 (some .int)) B.pre w (List.mem_cons_of_mem _ hw)
  have hown : s.vm.findClass RX7 = some m.cls := findClass_of_methodNamed B.named
  have hlocks := B.notSynchronized
  have hl := lv_entry ([.ref a_o, .int x1, .int x2]) (n := 3) (Nat.le_of_ble_eq_true rfl)
  rw [lg_entry_eq]
  generalize (lg_sl ([.ref a_o, .int x1, .int x2]) ++ List.replicate (3 - (lg_sl ([.ref a_o, .int x1, .int x2])).length) Slot.unset).toArray = ls at hl ⊢
  have hl : lv_has ls 3 [(0, .ref a_o), (1, .int x1), (2, .int x2)] := hl
  have S : CallFix p m c cX7_testTold 3 s _ GW RX7 := ⟨hx, hb, hml, hown, hts⟩
  unfold f_X7_testTold at h
  refine lv_iload_n hx hb dX7_testTold_0 rfl (lv_at hl 2 rfl) ?_
  refine lv_iconst (v := (5 : Int32)) hx hb dX7_testTold_1 (by decide) ?_
  refine lv_icmp_ge (tgt := 14) hx hb dX7_testTold_2 (by decide) (fun c1 => ?_) (fun c1 => ?_)
  · have h := it_t c1 h
    refine lv_aload_n hx hb dX7_testTold_14 rfl (lv_at hl 0 rfl) ?_
    refine lv_iload_n hx hb dX7_testTold_15 rfl (lv_at hl 1 rfl) ?_
    obtain ⟨r2, hc3, h⟩ := bd1_use h
    refine ro_V (As := [.int x1]) (rest := []) S (c_X7_isAlone l D cI cS a_o a_o_now a_o_aside a_o_past a_o_refusals a_o_text a_o_tried a_o_shuffled a_o_letters a_o_numbers o_states o_bytes o_triedMany o_orders o_spot o_wrongAt o_hash o_now x1 r2 hc3) (cwV1 hts cvX7_isAlone wmX7_70 rfl rfl ⟨(Nat.le_of_ble_eq_true rfl), (Nat.le_of_ble_eq_true rfl)⟩) hK hP [0, 1] rfl 0 rfl rfl rfl rfl hl.1 rfl (Nat.le_of_ble_eq_true rfl) dX7_testTold_16 ⟨Nat.zero_le _, Nat.zero_le _⟩ rfl ?_
    refine lv_if_eq (tgt := 26) hx hb dX7_testTold_19 (by decide) (fun c4 => ?_) (fun c4 => ?_)
    · have h := it_t c4 h
      refine lv_iconst (v := (0 : Int32)) hx hb dX7_testTold_26 (by decide) ?_
      exact W.iret hx hb hr (fun t ht _ => ⟨congrArg (fun z => Outcome.returned (some (Value.int z))) (Option.some.inj h), ht⟩) (fun q hq => by cases hq) dX7_testTold_27
    · have h := it_f c4 h
      refine lv_iconst (v := (1 : Int32)) hx hb dX7_testTold_22 (by decide) ?_
      refine lv_goto (tgt := 27) hx hb dX7_testTold_23 (by decide) ?_
      exact W.iret hx hb hr (fun t ht _ => ⟨congrArg (fun z => Outcome.returned (some (Value.int z))) (Option.some.inj h), ht⟩) (fun q hq => by cases hq) dX7_testTold_27
  · have h := it_f c1 h
    refine lv_aload_n hx hb dX7_testTold_5 rfl (lv_at hl 0 rfl) ?_
    refine lv_iload_n hx hb dX7_testTold_6 rfl (lv_at hl 1 rfl) ?_
    refine lv_iload_n hx hb dX7_testTold_7 rfl (lv_at hl 2 rfl) ?_
    obtain ⟨r5, hc6, h⟩ := bd1_use h
    refine ro_V (As := [.int x1, .int x2]) (rest := []) S (c_X7_ofTest l D cI cS a_o a_o_now a_o_aside a_o_past a_o_refusals a_o_text a_o_tried a_o_shuffled a_o_letters a_o_numbers o_states o_bytes o_triedMany o_orders o_spot o_wrongAt o_hash o_now x1 x2 r5 hc6) (cwV1 hts cvX7_ofTest wmX7_52 rfl rfl ⟨(Nat.le_of_ble_eq_true rfl), (Nat.le_of_ble_eq_true rfl)⟩) hK hP [0, 1] rfl 0 rfl rfl rfl rfl hl.1 rfl (Nat.le_of_ble_eq_true rfl) dX7_testTold_8 ⟨Nat.zero_le _, Nat.zero_le _⟩ rfl ?_
    refine lv_goto (tgt := 27) hx hb dX7_testTold_11 (by decide) ?_
    exact W.iret hx hb hr (fun t ht _ => ⟨congrArg (fun z => Outcome.returned (some (Value.int z))) (Option.some.inj h), ht⟩) (fun q hq => by cases hq) dX7_testTold_27
def b_X7_laysShuffled_38 : Nat → Int64 → Int32 → Ar → Option (Ar)
  | 0, _, _, _ => none
  | n + 1, v2, v4, o_shuffled => (if v4 ≤ (0 : Int32) then some (o_shuffled) else nm (((v2 * (1103515245 : Int64)) + (12345 : Int64)) - ((v2 * (1103515245 : Int64)) + (12345 : Int64)) / (2147483648 : Int64) * (2147483648 : Int64)) (fun y2 => dvl ((v4 + (1 : Int32)).toInt64) (nm (((y2 / (65536 : Int64)) - (y2 / (65536 : Int64)) / ((v4 + (1 : Int32)).toInt64) * ((v4 + (1 : Int32)).toInt64)).toInt32) (fun y4 => rd o_shuffled 8 v4 (fun rv5 => rd o_shuffled 8 y4 (fun rv7 => wr o_shuffled 8 v4 rv7 (fun fv9 => wr fv9 8 y4 rv5 (fun fv11 => nm (v4 + (-1 : Int32)) (fun y13 => b_X7_laysShuffled_38  n y2 y13 fv11)))))))))
def b_X7_laysShuffled_2 (o_now : Ar) (x1 : Int32) : Nat → Int32 → Ar → Option (Ar)
  | 0, _, _ => none
  | n + 1, v2, o_shuffled => rd o_now 52 (0 : Int32) (fun rv14 => (if rv14 ≤ v2 then nm (x1.toInt64) (fun y17 => rd o_now 52 (0 : Int32) (fun rv18 => nm (rv18 - (1 : Int32)) (fun y20 => b_X7_laysShuffled_38  FU y17 y20 o_shuffled))) else wr o_shuffled 8 v2 v2 (fun fv21 => nm (v2 + (1 : Int32)) (fun y23 => b_X7_laysShuffled_2 o_now x1 n y23 fv21))))
def f_X7_laysShuffled (o_now : Ar) (o_shuffled : Ar) (x1 : Int32) : Option (Ar) := b_X7_laysShuffled_2 o_now x1 FU (0 : Int32) o_shuffled
set_option maxHeartbeats 4000000 in
set_option maxRecDepth 100000 in
theorem c_X7_laysShuffled (l : Launch) (D : va_G) (cI cS : ClassId) (a_o : Nat) (a_o_now : Nat) (a_o_shuffled : Nat) (a_o_aside : Nat) (a_o_past : Nat) (a_o_refusals : Nat) (a_o_text : Nat) (a_o_tried : Nat) (a_o_letters : Nat) (a_o_numbers : Nat) (o_states : Int32) (o_bytes : Int32) (o_triedMany : Int32) (o_orders : Int32) (o_spot : Int32) (o_wrongAt : Int32) (o_hash : Int64) (o_now : Ar) (o_shuffled : Ar) (x1 : Int32) (o_shuffled' : Ar) (h : f_X7_laysShuffled o_now o_shuffled x1 = some o_shuffled') : wrM l D cI cS yX7_laysShuffled cX7_laysShuffled 7 none 0 0 [.ref a_o, .int x1] [(a_o, .inr (6, [.ref a_o_now, .ref a_o_aside, .ref a_o_past, .int (o_states), .ref a_o_refusals, .ref a_o_text, .int (o_bytes), .ref a_o_tried, .int (o_triedMany), .ref a_o_shuffled, .ref a_o_letters, .ref a_o_numbers, .int (o_orders), .int (o_spot), .int (o_wrongAt), .long (o_hash)])), (a_o_now, .inl (cI, 52, .inl (o_now))), (a_o_shuffled, .inl (cI, 8, .inl (o_shuffled)))] [(a_o, .inr (6, [.ref a_o_now, .ref a_o_aside, .ref a_o_past, .int (o_states), .ref a_o_refusals, .ref a_o_text, .int (o_bytes), .ref a_o_tried, .int (o_triedMany), .ref a_o_shuffled, .ref a_o_letters, .ref a_o_numbers, .int (o_orders), .int (o_spot), .int (o_wrongAt), .long (o_hash)])), (a_o_now, .inl (cI, 52, .inl (o_now))), (a_o_shuffled, .inl (cI, 8, .inl (o_shuffled')))] none := by
  refine Met.ofW (cc := cX7_laysShuffled) (maxL := 7) (ret := none) (by decide) rfl ?_
  intro p e s m args below meth c s₁ B hml hv
  obtain ⟨rfl, hP, hK, hD0⟩ := hv
  have hx := B.exec
  have hb := B.bytes
  have hr := B.returns
  have hts : ∀ w ∈ GW, w.before _ s = true := fun w hw => atoms_spec (ws := mws yX7_laysShuffled cX7_laysShuffled 7 none) B.pre w (List.mem_cons_of_mem _ hw)
  have hown : s.vm.findClass RX7 = some m.cls := findClass_of_methodNamed B.named
  have hlocks := B.notSynchronized
  have hD := inW_self hD0
  generalize hAe : inW [(a_o, .inr (6, [.ref a_o_now, .ref a_o_aside, .ref a_o_past, .int (o_states), .ref a_o_refusals, .ref a_o_text, .int (o_bytes), .ref a_o_tried, .int (o_triedMany), .ref a_o_shuffled, .ref a_o_letters, .ref a_o_numbers, .int (o_orders), .int (o_spot), .int (o_wrongAt), .long (o_hash)])), (a_o_now, .inl (cI, 52, .inl (o_now))), (a_o_shuffled, .inl (cI, 8, .inl (o_shuffled)))] = A at hD ⊢
  have hS : va_S A s.heap s.heap [] := va_S.rf
  have hl := lv_entry ([.ref a_o, .int x1]) (n := 7) (Nat.le_of_ble_eq_true rfl)
  rw [lg_entry_eq]
  generalize (lg_sl ([.ref a_o, .int x1]) ++ List.replicate (7 - (lg_sl ([.ref a_o, .int x1])).length) Slot.unset).toArray = ls at hl ⊢
  have hl : lv_has ls 7 [(0, .ref a_o), (1, .int x1)] := hl
  have S : CallFix p m c cX7_laysShuffled 7 s _ GW RX7 := ⟨hx, hb, hml, hown, hts⟩
  have L_38 : ∀ (n : Nat) (v2 : Int64) (v4 : Int32) (o_shuffled : Ar), b_X7_laysShuffled_38  n v2 v4 o_shuffled = some o_shuffled' → ∀ (H : Heap) (locs : List Loc), va_P D vwCl [(a_o, .inr (6, [.ref a_o_now, .ref a_o_aside, .ref a_o_past, .int (o_states), .ref a_o_refusals, .ref a_o_text, .int (o_bytes), .ref a_o_tried, .int (o_triedMany), .ref a_o_shuffled, .ref a_o_letters, .ref a_o_numbers, .int (o_orders), .int (o_spot), .int (o_wrongAt), .long (o_hash)])), (a_o_now, .inl (cI, 52, .inl (o_now))), (a_o_shuffled, .inl (cI, 8, .inl (o_shuffled)))] H → va_D A [(a_o, .inr (6, [.ref a_o_now, .ref a_o_aside, .ref a_o_past, .int (o_states), .ref a_o_refusals, .ref a_o_text, .int (o_bytes), .ref a_o_tried, .int (o_triedMany), .ref a_o_shuffled, .ref a_o_letters, .ref a_o_numbers, .int (o_orders), .int (o_spot), .int (o_wrongAt), .long (o_hash)])), (a_o_now, .inl (cI, 52, .inl (o_now))), (a_o_shuffled, .inl (cI, 8, .inl (o_shuffled)))] → va_S A s.heap H locs → ∀ (ls : Array Slot), lv_has ls 7 [(0, .ref a_o), (2, .long v2), (4, .int v4)] → W p l e (headSpec (mws yX7_laysShuffled cX7_laysShuffled 7 none) { frames := 0, cells := 0, slots := 0, locals := 0 }).room s m [.ref a_o, .int x1].toArray below meth c H locs 0 0 (MQ below (wrQ D A [(a_o, .inr (6, [.ref a_o_now, .ref a_o_aside, .ref a_o_past, .int (o_states), .ref a_o_refusals, .ref a_o_text, .int (o_bytes), .ref a_o_tried, .int (o_triedMany), .ref a_o_shuffled, .ref a_o_letters, .ref a_o_numbers, .int (o_orders), .int (o_spot), .int (o_wrongAt), .long (o_hash)])), (a_o_now, .inl (cI, 52, .inl (o_now))), (a_o_shuffled, .inl (cI, 8, .inl (o_shuffled')))] none) [.ref a_o, .int x1].toArray s 0 0 A) (F0 m 38 ls []) := by
    intro n
    induction n with
    | zero =>
      intro v2 v4 o_shuffled h
      exact nn_no h
    | succ n ih =>
      intro v2 v4 o_shuffled h H locs hP hD hS ls hl
      rw [b_X7_laysShuffled_38] at h
      refine lv_iload hx hb dX7_laysShuffled_38 (lv_at hl 2 rfl) ?_
      refine lv_if_le (tgt := 109) hx hb dX7_laysShuffled_40 (by decide) (fun c1 => ?_) (fun c1 => ?_)
      · have h := it_t c1 h
        cases h
        exact W.vret hx hb hr (fun t ht _ => ⟨rfl, by rw [ht]; exact hP, hS.F ht⟩) hS.2.2 dX7_laysShuffled_109
      · have h := it_f c1 h
        refine lv_lload_n hx hb dX7_laysShuffled_43 rfl (lv_at hl 1 rfl) ?_
        refine lv_ldc2 (v := (1103515245 : Int64)) hx hb hown (hts _ wkX7_103) dX7_laysShuffled_44 ?_
        refine lv_lmul hx hb dX7_laysShuffled_47 ?_
        refine lv_ldc2 (v := (12345 : Int64)) hx hb hown (hts _ wkX7_105) dX7_laysShuffled_48 ?_
        refine lv_ladd hx hb dX7_laysShuffled_51 ?_
        refine lv_ldc2 (v := (2147483648 : Int64)) hx hb hown (hts _ wkX7_107) dX7_laysShuffled_52 ?_
        refine lv_lrem hx hb dX7_laysShuffled_55 (by decide) ?_
        refine lv_topl (fun y2 ey2 => ?_)
        have h := nm_use h ey2
        refine lv_lstore_n (lv' := [(2, .long y2), (0, .ref a_o), (4, .int v4)]) hx hb dX7_laysShuffled_56 rfl hl (by decide) rfl (fun ls hl => ?_)
        refine lv_lload_n hx hb dX7_laysShuffled_57 rfl (lv_at hl 0 rfl) ?_
        refine lv_ldc2 (v := (65536 : Int64)) hx hb hown (hts _ wkX7_109) dX7_laysShuffled_58 ?_
        refine lv_ldiv hx hb dX7_laysShuffled_61 (by decide) ?_
        refine lv_iload hx hb dX7_laysShuffled_62 (lv_at hl 2 rfl) ?_
        refine lv_iconst (v := (1 : Int32)) hx hb dX7_laysShuffled_64 (by decide) ?_
        refine lv_iadd hx hb dX7_laysShuffled_65 ?_
        refine lv_i2l (v := ((v4 + (1 : Int32)).toInt64)) hx hb dX7_laysShuffled_66 rfl ?_
        obtain ⟨hz3, h⟩ := dvl_use h
        refine lv_lrem hx hb dX7_laysShuffled_67 hz3 ?_
        refine lv_l2i (v := (((y2 / (65536 : Int64)) - (y2 / (65536 : Int64)) / ((v4 + (1 : Int32)).toInt64) * ((v4 + (1 : Int32)).toInt64)).toInt32)) hx hb dX7_laysShuffled_68 rfl ?_
        refine lv_topi (fun y4 ey4 => ?_)
        have h := nm_use h ey4
        refine lv_istore (lv' := [(5, .int y4), (2, .long y2), (0, .ref a_o), (4, .int v4)]) hx hb dX7_laysShuffled_69 hl (by decide) rfl (fun ls hl => ?_)
        refine lv_aload_n hx hb dX7_laysShuffled_71 rfl (lv_at hl 2 rfl) ?_
        refine gfX7_9 hx hb hts hown hK hP 0 rfl wfX7_28 dX7_laysShuffled_72 ?_
        refine lv_iload hx hb dX7_laysShuffled_75 (lv_at hl 3 rfl) ?_
        obtain ⟨hi6, h⟩ := rd_use h
        refine ia_ hx hb hK hP 2 rfl hi6 dX7_laysShuffled_77 ?_
        refine lv_istore (lv' := [(6, .int (o_shuffled v4.toNatClampNeg)), (5, .int y4), (2, .long y2), (0, .ref a_o), (4, .int v4)]) hx hb dX7_laysShuffled_78 hl (by decide) rfl (fun ls hl => ?_)
        refine lv_aload_n hx hb dX7_laysShuffled_80 rfl (lv_at hl 3 rfl) ?_
        refine gfX7_9 hx hb hts hown hK hP 0 rfl wfX7_28 dX7_laysShuffled_81 ?_
        refine lv_iload hx hb dX7_laysShuffled_84 (lv_at hl 4 rfl) ?_
        refine lv_aload_n hx hb dX7_laysShuffled_86 rfl (lv_at hl 3 rfl) ?_
        refine gfX7_9 hx hb hts hown hK hP 0 rfl wfX7_28 dX7_laysShuffled_87 ?_
        refine lv_iload hx hb dX7_laysShuffled_90 (lv_at hl 1 rfl) ?_
        obtain ⟨hi8, h⟩ := rd_use h
        refine ia_ hx hb hK hP 2 rfl hi8 dX7_laysShuffled_92 ?_
        obtain ⟨hi10, h⟩ := wr_use h
        refine is_ (ws' := [(a_o, .inr (6, [.ref a_o_now, .ref a_o_aside, .ref a_o_past, .int (o_states), .ref a_o_refusals, .ref a_o_text, .int (o_bytes), .ref a_o_tried, .int (o_triedMany), .ref a_o_shuffled, .ref a_o_letters, .ref a_o_numbers, .int (o_orders), .int (o_spot), .int (o_wrongAt), .long (o_hash)])), (a_o_now, .inl (cI, 52, .inl (o_now))), (a_o_shuffled, .inl (cI, 8, .inl ((upd o_shuffled v4.toNatClampNeg (o_shuffled y4.toNatClampNeg)))))]) hx hb hK hP hD hS 2 rfl rfl hi10 dX7_laysShuffled_93 (fun H locs hP hD hS => ?_)
        refine lv_aload_n hx hb dX7_laysShuffled_94 rfl (lv_at hl 3 rfl) ?_
        refine gfX7_9 hx hb hts hown hK hP 0 rfl wfX7_28 dX7_laysShuffled_95 ?_
        refine lv_iload hx hb dX7_laysShuffled_98 (lv_at hl 1 rfl) ?_
        refine lv_iload hx hb dX7_laysShuffled_100 (lv_at hl 0 rfl) ?_
        obtain ⟨hi12, h⟩ := wr_use h
        refine is_ (ws' := [(a_o, .inr (6, [.ref a_o_now, .ref a_o_aside, .ref a_o_past, .int (o_states), .ref a_o_refusals, .ref a_o_text, .int (o_bytes), .ref a_o_tried, .int (o_triedMany), .ref a_o_shuffled, .ref a_o_letters, .ref a_o_numbers, .int (o_orders), .int (o_spot), .int (o_wrongAt), .long (o_hash)])), (a_o_now, .inl (cI, 52, .inl (o_now))), (a_o_shuffled, .inl (cI, 8, .inl ((upd (upd o_shuffled v4.toNatClampNeg (o_shuffled y4.toNatClampNeg)) y4.toNatClampNeg (o_shuffled v4.toNatClampNeg)))))]) hx hb hK hP hD hS 2 rfl rfl hi12 dX7_laysShuffled_102 (fun H locs hP hD hS => ?_)
        obtain ⟨y13, ey13⟩ : ∃ z : Int32, z = v4 + (-1 : Int32) := ⟨_, rfl⟩
        have h := nm_use h ey13
        refine lv_iinc (v := y13) (lv' := [(4, .int y13), (6, .int (o_shuffled v4.toNatClampNeg)), (5, .int y4), (2, .long y2), (0, .ref a_o)]) hx hb dX7_laysShuffled_103 hl (k := 4) rfl (by rw [ey13]; rfl) (by decide) rfl (fun ls hl => ?_)
        refine lv_goto (tgt := 38) hx hb dX7_laysShuffled_106 (by decide) ?_
        exact ih _ _ _ h _ _ hP hD hS _ (lv_sub hl [4, 3, 0] rfl)
  have L_2 : ∀ (n : Nat) (v2 : Int32) (o_shuffled : Ar), b_X7_laysShuffled_2 o_now x1 n v2 o_shuffled = some o_shuffled' → ∀ (H : Heap) (locs : List Loc), va_P D vwCl [(a_o, .inr (6, [.ref a_o_now, .ref a_o_aside, .ref a_o_past, .int (o_states), .ref a_o_refusals, .ref a_o_text, .int (o_bytes), .ref a_o_tried, .int (o_triedMany), .ref a_o_shuffled, .ref a_o_letters, .ref a_o_numbers, .int (o_orders), .int (o_spot), .int (o_wrongAt), .long (o_hash)])), (a_o_now, .inl (cI, 52, .inl (o_now))), (a_o_shuffled, .inl (cI, 8, .inl (o_shuffled)))] H → va_D A [(a_o, .inr (6, [.ref a_o_now, .ref a_o_aside, .ref a_o_past, .int (o_states), .ref a_o_refusals, .ref a_o_text, .int (o_bytes), .ref a_o_tried, .int (o_triedMany), .ref a_o_shuffled, .ref a_o_letters, .ref a_o_numbers, .int (o_orders), .int (o_spot), .int (o_wrongAt), .long (o_hash)])), (a_o_now, .inl (cI, 52, .inl (o_now))), (a_o_shuffled, .inl (cI, 8, .inl (o_shuffled)))] → va_S A s.heap H locs → ∀ (ls : Array Slot), lv_has ls 7 [(0, .ref a_o), (1, .int x1), (2, .int v2)] → W p l e (headSpec (mws yX7_laysShuffled cX7_laysShuffled 7 none) { frames := 0, cells := 0, slots := 0, locals := 0 }).room s m [.ref a_o, .int x1].toArray below meth c H locs 0 0 (MQ below (wrQ D A [(a_o, .inr (6, [.ref a_o_now, .ref a_o_aside, .ref a_o_past, .int (o_states), .ref a_o_refusals, .ref a_o_text, .int (o_bytes), .ref a_o_tried, .int (o_triedMany), .ref a_o_shuffled, .ref a_o_letters, .ref a_o_numbers, .int (o_orders), .int (o_spot), .int (o_wrongAt), .long (o_hash)])), (a_o_now, .inl (cI, 52, .inl (o_now))), (a_o_shuffled, .inl (cI, 8, .inl (o_shuffled')))] none) [.ref a_o, .int x1].toArray s 0 0 A) (F0 m 2 ls []) := by
    intro n
    induction n with
    | zero =>
      intro v2 o_shuffled h
      exact nn_no h
    | succ n ih =>
      intro v2 o_shuffled h H locs hP hD hS ls hl
      rw [b_X7_laysShuffled_2] at h
      refine lv_iload_n hx hb dX7_laysShuffled_2 rfl (lv_at hl 2 rfl) ?_
      refine lv_aload_n hx hb dX7_laysShuffled_3 rfl (lv_at hl 0 rfl) ?_
      refine gfX7_0 hx hb hts hown hK hP 0 rfl wfX7_7 dX7_laysShuffled_4 ?_
      refine lv_iconst (v := (0 : Int32)) hx hb dX7_laysShuffled_7 (by decide) ?_
      obtain ⟨hi15, h⟩ := rd_use h
      refine ia_ hx hb hK hP 1 rfl hi15 dX7_laysShuffled_8 ?_
      refine lv_icmp_ge (tgt := 25) hx hb dX7_laysShuffled_9 (by decide) (fun c16 => ?_) (fun c16 => ?_)
      · have h := it_t c16 h
        refine lv_iload_n hx hb dX7_laysShuffled_25 rfl (lv_at hl 1 rfl) ?_
        refine lv_i2l (v := (x1.toInt64)) hx hb dX7_laysShuffled_26 rfl ?_
        refine lv_topl (fun y17 ey17 => ?_)
        have h := nm_use h ey17
        refine lv_lstore_n (lv' := [(2, .long y17), (0, .ref a_o), (1, .int x1)]) hx hb dX7_laysShuffled_27 rfl hl (by decide) rfl (fun ls hl => ?_)
        refine lv_aload_n hx hb dX7_laysShuffled_28 rfl (lv_at hl 1 rfl) ?_
        refine gfX7_0 hx hb hts hown hK hP 0 rfl wfX7_7 dX7_laysShuffled_29 ?_
        refine lv_iconst (v := (0 : Int32)) hx hb dX7_laysShuffled_32 (by decide) ?_
        obtain ⟨hi19, h⟩ := rd_use h
        refine ia_ hx hb hK hP 1 rfl hi19 dX7_laysShuffled_33 ?_
        refine lv_iconst (v := (1 : Int32)) hx hb dX7_laysShuffled_34 (by decide) ?_
        refine lv_isub hx hb dX7_laysShuffled_35 ?_
        refine lv_topi (fun y20 ey20 => ?_)
        have h := nm_use h ey20
        refine lv_istore (lv' := [(4, .int y20), (2, .long y17), (0, .ref a_o), (1, .int x1)]) hx hb dX7_laysShuffled_36 hl (by decide) rfl (fun ls hl => ?_)
        exact L_38 _ _ _ _ h _ _ hP hD hS _ (lv_sub hl [2, 1, 0] rfl)
      · have h := it_f c16 h
        refine lv_aload_n hx hb dX7_laysShuffled_12 rfl (lv_at hl 0 rfl) ?_
        refine gfX7_9 hx hb hts hown hK hP 0 rfl wfX7_28 dX7_laysShuffled_13 ?_
        refine lv_iload_n hx hb dX7_laysShuffled_16 rfl (lv_at hl 2 rfl) ?_
        refine lv_iload_n hx hb dX7_laysShuffled_17 rfl (lv_at hl 2 rfl) ?_
        obtain ⟨hi22, h⟩ := wr_use h
        refine is_ (ws' := [(a_o, .inr (6, [.ref a_o_now, .ref a_o_aside, .ref a_o_past, .int (o_states), .ref a_o_refusals, .ref a_o_text, .int (o_bytes), .ref a_o_tried, .int (o_triedMany), .ref a_o_shuffled, .ref a_o_letters, .ref a_o_numbers, .int (o_orders), .int (o_spot), .int (o_wrongAt), .long (o_hash)])), (a_o_now, .inl (cI, 52, .inl (o_now))), (a_o_shuffled, .inl (cI, 8, .inl ((upd o_shuffled v2.toNatClampNeg v2))))]) hx hb hK hP hD hS 2 rfl rfl hi22 dX7_laysShuffled_18 (fun H locs hP hD hS => ?_)
        obtain ⟨y23, ey23⟩ : ∃ z : Int32, z = v2 + (1 : Int32) := ⟨_, rfl⟩
        have h := nm_use h ey23
        refine lv_iinc (v := y23) (lv' := [(2, .int y23), (0, .ref a_o), (1, .int x1)]) hx hb dX7_laysShuffled_19 hl (k := 2) rfl (by rw [ey23]; rfl) (by decide) rfl (fun ls hl => ?_)
        refine lv_goto (tgt := 2) hx hb dX7_laysShuffled_22 (by decide) ?_
        exact ih _ _ h _ _ hP hD hS _ (lv_sub hl [1, 2, 0] rfl)
  unfold f_X7_laysShuffled at h
  refine lv_iconst (v := (0 : Int32)) hx hb dX7_laysShuffled_0 (by decide) ?_
  refine lv_istore_n (lv' := [(2, .int (0 : Int32)), (0, .ref a_o), (1, .int x1)]) hx hb dX7_laysShuffled_1 rfl hl (by decide) rfl (fun ls hl => ?_)
  exact L_2 _ _ _ h _ _ hP hD hS _ (lv_sub hl [1, 2, 0] rfl)
def b_X7_flipsBy_17 (o_now : Ar) : Nat → Int32 → Int32 → Int32 → Ar → Option (Int32 × Ar)
  | 0, _, _, _, _ => none
  | n + 1, v2, v3, v4, o_shuffled => rd o_now 52 (0 : Int32) (fun rv1 => (if rv1 ≤ v4 then some (v2, o_shuffled) else rd o_shuffled 8 v4 (fun rv4 => bd1 (f_X7_passes o_now rv4 v3) (fun r6 => bd1 (f_X7_isAlone o_now rv4) (fun r8 => (if (b2i r6) = (b2i r8) then nm (v2 ||| (0 : Int32)) (fun y11 => bd1 (f_X7_behind o_now rv4 v3) (fun r12 => nm (v4 + (1 : Int32)) (fun y14 => b_X7_flipsBy_17 o_now n y11 r12 y14 o_shuffled))) else nm (v2 ||| ((1 : Int32) <<< (rv4 &&& (31 : Int32)))) (fun y15 => bd1 (f_X7_behind o_now rv4 v3) (fun r16 => nm (v4 + (1 : Int32)) (fun y18 => b_X7_flipsBy_17 o_now n y15 r16 y18 o_shuffled)))))))))
def f_X7_flipsBy (o_now : Ar) (o_shuffled : Ar) (x1 : Int32) : Option (Int32 × Ar) := bd1 (f_X7_laysShuffled o_now o_shuffled x1) (fun w19 => rd o_now 52 (1 : Int32) (fun rv21 => b_X7_flipsBy_17 o_now FU (0 : Int32) rv21 (0 : Int32) w19))
set_option maxHeartbeats 4000000 in
set_option maxRecDepth 100000 in
theorem c_X7_flipsBy (l : Launch) (D : va_G) (cI cS : ClassId) (a_o : Nat) (a_o_now : Nat) (a_o_shuffled : Nat) (a_o_aside : Nat) (a_o_past : Nat) (a_o_refusals : Nat) (a_o_text : Nat) (a_o_tried : Nat) (a_o_letters : Nat) (a_o_numbers : Nat) (o_states : Int32) (o_bytes : Int32) (o_triedMany : Int32) (o_orders : Int32) (o_spot : Int32) (o_wrongAt : Int32) (o_hash : Int64) (o_now : Ar) (o_shuffled : Ar) (x1 : Int32) (r0 : Int32) (o_shuffled' : Ar) (h : f_X7_flipsBy o_now o_shuffled x1 = some (r0, o_shuffled')) : wrM l D cI cS yX7_flipsBy cX7_flipsBy 6 (some .int) 3 67 [.ref a_o, .int x1] [(a_o, .inr (6, [.ref a_o_now, .ref a_o_aside, .ref a_o_past, .int (o_states), .ref a_o_refusals, .ref a_o_text, .int (o_bytes), .ref a_o_tried, .int (o_triedMany), .ref a_o_shuffled, .ref a_o_letters, .ref a_o_numbers, .int (o_orders), .int (o_spot), .int (o_wrongAt), .long (o_hash)])), (a_o_now, .inl (cI, 52, .inl (o_now))), (a_o_shuffled, .inl (cI, 8, .inl (o_shuffled)))] [(a_o, .inr (6, [.ref a_o_now, .ref a_o_aside, .ref a_o_past, .int (o_states), .ref a_o_refusals, .ref a_o_text, .int (o_bytes), .ref a_o_tried, .int (o_triedMany), .ref a_o_shuffled, .ref a_o_letters, .ref a_o_numbers, .int (o_orders), .int (o_spot), .int (o_wrongAt), .long (o_hash)])), (a_o_now, .inl (cI, 52, .inl (o_now))), (a_o_shuffled, .inl (cI, 8, .inl (o_shuffled')))] (some (.int r0)) := by
  refine Met.ofW (cc := cX7_flipsBy) (maxL := 6) (ret := (some .int)) (by decide) rfl ?_
  intro p e s m args below meth c s₁ B hml hv
  obtain ⟨rfl, hP, hK, hD0⟩ := hv
  have hx := B.exec
  have hb := B.bytes
  have hr := B.returns
  have hts : ∀ w ∈ GW, w.before _ s = true := fun w hw => atoms_spec (ws := mws yX7_flipsBy cX7_flipsBy 6 (some .int)) B.pre w (List.mem_cons_of_mem _ hw)
  have hown : s.vm.findClass RX7 = some m.cls := findClass_of_methodNamed B.named
  have hlocks := B.notSynchronized
  have hD := inW_self hD0
  generalize hAe : inW [(a_o, .inr (6, [.ref a_o_now, .ref a_o_aside, .ref a_o_past, .int (o_states), .ref a_o_refusals, .ref a_o_text, .int (o_bytes), .ref a_o_tried, .int (o_triedMany), .ref a_o_shuffled, .ref a_o_letters, .ref a_o_numbers, .int (o_orders), .int (o_spot), .int (o_wrongAt), .long (o_hash)])), (a_o_now, .inl (cI, 52, .inl (o_now))), (a_o_shuffled, .inl (cI, 8, .inl (o_shuffled)))] = A at hD ⊢
  have hS : va_S A s.heap s.heap [] := va_S.rf
  have hl := lv_entry ([.ref a_o, .int x1]) (n := 6) (Nat.le_of_ble_eq_true rfl)
  rw [lg_entry_eq]
  generalize (lg_sl ([.ref a_o, .int x1]) ++ List.replicate (6 - (lg_sl ([.ref a_o, .int x1])).length) Slot.unset).toArray = ls at hl ⊢
  have hl : lv_has ls 6 [(0, .ref a_o), (1, .int x1)] := hl
  have S : CallFix p m c cX7_flipsBy 6 s _ GW RX7 := ⟨hx, hb, hml, hown, hts⟩
  have L_17 : ∀ (n : Nat) (v2 : Int32) (v3 : Int32) (v4 : Int32) (o_shuffled : Ar), b_X7_flipsBy_17 o_now n v2 v3 v4 o_shuffled = some (r0, o_shuffled') → ∀ (H : Heap) (locs : List Loc), va_P D vwCl [(a_o, .inr (6, [.ref a_o_now, .ref a_o_aside, .ref a_o_past, .int (o_states), .ref a_o_refusals, .ref a_o_text, .int (o_bytes), .ref a_o_tried, .int (o_triedMany), .ref a_o_shuffled, .ref a_o_letters, .ref a_o_numbers, .int (o_orders), .int (o_spot), .int (o_wrongAt), .long (o_hash)])), (a_o_now, .inl (cI, 52, .inl (o_now))), (a_o_shuffled, .inl (cI, 8, .inl (o_shuffled)))] H → va_D A [(a_o, .inr (6, [.ref a_o_now, .ref a_o_aside, .ref a_o_past, .int (o_states), .ref a_o_refusals, .ref a_o_text, .int (o_bytes), .ref a_o_tried, .int (o_triedMany), .ref a_o_shuffled, .ref a_o_letters, .ref a_o_numbers, .int (o_orders), .int (o_spot), .int (o_wrongAt), .long (o_hash)])), (a_o_now, .inl (cI, 52, .inl (o_now))), (a_o_shuffled, .inl (cI, 8, .inl (o_shuffled)))] → va_S A s.heap H locs → ∀ (ls : Array Slot), lv_has ls 6 [(0, .ref a_o), (2, .int v2), (3, .int v3), (4, .int v4)] → W p l e (headSpec (mws yX7_flipsBy cX7_flipsBy 6 (some .int)) { frames := 3, cells := 0, slots := 0, locals := 67 }).room s m [.ref a_o, .int x1].toArray below meth c H locs 0 0 (MQ below (wrQ D A [(a_o, .inr (6, [.ref a_o_now, .ref a_o_aside, .ref a_o_past, .int (o_states), .ref a_o_refusals, .ref a_o_text, .int (o_bytes), .ref a_o_tried, .int (o_triedMany), .ref a_o_shuffled, .ref a_o_letters, .ref a_o_numbers, .int (o_orders), .int (o_spot), .int (o_wrongAt), .long (o_hash)])), (a_o_now, .inl (cI, 52, .inl (o_now))), (a_o_shuffled, .inl (cI, 8, .inl (o_shuffled')))] (some (.int r0))) [.ref a_o, .int x1].toArray s 0 0 A) (F0 m 17 ls []) := by
    intro n
    induction n with
    | zero =>
      intro v2 v3 v4 o_shuffled h
      exact nn_no h
    | succ n ih =>
      intro v2 v3 v4 o_shuffled h H locs hP hD hS ls hl
      rw [b_X7_flipsBy_17] at h
      refine lv_iload hx hb dX7_flipsBy_17 (lv_at hl 3 rfl) ?_
      refine lv_aload_n hx hb dX7_flipsBy_19 rfl (lv_at hl 0 rfl) ?_
      refine gfX7_0 hx hb hts hown hK hP 0 rfl wfX7_7 dX7_flipsBy_20 ?_
      refine lv_iconst (v := (0 : Int32)) hx hb dX7_flipsBy_23 (by decide) ?_
      obtain ⟨hi2, h⟩ := rd_use h
      refine ia_ hx hb hK hP 1 rfl hi2 dX7_flipsBy_24 ?_
      refine lv_icmp_ge (tgt := 78) hx hb dX7_flipsBy_25 (by decide) (fun c3 => ?_) (fun c3 => ?_)
      · have h := it_t c3 h
        refine lv_iload_n hx hb dX7_flipsBy_78 rfl (lv_at hl 1 rfl) ?_
        cases h
        exact W.iret hx hb hr (fun t ht _ => ⟨rfl, by rw [ht]; exact hP, hS.F ht⟩) hS.2.2 dX7_flipsBy_79
      · have h := it_f c3 h
        refine lv_aload_n hx hb dX7_flipsBy_28 rfl (lv_at hl 0 rfl) ?_
        refine gfX7_9 hx hb hts hown hK hP 0 rfl wfX7_28 dX7_flipsBy_29 ?_
        refine lv_iload hx hb dX7_flipsBy_32 (lv_at hl 3 rfl) ?_
        obtain ⟨hi5, h⟩ := rd_use h
        refine ia_ hx hb hK hP 2 rfl hi5 dX7_flipsBy_34 ?_
        refine lv_istore (lv' := [(5, .int (o_shuffled v4.toNatClampNeg)), (0, .ref a_o), (2, .int v2), (3, .int v3), (4, .int v4)]) hx hb dX7_flipsBy_35 hl (by decide) rfl (fun ls hl => ?_)
        refine lv_iload_n hx hb dX7_flipsBy_37 rfl (lv_at hl 2 rfl) ?_
        refine lv_aload_n hx hb dX7_flipsBy_38 rfl (lv_at hl 1 rfl) ?_
        refine lv_iload hx hb dX7_flipsBy_39 (lv_at hl 0 rfl) ?_
        refine lv_iload_n hx hb dX7_flipsBy_41 rfl (lv_at hl 3 rfl) ?_
        obtain ⟨r6, hc7, h⟩ := bd1_use h
        refine ro_V (As := [.int (o_shuffled v4.toNatClampNeg), .int v3]) (rest := [.int v2]) S (c_X7_passes l D cI cS a_o a_o_now a_o_aside a_o_past a_o_refusals a_o_text a_o_tried a_o_shuffled a_o_letters a_o_numbers o_states o_bytes o_triedMany o_orders o_spot o_wrongAt o_hash o_now (o_shuffled v4.toNatClampNeg) v3 r6 hc7) (cwV1 hts cvX7_passes wmX7_56 rfl rfl ⟨(Nat.le_of_ble_eq_true rfl), (Nat.le_of_ble_eq_true rfl)⟩) hK hP [0, 1] rfl 0 rfl rfl rfl rfl hl.1 rfl (Nat.le_of_ble_eq_true rfl) dX7_flipsBy_42 ⟨Nat.zero_le _, Nat.zero_le _⟩ rfl ?_
        refine lv_aload_n hx hb dX7_flipsBy_45 rfl (lv_at hl 1 rfl) ?_
        refine lv_iload hx hb dX7_flipsBy_46 (lv_at hl 0 rfl) ?_
        obtain ⟨r8, hc9, h⟩ := bd1_use h
        refine ro_V (As := [.int (o_shuffled v4.toNatClampNeg)]) (rest := [.int (b2i r6), .int v2]) S (c_X7_isAlone l D cI cS a_o a_o_now a_o_aside a_o_past a_o_refusals a_o_text a_o_tried a_o_shuffled a_o_letters a_o_numbers o_states o_bytes o_triedMany o_orders o_spot o_wrongAt o_hash o_now (o_shuffled v4.toNatClampNeg) r8 hc9) (cwV1 hts cvX7_isAlone wmX7_70 rfl rfl ⟨(Nat.le_of_ble_eq_true rfl), (Nat.le_of_ble_eq_true rfl)⟩) hK hP [0, 1] rfl 0 rfl rfl rfl rfl hl.1 rfl (Nat.le_of_ble_eq_true rfl) dX7_flipsBy_48 ⟨Nat.zero_le _, Nat.zero_le _⟩ rfl ?_
        refine lv_icmp_eq (tgt := 61) hx hb dX7_flipsBy_51 (by decide) (fun c10 => ?_) (fun c10 => ?_)
        · have h := it_t c10 h
          refine lv_iconst (v := (0 : Int32)) hx hb dX7_flipsBy_61 (by decide) ?_
          refine lv_ior hx hb dX7_flipsBy_62 ?_
          refine lv_topi (fun y11 ey11 => ?_)
          have h := nm_use h ey11
          refine lv_istore_n (lv' := [(2, .int y11), (5, .int (o_shuffled v4.toNatClampNeg)), (0, .ref a_o), (3, .int v3), (4, .int v4)]) hx hb dX7_flipsBy_63 rfl hl (by decide) rfl (fun ls hl => ?_)
          refine lv_aload_n hx hb dX7_flipsBy_64 rfl (lv_at hl 2 rfl) ?_
          refine lv_iload hx hb dX7_flipsBy_65 (lv_at hl 1 rfl) ?_
          refine lv_iload_n hx hb dX7_flipsBy_67 rfl (lv_at hl 3 rfl) ?_
          obtain ⟨r12, hc13, h⟩ := bd1_use h
          refine ro_V (As := [.int (o_shuffled v4.toNatClampNeg), .int v3]) (rest := []) S (c_X7_behind l D cI cS a_o a_o_now a_o_aside a_o_past a_o_refusals a_o_text a_o_tried a_o_shuffled a_o_letters a_o_numbers o_states o_bytes o_triedMany o_orders o_spot o_wrongAt o_hash o_now (o_shuffled v4.toNatClampNeg) v3 r12 hc13) (cwV1 hts cvX7_behind wmX7_63 rfl rfl ⟨(Nat.le_of_ble_eq_true rfl), (Nat.le_of_ble_eq_true rfl)⟩) hK hP [0, 1] rfl 0 rfl rfl rfl rfl hl.1 rfl (Nat.le_of_ble_eq_true rfl) dX7_flipsBy_68 ⟨Nat.zero_le _, Nat.zero_le _⟩ rfl ?_
          refine lv_istore_n (lv' := [(3, .int r12), (2, .int y11), (5, .int (o_shuffled v4.toNatClampNeg)), (0, .ref a_o), (4, .int v4)]) hx hb dX7_flipsBy_71 rfl hl (by decide) rfl (fun ls hl => ?_)
          obtain ⟨y14, ey14⟩ : ∃ z : Int32, z = v4 + (1 : Int32) := ⟨_, rfl⟩
          have h := nm_use h ey14
          refine lv_iinc (v := y14) (lv' := [(4, .int y14), (3, .int r12), (2, .int y11), (5, .int (o_shuffled v4.toNatClampNeg)), (0, .ref a_o)]) hx hb dX7_flipsBy_72 hl (k := 4) rfl (by rw [ey14]; rfl) (by decide) rfl (fun ls hl => ?_)
          refine lv_goto (tgt := 17) hx hb dX7_flipsBy_75 (by decide) ?_
          exact ih _ _ _ _ h _ _ hP hD hS _ (lv_sub hl [4, 2, 1, 0] rfl)
        · have h := it_f c10 h
          refine lv_iconst (v := (1 : Int32)) hx hb dX7_flipsBy_54 (by decide) ?_
          refine lv_iload hx hb dX7_flipsBy_55 (lv_at hl 0 rfl) ?_
          refine lv_ishl hx hb dX7_flipsBy_57 ?_
          refine lv_goto (tgt := 62) hx hb dX7_flipsBy_58 (by decide) ?_
          refine lv_ior hx hb dX7_flipsBy_62 ?_
          refine lv_topi (fun y15 ey15 => ?_)
          have h := nm_use h ey15
          refine lv_istore_n (lv' := [(2, .int y15), (5, .int (o_shuffled v4.toNatClampNeg)), (0, .ref a_o), (3, .int v3), (4, .int v4)]) hx hb dX7_flipsBy_63 rfl hl (by decide) rfl (fun ls hl => ?_)
          refine lv_aload_n hx hb dX7_flipsBy_64 rfl (lv_at hl 2 rfl) ?_
          refine lv_iload hx hb dX7_flipsBy_65 (lv_at hl 1 rfl) ?_
          refine lv_iload_n hx hb dX7_flipsBy_67 rfl (lv_at hl 3 rfl) ?_
          obtain ⟨r16, hc17, h⟩ := bd1_use h
          refine ro_V (As := [.int (o_shuffled v4.toNatClampNeg), .int v3]) (rest := []) S (c_X7_behind l D cI cS a_o a_o_now a_o_aside a_o_past a_o_refusals a_o_text a_o_tried a_o_shuffled a_o_letters a_o_numbers o_states o_bytes o_triedMany o_orders o_spot o_wrongAt o_hash o_now (o_shuffled v4.toNatClampNeg) v3 r16 hc17) (cwV1 hts cvX7_behind wmX7_63 rfl rfl ⟨(Nat.le_of_ble_eq_true rfl), (Nat.le_of_ble_eq_true rfl)⟩) hK hP [0, 1] rfl 0 rfl rfl rfl rfl hl.1 rfl (Nat.le_of_ble_eq_true rfl) dX7_flipsBy_68 ⟨Nat.zero_le _, Nat.zero_le _⟩ rfl ?_
          refine lv_istore_n (lv' := [(3, .int r16), (2, .int y15), (5, .int (o_shuffled v4.toNatClampNeg)), (0, .ref a_o), (4, .int v4)]) hx hb dX7_flipsBy_71 rfl hl (by decide) rfl (fun ls hl => ?_)
          obtain ⟨y18, ey18⟩ : ∃ z : Int32, z = v4 + (1 : Int32) := ⟨_, rfl⟩
          have h := nm_use h ey18
          refine lv_iinc (v := y18) (lv' := [(4, .int y18), (3, .int r16), (2, .int y15), (5, .int (o_shuffled v4.toNatClampNeg)), (0, .ref a_o)]) hx hb dX7_flipsBy_72 hl (k := 4) rfl (by rw [ey18]; rfl) (by decide) rfl (fun ls hl => ?_)
          refine lv_goto (tgt := 17) hx hb dX7_flipsBy_75 (by decide) ?_
          exact ih _ _ _ _ h _ _ hP hD hS _ (lv_sub hl [4, 2, 1, 0] rfl)
  unfold f_X7_flipsBy at h
  refine lv_aload_n hx hb dX7_flipsBy_0 rfl (lv_at hl 0 rfl) ?_
  refine lv_iload_n hx hb dX7_flipsBy_1 rfl (lv_at hl 1 rfl) ?_
  obtain ⟨w19, hc20, h⟩ := bd1_use h
  refine wr_V (As := [.int x1]) (rest := []) (ws' := [(a_o, .inr (6, [.ref a_o_now, .ref a_o_aside, .ref a_o_past, .int (o_states), .ref a_o_refusals, .ref a_o_text, .int (o_bytes), .ref a_o_tried, .int (o_triedMany), .ref a_o_shuffled, .ref a_o_letters, .ref a_o_numbers, .int (o_orders), .int (o_spot), .int (o_wrongAt), .long (o_hash)])), (a_o_now, .inl (cI, 52, .inl (o_now))), (a_o_shuffled, .inl (cI, 8, .inl (w19)))]) S (c_X7_laysShuffled l D cI cS a_o a_o_now a_o_shuffled a_o_aside a_o_past a_o_refusals a_o_text a_o_tried a_o_letters a_o_numbers o_states o_bytes o_triedMany o_orders o_spot o_wrongAt o_hash o_now o_shuffled x1 w19 hc20) (cwV1 hts cvX7_laysShuffled wmX7_112 rfl rfl ⟨(Nat.le_of_ble_eq_true rfl), (Nat.le_of_ble_eq_true rfl)⟩) hK hP hD hS [0, 1, 2] rfl rfl [(true, 0), (true, 1), (true, 2)] rfl rfl rfl 0 rfl rfl rfl rfl hl.1 rfl (Nat.le_of_ble_eq_true rfl) dX7_flipsBy_2 ⟨Nat.zero_le _, Nat.zero_le _⟩ rfl (fun H locs hP hD hS => ?_)
  refine lv_iconst (v := (0 : Int32)) hx hb dX7_flipsBy_5 (by decide) ?_
  refine lv_istore_n (lv' := [(2, .int (0 : Int32)), (0, .ref a_o), (1, .int x1)]) hx hb dX7_flipsBy_6 rfl hl (by decide) rfl (fun ls hl => ?_)
  refine lv_aload_n hx hb dX7_flipsBy_7 rfl (lv_at hl 1 rfl) ?_
  refine gfX7_0 hx hb hts hown hK hP 0 rfl wfX7_7 dX7_flipsBy_8 ?_
  refine lv_iconst (v := (1 : Int32)) hx hb dX7_flipsBy_11 (by decide) ?_
  obtain ⟨hi22, h⟩ := rd_use h
  refine ia_ hx hb hK hP 1 rfl hi22 dX7_flipsBy_12 ?_
  refine lv_istore_n (lv' := [(3, .int (o_now (1 : Int32).toNatClampNeg)), (2, .int (0 : Int32)), (0, .ref a_o), (1, .int x1)]) hx hb dX7_flipsBy_13 rfl hl (by decide) rfl (fun ls hl => ?_)
  refine lv_iconst (v := (0 : Int32)) hx hb dX7_flipsBy_14 (by decide) ?_
  refine lv_istore (lv' := [(4, .int (0 : Int32)), (3, .int (o_now (1 : Int32).toNatClampNeg)), (2, .int (0 : Int32)), (0, .ref a_o), (1, .int x1)]) hx hb dX7_flipsBy_15 hl (by decide) rfl (fun ls hl => ?_)
  exact L_17 _ _ _ _ _ h _ _ hP hD hS _ (lv_sub hl [3, 2, 1, 0] rfl)
def b_X7_digest_154 (o_now : Ar) : Nat → Int32 → Int32 → Int64 → Ar → Ar → Option (Int64 × Int32 × Int64 × Ar × Ar)
  | 0, _, _, _, _, _ => none
  | n + 1, v1, o_triedMany, o_hash, o_tried, o_shuffled => (if (4 : Int32) ≤ v1 then some (o_hash, o_triedMany, o_hash, o_tried, o_shuffled) else bd2 (f_X7_flipsBy o_now o_shuffled v1) (fun r2 w3 => bd1 (f_X7_mix o_hash (r2.toInt64)) (fun w5 => nm (v1 + (1 : Int32)) (fun y7 => b_X7_digest_154 o_now n y7 o_triedMany w5 o_tried w3))))
def b_X7_digest_124 (o_now : Ar) (k_99 : Int32 → Int32 → Int64 → Ar → Ar → Option (Int64 × Int32 × Int64 × Ar × Ar)) : Nat → Int32 → Int32 → Int32 → Int64 → Ar → Ar → Option (Int64 × Int32 × Int64 × Ar × Ar)
  | 0, _, _, _, _, _, _ => none
  | n + 1, v1, v2, o_triedMany, o_hash, o_tried, o_shuffled => (if (5 : Int32) ≤ v2 then nm (v1 + (1 : Int32)) (fun y9 => k_99 y9 o_triedMany o_hash o_tried o_shuffled) else bd3 (f_X7_placeTold o_triedMany o_now o_tried v1 v2) (fun r10 w11 w12 => bd1 (f_X7_mix o_hash (r10.toInt64)) (fun w14 => nm (v2 + (1 : Int32)) (fun y16 => b_X7_digest_124 o_now k_99 n v1 y16 w11 w14 w12 o_shuffled))))
def b_X7_digest_99 (o_now : Ar) : Nat → Int32 → Int32 → Int64 → Ar → Ar → Option (Int64 × Int32 × Int64 × Ar × Ar)
  | 0, _, _, _, _, _ => none
  | n + 1, v1, o_triedMany, o_hash, o_tried, o_shuffled => rd o_now 52 (3 : Int32) (fun rv17 => (if rv17 ≤ v1 then b_X7_digest_154 o_now FU (1 : Int32) o_triedMany o_hash o_tried o_shuffled else rd o_now 52 ((4 : Int32) + v1) (fun rv20 => bd1 (f_X7_mix o_hash (rv20.toInt64)) (fun w22 => b_X7_digest_124 o_now (fun z0 z1 z2 z3 z4 => b_X7_digest_99 o_now n z0 z1 z2 z3 z4) FU v1 (1 : Int32) o_triedMany w22 o_tried o_shuffled))))
def b_X7_digest_68 (o_now : Ar) (k_56 : Int32 → Int32 → Int64 → Ar → Ar → Option (Int64 × Int32 × Int64 × Ar × Ar)) : Nat → Int32 → Int32 → Int32 → Int64 → Ar → Ar → Option (Int64 × Int32 × Int64 × Ar × Ar)
  | 0, _, _, _, _, _, _ => none
  | n + 1, v1, v2, o_triedMany, o_hash, o_tried, o_shuffled => (if (6 : Int32) ≤ v2 then nm (v1 + (1 : Int32)) (fun y25 => k_56 y25 o_triedMany o_hash o_tried o_shuffled) else bd1 (f_X7_testTold o_now v1 v2) (fun r26 => bd1 (f_X7_mix o_hash (r26.toInt64)) (fun w28 => nm (v2 + (1 : Int32)) (fun y30 => b_X7_digest_68 o_now k_56 n v1 y30 o_triedMany w28 o_tried o_shuffled))))
def b_X7_digest_56 (o_now : Ar) : Nat → Int32 → Int32 → Int64 → Ar → Ar → Option (Int64 × Int32 × Int64 × Ar × Ar)
  | 0, _, _, _, _, _ => none
  | n + 1, v1, o_triedMany, o_hash, o_tried, o_shuffled => rd o_now 52 (0 : Int32) (fun rv31 => (if rv31 ≤ v1 then b_X7_digest_99 o_now FU (0 : Int32) o_triedMany o_hash o_tried o_shuffled else b_X7_digest_68 o_now (fun z0 z1 z2 z3 z4 => b_X7_digest_56 o_now n z0 z1 z2 z3 z4) FU v1 (0 : Int32) o_triedMany o_hash o_tried o_shuffled))
def b_X7_digest_32 (o_now : Ar) : Nat → Int32 → Int32 → Int64 → Ar → Ar → Option (Int64 × Int32 × Int64 × Ar × Ar)
  | 0, _, _, _, _, _ => none
  | n + 1, v1, o_triedMany, o_hash, o_tried, o_shuffled => (if (8 : Int32) ≤ v1 then b_X7_digest_56 o_now FU (0 : Int32) o_triedMany o_hash o_tried o_shuffled else bd3 (f_X7_countTold o_triedMany o_now o_tried v1) (fun r35 w36 w37 => bd1 (f_X7_mix o_hash (r35.toInt64)) (fun w39 => nm (v1 + (1 : Int32)) (fun y41 => b_X7_digest_32 o_now n y41 w36 w39 w37 o_shuffled))))
def b_X7_digest_9 (o_states : Int32) (o_bytes : Int32) (o_now : Ar) (o_refusals : Ar) : Nat → Int32 → Int32 → Int64 → Ar → Ar → Option (Int64 × Int32 × Int64 × Ar × Ar)
  | 0, _, _, _, _, _ => none
  | n + 1, v1, o_triedMany, o_hash, o_tried, o_shuffled => (if (5 : Int32) ≤ v1 then b_X7_digest_32 o_now FU (0 : Int32) o_triedMany o_hash o_tried o_shuffled else bd1 (f_X7_toldAt o_states o_bytes o_refusals v1) (fun r43 => bd1 (f_X7_mix o_hash (r43.toInt64)) (fun w45 => nm (v1 + (1 : Int32)) (fun y47 => b_X7_digest_9 o_states o_bytes o_now o_refusals n y47 o_triedMany w45 o_tried o_shuffled))))
def f_X7_digest (o_states : Int32) (o_bytes : Int32) (o_triedMany : Int32) (o_hash : Int64) (o_now : Ar) (o_refusals : Ar) (o_tried : Ar) (o_shuffled : Ar) : Option (Int64 × Int32 × Int64 × Ar × Ar) := b_X7_digest_9 o_states o_bytes o_now o_refusals FU (0 : Int32) o_triedMany (18056 : Int64) o_tried o_shuffled
set_option maxHeartbeats 4000000 in
set_option maxRecDepth 100000 in
theorem c_X7_digest (l : Launch) (D : va_G) (cI cS : ClassId) (a_o : Nat) (a_o_now : Nat) (a_o_refusals : Nat) (a_o_tried : Nat) (a_o_shuffled : Nat) (a_o_aside : Nat) (a_o_past : Nat) (a_o_text : Nat) (a_o_letters : Nat) (a_o_numbers : Nat) (o_states : Int32) (o_bytes : Int32) (o_triedMany : Int32) (o_orders : Int32) (o_spot : Int32) (o_wrongAt : Int32) (o_hash : Int64) (o_now : Ar) (o_refusals : Ar) (o_tried : Ar) (o_shuffled : Ar) (r0 : Int64) (o_triedMany' : Int32) (o_hash' : Int64) (o_tried' : Ar) (o_shuffled' : Ar) (h : f_X7_digest o_states o_bytes o_triedMany o_hash o_now o_refusals o_tried o_shuffled = some (r0, o_triedMany', o_hash', o_tried', o_shuffled')) : wrM l D cI cS yX7_digest cX7_digest 3 (some .long) 8 179 [.ref a_o] [(a_o, .inr (6, [.ref a_o_now, .ref a_o_aside, .ref a_o_past, .int (o_states), .ref a_o_refusals, .ref a_o_text, .int (o_bytes), .ref a_o_tried, .int (o_triedMany), .ref a_o_shuffled, .ref a_o_letters, .ref a_o_numbers, .int (o_orders), .int (o_spot), .int (o_wrongAt), .long (o_hash)])), (a_o_now, .inl (cI, 52, .inl (o_now))), (a_o_refusals, .inl (cI, 3, .inl (o_refusals))), (a_o_tried, .inl (cI, 9, .inl (o_tried))), (a_o_shuffled, .inl (cI, 8, .inl (o_shuffled)))] [(a_o, .inr (6, [.ref a_o_now, .ref a_o_aside, .ref a_o_past, .int (o_states), .ref a_o_refusals, .ref a_o_text, .int (o_bytes), .ref a_o_tried, .int (o_triedMany'), .ref a_o_shuffled, .ref a_o_letters, .ref a_o_numbers, .int (o_orders), .int (o_spot), .int (o_wrongAt), .long (o_hash')])), (a_o_now, .inl (cI, 52, .inl (o_now))), (a_o_refusals, .inl (cI, 3, .inl (o_refusals))), (a_o_tried, .inl (cI, 9, .inl (o_tried'))), (a_o_shuffled, .inl (cI, 8, .inl (o_shuffled')))] (some (.long r0)) := by
  refine Met.ofW (cc := cX7_digest) (maxL := 3) (ret := (some .long)) (by decide) rfl ?_
  intro p e s m args below meth c s₁ B hml hv
  obtain ⟨rfl, hP, hK, hD0⟩ := hv
  have hx := B.exec
  have hb := B.bytes
  have hr := B.returns
  have hts : ∀ w ∈ GW, w.before _ s = true := fun w hw => atoms_spec (ws := mws yX7_digest cX7_digest 3 (some .long)) B.pre w (List.mem_cons_of_mem _ hw)
  have hown : s.vm.findClass RX7 = some m.cls := findClass_of_methodNamed B.named
  have hlocks := B.notSynchronized
  have hD := inW_self hD0
  generalize hAe : inW [(a_o, .inr (6, [.ref a_o_now, .ref a_o_aside, .ref a_o_past, .int (o_states), .ref a_o_refusals, .ref a_o_text, .int (o_bytes), .ref a_o_tried, .int (o_triedMany), .ref a_o_shuffled, .ref a_o_letters, .ref a_o_numbers, .int (o_orders), .int (o_spot), .int (o_wrongAt), .long (o_hash)])), (a_o_now, .inl (cI, 52, .inl (o_now))), (a_o_refusals, .inl (cI, 3, .inl (o_refusals))), (a_o_tried, .inl (cI, 9, .inl (o_tried))), (a_o_shuffled, .inl (cI, 8, .inl (o_shuffled)))] = A at hD ⊢
  have hS : va_S A s.heap s.heap [] := va_S.rf
  have hl := lv_entry ([.ref a_o]) (n := 3) (Nat.le_of_ble_eq_true rfl)
  rw [lg_entry_eq]
  generalize (lg_sl ([.ref a_o]) ++ List.replicate (3 - (lg_sl ([.ref a_o])).length) Slot.unset).toArray = ls at hl ⊢
  have hl : lv_has ls 3 [(0, .ref a_o)] := hl
  have S : CallFix p m c cX7_digest 3 s _ GW RX7 := ⟨hx, hb, hml, hown, hts⟩
  have L_154 : ∀ (n : Nat) (v1 : Int32) (o_triedMany : Int32) (o_hash : Int64) (o_tried : Ar) (o_shuffled : Ar), b_X7_digest_154 o_now n v1 o_triedMany o_hash o_tried o_shuffled = some (r0, o_triedMany', o_hash', o_tried', o_shuffled') → ∀ (H : Heap) (locs : List Loc), va_P D vwCl [(a_o, .inr (6, [.ref a_o_now, .ref a_o_aside, .ref a_o_past, .int (o_states), .ref a_o_refusals, .ref a_o_text, .int (o_bytes), .ref a_o_tried, .int (o_triedMany), .ref a_o_shuffled, .ref a_o_letters, .ref a_o_numbers, .int (o_orders), .int (o_spot), .int (o_wrongAt), .long (o_hash)])), (a_o_now, .inl (cI, 52, .inl (o_now))), (a_o_refusals, .inl (cI, 3, .inl (o_refusals))), (a_o_tried, .inl (cI, 9, .inl (o_tried))), (a_o_shuffled, .inl (cI, 8, .inl (o_shuffled)))] H → va_D A [(a_o, .inr (6, [.ref a_o_now, .ref a_o_aside, .ref a_o_past, .int (o_states), .ref a_o_refusals, .ref a_o_text, .int (o_bytes), .ref a_o_tried, .int (o_triedMany), .ref a_o_shuffled, .ref a_o_letters, .ref a_o_numbers, .int (o_orders), .int (o_spot), .int (o_wrongAt), .long (o_hash)])), (a_o_now, .inl (cI, 52, .inl (o_now))), (a_o_refusals, .inl (cI, 3, .inl (o_refusals))), (a_o_tried, .inl (cI, 9, .inl (o_tried))), (a_o_shuffled, .inl (cI, 8, .inl (o_shuffled)))] → va_S A s.heap H locs → ∀ (ls : Array Slot), lv_has ls 3 [(0, .ref a_o), (1, .int v1)] → W p l e (headSpec (mws yX7_digest cX7_digest 3 (some .long)) { frames := 8, cells := 0, slots := 0, locals := 179 }).room s m [.ref a_o].toArray below meth c H locs 0 0 (MQ below (wrQ D A [(a_o, .inr (6, [.ref a_o_now, .ref a_o_aside, .ref a_o_past, .int (o_states), .ref a_o_refusals, .ref a_o_text, .int (o_bytes), .ref a_o_tried, .int (o_triedMany'), .ref a_o_shuffled, .ref a_o_letters, .ref a_o_numbers, .int (o_orders), .int (o_spot), .int (o_wrongAt), .long (o_hash')])), (a_o_now, .inl (cI, 52, .inl (o_now))), (a_o_refusals, .inl (cI, 3, .inl (o_refusals))), (a_o_tried, .inl (cI, 9, .inl (o_tried'))), (a_o_shuffled, .inl (cI, 8, .inl (o_shuffled')))] (some (.long r0))) [.ref a_o].toArray s 0 0 A) (F0 m 154 ls []) := by
    intro n
    induction n with
    | zero =>
      intro v1 o_triedMany o_hash o_tried o_shuffled h
      exact nn_no h
    | succ n ih =>
      intro v1 o_triedMany o_hash o_tried o_shuffled h H locs hP hD hS ls hl
      rw [b_X7_digest_154] at h
      refine lv_iload_n hx hb dX7_digest_154 rfl (lv_at hl 1 rfl) ?_
      refine lv_iconst (v := (4 : Int32)) hx hb dX7_digest_155 (by decide) ?_
      refine lv_icmp_ge (tgt := 175) hx hb dX7_digest_156 (by decide) (fun c1 => ?_) (fun c1 => ?_)
      · have h := it_t c1 h
        refine lv_aload_n hx hb dX7_digest_175 rfl (lv_at hl 0 rfl) ?_
        refine gfX7_15 hx hb hts hown hK hP 0 rfl wfX7_225 dX7_digest_176 ?_
        cases h
        exact W.lret hx hb hr (fun t ht _ => ⟨rfl, by rw [ht]; exact hP, hS.F ht⟩) hS.2.2 dX7_digest_179
      · have h := it_f c1 h
        refine lv_aload_n hx hb dX7_digest_159 rfl (lv_at hl 0 rfl) ?_
        refine lv_aload_n hx hb dX7_digest_160 rfl (lv_at hl 0 rfl) ?_
        refine lv_iload_n hx hb dX7_digest_161 rfl (lv_at hl 1 rfl) ?_
        obtain ⟨r2, w3, hc4, h⟩ := bd2_use h
        refine wr_V (As := [.int v1]) (rest := [.ref a_o]) (ws' := [(a_o, .inr (6, [.ref a_o_now, .ref a_o_aside, .ref a_o_past, .int (o_states), .ref a_o_refusals, .ref a_o_text, .int (o_bytes), .ref a_o_tried, .int (o_triedMany), .ref a_o_shuffled, .ref a_o_letters, .ref a_o_numbers, .int (o_orders), .int (o_spot), .int (o_wrongAt), .long (o_hash)])), (a_o_now, .inl (cI, 52, .inl (o_now))), (a_o_refusals, .inl (cI, 3, .inl (o_refusals))), (a_o_tried, .inl (cI, 9, .inl (o_tried))), (a_o_shuffled, .inl (cI, 8, .inl (w3)))]) S (c_X7_flipsBy l D cI cS a_o a_o_now a_o_shuffled a_o_aside a_o_past a_o_refusals a_o_text a_o_tried a_o_letters a_o_numbers o_states o_bytes o_triedMany o_orders o_spot o_wrongAt o_hash o_now o_shuffled v1 r2 w3 hc4) (cwV1 hts cvX7_flipsBy wmX7_162 rfl rfl ⟨(Nat.le_of_ble_eq_true rfl), (Nat.le_of_ble_eq_true rfl)⟩) hK hP hD hS [0, 1, 4] rfl rfl [(true, 0), (true, 1), (false, 2), (false, 3), (true, 2)] rfl rfl rfl 0 rfl rfl rfl rfl hl.1 rfl (Nat.le_of_ble_eq_true rfl) dX7_digest_162 ⟨Nat.zero_le _, Nat.zero_le _⟩ rfl (fun H locs hP hD hS => ?_)
        refine lv_i2l (v := (r2.toInt64)) hx hb dX7_digest_165 rfl ?_
        obtain ⟨w5, hc6, h⟩ := bd1_use h
        refine wr_V (As := [.long (r2.toInt64)]) (rest := []) (ws' := [(a_o, .inr (6, [.ref a_o_now, .ref a_o_aside, .ref a_o_past, .int (o_states), .ref a_o_refusals, .ref a_o_text, .int (o_bytes), .ref a_o_tried, .int (o_triedMany), .ref a_o_shuffled, .ref a_o_letters, .ref a_o_numbers, .int (o_orders), .int (o_spot), .int (o_wrongAt), .long (w5)])), (a_o_now, .inl (cI, 52, .inl (o_now))), (a_o_refusals, .inl (cI, 3, .inl (o_refusals))), (a_o_tried, .inl (cI, 9, .inl (o_tried))), (a_o_shuffled, .inl (cI, 8, .inl (w3)))]) S (c_X7_mix l D cI cS a_o a_o_now a_o_aside a_o_past a_o_refusals a_o_text a_o_tried a_o_shuffled a_o_letters a_o_numbers o_states o_bytes o_triedMany o_orders o_spot o_wrongAt o_hash (r2.toInt64) w5 hc6) (cwV1 hts cvX7_mix wmX7_231 rfl rfl ⟨(Nat.le_of_ble_eq_true rfl), (Nat.le_of_ble_eq_true rfl)⟩) hK hP hD hS [0] rfl rfl [(true, 0), (false, 1), (false, 2), (false, 3), (false, 4)] rfl rfl rfl 0 rfl rfl rfl rfl hl.1 rfl (Nat.le_of_ble_eq_true rfl) dX7_digest_166 ⟨Nat.zero_le _, Nat.zero_le _⟩ rfl (fun H locs hP hD hS => ?_)
        obtain ⟨y7, ey7⟩ : ∃ z : Int32, z = v1 + (1 : Int32) := ⟨_, rfl⟩
        have h := nm_use h ey7
        refine lv_iinc (v := y7) (lv' := [(1, .int y7), (0, .ref a_o)]) hx hb dX7_digest_169 hl (k := 1) rfl (by rw [ey7]; rfl) (by decide) rfl (fun ls hl => ?_)
        refine lv_goto (tgt := 154) hx hb dX7_digest_172 (by decide) ?_
        exact ih _ _ _ _ _ h _ _ hP hD hS _ (lv_sub hl [1, 0] rfl)
  have L_124 : ∀ (k_99 : Int32 → Int32 → Int64 → Ar → Ar → Option (Int64 × Int32 × Int64 × Ar × Ar)) (hk_99 : ∀ (v1 : Int32) (o_triedMany : Int32) (o_hash : Int64) (o_tried : Ar) (o_shuffled : Ar), k_99 v1 o_triedMany o_hash o_tried o_shuffled = some (r0, o_triedMany', o_hash', o_tried', o_shuffled') → ∀ (H : Heap) (locs : List Loc), va_P D vwCl [(a_o, .inr (6, [.ref a_o_now, .ref a_o_aside, .ref a_o_past, .int (o_states), .ref a_o_refusals, .ref a_o_text, .int (o_bytes), .ref a_o_tried, .int (o_triedMany), .ref a_o_shuffled, .ref a_o_letters, .ref a_o_numbers, .int (o_orders), .int (o_spot), .int (o_wrongAt), .long (o_hash)])), (a_o_now, .inl (cI, 52, .inl (o_now))), (a_o_refusals, .inl (cI, 3, .inl (o_refusals))), (a_o_tried, .inl (cI, 9, .inl (o_tried))), (a_o_shuffled, .inl (cI, 8, .inl (o_shuffled)))] H → va_D A [(a_o, .inr (6, [.ref a_o_now, .ref a_o_aside, .ref a_o_past, .int (o_states), .ref a_o_refusals, .ref a_o_text, .int (o_bytes), .ref a_o_tried, .int (o_triedMany), .ref a_o_shuffled, .ref a_o_letters, .ref a_o_numbers, .int (o_orders), .int (o_spot), .int (o_wrongAt), .long (o_hash)])), (a_o_now, .inl (cI, 52, .inl (o_now))), (a_o_refusals, .inl (cI, 3, .inl (o_refusals))), (a_o_tried, .inl (cI, 9, .inl (o_tried))), (a_o_shuffled, .inl (cI, 8, .inl (o_shuffled)))] → va_S A s.heap H locs → ∀ (ls : Array Slot), lv_has ls 3 [(0, .ref a_o), (1, .int v1)] → W p l e (headSpec (mws yX7_digest cX7_digest 3 (some .long)) { frames := 8, cells := 0, slots := 0, locals := 179 }).room s m [.ref a_o].toArray below meth c H locs 0 0 (MQ below (wrQ D A [(a_o, .inr (6, [.ref a_o_now, .ref a_o_aside, .ref a_o_past, .int (o_states), .ref a_o_refusals, .ref a_o_text, .int (o_bytes), .ref a_o_tried, .int (o_triedMany'), .ref a_o_shuffled, .ref a_o_letters, .ref a_o_numbers, .int (o_orders), .int (o_spot), .int (o_wrongAt), .long (o_hash')])), (a_o_now, .inl (cI, 52, .inl (o_now))), (a_o_refusals, .inl (cI, 3, .inl (o_refusals))), (a_o_tried, .inl (cI, 9, .inl (o_tried'))), (a_o_shuffled, .inl (cI, 8, .inl (o_shuffled')))] (some (.long r0))) [.ref a_o].toArray s 0 0 A) (F0 m 99 ls [])) (n : Nat) (v1 : Int32) (v2 : Int32) (o_triedMany : Int32) (o_hash : Int64) (o_tried : Ar) (o_shuffled : Ar), b_X7_digest_124 o_now k_99 n v1 v2 o_triedMany o_hash o_tried o_shuffled = some (r0, o_triedMany', o_hash', o_tried', o_shuffled') → ∀ (H : Heap) (locs : List Loc), va_P D vwCl [(a_o, .inr (6, [.ref a_o_now, .ref a_o_aside, .ref a_o_past, .int (o_states), .ref a_o_refusals, .ref a_o_text, .int (o_bytes), .ref a_o_tried, .int (o_triedMany), .ref a_o_shuffled, .ref a_o_letters, .ref a_o_numbers, .int (o_orders), .int (o_spot), .int (o_wrongAt), .long (o_hash)])), (a_o_now, .inl (cI, 52, .inl (o_now))), (a_o_refusals, .inl (cI, 3, .inl (o_refusals))), (a_o_tried, .inl (cI, 9, .inl (o_tried))), (a_o_shuffled, .inl (cI, 8, .inl (o_shuffled)))] H → va_D A [(a_o, .inr (6, [.ref a_o_now, .ref a_o_aside, .ref a_o_past, .int (o_states), .ref a_o_refusals, .ref a_o_text, .int (o_bytes), .ref a_o_tried, .int (o_triedMany), .ref a_o_shuffled, .ref a_o_letters, .ref a_o_numbers, .int (o_orders), .int (o_spot), .int (o_wrongAt), .long (o_hash)])), (a_o_now, .inl (cI, 52, .inl (o_now))), (a_o_refusals, .inl (cI, 3, .inl (o_refusals))), (a_o_tried, .inl (cI, 9, .inl (o_tried))), (a_o_shuffled, .inl (cI, 8, .inl (o_shuffled)))] → va_S A s.heap H locs → ∀ (ls : Array Slot), lv_has ls 3 [(0, .ref a_o), (1, .int v1), (2, .int v2)] → W p l e (headSpec (mws yX7_digest cX7_digest 3 (some .long)) { frames := 8, cells := 0, slots := 0, locals := 179 }).room s m [.ref a_o].toArray below meth c H locs 0 0 (MQ below (wrQ D A [(a_o, .inr (6, [.ref a_o_now, .ref a_o_aside, .ref a_o_past, .int (o_states), .ref a_o_refusals, .ref a_o_text, .int (o_bytes), .ref a_o_tried, .int (o_triedMany'), .ref a_o_shuffled, .ref a_o_letters, .ref a_o_numbers, .int (o_orders), .int (o_spot), .int (o_wrongAt), .long (o_hash')])), (a_o_now, .inl (cI, 52, .inl (o_now))), (a_o_refusals, .inl (cI, 3, .inl (o_refusals))), (a_o_tried, .inl (cI, 9, .inl (o_tried'))), (a_o_shuffled, .inl (cI, 8, .inl (o_shuffled')))] (some (.long r0))) [.ref a_o].toArray s 0 0 A) (F0 m 124 ls []) := by
    intro k_99 hk_99 n
    induction n with
    | zero =>
      intro v1 v2 o_triedMany o_hash o_tried o_shuffled h
      exact nn_no h
    | succ n ih =>
      intro v1 v2 o_triedMany o_hash o_tried o_shuffled h H locs hP hD hS ls hl
      rw [b_X7_digest_124] at h
      refine lv_iload_n hx hb dX7_digest_124 rfl (lv_at hl 2 rfl) ?_
      refine lv_iconst (v := (5 : Int32)) hx hb dX7_digest_125 (by decide) ?_
      refine lv_icmp_ge (tgt := 146) hx hb dX7_digest_126 (by decide) (fun c8 => ?_) (fun c8 => ?_)
      · have h := it_t c8 h
        obtain ⟨y9, ey9⟩ : ∃ z : Int32, z = v1 + (1 : Int32) := ⟨_, rfl⟩
        have h := nm_use h ey9
        refine lv_iinc (v := y9) (lv' := [(1, .int y9), (0, .ref a_o), (2, .int v2)]) hx hb dX7_digest_146 hl (k := 1) rfl (by rw [ey9]; rfl) (by decide) rfl (fun ls hl => ?_)
        refine lv_goto (tgt := 99) hx hb dX7_digest_149 (by decide) ?_
        exact hk_99 _ _ _ _ _ h _ _ hP hD hS _ (lv_sub hl [1, 0] rfl)
      · have h := it_f c8 h
        refine lv_aload_n hx hb dX7_digest_129 rfl (lv_at hl 0 rfl) ?_
        refine lv_aload_n hx hb dX7_digest_130 rfl (lv_at hl 0 rfl) ?_
        refine lv_iload_n hx hb dX7_digest_131 rfl (lv_at hl 1 rfl) ?_
        refine lv_iload_n hx hb dX7_digest_132 rfl (lv_at hl 2 rfl) ?_
        obtain ⟨r10, w11, w12, hc13, h⟩ := bd3_use h
        refine wr_V (As := [.int v1, .int v2]) (rest := [.ref a_o]) (ws' := [(a_o, .inr (6, [.ref a_o_now, .ref a_o_aside, .ref a_o_past, .int (o_states), .ref a_o_refusals, .ref a_o_text, .int (o_bytes), .ref a_o_tried, .int (w11), .ref a_o_shuffled, .ref a_o_letters, .ref a_o_numbers, .int (o_orders), .int (o_spot), .int (o_wrongAt), .long (o_hash)])), (a_o_now, .inl (cI, 52, .inl (o_now))), (a_o_refusals, .inl (cI, 3, .inl (o_refusals))), (a_o_tried, .inl (cI, 9, .inl (w12))), (a_o_shuffled, .inl (cI, 8, .inl (o_shuffled)))]) S (c_X7_placeTold l D cI cS a_o a_o_now a_o_tried a_o_aside a_o_past a_o_refusals a_o_text a_o_shuffled a_o_letters a_o_numbers o_states o_bytes o_triedMany o_orders o_spot o_wrongAt o_hash o_now o_tried v1 v2 r10 w11 w12 hc13) (cwV1 hts cvX7_placeTold wmX7_165 rfl rfl ⟨(Nat.le_of_ble_eq_true rfl), (Nat.le_of_ble_eq_true rfl)⟩) hK hP hD hS [0, 1, 3] rfl rfl [(true, 0), (true, 1), (false, 2), (true, 2), (false, 4)] rfl rfl rfl 0 rfl rfl rfl rfl hl.1 rfl (Nat.le_of_ble_eq_true rfl) dX7_digest_133 ⟨Nat.zero_le _, Nat.zero_le _⟩ rfl (fun H locs hP hD hS => ?_)
        refine lv_i2l (v := (r10.toInt64)) hx hb dX7_digest_136 rfl ?_
        obtain ⟨w14, hc15, h⟩ := bd1_use h
        refine wr_V (As := [.long (r10.toInt64)]) (rest := []) (ws' := [(a_o, .inr (6, [.ref a_o_now, .ref a_o_aside, .ref a_o_past, .int (o_states), .ref a_o_refusals, .ref a_o_text, .int (o_bytes), .ref a_o_tried, .int (w11), .ref a_o_shuffled, .ref a_o_letters, .ref a_o_numbers, .int (o_orders), .int (o_spot), .int (o_wrongAt), .long (w14)])), (a_o_now, .inl (cI, 52, .inl (o_now))), (a_o_refusals, .inl (cI, 3, .inl (o_refusals))), (a_o_tried, .inl (cI, 9, .inl (w12))), (a_o_shuffled, .inl (cI, 8, .inl (o_shuffled)))]) S (c_X7_mix l D cI cS a_o a_o_now a_o_aside a_o_past a_o_refusals a_o_text a_o_tried a_o_shuffled a_o_letters a_o_numbers o_states o_bytes w11 o_orders o_spot o_wrongAt o_hash (r10.toInt64) w14 hc15) (cwV1 hts cvX7_mix wmX7_231 rfl rfl ⟨(Nat.le_of_ble_eq_true rfl), (Nat.le_of_ble_eq_true rfl)⟩) hK hP hD hS [0] rfl rfl [(true, 0), (false, 1), (false, 2), (false, 3), (false, 4)] rfl rfl rfl 0 rfl rfl rfl rfl hl.1 rfl (Nat.le_of_ble_eq_true rfl) dX7_digest_137 ⟨Nat.zero_le _, Nat.zero_le _⟩ rfl (fun H locs hP hD hS => ?_)
        obtain ⟨y16, ey16⟩ : ∃ z : Int32, z = v2 + (1 : Int32) := ⟨_, rfl⟩
        have h := nm_use h ey16
        refine lv_iinc (v := y16) (lv' := [(2, .int y16), (0, .ref a_o), (1, .int v1)]) hx hb dX7_digest_140 hl (k := 2) rfl (by rw [ey16]; rfl) (by decide) rfl (fun ls hl => ?_)
        refine lv_goto (tgt := 124) hx hb dX7_digest_143 (by decide) ?_
        exact ih _ _ _ _ _ _ h _ _ hP hD hS _ (lv_sub hl [1, 2, 0] rfl)
  have L_99 : ∀ (n : Nat) (v1 : Int32) (o_triedMany : Int32) (o_hash : Int64) (o_tried : Ar) (o_shuffled : Ar), b_X7_digest_99 o_now n v1 o_triedMany o_hash o_tried o_shuffled = some (r0, o_triedMany', o_hash', o_tried', o_shuffled') → ∀ (H : Heap) (locs : List Loc), va_P D vwCl [(a_o, .inr (6, [.ref a_o_now, .ref a_o_aside, .ref a_o_past, .int (o_states), .ref a_o_refusals, .ref a_o_text, .int (o_bytes), .ref a_o_tried, .int (o_triedMany), .ref a_o_shuffled, .ref a_o_letters, .ref a_o_numbers, .int (o_orders), .int (o_spot), .int (o_wrongAt), .long (o_hash)])), (a_o_now, .inl (cI, 52, .inl (o_now))), (a_o_refusals, .inl (cI, 3, .inl (o_refusals))), (a_o_tried, .inl (cI, 9, .inl (o_tried))), (a_o_shuffled, .inl (cI, 8, .inl (o_shuffled)))] H → va_D A [(a_o, .inr (6, [.ref a_o_now, .ref a_o_aside, .ref a_o_past, .int (o_states), .ref a_o_refusals, .ref a_o_text, .int (o_bytes), .ref a_o_tried, .int (o_triedMany), .ref a_o_shuffled, .ref a_o_letters, .ref a_o_numbers, .int (o_orders), .int (o_spot), .int (o_wrongAt), .long (o_hash)])), (a_o_now, .inl (cI, 52, .inl (o_now))), (a_o_refusals, .inl (cI, 3, .inl (o_refusals))), (a_o_tried, .inl (cI, 9, .inl (o_tried))), (a_o_shuffled, .inl (cI, 8, .inl (o_shuffled)))] → va_S A s.heap H locs → ∀ (ls : Array Slot), lv_has ls 3 [(0, .ref a_o), (1, .int v1)] → W p l e (headSpec (mws yX7_digest cX7_digest 3 (some .long)) { frames := 8, cells := 0, slots := 0, locals := 179 }).room s m [.ref a_o].toArray below meth c H locs 0 0 (MQ below (wrQ D A [(a_o, .inr (6, [.ref a_o_now, .ref a_o_aside, .ref a_o_past, .int (o_states), .ref a_o_refusals, .ref a_o_text, .int (o_bytes), .ref a_o_tried, .int (o_triedMany'), .ref a_o_shuffled, .ref a_o_letters, .ref a_o_numbers, .int (o_orders), .int (o_spot), .int (o_wrongAt), .long (o_hash')])), (a_o_now, .inl (cI, 52, .inl (o_now))), (a_o_refusals, .inl (cI, 3, .inl (o_refusals))), (a_o_tried, .inl (cI, 9, .inl (o_tried'))), (a_o_shuffled, .inl (cI, 8, .inl (o_shuffled')))] (some (.long r0))) [.ref a_o].toArray s 0 0 A) (F0 m 99 ls []) := by
    intro n
    induction n with
    | zero =>
      intro v1 o_triedMany o_hash o_tried o_shuffled h
      exact nn_no h
    | succ n ih =>
      intro v1 o_triedMany o_hash o_tried o_shuffled h H locs hP hD hS ls hl
      rw [b_X7_digest_99] at h
      refine lv_iload_n hx hb dX7_digest_99 rfl (lv_at hl 1 rfl) ?_
      refine lv_aload_n hx hb dX7_digest_100 rfl (lv_at hl 0 rfl) ?_
      refine gfX7_0 hx hb hts hown hK hP 0 rfl wfX7_7 dX7_digest_101 ?_
      refine lv_iconst (v := (3 : Int32)) hx hb dX7_digest_104 (by decide) ?_
      obtain ⟨hi18, h⟩ := rd_use h
      refine ia_ hx hb hK hP 1 rfl hi18 dX7_digest_105 ?_
      refine lv_icmp_ge (tgt := 152) hx hb dX7_digest_106 (by decide) (fun c19 => ?_) (fun c19 => ?_)
      · have h := it_t c19 h
        refine lv_iconst (v := (1 : Int32)) hx hb dX7_digest_152 (by decide) ?_
        refine lv_istore_n (lv' := [(1, .int (1 : Int32)), (0, .ref a_o)]) hx hb dX7_digest_153 rfl hl (by decide) rfl (fun ls hl => ?_)
        exact L_154 _ _ _ _ _ _ h _ _ hP hD hS _ (lv_sub hl [1, 0] rfl)
      · have h := it_f c19 h
        refine lv_aload_n hx hb dX7_digest_109 rfl (lv_at hl 0 rfl) ?_
        refine lv_aload_n hx hb dX7_digest_110 rfl (lv_at hl 0 rfl) ?_
        refine gfX7_0 hx hb hts hown hK hP 0 rfl wfX7_7 dX7_digest_111 ?_
        refine lv_iconst (v := (4 : Int32)) hx hb dX7_digest_114 (by decide) ?_
        refine lv_iload_n hx hb dX7_digest_115 rfl (lv_at hl 1 rfl) ?_
        refine lv_iadd hx hb dX7_digest_116 ?_
        obtain ⟨hi21, h⟩ := rd_use h
        refine ia_ hx hb hK hP 1 rfl hi21 dX7_digest_117 ?_
        refine lv_i2l (v := ((o_now ((4 : Int32) + v1).toNatClampNeg).toInt64)) hx hb dX7_digest_118 rfl ?_
        obtain ⟨w22, hc23, h⟩ := bd1_use h
        refine wr_V (As := [.long ((o_now ((4 : Int32) + v1).toNatClampNeg).toInt64)]) (rest := []) (ws' := [(a_o, .inr (6, [.ref a_o_now, .ref a_o_aside, .ref a_o_past, .int (o_states), .ref a_o_refusals, .ref a_o_text, .int (o_bytes), .ref a_o_tried, .int (o_triedMany), .ref a_o_shuffled, .ref a_o_letters, .ref a_o_numbers, .int (o_orders), .int (o_spot), .int (o_wrongAt), .long (w22)])), (a_o_now, .inl (cI, 52, .inl (o_now))), (a_o_refusals, .inl (cI, 3, .inl (o_refusals))), (a_o_tried, .inl (cI, 9, .inl (o_tried))), (a_o_shuffled, .inl (cI, 8, .inl (o_shuffled)))]) S (c_X7_mix l D cI cS a_o a_o_now a_o_aside a_o_past a_o_refusals a_o_text a_o_tried a_o_shuffled a_o_letters a_o_numbers o_states o_bytes o_triedMany o_orders o_spot o_wrongAt o_hash ((o_now ((4 : Int32) + v1).toNatClampNeg).toInt64) w22 hc23) (cwV1 hts cvX7_mix wmX7_231 rfl rfl ⟨(Nat.le_of_ble_eq_true rfl), (Nat.le_of_ble_eq_true rfl)⟩) hK hP hD hS [0] rfl rfl [(true, 0), (false, 1), (false, 2), (false, 3), (false, 4)] rfl rfl rfl 0 rfl rfl rfl rfl hl.1 rfl (Nat.le_of_ble_eq_true rfl) dX7_digest_119 ⟨Nat.zero_le _, Nat.zero_le _⟩ rfl (fun H locs hP hD hS => ?_)
        refine lv_iconst (v := (1 : Int32)) hx hb dX7_digest_122 (by decide) ?_
        refine lv_istore_n (lv' := [(2, .int (1 : Int32)), (0, .ref a_o), (1, .int v1)]) hx hb dX7_digest_123 rfl hl (by decide) rfl (fun ls hl => ?_)
        exact L_124 _ ih _ _ _ _ _ _ _ h _ _ hP hD hS _ (lv_sub hl [1, 2, 0] rfl)
  have L_68 : ∀ (k_56 : Int32 → Int32 → Int64 → Ar → Ar → Option (Int64 × Int32 × Int64 × Ar × Ar)) (hk_56 : ∀ (v1 : Int32) (o_triedMany : Int32) (o_hash : Int64) (o_tried : Ar) (o_shuffled : Ar), k_56 v1 o_triedMany o_hash o_tried o_shuffled = some (r0, o_triedMany', o_hash', o_tried', o_shuffled') → ∀ (H : Heap) (locs : List Loc), va_P D vwCl [(a_o, .inr (6, [.ref a_o_now, .ref a_o_aside, .ref a_o_past, .int (o_states), .ref a_o_refusals, .ref a_o_text, .int (o_bytes), .ref a_o_tried, .int (o_triedMany), .ref a_o_shuffled, .ref a_o_letters, .ref a_o_numbers, .int (o_orders), .int (o_spot), .int (o_wrongAt), .long (o_hash)])), (a_o_now, .inl (cI, 52, .inl (o_now))), (a_o_refusals, .inl (cI, 3, .inl (o_refusals))), (a_o_tried, .inl (cI, 9, .inl (o_tried))), (a_o_shuffled, .inl (cI, 8, .inl (o_shuffled)))] H → va_D A [(a_o, .inr (6, [.ref a_o_now, .ref a_o_aside, .ref a_o_past, .int (o_states), .ref a_o_refusals, .ref a_o_text, .int (o_bytes), .ref a_o_tried, .int (o_triedMany), .ref a_o_shuffled, .ref a_o_letters, .ref a_o_numbers, .int (o_orders), .int (o_spot), .int (o_wrongAt), .long (o_hash)])), (a_o_now, .inl (cI, 52, .inl (o_now))), (a_o_refusals, .inl (cI, 3, .inl (o_refusals))), (a_o_tried, .inl (cI, 9, .inl (o_tried))), (a_o_shuffled, .inl (cI, 8, .inl (o_shuffled)))] → va_S A s.heap H locs → ∀ (ls : Array Slot), lv_has ls 3 [(0, .ref a_o), (1, .int v1)] → W p l e (headSpec (mws yX7_digest cX7_digest 3 (some .long)) { frames := 8, cells := 0, slots := 0, locals := 179 }).room s m [.ref a_o].toArray below meth c H locs 0 0 (MQ below (wrQ D A [(a_o, .inr (6, [.ref a_o_now, .ref a_o_aside, .ref a_o_past, .int (o_states), .ref a_o_refusals, .ref a_o_text, .int (o_bytes), .ref a_o_tried, .int (o_triedMany'), .ref a_o_shuffled, .ref a_o_letters, .ref a_o_numbers, .int (o_orders), .int (o_spot), .int (o_wrongAt), .long (o_hash')])), (a_o_now, .inl (cI, 52, .inl (o_now))), (a_o_refusals, .inl (cI, 3, .inl (o_refusals))), (a_o_tried, .inl (cI, 9, .inl (o_tried'))), (a_o_shuffled, .inl (cI, 8, .inl (o_shuffled')))] (some (.long r0))) [.ref a_o].toArray s 0 0 A) (F0 m 56 ls [])) (n : Nat) (v1 : Int32) (v2 : Int32) (o_triedMany : Int32) (o_hash : Int64) (o_tried : Ar) (o_shuffled : Ar), b_X7_digest_68 o_now k_56 n v1 v2 o_triedMany o_hash o_tried o_shuffled = some (r0, o_triedMany', o_hash', o_tried', o_shuffled') → ∀ (H : Heap) (locs : List Loc), va_P D vwCl [(a_o, .inr (6, [.ref a_o_now, .ref a_o_aside, .ref a_o_past, .int (o_states), .ref a_o_refusals, .ref a_o_text, .int (o_bytes), .ref a_o_tried, .int (o_triedMany), .ref a_o_shuffled, .ref a_o_letters, .ref a_o_numbers, .int (o_orders), .int (o_spot), .int (o_wrongAt), .long (o_hash)])), (a_o_now, .inl (cI, 52, .inl (o_now))), (a_o_refusals, .inl (cI, 3, .inl (o_refusals))), (a_o_tried, .inl (cI, 9, .inl (o_tried))), (a_o_shuffled, .inl (cI, 8, .inl (o_shuffled)))] H → va_D A [(a_o, .inr (6, [.ref a_o_now, .ref a_o_aside, .ref a_o_past, .int (o_states), .ref a_o_refusals, .ref a_o_text, .int (o_bytes), .ref a_o_tried, .int (o_triedMany), .ref a_o_shuffled, .ref a_o_letters, .ref a_o_numbers, .int (o_orders), .int (o_spot), .int (o_wrongAt), .long (o_hash)])), (a_o_now, .inl (cI, 52, .inl (o_now))), (a_o_refusals, .inl (cI, 3, .inl (o_refusals))), (a_o_tried, .inl (cI, 9, .inl (o_tried))), (a_o_shuffled, .inl (cI, 8, .inl (o_shuffled)))] → va_S A s.heap H locs → ∀ (ls : Array Slot), lv_has ls 3 [(0, .ref a_o), (1, .int v1), (2, .int v2)] → W p l e (headSpec (mws yX7_digest cX7_digest 3 (some .long)) { frames := 8, cells := 0, slots := 0, locals := 179 }).room s m [.ref a_o].toArray below meth c H locs 0 0 (MQ below (wrQ D A [(a_o, .inr (6, [.ref a_o_now, .ref a_o_aside, .ref a_o_past, .int (o_states), .ref a_o_refusals, .ref a_o_text, .int (o_bytes), .ref a_o_tried, .int (o_triedMany'), .ref a_o_shuffled, .ref a_o_letters, .ref a_o_numbers, .int (o_orders), .int (o_spot), .int (o_wrongAt), .long (o_hash')])), (a_o_now, .inl (cI, 52, .inl (o_now))), (a_o_refusals, .inl (cI, 3, .inl (o_refusals))), (a_o_tried, .inl (cI, 9, .inl (o_tried'))), (a_o_shuffled, .inl (cI, 8, .inl (o_shuffled')))] (some (.long r0))) [.ref a_o].toArray s 0 0 A) (F0 m 68 ls []) := by
    intro k_56 hk_56 n
    induction n with
    | zero =>
      intro v1 v2 o_triedMany o_hash o_tried o_shuffled h
      exact nn_no h
    | succ n ih =>
      intro v1 v2 o_triedMany o_hash o_tried o_shuffled h H locs hP hD hS ls hl
      rw [b_X7_digest_68] at h
      refine lv_iload_n hx hb dX7_digest_68 rfl (lv_at hl 2 rfl) ?_
      refine lv_bipush (v := (6 : Int32)) hx hb dX7_digest_69 (by decide) ?_
      refine lv_icmp_ge (tgt := 91) hx hb dX7_digest_71 (by decide) (fun c24 => ?_) (fun c24 => ?_)
      · have h := it_t c24 h
        obtain ⟨y25, ey25⟩ : ∃ z : Int32, z = v1 + (1 : Int32) := ⟨_, rfl⟩
        have h := nm_use h ey25
        refine lv_iinc (v := y25) (lv' := [(1, .int y25), (0, .ref a_o), (2, .int v2)]) hx hb dX7_digest_91 hl (k := 1) rfl (by rw [ey25]; rfl) (by decide) rfl (fun ls hl => ?_)
        refine lv_goto (tgt := 56) hx hb dX7_digest_94 (by decide) ?_
        exact hk_56 _ _ _ _ _ h _ _ hP hD hS _ (lv_sub hl [1, 0] rfl)
      · have h := it_f c24 h
        refine lv_aload_n hx hb dX7_digest_74 rfl (lv_at hl 0 rfl) ?_
        refine lv_aload_n hx hb dX7_digest_75 rfl (lv_at hl 0 rfl) ?_
        refine lv_iload_n hx hb dX7_digest_76 rfl (lv_at hl 1 rfl) ?_
        refine lv_iload_n hx hb dX7_digest_77 rfl (lv_at hl 2 rfl) ?_
        obtain ⟨r26, hc27, h⟩ := bd1_use h
        refine ro_V (As := [.int v1, .int v2]) (rest := [.ref a_o]) S (c_X7_testTold l D cI cS a_o a_o_now a_o_aside a_o_past a_o_refusals a_o_text a_o_tried a_o_shuffled a_o_letters a_o_numbers o_states o_bytes o_triedMany o_orders o_spot o_wrongAt o_hash o_now v1 v2 r26 hc27) (cwV1 hts cvX7_testTold wmX7_150 rfl rfl ⟨(Nat.le_of_ble_eq_true rfl), (Nat.le_of_ble_eq_true rfl)⟩) hK hP [0, 1] rfl 0 rfl rfl rfl rfl hl.1 rfl (Nat.le_of_ble_eq_true rfl) dX7_digest_78 ⟨Nat.zero_le _, Nat.zero_le _⟩ rfl ?_
        refine lv_i2l (v := (r26.toInt64)) hx hb dX7_digest_81 rfl ?_
        obtain ⟨w28, hc29, h⟩ := bd1_use h
        refine wr_V (As := [.long (r26.toInt64)]) (rest := []) (ws' := [(a_o, .inr (6, [.ref a_o_now, .ref a_o_aside, .ref a_o_past, .int (o_states), .ref a_o_refusals, .ref a_o_text, .int (o_bytes), .ref a_o_tried, .int (o_triedMany), .ref a_o_shuffled, .ref a_o_letters, .ref a_o_numbers, .int (o_orders), .int (o_spot), .int (o_wrongAt), .long (w28)])), (a_o_now, .inl (cI, 52, .inl (o_now))), (a_o_refusals, .inl (cI, 3, .inl (o_refusals))), (a_o_tried, .inl (cI, 9, .inl (o_tried))), (a_o_shuffled, .inl (cI, 8, .inl (o_shuffled)))]) S (c_X7_mix l D cI cS a_o a_o_now a_o_aside a_o_past a_o_refusals a_o_text a_o_tried a_o_shuffled a_o_letters a_o_numbers o_states o_bytes o_triedMany o_orders o_spot o_wrongAt o_hash (r26.toInt64) w28 hc29) (cwV1 hts cvX7_mix wmX7_231 rfl rfl ⟨(Nat.le_of_ble_eq_true rfl), (Nat.le_of_ble_eq_true rfl)⟩) hK hP hD hS [0] rfl rfl [(true, 0), (false, 1), (false, 2), (false, 3), (false, 4)] rfl rfl rfl 0 rfl rfl rfl rfl hl.1 rfl (Nat.le_of_ble_eq_true rfl) dX7_digest_82 ⟨Nat.zero_le _, Nat.zero_le _⟩ rfl (fun H locs hP hD hS => ?_)
        obtain ⟨y30, ey30⟩ : ∃ z : Int32, z = v2 + (1 : Int32) := ⟨_, rfl⟩
        have h := nm_use h ey30
        refine lv_iinc (v := y30) (lv' := [(2, .int y30), (0, .ref a_o), (1, .int v1)]) hx hb dX7_digest_85 hl (k := 2) rfl (by rw [ey30]; rfl) (by decide) rfl (fun ls hl => ?_)
        refine lv_goto (tgt := 68) hx hb dX7_digest_88 (by decide) ?_
        exact ih _ _ _ _ _ _ h _ _ hP hD hS _ (lv_sub hl [1, 2, 0] rfl)
  have L_56 : ∀ (n : Nat) (v1 : Int32) (o_triedMany : Int32) (o_hash : Int64) (o_tried : Ar) (o_shuffled : Ar), b_X7_digest_56 o_now n v1 o_triedMany o_hash o_tried o_shuffled = some (r0, o_triedMany', o_hash', o_tried', o_shuffled') → ∀ (H : Heap) (locs : List Loc), va_P D vwCl [(a_o, .inr (6, [.ref a_o_now, .ref a_o_aside, .ref a_o_past, .int (o_states), .ref a_o_refusals, .ref a_o_text, .int (o_bytes), .ref a_o_tried, .int (o_triedMany), .ref a_o_shuffled, .ref a_o_letters, .ref a_o_numbers, .int (o_orders), .int (o_spot), .int (o_wrongAt), .long (o_hash)])), (a_o_now, .inl (cI, 52, .inl (o_now))), (a_o_refusals, .inl (cI, 3, .inl (o_refusals))), (a_o_tried, .inl (cI, 9, .inl (o_tried))), (a_o_shuffled, .inl (cI, 8, .inl (o_shuffled)))] H → va_D A [(a_o, .inr (6, [.ref a_o_now, .ref a_o_aside, .ref a_o_past, .int (o_states), .ref a_o_refusals, .ref a_o_text, .int (o_bytes), .ref a_o_tried, .int (o_triedMany), .ref a_o_shuffled, .ref a_o_letters, .ref a_o_numbers, .int (o_orders), .int (o_spot), .int (o_wrongAt), .long (o_hash)])), (a_o_now, .inl (cI, 52, .inl (o_now))), (a_o_refusals, .inl (cI, 3, .inl (o_refusals))), (a_o_tried, .inl (cI, 9, .inl (o_tried))), (a_o_shuffled, .inl (cI, 8, .inl (o_shuffled)))] → va_S A s.heap H locs → ∀ (ls : Array Slot), lv_has ls 3 [(0, .ref a_o), (1, .int v1)] → W p l e (headSpec (mws yX7_digest cX7_digest 3 (some .long)) { frames := 8, cells := 0, slots := 0, locals := 179 }).room s m [.ref a_o].toArray below meth c H locs 0 0 (MQ below (wrQ D A [(a_o, .inr (6, [.ref a_o_now, .ref a_o_aside, .ref a_o_past, .int (o_states), .ref a_o_refusals, .ref a_o_text, .int (o_bytes), .ref a_o_tried, .int (o_triedMany'), .ref a_o_shuffled, .ref a_o_letters, .ref a_o_numbers, .int (o_orders), .int (o_spot), .int (o_wrongAt), .long (o_hash')])), (a_o_now, .inl (cI, 52, .inl (o_now))), (a_o_refusals, .inl (cI, 3, .inl (o_refusals))), (a_o_tried, .inl (cI, 9, .inl (o_tried'))), (a_o_shuffled, .inl (cI, 8, .inl (o_shuffled')))] (some (.long r0))) [.ref a_o].toArray s 0 0 A) (F0 m 56 ls []) := by
    intro n
    induction n with
    | zero =>
      intro v1 o_triedMany o_hash o_tried o_shuffled h
      exact nn_no h
    | succ n ih =>
      intro v1 o_triedMany o_hash o_tried o_shuffled h H locs hP hD hS ls hl
      rw [b_X7_digest_56] at h
      refine lv_iload_n hx hb dX7_digest_56 rfl (lv_at hl 1 rfl) ?_
      refine lv_aload_n hx hb dX7_digest_57 rfl (lv_at hl 0 rfl) ?_
      refine gfX7_0 hx hb hts hown hK hP 0 rfl wfX7_7 dX7_digest_58 ?_
      refine lv_iconst (v := (0 : Int32)) hx hb dX7_digest_61 (by decide) ?_
      obtain ⟨hi32, h⟩ := rd_use h
      refine ia_ hx hb hK hP 1 rfl hi32 dX7_digest_62 ?_
      refine lv_icmp_ge (tgt := 97) hx hb dX7_digest_63 (by decide) (fun c33 => ?_) (fun c33 => ?_)
      · have h := it_t c33 h
        refine lv_iconst (v := (0 : Int32)) hx hb dX7_digest_97 (by decide) ?_
        refine lv_istore_n (lv' := [(1, .int (0 : Int32)), (0, .ref a_o)]) hx hb dX7_digest_98 rfl hl (by decide) rfl (fun ls hl => ?_)
        exact L_99 _ _ _ _ _ _ h _ _ hP hD hS _ (lv_sub hl [1, 0] rfl)
      · have h := it_f c33 h
        refine lv_iconst (v := (0 : Int32)) hx hb dX7_digest_66 (by decide) ?_
        refine lv_istore_n (lv' := [(2, .int (0 : Int32)), (0, .ref a_o), (1, .int v1)]) hx hb dX7_digest_67 rfl hl (by decide) rfl (fun ls hl => ?_)
        exact L_68 _ ih _ _ _ _ _ _ _ h _ _ hP hD hS _ (lv_sub hl [1, 2, 0] rfl)
  have L_32 : ∀ (n : Nat) (v1 : Int32) (o_triedMany : Int32) (o_hash : Int64) (o_tried : Ar) (o_shuffled : Ar), b_X7_digest_32 o_now n v1 o_triedMany o_hash o_tried o_shuffled = some (r0, o_triedMany', o_hash', o_tried', o_shuffled') → ∀ (H : Heap) (locs : List Loc), va_P D vwCl [(a_o, .inr (6, [.ref a_o_now, .ref a_o_aside, .ref a_o_past, .int (o_states), .ref a_o_refusals, .ref a_o_text, .int (o_bytes), .ref a_o_tried, .int (o_triedMany), .ref a_o_shuffled, .ref a_o_letters, .ref a_o_numbers, .int (o_orders), .int (o_spot), .int (o_wrongAt), .long (o_hash)])), (a_o_now, .inl (cI, 52, .inl (o_now))), (a_o_refusals, .inl (cI, 3, .inl (o_refusals))), (a_o_tried, .inl (cI, 9, .inl (o_tried))), (a_o_shuffled, .inl (cI, 8, .inl (o_shuffled)))] H → va_D A [(a_o, .inr (6, [.ref a_o_now, .ref a_o_aside, .ref a_o_past, .int (o_states), .ref a_o_refusals, .ref a_o_text, .int (o_bytes), .ref a_o_tried, .int (o_triedMany), .ref a_o_shuffled, .ref a_o_letters, .ref a_o_numbers, .int (o_orders), .int (o_spot), .int (o_wrongAt), .long (o_hash)])), (a_o_now, .inl (cI, 52, .inl (o_now))), (a_o_refusals, .inl (cI, 3, .inl (o_refusals))), (a_o_tried, .inl (cI, 9, .inl (o_tried))), (a_o_shuffled, .inl (cI, 8, .inl (o_shuffled)))] → va_S A s.heap H locs → ∀ (ls : Array Slot), lv_has ls 3 [(0, .ref a_o), (1, .int v1)] → W p l e (headSpec (mws yX7_digest cX7_digest 3 (some .long)) { frames := 8, cells := 0, slots := 0, locals := 179 }).room s m [.ref a_o].toArray below meth c H locs 0 0 (MQ below (wrQ D A [(a_o, .inr (6, [.ref a_o_now, .ref a_o_aside, .ref a_o_past, .int (o_states), .ref a_o_refusals, .ref a_o_text, .int (o_bytes), .ref a_o_tried, .int (o_triedMany'), .ref a_o_shuffled, .ref a_o_letters, .ref a_o_numbers, .int (o_orders), .int (o_spot), .int (o_wrongAt), .long (o_hash')])), (a_o_now, .inl (cI, 52, .inl (o_now))), (a_o_refusals, .inl (cI, 3, .inl (o_refusals))), (a_o_tried, .inl (cI, 9, .inl (o_tried'))), (a_o_shuffled, .inl (cI, 8, .inl (o_shuffled')))] (some (.long r0))) [.ref a_o].toArray s 0 0 A) (F0 m 32 ls []) := by
    intro n
    induction n with
    | zero =>
      intro v1 o_triedMany o_hash o_tried o_shuffled h
      exact nn_no h
    | succ n ih =>
      intro v1 o_triedMany o_hash o_tried o_shuffled h H locs hP hD hS ls hl
      rw [b_X7_digest_32] at h
      refine lv_iload_n hx hb dX7_digest_32 rfl (lv_at hl 1 rfl) ?_
      refine lv_bipush (v := (8 : Int32)) hx hb dX7_digest_33 (by decide) ?_
      refine lv_icmp_ge (tgt := 54) hx hb dX7_digest_35 (by decide) (fun c34 => ?_) (fun c34 => ?_)
      · have h := it_t c34 h
        refine lv_iconst (v := (0 : Int32)) hx hb dX7_digest_54 (by decide) ?_
        refine lv_istore_n (lv' := [(1, .int (0 : Int32)), (0, .ref a_o)]) hx hb dX7_digest_55 rfl hl (by decide) rfl (fun ls hl => ?_)
        exact L_56 _ _ _ _ _ _ h _ _ hP hD hS _ (lv_sub hl [1, 0] rfl)
      · have h := it_f c34 h
        refine lv_aload_n hx hb dX7_digest_38 rfl (lv_at hl 0 rfl) ?_
        refine lv_aload_n hx hb dX7_digest_39 rfl (lv_at hl 0 rfl) ?_
        refine lv_iload_n hx hb dX7_digest_40 rfl (lv_at hl 1 rfl) ?_
        obtain ⟨r35, w36, w37, hc38, h⟩ := bd3_use h
        refine wr_V (As := [.int v1]) (rest := [.ref a_o]) (ws' := [(a_o, .inr (6, [.ref a_o_now, .ref a_o_aside, .ref a_o_past, .int (o_states), .ref a_o_refusals, .ref a_o_text, .int (o_bytes), .ref a_o_tried, .int (w36), .ref a_o_shuffled, .ref a_o_letters, .ref a_o_numbers, .int (o_orders), .int (o_spot), .int (o_wrongAt), .long (o_hash)])), (a_o_now, .inl (cI, 52, .inl (o_now))), (a_o_refusals, .inl (cI, 3, .inl (o_refusals))), (a_o_tried, .inl (cI, 9, .inl (w37))), (a_o_shuffled, .inl (cI, 8, .inl (o_shuffled)))]) S (c_X7_countTold l D cI cS a_o a_o_now a_o_tried a_o_aside a_o_past a_o_refusals a_o_text a_o_shuffled a_o_letters a_o_numbers o_states o_bytes o_triedMany o_orders o_spot o_wrongAt o_hash o_now o_tried v1 r35 w36 w37 hc38) (cwV1 hts cvX7_countTold wmX7_177 rfl rfl ⟨(Nat.le_of_ble_eq_true rfl), (Nat.le_of_ble_eq_true rfl)⟩) hK hP hD hS [0, 1, 3] rfl rfl [(true, 0), (true, 1), (false, 2), (true, 2), (false, 4)] rfl rfl rfl 0 rfl rfl rfl rfl hl.1 rfl (Nat.le_of_ble_eq_true rfl) dX7_digest_41 ⟨Nat.zero_le _, Nat.zero_le _⟩ rfl (fun H locs hP hD hS => ?_)
        refine lv_i2l (v := (r35.toInt64)) hx hb dX7_digest_44 rfl ?_
        obtain ⟨w39, hc40, h⟩ := bd1_use h
        refine wr_V (As := [.long (r35.toInt64)]) (rest := []) (ws' := [(a_o, .inr (6, [.ref a_o_now, .ref a_o_aside, .ref a_o_past, .int (o_states), .ref a_o_refusals, .ref a_o_text, .int (o_bytes), .ref a_o_tried, .int (w36), .ref a_o_shuffled, .ref a_o_letters, .ref a_o_numbers, .int (o_orders), .int (o_spot), .int (o_wrongAt), .long (w39)])), (a_o_now, .inl (cI, 52, .inl (o_now))), (a_o_refusals, .inl (cI, 3, .inl (o_refusals))), (a_o_tried, .inl (cI, 9, .inl (w37))), (a_o_shuffled, .inl (cI, 8, .inl (o_shuffled)))]) S (c_X7_mix l D cI cS a_o a_o_now a_o_aside a_o_past a_o_refusals a_o_text a_o_tried a_o_shuffled a_o_letters a_o_numbers o_states o_bytes w36 o_orders o_spot o_wrongAt o_hash (r35.toInt64) w39 hc40) (cwV1 hts cvX7_mix wmX7_231 rfl rfl ⟨(Nat.le_of_ble_eq_true rfl), (Nat.le_of_ble_eq_true rfl)⟩) hK hP hD hS [0] rfl rfl [(true, 0), (false, 1), (false, 2), (false, 3), (false, 4)] rfl rfl rfl 0 rfl rfl rfl rfl hl.1 rfl (Nat.le_of_ble_eq_true rfl) dX7_digest_45 ⟨Nat.zero_le _, Nat.zero_le _⟩ rfl (fun H locs hP hD hS => ?_)
        obtain ⟨y41, ey41⟩ : ∃ z : Int32, z = v1 + (1 : Int32) := ⟨_, rfl⟩
        have h := nm_use h ey41
        refine lv_iinc (v := y41) (lv' := [(1, .int y41), (0, .ref a_o)]) hx hb dX7_digest_48 hl (k := 1) rfl (by rw [ey41]; rfl) (by decide) rfl (fun ls hl => ?_)
        refine lv_goto (tgt := 32) hx hb dX7_digest_51 (by decide) ?_
        exact ih _ _ _ _ _ h _ _ hP hD hS _ (lv_sub hl [1, 0] rfl)
  have L_9 : ∀ (n : Nat) (v1 : Int32) (o_triedMany : Int32) (o_hash : Int64) (o_tried : Ar) (o_shuffled : Ar), b_X7_digest_9 o_states o_bytes o_now o_refusals n v1 o_triedMany o_hash o_tried o_shuffled = some (r0, o_triedMany', o_hash', o_tried', o_shuffled') → ∀ (H : Heap) (locs : List Loc), va_P D vwCl [(a_o, .inr (6, [.ref a_o_now, .ref a_o_aside, .ref a_o_past, .int (o_states), .ref a_o_refusals, .ref a_o_text, .int (o_bytes), .ref a_o_tried, .int (o_triedMany), .ref a_o_shuffled, .ref a_o_letters, .ref a_o_numbers, .int (o_orders), .int (o_spot), .int (o_wrongAt), .long (o_hash)])), (a_o_now, .inl (cI, 52, .inl (o_now))), (a_o_refusals, .inl (cI, 3, .inl (o_refusals))), (a_o_tried, .inl (cI, 9, .inl (o_tried))), (a_o_shuffled, .inl (cI, 8, .inl (o_shuffled)))] H → va_D A [(a_o, .inr (6, [.ref a_o_now, .ref a_o_aside, .ref a_o_past, .int (o_states), .ref a_o_refusals, .ref a_o_text, .int (o_bytes), .ref a_o_tried, .int (o_triedMany), .ref a_o_shuffled, .ref a_o_letters, .ref a_o_numbers, .int (o_orders), .int (o_spot), .int (o_wrongAt), .long (o_hash)])), (a_o_now, .inl (cI, 52, .inl (o_now))), (a_o_refusals, .inl (cI, 3, .inl (o_refusals))), (a_o_tried, .inl (cI, 9, .inl (o_tried))), (a_o_shuffled, .inl (cI, 8, .inl (o_shuffled)))] → va_S A s.heap H locs → ∀ (ls : Array Slot), lv_has ls 3 [(0, .ref a_o), (1, .int v1)] → W p l e (headSpec (mws yX7_digest cX7_digest 3 (some .long)) { frames := 8, cells := 0, slots := 0, locals := 179 }).room s m [.ref a_o].toArray below meth c H locs 0 0 (MQ below (wrQ D A [(a_o, .inr (6, [.ref a_o_now, .ref a_o_aside, .ref a_o_past, .int (o_states), .ref a_o_refusals, .ref a_o_text, .int (o_bytes), .ref a_o_tried, .int (o_triedMany'), .ref a_o_shuffled, .ref a_o_letters, .ref a_o_numbers, .int (o_orders), .int (o_spot), .int (o_wrongAt), .long (o_hash')])), (a_o_now, .inl (cI, 52, .inl (o_now))), (a_o_refusals, .inl (cI, 3, .inl (o_refusals))), (a_o_tried, .inl (cI, 9, .inl (o_tried'))), (a_o_shuffled, .inl (cI, 8, .inl (o_shuffled')))] (some (.long r0))) [.ref a_o].toArray s 0 0 A) (F0 m 9 ls []) := by
    intro n
    induction n with
    | zero =>
      intro v1 o_triedMany o_hash o_tried o_shuffled h
      exact nn_no h
    | succ n ih =>
      intro v1 o_triedMany o_hash o_tried o_shuffled h H locs hP hD hS ls hl
      rw [b_X7_digest_9] at h
      refine lv_iload_n hx hb dX7_digest_9 rfl (lv_at hl 1 rfl) ?_
      refine lv_iconst (v := (5 : Int32)) hx hb dX7_digest_10 (by decide) ?_
      refine lv_icmp_ge (tgt := 30) hx hb dX7_digest_11 (by decide) (fun c42 => ?_) (fun c42 => ?_)
      · have h := it_t c42 h
        refine lv_iconst (v := (0 : Int32)) hx hb dX7_digest_30 (by decide) ?_
        refine lv_istore_n (lv' := [(1, .int (0 : Int32)), (0, .ref a_o)]) hx hb dX7_digest_31 rfl hl (by decide) rfl (fun ls hl => ?_)
        exact L_32 _ _ _ _ _ _ h _ _ hP hD hS _ (lv_sub hl [1, 0] rfl)
      · have h := it_f c42 h
        refine lv_aload_n hx hb dX7_digest_14 rfl (lv_at hl 0 rfl) ?_
        refine lv_aload_n hx hb dX7_digest_15 rfl (lv_at hl 0 rfl) ?_
        refine lv_iload_n hx hb dX7_digest_16 rfl (lv_at hl 1 rfl) ?_
        obtain ⟨r43, hc44, h⟩ := bd1_use h
        refine ro_V (As := [.int v1]) (rest := [.ref a_o]) S (c_X7_toldAt l D cI cS a_o a_o_refusals a_o_now a_o_aside a_o_past a_o_text a_o_tried a_o_shuffled a_o_letters a_o_numbers o_states o_bytes o_triedMany o_orders o_spot o_wrongAt o_hash o_refusals v1 r43 hc44) (cwV1 hts cvX7_toldAt wmX7_220 rfl rfl ⟨(Nat.le_of_ble_eq_true rfl), (Nat.le_of_ble_eq_true rfl)⟩) hK hP [0, 2] rfl 0 rfl rfl rfl rfl hl.1 rfl (Nat.le_of_ble_eq_true rfl) dX7_digest_17 ⟨Nat.zero_le _, Nat.zero_le _⟩ rfl ?_
        refine lv_i2l (v := (r43.toInt64)) hx hb dX7_digest_20 rfl ?_
        obtain ⟨w45, hc46, h⟩ := bd1_use h
        refine wr_V (As := [.long (r43.toInt64)]) (rest := []) (ws' := [(a_o, .inr (6, [.ref a_o_now, .ref a_o_aside, .ref a_o_past, .int (o_states), .ref a_o_refusals, .ref a_o_text, .int (o_bytes), .ref a_o_tried, .int (o_triedMany), .ref a_o_shuffled, .ref a_o_letters, .ref a_o_numbers, .int (o_orders), .int (o_spot), .int (o_wrongAt), .long (w45)])), (a_o_now, .inl (cI, 52, .inl (o_now))), (a_o_refusals, .inl (cI, 3, .inl (o_refusals))), (a_o_tried, .inl (cI, 9, .inl (o_tried))), (a_o_shuffled, .inl (cI, 8, .inl (o_shuffled)))]) S (c_X7_mix l D cI cS a_o a_o_now a_o_aside a_o_past a_o_refusals a_o_text a_o_tried a_o_shuffled a_o_letters a_o_numbers o_states o_bytes o_triedMany o_orders o_spot o_wrongAt o_hash (r43.toInt64) w45 hc46) (cwV1 hts cvX7_mix wmX7_231 rfl rfl ⟨(Nat.le_of_ble_eq_true rfl), (Nat.le_of_ble_eq_true rfl)⟩) hK hP hD hS [0] rfl rfl [(true, 0), (false, 1), (false, 2), (false, 3), (false, 4)] rfl rfl rfl 0 rfl rfl rfl rfl hl.1 rfl (Nat.le_of_ble_eq_true rfl) dX7_digest_21 ⟨Nat.zero_le _, Nat.zero_le _⟩ rfl (fun H locs hP hD hS => ?_)
        obtain ⟨y47, ey47⟩ : ∃ z : Int32, z = v1 + (1 : Int32) := ⟨_, rfl⟩
        have h := nm_use h ey47
        refine lv_iinc (v := y47) (lv' := [(1, .int y47), (0, .ref a_o)]) hx hb dX7_digest_24 hl (k := 1) rfl (by rw [ey47]; rfl) (by decide) rfl (fun ls hl => ?_)
        refine lv_goto (tgt := 9) hx hb dX7_digest_27 (by decide) ?_
        exact ih _ _ _ _ _ h _ _ hP hD hS _ (lv_sub hl [1, 0] rfl)
  unfold f_X7_digest at h
  refine lv_aload_n hx hb dX7_digest_0 rfl (lv_at hl 0 rfl) ?_
  refine lv_ldc2 (v := (18056 : Int64)) hx hb hown (hts _ wkX7_229) dX7_digest_1 ?_
  refine pfX7_15 (ws' := [(a_o, .inr (6, [.ref a_o_now, .ref a_o_aside, .ref a_o_past, .int (o_states), .ref a_o_refusals, .ref a_o_text, .int (o_bytes), .ref a_o_tried, .int (o_triedMany), .ref a_o_shuffled, .ref a_o_letters, .ref a_o_numbers, .int (o_orders), .int (o_spot), .int (o_wrongAt), .long ((18056 : Int64))])), (a_o_now, .inl (cI, 52, .inl (o_now))), (a_o_refusals, .inl (cI, 3, .inl (o_refusals))), (a_o_tried, .inl (cI, 9, .inl (o_tried))), (a_o_shuffled, .inl (cI, 8, .inl (o_shuffled)))]) hx hb hts hown hK hP hD hS 0 rfl rfl wfX7_225 dX7_digest_4 (fun H locs hP hD hS => ?_)
  refine lv_iconst (v := (0 : Int32)) hx hb dX7_digest_7 (by decide) ?_
  refine lv_istore_n (lv' := [(1, .int (0 : Int32)), (0, .ref a_o)]) hx hb dX7_digest_8 rfl hl (by decide) rfl (fun ls hl => ?_)
  exact L_9 _ _ _ _ _ _ h _ _ hP hD hS _ (lv_sub hl [1, 0] rfl)
def f_X7_manyOf (x1 : Int32) : Option (Int32) := (if x1 = (99 : Int32) then some ((0 : Int32)) else (if x1 = (109 : Int32) then some ((1 : Int32)) else (if x1 = (114 : Int32) then some ((1 : Int32)) else (if x1 = (115 : Int32) then some ((1 : Int32)) else (if x1 = (116 : Int32) then some ((5 : Int32)) else (if x1 = (119 : Int32) then some ((0 : Int32)) else some ((-1 : Int32))))))))
set_option maxHeartbeats 4000000 in
set_option maxRecDepth 100000 in
theorem c_X7_manyOf (l : Launch) (D : va_G) (cI cS : ClassId) (x1 : Int32) (r0 : Int32) (h : f_X7_manyOf x1 = some r0) : roM l D cI cS yX7_manyOf cX7_manyOf 1 (some .int) 0 0 [.int x1] [] (some (.int r0)) := by
  refine Met.ofW (cc := cX7_manyOf) (maxL := 1) (ret := (some .int)) (by decide) rfl ?_
  intro p e s m args below meth c s₁ B hml hv
  obtain ⟨rfl, hP, hK⟩ := hv
  have hx := B.exec
  have hb := B.bytes
  have hr := B.returns
  have hts : ∀ w ∈ GW, w.before _ s = true := fun w hw => atoms_spec (ws := mws yX7_manyOf cX7_manyOf 1 (some .int)) B.pre w (List.mem_cons_of_mem _ hw)
  have hown : s.vm.findClass RX7 = some m.cls := findClass_of_methodNamed B.named
  have hlocks := B.notSynchronized
  have hl := lv_entry ([.int x1]) (n := 1) (Nat.le_of_ble_eq_true rfl)
  rw [lg_entry_eq]
  generalize (lg_sl ([.int x1]) ++ List.replicate (1 - (lg_sl ([.int x1])).length) Slot.unset).toArray = ls at hl ⊢
  have hl : lv_has ls 1 [(0, .int x1)] := hl
  have S : CallFix p m c cX7_manyOf 1 s _ GW RX7 := ⟨hx, hb, hml, hown, hts⟩
  unfold f_X7_manyOf at h
  refine lv_iload_n hx hb dX7_manyOf_0 rfl (lv_at hl 0 rfl) ?_
  by_cases c1 : x1 = (99 : Int32)
  · have h := it_t c1 h
    refine lv_lookup (off := 63) (tgt := 64) hx hb dX7_manyOf_1 (by decide) (by rw [c1]; rfl) (by decide) ?_
    refine lv_iconst (v := (0 : Int32)) hx hb dX7_manyOf_64 (by decide) ?_
    exact W.iret hx hb hr (fun t ht _ => ⟨congrArg (fun z => Outcome.returned (some (Value.int z))) (Option.some.inj h), ht⟩) (fun q hq => by cases hq) dX7_manyOf_65
  · have h := it_f c1 h
    by_cases c2 : x1 = (109 : Int32)
    · have h := it_t c2 h
      refine lv_lookup (off := 61) (tgt := 62) hx hb dX7_manyOf_1 (by decide) (by rw [c2]; rfl) (by decide) ?_
      refine lv_iconst (v := (1 : Int32)) hx hb dX7_manyOf_62 (by decide) ?_
      exact W.iret hx hb hr (fun t ht _ => ⟨congrArg (fun z => Outcome.returned (some (Value.int z))) (Option.some.inj h), ht⟩) (fun q hq => by cases hq) dX7_manyOf_63
    · have h := it_f c2 h
      by_cases c3 : x1 = (114 : Int32)
      · have h := it_t c3 h
        refine lv_lookup (off := 61) (tgt := 62) hx hb dX7_manyOf_1 (by decide) (by rw [c3]; rfl) (by decide) ?_
        refine lv_iconst (v := (1 : Int32)) hx hb dX7_manyOf_62 (by decide) ?_
        exact W.iret hx hb hr (fun t ht _ => ⟨congrArg (fun z => Outcome.returned (some (Value.int z))) (Option.some.inj h), ht⟩) (fun q hq => by cases hq) dX7_manyOf_63
      · have h := it_f c3 h
        by_cases c4 : x1 = (115 : Int32)
        · have h := it_t c4 h
          refine lv_lookup (off := 61) (tgt := 62) hx hb dX7_manyOf_1 (by decide) (by rw [c4]; rfl) (by decide) ?_
          refine lv_iconst (v := (1 : Int32)) hx hb dX7_manyOf_62 (by decide) ?_
          exact W.iret hx hb hr (fun t ht _ => ⟨congrArg (fun z => Outcome.returned (some (Value.int z))) (Option.some.inj h), ht⟩) (fun q hq => by cases hq) dX7_manyOf_63
        · have h := it_f c4 h
          by_cases c5 : x1 = (116 : Int32)
          · have h := it_t c5 h
            refine lv_lookup (off := 59) (tgt := 60) hx hb dX7_manyOf_1 (by decide) (by rw [c5]; rfl) (by decide) ?_
            refine lv_iconst (v := (5 : Int32)) hx hb dX7_manyOf_60 (by decide) ?_
            exact W.iret hx hb hr (fun t ht _ => ⟨congrArg (fun z => Outcome.returned (some (Value.int z))) (Option.some.inj h), ht⟩) (fun q hq => by cases hq) dX7_manyOf_61
          · have h := it_f c5 h
            by_cases c6 : x1 = (119 : Int32)
            · have h := it_t c6 h
              refine lv_lookup (off := 63) (tgt := 64) hx hb dX7_manyOf_1 (by decide) (by rw [c6]; rfl) (by decide) ?_
              refine lv_iconst (v := (0 : Int32)) hx hb dX7_manyOf_64 (by decide) ?_
              exact W.iret hx hb hr (fun t ht _ => ⟨congrArg (fun z => Outcome.returned (some (Value.int z))) (Option.some.inj h), ht⟩) (fun q hq => by cases hq) dX7_manyOf_65
            · have h := it_f c6 h
              refine lv_lookup (off := 65) (tgt := 66) hx hb dX7_manyOf_1 (by decide) (by show Op.lookupswitch.offset [(99, 63), (109, 61), (114, 61), (115, 61), (116, 59), (119, 63)] 65 x1.toInt = 65; rw [lv_osw c1 (by decide), lv_osw c2 (by decide), lv_osw c3 (by decide), lv_osw c4 (by decide), lv_osw c5 (by decide), lv_osw c6 (by decide)]; rfl) (by decide) ?_
              refine lv_iconst (v := (-1 : Int32)) hx hb dX7_manyOf_66 (by decide) ?_
              exact W.iret hx hb hr (fun t ht _ => ⟨congrArg (fun z => Outcome.returned (some (Value.int z))) (Option.some.inj h), ht⟩) (fun q hq => by cases hq) dX7_manyOf_67
