/-! Reduction -/
def b_X2_firstHalf_12 (p1_size : Int32) (p1_tests : Ar) (x2 : Int32) : Nat → Int32 → Int32 → Int32 → Option (Int32)
  | 0, _, _, _ => none
  | n + 1, v2, v3, v4 => (if p1_size ≤ v4 then some (v2) else (if v3 ≤ (0 : Int32) then some (v2) else bd1 (f_X3_nth p1_size p1_tests v4) (fun r3 => bd1 (f_X6_isIn r3 x2) (fun r5 => (if (b2i r5) = (0 : Int32) then nm (v4 + (1 : Int32)) (fun y8 => b_X2_firstHalf_12 p1_size p1_tests x2 n v2 v3 y8) else nm (v2 ||| ((1 : Int32) <<< (r3 &&& (31 : Int32)))) (fun y9 => nm (v3 + (-1 : Int32)) (fun y10 => nm (v4 + (1 : Int32)) (fun y11 => b_X2_firstHalf_12 p1_size p1_tests x2 n y9 y10 y11))))))))
def f_X2_firstHalf (p1_size : Int32) (p1_tests : Ar) (x2 : Int32) : Option (Int32) := bd1 (f_J6_bitCount_0f7a4 x2) (fun r12 => nm (r12 / (2 : Int32)) (fun y14 => b_X2_firstHalf_12 p1_size p1_tests x2 FU (0 : Int32) y14 (0 : Int32)))
set_option maxHeartbeats 4000000 in
set_option maxRecDepth 100000 in
theorem c_X2_firstHalf (l : Launch) (D : va_G) (cI cS : ClassId) (a_p1 : Nat) (a_p1_tests : Nat) (p1_size : Int32) (p1_tests : Ar) (x2 : Int32) (r0 : Int32) (h : f_X2_firstHalf p1_size p1_tests x2 = some r0) : roM l D cI cS yX2_firstHalf cX2_firstHalf 6 (some .int) 1 21 [.ref a_p1, .int x2] [(a_p1, .inr (2, [.ref a_p1_tests, .int (p1_size)])), (a_p1_tests, .inl (cI, 8, .inl (p1_tests)))] (some (.int r0)) := by
  refine Met.ofW (cc := cX2_firstHalf) (maxL := 6) (ret := (some .int)) (by decide) rfl ?_
  intro p e s m args below meth c s₁ B hml hv
  obtain ⟨rfl, hP, hK⟩ := hv
  have hx := B.exec
  have hb := B.bytes
  have hr := B.returns
  have hts : ∀ w ∈ GW, w.before _ s = true := fun w hw => atoms_spec (ws := mws yX2_firstHalf cX2_firstHalf 6 (some .int)) B.pre w (List.mem_cons_of_mem _ hw)
  have hown : s.vm.findClass RX2 = some m.cls := findClass_of_methodNamed B.named
  have hlocks := B.notSynchronized
  have hl := lv_entry ([.ref a_p1, .int x2]) (n := 6) (Nat.le_of_ble_eq_true rfl)
  rw [lg_entry_eq]
  generalize (lg_sl ([.ref a_p1, .int x2]) ++ List.replicate (6 - (lg_sl ([.ref a_p1, .int x2])).length) Slot.unset).toArray = ls at hl ⊢
  have hl : lv_has ls 6 [(0, .ref a_p1), (1, .int x2)] := hl
  have S : CallFix p m c cX2_firstHalf 6 s _ GW RX2 := ⟨hx, hb, hml, hown, hts⟩
  have L_12 : ∀ (n : Nat) (v2 : Int32) (v3 : Int32) (v4 : Int32), b_X2_firstHalf_12 p1_size p1_tests x2 n v2 v3 v4 = some r0 → ∀ (ls : Array Slot), lv_has ls 6 [(0, .ref a_p1), (1, .int x2), (2, .int v2), (3, .int v3), (4, .int v4)] → W p l e (headSpec (mws yX2_firstHalf cX2_firstHalf 6 (some .int)) { frames := 1, cells := 0, slots := 0, locals := 21 }).room s m [.ref a_p1, .int x2].toArray below meth c s.heap [] 0 0 (MQ below (roQ (some (.int r0))) [.ref a_p1, .int x2].toArray s 0 0 noF) (F0 m 12 ls []) := by
    intro n
    induction n with
    | zero =>
      intro v2 v3 v4 h
      exact nn_no h
    | succ n ih =>
      intro v2 v3 v4 h ls hl
      rw [b_X2_firstHalf_12] at h
      refine lv_iload hx hb dX2_firstHalf_12 (lv_at hl 4 rfl) ?_
      refine lv_aload_n hx hb dX2_firstHalf_14 rfl (lv_at hl 0 rfl) ?_
      refine gnX3_1 hx hb hts hown hK hP 0 rfl wnX2_15 dX2_firstHalf_15 ?_
      refine lv_icmp_ge (tgt := 58) hx hb dX2_firstHalf_18 (by decide) (fun c1 => ?_) (fun c1 => ?_)
      · have h := it_t c1 h
        refine lv_iload_n hx hb dX2_firstHalf_58 rfl (lv_at hl 2 rfl) ?_
        exact W.iret hx hb hr (fun t ht _ => ⟨congrArg (fun z => Outcome.returned (some (Value.int z))) (Option.some.inj h), ht⟩) (fun q hq => by cases hq) dX2_firstHalf_59
      · have h := it_f c1 h
        refine lv_iload_n hx hb dX2_firstHalf_21 rfl (lv_at hl 3 rfl) ?_
        refine lv_if_le (tgt := 58) hx hb dX2_firstHalf_22 (by decide) (fun c2 => ?_) (fun c2 => ?_)
        · have h := it_t c2 h
          refine lv_iload_n hx hb dX2_firstHalf_58 rfl (lv_at hl 2 rfl) ?_
          exact W.iret hx hb hr (fun t ht _ => ⟨congrArg (fun z => Outcome.returned (some (Value.int z))) (Option.some.inj h), ht⟩) (fun q hq => by cases hq) dX2_firstHalf_59
        · have h := it_f c2 h
          refine lv_aload_n hx hb dX2_firstHalf_25 rfl (lv_at hl 0 rfl) ?_
          refine lv_iload hx hb dX2_firstHalf_26 (lv_at hl 4 rfl) ?_
          obtain ⟨r3, hc4, h⟩ := bd1_use h
          refine ro_V (As := [.int v4]) (rest := []) S (c_X3_nth l D cI cS a_p1 a_p1_tests p1_size p1_tests v4 r3 hc4) (cwV1 hts cvX3_nth wmX2_21 rfl rfl ⟨(Nat.le_of_ble_eq_true rfl), (Nat.le_of_ble_eq_true rfl)⟩) hK hP [0, 1] rfl 0 rfl rfl rfl rfl hl.1 rfl (Nat.le_of_ble_eq_true rfl) dX2_firstHalf_28 ⟨Nat.zero_le _, Nat.zero_le _⟩ rfl ?_
          refine lv_istore (lv' := [(5, .int r3), (0, .ref a_p1), (1, .int x2), (2, .int v2), (3, .int v3), (4, .int v4)]) hx hb dX2_firstHalf_31 hl (by decide) rfl (fun ls hl => ?_)
          refine lv_iload hx hb dX2_firstHalf_33 (lv_at hl 0 rfl) ?_
          refine lv_iload_n hx hb dX2_firstHalf_35 rfl (lv_at hl 2 rfl) ?_
          obtain ⟨r5, hc6, h⟩ := bd1_use h
          refine ro_SN (As := [.int r3, .int x2]) (rest := []) S (c_X6_isIn l D cI cS r3 x2 r5 hc6) (cwSN1 hts hK.2.1 csX6_isIn wnX2_25 rfl rfl ⟨(Nat.le_of_ble_eq_true rfl), (Nat.le_of_ble_eq_true rfl)⟩) hK hP [] rfl rfl hl.1 rfl (Nat.le_of_ble_eq_true rfl) dX2_firstHalf_36 ⟨Nat.zero_le _, Nat.zero_le _⟩ rfl ?_
          refine lv_if_eq (tgt := 52) hx hb dX2_firstHalf_39 (by decide) (fun c7 => ?_) (fun c7 => ?_)
          · have h := it_t c7 h
            obtain ⟨y8, ey8⟩ : ∃ z : Int32, z = v4 + (1 : Int32) := ⟨_, rfl⟩
            have h := nm_use h ey8
            refine lv_iinc (v := y8) (lv' := [(4, .int y8), (5, .int r3), (0, .ref a_p1), (1, .int x2), (2, .int v2), (3, .int v3)]) hx hb dX2_firstHalf_52 hl (k := 5) rfl (by rw [ey8]; rfl) (by decide) rfl (fun ls hl => ?_)
            refine lv_goto (tgt := 12) hx hb dX2_firstHalf_55 (by decide) ?_
            exact ih _ _ _ h _ (lv_sub hl [2, 3, 4, 5, 0] rfl)
          · have h := it_f c7 h
            refine lv_iload_n hx hb dX2_firstHalf_42 rfl (lv_at hl 3 rfl) ?_
            refine lv_iconst (v := (1 : Int32)) hx hb dX2_firstHalf_43 (by decide) ?_
            refine lv_iload hx hb dX2_firstHalf_44 (lv_at hl 0 rfl) ?_
            refine lv_ishl hx hb dX2_firstHalf_46 ?_
            refine lv_ior hx hb dX2_firstHalf_47 ?_
            refine lv_topi (fun y9 ey9 => ?_)
            have h := nm_use h ey9
            refine lv_istore_n (lv' := [(2, .int y9), (5, .int r3), (0, .ref a_p1), (1, .int x2), (3, .int v3), (4, .int v4)]) hx hb dX2_firstHalf_48 rfl hl (by decide) rfl (fun ls hl => ?_)
            obtain ⟨y10, ey10⟩ : ∃ z : Int32, z = v3 + (-1 : Int32) := ⟨_, rfl⟩
            have h := nm_use h ey10
            refine lv_iinc (v := y10) (lv' := [(3, .int y10), (2, .int y9), (5, .int r3), (0, .ref a_p1), (1, .int x2), (4, .int v4)]) hx hb dX2_firstHalf_49 hl (k := 4) rfl (by rw [ey10]; rfl) (by decide) rfl (fun ls hl => ?_)
            obtain ⟨y11, ey11⟩ : ∃ z : Int32, z = v4 + (1 : Int32) := ⟨_, rfl⟩
            have h := nm_use h ey11
            refine lv_iinc (v := y11) (lv' := [(4, .int y11), (3, .int y10), (2, .int y9), (5, .int r3), (0, .ref a_p1), (1, .int x2)]) hx hb dX2_firstHalf_52 hl (k := 5) rfl (by rw [ey11]; rfl) (by decide) rfl (fun ls hl => ?_)
            refine lv_goto (tgt := 12) hx hb dX2_firstHalf_55 (by decide) ?_
            exact ih _ _ _ h _ (lv_sub hl [4, 5, 2, 1, 0] rfl)
  unfold f_X2_firstHalf at h
  refine lv_iconst (v := (0 : Int32)) hx hb dX2_firstHalf_0 (by decide) ?_
  refine lv_istore_n (lv' := [(2, .int (0 : Int32)), (0, .ref a_p1), (1, .int x2)]) hx hb dX2_firstHalf_1 rfl hl (by decide) rfl (fun ls hl => ?_)
  refine lv_iload_n hx hb dX2_firstHalf_2 rfl (lv_at hl 2 rfl) ?_
  obtain ⟨r12, hc13, h⟩ := bd1_use h
  refine ro_S (As := [.int x2]) (rest := []) S (c_J6_bitCount_0f7a4 l D cI cS x2 r12 hc13) (cwS1 hts csJ6_bitCount_0f7a4 wmX2_32 rfl rfl ⟨(Nat.le_of_ble_eq_true rfl), (Nat.le_of_ble_eq_true rfl)⟩) hK hP [] rfl rfl hl.1 rfl (Nat.le_of_ble_eq_true rfl) dX2_firstHalf_3 ⟨Nat.zero_le _, Nat.zero_le _⟩ rfl ?_
  refine lv_iconst (v := (2 : Int32)) hx hb dX2_firstHalf_6 (by decide) ?_
  refine lv_idiv hx hb dX2_firstHalf_7 (by decide) ?_
  refine lv_topi (fun y14 ey14 => ?_)
  have h := nm_use h ey14
  refine lv_istore_n (lv' := [(3, .int y14), (2, .int (0 : Int32)), (0, .ref a_p1), (1, .int x2)]) hx hb dX2_firstHalf_8 rfl hl (by decide) rfl (fun ls hl => ?_)
  refine lv_iconst (v := (0 : Int32)) hx hb dX2_firstHalf_9 (by decide) ?_
  refine lv_istore (lv' := [(4, .int (0 : Int32)), (3, .int y14), (2, .int (0 : Int32)), (0, .ref a_p1), (1, .int x2)]) hx hb dX2_firstHalf_10 hl (by decide) rfl (fun ls hl => ?_)
  exact L_12 _ _ _ _ h _ (lv_sub hl [3, 4, 2, 1, 0] rfl)
def b_X2_least_26 (p1_startCells : Int32) (p1_modeNow : Int32) (p1_masks : Ar) (p1_row_size : Int32) (p1_row_tests : Ar) (x3 : Int32) (k_8 : Int32 → Int32 → Int32 → Option (Int32)) : Nat → Int32 → Int32 → Int32 → Int32 → Option (Int32)
  | 0, _, _, _, _ => none
  | n + 1, v3, v4, v5, v6 => (if p1_row_size ≤ v6 then nm (v5 + (1 : Int32)) (fun y2 => k_8 v3 v4 y2) else bd1 (f_X3_nth p1_row_size p1_row_tests v6) (fun r3 => nm (v3 &&& (((1 : Int32) <<< (r3 &&& (31 : Int32))) ^^^ (-1 : Int32))) (fun y5 => bd1 (f_X6_isIn r3 v3) (fun r6 => (if (b2i r6) = (0 : Int32) then nm (v6 + (1 : Int32)) (fun y9 => b_X2_least_26 p1_startCells p1_modeNow p1_masks p1_row_size p1_row_tests x3 k_8 n v3 v4 v5 y9) else bd1 (f_X4_isFlippedBehind p1_startCells p1_modeNow p1_masks p1_row_size p1_row_tests y5 x3) (fun r10 => (if (b2i r10) = (0 : Int32) then nm (v6 + (1 : Int32)) (fun y13 => b_X2_least_26 p1_startCells p1_modeNow p1_masks p1_row_size p1_row_tests x3 k_8 n v3 v4 v5 y13) else nm (v6 + (1 : Int32)) (fun y14 => b_X2_least_26 p1_startCells p1_modeNow p1_masks p1_row_size p1_row_tests x3 k_8 n y5 (1 : Int32) v5 y14))))))))
def b_X2_least_8 (p1_startCells : Int32) (p1_modeNow : Int32) (p1_masks : Ar) (p1_row_size : Int32) (p1_row_tests : Ar) (x3 : Int32) : Nat → Int32 → Int32 → Int32 → Option (Int32)
  | 0, _, _, _ => none
  | n + 1, v3, v4, v5 => (if (8 : Int32) < v5 then some (v3) else (if v4 = (0 : Int32) then some (v3) else b_X2_least_26 p1_startCells p1_modeNow p1_masks p1_row_size p1_row_tests x3 (fun z0 z1 z2 => b_X2_least_8 p1_startCells p1_modeNow p1_masks p1_row_size p1_row_tests x3 n z0 z1 z2) FU v3 (0 : Int32) v5 (0 : Int32)))
def f_X2_least (p1_startCells : Int32) (p1_modeNow : Int32) (p1_masks : Ar) (p1_row_size : Int32) (p1_row_tests : Ar) (x2 : Int32) (x3 : Int32) : Option (Int32) := b_X2_least_8 p1_startCells p1_modeNow p1_masks p1_row_size p1_row_tests x3 FU x2 (1 : Int32) (0 : Int32)
set_option maxHeartbeats 4000000 in
set_option maxRecDepth 100000 in
theorem c_X2_least (l : Launch) (D : va_G) (cI cS : ClassId) (a_p1 : Nat) (a_p1_masks : Nat) (a_p1_row : Nat) (a_p1_row_tests : Nat) (p1_size : Int32) (p1_startCells : Int32) (p1_modeNow : Int32) (p1_masks : Ar) (p1_row_size : Int32) (p1_row_tests : Ar) (x2 : Int32) (x3 : Int32) (r0 : Int32) (h : f_X2_least p1_startCells p1_modeNow p1_masks p1_row_size p1_row_tests x2 x3 = some r0) : roM l D cI cS yX2_least cX2_least 9 (some .int) 4 92 [.ref a_p1, .int x2, .int x3] [(a_p1, .inr (3, [.ref a_p1_masks, .ref a_p1_row, .int (p1_size), .int (p1_startCells), .int (p1_modeNow)])), (a_p1_masks, .inl (cI, 40, .inl (p1_masks))), (a_p1_row, .inr (2, [.ref a_p1_row_tests, .int (p1_row_size)])), (a_p1_row_tests, .inl (cI, 8, .inl (p1_row_tests)))] (some (.int r0)) := by
  refine Met.ofW (cc := cX2_least) (maxL := 9) (ret := (some .int)) (by decide) rfl ?_
  intro p e s m args below meth c s₁ B hml hv
  obtain ⟨rfl, hP, hK⟩ := hv
  have hx := B.exec
  have hb := B.bytes
  have hr := B.returns
  have hts : ∀ w ∈ GW, w.before _ s = true := fun w hw => atoms_spec (ws := mws yX2_least cX2_least 9 (some .int)) B.pre w (List.mem_cons_of_mem _ hw)
  have hown : s.vm.findClass RX2 = some m.cls := findClass_of_methodNamed B.named
  have hlocks := B.notSynchronized
  have hl := lv_entry ([.ref a_p1, .int x2, .int x3]) (n := 9) (Nat.le_of_ble_eq_true rfl)
  rw [lg_entry_eq]
  generalize (lg_sl ([.ref a_p1, .int x2, .int x3]) ++ List.replicate (9 - (lg_sl ([.ref a_p1, .int x2, .int x3])).length) Slot.unset).toArray = ls at hl ⊢
  have hl : lv_has ls 9 [(0, .ref a_p1), (1, .int x2), (2, .int x3)] := hl
  have S : CallFix p m c cX2_least 9 s _ GW RX2 := ⟨hx, hb, hml, hown, hts⟩
  have L_26 : ∀ (k_8 : Int32 → Int32 → Int32 → Option (Int32)) (hk_8 : ∀ (v3 : Int32) (v4 : Int32) (v5 : Int32), k_8 v3 v4 v5 = some r0 → ∀ (ls : Array Slot), lv_has ls 9 [(0, .ref a_p1), (2, .int x3), (3, .int v3), (4, .int v4), (5, .int v5)] → W p l e (headSpec (mws yX2_least cX2_least 9 (some .int)) { frames := 4, cells := 0, slots := 0, locals := 92 }).room s m [.ref a_p1, .int x2, .int x3].toArray below meth c s.heap [] 0 0 (MQ below (roQ (some (.int r0))) [.ref a_p1, .int x2, .int x3].toArray s 0 0 noF) (F0 m 8 ls [])) (n : Nat) (v3 : Int32) (v4 : Int32) (v5 : Int32) (v6 : Int32), b_X2_least_26 p1_startCells p1_modeNow p1_masks p1_row_size p1_row_tests x3 k_8 n v3 v4 v5 v6 = some r0 → ∀ (ls : Array Slot), lv_has ls 9 [(0, .ref a_p1), (2, .int x3), (3, .int v3), (4, .int v4), (5, .int v5), (6, .int v6)] → W p l e (headSpec (mws yX2_least cX2_least 9 (some .int)) { frames := 4, cells := 0, slots := 0, locals := 92 }).room s m [.ref a_p1, .int x2, .int x3].toArray below meth c s.heap [] 0 0 (MQ below (roQ (some (.int r0))) [.ref a_p1, .int x2, .int x3].toArray s 0 0 noF) (F0 m 26 ls []) := by
    intro k_8 hk_8 n
    induction n with
    | zero =>
      intro v3 v4 v5 v6 h
      exact nn_no h
    | succ n ih =>
      intro v3 v4 v5 v6 h ls hl
      rw [b_X2_least_26] at h
      refine lv_iload hx hb dX2_least_26 (lv_at hl 5 rfl) ?_
      refine lv_aload_n hx hb dX2_least_28 rfl (lv_at hl 0 rfl) ?_
      refine gnX4_1 hx hb hts hown hK hP 0 rfl wnX2_9 dX2_least_29 ?_
      refine gnX3_1 hx hb hts hown hK hP 2 rfl wnX2_15 dX2_least_32 ?_
      refine lv_icmp_ge (tgt := 90) hx hb dX2_least_35 (by decide) (fun c1 => ?_) (fun c1 => ?_)
      · have h := it_t c1 h
        obtain ⟨y2, ey2⟩ : ∃ z : Int32, z = v5 + (1 : Int32) := ⟨_, rfl⟩
        have h := nm_use h ey2
        refine lv_iinc (v := y2) (lv' := [(5, .int y2), (0, .ref a_p1), (2, .int x3), (3, .int v3), (4, .int v4), (6, .int v6)]) hx hb dX2_least_90 hl (k := 4) rfl (by rw [ey2]; rfl) (by decide) rfl (fun ls hl => ?_)
        refine lv_goto (tgt := 8) hx hb dX2_least_93 (by decide) ?_
        exact hk_8 _ _ _ h _ (lv_sub hl [1, 2, 3, 4, 0] rfl)
      · have h := it_f c1 h
        refine lv_aload_n hx hb dX2_least_38 rfl (lv_at hl 0 rfl) ?_
        refine gnX4_1 hx hb hts hown hK hP 0 rfl wnX2_9 dX2_least_39 ?_
        refine lv_iload hx hb dX2_least_42 (lv_at hl 5 rfl) ?_
        obtain ⟨r3, hc4, h⟩ := bd1_use h
        refine ro_V (As := [.int v6]) (rest := []) S (c_X3_nth l D cI cS a_p1_row a_p1_row_tests p1_row_size p1_row_tests v6 r3 hc4) (cwV1 hts cvX3_nth wmX2_21 rfl rfl ⟨(Nat.le_of_ble_eq_true rfl), (Nat.le_of_ble_eq_true rfl)⟩) hK hP [2, 3] rfl 2 rfl rfl rfl rfl hl.1 rfl (Nat.le_of_ble_eq_true rfl) dX2_least_44 ⟨Nat.zero_le _, Nat.zero_le _⟩ rfl ?_
        refine lv_istore (lv' := [(7, .int r3), (0, .ref a_p1), (2, .int x3), (3, .int v3), (4, .int v4), (5, .int v5), (6, .int v6)]) hx hb dX2_least_47 hl (by decide) rfl (fun ls hl => ?_)
        refine lv_iload_n hx hb dX2_least_49 rfl (lv_at hl 3 rfl) ?_
        refine lv_iconst (v := (1 : Int32)) hx hb dX2_least_50 (by decide) ?_
        refine lv_iload hx hb dX2_least_51 (lv_at hl 0 rfl) ?_
        refine lv_ishl hx hb dX2_least_53 ?_
        refine lv_iconst (v := (-1 : Int32)) hx hb dX2_least_54 (by decide) ?_
        refine lv_ixor hx hb dX2_least_55 ?_
        refine lv_iand hx hb dX2_least_56 ?_
        refine lv_topi (fun y5 ey5 => ?_)
        have h := nm_use h ey5
        refine lv_istore (lv' := [(8, .int y5), (7, .int r3), (0, .ref a_p1), (2, .int x3), (3, .int v3), (4, .int v4), (5, .int v5), (6, .int v6)]) hx hb dX2_least_57 hl (by decide) rfl (fun ls hl => ?_)
        refine lv_iload hx hb dX2_least_59 (lv_at hl 1 rfl) ?_
        refine lv_iload_n hx hb dX2_least_61 rfl (lv_at hl 4 rfl) ?_
        obtain ⟨r6, hc7, h⟩ := bd1_use h
        refine ro_SN (As := [.int r3, .int v3]) (rest := []) S (c_X6_isIn l D cI cS r3 v3 r6 hc7) (cwSN1 hts hK.2.1 csX6_isIn wnX2_25 rfl rfl ⟨(Nat.le_of_ble_eq_true rfl), (Nat.le_of_ble_eq_true rfl)⟩) hK hP [] rfl rfl hl.1 rfl (Nat.le_of_ble_eq_true rfl) dX2_least_62 ⟨Nat.zero_le _, Nat.zero_le _⟩ rfl ?_
        refine lv_if_eq (tgt := 84) hx hb dX2_least_65 (by decide) (fun c8 => ?_) (fun c8 => ?_)
        · have h := it_t c8 h
          obtain ⟨y9, ey9⟩ : ∃ z : Int32, z = v6 + (1 : Int32) := ⟨_, rfl⟩
          have h := nm_use h ey9
          refine lv_iinc (v := y9) (lv' := [(6, .int y9), (8, .int y5), (7, .int r3), (0, .ref a_p1), (2, .int x3), (3, .int v3), (4, .int v4), (5, .int v5)]) hx hb dX2_least_84 hl (k := 7) rfl (by rw [ey9]; rfl) (by decide) rfl (fun ls hl => ?_)
          refine lv_goto (tgt := 26) hx hb dX2_least_87 (by decide) ?_
          exact ih _ _ _ _ h _ (lv_sub hl [3, 4, 5, 6, 7, 0] rfl)
        · have h := it_f c8 h
          refine lv_aload_n hx hb dX2_least_68 rfl (lv_at hl 2 rfl) ?_
          refine lv_iload hx hb dX2_least_69 (lv_at hl 0 rfl) ?_
          refine lv_iload_n hx hb dX2_least_71 rfl (lv_at hl 3 rfl) ?_
          obtain ⟨r10, hc11, h⟩ := bd1_use h
          refine ro_V (As := [.int y5, .int x3]) (rest := []) S (c_X4_isFlippedBehind l D cI cS a_p1 a_p1_masks a_p1_row a_p1_row_tests p1_size p1_startCells p1_modeNow p1_masks p1_row_size p1_row_tests y5 x3 r10 hc11) (cwV1 hts cvX4_isFlippedBehind wmX2_29 rfl rfl ⟨(Nat.le_of_ble_eq_true rfl), (Nat.le_of_ble_eq_true rfl)⟩) hK hP [0, 1, 2, 3] rfl 0 rfl rfl rfl rfl hl.1 rfl (Nat.le_of_ble_eq_true rfl) dX2_least_72 ⟨Nat.zero_le _, Nat.zero_le _⟩ rfl ?_
          refine lv_if_eq (tgt := 84) hx hb dX2_least_75 (by decide) (fun c12 => ?_) (fun c12 => ?_)
          · have h := it_t c12 h
            obtain ⟨y13, ey13⟩ : ∃ z : Int32, z = v6 + (1 : Int32) := ⟨_, rfl⟩
            have h := nm_use h ey13
            refine lv_iinc (v := y13) (lv' := [(6, .int y13), (8, .int y5), (7, .int r3), (0, .ref a_p1), (2, .int x3), (3, .int v3), (4, .int v4), (5, .int v5)]) hx hb dX2_least_84 hl (k := 7) rfl (by rw [ey13]; rfl) (by decide) rfl (fun ls hl => ?_)
            refine lv_goto (tgt := 26) hx hb dX2_least_87 (by decide) ?_
            exact ih _ _ _ _ h _ (lv_sub hl [3, 4, 5, 6, 7, 0] rfl)
          · have h := it_f c12 h
            refine lv_iload hx hb dX2_least_78 (lv_at hl 0 rfl) ?_
            refine lv_istore_n (lv' := [(3, .int y5), (8, .int y5), (7, .int r3), (0, .ref a_p1), (2, .int x3), (4, .int v4), (5, .int v5), (6, .int v6)]) hx hb dX2_least_80 rfl hl (by decide) rfl (fun ls hl => ?_)
            refine lv_iconst (v := (1 : Int32)) hx hb dX2_least_81 (by decide) ?_
            refine lv_istore (lv' := [(4, .int (1 : Int32)), (3, .int y5), (8, .int y5), (7, .int r3), (0, .ref a_p1), (2, .int x3), (5, .int v5), (6, .int v6)]) hx hb dX2_least_82 hl (by decide) rfl (fun ls hl => ?_)
            obtain ⟨y14, ey14⟩ : ∃ z : Int32, z = v6 + (1 : Int32) := ⟨_, rfl⟩
            have h := nm_use h ey14
            refine lv_iinc (v := y14) (lv' := [(6, .int y14), (4, .int (1 : Int32)), (3, .int y5), (8, .int y5), (7, .int r3), (0, .ref a_p1), (2, .int x3), (5, .int v5)]) hx hb dX2_least_84 hl (k := 7) rfl (by rw [ey14]; rfl) (by decide) rfl (fun ls hl => ?_)
            refine lv_goto (tgt := 26) hx hb dX2_least_87 (by decide) ?_
            exact ih _ _ _ _ h _ (lv_sub hl [5, 6, 2, 1, 7, 0] rfl)
  have L_8 : ∀ (n : Nat) (v3 : Int32) (v4 : Int32) (v5 : Int32), b_X2_least_8 p1_startCells p1_modeNow p1_masks p1_row_size p1_row_tests x3 n v3 v4 v5 = some r0 → ∀ (ls : Array Slot), lv_has ls 9 [(0, .ref a_p1), (2, .int x3), (3, .int v3), (4, .int v4), (5, .int v5)] → W p l e (headSpec (mws yX2_least cX2_least 9 (some .int)) { frames := 4, cells := 0, slots := 0, locals := 92 }).room s m [.ref a_p1, .int x2, .int x3].toArray below meth c s.heap [] 0 0 (MQ below (roQ (some (.int r0))) [.ref a_p1, .int x2, .int x3].toArray s 0 0 noF) (F0 m 8 ls []) := by
    intro n
    induction n with
    | zero =>
      intro v3 v4 v5 h
      exact nn_no h
    | succ n ih =>
      intro v3 v4 v5 h ls hl
      rw [b_X2_least_8] at h
      refine lv_iload hx hb dX2_least_8 (lv_at hl 4 rfl) ?_
      refine lv_bipush (v := (8 : Int32)) hx hb dX2_least_10 (by decide) ?_
      refine lv_icmp_gt (tgt := 96) hx hb dX2_least_12 (by decide) (fun c15 => ?_) (fun c15 => ?_)
      · have h := it_t c15 h
        refine lv_iload_n hx hb dX2_least_96 rfl (lv_at hl 2 rfl) ?_
        exact W.iret hx hb hr (fun t ht _ => ⟨congrArg (fun z => Outcome.returned (some (Value.int z))) (Option.some.inj h), ht⟩) (fun q hq => by cases hq) dX2_least_97
      · have h := it_f c15 h
        refine lv_iload hx hb dX2_least_15 (lv_at hl 3 rfl) ?_
        refine lv_if_eq (tgt := 96) hx hb dX2_least_17 (by decide) (fun c16 => ?_) (fun c16 => ?_)
        · have h := it_t c16 h
          refine lv_iload_n hx hb dX2_least_96 rfl (lv_at hl 2 rfl) ?_
          exact W.iret hx hb hr (fun t ht _ => ⟨congrArg (fun z => Outcome.returned (some (Value.int z))) (Option.some.inj h), ht⟩) (fun q hq => by cases hq) dX2_least_97
        · have h := it_f c16 h
          refine lv_iconst (v := (0 : Int32)) hx hb dX2_least_20 (by decide) ?_
          refine lv_istore (lv' := [(4, .int (0 : Int32)), (0, .ref a_p1), (2, .int x3), (3, .int v3), (5, .int v5)]) hx hb dX2_least_21 hl (by decide) rfl (fun ls hl => ?_)
          refine lv_iconst (v := (0 : Int32)) hx hb dX2_least_23 (by decide) ?_
          refine lv_istore (lv' := [(6, .int (0 : Int32)), (4, .int (0 : Int32)), (0, .ref a_p1), (2, .int x3), (3, .int v3), (5, .int v5)]) hx hb dX2_least_24 hl (by decide) rfl (fun ls hl => ?_)
          exact L_26 _ ih _ _ _ _ _ h _ (lv_sub hl [2, 3, 4, 1, 5, 0] rfl)
  unfold f_X2_least at h
  refine lv_iload_n hx hb dX2_least_0 rfl (lv_at hl 1 rfl) ?_
  refine lv_istore_n (lv' := [(3, .int x2), (0, .ref a_p1), (1, .int x2), (2, .int x3)]) hx hb dX2_least_1 rfl hl (by decide) rfl (fun ls hl => ?_)
  refine lv_iconst (v := (1 : Int32)) hx hb dX2_least_2 (by decide) ?_
  refine lv_istore (lv' := [(4, .int (1 : Int32)), (3, .int x2), (0, .ref a_p1), (1, .int x2), (2, .int x3)]) hx hb dX2_least_3 hl (by decide) rfl (fun ls hl => ?_)
  refine lv_iconst (v := (0 : Int32)) hx hb dX2_least_5 (by decide) ?_
  refine lv_istore (lv' := [(5, .int (0 : Int32)), (4, .int (1 : Int32)), (3, .int x2), (0, .ref a_p1), (1, .int x2), (2, .int x3)]) hx hb dX2_least_6 hl (by decide) rfl (fun ls hl => ?_)
  exact L_8 _ _ _ _ h _ (lv_sub hl [3, 5, 2, 1, 0] rfl)
def b_X2_fewest_24 (p1_startCells : Int32) (p1_modeNow : Int32) (p1_masks : Ar) (p1_row_size : Int32) (p1_row_tests : Ar) (x3 : Int32) (k_5 : Int32 → Int32 → Option (Int32)) (v3 : Int32) (v4 : Int32) (s0 : Int32) : Option (Int32) := (if s0 = (0 : Int32) then nm (v4 + (-1 : Int32)) (fun y2 => k_5 v3 y2) else bd1 (f_J6_bitCount_0f7a4 v4) (fun r3 => bd1 (f_J6_bitCount_0f7a4 v3) (fun r5 => (if r5 < r3 then nm (v4 + (-1 : Int32)) (fun y8 => k_5 v3 y8) else bd1 (f_X4_isFlippedBehind p1_startCells p1_modeNow p1_masks p1_row_size p1_row_tests v4 x3) (fun r9 => (if (b2i r9) = (0 : Int32) then nm (v4 + (-1 : Int32)) (fun y12 => k_5 v3 y12) else nm (v4 + (-1 : Int32)) (fun y13 => k_5 v4 y13)))))))
def b_X2_fewest_5 (p1_startCells : Int32) (p1_modeNow : Int32) (p1_masks : Ar) (p1_row_size : Int32) (p1_row_tests : Ar) (x2 : Int32) (x3 : Int32) : Nat → Int32 → Int32 → Option (Int32)
  | 0, _, _ => none
  | n + 1, v3, v4 => (if v4 ≤ (0 : Int32) then some (v3) else (if (v4 &&& (x2 ^^^ (-1 : Int32))) = (0 : Int32) then b_X2_fewest_24 p1_startCells p1_modeNow p1_masks p1_row_size p1_row_tests x3 (fun z0 z1 => b_X2_fewest_5 p1_startCells p1_modeNow p1_masks p1_row_size p1_row_tests x2 x3 n z0 z1) v3 v4 (1 : Int32) else b_X2_fewest_24 p1_startCells p1_modeNow p1_masks p1_row_size p1_row_tests x3 (fun z0 z1 => b_X2_fewest_5 p1_startCells p1_modeNow p1_masks p1_row_size p1_row_tests x2 x3 n z0 z1) v3 v4 (0 : Int32)))
def f_X2_fewest (p1_startCells : Int32) (p1_modeNow : Int32) (p1_masks : Ar) (p1_row_size : Int32) (p1_row_tests : Ar) (x2 : Int32) (x3 : Int32) : Option (Int32) := b_X2_fewest_5 p1_startCells p1_modeNow p1_masks p1_row_size p1_row_tests x2 x3 FU x2 x2
set_option maxHeartbeats 4000000 in
set_option maxRecDepth 100000 in
theorem c_X2_fewest (l : Launch) (D : va_G) (cI cS : ClassId) (a_p1 : Nat) (a_p1_masks : Nat) (a_p1_row : Nat) (a_p1_row_tests : Nat) (p1_size : Int32) (p1_startCells : Int32) (p1_modeNow : Int32) (p1_masks : Ar) (p1_row_size : Int32) (p1_row_tests : Ar) (x2 : Int32) (x3 : Int32) (r0 : Int32) (h : f_X2_fewest p1_startCells p1_modeNow p1_masks p1_row_size p1_row_tests x2 x3 = some r0) : roM l D cI cS yX2_fewest cX2_fewest 6 (some .int) 4 92 [.ref a_p1, .int x2, .int x3] [(a_p1, .inr (3, [.ref a_p1_masks, .ref a_p1_row, .int (p1_size), .int (p1_startCells), .int (p1_modeNow)])), (a_p1_masks, .inl (cI, 40, .inl (p1_masks))), (a_p1_row, .inr (2, [.ref a_p1_row_tests, .int (p1_row_size)])), (a_p1_row_tests, .inl (cI, 8, .inl (p1_row_tests)))] (some (.int r0)) := by
  refine Met.ofW (cc := cX2_fewest) (maxL := 6) (ret := (some .int)) (by decide) rfl ?_
  intro p e s m args below meth c s₁ B hml hv
  obtain ⟨rfl, hP, hK⟩ := hv
  have hx := B.exec
  have hb := B.bytes
  have hr := B.returns
  have hts : ∀ w ∈ GW, w.before _ s = true := fun w hw => atoms_spec (ws := mws yX2_fewest cX2_fewest 6 (some .int)) B.pre w (List.mem_cons_of_mem _ hw)
  have hown : s.vm.findClass RX2 = some m.cls := findClass_of_methodNamed B.named
  have hlocks := B.notSynchronized
  have hl := lv_entry ([.ref a_p1, .int x2, .int x3]) (n := 6) (Nat.le_of_ble_eq_true rfl)
  rw [lg_entry_eq]
  generalize (lg_sl ([.ref a_p1, .int x2, .int x3]) ++ List.replicate (6 - (lg_sl ([.ref a_p1, .int x2, .int x3])).length) Slot.unset).toArray = ls at hl ⊢
  have hl : lv_has ls 6 [(0, .ref a_p1), (1, .int x2), (2, .int x3)] := hl
  have S : CallFix p m c cX2_fewest 6 s _ GW RX2 := ⟨hx, hb, hml, hown, hts⟩
  have L_24 : ∀ (k_5 : Int32 → Int32 → Option (Int32)) (hk_5 : ∀ (v3 : Int32) (v4 : Int32), k_5 v3 v4 = some r0 → ∀ (ls : Array Slot), lv_has ls 6 [(0, .ref a_p1), (1, .int x2), (2, .int x3), (3, .int v3), (4, .int v4)] → W p l e (headSpec (mws yX2_fewest cX2_fewest 6 (some .int)) { frames := 4, cells := 0, slots := 0, locals := 92 }).room s m [.ref a_p1, .int x2, .int x3].toArray below meth c s.heap [] 0 0 (MQ below (roQ (some (.int r0))) [.ref a_p1, .int x2, .int x3].toArray s 0 0 noF) (F0 m 5 ls [])) (v3 : Int32) (v4 : Int32) (s0 : Int32), b_X2_fewest_24 p1_startCells p1_modeNow p1_masks p1_row_size p1_row_tests x3 k_5 v3 v4 s0 = some r0 → ∀ (ls : Array Slot), lv_has ls 6 [(0, .ref a_p1), (1, .int x2), (2, .int x3), (3, .int v3), (4, .int v4)] → W p l e (headSpec (mws yX2_fewest cX2_fewest 6 (some .int)) { frames := 4, cells := 0, slots := 0, locals := 92 }).room s m [.ref a_p1, .int x2, .int x3].toArray below meth c s.heap [] 0 0 (MQ below (roQ (some (.int r0))) [.ref a_p1, .int x2, .int x3].toArray s 0 0 noF) (F0 m 24 ls [.int s0]) := by
    intro k_5 hk_5 v3 v4 s0 h ls hl
    unfold b_X2_fewest_24 at h
    refine lv_istore (lv' := [(5, .int s0), (0, .ref a_p1), (1, .int x2), (2, .int x3), (3, .int v3), (4, .int v4)]) hx hb dX2_fewest_24 hl (by decide) rfl (fun ls hl => ?_)
    refine lv_iload hx hb dX2_fewest_26 (lv_at hl 0 rfl) ?_
    refine lv_if_eq (tgt := 56) hx hb dX2_fewest_28 (by decide) (fun c1 => ?_) (fun c1 => ?_)
    · have h := it_t c1 h
      obtain ⟨y2, ey2⟩ : ∃ z : Int32, z = v4 + (-1 : Int32) := ⟨_, rfl⟩
      have h := nm_use h ey2
      refine lv_iinc (v := y2) (lv' := [(4, .int y2), (5, .int s0), (0, .ref a_p1), (1, .int x2), (2, .int x3), (3, .int v3)]) hx hb dX2_fewest_56 hl (k := 5) rfl (by rw [ey2]; rfl) (by decide) rfl (fun ls hl => ?_)
      refine lv_goto (tgt := 5) hx hb dX2_fewest_59 (by decide) ?_
      exact hk_5 _ _ h _ (lv_sub hl [2, 3, 4, 5, 0] rfl)
    · have h := it_f c1 h
      refine lv_iload hx hb dX2_fewest_31 (lv_at hl 5 rfl) ?_
      obtain ⟨r3, hc4, h⟩ := bd1_use h
      refine ro_S (As := [.int v4]) (rest := []) S (c_J6_bitCount_0f7a4 l D cI cS v4 r3 hc4) (cwS1 hts csJ6_bitCount_0f7a4 wmX2_32 rfl rfl ⟨(Nat.le_of_ble_eq_true rfl), (Nat.le_of_ble_eq_true rfl)⟩) hK hP [] rfl rfl hl.1 rfl (Nat.le_of_ble_eq_true rfl) dX2_fewest_33 ⟨Nat.zero_le _, Nat.zero_le _⟩ rfl ?_
      refine lv_iload_n hx hb dX2_fewest_36 rfl (lv_at hl 4 rfl) ?_
      obtain ⟨r5, hc6, h⟩ := bd1_use h
      refine ro_S (As := [.int v3]) (rest := [.int r3]) S (c_J6_bitCount_0f7a4 l D cI cS v3 r5 hc6) (cwS1 hts csJ6_bitCount_0f7a4 wmX2_32 rfl rfl ⟨(Nat.le_of_ble_eq_true rfl), (Nat.le_of_ble_eq_true rfl)⟩) hK hP [] rfl rfl hl.1 rfl (Nat.le_of_ble_eq_true rfl) dX2_fewest_37 ⟨Nat.zero_le _, Nat.zero_le _⟩ rfl ?_
      refine lv_icmp_gt (tgt := 56) hx hb dX2_fewest_40 (by decide) (fun c7 => ?_) (fun c7 => ?_)
      · have h := it_t c7 h
        obtain ⟨y8, ey8⟩ : ∃ z : Int32, z = v4 + (-1 : Int32) := ⟨_, rfl⟩
        have h := nm_use h ey8
        refine lv_iinc (v := y8) (lv' := [(4, .int y8), (5, .int s0), (0, .ref a_p1), (1, .int x2), (2, .int x3), (3, .int v3)]) hx hb dX2_fewest_56 hl (k := 5) rfl (by rw [ey8]; rfl) (by decide) rfl (fun ls hl => ?_)
        refine lv_goto (tgt := 5) hx hb dX2_fewest_59 (by decide) ?_
        exact hk_5 _ _ h _ (lv_sub hl [2, 3, 4, 5, 0] rfl)
      · have h := it_f c7 h
        refine lv_aload_n hx hb dX2_fewest_43 rfl (lv_at hl 1 rfl) ?_
        refine lv_iload hx hb dX2_fewest_44 (lv_at hl 5 rfl) ?_
        refine lv_iload_n hx hb dX2_fewest_46 rfl (lv_at hl 3 rfl) ?_
        obtain ⟨r9, hc10, h⟩ := bd1_use h
        refine ro_V (As := [.int v4, .int x3]) (rest := []) S (c_X4_isFlippedBehind l D cI cS a_p1 a_p1_masks a_p1_row a_p1_row_tests p1_size p1_startCells p1_modeNow p1_masks p1_row_size p1_row_tests v4 x3 r9 hc10) (cwV1 hts cvX4_isFlippedBehind wmX2_29 rfl rfl ⟨(Nat.le_of_ble_eq_true rfl), (Nat.le_of_ble_eq_true rfl)⟩) hK hP [0, 1, 2, 3] rfl 0 rfl rfl rfl rfl hl.1 rfl (Nat.le_of_ble_eq_true rfl) dX2_fewest_47 ⟨Nat.zero_le _, Nat.zero_le _⟩ rfl ?_
        refine lv_if_eq (tgt := 56) hx hb dX2_fewest_50 (by decide) (fun c11 => ?_) (fun c11 => ?_)
        · have h := it_t c11 h
          obtain ⟨y12, ey12⟩ : ∃ z : Int32, z = v4 + (-1 : Int32) := ⟨_, rfl⟩
          have h := nm_use h ey12
          refine lv_iinc (v := y12) (lv' := [(4, .int y12), (5, .int s0), (0, .ref a_p1), (1, .int x2), (2, .int x3), (3, .int v3)]) hx hb dX2_fewest_56 hl (k := 5) rfl (by rw [ey12]; rfl) (by decide) rfl (fun ls hl => ?_)
          refine lv_goto (tgt := 5) hx hb dX2_fewest_59 (by decide) ?_
          exact hk_5 _ _ h _ (lv_sub hl [2, 3, 4, 5, 0] rfl)
        · have h := it_f c11 h
          refine lv_iload hx hb dX2_fewest_53 (lv_at hl 5 rfl) ?_
          refine lv_istore_n (lv' := [(3, .int v4), (5, .int s0), (0, .ref a_p1), (1, .int x2), (2, .int x3), (4, .int v4)]) hx hb dX2_fewest_55 rfl hl (by decide) rfl (fun ls hl => ?_)
          obtain ⟨y13, ey13⟩ : ∃ z : Int32, z = v4 + (-1 : Int32) := ⟨_, rfl⟩
          have h := nm_use h ey13
          refine lv_iinc (v := y13) (lv' := [(4, .int y13), (3, .int v4), (5, .int s0), (0, .ref a_p1), (1, .int x2), (2, .int x3)]) hx hb dX2_fewest_56 hl (k := 5) rfl (by rw [ey13]; rfl) (by decide) rfl (fun ls hl => ?_)
          refine lv_goto (tgt := 5) hx hb dX2_fewest_59 (by decide) ?_
          exact hk_5 _ _ h _ (lv_sub hl [3, 4, 5, 1, 0] rfl)
  have L_5 : ∀ (n : Nat) (v3 : Int32) (v4 : Int32), b_X2_fewest_5 p1_startCells p1_modeNow p1_masks p1_row_size p1_row_tests x2 x3 n v3 v4 = some r0 → ∀ (ls : Array Slot), lv_has ls 6 [(0, .ref a_p1), (1, .int x2), (2, .int x3), (3, .int v3), (4, .int v4)] → W p l e (headSpec (mws yX2_fewest cX2_fewest 6 (some .int)) { frames := 4, cells := 0, slots := 0, locals := 92 }).room s m [.ref a_p1, .int x2, .int x3].toArray below meth c s.heap [] 0 0 (MQ below (roQ (some (.int r0))) [.ref a_p1, .int x2, .int x3].toArray s 0 0 noF) (F0 m 5 ls []) := by
    intro n
    induction n with
    | zero =>
      intro v3 v4 h
      exact nn_no h
    | succ n ih =>
      intro v3 v4 h ls hl
      rw [b_X2_fewest_5] at h
      refine lv_iload hx hb dX2_fewest_5 (lv_at hl 4 rfl) ?_
      refine lv_if_le (tgt := 62) hx hb dX2_fewest_7 (by decide) (fun c14 => ?_) (fun c14 => ?_)
      · have h := it_t c14 h
        refine lv_iload_n hx hb dX2_fewest_62 rfl (lv_at hl 3 rfl) ?_
        exact W.iret hx hb hr (fun t ht _ => ⟨congrArg (fun z => Outcome.returned (some (Value.int z))) (Option.some.inj h), ht⟩) (fun q hq => by cases hq) dX2_fewest_63
      · have h := it_f c14 h
        refine lv_iload hx hb dX2_fewest_10 (lv_at hl 4 rfl) ?_
        refine lv_iload_n hx hb dX2_fewest_12 rfl (lv_at hl 1 rfl) ?_
        refine lv_iconst (v := (-1 : Int32)) hx hb dX2_fewest_13 (by decide) ?_
        refine lv_ixor hx hb dX2_fewest_14 ?_
        refine lv_iand hx hb dX2_fewest_15 ?_
        refine lv_if_ne (tgt := 23) hx hb dX2_fewest_16 (by decide) (fun c15 => ?_) (fun c15 => ?_)
        · have h := it_f c15 h
          refine lv_iconst (v := (0 : Int32)) hx hb dX2_fewest_23 (by decide) ?_
          exact L_24 _ ih _ _ _ h _ (lv_sub hl [0, 1, 2, 3, 4] rfl)
        · have h := it_t c15 h
          refine lv_iconst (v := (1 : Int32)) hx hb dX2_fewest_19 (by decide) ?_
          refine lv_goto (tgt := 24) hx hb dX2_fewest_20 (by decide) ?_
          exact L_24 _ ih _ _ _ h _ (lv_sub hl [0, 1, 2, 3, 4] rfl)
  unfold f_X2_fewest at h
  refine lv_iload_n hx hb dX2_fewest_0 rfl (lv_at hl 1 rfl) ?_
  refine lv_istore_n (lv' := [(3, .int x2), (0, .ref a_p1), (1, .int x2), (2, .int x3)]) hx hb dX2_fewest_1 rfl hl (by decide) rfl (fun ls hl => ?_)
  refine lv_iload_n hx hb dX2_fewest_2 rfl (lv_at hl 2 rfl) ?_
  refine lv_istore (lv' := [(4, .int x2), (3, .int x2), (0, .ref a_p1), (1, .int x2), (2, .int x3)]) hx hb dX2_fewest_3 hl (by decide) rfl (fun ls hl => ?_)
  exact L_5 _ _ _ h _ (lv_sub hl [2, 3, 4, 1, 0] rfl)
def b_X2_halves_5 (p1_startCells : Int32) (p1_modeNow : Int32) (p1_masks : Ar) (p1_row_size : Int32) (p1_row_tests : Ar) (x3 : Int32) : Nat → Int32 → Int32 → Option (Int32)
  | 0, _, _ => none
  | n + 1, v3, v4 => (if (8 : Int32) ≤ v4 then some (v3) else bd1 (f_J6_bitCount_0f7a4 v3) (fun r2 => (if r2 < (2 : Int32) then some (v3) else bd1 (f_X2_firstHalf p1_row_size p1_row_tests v3) (fun r5 => nm (v3 &&& (r5 ^^^ (-1 : Int32))) (fun y7 => bd1 (f_X4_isFlippedBehind p1_startCells p1_modeNow p1_masks p1_row_size p1_row_tests r5 x3) (fun r8 => (if (b2i r8) = (0 : Int32) then bd1 (f_X4_isFlippedBehind p1_startCells p1_modeNow p1_masks p1_row_size p1_row_tests y7 x3) (fun r11 => (if (b2i r11) = (0 : Int32) then some (v3) else nm (v4 + (1 : Int32)) (fun y14 => b_X2_halves_5 p1_startCells p1_modeNow p1_masks p1_row_size p1_row_tests x3 n y7 y14))) else nm (v4 + (1 : Int32)) (fun y15 => b_X2_halves_5 p1_startCells p1_modeNow p1_masks p1_row_size p1_row_tests x3 n r5 y15))))))))
def f_X2_halves (p1_startCells : Int32) (p1_modeNow : Int32) (p1_masks : Ar) (p1_row_size : Int32) (p1_row_tests : Ar) (x2 : Int32) (x3 : Int32) : Option (Int32) := b_X2_halves_5 p1_startCells p1_modeNow p1_masks p1_row_size p1_row_tests x3 FU x2 (0 : Int32)
set_option maxHeartbeats 4000000 in
set_option maxRecDepth 100000 in
theorem c_X2_halves (l : Launch) (D : va_G) (cI cS : ClassId) (a_p1 : Nat) (a_p1_masks : Nat) (a_p1_row : Nat) (a_p1_row_tests : Nat) (p1_size : Int32) (p1_startCells : Int32) (p1_modeNow : Int32) (p1_masks : Ar) (p1_row_size : Int32) (p1_row_tests : Ar) (x2 : Int32) (x3 : Int32) (r0 : Int32) (h : f_X2_halves p1_startCells p1_modeNow p1_masks p1_row_size p1_row_tests x2 x3 = some r0) : roM l D cI cS yX2_halves cX2_halves 7 (some .int) 4 92 [.ref a_p1, .int x2, .int x3] [(a_p1, .inr (3, [.ref a_p1_masks, .ref a_p1_row, .int (p1_size), .int (p1_startCells), .int (p1_modeNow)])), (a_p1_masks, .inl (cI, 40, .inl (p1_masks))), (a_p1_row, .inr (2, [.ref a_p1_row_tests, .int (p1_row_size)])), (a_p1_row_tests, .inl (cI, 8, .inl (p1_row_tests)))] (some (.int r0)) := by
  refine Met.ofW (cc := cX2_halves) (maxL := 7) (ret := (some .int)) (by decide) rfl ?_
  intro p e s m args below meth c s₁ B hml hv
  obtain ⟨rfl, hP, hK⟩ := hv
  have hx := B.exec
  have hb := B.bytes
  have hr := B.returns
  have hts : ∀ w ∈ GW, w.before _ s = true := fun w hw => atoms_spec (ws := mws yX2_halves cX2_halves 7 (some .int)) B.pre w (List.mem_cons_of_mem _ hw)
  have hown : s.vm.findClass RX2 = some m.cls := findClass_of_methodNamed B.named
  have hlocks := B.notSynchronized
  have hl := lv_entry ([.ref a_p1, .int x2, .int x3]) (n := 7) (Nat.le_of_ble_eq_true rfl)
  rw [lg_entry_eq]
  generalize (lg_sl ([.ref a_p1, .int x2, .int x3]) ++ List.replicate (7 - (lg_sl ([.ref a_p1, .int x2, .int x3])).length) Slot.unset).toArray = ls at hl ⊢
  have hl : lv_has ls 7 [(0, .ref a_p1), (1, .int x2), (2, .int x3)] := hl
  have S : CallFix p m c cX2_halves 7 s _ GW RX2 := ⟨hx, hb, hml, hown, hts⟩
  have L_5 : ∀ (n : Nat) (v3 : Int32) (v4 : Int32), b_X2_halves_5 p1_startCells p1_modeNow p1_masks p1_row_size p1_row_tests x3 n v3 v4 = some r0 → ∀ (ls : Array Slot), lv_has ls 7 [(0, .ref a_p1), (2, .int x3), (3, .int v3), (4, .int v4)] → W p l e (headSpec (mws yX2_halves cX2_halves 7 (some .int)) { frames := 4, cells := 0, slots := 0, locals := 92 }).room s m [.ref a_p1, .int x2, .int x3].toArray below meth c s.heap [] 0 0 (MQ below (roQ (some (.int r0))) [.ref a_p1, .int x2, .int x3].toArray s 0 0 noF) (F0 m 5 ls []) := by
    intro n
    induction n with
    | zero =>
      intro v3 v4 h
      exact nn_no h
    | succ n ih =>
      intro v3 v4 h ls hl
      rw [b_X2_halves_5] at h
      refine lv_iload hx hb dX2_halves_5 (lv_at hl 3 rfl) ?_
      refine lv_bipush (v := (8 : Int32)) hx hb dX2_halves_7 (by decide) ?_
      refine lv_icmp_ge (tgt := 73) hx hb dX2_halves_9 (by decide) (fun c1 => ?_) (fun c1 => ?_)
      · have h := it_t c1 h
        refine lv_iload_n hx hb dX2_halves_73 rfl (lv_at hl 2 rfl) ?_
        exact W.iret hx hb hr (fun t ht _ => ⟨congrArg (fun z => Outcome.returned (some (Value.int z))) (Option.some.inj h), ht⟩) (fun q hq => by cases hq) dX2_halves_74
      · have h := it_f c1 h
        refine lv_iload_n hx hb dX2_halves_12 rfl (lv_at hl 2 rfl) ?_
        obtain ⟨r2, hc3, h⟩ := bd1_use h
        refine ro_S (As := [.int v3]) (rest := []) S (c_J6_bitCount_0f7a4 l D cI cS v3 r2 hc3) (cwS1 hts csJ6_bitCount_0f7a4 wmX2_32 rfl rfl ⟨(Nat.le_of_ble_eq_true rfl), (Nat.le_of_ble_eq_true rfl)⟩) hK hP [] rfl rfl hl.1 rfl (Nat.le_of_ble_eq_true rfl) dX2_halves_13 ⟨Nat.zero_le _, Nat.zero_le _⟩ rfl ?_
        refine lv_iconst (v := (2 : Int32)) hx hb dX2_halves_16 (by decide) ?_
        refine lv_icmp_lt (tgt := 73) hx hb dX2_halves_17 (by decide) (fun c4 => ?_) (fun c4 => ?_)
        · have h := it_t c4 h
          refine lv_iload_n hx hb dX2_halves_73 rfl (lv_at hl 2 rfl) ?_
          exact W.iret hx hb hr (fun t ht _ => ⟨congrArg (fun z => Outcome.returned (some (Value.int z))) (Option.some.inj h), ht⟩) (fun q hq => by cases hq) dX2_halves_74
        · have h := it_f c4 h
          refine lv_aload_n hx hb dX2_halves_20 rfl (lv_at hl 0 rfl) ?_
          refine gnX4_1 hx hb hts hown hK hP 0 rfl wnX2_9 dX2_halves_21 ?_
          refine lv_iload_n hx hb dX2_halves_24 rfl (lv_at hl 2 rfl) ?_
          obtain ⟨r5, hc6, h⟩ := bd1_use h
          refine ro_S (As := [.ref a_p1_row, .int v3]) (rest := []) S (c_X2_firstHalf l D cI cS a_p1_row a_p1_row_tests p1_row_size p1_row_tests v3 r5 hc6) (cwS1 hts csX2_firstHalf wmX2_37 rfl rfl ⟨(Nat.le_of_ble_eq_true rfl), (Nat.le_of_ble_eq_true rfl)⟩) hK hP [2, 3] rfl rfl hl.1 rfl (Nat.le_of_ble_eq_true rfl) dX2_halves_25 ⟨Nat.zero_le _, Nat.zero_le _⟩ rfl ?_
          refine lv_istore (lv' := [(5, .int r5), (0, .ref a_p1), (2, .int x3), (3, .int v3), (4, .int v4)]) hx hb dX2_halves_28 hl (by decide) rfl (fun ls hl => ?_)
          refine lv_iload_n hx hb dX2_halves_30 rfl (lv_at hl 3 rfl) ?_
          refine lv_iload hx hb dX2_halves_31 (lv_at hl 0 rfl) ?_
          refine lv_iconst (v := (-1 : Int32)) hx hb dX2_halves_33 (by decide) ?_
          refine lv_ixor hx hb dX2_halves_34 ?_
          refine lv_iand hx hb dX2_halves_35 ?_
          refine lv_topi (fun y7 ey7 => ?_)
          have h := nm_use h ey7
          refine lv_istore (lv' := [(6, .int y7), (5, .int r5), (0, .ref a_p1), (2, .int x3), (3, .int v3), (4, .int v4)]) hx hb dX2_halves_36 hl (by decide) rfl (fun ls hl => ?_)
          refine lv_aload_n hx hb dX2_halves_38 rfl (lv_at hl 2 rfl) ?_
          refine lv_iload hx hb dX2_halves_39 (lv_at hl 1 rfl) ?_
          refine lv_iload_n hx hb dX2_halves_41 rfl (lv_at hl 3 rfl) ?_
          obtain ⟨r8, hc9, h⟩ := bd1_use h
          refine ro_V (As := [.int r5, .int x3]) (rest := []) S (c_X4_isFlippedBehind l D cI cS a_p1 a_p1_masks a_p1_row a_p1_row_tests p1_size p1_startCells p1_modeNow p1_masks p1_row_size p1_row_tests r5 x3 r8 hc9) (cwV1 hts cvX4_isFlippedBehind wmX2_29 rfl rfl ⟨(Nat.le_of_ble_eq_true rfl), (Nat.le_of_ble_eq_true rfl)⟩) hK hP [0, 1, 2, 3] rfl 0 rfl rfl rfl rfl hl.1 rfl (Nat.le_of_ble_eq_true rfl) dX2_halves_42 ⟨Nat.zero_le _, Nat.zero_le _⟩ rfl ?_
          refine lv_if_eq (tgt := 54) hx hb dX2_halves_45 (by decide) (fun c10 => ?_) (fun c10 => ?_)
          · have h := it_t c10 h
            refine lv_aload_n hx hb dX2_halves_54 rfl (lv_at hl 2 rfl) ?_
            refine lv_iload hx hb dX2_halves_55 (lv_at hl 0 rfl) ?_
            refine lv_iload_n hx hb dX2_halves_57 rfl (lv_at hl 3 rfl) ?_
            obtain ⟨r11, hc12, h⟩ := bd1_use h
            refine ro_V (As := [.int y7, .int x3]) (rest := []) S (c_X4_isFlippedBehind l D cI cS a_p1 a_p1_masks a_p1_row a_p1_row_tests p1_size p1_startCells p1_modeNow p1_masks p1_row_size p1_row_tests y7 x3 r11 hc12) (cwV1 hts cvX4_isFlippedBehind wmX2_29 rfl rfl ⟨(Nat.le_of_ble_eq_true rfl), (Nat.le_of_ble_eq_true rfl)⟩) hK hP [0, 1, 2, 3] rfl 0 rfl rfl rfl rfl hl.1 rfl (Nat.le_of_ble_eq_true rfl) dX2_halves_58 ⟨Nat.zero_le _, Nat.zero_le _⟩ rfl ?_
            refine lv_if_eq (tgt := 73) hx hb dX2_halves_61 (by decide) (fun c13 => ?_) (fun c13 => ?_)
            · have h := it_t c13 h
              refine lv_iload_n hx hb dX2_halves_73 rfl (lv_at hl 4 rfl) ?_
              exact W.iret hx hb hr (fun t ht _ => ⟨congrArg (fun z => Outcome.returned (some (Value.int z))) (Option.some.inj h), ht⟩) (fun q hq => by cases hq) dX2_halves_74
            · have h := it_f c13 h
              refine lv_iload hx hb dX2_halves_64 (lv_at hl 0 rfl) ?_
              refine lv_istore_n (lv' := [(3, .int y7), (6, .int y7), (5, .int r5), (0, .ref a_p1), (2, .int x3), (4, .int v4)]) hx hb dX2_halves_66 rfl hl (by decide) rfl (fun ls hl => ?_)
              obtain ⟨y14, ey14⟩ : ∃ z : Int32, z = v4 + (1 : Int32) := ⟨_, rfl⟩
              have h := nm_use h ey14
              refine lv_iinc (v := y14) (lv' := [(4, .int y14), (3, .int y7), (6, .int y7), (5, .int r5), (0, .ref a_p1), (2, .int x3)]) hx hb dX2_halves_67 hl (k := 5) rfl (by rw [ey14]; rfl) (by decide) rfl (fun ls hl => ?_)
              refine lv_goto (tgt := 5) hx hb dX2_halves_70 (by decide) ?_
              exact ih _ _ h _ (lv_sub hl [4, 5, 1, 0] rfl)
          · have h := it_f c10 h
            refine lv_iload hx hb dX2_halves_48 (lv_at hl 1 rfl) ?_
            refine lv_istore_n (lv' := [(3, .int r5), (6, .int y7), (5, .int r5), (0, .ref a_p1), (2, .int x3), (4, .int v4)]) hx hb dX2_halves_50 rfl hl (by decide) rfl (fun ls hl => ?_)
            refine lv_goto (tgt := 67) hx hb dX2_halves_51 (by decide) ?_
            obtain ⟨y15, ey15⟩ : ∃ z : Int32, z = v4 + (1 : Int32) := ⟨_, rfl⟩
            have h := nm_use h ey15
            refine lv_iinc (v := y15) (lv' := [(4, .int y15), (3, .int r5), (6, .int y7), (5, .int r5), (0, .ref a_p1), (2, .int x3)]) hx hb dX2_halves_67 hl (k := 5) rfl (by rw [ey15]; rfl) (by decide) rfl (fun ls hl => ?_)
            refine lv_goto (tgt := 5) hx hb dX2_halves_70 (by decide) ?_
            exact ih _ _ h _ (lv_sub hl [4, 5, 1, 0] rfl)
  unfold f_X2_halves at h
  refine lv_iload_n hx hb dX2_halves_0 rfl (lv_at hl 1 rfl) ?_
  refine lv_istore_n (lv' := [(3, .int x2), (0, .ref a_p1), (1, .int x2), (2, .int x3)]) hx hb dX2_halves_1 rfl hl (by decide) rfl (fun ls hl => ?_)
  refine lv_iconst (v := (0 : Int32)) hx hb dX2_halves_2 (by decide) ?_
  refine lv_istore (lv' := [(4, .int (0 : Int32)), (3, .int x2), (0, .ref a_p1), (1, .int x2), (2, .int x3)]) hx hb dX2_halves_3 hl (by decide) rfl (fun ls hl => ?_)
  exact L_5 _ _ _ h _ (lv_sub hl [2, 4, 1, 0] rfl)
