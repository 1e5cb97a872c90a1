/-! ===== pictures: the law's calls ===== -/
section
set_option maxRecDepth 4000
def pL_appendText (v1 : Int32) (M : Mem) : Option (Except Nat Int32 × Mem) :=
    bndc (pX7_appendText v1 M) (fun o2 M1 =>
        chk (inB (0 : Int32) 1) <| nm (wO M1 (o2.toInt64)) fun M3 => xok <| some ((0 : Int32), M3))
     (fun e M1 => if e = 1 then (xok <| some ((1 : Int32), M1))
    else none)
theorem lL_appendText_0 {K : KT} {G : WT} (C : Cx K G "PermitParkLaw" cL_appendText 4 (some FieldType.int)) (hRm : K.2.2.2.1 = rmX 7 103 1) (Y : Cy0 K) (htab : K.2.2.2.2.2.2.2.2.2.exceptionTable.toList = tableOf [(0, 9, 12, 13)]) (h0 : W0 G) (v1 : Int32) (M : Mem) (h_0 : G.2.2.2.1 0 0 0) (h_2 : G.2.2.2.1 30 0 0) : Run K G 4 0 (6 * 0) (FinX K G voI 1 (6 * 1)) 0 [(0, .ref (G.1 0 0 0)), (1, .int v1), (2, .ref (G.1 30 0 0))] [] M (pL_appendText   v1 M) := by
  rw [pL_appendText]
  refine r_aload_n (pc := 0) C 2 rfl rfl dL_appendText_0 ?_
  refine r_iconst (pc := 1) C dL_appendText_1 kc_0 ?_
  refine r_aload_n (pc := 2) C 0 rfl rfl dL_appendText_2 ?_
  refine r_iload_n (pc := 3) C 1 rfl rfl dL_appendText_3 ?_
  refine r_xVI (pc := 4) C Y (Rx.of hRm rfl rfl rfl rfl) (okX7_appendText h0 Y.1 v1 M h_0) (Rc.of C rfl rfl h_0) mw_625 cvX7_appendText rfl rfl (Nat.le_of_ble_eq_true rfl) dL_appendText_4 (fun o2 M1 => ?_) (fun e M1 => ?_)
  refine r_i2l (pc := 7) C dL_appendText_7 ?_
  refine r_lastO (pc := 8) C h0 h_2 dL_appendText_8 (fun M3 => ?_)
  refine r_goto (pc := 9) C dL_appendText_9 (tgt := 15) rfl ?_
  refine r_iconst (pc := 15) C dL_appendText_15 kc_0 ?_
  refine r_wid (cs' := 1) (sl' := 6 * 1) (Nat.le_of_ble_eq_true rfl) (Nat.le_of_ble_eq_true rfl) (r_xok ?_)
  exact r_iret (pc := 16) C rfl dL_appendText_16
  refine t_ite (fun he => ?_) (fun _ => ?_)
  refine t_catch0 C he (name := "java/lang/IllegalStateException") rfl (htab.trans rfl)  rfl (by decide) mw_624 (by decide +kernel) rfl (hpc := 12) (fun q4 => ?_)
  refine r_astore_n (pc := 12) C [(3, .ref q4), (0, .ref (G.1 0 0 0)), (1, .int v1), (2, .ref (G.1 30 0 0))] dL_appendText_12 rfl (by decide) rfl ?_
  refine r_iconst (pc := 13) C dL_appendText_13 kc_1 ?_
  refine r_wid (cs' := 1) (sl' := 6 * 1) (Nat.le_of_ble_eq_true rfl) (Nat.le_of_ble_eq_true rfl) (r_xok ?_)
  exact r_iret (pc := 14) C rfl dL_appendText_14
  exact t_none
theorem okL_appendText {l : Launch} {G : WT} (h0 : W0 G) (hT : l.stackTraces = false) (v1 : Int32) (M : Mem) (h_0 : G.2.2.2.1 0 0 0) (h_2 : G.2.2.2.1 30 0 0) : OkH l G yL_appendText cL_appendText 4 (some FieldType.int) [(0, 9, 12, 13)] 7 103 1 [.ref (G.1 0 0 0), .int v1, .ref (G.1 30 0 0)] voI M (pL_appendText  v1 M) :=
  OkH.of "PermitParkLaw" rfl (by decide) (Nat.le_of_ble_eq_true rfl) (L := [(0, .ref (G.1 0 0 0)), (1, .int v1), (2, .ref (G.1 30 0 0))]) rfl hT (fun K _ hr Y htab C => lL_appendText_0 C hr Y htab h0 v1 M h_0 h_2)
def pL_truncateText (v1 : Int32) (M : Mem) : Option (Except Nat Int32 × Mem) :=
    bndc (pX7_truncateText v1 M) (fun o2 M1 =>
        chk (inB (0 : Int32) 1) <| nm (wO M1 (o2.toInt64)) fun M3 => xok <| some ((0 : Int32), M3))
     (fun e M1 => if e = 2 then (xok <| some ((1 : Int32), M1))
    else none)
theorem lL_truncateText_0 {K : KT} {G : WT} (C : Cx K G "PermitParkLaw" cL_truncateText 4 (some FieldType.int)) (hRm : K.2.2.2.1 = rmX 8 125 1) (Y : Cy0 K) (htab : K.2.2.2.2.2.2.2.2.2.exceptionTable.toList = tableOf [(0, 9, 12, 18)]) (h0 : W0 G) (v1 : Int32) (M : Mem) (h_0 : G.2.2.2.1 0 0 0) (h_2 : G.2.2.2.1 30 0 0) : Run K G 4 0 (6 * 0) (FinX K G voI 1 (6 * 1)) 0 [(0, .ref (G.1 0 0 0)), (1, .int v1), (2, .ref (G.1 30 0 0))] [] M (pL_truncateText   v1 M) := by
  rw [pL_truncateText]
  refine r_aload_n (pc := 0) C 2 rfl rfl dL_truncateText_0 ?_
  refine r_iconst (pc := 1) C dL_truncateText_1 kc_0 ?_
  refine r_aload_n (pc := 2) C 0 rfl rfl dL_truncateText_2 ?_
  refine r_iload_n (pc := 3) C 1 rfl rfl dL_truncateText_3 ?_
  refine r_xVI (pc := 4) C Y (Rx.of hRm rfl rfl rfl rfl) (okX7_truncateText h0 Y.1 v1 M h_0) (Rc.of C rfl rfl h_0) mw_704 cvX7_truncateText rfl rfl (Nat.le_of_ble_eq_true rfl) dL_truncateText_4 (fun o2 M1 => ?_) (fun e M1 => ?_)
  refine r_i2l (pc := 7) C dL_truncateText_7 ?_
  refine r_lastO (pc := 8) C h0 h_2 dL_truncateText_8 (fun M3 => ?_)
  refine r_goto (pc := 9) C dL_truncateText_9 (tgt := 15) rfl ?_
  refine r_iconst (pc := 15) C dL_truncateText_15 kc_0 ?_
  refine r_wid (cs' := 1) (sl' := 6 * 1) (Nat.le_of_ble_eq_true rfl) (Nat.le_of_ble_eq_true rfl) (r_xok ?_)
  exact r_iret (pc := 16) C rfl dL_truncateText_16
  refine t_ite (fun he => ?_) (fun _ => ?_)
  refine t_catch0 C he (name := "java/lang/IllegalArgumentException") rfl (htab.trans rfl)  rfl (by decide) mw_703 (by decide +kernel) rfl (hpc := 12) (fun q4 => ?_)
  refine r_astore_n (pc := 12) C [(3, .ref q4), (0, .ref (G.1 0 0 0)), (1, .int v1), (2, .ref (G.1 30 0 0))] dL_truncateText_12 rfl (by decide) rfl ?_
  refine r_iconst (pc := 13) C dL_truncateText_13 kc_1 ?_
  refine r_wid (cs' := 1) (sl' := 6 * 1) (Nat.le_of_ble_eq_true rfl) (Nat.le_of_ble_eq_true rfl) (r_xok ?_)
  exact r_iret (pc := 14) C rfl dL_truncateText_14
  exact t_none
theorem okL_truncateText {l : Launch} {G : WT} (h0 : W0 G) (hT : l.stackTraces = false) (v1 : Int32) (M : Mem) (h_0 : G.2.2.2.1 0 0 0) (h_2 : G.2.2.2.1 30 0 0) : OkH l G yL_truncateText cL_truncateText 4 (some FieldType.int) [(0, 9, 12, 18)] 8 125 1 [.ref (G.1 0 0 0), .int v1, .ref (G.1 30 0 0)] voI M (pL_truncateText  v1 M) :=
  OkH.of "PermitParkLaw" rfl (by decide) (Nat.le_of_ble_eq_true rfl) (L := [(0, .ref (G.1 0 0 0)), (1, .int v1), (2, .ref (G.1 30 0 0))]) rfl hT (fun K _ hr Y htab C => lL_truncateText_0 C hr Y htab h0 v1 M h_0 h_2)
def pL_addThread (v1 : Int32) (v2 : Int32) (v3 : Int32) (M : Mem) : Option (Except Nat Int32 × Mem) :=
    bndc (pX7_addThread v1 v2 v3 M) (fun o2 M1 =>
        chk (inB (0 : Int32) 1) <| nm (wO M1 (o2.toInt64)) fun M3 => xok <| some ((0 : Int32), M3))
     (fun e M1 => if e = 2 then (xok <| some ((1 : Int32), M1))
    else if e = 1 then (xok <| some ((2 : Int32), M1))
    else none)
theorem lL_addThread_0 {K : KT} {G : WT} (C : Cx K G "PermitParkLaw" cL_addThread 6 (some FieldType.int)) (hRm : K.2.2.2.1 = rmX 9 148 4) (Y : Cy0 K) (htab : K.2.2.2.2.2.2.2.2.2.exceptionTable.toList = tableOf [(0, 12, 15, 18), (0, 12, 19, 13)]) (h0 : W0 G) (v1 : Int32) (v2 : Int32) (v3 : Int32) (M : Mem) (h_0 : G.2.2.2.1 0 0 0) (h_4 : G.2.2.2.1 30 0 0) : Run K G 6 0 (6 * 0) (FinX K G voI 4 (6 * 4)) 0 [(0, .ref (G.1 0 0 0)), (1, .int v1), (2, .int v2), (3, .int v3), (4, .ref (G.1 30 0 0))] [] M (pL_addThread   v1 v2 v3 M) := by
  rw [pL_addThread]
  refine r_aload (pc := 0) C 4 rfl dL_addThread_0 ?_
  refine r_iconst (pc := 2) C dL_addThread_2 kc_0 ?_
  refine r_aload_n (pc := 3) C 0 rfl rfl dL_addThread_3 ?_
  refine r_iload_n (pc := 4) C 1 rfl rfl dL_addThread_4 ?_
  refine r_iload_n (pc := 5) C 2 rfl rfl dL_addThread_5 ?_
  refine r_iload_n (pc := 6) C 3 rfl rfl dL_addThread_6 ?_
  refine r_xVI (pc := 7) C Y (Rx.of hRm rfl rfl rfl rfl) (okX7_addThread h0 Y.1 v1 v2 v3 M h_0) (Rc.of C rfl rfl h_0) mw_730 cvX7_addThread rfl rfl (Nat.le_of_ble_eq_true rfl) dL_addThread_7 (fun o2 M1 => ?_) (fun e M1 => ?_)
  refine r_i2l (pc := 10) C dL_addThread_10 ?_
  refine r_lastO (pc := 11) C h0 h_4 dL_addThread_11 (fun M3 => ?_)
  refine r_goto (pc := 12) C dL_addThread_12 (tgt := 23) rfl ?_
  refine r_iconst (pc := 23) C dL_addThread_23 kc_0 ?_
  refine r_wid (cs' := 4) (sl' := 6 * 4) (Nat.le_of_ble_eq_true rfl) (Nat.le_of_ble_eq_true rfl) (r_xok ?_)
  exact r_iret (pc := 24) C rfl dL_addThread_24
  refine t_ite (fun he => ?_) (fun _ => ?_)
  refine t_catch0 C he (name := "java/lang/IllegalArgumentException") rfl (htab.trans rfl)  rfl (by decide) mw_703 (by decide +kernel) rfl (hpc := 15) (fun q4 => ?_)
  refine r_astore (pc := 15) C [(5, .ref q4), (0, .ref (G.1 0 0 0)), (1, .int v1), (2, .int v2), (3, .int v3), (4, .ref (G.1 30 0 0))] dL_addThread_15 (by decide) rfl ?_
  refine r_iconst (pc := 17) C dL_addThread_17 kc_1 ?_
  refine r_wid (cs' := 4) (sl' := 6 * 4) (Nat.le_of_ble_eq_true rfl) (Nat.le_of_ble_eq_true rfl) (r_xok ?_)
  exact r_iret (pc := 18) C rfl dL_addThread_18
  refine t_ite (fun he => ?_) (fun _ => ?_)
  refine t_catch1 C he (name := "java/lang/IllegalStateException") rfl (htab.trans rfl) mw_703 (by decide) (by decide +kernel) rfl (by decide) mw_624 (by decide +kernel) rfl (hpc := 19) (fun q5 => ?_)
  refine r_astore (pc := 19) C [(5, .ref q5), (0, .ref (G.1 0 0 0)), (1, .int v1), (2, .int v2), (3, .int v3), (4, .ref (G.1 30 0 0))] dL_addThread_19 (by decide) rfl ?_
  refine r_iconst (pc := 21) C dL_addThread_21 kc_2 ?_
  refine r_wid (cs' := 4) (sl' := 6 * 4) (Nat.le_of_ble_eq_true rfl) (Nat.le_of_ble_eq_true rfl) (r_xok ?_)
  exact r_iret (pc := 22) C rfl dL_addThread_22
  exact t_none
theorem okL_addThread {l : Launch} {G : WT} (h0 : W0 G) (hT : l.stackTraces = false) (v1 : Int32) (v2 : Int32) (v3 : Int32) (M : Mem) (h_0 : G.2.2.2.1 0 0 0) (h_4 : G.2.2.2.1 30 0 0) : OkH l G yL_addThread cL_addThread 6 (some FieldType.int) [(0, 12, 15, 18), (0, 12, 19, 13)] 9 148 4 [.ref (G.1 0 0 0), .int v1, .int v2, .int v3, .ref (G.1 30 0 0)] voI M (pL_addThread  v1 v2 v3 M) :=
  OkH.of "PermitParkLaw" rfl (by decide) (Nat.le_of_ble_eq_true rfl) (L := [(0, .ref (G.1 0 0 0)), (1, .int v1), (2, .int v2), (3, .int v3), (4, .ref (G.1 30 0 0))]) rfl hT (fun K _ hr Y htab C => lL_addThread_0 C hr Y htab h0 v1 v2 v3 M h_0 h_4)
def pL_addInstruction (v1 : Int32) (v2 : Int32) (v3 : Int32) (M : Mem) : Option (Except Nat Int32 × Mem) :=
    bndc (pX7_addInstruction v1 v2 v3 M) (fun o2 M1 =>
        chk (inB (0 : Int32) 1) <| nm (wO M1 (o2.toInt64)) fun M3 => xok <| some ((0 : Int32), M3))
     (fun e M1 => if e = 3 then (xok <| some ((1 : Int32), M1))
    else if e = 2 then (xok <| some ((2 : Int32), M1))
    else if e = 1 then (xok <| some ((3 : Int32), M1))
    else none)
theorem lL_addInstruction_0 {K : KT} {G : WT} (C : Cx K G "PermitParkLaw" cL_addInstruction 6 (some FieldType.int)) (hRm : K.2.2.2.1 = rmX 9 149 4) (Y : Cy0 K) (htab : K.2.2.2.2.2.2.2.2.2.exceptionTable.toList = tableOf [(0, 12, 15, 27), (0, 12, 19, 18), (0, 12, 23, 13)]) (h0 : W0 G) (v1 : Int32) (v2 : Int32) (v3 : Int32) (M : Mem) (h_0 : G.2.2.2.1 0 0 0) (h_4 : G.2.2.2.1 30 0 0) : Run K G 6 0 (6 * 0) (FinX K G voI 4 (6 * 4)) 0 [(0, .ref (G.1 0 0 0)), (1, .int v1), (2, .int v2), (3, .int v3), (4, .ref (G.1 30 0 0))] [] M (pL_addInstruction   v1 v2 v3 M) := by
  rw [pL_addInstruction]
  refine r_aload (pc := 0) C 4 rfl dL_addInstruction_0 ?_
  refine r_iconst (pc := 2) C dL_addInstruction_2 kc_0 ?_
  refine r_aload_n (pc := 3) C 0 rfl rfl dL_addInstruction_3 ?_
  refine r_iload_n (pc := 4) C 1 rfl rfl dL_addInstruction_4 ?_
  refine r_iload_n (pc := 5) C 2 rfl rfl dL_addInstruction_5 ?_
  refine r_iload_n (pc := 6) C 3 rfl rfl dL_addInstruction_6 ?_
  refine r_xVI (pc := 7) C Y (Rx.of hRm rfl rfl rfl rfl) (okX7_addInstruction h0 Y.1 v1 v2 v3 M h_0) (Rc.of C rfl rfl h_0) mw_746 cvX7_addInstruction rfl rfl (Nat.le_of_ble_eq_true rfl) dL_addInstruction_7 (fun o2 M1 => ?_) (fun e M1 => ?_)
  refine r_i2l (pc := 10) C dL_addInstruction_10 ?_
  refine r_lastO (pc := 11) C h0 h_4 dL_addInstruction_11 (fun M3 => ?_)
  refine r_goto (pc := 12) C dL_addInstruction_12 (tgt := 27) rfl ?_
  refine r_iconst (pc := 27) C dL_addInstruction_27 kc_0 ?_
  refine r_wid (cs' := 4) (sl' := 6 * 4) (Nat.le_of_ble_eq_true rfl) (Nat.le_of_ble_eq_true rfl) (r_xok ?_)
  exact r_iret (pc := 28) C rfl dL_addInstruction_28
  refine t_ite (fun he => ?_) (fun _ => ?_)
  refine t_catch0 C he (name := "java/lang/IndexOutOfBoundsException") rfl (htab.trans rfl)  rfl (by decide) mw_745 (by decide +kernel) rfl (hpc := 15) (fun q4 => ?_)
  refine r_astore (pc := 15) C [(5, .ref q4), (0, .ref (G.1 0 0 0)), (1, .int v1), (2, .int v2), (3, .int v3), (4, .ref (G.1 30 0 0))] dL_addInstruction_15 (by decide) rfl ?_
  refine r_iconst (pc := 17) C dL_addInstruction_17 kc_1 ?_
  refine r_wid (cs' := 4) (sl' := 6 * 4) (Nat.le_of_ble_eq_true rfl) (Nat.le_of_ble_eq_true rfl) (r_xok ?_)
  exact r_iret (pc := 18) C rfl dL_addInstruction_18
  refine t_ite (fun he => ?_) (fun _ => ?_)
  refine t_catch1 C he (name := "java/lang/IllegalArgumentException") rfl (htab.trans rfl) mw_745 (by decide) (by decide +kernel) rfl (by decide) mw_703 (by decide +kernel) rfl (hpc := 19) (fun q5 => ?_)
  refine r_astore (pc := 19) C [(5, .ref q5), (0, .ref (G.1 0 0 0)), (1, .int v1), (2, .int v2), (3, .int v3), (4, .ref (G.1 30 0 0))] dL_addInstruction_19 (by decide) rfl ?_
  refine r_iconst (pc := 21) C dL_addInstruction_21 kc_2 ?_
  refine r_wid (cs' := 4) (sl' := 6 * 4) (Nat.le_of_ble_eq_true rfl) (Nat.le_of_ble_eq_true rfl) (r_xok ?_)
  exact r_iret (pc := 22) C rfl dL_addInstruction_22
  refine t_ite (fun he => ?_) (fun _ => ?_)
  refine t_catch2 C he (name := "java/lang/IllegalStateException") rfl (htab.trans rfl) mw_745 (by decide) (by decide +kernel) mw_703 (by decide) (by decide +kernel) rfl (by decide) mw_624 (by decide +kernel) rfl (hpc := 23) (fun q6 => ?_)
  refine r_astore (pc := 23) C [(5, .ref q6), (0, .ref (G.1 0 0 0)), (1, .int v1), (2, .int v2), (3, .int v3), (4, .ref (G.1 30 0 0))] dL_addInstruction_23 (by decide) rfl ?_
  refine r_iconst (pc := 25) C dL_addInstruction_25 kc_3 ?_
  refine r_wid (cs' := 4) (sl' := 6 * 4) (Nat.le_of_ble_eq_true rfl) (Nat.le_of_ble_eq_true rfl) (r_xok ?_)
  exact r_iret (pc := 26) C rfl dL_addInstruction_26
  exact t_none
theorem okL_addInstruction {l : Launch} {G : WT} (h0 : W0 G) (hT : l.stackTraces = false) (v1 : Int32) (v2 : Int32) (v3 : Int32) (M : Mem) (h_0 : G.2.2.2.1 0 0 0) (h_4 : G.2.2.2.1 30 0 0) : OkH l G yL_addInstruction cL_addInstruction 6 (some FieldType.int) [(0, 12, 15, 27), (0, 12, 19, 18), (0, 12, 23, 13)] 9 149 4 [.ref (G.1 0 0 0), .int v1, .int v2, .int v3, .ref (G.1 30 0 0)] voI M (pL_addInstruction  v1 v2 v3 M) :=
  OkH.of "PermitParkLaw" rfl (by decide) (Nat.le_of_ble_eq_true rfl) (L := [(0, .ref (G.1 0 0 0)), (1, .int v1), (2, .int v2), (3, .int v3), (4, .ref (G.1 30 0 0))]) rfl hT (fun K _ hr Y htab C => lL_addInstruction_0 C hr Y htab h0 v1 v2 v3 M h_0 h_4)
def pL_setBase (v1 : Int32) (v2 : Int32) (M : Mem) : Option (Except Nat Int32 × Mem) :=
    bndc (pX7_setBase v1 v2 M) (fun o2 M1 =>
        chk (inB (0 : Int32) 1) <| nm (wO M1 (o2.toInt64)) fun M3 => xok <| some ((0 : Int32), M3))
     (fun e M1 => if e = 3 then (xok <| some ((1 : Int32), M1))
    else if e = 2 then (xok <| some ((2 : Int32), M1))
    else none)
theorem lL_setBase_0 {K : KT} {G : WT} (C : Cx K G "PermitParkLaw" cL_setBase 5 (some FieldType.int)) (hRm : K.2.2.2.1 = rmX 9 147 2) (Y : Cy0 K) (htab : K.2.2.2.2.2.2.2.2.2.exceptionTable.toList = tableOf [(0, 10, 13, 27), (0, 10, 17, 18)]) (h0 : W0 G) (v1 : Int32) (v2 : Int32) (M : Mem) (h_0 : G.2.2.2.1 0 0 0) (h_3 : G.2.2.2.1 30 0 0) : Run K G 5 0 (6 * 0) (FinX K G voI 2 (6 * 2)) 0 [(0, .ref (G.1 0 0 0)), (1, .int v1), (2, .int v2), (3, .ref (G.1 30 0 0))] [] M (pL_setBase   v1 v2 M) := by
  rw [pL_setBase]
  refine r_aload_n (pc := 0) C 3 rfl rfl dL_setBase_0 ?_
  refine r_iconst (pc := 1) C dL_setBase_1 kc_0 ?_
  refine r_aload_n (pc := 2) C 0 rfl rfl dL_setBase_2 ?_
  refine r_iload_n (pc := 3) C 1 rfl rfl dL_setBase_3 ?_
  refine r_iload_n (pc := 4) C 2 rfl rfl dL_setBase_4 ?_
  refine r_xVI (pc := 5) C Y (Rx.of hRm rfl rfl rfl rfl) (okX7_setBase h0 Y.1 v1 v2 M h_0) (Rc.of C rfl rfl h_0) mw_778 cvX7_setBase rfl rfl (Nat.le_of_ble_eq_true rfl) dL_setBase_5 (fun o2 M1 => ?_) (fun e M1 => ?_)
  refine r_i2l (pc := 8) C dL_setBase_8 ?_
  refine r_lastO (pc := 9) C h0 h_3 dL_setBase_9 (fun M3 => ?_)
  refine r_goto (pc := 10) C dL_setBase_10 (tgt := 21) rfl ?_
  refine r_iconst (pc := 21) C dL_setBase_21 kc_0 ?_
  refine r_wid (cs' := 2) (sl' := 6 * 2) (Nat.le_of_ble_eq_true rfl) (Nat.le_of_ble_eq_true rfl) (r_xok ?_)
  exact r_iret (pc := 22) C rfl dL_setBase_22
  refine t_ite (fun he => ?_) (fun _ => ?_)
  refine t_catch0 C he (name := "java/lang/IndexOutOfBoundsException") rfl (htab.trans rfl)  rfl (by decide) mw_745 (by decide +kernel) rfl (hpc := 13) (fun q4 => ?_)
  refine r_astore (pc := 13) C [(4, .ref q4), (0, .ref (G.1 0 0 0)), (1, .int v1), (2, .int v2), (3, .ref (G.1 30 0 0))] dL_setBase_13 (by decide) rfl ?_
  refine r_iconst (pc := 15) C dL_setBase_15 kc_1 ?_
  refine r_wid (cs' := 2) (sl' := 6 * 2) (Nat.le_of_ble_eq_true rfl) (Nat.le_of_ble_eq_true rfl) (r_xok ?_)
  exact r_iret (pc := 16) C rfl dL_setBase_16
  refine t_ite (fun he => ?_) (fun _ => ?_)
  refine t_catch1 C he (name := "java/lang/IllegalArgumentException") rfl (htab.trans rfl) mw_745 (by decide) (by decide +kernel) rfl (by decide) mw_703 (by decide +kernel) rfl (hpc := 17) (fun q5 => ?_)
  refine r_astore (pc := 17) C [(4, .ref q5), (0, .ref (G.1 0 0 0)), (1, .int v1), (2, .int v2), (3, .ref (G.1 30 0 0))] dL_setBase_17 (by decide) rfl ?_
  refine r_iconst (pc := 19) C dL_setBase_19 kc_2 ?_
  refine r_wid (cs' := 2) (sl' := 6 * 2) (Nat.le_of_ble_eq_true rfl) (Nat.le_of_ble_eq_true rfl) (r_xok ?_)
  exact r_iret (pc := 20) C rfl dL_setBase_20
  exact t_none
theorem okL_setBase {l : Launch} {G : WT} (h0 : W0 G) (hT : l.stackTraces = false) (v1 : Int32) (v2 : Int32) (M : Mem) (h_0 : G.2.2.2.1 0 0 0) (h_3 : G.2.2.2.1 30 0 0) : OkH l G yL_setBase cL_setBase 5 (some FieldType.int) [(0, 10, 13, 27), (0, 10, 17, 18)] 9 147 2 [.ref (G.1 0 0 0), .int v1, .int v2, .ref (G.1 30 0 0)] voI M (pL_setBase  v1 v2 M) :=
  OkH.of "PermitParkLaw" rfl (by decide) (Nat.le_of_ble_eq_true rfl) (L := [(0, .ref (G.1 0 0 0)), (1, .int v1), (2, .int v2), (3, .ref (G.1 30 0 0))]) rfl hT (fun K _ hr Y htab C => lL_setBase_0 C hr Y htab h0 v1 v2 M h_0 h_3)
def pL_set (v1 : Int32) (v2 : Int32) (M : Mem) : Option (Except Nat Int32 × Mem) :=
    bndc (pX7_set v1 v2 M) (fun o2 M1 =>
        chk (inB (0 : Int32) 1) <| nm (wO M1 (o2.toInt64)) fun M3 => xok <| some ((0 : Int32), M3))
     (fun e M1 => if e = 2 then (xok <| some ((1 : Int32), M1))
    else none)
theorem lL_set_0 {K : KT} {G : WT} (C : Cx K G "PermitParkLaw" cL_set 5 (some FieldType.int)) (hRm : K.2.2.2.1 = rmX 8 127 2) (Y : Cy0 K) (htab : K.2.2.2.2.2.2.2.2.2.exceptionTable.toList = tableOf [(0, 10, 13, 18)]) (h0 : W0 G) (v1 : Int32) (v2 : Int32) (M : Mem) (h_0 : G.2.2.2.1 0 0 0) (h_3 : G.2.2.2.1 30 0 0) : Run K G 5 0 (6 * 0) (FinX K G voI 2 (6 * 2)) 0 [(0, .ref (G.1 0 0 0)), (1, .int v1), (2, .int v2), (3, .ref (G.1 30 0 0))] [] M (pL_set   v1 v2 M) := by
  rw [pL_set]
  refine r_aload_n (pc := 0) C 3 rfl rfl dL_set_0 ?_
  refine r_iconst (pc := 1) C dL_set_1 kc_0 ?_
  refine r_aload_n (pc := 2) C 0 rfl rfl dL_set_2 ?_
  refine r_iload_n (pc := 3) C 1 rfl rfl dL_set_3 ?_
  refine r_iload_n (pc := 4) C 2 rfl rfl dL_set_4 ?_
  refine r_xVI (pc := 5) C Y (Rx.of hRm rfl rfl rfl rfl) (okX7_set h0 Y.1 v1 v2 M h_0) (Rc.of C rfl rfl h_0) mw_789 cvX7_set rfl rfl (Nat.le_of_ble_eq_true rfl) dL_set_5 (fun o2 M1 => ?_) (fun e M1 => ?_)
  refine r_i2l (pc := 8) C dL_set_8 ?_
  refine r_lastO (pc := 9) C h0 h_3 dL_set_9 (fun M3 => ?_)
  refine r_goto (pc := 10) C dL_set_10 (tgt := 17) rfl ?_
  refine r_iconst (pc := 17) C dL_set_17 kc_0 ?_
  refine r_wid (cs' := 2) (sl' := 6 * 2) (Nat.le_of_ble_eq_true rfl) (Nat.le_of_ble_eq_true rfl) (r_xok ?_)
  exact r_iret (pc := 18) C rfl dL_set_18
  refine t_ite (fun he => ?_) (fun _ => ?_)
  refine t_catch0 C he (name := "java/lang/IllegalArgumentException") rfl (htab.trans rfl)  rfl (by decide) mw_703 (by decide +kernel) rfl (hpc := 13) (fun q4 => ?_)
  refine r_astore (pc := 13) C [(4, .ref q4), (0, .ref (G.1 0 0 0)), (1, .int v1), (2, .int v2), (3, .ref (G.1 30 0 0))] dL_set_13 (by decide) rfl ?_
  refine r_iconst (pc := 15) C dL_set_15 kc_1 ?_
  refine r_wid (cs' := 2) (sl' := 6 * 2) (Nat.le_of_ble_eq_true rfl) (Nat.le_of_ble_eq_true rfl) (r_xok ?_)
  exact r_iret (pc := 16) C rfl dL_set_16
  exact t_none
theorem okL_set {l : Launch} {G : WT} (h0 : W0 G) (hT : l.stackTraces = false) (v1 : Int32) (v2 : Int32) (M : Mem) (h_0 : G.2.2.2.1 0 0 0) (h_3 : G.2.2.2.1 30 0 0) : OkH l G yL_set cL_set 5 (some FieldType.int) [(0, 10, 13, 18)] 8 127 2 [.ref (G.1 0 0 0), .int v1, .int v2, .ref (G.1 30 0 0)] voI M (pL_set  v1 v2 M) :=
  OkH.of "PermitParkLaw" rfl (by decide) (Nat.le_of_ble_eq_true rfl) (L := [(0, .ref (G.1 0 0 0)), (1, .int v1), (2, .int v2), (3, .ref (G.1 30 0 0))]) rfl hT (fun K _ hr Y htab C => lL_set_0 C hr Y htab h0 v1 v2 M h_0 h_3)
def pL_seed (v1 : Int32) (M : Mem) : Option (Except Nat Int32 × Mem) :=
    bndc (pX7_seed v1 M) (fun o2 M1 =>
        xok <| some ((0 : Int32), M1))
     (fun e M1 => if e = 2 then (xok <| some ((1 : Int32), M1))
    else none)
theorem lL_seed_0 {K : KT} {G : WT} (C : Cx K G "PermitParkLaw" cL_seed 3 (some FieldType.int)) (hRm : K.2.2.2.1 = rmX 8 125 1) (Y : Cy0 K) (htab : K.2.2.2.2.2.2.2.2.2.exceptionTable.toList = tableOf [(0, 5, 8, 18)]) (h0 : W0 G) (v1 : Int32) (M : Mem) (h_0 : G.2.2.2.1 0 0 0) : Run K G 3 0 (6 * 0) (FinX K G voI 1 (6 * 1)) 0 [(0, .ref (G.1 0 0 0)), (1, .int v1)] [] M (pL_seed   v1 M) := by
  rw [pL_seed]
  refine r_aload_n (pc := 0) C 0 rfl rfl dL_seed_0 ?_
  refine r_iload_n (pc := 1) C 1 rfl rfl dL_seed_1 ?_
  refine r_xVV (pc := 2) C Y (Rx.of hRm rfl rfl rfl rfl) (okX7_seed h0 Y.1 v1 M h_0) (Rc.of C rfl rfl h_0) mw_798 cvX7_seed rfl rfl (Nat.le_of_ble_eq_true rfl) dL_seed_2 (fun o2 M1 => ?_) (fun e M1 => ?_)
  refine r_goto (pc := 5) C dL_seed_5 (tgt := 11) rfl ?_
  refine r_iconst (pc := 11) C dL_seed_11 kc_0 ?_
  refine r_wid (cs' := 1) (sl' := 6 * 1) (Nat.le_of_ble_eq_true rfl) (Nat.le_of_ble_eq_true rfl) (r_xok ?_)
  exact r_iret (pc := 12) C rfl dL_seed_12
  refine t_ite (fun he => ?_) (fun _ => ?_)
  refine t_catch0 C he (name := "java/lang/IllegalArgumentException") rfl (htab.trans rfl)  rfl (by decide) mw_703 (by decide +kernel) rfl (hpc := 8) (fun q3 => ?_)
  refine r_astore_n (pc := 8) C [(2, .ref q3), (0, .ref (G.1 0 0 0)), (1, .int v1)] dL_seed_8 rfl (by decide) rfl ?_
  refine r_iconst (pc := 9) C dL_seed_9 kc_1 ?_
  refine r_wid (cs' := 1) (sl' := 6 * 1) (Nat.le_of_ble_eq_true rfl) (Nat.le_of_ble_eq_true rfl) (r_xok ?_)
  exact r_iret (pc := 10) C rfl dL_seed_10
  exact t_none
theorem okL_seed {l : Launch} {G : WT} (h0 : W0 G) (hT : l.stackTraces = false) (v1 : Int32) (M : Mem) (h_0 : G.2.2.2.1 0 0 0) : OkH l G yL_seed cL_seed 3 (some FieldType.int) [(0, 5, 8, 18)] 8 125 1 [.ref (G.1 0 0 0), .int v1] voI M (pL_seed  v1 M) :=
  OkH.of "PermitParkLaw" rfl (by decide) (Nat.le_of_ble_eq_true rfl) (L := [(0, .ref (G.1 0 0 0)), (1, .int v1)]) rfl hT (fun K _ hr Y htab C => lL_seed_0 C hr Y htab h0 v1 M h_0)
def pL_setFlag (v1 : Int32) (v2 : Int32) (M : Mem) : Option (Except Nat Int32 × Mem) :=
    bndc (pX7_setFlag v1 v2 M) (fun o2 M1 =>
        if o2 = 0 then (chk (inB (0 : Int32) 1) <| nm (wO M1 (0 : Int64)) fun M3 => xok <| some ((0 : Int32), M3))
        else chk (inB (0 : Int32) 1) <| nm (wO M1 (1 : Int64)) fun M4 => xok <| some ((0 : Int32), M4))
     (fun e M1 => if e = 3 then (xok <| some ((1 : Int32), M1))
    else none)
theorem lL_setFlag_0 {K : KT} {G : WT} (C : Cx K G "PermitParkLaw" cL_setFlag 5 (some FieldType.int)) (hRm : K.2.2.2.1 = rmX 8 126 1) (Y : Cy0 K) (htab : K.2.2.2.2.2.2.2.2.2.exceptionTable.toList = tableOf [(0, 17, 20, 27)]) (h0 : W0 G) (v1 : Int32) (v2 : Int32) (M : Mem) (h_0 : G.2.2.2.1 0 0 0) (h_3 : G.2.2.2.1 30 0 0) : Run K G 5 0 (6 * 0) (FinX K G voI 1 (6 * 1)) 0 [(0, .ref (G.1 0 0 0)), (1, .int v1), (2, .int v2), (3, .ref (G.1 30 0 0))] [] M (pL_setFlag   v1 v2 M) := by
  rw [pL_setFlag]
  refine r_aload_n (pc := 0) C 3 rfl rfl dL_setFlag_0 ?_
  refine r_iconst (pc := 1) C dL_setFlag_1 kc_0 ?_
  refine r_aload_n (pc := 2) C 0 rfl rfl dL_setFlag_2 ?_
  refine r_iload_n (pc := 3) C 1 rfl rfl dL_setFlag_3 ?_
  refine r_iload_n (pc := 4) C 2 rfl rfl dL_setFlag_4 ?_
  refine r_xVI (pc := 5) C Y (Rx.of hRm rfl rfl rfl rfl) (okX7_setFlag h0 Y.1 v1 v2 M h_0) (Rc.of C rfl rfl h_0) mw_806 cvX7_setFlag rfl rfl (Nat.le_of_ble_eq_true rfl) dL_setFlag_5 (fun o2 M1 => ?_) (fun e M1 => ?_)
  refine r_if_eq (pc := 8) C dL_setFlag_8 (tgt := 15) rfl ?_ ?_
  refine r_lconst (pc := 15) C dL_setFlag_15 (rfl : _ = (0 : Int64)) ?_
  refine r_lastO (pc := 16) C h0 h_3 dL_setFlag_16 (fun M3 => ?_)
  refine r_goto (pc := 17) C dL_setFlag_17 (tgt := 24) rfl ?_
  refine r_iconst (pc := 24) C dL_setFlag_24 kc_0 ?_
  refine r_wid (cs' := 1) (sl' := 6 * 1) (Nat.le_of_ble_eq_true rfl) (Nat.le_of_ble_eq_true rfl) (r_xok ?_)
  exact r_iret (pc := 25) C rfl dL_setFlag_25
  refine r_lconst (pc := 11) C dL_setFlag_11 (rfl : _ = (1 : Int64)) ?_
  refine r_goto (pc := 12) C dL_setFlag_12 (tgt := 16) rfl ?_
  refine r_lastO (pc := 16) C h0 h_3 dL_setFlag_16 (fun M4 => ?_)
  refine r_goto (pc := 17) C dL_setFlag_17 (tgt := 24) rfl ?_
  refine r_iconst (pc := 24) C dL_setFlag_24 kc_0 ?_
  refine r_wid (cs' := 1) (sl' := 6 * 1) (Nat.le_of_ble_eq_true rfl) (Nat.le_of_ble_eq_true rfl) (r_xok ?_)
  exact r_iret (pc := 25) C rfl dL_setFlag_25
  refine t_ite (fun he => ?_) (fun _ => ?_)
  refine t_catch0 C he (name := "java/lang/IndexOutOfBoundsException") rfl (htab.trans rfl)  rfl (by decide) mw_745 (by decide +kernel) rfl (hpc := 20) (fun q5 => ?_)
  refine r_astore (pc := 20) C [(4, .ref q5), (0, .ref (G.1 0 0 0)), (1, .int v1), (2, .int v2), (3, .ref (G.1 30 0 0))] dL_setFlag_20 (by decide) rfl ?_
  refine r_iconst (pc := 22) C dL_setFlag_22 kc_1 ?_
  refine r_wid (cs' := 1) (sl' := 6 * 1) (Nat.le_of_ble_eq_true rfl) (Nat.le_of_ble_eq_true rfl) (r_xok ?_)
  exact r_iret (pc := 23) C rfl dL_setFlag_23
  exact t_none
theorem okL_setFlag {l : Launch} {G : WT} (h0 : W0 G) (hT : l.stackTraces = false) (v1 : Int32) (v2 : Int32) (M : Mem) (h_0 : G.2.2.2.1 0 0 0) (h_3 : G.2.2.2.1 30 0 0) : OkH l G yL_setFlag cL_setFlag 5 (some FieldType.int) [(0, 17, 20, 27)] 8 126 1 [.ref (G.1 0 0 0), .int v1, .int v2, .ref (G.1 30 0 0)] voI M (pL_setFlag  v1 v2 M) :=
  OkH.of "PermitParkLaw" rfl (by decide) (Nat.le_of_ble_eq_true rfl) (L := [(0, .ref (G.1 0 0 0)), (1, .int v1), (2, .int v2), (3, .ref (G.1 30 0 0))]) rfl hT (fun K _ hr Y htab C => lL_setFlag_0 C hr Y htab h0 v1 v2 M h_0 h_3)
def pL_count (v1 : Int32) (M : Mem) : Option (Except Nat Int32 × Mem) :=
    bndc (pX7_count v1 M) (fun o2 M1 =>
        chk (inB (0 : Int32) 1) <| nm (wO M1 (o2.toInt64)) fun M3 => xok <| some ((0 : Int32), M3))
     (fun e M1 => if e = 2 then (xok <| some ((1 : Int32), M1))
    else none)
theorem lL_count_0 {K : KT} {G : WT} (C : Cx K G "PermitParkLaw" cL_count 4 (some FieldType.int)) (hRm : K.2.2.2.1 = rmX 8 125 1) (Y : Cy0 K) (htab : K.2.2.2.2.2.2.2.2.2.exceptionTable.toList = tableOf [(0, 9, 12, 18)]) (h0 : W0 G) (v1 : Int32) (M : Mem) (h_0 : G.2.2.2.1 0 0 0) (h_2 : G.2.2.2.1 30 0 0) : Run K G 4 0 (6 * 0) (FinX K G voI 1 (6 * 1)) 0 [(0, .ref (G.1 0 0 0)), (1, .int v1), (2, .ref (G.1 30 0 0))] [] M (pL_count   v1 M) := by
  rw [pL_count]
  refine r_aload_n (pc := 0) C 2 rfl rfl dL_count_0 ?_
  refine r_iconst (pc := 1) C dL_count_1 kc_0 ?_
  refine r_aload_n (pc := 2) C 0 rfl rfl dL_count_2 ?_
  refine r_iload_n (pc := 3) C 1 rfl rfl dL_count_3 ?_
  refine r_xVI (pc := 4) C Y (Rx.of hRm rfl rfl rfl rfl) (okX7_count h0 Y.1 v1 M h_0) (Rc.of C rfl rfl h_0) mw_815 cvX7_count rfl rfl (Nat.le_of_ble_eq_true rfl) dL_count_4 (fun o2 M1 => ?_) (fun e M1 => ?_)
  refine r_i2l (pc := 7) C dL_count_7 ?_
  refine r_lastO (pc := 8) C h0 h_2 dL_count_8 (fun M3 => ?_)
  refine r_goto (pc := 9) C dL_count_9 (tgt := 15) rfl ?_
  refine r_iconst (pc := 15) C dL_count_15 kc_0 ?_
  refine r_wid (cs' := 1) (sl' := 6 * 1) (Nat.le_of_ble_eq_true rfl) (Nat.le_of_ble_eq_true rfl) (r_xok ?_)
  exact r_iret (pc := 16) C rfl dL_count_16
  refine t_ite (fun he => ?_) (fun _ => ?_)
  refine t_catch0 C he (name := "java/lang/IllegalArgumentException") rfl (htab.trans rfl)  rfl (by decide) mw_703 (by decide +kernel) rfl (hpc := 12) (fun q4 => ?_)
  refine r_astore_n (pc := 12) C [(3, .ref q4), (0, .ref (G.1 0 0 0)), (1, .int v1), (2, .ref (G.1 30 0 0))] dL_count_12 rfl (by decide) rfl ?_
  refine r_iconst (pc := 13) C dL_count_13 kc_1 ?_
  refine r_wid (cs' := 1) (sl' := 6 * 1) (Nat.le_of_ble_eq_true rfl) (Nat.le_of_ble_eq_true rfl) (r_xok ?_)
  exact r_iret (pc := 14) C rfl dL_count_14
  exact t_none
theorem okL_count {l : Launch} {G : WT} (h0 : W0 G) (hT : l.stackTraces = false) (v1 : Int32) (M : Mem) (h_0 : G.2.2.2.1 0 0 0) (h_2 : G.2.2.2.1 30 0 0) : OkH l G yL_count cL_count 4 (some FieldType.int) [(0, 9, 12, 18)] 8 125 1 [.ref (G.1 0 0 0), .int v1, .ref (G.1 30 0 0)] voI M (pL_count  v1 M) :=
  OkH.of "PermitParkLaw" rfl (by decide) (Nat.le_of_ble_eq_true rfl) (L := [(0, .ref (G.1 0 0 0)), (1, .int v1), (2, .ref (G.1 30 0 0))]) rfl hT (fun K _ hr Y htab C => lL_count_0 C hr Y htab h0 v1 M h_0 h_2)
def pL_thread (v1 : Int32) (v2 : Int32) (M : Mem) : Option (Except Nat Int32 × Mem) :=
    bndc (pX7_thread v1 v2 M) (fun o2 M1 =>
        chk (inB (0 : Int32) 1) <| nm (wO M1 (o2.toInt64)) fun M3 => xok <| some ((0 : Int32), M3))
     (fun e M1 => if e = 3 then (xok <| some ((1 : Int32), M1))
    else if e = 2 then (xok <| some ((2 : Int32), M1))
    else none)
theorem lL_thread_0 {K : KT} {G : WT} (C : Cx K G "PermitParkLaw" cL_thread 5 (some FieldType.int)) (hRm : K.2.2.2.1 = rmX 9 146 2) (Y : Cy0 K) (htab : K.2.2.2.2.2.2.2.2.2.exceptionTable.toList = tableOf [(0, 10, 13, 27), (0, 10, 17, 18)]) (h0 : W0 G) (v1 : Int32) (v2 : Int32) (M : Mem) (h_0 : G.2.2.2.1 0 0 0) (h_3 : G.2.2.2.1 30 0 0) : Run K G 5 0 (6 * 0) (FinX K G voI 2 (6 * 2)) 0 [(0, .ref (G.1 0 0 0)), (1, .int v1), (2, .int v2), (3, .ref (G.1 30 0 0))] [] M (pL_thread   v1 v2 M) := by
  rw [pL_thread]
  refine r_aload_n (pc := 0) C 3 rfl rfl dL_thread_0 ?_
  refine r_iconst (pc := 1) C dL_thread_1 kc_0 ?_
  refine r_aload_n (pc := 2) C 0 rfl rfl dL_thread_2 ?_
  refine r_iload_n (pc := 3) C 1 rfl rfl dL_thread_3 ?_
  refine r_iload_n (pc := 4) C 2 rfl rfl dL_thread_4 ?_
  refine r_xVI (pc := 5) C Y (Rx.of hRm rfl rfl rfl rfl) (okX7_thread h0 Y.1 v1 v2 M h_0) (Rc.of C rfl rfl h_0) mw_834 cvX7_thread rfl rfl (Nat.le_of_ble_eq_true rfl) dL_thread_5 (fun o2 M1 => ?_) (fun e M1 => ?_)
  refine r_i2l (pc := 8) C dL_thread_8 ?_
  refine r_lastO (pc := 9) C h0 h_3 dL_thread_9 (fun M3 => ?_)
  refine r_goto (pc := 10) C dL_thread_10 (tgt := 21) rfl ?_
  refine r_iconst (pc := 21) C dL_thread_21 kc_0 ?_
  refine r_wid (cs' := 2) (sl' := 6 * 2) (Nat.le_of_ble_eq_true rfl) (Nat.le_of_ble_eq_true rfl) (r_xok ?_)
  exact r_iret (pc := 22) C rfl dL_thread_22
  refine t_ite (fun he => ?_) (fun _ => ?_)
  refine t_catch0 C he (name := "java/lang/IndexOutOfBoundsException") rfl (htab.trans rfl)  rfl (by decide) mw_745 (by decide +kernel) rfl (hpc := 13) (fun q4 => ?_)
  refine r_astore (pc := 13) C [(4, .ref q4), (0, .ref (G.1 0 0 0)), (1, .int v1), (2, .int v2), (3, .ref (G.1 30 0 0))] dL_thread_13 (by decide) rfl ?_
  refine r_iconst (pc := 15) C dL_thread_15 kc_1 ?_
  refine r_wid (cs' := 2) (sl' := 6 * 2) (Nat.le_of_ble_eq_true rfl) (Nat.le_of_ble_eq_true rfl) (r_xok ?_)
  exact r_iret (pc := 16) C rfl dL_thread_16
  refine t_ite (fun he => ?_) (fun _ => ?_)
  refine t_catch1 C he (name := "java/lang/IllegalArgumentException") rfl (htab.trans rfl) mw_745 (by decide) (by decide +kernel) rfl (by decide) mw_703 (by decide +kernel) rfl (hpc := 17) (fun q5 => ?_)
  refine r_astore (pc := 17) C [(4, .ref q5), (0, .ref (G.1 0 0 0)), (1, .int v1), (2, .int v2), (3, .ref (G.1 30 0 0))] dL_thread_17 (by decide) rfl ?_
  refine r_iconst (pc := 19) C dL_thread_19 kc_2 ?_
  refine r_wid (cs' := 2) (sl' := 6 * 2) (Nat.le_of_ble_eq_true rfl) (Nat.le_of_ble_eq_true rfl) (r_xok ?_)
  exact r_iret (pc := 20) C rfl dL_thread_20
  exact t_none
theorem okL_thread {l : Launch} {G : WT} (h0 : W0 G) (hT : l.stackTraces = false) (v1 : Int32) (v2 : Int32) (M : Mem) (h_0 : G.2.2.2.1 0 0 0) (h_3 : G.2.2.2.1 30 0 0) : OkH l G yL_thread cL_thread 5 (some FieldType.int) [(0, 10, 13, 27), (0, 10, 17, 18)] 9 146 2 [.ref (G.1 0 0 0), .int v1, .int v2, .ref (G.1 30 0 0)] voI M (pL_thread  v1 v2 M) :=
  OkH.of "PermitParkLaw" rfl (by decide) (Nat.le_of_ble_eq_true rfl) (L := [(0, .ref (G.1 0 0 0)), (1, .int v1), (2, .int v2), (3, .ref (G.1 30 0 0))]) rfl hT (fun K _ hr Y htab C => lL_thread_0 C hr Y htab h0 v1 v2 M h_0 h_3)
def pL_instruction (v1 : Int32) (v2 : Int32) (v3 : Int32) (M : Mem) : Option (Except Nat Int32 × Mem) :=
    bndc (pX7_instruction v1 v2 v3 M) (fun o2 M1 =>
        chk (inB (0 : Int32) 1) <| nm (wO M1 (o2.toInt64)) fun M3 => xok <| some ((0 : Int32), M3))
     (fun e M1 => if e = 3 then (xok <| some ((1 : Int32), M1))
    else if e = 2 then (xok <| some ((2 : Int32), M1))
    else none)
theorem lL_instruction_0 {K : KT} {G : WT} (C : Cx K G "PermitParkLaw" cL_instruction 6 (some FieldType.int)) (hRm : K.2.2.2.1 = rmX 9 148 3) (Y : Cy0 K) (htab : K.2.2.2.2.2.2.2.2.2.exceptionTable.toList = tableOf [(0, 12, 15, 27), (0, 12, 19, 18)]) (h0 : W0 G) (v1 : Int32) (v2 : Int32) (v3 : Int32) (M : Mem) (h_0 : G.2.2.2.1 0 0 0) (h_4 : G.2.2.2.1 30 0 0) : Run K G 6 0 (6 * 0) (FinX K G voI 3 (6 * 3)) 0 [(0, .ref (G.1 0 0 0)), (1, .int v1), (2, .int v2), (3, .int v3), (4, .ref (G.1 30 0 0))] [] M (pL_instruction   v1 v2 v3 M) := by
  rw [pL_instruction]
  refine r_aload (pc := 0) C 4 rfl dL_instruction_0 ?_
  refine r_iconst (pc := 2) C dL_instruction_2 kc_0 ?_
  refine r_aload_n (pc := 3) C 0 rfl rfl dL_instruction_3 ?_
  refine r_iload_n (pc := 4) C 1 rfl rfl dL_instruction_4 ?_
  refine r_iload_n (pc := 5) C 2 rfl rfl dL_instruction_5 ?_
  refine r_iload_n (pc := 6) C 3 rfl rfl dL_instruction_6 ?_
  refine r_xVI (pc := 7) C Y (Rx.of hRm rfl rfl rfl rfl) (okX7_instruction h0 Y.1 v1 v2 v3 M h_0) (Rc.of C rfl rfl h_0) mw_850 cvX7_instruction rfl rfl (Nat.le_of_ble_eq_true rfl) dL_instruction_7 (fun o2 M1 => ?_) (fun e M1 => ?_)
  refine r_i2l (pc := 10) C dL_instruction_10 ?_
  refine r_lastO (pc := 11) C h0 h_4 dL_instruction_11 (fun M3 => ?_)
  refine r_goto (pc := 12) C dL_instruction_12 (tgt := 23) rfl ?_
  refine r_iconst (pc := 23) C dL_instruction_23 kc_0 ?_
  refine r_wid (cs' := 3) (sl' := 6 * 3) (Nat.le_of_ble_eq_true rfl) (Nat.le_of_ble_eq_true rfl) (r_xok ?_)
  exact r_iret (pc := 24) C rfl dL_instruction_24
  refine t_ite (fun he => ?_) (fun _ => ?_)
  refine t_catch0 C he (name := "java/lang/IndexOutOfBoundsException") rfl (htab.trans rfl)  rfl (by decide) mw_745 (by decide +kernel) rfl (hpc := 15) (fun q4 => ?_)
  refine r_astore (pc := 15) C [(5, .ref q4), (0, .ref (G.1 0 0 0)), (1, .int v1), (2, .int v2), (3, .int v3), (4, .ref (G.1 30 0 0))] dL_instruction_15 (by decide) rfl ?_
  refine r_iconst (pc := 17) C dL_instruction_17 kc_1 ?_
  refine r_wid (cs' := 3) (sl' := 6 * 3) (Nat.le_of_ble_eq_true rfl) (Nat.le_of_ble_eq_true rfl) (r_xok ?_)
  exact r_iret (pc := 18) C rfl dL_instruction_18
  refine t_ite (fun he => ?_) (fun _ => ?_)
  refine t_catch1 C he (name := "java/lang/IllegalArgumentException") rfl (htab.trans rfl) mw_745 (by decide) (by decide +kernel) rfl (by decide) mw_703 (by decide +kernel) rfl (hpc := 19) (fun q5 => ?_)
  refine r_astore (pc := 19) C [(5, .ref q5), (0, .ref (G.1 0 0 0)), (1, .int v1), (2, .int v2), (3, .int v3), (4, .ref (G.1 30 0 0))] dL_instruction_19 (by decide) rfl ?_
  refine r_iconst (pc := 21) C dL_instruction_21 kc_2 ?_
  refine r_wid (cs' := 3) (sl' := 6 * 3) (Nat.le_of_ble_eq_true rfl) (Nat.le_of_ble_eq_true rfl) (r_xok ?_)
  exact r_iret (pc := 22) C rfl dL_instruction_22
  exact t_none
theorem okL_instruction {l : Launch} {G : WT} (h0 : W0 G) (hT : l.stackTraces = false) (v1 : Int32) (v2 : Int32) (v3 : Int32) (M : Mem) (h_0 : G.2.2.2.1 0 0 0) (h_4 : G.2.2.2.1 30 0 0) : OkH l G yL_instruction cL_instruction 6 (some FieldType.int) [(0, 12, 15, 27), (0, 12, 19, 18)] 9 148 3 [.ref (G.1 0 0 0), .int v1, .int v2, .int v3, .ref (G.1 30 0 0)] voI M (pL_instruction  v1 v2 v3 M) :=
  OkH.of "PermitParkLaw" rfl (by decide) (Nat.le_of_ble_eq_true rfl) (L := [(0, .ref (G.1 0 0 0)), (1, .int v1), (2, .int v2), (3, .int v3), (4, .ref (G.1 30 0 0))]) rfl hT (fun K _ hr Y htab C => lL_instruction_0 C hr Y htab h0 v1 v2 v3 M h_0 h_4)
def pL_lock (v1 : Int32) (v2 : Int32) (M : Mem) : Option (Except Nat Int32 × Mem) :=
    bndc (pX7_lock v1 v2 M) (fun o2 M1 =>
        chk (inB (0 : Int32) 1) <| nm (wO M1 (o2.toInt64)) fun M3 => xok <| some ((0 : Int32), M3))
     (fun e M1 => if e = 3 then (xok <| some ((1 : Int32), M1))
    else none)
theorem lL_lock_0 {K : KT} {G : WT} (C : Cx K G "PermitParkLaw" cL_lock 5 (some FieldType.int)) (hRm : K.2.2.2.1 = rmX 8 125 2) (Y : Cy0 K) (htab : K.2.2.2.2.2.2.2.2.2.exceptionTable.toList = tableOf [(0, 10, 13, 27)]) (h0 : W0 G) (v1 : Int32) (v2 : Int32) (M : Mem) (h_0 : G.2.2.2.1 0 0 0) (h_3 : G.2.2.2.1 30 0 0) : Run K G 5 0 (6 * 0) (FinX K G voI 2 (6 * 2)) 0 [(0, .ref (G.1 0 0 0)), (1, .int v1), (2, .int v2), (3, .ref (G.1 30 0 0))] [] M (pL_lock   v1 v2 M) := by
  rw [pL_lock]
  refine r_aload_n (pc := 0) C 3 rfl rfl dL_lock_0 ?_
  refine r_iconst (pc := 1) C dL_lock_1 kc_0 ?_
  refine r_aload_n (pc := 2) C 0 rfl rfl dL_lock_2 ?_
  refine r_iload_n (pc := 3) C 1 rfl rfl dL_lock_3 ?_
  refine r_iload_n (pc := 4) C 2 rfl rfl dL_lock_4 ?_
  refine r_xVI (pc := 5) C Y (Rx.of hRm rfl rfl rfl rfl) (okX7_lock h0 Y.1 v1 v2 M h_0) (Rc.of C rfl rfl h_0) mw_857 cvX7_lock rfl rfl (Nat.le_of_ble_eq_true rfl) dL_lock_5 (fun o2 M1 => ?_) (fun e M1 => ?_)
  refine r_i2l (pc := 8) C dL_lock_8 ?_
  refine r_lastO (pc := 9) C h0 h_3 dL_lock_9 (fun M3 => ?_)
  refine r_goto (pc := 10) C dL_lock_10 (tgt := 17) rfl ?_
  refine r_iconst (pc := 17) C dL_lock_17 kc_0 ?_
  refine r_wid (cs' := 2) (sl' := 6 * 2) (Nat.le_of_ble_eq_true rfl) (Nat.le_of_ble_eq_true rfl) (r_xok ?_)
  exact r_iret (pc := 18) C rfl dL_lock_18
  refine t_ite (fun he => ?_) (fun _ => ?_)
  refine t_catch0 C he (name := "java/lang/IndexOutOfBoundsException") rfl (htab.trans rfl)  rfl (by decide) mw_745 (by decide +kernel) rfl (hpc := 13) (fun q4 => ?_)
  refine r_astore (pc := 13) C [(4, .ref q4), (0, .ref (G.1 0 0 0)), (1, .int v1), (2, .int v2), (3, .ref (G.1 30 0 0))] dL_lock_13 (by decide) rfl ?_
  refine r_iconst (pc := 15) C dL_lock_15 kc_1 ?_
  refine r_wid (cs' := 2) (sl' := 6 * 2) (Nat.le_of_ble_eq_true rfl) (Nat.le_of_ble_eq_true rfl) (r_xok ?_)
  exact r_iret (pc := 16) C rfl dL_lock_16
  exact t_none
theorem okL_lock {l : Launch} {G : WT} (h0 : W0 G) (hT : l.stackTraces = false) (v1 : Int32) (v2 : Int32) (M : Mem) (h_0 : G.2.2.2.1 0 0 0) (h_3 : G.2.2.2.1 30 0 0) : OkH l G yL_lock cL_lock 5 (some FieldType.int) [(0, 10, 13, 27)] 8 125 2 [.ref (G.1 0 0 0), .int v1, .int v2, .ref (G.1 30 0 0)] voI M (pL_lock  v1 v2 M) :=
  OkH.of "PermitParkLaw" rfl (by decide) (Nat.le_of_ble_eq_true rfl) (L := [(0, .ref (G.1 0 0 0)), (1, .int v1), (2, .int v2), (3, .ref (G.1 30 0 0))]) rfl hT (fun K _ hr Y htab C => lL_lock_0 C hr Y htab h0 v1 v2 M h_0 h_3)
def pL_flag (v1 : Int32) (M : Mem) : Option (Except Nat Int32 × Mem) :=
    bndc (pX7_flag v1 M) (fun o2 M1 =>
        if o2 = 0 then (chk (inB (0 : Int32) 1) <| nm (wO M1 (0 : Int64)) fun M3 => xok <| some ((0 : Int32), M3))
        else chk (inB (0 : Int32) 1) <| nm (wO M1 (1 : Int64)) fun M4 => xok <| some ((0 : Int32), M4))
     (fun e M1 => if e = 3 then (xok <| some ((1 : Int32), M1))
    else none)
theorem lL_flag_0 {K : KT} {G : WT} (C : Cx K G "PermitParkLaw" cL_flag 4 (some FieldType.int)) (hRm : K.2.2.2.1 = rmX 8 124 1) (Y : Cy0 K) (htab : K.2.2.2.2.2.2.2.2.2.exceptionTable.toList = tableOf [(0, 16, 19, 27)]) (h0 : W0 G) (v1 : Int32) (M : Mem) (h_0 : G.2.2.2.1 0 0 0) (h_2 : G.2.2.2.1 30 0 0) : Run K G 4 0 (6 * 0) (FinX K G voI 1 (6 * 1)) 0 [(0, .ref (G.1 0 0 0)), (1, .int v1), (2, .ref (G.1 30 0 0))] [] M (pL_flag   v1 M) := by
  rw [pL_flag]
  refine r_aload_n (pc := 0) C 2 rfl rfl dL_flag_0 ?_
  refine r_iconst (pc := 1) C dL_flag_1 kc_0 ?_
  refine r_aload_n (pc := 2) C 0 rfl rfl dL_flag_2 ?_
  refine r_iload_n (pc := 3) C 1 rfl rfl dL_flag_3 ?_
  refine r_xVI (pc := 4) C Y (Rx.of hRm rfl rfl rfl rfl) (okX7_flag h0 Y.1 v1 M h_0) (Rc.of C rfl rfl h_0) mw_869 cvX7_flag rfl rfl (Nat.le_of_ble_eq_true rfl) dL_flag_4 (fun o2 M1 => ?_) (fun e M1 => ?_)
  refine r_if_eq (pc := 7) C dL_flag_7 (tgt := 14) rfl ?_ ?_
  refine r_lconst (pc := 14) C dL_flag_14 (rfl : _ = (0 : Int64)) ?_
  refine r_lastO (pc := 15) C h0 h_2 dL_flag_15 (fun M3 => ?_)
  refine r_goto (pc := 16) C dL_flag_16 (tgt := 22) rfl ?_
  refine r_iconst (pc := 22) C dL_flag_22 kc_0 ?_
  refine r_wid (cs' := 1) (sl' := 6 * 1) (Nat.le_of_ble_eq_true rfl) (Nat.le_of_ble_eq_true rfl) (r_xok ?_)
  exact r_iret (pc := 23) C rfl dL_flag_23
  refine r_lconst (pc := 10) C dL_flag_10 (rfl : _ = (1 : Int64)) ?_
  refine r_goto (pc := 11) C dL_flag_11 (tgt := 15) rfl ?_
  refine r_lastO (pc := 15) C h0 h_2 dL_flag_15 (fun M4 => ?_)
  refine r_goto (pc := 16) C dL_flag_16 (tgt := 22) rfl ?_
  refine r_iconst (pc := 22) C dL_flag_22 kc_0 ?_
  refine r_wid (cs' := 1) (sl' := 6 * 1) (Nat.le_of_ble_eq_true rfl) (Nat.le_of_ble_eq_true rfl) (r_xok ?_)
  exact r_iret (pc := 23) C rfl dL_flag_23
  refine t_ite (fun he => ?_) (fun _ => ?_)
  refine t_catch0 C he (name := "java/lang/IndexOutOfBoundsException") rfl (htab.trans rfl)  rfl (by decide) mw_745 (by decide +kernel) rfl (hpc := 19) (fun q5 => ?_)
  refine r_astore_n (pc := 19) C [(3, .ref q5), (0, .ref (G.1 0 0 0)), (1, .int v1), (2, .ref (G.1 30 0 0))] dL_flag_19 rfl (by decide) rfl ?_
  refine r_iconst (pc := 20) C dL_flag_20 kc_1 ?_
  refine r_wid (cs' := 1) (sl' := 6 * 1) (Nat.le_of_ble_eq_true rfl) (Nat.le_of_ble_eq_true rfl) (r_xok ?_)
  exact r_iret (pc := 21) C rfl dL_flag_21
  exact t_none
theorem okL_flag {l : Launch} {G : WT} (h0 : W0 G) (hT : l.stackTraces = false) (v1 : Int32) (M : Mem) (h_0 : G.2.2.2.1 0 0 0) (h_2 : G.2.2.2.1 30 0 0) : OkH l G yL_flag cL_flag 4 (some FieldType.int) [(0, 16, 19, 27)] 8 124 1 [.ref (G.1 0 0 0), .int v1, .ref (G.1 30 0 0)] voI M (pL_flag  v1 M) :=
  OkH.of "PermitParkLaw" rfl (by decide) (Nat.le_of_ble_eq_true rfl) (L := [(0, .ref (G.1 0 0 0)), (1, .int v1), (2, .ref (G.1 30 0 0))]) rfl hT (fun K _ hr Y htab C => lL_flag_0 C hr Y htab h0 v1 M h_0 h_2)
def pL_event (v1 : Int32) (v2 : Int32) (M : Mem) : Option (Except Nat Int32 × Mem) :=
    bndc (pX7_event v1 v2 M) (fun o2 M1 =>
        chk (inB (0 : Int32) 1) <| nm (wO M1 (o2.toInt64)) fun M3 => xok <| some ((0 : Int32), M3))
     (fun e M1 => if e = 3 then (xok <| some ((1 : Int32), M1))
    else if e = 2 then (xok <| some ((2 : Int32), M1))
    else none)
theorem lL_event_0 {K : KT} {G : WT} (C : Cx K G "PermitParkLaw" cL_event 5 (some FieldType.int)) (hRm : K.2.2.2.1 = rmX 8 126 2) (Y : Cy0 K) (htab : K.2.2.2.2.2.2.2.2.2.exceptionTable.toList = tableOf [(0, 10, 13, 27), (0, 10, 17, 18)]) (h0 : W0 G) (v1 : Int32) (v2 : Int32) (M : Mem) (h_0 : G.2.2.2.1 0 0 0) (h_3 : G.2.2.2.1 30 0 0) : Run K G 5 0 (6 * 0) (FinX K G voI 2 (6 * 2)) 0 [(0, .ref (G.1 0 0 0)), (1, .int v1), (2, .int v2), (3, .ref (G.1 30 0 0))] [] M (pL_event   v1 v2 M) := by
  rw [pL_event]
  refine r_aload_n (pc := 0) C 3 rfl rfl dL_event_0 ?_
  refine r_iconst (pc := 1) C dL_event_1 kc_0 ?_
  refine r_aload_n (pc := 2) C 0 rfl rfl dL_event_2 ?_
  refine r_iload_n (pc := 3) C 1 rfl rfl dL_event_3 ?_
  refine r_iload_n (pc := 4) C 2 rfl rfl dL_event_4 ?_
  refine r_xVI (pc := 5) C Y (Rx.of hRm rfl rfl rfl rfl) (okX7_event h0 Y.1 v1 v2 M h_0) (Rc.of C rfl rfl h_0) mw_876 cvX7_event rfl rfl (Nat.le_of_ble_eq_true rfl) dL_event_5 (fun o2 M1 => ?_) (fun e M1 => ?_)
  refine r_i2l (pc := 8) C dL_event_8 ?_
  refine r_lastO (pc := 9) C h0 h_3 dL_event_9 (fun M3 => ?_)
  refine r_goto (pc := 10) C dL_event_10 (tgt := 21) rfl ?_
  refine r_iconst (pc := 21) C dL_event_21 kc_0 ?_
  refine r_wid (cs' := 2) (sl' := 6 * 2) (Nat.le_of_ble_eq_true rfl) (Nat.le_of_ble_eq_true rfl) (r_xok ?_)
  exact r_iret (pc := 22) C rfl dL_event_22
  refine t_ite (fun he => ?_) (fun _ => ?_)
  refine t_catch0 C he (name := "java/lang/IndexOutOfBoundsException") rfl (htab.trans rfl)  rfl (by decide) mw_745 (by decide +kernel) rfl (hpc := 13) (fun q4 => ?_)
  refine r_astore (pc := 13) C [(4, .ref q4), (0, .ref (G.1 0 0 0)), (1, .int v1), (2, .int v2), (3, .ref (G.1 30 0 0))] dL_event_13 (by decide) rfl ?_
  refine r_iconst (pc := 15) C dL_event_15 kc_1 ?_
  refine r_wid (cs' := 2) (sl' := 6 * 2) (Nat.le_of_ble_eq_true rfl) (Nat.le_of_ble_eq_true rfl) (r_xok ?_)
  exact r_iret (pc := 16) C rfl dL_event_16
  refine t_ite (fun he => ?_) (fun _ => ?_)
  refine t_catch1 C he (name := "java/lang/IllegalArgumentException") rfl (htab.trans rfl) mw_745 (by decide) (by decide +kernel) rfl (by decide) mw_703 (by decide +kernel) rfl (hpc := 17) (fun q5 => ?_)
  refine r_astore (pc := 17) C [(4, .ref q5), (0, .ref (G.1 0 0 0)), (1, .int v1), (2, .int v2), (3, .ref (G.1 30 0 0))] dL_event_17 (by decide) rfl ?_
  refine r_iconst (pc := 19) C dL_event_19 kc_2 ?_
  refine r_wid (cs' := 2) (sl' := 6 * 2) (Nat.le_of_ble_eq_true rfl) (Nat.le_of_ble_eq_true rfl) (r_xok ?_)
  exact r_iret (pc := 20) C rfl dL_event_20
  exact t_none
theorem okL_event {l : Launch} {G : WT} (h0 : W0 G) (hT : l.stackTraces = false) (v1 : Int32) (v2 : Int32) (M : Mem) (h_0 : G.2.2.2.1 0 0 0) (h_3 : G.2.2.2.1 30 0 0) : OkH l G yL_event cL_event 5 (some FieldType.int) [(0, 10, 13, 27), (0, 10, 17, 18)] 8 126 2 [.ref (G.1 0 0 0), .int v1, .int v2, .ref (G.1 30 0 0)] voI M (pL_event  v1 v2 M) :=
  OkH.of "PermitParkLaw" rfl (by decide) (Nat.le_of_ble_eq_true rfl) (L := [(0, .ref (G.1 0 0 0)), (1, .int v1), (2, .int v2), (3, .ref (G.1 30 0 0))]) rfl hT (fun K _ hr Y htab C => lL_event_0 C hr Y htab h0 v1 v2 M h_0 h_3)
def pL_events (v1 : Int32) (v2 : Int32) (M : Mem) : Option (Except Nat Int32 × Mem) :=
    bndc (pX7_events v1 v2 M) (fun o2 M1 =>
        chk (inB (0 : Int32) 1) <| nm (wO M1 (o2.toInt64)) fun M3 => xok <| some ((0 : Int32), M3))
     (fun e M1 => if e = 3 then (xok <| some ((1 : Int32), M1))
    else if e = 2 then (xok <| some ((2 : Int32), M1))
    else none)
theorem lL_events_0 {K : KT} {G : WT} (C : Cx K G "PermitParkLaw" cL_events 5 (some FieldType.int)) (hRm : K.2.2.2.1 = rmX 9 146 2) (Y : Cy0 K) (htab : K.2.2.2.2.2.2.2.2.2.exceptionTable.toList = tableOf [(0, 10, 13, 27), (0, 10, 17, 18)]) (h0 : W0 G) (v1 : Int32) (v2 : Int32) (M : Mem) (h_0 : G.2.2.2.1 0 0 0) (h_3 : G.2.2.2.1 30 0 0) : Run K G 5 0 (6 * 0) (FinX K G voI 2 (6 * 2)) 0 [(0, .ref (G.1 0 0 0)), (1, .int v1), (2, .int v2), (3, .ref (G.1 30 0 0))] [] M (pL_events   v1 v2 M) := by
  rw [pL_events]
  refine r_aload_n (pc := 0) C 3 rfl rfl dL_events_0 ?_
  refine r_iconst (pc := 1) C dL_events_1 kc_0 ?_
  refine r_aload_n (pc := 2) C 0 rfl rfl dL_events_2 ?_
  refine r_iload_n (pc := 3) C 1 rfl rfl dL_events_3 ?_
  refine r_iload_n (pc := 4) C 2 rfl rfl dL_events_4 ?_
  refine r_xVI (pc := 5) C Y (Rx.of hRm rfl rfl rfl rfl) (okX7_events h0 Y.1 v1 v2 M h_0) (Rc.of C rfl rfl h_0) mw_887 cvX7_events rfl rfl (Nat.le_of_ble_eq_true rfl) dL_events_5 (fun o2 M1 => ?_) (fun e M1 => ?_)
  refine r_i2l (pc := 8) C dL_events_8 ?_
  refine r_lastO (pc := 9) C h0 h_3 dL_events_9 (fun M3 => ?_)
  refine r_goto (pc := 10) C dL_events_10 (tgt := 21) rfl ?_
  refine r_iconst (pc := 21) C dL_events_21 kc_0 ?_
  refine r_wid (cs' := 2) (sl' := 6 * 2) (Nat.le_of_ble_eq_true rfl) (Nat.le_of_ble_eq_true rfl) (r_xok ?_)
  exact r_iret (pc := 22) C rfl dL_events_22
  refine t_ite (fun he => ?_) (fun _ => ?_)
  refine t_catch0 C he (name := "java/lang/IndexOutOfBoundsException") rfl (htab.trans rfl)  rfl (by decide) mw_745 (by decide +kernel) rfl (hpc := 13) (fun q4 => ?_)
  refine r_astore (pc := 13) C [(4, .ref q4), (0, .ref (G.1 0 0 0)), (1, .int v1), (2, .int v2), (3, .ref (G.1 30 0 0))] dL_events_13 (by decide) rfl ?_
  refine r_iconst (pc := 15) C dL_events_15 kc_1 ?_
  refine r_wid (cs' := 2) (sl' := 6 * 2) (Nat.le_of_ble_eq_true rfl) (Nat.le_of_ble_eq_true rfl) (r_xok ?_)
  exact r_iret (pc := 16) C rfl dL_events_16
  refine t_ite (fun he => ?_) (fun _ => ?_)
  refine t_catch1 C he (name := "java/lang/IllegalArgumentException") rfl (htab.trans rfl) mw_745 (by decide) (by decide +kernel) rfl (by decide) mw_703 (by decide +kernel) rfl (hpc := 17) (fun q5 => ?_)
  refine r_astore (pc := 17) C [(4, .ref q5), (0, .ref (G.1 0 0 0)), (1, .int v1), (2, .int v2), (3, .ref (G.1 30 0 0))] dL_events_17 (by decide) rfl ?_
  refine r_iconst (pc := 19) C dL_events_19 kc_2 ?_
  refine r_wid (cs' := 2) (sl' := 6 * 2) (Nat.le_of_ble_eq_true rfl) (Nat.le_of_ble_eq_true rfl) (r_xok ?_)
  exact r_iret (pc := 20) C rfl dL_events_20
  exact t_none
theorem okL_events {l : Launch} {G : WT} (h0 : W0 G) (hT : l.stackTraces = false) (v1 : Int32) (v2 : Int32) (M : Mem) (h_0 : G.2.2.2.1 0 0 0) (h_3 : G.2.2.2.1 30 0 0) : OkH l G yL_events cL_events 5 (some FieldType.int) [(0, 10, 13, 27), (0, 10, 17, 18)] 9 146 2 [.ref (G.1 0 0 0), .int v1, .int v2, .ref (G.1 30 0 0)] voI M (pL_events  v1 v2 M) :=
  OkH.of "PermitParkLaw" rfl (by decide) (Nat.le_of_ble_eq_true rfl) (L := [(0, .ref (G.1 0 0 0)), (1, .int v1), (2, .int v2), (3, .ref (G.1 30 0 0))]) rfl hT (fun K _ hr Y htab C => lL_events_0 C hr Y htab h0 v1 v2 M h_0 h_3)
def pL_wake (v1 : Int32) (M : Mem) : Option (Except Nat Int32 × Mem) :=
    bndc (pX7_wake v1 M) (fun o2 M1 =>
        chk (inB (0 : Int32) 1) <| nm (wO M1 (o2.toInt64)) fun M3 => xok <| some ((0 : Int32), M3))
     (fun e M1 => if e = 3 then (xok <| some ((1 : Int32), M1))
    else none)
theorem lL_wake_0 {K : KT} {G : WT} (C : Cx K G "PermitParkLaw" cL_wake 4 (some FieldType.int)) (hRm : K.2.2.2.1 = rmX 9 146 1) (Y : Cy0 K) (htab : K.2.2.2.2.2.2.2.2.2.exceptionTable.toList = tableOf [(0, 9, 12, 27)]) (h0 : W0 G) (v1 : Int32) (M : Mem) (h_0 : G.2.2.2.1 0 0 0) (h_2 : G.2.2.2.1 30 0 0) : Run K G 4 0 (6 * 0) (FinX K G voI 1 (6 * 1)) 0 [(0, .ref (G.1 0 0 0)), (1, .int v1), (2, .ref (G.1 30 0 0))] [] M (pL_wake   v1 M) := by
  rw [pL_wake]
  refine r_aload_n (pc := 0) C 2 rfl rfl dL_wake_0 ?_
  refine r_iconst (pc := 1) C dL_wake_1 kc_0 ?_
  refine r_aload_n (pc := 2) C 0 rfl rfl dL_wake_2 ?_
  refine r_iload_n (pc := 3) C 1 rfl rfl dL_wake_3 ?_
  refine r_xVI (pc := 4) C Y (Rx.of hRm rfl rfl rfl rfl) (okX7_wake h0 Y.1 v1 M h_0) (Rc.of C rfl rfl h_0) mw_899 cvX7_wake rfl rfl (Nat.le_of_ble_eq_true rfl) dL_wake_4 (fun o2 M1 => ?_) (fun e M1 => ?_)
  refine r_i2l (pc := 7) C dL_wake_7 ?_
  refine r_lastO (pc := 8) C h0 h_2 dL_wake_8 (fun M3 => ?_)
  refine r_goto (pc := 9) C dL_wake_9 (tgt := 15) rfl ?_
  refine r_iconst (pc := 15) C dL_wake_15 kc_0 ?_
  refine r_wid (cs' := 1) (sl' := 6 * 1) (Nat.le_of_ble_eq_true rfl) (Nat.le_of_ble_eq_true rfl) (r_xok ?_)
  exact r_iret (pc := 16) C rfl dL_wake_16
  refine t_ite (fun he => ?_) (fun _ => ?_)
  refine t_catch0 C he (name := "java/lang/IndexOutOfBoundsException") rfl (htab.trans rfl)  rfl (by decide) mw_745 (by decide +kernel) rfl (hpc := 12) (fun q4 => ?_)
  refine r_astore_n (pc := 12) C [(3, .ref q4), (0, .ref (G.1 0 0 0)), (1, .int v1), (2, .ref (G.1 30 0 0))] dL_wake_12 rfl (by decide) rfl ?_
  refine r_iconst (pc := 13) C dL_wake_13 kc_1 ?_
  refine r_wid (cs' := 1) (sl' := 6 * 1) (Nat.le_of_ble_eq_true rfl) (Nat.le_of_ble_eq_true rfl) (r_xok ?_)
  exact r_iret (pc := 14) C rfl dL_wake_14
  exact t_none
theorem okL_wake {l : Launch} {G : WT} (h0 : W0 G) (hT : l.stackTraces = false) (v1 : Int32) (M : Mem) (h_0 : G.2.2.2.1 0 0 0) (h_2 : G.2.2.2.1 30 0 0) : OkH l G yL_wake cL_wake 4 (some FieldType.int) [(0, 9, 12, 27)] 9 146 1 [.ref (G.1 0 0 0), .int v1, .ref (G.1 30 0 0)] voI M (pL_wake  v1 M) :=
  OkH.of "PermitParkLaw" rfl (by decide) (Nat.le_of_ble_eq_true rfl) (L := [(0, .ref (G.1 0 0 0)), (1, .int v1), (2, .ref (G.1 30 0 0))]) rfl hT (fun K _ hr Y htab C => lL_wake_0 C hr Y htab h0 v1 M h_0 h_2)
def pL_interrupt (v1 : Int32) (M : Mem) : Option (Except Nat Int32 × Mem) :=
    bndc (pX7_interrupt v1 M) (fun o2 M1 =>
        chk (inB (0 : Int32) 1) <| nm (wO M1 (o2.toInt64)) fun M3 => xok <| some ((0 : Int32), M3))
     (fun e M1 => if e = 3 then (xok <| some ((1 : Int32), M1))
    else none)
theorem lL_interrupt_0 {K : KT} {G : WT} (C : Cx K G "PermitParkLaw" cL_interrupt 4 (some FieldType.int)) (hRm : K.2.2.2.1 = rmX 9 146 1) (Y : Cy0 K) (htab : K.2.2.2.2.2.2.2.2.2.exceptionTable.toList = tableOf [(0, 9, 12, 27)]) (h0 : W0 G) (v1 : Int32) (M : Mem) (h_0 : G.2.2.2.1 0 0 0) (h_2 : G.2.2.2.1 30 0 0) : Run K G 4 0 (6 * 0) (FinX K G voI 1 (6 * 1)) 0 [(0, .ref (G.1 0 0 0)), (1, .int v1), (2, .ref (G.1 30 0 0))] [] M (pL_interrupt   v1 M) := by
  rw [pL_interrupt]
  refine r_aload_n (pc := 0) C 2 rfl rfl dL_interrupt_0 ?_
  refine r_iconst (pc := 1) C dL_interrupt_1 kc_0 ?_
  refine r_aload_n (pc := 2) C 0 rfl rfl dL_interrupt_2 ?_
  refine r_iload_n (pc := 3) C 1 rfl rfl dL_interrupt_3 ?_
  refine r_xVI (pc := 4) C Y (Rx.of hRm rfl rfl rfl rfl) (okX7_interrupt h0 Y.1 v1 M h_0) (Rc.of C rfl rfl h_0) mw_908 cvX7_interrupt rfl rfl (Nat.le_of_ble_eq_true rfl) dL_interrupt_4 (fun o2 M1 => ?_) (fun e M1 => ?_)
  refine r_i2l (pc := 7) C dL_interrupt_7 ?_
  refine r_lastO (pc := 8) C h0 h_2 dL_interrupt_8 (fun M3 => ?_)
  refine r_goto (pc := 9) C dL_interrupt_9 (tgt := 15) rfl ?_
  refine r_iconst (pc := 15) C dL_interrupt_15 kc_0 ?_
  refine r_wid (cs' := 1) (sl' := 6 * 1) (Nat.le_of_ble_eq_true rfl) (Nat.le_of_ble_eq_true rfl) (r_xok ?_)
  exact r_iret (pc := 16) C rfl dL_interrupt_16
  refine t_ite (fun he => ?_) (fun _ => ?_)
  refine t_catch0 C he (name := "java/lang/IndexOutOfBoundsException") rfl (htab.trans rfl)  rfl (by decide) mw_745 (by decide +kernel) rfl (hpc := 12) (fun q4 => ?_)
  refine r_astore_n (pc := 12) C [(3, .ref q4), (0, .ref (G.1 0 0 0)), (1, .int v1), (2, .ref (G.1 30 0 0))] dL_interrupt_12 rfl (by decide) rfl ?_
  refine r_iconst (pc := 13) C dL_interrupt_13 kc_1 ?_
  refine r_wid (cs' := 1) (sl' := 6 * 1) (Nat.le_of_ble_eq_true rfl) (Nat.le_of_ble_eq_true rfl) (r_xok ?_)
  exact r_iret (pc := 14) C rfl dL_interrupt_14
  exact t_none
theorem okL_interrupt {l : Launch} {G : WT} (h0 : W0 G) (hT : l.stackTraces = false) (v1 : Int32) (M : Mem) (h_0 : G.2.2.2.1 0 0 0) (h_2 : G.2.2.2.1 30 0 0) : OkH l G yL_interrupt cL_interrupt 4 (some FieldType.int) [(0, 9, 12, 27)] 9 146 1 [.ref (G.1 0 0 0), .int v1, .ref (G.1 30 0 0)] voI M (pL_interrupt  v1 M) :=
  OkH.of "PermitParkLaw" rfl (by decide) (Nat.le_of_ble_eq_true rfl) (L := [(0, .ref (G.1 0 0 0)), (1, .int v1), (2, .ref (G.1 30 0 0))]) rfl hT (fun K _ hr Y htab C => lL_interrupt_0 C hr Y htab h0 v1 M h_0 h_2)
def pL_rouse (v1 : Int32) (M : Mem) : Option (Except Nat Int32 × Mem) :=
    bndc (pX7_rouse v1 M) (fun o2 M1 =>
        if o2 = 0 then (chk (inB (0 : Int32) 1) <| nm (wO M1 (0 : Int64)) fun M3 => xok <| some ((0 : Int32), M3))
        else chk (inB (0 : Int32) 1) <| nm (wO M1 (1 : Int64)) fun M4 => xok <| some ((0 : Int32), M4))
     (fun e M1 => if e = 3 then (xok <| some ((1 : Int32), M1))
    else none)
theorem lL_rouse_0 {K : KT} {G : WT} (C : Cx K G "PermitParkLaw" cL_rouse 4 (some FieldType.int)) (hRm : K.2.2.2.1 = rmX 9 145 1) (Y : Cy0 K) (htab : K.2.2.2.2.2.2.2.2.2.exceptionTable.toList = tableOf [(0, 16, 19, 27)]) (h0 : W0 G) (v1 : Int32) (M : Mem) (h_0 : G.2.2.2.1 0 0 0) (h_2 : G.2.2.2.1 30 0 0) : Run K G 4 0 (6 * 0) (FinX K G voI 1 (6 * 1)) 0 [(0, .ref (G.1 0 0 0)), (1, .int v1), (2, .ref (G.1 30 0 0))] [] M (pL_rouse   v1 M) := by
  rw [pL_rouse]
  refine r_aload_n (pc := 0) C 2 rfl rfl dL_rouse_0 ?_
  refine r_iconst (pc := 1) C dL_rouse_1 kc_0 ?_
  refine r_aload_n (pc := 2) C 0 rfl rfl dL_rouse_2 ?_
  refine r_iload_n (pc := 3) C 1 rfl rfl dL_rouse_3 ?_
  refine r_xVI (pc := 4) C Y (Rx.of hRm rfl rfl rfl rfl) (okX7_rouse h0 Y.1 v1 M h_0) (Rc.of C rfl rfl h_0) mw_919 cvX7_rouse rfl rfl (Nat.le_of_ble_eq_true rfl) dL_rouse_4 (fun o2 M1 => ?_) (fun e M1 => ?_)
  refine r_if_eq (pc := 7) C dL_rouse_7 (tgt := 14) rfl ?_ ?_
  refine r_lconst (pc := 14) C dL_rouse_14 (rfl : _ = (0 : Int64)) ?_
  refine r_lastO (pc := 15) C h0 h_2 dL_rouse_15 (fun M3 => ?_)
  refine r_goto (pc := 16) C dL_rouse_16 (tgt := 22) rfl ?_
  refine r_iconst (pc := 22) C dL_rouse_22 kc_0 ?_
  refine r_wid (cs' := 1) (sl' := 6 * 1) (Nat.le_of_ble_eq_true rfl) (Nat.le_of_ble_eq_true rfl) (r_xok ?_)
  exact r_iret (pc := 23) C rfl dL_rouse_23
  refine r_lconst (pc := 10) C dL_rouse_10 (rfl : _ = (1 : Int64)) ?_
  refine r_goto (pc := 11) C dL_rouse_11 (tgt := 15) rfl ?_
  refine r_lastO (pc := 15) C h0 h_2 dL_rouse_15 (fun M4 => ?_)
  refine r_goto (pc := 16) C dL_rouse_16 (tgt := 22) rfl ?_
  refine r_iconst (pc := 22) C dL_rouse_22 kc_0 ?_
  refine r_wid (cs' := 1) (sl' := 6 * 1) (Nat.le_of_ble_eq_true rfl) (Nat.le_of_ble_eq_true rfl) (r_xok ?_)
  exact r_iret (pc := 23) C rfl dL_rouse_23
  refine t_ite (fun he => ?_) (fun _ => ?_)
  refine t_catch0 C he (name := "java/lang/IndexOutOfBoundsException") rfl (htab.trans rfl)  rfl (by decide) mw_745 (by decide +kernel) rfl (hpc := 19) (fun q5 => ?_)
  refine r_astore_n (pc := 19) C [(3, .ref q5), (0, .ref (G.1 0 0 0)), (1, .int v1), (2, .ref (G.1 30 0 0))] dL_rouse_19 rfl (by decide) rfl ?_
  refine r_iconst (pc := 20) C dL_rouse_20 kc_1 ?_
  refine r_wid (cs' := 1) (sl' := 6 * 1) (Nat.le_of_ble_eq_true rfl) (Nat.le_of_ble_eq_true rfl) (r_xok ?_)
  exact r_iret (pc := 21) C rfl dL_rouse_21
  exact t_none
theorem okL_rouse {l : Launch} {G : WT} (h0 : W0 G) (hT : l.stackTraces = false) (v1 : Int32) (M : Mem) (h_0 : G.2.2.2.1 0 0 0) (h_2 : G.2.2.2.1 30 0 0) : OkH l G yL_rouse cL_rouse 4 (some FieldType.int) [(0, 16, 19, 27)] 9 145 1 [.ref (G.1 0 0 0), .int v1, .ref (G.1 30 0 0)] voI M (pL_rouse  v1 M) :=
  OkH.of "PermitParkLaw" rfl (by decide) (Nat.le_of_ble_eq_true rfl) (L := [(0, .ref (G.1 0 0 0)), (1, .int v1), (2, .ref (G.1 30 0 0))]) rfl hT (fun K _ hr Y htab C => lL_rouse_0 C hr Y htab h0 v1 M h_0 h_2)
def pL_run (v1 : Int32) (M : Mem) : Option (Except Nat Int32 × Mem) :=
    bndc (pX7_run v1 M) (fun o2 M1 =>
        chk (inB (0 : Int32) 1) <| nm (wO M1 (o2.toInt64)) fun M3 => xok <| some ((0 : Int32), M3))
     (fun e M1 => if e = 2 then (xok <| some ((1 : Int32), M1))
    else none)
theorem lL_run_0 {K : KT} {G : WT} (C : Cx K G "PermitParkLaw" cL_run 4 (some FieldType.int)) (hRm : K.2.2.2.1 = rmX 8 162 1) (Y : Cy0 K) (htab : K.2.2.2.2.2.2.2.2.2.exceptionTable.toList = tableOf [(0, 9, 12, 18)]) (h0 : W0 G) (v1 : Int32) (M : Mem) (h_0 : G.2.2.2.1 0 0 0) (h_2 : G.2.2.2.1 30 0 0) : Run K G 4 0 (6 * 0) (FinX K G voI 1 (6 * 1)) 0 [(0, .ref (G.1 0 0 0)), (1, .int v1), (2, .ref (G.1 30 0 0))] [] M (pL_run   v1 M) := by
  rw [pL_run]
  refine r_aload_n (pc := 0) C 2 rfl rfl dL_run_0 ?_
  refine r_iconst (pc := 1) C dL_run_1 kc_0 ?_
  refine r_aload_n (pc := 2) C 0 rfl rfl dL_run_2 ?_
  refine r_iload_n (pc := 3) C 1 rfl rfl dL_run_3 ?_
  refine r_xVI (pc := 4) C Y (Rx.of hRm rfl rfl rfl rfl) (okX7_run h0 Y.1 v1 M h_0) (Rc.of C rfl rfl h_0) mw_927 cvX7_run rfl rfl (Nat.le_of_ble_eq_true rfl) dL_run_4 (fun o2 M1 => ?_) (fun e M1 => ?_)
  refine r_i2l (pc := 7) C dL_run_7 ?_
  refine r_lastO (pc := 8) C h0 h_2 dL_run_8 (fun M3 => ?_)
  refine r_goto (pc := 9) C dL_run_9 (tgt := 15) rfl ?_
  refine r_iconst (pc := 15) C dL_run_15 kc_0 ?_
  refine r_wid (cs' := 1) (sl' := 6 * 1) (Nat.le_of_ble_eq_true rfl) (Nat.le_of_ble_eq_true rfl) (r_xok ?_)
  exact r_iret (pc := 16) C rfl dL_run_16
  refine t_ite (fun he => ?_) (fun _ => ?_)
  refine t_catch0 C he (name := "java/lang/IllegalArgumentException") rfl (htab.trans rfl)  rfl (by decide) mw_703 (by decide +kernel) rfl (hpc := 12) (fun q4 => ?_)
  refine r_astore_n (pc := 12) C [(3, .ref q4), (0, .ref (G.1 0 0 0)), (1, .int v1), (2, .ref (G.1 30 0 0))] dL_run_12 rfl (by decide) rfl ?_
  refine r_iconst (pc := 13) C dL_run_13 kc_1 ?_
  refine r_wid (cs' := 1) (sl' := 6 * 1) (Nat.le_of_ble_eq_true rfl) (Nat.le_of_ble_eq_true rfl) (r_xok ?_)
  exact r_iret (pc := 14) C rfl dL_run_14
  exact t_none
theorem okL_run {l : Launch} {G : WT} (h0 : W0 G) (hT : l.stackTraces = false) (v1 : Int32) (M : Mem) (h_0 : G.2.2.2.1 0 0 0) (h_2 : G.2.2.2.1 30 0 0) : OkH l G yL_run cL_run 4 (some FieldType.int) [(0, 9, 12, 18)] 8 162 1 [.ref (G.1 0 0 0), .int v1, .ref (G.1 30 0 0)] voI M (pL_run  v1 M) :=
  OkH.of "PermitParkLaw" rfl (by decide) (Nat.le_of_ble_eq_true rfl) (L := [(0, .ref (G.1 0 0 0)), (1, .int v1), (2, .ref (G.1 30 0 0))]) rfl hT (fun K _ hr Y htab C => lL_run_0 C hr Y htab h0 v1 M h_0 h_2)
def pL_chain (v1 : Int32) (v2 : Int32) (M : Mem) : Option (Except Nat Int32 × Mem) :=
    bndc (pX7_chain v1 v2 M) (fun o2 M1 =>
        chk (inB (0 : Int32) 1) <| nm (wO M1 (o2.toInt64)) fun M3 => xok <| some ((0 : Int32), M3))
     (fun e M1 => if e = 3 then (xok <| some ((1 : Int32), M1))
    else none)
theorem lL_chain_0 {K : KT} {G : WT} (C : Cx K G "PermitParkLaw" cL_chain 5 (some FieldType.int)) (hRm : K.2.2.2.1 = rmX 9 146 2) (Y : Cy0 K) (htab : K.2.2.2.2.2.2.2.2.2.exceptionTable.toList = tableOf [(0, 10, 13, 27)]) (h0 : W0 G) (v1 : Int32) (v2 : Int32) (M : Mem) (h_0 : G.2.2.2.1 0 0 0) (h_3 : G.2.2.2.1 30 0 0) : Run K G 5 0 (6 * 0) (FinX K G voI 2 (6 * 2)) 0 [(0, .ref (G.1 0 0 0)), (1, .int v1), (2, .int v2), (3, .ref (G.1 30 0 0))] [] M (pL_chain   v1 v2 M) := by
  rw [pL_chain]
  refine r_aload_n (pc := 0) C 3 rfl rfl dL_chain_0 ?_
  refine r_iconst (pc := 1) C dL_chain_1 kc_0 ?_
  refine r_aload_n (pc := 2) C 0 rfl rfl dL_chain_2 ?_
  refine r_iload_n (pc := 3) C 1 rfl rfl dL_chain_3 ?_
  refine r_iload_n (pc := 4) C 2 rfl rfl dL_chain_4 ?_
  refine r_xVI (pc := 5) C Y (Rx.of hRm rfl rfl rfl rfl) (okX7_chain h0 Y.1 v1 v2 M h_0) (Rc.of C rfl rfl h_0) mw_935 cvX7_chain rfl rfl (Nat.le_of_ble_eq_true rfl) dL_chain_5 (fun o2 M1 => ?_) (fun e M1 => ?_)
  refine r_i2l (pc := 8) C dL_chain_8 ?_
  refine r_lastO (pc := 9) C h0 h_3 dL_chain_9 (fun M3 => ?_)
  refine r_goto (pc := 10) C dL_chain_10 (tgt := 17) rfl ?_
  refine r_iconst (pc := 17) C dL_chain_17 kc_0 ?_
  refine r_wid (cs' := 2) (sl' := 6 * 2) (Nat.le_of_ble_eq_true rfl) (Nat.le_of_ble_eq_true rfl) (r_xok ?_)
  exact r_iret (pc := 18) C rfl dL_chain_18
  refine t_ite (fun he => ?_) (fun _ => ?_)
  refine t_catch0 C he (name := "java/lang/IndexOutOfBoundsException") rfl (htab.trans rfl)  rfl (by decide) mw_745 (by decide +kernel) rfl (hpc := 13) (fun q4 => ?_)
  refine r_astore (pc := 13) C [(4, .ref q4), (0, .ref (G.1 0 0 0)), (1, .int v1), (2, .int v2), (3, .ref (G.1 30 0 0))] dL_chain_13 (by decide) rfl ?_
  refine r_iconst (pc := 15) C dL_chain_15 kc_1 ?_
  refine r_wid (cs' := 2) (sl' := 6 * 2) (Nat.le_of_ble_eq_true rfl) (Nat.le_of_ble_eq_true rfl) (r_xok ?_)
  exact r_iret (pc := 16) C rfl dL_chain_16
  exact t_none
theorem okL_chain {l : Launch} {G : WT} (h0 : W0 G) (hT : l.stackTraces = false) (v1 : Int32) (v2 : Int32) (M : Mem) (h_0 : G.2.2.2.1 0 0 0) (h_3 : G.2.2.2.1 30 0 0) : OkH l G yL_chain cL_chain 5 (some FieldType.int) [(0, 10, 13, 27)] 9 146 2 [.ref (G.1 0 0 0), .int v1, .int v2, .ref (G.1 30 0 0)] voI M (pL_chain  v1 v2 M) :=
  OkH.of "PermitParkLaw" rfl (by decide) (Nat.le_of_ble_eq_true rfl) (L := [(0, .ref (G.1 0 0 0)), (1, .int v1), (2, .int v2), (3, .ref (G.1 30 0 0))]) rfl hT (fun K _ hr Y htab C => lL_chain_0 C hr Y htab h0 v1 v2 M h_0 h_3)
def pL_lent (v1 : Int32) (M : Mem) : Option (Except Nat Int32 × Mem) :=
    bndc (pX7_lent v1 M) (fun o2 M1 =>
        chk (decide ((FP.f2d o2) &&& 0x7fffffffffffffff ≤ 0x7ff0000000000000)) <| chk (inB (0 : Int32) 1) <| nm (wD M1 (FP.f2d o2)) fun M3 => xok <| some ((0 : Int32), M3))
     (fun e M1 => if e = 3 then (xok <| some ((1 : Int32), M1))
    else none)
theorem lL_lent_0 {K : KT} {G : WT} (C : Cx K G "PermitParkLaw" cL_lent 4 (some FieldType.int)) (hRm : K.2.2.2.1 = rmX 9 146 1) (Y : Cy0 K) (htab : K.2.2.2.2.2.2.2.2.2.exceptionTable.toList = tableOf [(0, 9, 12, 27)]) (h0 : W0 G) (v1 : Int32) (M : Mem) (h_0 : G.2.2.2.1 0 0 0) (h_2 : G.2.2.2.1 31 0 0) : Run K G 4 0 (6 * 0) (FinX K G voI 1 (6 * 1)) 0 [(0, .ref (G.1 0 0 0)), (1, .int v1), (2, .ref (G.1 31 0 0))] [] M (pL_lent   v1 M) := by
  rw [pL_lent]
  refine r_aload_n (pc := 0) C 2 rfl rfl dL_lent_0 ?_
  refine r_iconst (pc := 1) C dL_lent_1 kc_0 ?_
  refine r_aload_n (pc := 2) C 0 rfl rfl dL_lent_2 ?_
  refine r_iload_n (pc := 3) C 1 rfl rfl dL_lent_3 ?_
  refine r_xVF (pc := 4) C Y (Rx.of hRm rfl rfl rfl rfl) (okX7_lent h0 Y.1 v1 M h_0) (Rc.of C rfl rfl h_0) mw_946 cvX7_lent rfl rfl (Nat.le_of_ble_eq_true rfl) dL_lent_4 (fun o2 M1 => ?_) (fun e M1 => ?_)
  refine r_f2d (pc := 7) C dL_lent_7 ?_
  refine r_dastD (pc := 8) C h0 h_2 dL_lent_8 (fun M3 => ?_)
  refine r_goto (pc := 9) C dL_lent_9 (tgt := 15) rfl ?_
  refine r_iconst (pc := 15) C dL_lent_15 kc_0 ?_
  refine r_wid (cs' := 1) (sl' := 6 * 1) (Nat.le_of_ble_eq_true rfl) (Nat.le_of_ble_eq_true rfl) (r_xok ?_)
  exact r_iret (pc := 16) C rfl dL_lent_16
  refine t_ite (fun he => ?_) (fun _ => ?_)
  refine t_catch0 C he (name := "java/lang/IndexOutOfBoundsException") rfl (htab.trans rfl)  rfl (by decide) mw_745 (by decide +kernel) rfl (hpc := 12) (fun q4 => ?_)
  refine r_astore_n (pc := 12) C [(3, .ref q4), (0, .ref (G.1 0 0 0)), (1, .int v1), (2, .ref (G.1 31 0 0))] dL_lent_12 rfl (by decide) rfl ?_
  refine r_iconst (pc := 13) C dL_lent_13 kc_1 ?_
  refine r_wid (cs' := 1) (sl' := 6 * 1) (Nat.le_of_ble_eq_true rfl) (Nat.le_of_ble_eq_true rfl) (r_xok ?_)
  exact r_iret (pc := 14) C rfl dL_lent_14
  exact t_none
theorem okL_lent {l : Launch} {G : WT} (h0 : W0 G) (hT : l.stackTraces = false) (v1 : Int32) (M : Mem) (h_0 : G.2.2.2.1 0 0 0) (h_2 : G.2.2.2.1 31 0 0) : OkH l G yL_lent cL_lent 4 (some FieldType.int) [(0, 9, 12, 27)] 9 146 1 [.ref (G.1 0 0 0), .int v1, .ref (G.1 31 0 0)] voI M (pL_lent  v1 M) :=
  OkH.of "PermitParkLaw" rfl (by decide) (Nat.le_of_ble_eq_true rfl) (L := [(0, .ref (G.1 0 0 0)), (1, .int v1), (2, .ref (G.1 31 0 0))]) rfl hT (fun K _ hr Y htab C => lL_lent_0 C hr Y htab h0 v1 M h_0 h_2)
def pL_doneIn (v1 : Int32) (v2 : Int32) (M : Mem) : Option (Except Nat Int32 × Mem) :=
    bndc (pX7_doneIn v1 v2 M) (fun o2 M1 =>
        chk (inB (0 : Int32) 1) <| nm (wO M1 (o2.toInt64)) fun M3 => xok <| some ((0 : Int32), M3))
     (fun e M1 => if e = 3 then (xok <| some ((1 : Int32), M1))
    else if e = 2 then (xok <| some ((2 : Int32), M1))
    else none)
theorem lL_doneIn_0 {K : KT} {G : WT} (C : Cx K G "PermitParkLaw" cL_doneIn 5 (some FieldType.int)) (hRm : K.2.2.2.1 = rmX 9 167 2) (Y : Cy0 K) (htab : K.2.2.2.2.2.2.2.2.2.exceptionTable.toList = tableOf [(0, 10, 13, 27), (0, 10, 17, 18)]) (h0 : W0 G) (v1 : Int32) (v2 : Int32) (M : Mem) (h_0 : G.2.2.2.1 0 0 0) (h_3 : G.2.2.2.1 30 0 0) : Run K G 5 0 (6 * 0) (FinX K G voI 2 (6 * 2)) 0 [(0, .ref (G.1 0 0 0)), (1, .int v1), (2, .int v2), (3, .ref (G.1 30 0 0))] [] M (pL_doneIn   v1 v2 M) := by
  rw [pL_doneIn]
  refine r_aload_n (pc := 0) C 3 rfl rfl dL_doneIn_0 ?_
  refine r_iconst (pc := 1) C dL_doneIn_1 kc_0 ?_
  refine r_aload_n (pc := 2) C 0 rfl rfl dL_doneIn_2 ?_
  refine r_iload_n (pc := 3) C 1 rfl rfl dL_doneIn_3 ?_
  refine r_iload_n (pc := 4) C 2 rfl rfl dL_doneIn_4 ?_
  refine r_xVI (pc := 5) C Y (Rx.of hRm rfl rfl rfl rfl) (okX7_doneIn h0 Y.1 v1 v2 M h_0) (Rc.of C rfl rfl h_0) mw_953 cvX7_doneIn rfl rfl (Nat.le_of_ble_eq_true rfl) dL_doneIn_5 (fun o2 M1 => ?_) (fun e M1 => ?_)
  refine r_i2l (pc := 8) C dL_doneIn_8 ?_
  refine r_lastO (pc := 9) C h0 h_3 dL_doneIn_9 (fun M3 => ?_)
  refine r_goto (pc := 10) C dL_doneIn_10 (tgt := 21) rfl ?_
  refine r_iconst (pc := 21) C dL_doneIn_21 kc_0 ?_
  refine r_wid (cs' := 2) (sl' := 6 * 2) (Nat.le_of_ble_eq_true rfl) (Nat.le_of_ble_eq_true rfl) (r_xok ?_)
  exact r_iret (pc := 22) C rfl dL_doneIn_22
  refine t_ite (fun he => ?_) (fun _ => ?_)
  refine t_catch0 C he (name := "java/lang/IndexOutOfBoundsException") rfl (htab.trans rfl)  rfl (by decide) mw_745 (by decide +kernel) rfl (hpc := 13) (fun q4 => ?_)
  refine r_astore (pc := 13) C [(4, .ref q4), (0, .ref (G.1 0 0 0)), (1, .int v1), (2, .int v2), (3, .ref (G.1 30 0 0))] dL_doneIn_13 (by decide) rfl ?_
  refine r_iconst (pc := 15) C dL_doneIn_15 kc_1 ?_
  refine r_wid (cs' := 2) (sl' := 6 * 2) (Nat.le_of_ble_eq_true rfl) (Nat.le_of_ble_eq_true rfl) (r_xok ?_)
  exact r_iret (pc := 16) C rfl dL_doneIn_16
  refine t_ite (fun he => ?_) (fun _ => ?_)
  refine t_catch1 C he (name := "java/lang/IllegalArgumentException") rfl (htab.trans rfl) mw_745 (by decide) (by decide +kernel) rfl (by decide) mw_703 (by decide +kernel) rfl (hpc := 17) (fun q5 => ?_)
  refine r_astore (pc := 17) C [(4, .ref q5), (0, .ref (G.1 0 0 0)), (1, .int v1), (2, .int v2), (3, .ref (G.1 30 0 0))] dL_doneIn_17 (by decide) rfl ?_
  refine r_iconst (pc := 19) C dL_doneIn_19 kc_2 ?_
  refine r_wid (cs' := 2) (sl' := 6 * 2) (Nat.le_of_ble_eq_true rfl) (Nat.le_of_ble_eq_true rfl) (r_xok ?_)
  exact r_iret (pc := 20) C rfl dL_doneIn_20
  exact t_none
theorem okL_doneIn {l : Launch} {G : WT} (h0 : W0 G) (hT : l.stackTraces = false) (v1 : Int32) (v2 : Int32) (M : Mem) (h_0 : G.2.2.2.1 0 0 0) (h_3 : G.2.2.2.1 30 0 0) : OkH l G yL_doneIn cL_doneIn 5 (some FieldType.int) [(0, 10, 13, 27), (0, 10, 17, 18)] 9 167 2 [.ref (G.1 0 0 0), .int v1, .int v2, .ref (G.1 30 0 0)] voI M (pL_doneIn  v1 v2 M) :=
  OkH.of "PermitParkLaw" rfl (by decide) (Nat.le_of_ble_eq_true rfl) (L := [(0, .ref (G.1 0 0 0)), (1, .int v1), (2, .int v2), (3, .ref (G.1 30 0 0))]) rfl hT (fun K _ hr Y htab C => lL_doneIn_0 C hr Y htab h0 v1 v2 M h_0 h_3)
def pL_returnsIn (v1 : Int32) (v2 : Int32) (M : Mem) : Option (Except Nat Int32 × Mem) :=
    bndc (pX7_returnsIn v1 v2 M) (fun o2 M1 =>
        chk (inB (0 : Int32) 1) <| nm (wO M1 (o2.toInt64)) fun M3 => xok <| some ((0 : Int32), M3))
     (fun e M1 => if e = 3 then (xok <| some ((1 : Int32), M1))
    else if e = 2 then (xok <| some ((2 : Int32), M1))
    else none)
theorem lL_returnsIn_0 {K : KT} {G : WT} (C : Cx K G "PermitParkLaw" cL_returnsIn 5 (some FieldType.int)) (hRm : K.2.2.2.1 = rmX 9 168 2) (Y : Cy0 K) (htab : K.2.2.2.2.2.2.2.2.2.exceptionTable.toList = tableOf [(0, 10, 13, 27), (0, 10, 17, 18)]) (h0 : W0 G) (v1 : Int32) (v2 : Int32) (M : Mem) (h_0 : G.2.2.2.1 0 0 0) (h_3 : G.2.2.2.1 30 0 0) : Run K G 5 0 (6 * 0) (FinX K G voI 2 (6 * 2)) 0 [(0, .ref (G.1 0 0 0)), (1, .int v1), (2, .int v2), (3, .ref (G.1 30 0 0))] [] M (pL_returnsIn   v1 v2 M) := by
  rw [pL_returnsIn]
  refine r_aload_n (pc := 0) C 3 rfl rfl dL_returnsIn_0 ?_
  refine r_iconst (pc := 1) C dL_returnsIn_1 kc_0 ?_
  refine r_aload_n (pc := 2) C 0 rfl rfl dL_returnsIn_2 ?_
  refine r_iload_n (pc := 3) C 1 rfl rfl dL_returnsIn_3 ?_
  refine r_iload_n (pc := 4) C 2 rfl rfl dL_returnsIn_4 ?_
  refine r_xVI (pc := 5) C Y (Rx.of hRm rfl rfl rfl rfl) (okX7_returnsIn h0 Y.1 v1 v2 M h_0) (Rc.of C rfl rfl h_0) mw_960 cvX7_returnsIn rfl rfl (Nat.le_of_ble_eq_true rfl) dL_returnsIn_5 (fun o2 M1 => ?_) (fun e M1 => ?_)
  refine r_i2l (pc := 8) C dL_returnsIn_8 ?_
  refine r_lastO (pc := 9) C h0 h_3 dL_returnsIn_9 (fun M3 => ?_)
  refine r_goto (pc := 10) C dL_returnsIn_10 (tgt := 21) rfl ?_
  refine r_iconst (pc := 21) C dL_returnsIn_21 kc_0 ?_
  refine r_wid (cs' := 2) (sl' := 6 * 2) (Nat.le_of_ble_eq_true rfl) (Nat.le_of_ble_eq_true rfl) (r_xok ?_)
  exact r_iret (pc := 22) C rfl dL_returnsIn_22
  refine t_ite (fun he => ?_) (fun _ => ?_)
  refine t_catch0 C he (name := "java/lang/IndexOutOfBoundsException") rfl (htab.trans rfl)  rfl (by decide) mw_745 (by decide +kernel) rfl (hpc := 13) (fun q4 => ?_)
  refine r_astore (pc := 13) C [(4, .ref q4), (0, .ref (G.1 0 0 0)), (1, .int v1), (2, .int v2), (3, .ref (G.1 30 0 0))] dL_returnsIn_13 (by decide) rfl ?_
  refine r_iconst (pc := 15) C dL_returnsIn_15 kc_1 ?_
  refine r_wid (cs' := 2) (sl' := 6 * 2) (Nat.le_of_ble_eq_true rfl) (Nat.le_of_ble_eq_true rfl) (r_xok ?_)
  exact r_iret (pc := 16) C rfl dL_returnsIn_16
  refine t_ite (fun he => ?_) (fun _ => ?_)
  refine t_catch1 C he (name := "java/lang/IllegalArgumentException") rfl (htab.trans rfl) mw_745 (by decide) (by decide +kernel) rfl (by decide) mw_703 (by decide +kernel) rfl (hpc := 17) (fun q5 => ?_)
  refine r_astore (pc := 17) C [(4, .ref q5), (0, .ref (G.1 0 0 0)), (1, .int v1), (2, .int v2), (3, .ref (G.1 30 0 0))] dL_returnsIn_17 (by decide) rfl ?_
  refine r_iconst (pc := 19) C dL_returnsIn_19 kc_2 ?_
  refine r_wid (cs' := 2) (sl' := 6 * 2) (Nat.le_of_ble_eq_true rfl) (Nat.le_of_ble_eq_true rfl) (r_xok ?_)
  exact r_iret (pc := 20) C rfl dL_returnsIn_20
  exact t_none
theorem okL_returnsIn {l : Launch} {G : WT} (h0 : W0 G) (hT : l.stackTraces = false) (v1 : Int32) (v2 : Int32) (M : Mem) (h_0 : G.2.2.2.1 0 0 0) (h_3 : G.2.2.2.1 30 0 0) : OkH l G yL_returnsIn cL_returnsIn 5 (some FieldType.int) [(0, 10, 13, 27), (0, 10, 17, 18)] 9 168 2 [.ref (G.1 0 0 0), .int v1, .int v2, .ref (G.1 30 0 0)] voI M (pL_returnsIn  v1 v2 M) :=
  OkH.of "PermitParkLaw" rfl (by decide) (Nat.le_of_ble_eq_true rfl) (L := [(0, .ref (G.1 0 0 0)), (1, .int v1), (2, .int v2), (3, .ref (G.1 30 0 0))]) rfl hT (fun K _ hr Y htab C => lL_returnsIn_0 C hr Y htab h0 v1 v2 M h_0 h_3)
def pL_ahead (v1 : Int32) (v2 : Int32) (M : Mem) : Option (Except Nat Int32 × Mem) :=
    bndc (pX7_ahead v1 v2 M) (fun o2 M1 =>
        chk (inB (0 : Int32) 1) <| nm (wO M1 (o2.toInt64)) fun M3 => xok <| some ((0 : Int32), M3))
     (fun e M1 => if e = 2 then (xok <| some ((1 : Int32), M1))
    else none)
theorem lL_ahead_0 {K : KT} {G : WT} (C : Cx K G "PermitParkLaw" cL_ahead 5 (some FieldType.int)) (hRm : K.2.2.2.1 = rmX 8 166 2) (Y : Cy0 K) (htab : K.2.2.2.2.2.2.2.2.2.exceptionTable.toList = tableOf [(0, 10, 13, 18)]) (h0 : W0 G) (v1 : Int32) (v2 : Int32) (M : Mem) (h_0 : G.2.2.2.1 0 0 0) (h_3 : G.2.2.2.1 30 0 0) : Run K G 5 0 (6 * 0) (FinX K G voI 2 (6 * 2)) 0 [(0, .ref (G.1 0 0 0)), (1, .int v1), (2, .int v2), (3, .ref (G.1 30 0 0))] [] M (pL_ahead   v1 v2 M) := by
  rw [pL_ahead]
  refine r_aload_n (pc := 0) C 3 rfl rfl dL_ahead_0 ?_
  refine r_iconst (pc := 1) C dL_ahead_1 kc_0 ?_
  refine r_aload_n (pc := 2) C 0 rfl rfl dL_ahead_2 ?_
  refine r_iload_n (pc := 3) C 1 rfl rfl dL_ahead_3 ?_
  refine r_iload_n (pc := 4) C 2 rfl rfl dL_ahead_4 ?_
  refine r_xVI (pc := 5) C Y (Rx.of hRm rfl rfl rfl rfl) (okX7_ahead h0 Y.1 v1 v2 M h_0) (Rc.of C rfl rfl h_0) mw_971 cvX7_ahead rfl rfl (Nat.le_of_ble_eq_true rfl) dL_ahead_5 (fun o2 M1 => ?_) (fun e M1 => ?_)
  refine r_i2l (pc := 8) C dL_ahead_8 ?_
  refine r_lastO (pc := 9) C h0 h_3 dL_ahead_9 (fun M3 => ?_)
  refine r_goto (pc := 10) C dL_ahead_10 (tgt := 17) rfl ?_
  refine r_iconst (pc := 17) C dL_ahead_17 kc_0 ?_
  refine r_wid (cs' := 2) (sl' := 6 * 2) (Nat.le_of_ble_eq_true rfl) (Nat.le_of_ble_eq_true rfl) (r_xok ?_)
  exact r_iret (pc := 18) C rfl dL_ahead_18
  refine t_ite (fun he => ?_) (fun _ => ?_)
  refine t_catch0 C he (name := "java/lang/IllegalArgumentException") rfl (htab.trans rfl)  rfl (by decide) mw_703 (by decide +kernel) rfl (hpc := 13) (fun q4 => ?_)
  refine r_astore (pc := 13) C [(4, .ref q4), (0, .ref (G.1 0 0 0)), (1, .int v1), (2, .int v2), (3, .ref (G.1 30 0 0))] dL_ahead_13 (by decide) rfl ?_
  refine r_iconst (pc := 15) C dL_ahead_15 kc_1 ?_
  refine r_wid (cs' := 2) (sl' := 6 * 2) (Nat.le_of_ble_eq_true rfl) (Nat.le_of_ble_eq_true rfl) (r_xok ?_)
  exact r_iret (pc := 16) C rfl dL_ahead_16
  exact t_none
theorem okL_ahead {l : Launch} {G : WT} (h0 : W0 G) (hT : l.stackTraces = false) (v1 : Int32) (v2 : Int32) (M : Mem) (h_0 : G.2.2.2.1 0 0 0) (h_3 : G.2.2.2.1 30 0 0) : OkH l G yL_ahead cL_ahead 5 (some FieldType.int) [(0, 10, 13, 18)] 8 166 2 [.ref (G.1 0 0 0), .int v1, .int v2, .ref (G.1 30 0 0)] voI M (pL_ahead  v1 v2 M) :=
  OkH.of "PermitParkLaw" rfl (by decide) (Nat.le_of_ble_eq_true rfl) (L := [(0, .ref (G.1 0 0 0)), (1, .int v1), (2, .int v2), (3, .ref (G.1 30 0 0))]) rfl hT (fun K _ hr Y htab C => lL_ahead_0 C hr Y htab h0 v1 v2 M h_0 h_3)
def pL_bestBase (v1 : Int32) (v2 : Int32) (M : Mem) : Option (Except Nat Int32 × Mem) :=
    bndc (pX7_bestBase v1 v2 M) (fun o2 M1 =>
        chk (inB (0 : Int32) 1) <| nm (wO M1 (o2.toInt64)) fun M3 => xok <| some ((0 : Int32), M3))
     (fun e M1 => if e = 3 then (xok <| some ((1 : Int32), M1))
    else if e = 2 then (xok <| some ((2 : Int32), M1))
    else none)
theorem lL_bestBase_0 {K : KT} {G : WT} (C : Cx K G "PermitParkLaw" cL_bestBase 5 (some FieldType.int)) (hRm : K.2.2.2.1 = rmX 9 170 2) (Y : Cy0 K) (htab : K.2.2.2.2.2.2.2.2.2.exceptionTable.toList = tableOf [(0, 10, 13, 27), (0, 10, 17, 18)]) (h0 : W0 G) (v1 : Int32) (v2 : Int32) (M : Mem) (h_0 : G.2.2.2.1 0 0 0) (h_3 : G.2.2.2.1 30 0 0) : Run K G 5 0 (6 * 0) (FinX K G voI 2 (6 * 2)) 0 [(0, .ref (G.1 0 0 0)), (1, .int v1), (2, .int v2), (3, .ref (G.1 30 0 0))] [] M (pL_bestBase   v1 v2 M) := by
  rw [pL_bestBase]
  refine r_aload_n (pc := 0) C 3 rfl rfl dL_bestBase_0 ?_
  refine r_iconst (pc := 1) C dL_bestBase_1 kc_0 ?_
  refine r_aload_n (pc := 2) C 0 rfl rfl dL_bestBase_2 ?_
  refine r_iload_n (pc := 3) C 1 rfl rfl dL_bestBase_3 ?_
  refine r_iload_n (pc := 4) C 2 rfl rfl dL_bestBase_4 ?_
  refine r_xVI (pc := 5) C Y (Rx.of hRm rfl rfl rfl rfl) (okX7_bestBase h0 Y.1 v1 v2 M h_0) (Rc.of C rfl rfl h_0) mw_983 cvX7_bestBase rfl rfl (Nat.le_of_ble_eq_true rfl) dL_bestBase_5 (fun o2 M1 => ?_) (fun e M1 => ?_)
  refine r_i2l (pc := 8) C dL_bestBase_8 ?_
  refine r_lastO (pc := 9) C h0 h_3 dL_bestBase_9 (fun M3 => ?_)
  refine r_goto (pc := 10) C dL_bestBase_10 (tgt := 21) rfl ?_
  refine r_iconst (pc := 21) C dL_bestBase_21 kc_0 ?_
  refine r_wid (cs' := 2) (sl' := 6 * 2) (Nat.le_of_ble_eq_true rfl) (Nat.le_of_ble_eq_true rfl) (r_xok ?_)
  exact r_iret (pc := 22) C rfl dL_bestBase_22
  refine t_ite (fun he => ?_) (fun _ => ?_)
  refine t_catch0 C he (name := "java/lang/IndexOutOfBoundsException") rfl (htab.trans rfl)  rfl (by decide) mw_745 (by decide +kernel) rfl (hpc := 13) (fun q4 => ?_)
  refine r_astore (pc := 13) C [(4, .ref q4), (0, .ref (G.1 0 0 0)), (1, .int v1), (2, .int v2), (3, .ref (G.1 30 0 0))] dL_bestBase_13 (by decide) rfl ?_
  refine r_iconst (pc := 15) C dL_bestBase_15 kc_1 ?_
  refine r_wid (cs' := 2) (sl' := 6 * 2) (Nat.le_of_ble_eq_true rfl) (Nat.le_of_ble_eq_true rfl) (r_xok ?_)
  exact r_iret (pc := 16) C rfl dL_bestBase_16
  refine t_ite (fun he => ?_) (fun _ => ?_)
  refine t_catch1 C he (name := "java/lang/IllegalArgumentException") rfl (htab.trans rfl) mw_745 (by decide) (by decide +kernel) rfl (by decide) mw_703 (by decide +kernel) rfl (hpc := 17) (fun q5 => ?_)
  refine r_astore (pc := 17) C [(4, .ref q5), (0, .ref (G.1 0 0 0)), (1, .int v1), (2, .int v2), (3, .ref (G.1 30 0 0))] dL_bestBase_17 (by decide) rfl ?_
  refine r_iconst (pc := 19) C dL_bestBase_19 kc_2 ?_
  refine r_wid (cs' := 2) (sl' := 6 * 2) (Nat.le_of_ble_eq_true rfl) (Nat.le_of_ble_eq_true rfl) (r_xok ?_)
  exact r_iret (pc := 20) C rfl dL_bestBase_20
  exact t_none
theorem okL_bestBase {l : Launch} {G : WT} (h0 : W0 G) (hT : l.stackTraces = false) (v1 : Int32) (v2 : Int32) (M : Mem) (h_0 : G.2.2.2.1 0 0 0) (h_3 : G.2.2.2.1 30 0 0) : OkH l G yL_bestBase cL_bestBase 5 (some FieldType.int) [(0, 10, 13, 27), (0, 10, 17, 18)] 9 170 2 [.ref (G.1 0 0 0), .int v1, .int v2, .ref (G.1 30 0 0)] voI M (pL_bestBase  v1 v2 M) :=
  OkH.of "PermitParkLaw" rfl (by decide) (Nat.le_of_ble_eq_true rfl) (L := [(0, .ref (G.1 0 0 0)), (1, .int v1), (2, .int v2), (3, .ref (G.1 30 0 0))]) rfl hT (fun K _ hr Y htab C => lL_bestBase_0 C hr Y htab h0 v1 v2 M h_0 h_3)
def pL_save (v1 : Int32) (M : Mem) : Option (Except Nat Int32 × Mem) :=
    bndc (pX7_save v1 M) (fun o2 M1 =>
        xok <| some ((0 : Int32), M1))
     (fun e M1 => if e = 2 then (xok <| some ((1 : Int32), M1))
    else none)
theorem lL_save_0 {K : KT} {G : WT} (C : Cx K G "PermitParkLaw" cL_save 3 (some FieldType.int)) (hRm : K.2.2.2.1 = rmX 8 164 1) (Y : Cy0 K) (htab : K.2.2.2.2.2.2.2.2.2.exceptionTable.toList = tableOf [(0, 5, 8, 18)]) (h0 : W0 G) (v1 : Int32) (M : Mem) (h_0 : G.2.2.2.1 0 0 0) : Run K G 3 0 (6 * 0) (FinX K G voI 1 (6 * 1)) 0 [(0, .ref (G.1 0 0 0)), (1, .int v1)] [] M (pL_save   v1 M) := by
  rw [pL_save]
  refine r_aload_n (pc := 0) C 0 rfl rfl dL_save_0 ?_
  refine r_iload_n (pc := 1) C 1 rfl rfl dL_save_1 ?_
  refine r_xVV (pc := 2) C Y (Rx.of hRm rfl rfl rfl rfl) (okX7_save h0 Y.1 v1 M h_0) (Rc.of C rfl rfl h_0) mw_990 cvX7_save rfl rfl (Nat.le_of_ble_eq_true rfl) dL_save_2 (fun o2 M1 => ?_) (fun e M1 => ?_)
  refine r_goto (pc := 5) C dL_save_5 (tgt := 11) rfl ?_
  refine r_iconst (pc := 11) C dL_save_11 kc_0 ?_
  refine r_wid (cs' := 1) (sl' := 6 * 1) (Nat.le_of_ble_eq_true rfl) (Nat.le_of_ble_eq_true rfl) (r_xok ?_)
  exact r_iret (pc := 12) C rfl dL_save_12
  refine t_ite (fun he => ?_) (fun _ => ?_)
  refine t_catch0 C he (name := "java/lang/IllegalArgumentException") rfl (htab.trans rfl)  rfl (by decide) mw_703 (by decide +kernel) rfl (hpc := 8) (fun q3 => ?_)
  refine r_astore_n (pc := 8) C [(2, .ref q3), (0, .ref (G.1 0 0 0)), (1, .int v1)] dL_save_8 rfl (by decide) rfl ?_
  refine r_iconst (pc := 9) C dL_save_9 kc_1 ?_
  refine r_wid (cs' := 1) (sl' := 6 * 1) (Nat.le_of_ble_eq_true rfl) (Nat.le_of_ble_eq_true rfl) (r_xok ?_)
  exact r_iret (pc := 10) C rfl dL_save_10
  exact t_none
theorem okL_save {l : Launch} {G : WT} (h0 : W0 G) (hT : l.stackTraces = false) (v1 : Int32) (M : Mem) (h_0 : G.2.2.2.1 0 0 0) : OkH l G yL_save cL_save 3 (some FieldType.int) [(0, 5, 8, 18)] 8 164 1 [.ref (G.1 0 0 0), .int v1] voI M (pL_save  v1 M) :=
  OkH.of "PermitParkLaw" rfl (by decide) (Nat.le_of_ble_eq_true rfl) (L := [(0, .ref (G.1 0 0 0)), (1, .int v1)]) rfl hT (fun K _ hr Y htab C => lL_save_0 C hr Y htab h0 v1 M h_0)
def pL_restore (v1 : Int32) (M : Mem) : Option (Except Nat Int32 × Mem) :=
    bndc (pX7_restore v1 M) (fun o2 M1 =>
        xok <| some ((0 : Int32), M1))
     (fun e M1 => if e = 2 then (xok <| some ((1 : Int32), M1))
    else if e = 1 then (xok <| some ((2 : Int32), M1))
    else none)
theorem lL_restore_0 {K : KT} {G : WT} (C : Cx K G "PermitParkLaw" cL_restore 3 (some FieldType.int)) (hRm : K.2.2.2.1 = rmX 8 164 2) (Y : Cy0 K) (htab : K.2.2.2.2.2.2.2.2.2.exceptionTable.toList = tableOf [(0, 5, 8, 18), (0, 5, 11, 13)]) (h0 : W0 G) (v1 : Int32) (M : Mem) (h_0 : G.2.2.2.1 0 0 0) : Run K G 3 0 (6 * 0) (FinX K G voI 2 (6 * 2)) 0 [(0, .ref (G.1 0 0 0)), (1, .int v1)] [] M (pL_restore   v1 M) := by
  rw [pL_restore]
  refine r_aload_n (pc := 0) C 0 rfl rfl dL_restore_0 ?_
  refine r_iload_n (pc := 1) C 1 rfl rfl dL_restore_1 ?_
  refine r_xVV (pc := 2) C Y (Rx.of hRm rfl rfl rfl rfl) (okX7_restore h0 Y.1 v1 M h_0) (Rc.of C rfl rfl h_0) mw_997 cvX7_restore rfl rfl (Nat.le_of_ble_eq_true rfl) dL_restore_2 (fun o2 M1 => ?_) (fun e M1 => ?_)
  refine r_goto (pc := 5) C dL_restore_5 (tgt := 14) rfl ?_
  refine r_iconst (pc := 14) C dL_restore_14 kc_0 ?_
  refine r_wid (cs' := 2) (sl' := 6 * 2) (Nat.le_of_ble_eq_true rfl) (Nat.le_of_ble_eq_true rfl) (r_xok ?_)
  exact r_iret (pc := 15) C rfl dL_restore_15
  refine t_ite (fun he => ?_) (fun _ => ?_)
  refine t_catch0 C he (name := "java/lang/IllegalArgumentException") rfl (htab.trans rfl)  rfl (by decide) mw_703 (by decide +kernel) rfl (hpc := 8) (fun q3 => ?_)
  refine r_astore_n (pc := 8) C [(2, .ref q3), (0, .ref (G.1 0 0 0)), (1, .int v1)] dL_restore_8 rfl (by decide) rfl ?_
  refine r_iconst (pc := 9) C dL_restore_9 kc_1 ?_
  refine r_wid (cs' := 2) (sl' := 6 * 2) (Nat.le_of_ble_eq_true rfl) (Nat.le_of_ble_eq_true rfl) (r_xok ?_)
  exact r_iret (pc := 10) C rfl dL_restore_10
  refine t_ite (fun he => ?_) (fun _ => ?_)
  refine t_catch1 C he (name := "java/lang/IllegalStateException") rfl (htab.trans rfl) mw_703 (by decide) (by decide +kernel) rfl (by decide) mw_624 (by decide +kernel) rfl (hpc := 11) (fun q4 => ?_)
  refine r_astore_n (pc := 11) C [(2, .ref q4), (0, .ref (G.1 0 0 0)), (1, .int v1)] dL_restore_11 rfl (by decide) rfl ?_
  refine r_iconst (pc := 12) C dL_restore_12 kc_2 ?_
  refine r_wid (cs' := 2) (sl' := 6 * 2) (Nat.le_of_ble_eq_true rfl) (Nat.le_of_ble_eq_true rfl) (r_xok ?_)
  exact r_iret (pc := 13) C rfl dL_restore_13
  exact t_none
theorem okL_restore {l : Launch} {G : WT} (h0 : W0 G) (hT : l.stackTraces = false) (v1 : Int32) (M : Mem) (h_0 : G.2.2.2.1 0 0 0) : OkH l G yL_restore cL_restore 3 (some FieldType.int) [(0, 5, 8, 18), (0, 5, 11, 13)] 8 164 2 [.ref (G.1 0 0 0), .int v1] voI M (pL_restore  v1 M) :=
  OkH.of "PermitParkLaw" rfl (by decide) (Nat.le_of_ble_eq_true rfl) (L := [(0, .ref (G.1 0 0 0)), (1, .int v1)]) rfl hT (fun K _ hr Y htab C => lL_restore_0 C hr Y htab h0 v1 M h_0)
end
