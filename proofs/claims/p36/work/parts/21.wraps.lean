/-! ===== pictures: the law's calls ===== -/
section
set_option maxRecDepth 4000
def pL_addThread (v1 : Int32) (v2 : Int32) (v3 : Int32) (M : Mem) : Option (Int32 × Mem) :=
    bnd (pX7_addThread v1 v2 v3 M) fun o2 M1 => some (o2, M1)
theorem lL_addThread_0 {K : KT} {G : WT} (C : Cx K G "PermitParkLaw" cL_addThread 5 (some FieldType.int)) (hRm : K.2.2.2.1 = rmX 3 67 0) (Y : Cy0 K) (h0 : W0 G) (v1 : Int32) (v2 : Int32) (v3 : Int32) (M : Mem) (h_0 : G.2.2.2.1 0 0 0) : Run K G 5 0 (6 * 0) (FinN K G voI 0) 0 [(0, .ref (G.1 0 0 0)), (1, .int v1), (2, .int v2), (3, .int v3)] [] M (pL_addThread   v1 v2 v3 M) := by
  rw [pL_addThread]
  refine r_aload_n (pc := 0) C 0 rfl rfl dL_addThread_0 ?_
  refine r_iload_n (pc := 1) C 1 rfl rfl dL_addThread_1 ?_
  refine r_iload_n (pc := 2) C 2 rfl rfl dL_addThread_2 ?_
  refine r_iload_n (pc := 3) C 3 rfl rfl dL_addThread_3 ?_
  refine r_wVI (pc := 4) C (Rx.of hRm rfl rfl rfl rfl) (okX7_addThread h0 v1 v2 v3 M h_0) (Rc.of C rfl rfl h_0) mw_311 cvX7_addThread rfl rfl (Nat.le_of_ble_eq_true rfl) dL_addThread_4 (fun o2 M1 => ?_)
  refine r_wid (cs' := 0) (sl' := 6 * 0) (Nat.le_of_ble_eq_true rfl) (Nat.le_of_ble_eq_true rfl) (r_nok ?_)
  exact r_iret (pc := 7) C rfl dL_addThread_7
theorem okL_addThread {l : Launch} {G : WT} (h0 : W0 G) (hT : l.stackTraces = false) (v1 : Int32) (v2 : Int32) (v3 : Int32) (M : Mem) (h_0 : G.2.2.2.1 0 0 0) : OkH l G yL_addThread cL_addThread 5 (some FieldType.int) [(0, 7, 8, 43), (0, 7, 13, 45)] 3 67 0 [.ref (G.1 0 0 0), .int v1, .int v2, .int v3] voI M (xok (pL_addThread  v1 v2 v3 M)) :=
  OkH.of "PermitParkLaw" rfl (by decide) (Nat.le_of_ble_eq_true rfl) (L := [(0, .ref (G.1 0 0 0)), (1, .int v1), (2, .int v2), (3, .int v3)]) rfl hT (fun K _ hr Y htab C => r_ofN (lL_addThread_0 C hr Y h0 v1 v2 v3 M h_0))
def pL_addInstruction (v1 : Int32) (v2 : Int32) (v3 : Int32) (M : Mem) : Option (Int32 × Mem) :=
    bnd (pX7_addInstruction v1 v2 v3 M) fun o2 M1 => some (o2, M1)
theorem lL_addInstruction_0 {K : KT} {G : WT} (C : Cx K G "PermitParkLaw" cL_addInstruction 5 (some FieldType.int)) (hRm : K.2.2.2.1 = rmX 3 67 0) (Y : Cy0 K) (h0 : W0 G) (v1 : Int32) (v2 : Int32) (v3 : Int32) (M : Mem) (h_0 : G.2.2.2.1 0 0 0) : Run K G 5 0 (6 * 0) (FinN K G voI 0) 0 [(0, .ref (G.1 0 0 0)), (1, .int v1), (2, .int v2), (3, .int v3)] [] M (pL_addInstruction   v1 v2 v3 M) := by
  rw [pL_addInstruction]
  refine r_aload_n (pc := 0) C 0 rfl rfl dL_addInstruction_0 ?_
  refine r_iload_n (pc := 1) C 1 rfl rfl dL_addInstruction_1 ?_
  refine r_iload_n (pc := 2) C 2 rfl rfl dL_addInstruction_2 ?_
  refine r_iload_n (pc := 3) C 3 rfl rfl dL_addInstruction_3 ?_
  refine r_wVI (pc := 4) C (Rx.of hRm rfl rfl rfl rfl) (okX7_addInstruction h0 v1 v2 v3 M h_0) (Rc.of C rfl rfl h_0) mw_426 cvX7_addInstruction rfl rfl (Nat.le_of_ble_eq_true rfl) dL_addInstruction_4 (fun o2 M1 => ?_)
  refine r_wid (cs' := 0) (sl' := 6 * 0) (Nat.le_of_ble_eq_true rfl) (Nat.le_of_ble_eq_true rfl) (r_nok ?_)
  exact r_iret (pc := 7) C rfl dL_addInstruction_7
theorem okL_addInstruction {l : Launch} {G : WT} (h0 : W0 G) (hT : l.stackTraces = false) (v1 : Int32) (v2 : Int32) (v3 : Int32) (M : Mem) (h_0 : G.2.2.2.1 0 0 0) : OkH l G yL_addInstruction cL_addInstruction 5 (some FieldType.int) [(0, 7, 8, 50), (0, 7, 13, 43), (0, 7, 18, 45)] 3 67 0 [.ref (G.1 0 0 0), .int v1, .int v2, .int v3] voI M (xok (pL_addInstruction  v1 v2 v3 M)) :=
  OkH.of "PermitParkLaw" rfl (by decide) (Nat.le_of_ble_eq_true rfl) (L := [(0, .ref (G.1 0 0 0)), (1, .int v1), (2, .int v2), (3, .int v3)]) rfl hT (fun K _ hr Y htab C => r_ofN (lL_addInstruction_0 C hr Y h0 v1 v2 v3 M h_0))
def pL_setBase (v1 : Int32) (v2 : Int32) (M : Mem) : Option (Int32 × Mem) :=
    bnd (pX7_setBase v1 v2 M) fun o2 M1 => some (o2, M1)
theorem lL_setBase_0 {K : KT} {G : WT} (C : Cx K G "PermitParkLaw" cL_setBase 4 (some FieldType.int)) (hRm : K.2.2.2.1 = rmX 3 65 0) (Y : Cy0 K) (h0 : W0 G) (v1 : Int32) (v2 : Int32) (M : Mem) (h_0 : G.2.2.2.1 0 0 0) : Run K G 4 0 (6 * 0) (FinN K G voI 0) 0 [(0, .ref (G.1 0 0 0)), (1, .int v1), (2, .int v2)] [] M (pL_setBase   v1 v2 M) := by
  rw [pL_setBase]
  refine r_aload_n (pc := 0) C 0 rfl rfl dL_setBase_0 ?_
  refine r_iload_n (pc := 1) C 1 rfl rfl dL_setBase_1 ?_
  refine r_iload_n (pc := 2) C 2 rfl rfl dL_setBase_2 ?_
  refine r_wVI (pc := 3) C (Rx.of hRm rfl rfl rfl rfl) (okX7_setBase h0 v1 v2 M h_0) (Rc.of C rfl rfl h_0) mw_751 cvX7_setBase rfl rfl (Nat.le_of_ble_eq_true rfl) dL_setBase_3 (fun o2 M1 => ?_)
  refine r_wid (cs' := 0) (sl' := 6 * 0) (Nat.le_of_ble_eq_true rfl) (Nat.le_of_ble_eq_true rfl) (r_nok ?_)
  exact r_iret (pc := 6) C rfl dL_setBase_6
theorem okL_setBase {l : Launch} {G : WT} (h0 : W0 G) (hT : l.stackTraces = false) (v1 : Int32) (v2 : Int32) (M : Mem) (h_0 : G.2.2.2.1 0 0 0) : OkH l G yL_setBase cL_setBase 4 (some FieldType.int) [(0, 6, 7, 50), (0, 6, 11, 43)] 3 65 0 [.ref (G.1 0 0 0), .int v1, .int v2] voI M (xok (pL_setBase  v1 v2 M)) :=
  OkH.of "PermitParkLaw" rfl (by decide) (Nat.le_of_ble_eq_true rfl) (L := [(0, .ref (G.1 0 0 0)), (1, .int v1), (2, .int v2)]) rfl hT (fun K _ hr Y htab C => r_ofN (lL_setBase_0 C hr Y h0 v1 v2 M h_0))
def pL_set (v1 : Int32) (v2 : Int32) (M : Mem) : Option (Int32 × Mem) :=
    bnd (pX7_set v1 v2 M) fun o2 M1 => some (o2, M1)
theorem lL_set_0 {K : KT} {G : WT} (C : Cx K G "PermitParkLaw" cL_set 4 (some FieldType.int)) (hRm : K.2.2.2.1 = rmX 2 45 0) (Y : Cy0 K) (h0 : W0 G) (v1 : Int32) (v2 : Int32) (M : Mem) (h_0 : G.2.2.2.1 0 0 0) : Run K G 4 0 (6 * 0) (FinN K G voI 0) 0 [(0, .ref (G.1 0 0 0)), (1, .int v1), (2, .int v2)] [] M (pL_set   v1 v2 M) := by
  rw [pL_set]
  refine r_aload_n (pc := 0) C 0 rfl rfl dL_set_0 ?_
  refine r_iload_n (pc := 1) C 1 rfl rfl dL_set_1 ?_
  refine r_iload_n (pc := 2) C 2 rfl rfl dL_set_2 ?_
  refine r_wVI (pc := 3) C (Rx.of hRm rfl rfl rfl rfl) (okX7_set h0 v1 v2 M h_0) (Rc.of C rfl rfl h_0) mw_461 cvX7_set rfl rfl (Nat.le_of_ble_eq_true rfl) dL_set_3 (fun o2 M1 => ?_)
  refine r_wid (cs' := 0) (sl' := 6 * 0) (Nat.le_of_ble_eq_true rfl) (Nat.le_of_ble_eq_true rfl) (r_nok ?_)
  exact r_iret (pc := 6) C rfl dL_set_6
theorem okL_set {l : Launch} {G : WT} (h0 : W0 G) (hT : l.stackTraces = false) (v1 : Int32) (v2 : Int32) (M : Mem) (h_0 : G.2.2.2.1 0 0 0) : OkH l G yL_set cL_set 4 (some FieldType.int) [(0, 6, 7, 43)] 2 45 0 [.ref (G.1 0 0 0), .int v1, .int v2] voI M (xok (pL_set  v1 v2 M)) :=
  OkH.of "PermitParkLaw" rfl (by decide) (Nat.le_of_ble_eq_true rfl) (L := [(0, .ref (G.1 0 0 0)), (1, .int v1), (2, .int v2)]) rfl hT (fun K _ hr Y htab C => r_ofN (lL_set_0 C hr Y h0 v1 v2 M h_0))
def pL_seed (v1 : Int32) (M : Mem) : Option (Int32 × Mem) :=
    bnd (pX7_seed v1 M) fun o2 M1 => some ((0 : Int32), M1)
theorem lL_seed_0 {K : KT} {G : WT} (C : Cx K G "PermitParkLaw" cL_seed 3 (some FieldType.int)) (hRm : K.2.2.2.1 = rmX 2 43 0) (Y : Cy0 K) (h0 : W0 G) (v1 : Int32) (M : Mem) (h_0 : G.2.2.2.1 0 0 0) : Run K G 3 0 (6 * 0) (FinN K G voI 0) 0 [(0, .ref (G.1 0 0 0)), (1, .int v1)] [] M (pL_seed   v1 M) := by
  rw [pL_seed]
  refine r_aload_n (pc := 0) C 0 rfl rfl dL_seed_0 ?_
  refine r_iload_n (pc := 1) C 1 rfl rfl dL_seed_1 ?_
  refine r_wVV (pc := 2) C (Rx.of hRm rfl rfl rfl rfl) (okX7_seed h0 v1 M h_0) (Rc.of C rfl rfl h_0) mw_476 cvX7_seed rfl rfl (Nat.le_of_ble_eq_true rfl) dL_seed_2 (fun o2 M1 => ?_)
  refine r_iconst (pc := 5) C dL_seed_5 kc_0 ?_
  refine r_wid (cs' := 0) (sl' := 6 * 0) (Nat.le_of_ble_eq_true rfl) (Nat.le_of_ble_eq_true rfl) (r_nok ?_)
  exact r_iret (pc := 6) C rfl dL_seed_6
theorem okL_seed {l : Launch} {G : WT} (h0 : W0 G) (hT : l.stackTraces = false) (v1 : Int32) (M : Mem) (h_0 : G.2.2.2.1 0 0 0) : OkH l G yL_seed cL_seed 3 (some FieldType.int) [(0, 6, 7, 43)] 2 43 0 [.ref (G.1 0 0 0), .int v1] voI M (xok (pL_seed  v1 M)) :=
  OkH.of "PermitParkLaw" rfl (by decide) (Nat.le_of_ble_eq_true rfl) (L := [(0, .ref (G.1 0 0 0)), (1, .int v1)]) rfl hT (fun K _ hr Y htab C => r_ofN (lL_seed_0 C hr Y h0 v1 M h_0))
def pL_setFlag (v1 : Int32) (v2 : Int32) (M : Mem) : Option (Int32 × Mem) :=
    bnd (pX7_setFlag v1 v2 M) fun o2 M1 => if o2 = 0 then (some ((0 : Int32), M1))
    else some ((1 : Int32), M1)
theorem lL_setFlag_0 {K : KT} {G : WT} (C : Cx K G "PermitParkLaw" cL_setFlag 4 (some FieldType.int)) (hRm : K.2.2.2.1 = rmX 2 45 0) (Y : Cy0 K) (h0 : W0 G) (v1 : Int32) (v2 : Int32) (M : Mem) (h_0 : G.2.2.2.1 0 0 0) : Run K G 4 0 (6 * 0) (FinN K G voI 0) 0 [(0, .ref (G.1 0 0 0)), (1, .int v1), (2, .int v2)] [] M (pL_setFlag   v1 v2 M) := by
  rw [pL_setFlag]
  refine r_aload_n (pc := 0) C 0 rfl rfl dL_setFlag_0 ?_
  refine r_iload_n (pc := 1) C 1 rfl rfl dL_setFlag_1 ?_
  refine r_iload_n (pc := 2) C 2 rfl rfl dL_setFlag_2 ?_
  refine r_wVI (pc := 3) C (Rx.of hRm rfl rfl rfl rfl) (okX7_setFlag h0 v1 v2 M h_0) (Rc.of C rfl rfl h_0) mw_743 cvX7_setFlag rfl rfl (Nat.le_of_ble_eq_true rfl) dL_setFlag_3 (fun o2 M1 => ?_)
  refine r_if_eq (pc := 6) C dL_setFlag_6 (tgt := 13) rfl ?_ ?_
  refine r_iconst (pc := 13) C dL_setFlag_13 kc_0 ?_
  refine r_wid (cs' := 0) (sl' := 6 * 0) (Nat.le_of_ble_eq_true rfl) (Nat.le_of_ble_eq_true rfl) (r_nok ?_)
  exact r_iret (pc := 14) C rfl dL_setFlag_14
  refine r_iconst (pc := 9) C dL_setFlag_9 kc_1 ?_
  refine r_goto (pc := 10) C dL_setFlag_10 (tgt := 14) rfl ?_
  refine r_wid (cs' := 0) (sl' := 6 * 0) (Nat.le_of_ble_eq_true rfl) (Nat.le_of_ble_eq_true rfl) (r_nok ?_)
  exact r_iret (pc := 14) C rfl dL_setFlag_14
theorem okL_setFlag {l : Launch} {G : WT} (h0 : W0 G) (hT : l.stackTraces = false) (v1 : Int32) (v2 : Int32) (M : Mem) (h_0 : G.2.2.2.1 0 0 0) : OkH l G yL_setFlag cL_setFlag 4 (some FieldType.int) [(0, 14, 15, 50)] 2 45 0 [.ref (G.1 0 0 0), .int v1, .int v2] voI M (xok (pL_setFlag  v1 v2 M)) :=
  OkH.of "PermitParkLaw" rfl (by decide) (Nat.le_of_ble_eq_true rfl) (L := [(0, .ref (G.1 0 0 0)), (1, .int v1), (2, .int v2)]) rfl hT (fun K _ hr Y htab C => r_ofN (lL_setFlag_0 C hr Y h0 v1 v2 M h_0))
def pL_count (v1 : Int32) (M : Mem) : Option (Int32 × Mem) :=
    bnd (pX7_count v1 M) fun o2 M1 => some (o2, M1)
theorem lL_count_0 {K : KT} {G : WT} (C : Cx K G "PermitParkLaw" cL_count 3 (some FieldType.int)) (hRm : K.2.2.2.1 = rmX 3 65 0) (Y : Cy0 K) (h0 : W0 G) (v1 : Int32) (M : Mem) (h_0 : G.2.2.2.1 0 0 0) : Run K G 3 0 (6 * 0) (FinN K G voI 0) 0 [(0, .ref (G.1 0 0 0)), (1, .int v1)] [] M (pL_count   v1 M) := by
  rw [pL_count]
  refine r_aload_n (pc := 0) C 0 rfl rfl dL_count_0 ?_
  refine r_iload_n (pc := 1) C 1 rfl rfl dL_count_1 ?_
  refine r_wVI (pc := 2) C (Rx.of hRm rfl rfl rfl rfl) (okX7_count h0 v1 M h_0) (Rc.of C rfl rfl h_0) mw_641 cvX7_count rfl rfl (Nat.le_of_ble_eq_true rfl) dL_count_2 (fun o2 M1 => ?_)
  refine r_wid (cs' := 0) (sl' := 6 * 0) (Nat.le_of_ble_eq_true rfl) (Nat.le_of_ble_eq_true rfl) (r_nok ?_)
  exact r_iret (pc := 5) C rfl dL_count_5
theorem okL_count {l : Launch} {G : WT} (h0 : W0 G) (hT : l.stackTraces = false) (v1 : Int32) (M : Mem) (h_0 : G.2.2.2.1 0 0 0) : OkH l G yL_count cL_count 3 (some FieldType.int) [(0, 5, 6, 43)] 3 65 0 [.ref (G.1 0 0 0), .int v1] voI M (xok (pL_count  v1 M)) :=
  OkH.of "PermitParkLaw" rfl (by decide) (Nat.le_of_ble_eq_true rfl) (L := [(0, .ref (G.1 0 0 0)), (1, .int v1)]) rfl hT (fun K _ hr Y htab C => r_ofN (lL_count_0 C hr Y h0 v1 M h_0))
def pL_thread (v1 : Int32) (v2 : Int32) (M : Mem) : Option (Int32 × Mem) :=
    bnd (pX7_thread v1 v2 M) fun o2 M1 => some (o2, M1)
theorem lL_thread_0 {K : KT} {G : WT} (C : Cx K G "PermitParkLaw" cL_thread 4 (some FieldType.int)) (hRm : K.2.2.2.1 = rmX 3 67 0) (Y : Cy0 K) (h0 : W0 G) (v1 : Int32) (v2 : Int32) (M : Mem) (h_0 : G.2.2.2.1 0 0 0) : Run K G 4 0 (6 * 0) (FinN K G voI 0) 0 [(0, .ref (G.1 0 0 0)), (1, .int v1), (2, .int v2)] [] M (pL_thread   v1 v2 M) := by
  rw [pL_thread]
  refine r_aload_n (pc := 0) C 0 rfl rfl dL_thread_0 ?_
  refine r_iload_n (pc := 1) C 1 rfl rfl dL_thread_1 ?_
  refine r_iload_n (pc := 2) C 2 rfl rfl dL_thread_2 ?_
  refine r_wVI (pc := 3) C (Rx.of hRm rfl rfl rfl rfl) (okX7_thread h0 v1 v2 M h_0) (Rc.of C rfl rfl h_0) mw_660 cvX7_thread rfl rfl (Nat.le_of_ble_eq_true rfl) dL_thread_3 (fun o2 M1 => ?_)
  refine r_wid (cs' := 0) (sl' := 6 * 0) (Nat.le_of_ble_eq_true rfl) (Nat.le_of_ble_eq_true rfl) (r_nok ?_)
  exact r_iret (pc := 6) C rfl dL_thread_6
theorem okL_thread {l : Launch} {G : WT} (h0 : W0 G) (hT : l.stackTraces = false) (v1 : Int32) (v2 : Int32) (M : Mem) (h_0 : G.2.2.2.1 0 0 0) : OkH l G yL_thread cL_thread 4 (some FieldType.int) [(0, 6, 7, 50), (0, 6, 11, 43)] 3 67 0 [.ref (G.1 0 0 0), .int v1, .int v2] voI M (xok (pL_thread  v1 v2 M)) :=
  OkH.of "PermitParkLaw" rfl (by decide) (Nat.le_of_ble_eq_true rfl) (L := [(0, .ref (G.1 0 0 0)), (1, .int v1), (2, .int v2)]) rfl hT (fun K _ hr Y htab C => r_ofN (lL_thread_0 C hr Y h0 v1 v2 M h_0))
def pL_lock (v1 : Int32) (v2 : Int32) (M : Mem) : Option (Int32 × Mem) :=
    bnd (pX7_lock v1 v2 M) fun o2 M1 => some (o2, M1)
theorem lL_lock_0 {K : KT} {G : WT} (C : Cx K G "PermitParkLaw" cL_lock 4 (some FieldType.int)) (hRm : K.2.2.2.1 = rmX 2 44 0) (Y : Cy0 K) (h0 : W0 G) (v1 : Int32) (v2 : Int32) (M : Mem) (h_0 : G.2.2.2.1 0 0 0) : Run K G 4 0 (6 * 0) (FinN K G voI 0) 0 [(0, .ref (G.1 0 0 0)), (1, .int v1), (2, .int v2)] [] M (pL_lock   v1 v2 M) := by
  rw [pL_lock]
  refine r_aload_n (pc := 0) C 0 rfl rfl dL_lock_0 ?_
  refine r_iload_n (pc := 1) C 1 rfl rfl dL_lock_1 ?_
  refine r_iload_n (pc := 2) C 2 rfl rfl dL_lock_2 ?_
  refine r_wVI (pc := 3) C (Rx.of hRm rfl rfl rfl rfl) (okX7_lock h0 v1 v2 M h_0) (Rc.of C rfl rfl h_0) mw_766 cvX7_lock rfl rfl (Nat.le_of_ble_eq_true rfl) dL_lock_3 (fun o2 M1 => ?_)
  refine r_wid (cs' := 0) (sl' := 6 * 0) (Nat.le_of_ble_eq_true rfl) (Nat.le_of_ble_eq_true rfl) (r_nok ?_)
  exact r_iret (pc := 6) C rfl dL_lock_6
theorem okL_lock {l : Launch} {G : WT} (h0 : W0 G) (hT : l.stackTraces = false) (v1 : Int32) (v2 : Int32) (M : Mem) (h_0 : G.2.2.2.1 0 0 0) : OkH l G yL_lock cL_lock 4 (some FieldType.int) [(0, 6, 7, 50)] 2 44 0 [.ref (G.1 0 0 0), .int v1, .int v2] voI M (xok (pL_lock  v1 v2 M)) :=
  OkH.of "PermitParkLaw" rfl (by decide) (Nat.le_of_ble_eq_true rfl) (L := [(0, .ref (G.1 0 0 0)), (1, .int v1), (2, .int v2)]) rfl hT (fun K _ hr Y htab C => r_ofN (lL_lock_0 C hr Y h0 v1 v2 M h_0))
def pL_flag (v1 : Int32) (M : Mem) : Option (Int32 × Mem) :=
    bnd (pX7_flag v1 M) fun o2 M1 => if o2 = 0 then (some ((0 : Int32), M1))
    else some ((1 : Int32), M1)
theorem lL_flag_0 {K : KT} {G : WT} (C : Cx K G "PermitParkLaw" cL_flag 3 (some FieldType.int)) (hRm : K.2.2.2.1 = rmX 2 42 0) (Y : Cy0 K) (h0 : W0 G) (v1 : Int32) (M : Mem) (h_0 : G.2.2.2.1 0 0 0) : Run K G 3 0 (6 * 0) (FinN K G voI 0) 0 [(0, .ref (G.1 0 0 0)), (1, .int v1)] [] M (pL_flag   v1 M) := by
  rw [pL_flag]
  refine r_aload_n (pc := 0) C 0 rfl rfl dL_flag_0 ?_
  refine r_iload_n (pc := 1) C 1 rfl rfl dL_flag_1 ?_
  refine r_wVI (pc := 2) C (Rx.of hRm rfl rfl rfl rfl) (okX7_flag h0 v1 M h_0) (Rc.of C rfl rfl h_0) mw_735 cvX7_flag rfl rfl (Nat.le_of_ble_eq_true rfl) dL_flag_2 (fun o2 M1 => ?_)
  refine r_if_eq (pc := 5) C dL_flag_5 (tgt := 12) rfl ?_ ?_
  refine r_iconst (pc := 12) C dL_flag_12 kc_0 ?_
  refine r_wid (cs' := 0) (sl' := 6 * 0) (Nat.le_of_ble_eq_true rfl) (Nat.le_of_ble_eq_true rfl) (r_nok ?_)
  exact r_iret (pc := 13) C rfl dL_flag_13
  refine r_iconst (pc := 8) C dL_flag_8 kc_1 ?_
  refine r_goto (pc := 9) C dL_flag_9 (tgt := 13) rfl ?_
  refine r_wid (cs' := 0) (sl' := 6 * 0) (Nat.le_of_ble_eq_true rfl) (Nat.le_of_ble_eq_true rfl) (r_nok ?_)
  exact r_iret (pc := 13) C rfl dL_flag_13
theorem okL_flag {l : Launch} {G : WT} (h0 : W0 G) (hT : l.stackTraces = false) (v1 : Int32) (M : Mem) (h_0 : G.2.2.2.1 0 0 0) : OkH l G yL_flag cL_flag 3 (some FieldType.int) [(0, 13, 14, 50)] 2 42 0 [.ref (G.1 0 0 0), .int v1] voI M (xok (pL_flag  v1 M)) :=
  OkH.of "PermitParkLaw" rfl (by decide) (Nat.le_of_ble_eq_true rfl) (L := [(0, .ref (G.1 0 0 0)), (1, .int v1)]) rfl hT (fun K _ hr Y htab C => r_ofN (lL_flag_0 C hr Y h0 v1 M h_0))
def pL_event (v1 : Int32) (v2 : Int32) (M : Mem) : Option (Int32 × Mem) :=
    bnd (pX7_event v1 v2 M) fun o2 M1 => some (o2, M1)
theorem lL_event_0 {K : KT} {G : WT} (C : Cx K G "PermitParkLaw" cL_event 4 (some FieldType.int)) (hRm : K.2.2.2.1 = rmX 2 44 0) (Y : Cy0 K) (h0 : W0 G) (v1 : Int32) (v2 : Int32) (M : Mem) (h_0 : G.2.2.2.1 0 0 0) : Run K G 4 0 (6 * 0) (FinN K G voI 0) 0 [(0, .ref (G.1 0 0 0)), (1, .int v1), (2, .int v2)] [] M (pL_event   v1 v2 M) := by
  rw [pL_event]
  refine r_aload_n (pc := 0) C 0 rfl rfl dL_event_0 ?_
  refine r_iload_n (pc := 1) C 1 rfl rfl dL_event_1 ?_
  refine r_iload_n (pc := 2) C 2 rfl rfl dL_event_2 ?_
  refine r_wVI (pc := 3) C (Rx.of hRm rfl rfl rfl rfl) (okX7_event h0 v1 v2 M h_0) (Rc.of C rfl rfl h_0) mw_809 cvX7_event rfl rfl (Nat.le_of_ble_eq_true rfl) dL_event_3 (fun o2 M1 => ?_)
  refine r_wid (cs' := 0) (sl' := 6 * 0) (Nat.le_of_ble_eq_true rfl) (Nat.le_of_ble_eq_true rfl) (r_nok ?_)
  exact r_iret (pc := 6) C rfl dL_event_6
theorem okL_event {l : Launch} {G : WT} (h0 : W0 G) (hT : l.stackTraces = false) (v1 : Int32) (v2 : Int32) (M : Mem) (h_0 : G.2.2.2.1 0 0 0) : OkH l G yL_event cL_event 4 (some FieldType.int) [(0, 6, 7, 50), (0, 6, 11, 43)] 2 44 0 [.ref (G.1 0 0 0), .int v1, .int v2] voI M (xok (pL_event  v1 v2 M)) :=
  OkH.of "PermitParkLaw" rfl (by decide) (Nat.le_of_ble_eq_true rfl) (L := [(0, .ref (G.1 0 0 0)), (1, .int v1), (2, .int v2)]) rfl hT (fun K _ hr Y htab C => r_ofN (lL_event_0 C hr Y h0 v1 v2 M h_0))
def pL_events (v1 : Int32) (v2 : Int32) (M : Mem) : Option (Int32 × Mem) :=
    bnd (pX7_events v1 v2 M) fun o2 M1 => some (o2, M1)
theorem lL_events_0 {K : KT} {G : WT} (C : Cx K G "PermitParkLaw" cL_events 4 (some FieldType.int)) (hRm : K.2.2.2.1 = rmX 3 68 0) (Y : Cy0 K) (h0 : W0 G) (v1 : Int32) (v2 : Int32) (M : Mem) (h_0 : G.2.2.2.1 0 0 0) : Run K G 4 0 (6 * 0) (FinN K G voI 0) 0 [(0, .ref (G.1 0 0 0)), (1, .int v1), (2, .int v2)] [] M (pL_events   v1 v2 M) := by
  rw [pL_events]
  refine r_aload_n (pc := 0) C 0 rfl rfl dL_events_0 ?_
  refine r_iload_n (pc := 1) C 1 rfl rfl dL_events_1 ?_
  refine r_iload_n (pc := 2) C 2 rfl rfl dL_events_2 ?_
  refine r_wVI (pc := 3) C (Rx.of hRm rfl rfl rfl rfl) (okX7_events h0 v1 v2 M h_0) (Rc.of C rfl rfl h_0) mw_692 cvX7_events rfl rfl (Nat.le_of_ble_eq_true rfl) dL_events_3 (fun o2 M1 => ?_)
  refine r_wid (cs' := 0) (sl' := 6 * 0) (Nat.le_of_ble_eq_true rfl) (Nat.le_of_ble_eq_true rfl) (r_nok ?_)
  exact r_iret (pc := 6) C rfl dL_events_6
theorem okL_events {l : Launch} {G : WT} (h0 : W0 G) (hT : l.stackTraces = false) (v1 : Int32) (v2 : Int32) (M : Mem) (h_0 : G.2.2.2.1 0 0 0) : OkH l G yL_events cL_events 4 (some FieldType.int) [(0, 6, 7, 50), (0, 6, 11, 43)] 3 68 0 [.ref (G.1 0 0 0), .int v1, .int v2] voI M (xok (pL_events  v1 v2 M)) :=
  OkH.of "PermitParkLaw" rfl (by decide) (Nat.le_of_ble_eq_true rfl) (L := [(0, .ref (G.1 0 0 0)), (1, .int v1), (2, .int v2)]) rfl hT (fun K _ hr Y htab C => r_ofN (lL_events_0 C hr Y h0 v1 v2 M h_0))
def pL_wake (v1 : Int32) (M : Mem) : Option (Int32 × Mem) :=
    bnd (pX7_wake v1 M) fun o2 M1 => some (o2, M1)
theorem lL_wake_0 {K : KT} {G : WT} (C : Cx K G "PermitParkLaw" cL_wake 3 (some FieldType.int)) (hRm : K.2.2.2.1 = rmX 5 113 0) (Y : Cy0 K) (h0 : W0 G) (v1 : Int32) (M : Mem) (h_0 : G.2.2.2.1 0 0 0) : Run K G 3 0 (6 * 0) (FinN K G voI 0) 0 [(0, .ref (G.1 0 0 0)), (1, .int v1)] [] M (pL_wake   v1 M) := by
  rw [pL_wake]
  refine r_aload_n (pc := 0) C 0 rfl rfl dL_wake_0 ?_
  refine r_iload_n (pc := 1) C 1 rfl rfl dL_wake_1 ?_
  refine r_wVI (pc := 2) C (Rx.of hRm rfl rfl rfl rfl) (okX7_wake h0 v1 M h_0) (Rc.of C rfl rfl h_0) mw_707 cvX7_wake rfl rfl (Nat.le_of_ble_eq_true rfl) dL_wake_2 (fun o2 M1 => ?_)
  refine r_wid (cs' := 0) (sl' := 6 * 0) (Nat.le_of_ble_eq_true rfl) (Nat.le_of_ble_eq_true rfl) (r_nok ?_)
  exact r_iret (pc := 5) C rfl dL_wake_5
theorem okL_wake {l : Launch} {G : WT} (h0 : W0 G) (hT : l.stackTraces = false) (v1 : Int32) (M : Mem) (h_0 : G.2.2.2.1 0 0 0) : OkH l G yL_wake cL_wake 3 (some FieldType.int) [(0, 5, 6, 50)] 5 113 0 [.ref (G.1 0 0 0), .int v1] voI M (xok (pL_wake  v1 M)) :=
  OkH.of "PermitParkLaw" rfl (by decide) (Nat.le_of_ble_eq_true rfl) (L := [(0, .ref (G.1 0 0 0)), (1, .int v1)]) rfl hT (fun K _ hr Y htab C => r_ofN (lL_wake_0 C hr Y h0 v1 M h_0))
def pL_interrupt (v1 : Int32) (M : Mem) : Option (Int32 × Mem) :=
    bnd (pX7_interrupt v1 M) fun o2 M1 => some (o2, M1)
theorem lL_interrupt_0 {K : KT} {G : WT} (C : Cx K G "PermitParkLaw" cL_interrupt 3 (some FieldType.int)) (hRm : K.2.2.2.1 = rmX 5 113 0) (Y : Cy0 K) (h0 : W0 G) (v1 : Int32) (M : Mem) (h_0 : G.2.2.2.1 0 0 0) : Run K G 3 0 (6 * 0) (FinN K G voI 0) 0 [(0, .ref (G.1 0 0 0)), (1, .int v1)] [] M (pL_interrupt   v1 M) := by
  rw [pL_interrupt]
  refine r_aload_n (pc := 0) C 0 rfl rfl dL_interrupt_0 ?_
  refine r_iload_n (pc := 1) C 1 rfl rfl dL_interrupt_1 ?_
  refine r_wVI (pc := 2) C (Rx.of hRm rfl rfl rfl rfl) (okX7_interrupt h0 v1 M h_0) (Rc.of C rfl rfl h_0) mw_716 cvX7_interrupt rfl rfl (Nat.le_of_ble_eq_true rfl) dL_interrupt_2 (fun o2 M1 => ?_)
  refine r_wid (cs' := 0) (sl' := 6 * 0) (Nat.le_of_ble_eq_true rfl) (Nat.le_of_ble_eq_true rfl) (r_nok ?_)
  exact r_iret (pc := 5) C rfl dL_interrupt_5
theorem okL_interrupt {l : Launch} {G : WT} (h0 : W0 G) (hT : l.stackTraces = false) (v1 : Int32) (M : Mem) (h_0 : G.2.2.2.1 0 0 0) : OkH l G yL_interrupt cL_interrupt 3 (some FieldType.int) [(0, 5, 6, 50)] 5 113 0 [.ref (G.1 0 0 0), .int v1] voI M (xok (pL_interrupt  v1 M)) :=
  OkH.of "PermitParkLaw" rfl (by decide) (Nat.le_of_ble_eq_true rfl) (L := [(0, .ref (G.1 0 0 0)), (1, .int v1)]) rfl hT (fun K _ hr Y htab C => r_ofN (lL_interrupt_0 C hr Y h0 v1 M h_0))
def pL_rouse (v1 : Int32) (M : Mem) : Option (Int32 × Mem) :=
    bnd (pX7_rouse v1 M) fun o2 M1 => if o2 = 0 then (some ((0 : Int32), M1))
    else some ((1 : Int32), M1)
theorem lL_rouse_0 {K : KT} {G : WT} (C : Cx K G "PermitParkLaw" cL_rouse 3 (some FieldType.int)) (hRm : K.2.2.2.1 = rmX 5 112 0) (Y : Cy0 K) (h0 : W0 G) (v1 : Int32) (M : Mem) (h_0 : G.2.2.2.1 0 0 0) : Run K G 3 0 (6 * 0) (FinN K G voI 0) 0 [(0, .ref (G.1 0 0 0)), (1, .int v1)] [] M (pL_rouse   v1 M) := by
  rw [pL_rouse]
  refine r_aload_n (pc := 0) C 0 rfl rfl dL_rouse_0 ?_
  refine r_iload_n (pc := 1) C 1 rfl rfl dL_rouse_1 ?_
  refine r_wVI (pc := 2) C (Rx.of hRm rfl rfl rfl rfl) (okX7_rouse h0 v1 M h_0) (Rc.of C rfl rfl h_0) mw_727 cvX7_rouse rfl rfl (Nat.le_of_ble_eq_true rfl) dL_rouse_2 (fun o2 M1 => ?_)
  refine r_if_eq (pc := 5) C dL_rouse_5 (tgt := 12) rfl ?_ ?_
  refine r_iconst (pc := 12) C dL_rouse_12 kc_0 ?_
  refine r_wid (cs' := 0) (sl' := 6 * 0) (Nat.le_of_ble_eq_true rfl) (Nat.le_of_ble_eq_true rfl) (r_nok ?_)
  exact r_iret (pc := 13) C rfl dL_rouse_13
  refine r_iconst (pc := 8) C dL_rouse_8 kc_1 ?_
  refine r_goto (pc := 9) C dL_rouse_9 (tgt := 13) rfl ?_
  refine r_wid (cs' := 0) (sl' := 6 * 0) (Nat.le_of_ble_eq_true rfl) (Nat.le_of_ble_eq_true rfl) (r_nok ?_)
  exact r_iret (pc := 13) C rfl dL_rouse_13
theorem okL_rouse {l : Launch} {G : WT} (h0 : W0 G) (hT : l.stackTraces = false) (v1 : Int32) (M : Mem) (h_0 : G.2.2.2.1 0 0 0) : OkH l G yL_rouse cL_rouse 3 (some FieldType.int) [(0, 13, 14, 50)] 5 112 0 [.ref (G.1 0 0 0), .int v1] voI M (xok (pL_rouse  v1 M)) :=
  OkH.of "PermitParkLaw" rfl (by decide) (Nat.le_of_ble_eq_true rfl) (L := [(0, .ref (G.1 0 0 0)), (1, .int v1)]) rfl hT (fun K _ hr Y htab C => r_ofN (lL_rouse_0 C hr Y h0 v1 M h_0))
def pL_run (v1 : Int32) (M : Mem) : Option (Int32 × Mem) :=
    bnd (pX7_run v1 M) fun o2 M1 => some (o2, M1)
theorem lL_run_0 {K : KT} {G : WT} (C : Cx K G "PermitParkLaw" cL_run 3 (some FieldType.int)) (hRm : K.2.2.2.1 = rmX 7 162 0) (Y : Cy0 K) (h0 : W0 G) (v1 : Int32) (M : Mem) (h_0 : G.2.2.2.1 0 0 0) : Run K G 3 0 (6 * 0) (FinN K G voI 0) 0 [(0, .ref (G.1 0 0 0)), (1, .int v1)] [] M (pL_run   v1 M) := by
  rw [pL_run]
  refine r_aload_n (pc := 0) C 0 rfl rfl dL_run_0 ?_
  refine r_iload_n (pc := 1) C 1 rfl rfl dL_run_1 ?_
  refine r_wVI (pc := 2) C (Rx.of hRm rfl rfl rfl rfl) (okX7_run h0 v1 M h_0) (Rc.of C rfl rfl h_0) mw_680 cvX7_run rfl rfl (Nat.le_of_ble_eq_true rfl) dL_run_2 (fun o2 M1 => ?_)
  refine r_wid (cs' := 0) (sl' := 6 * 0) (Nat.le_of_ble_eq_true rfl) (Nat.le_of_ble_eq_true rfl) (r_nok ?_)
  exact r_iret (pc := 5) C rfl dL_run_5
theorem okL_run {l : Launch} {G : WT} (h0 : W0 G) (hT : l.stackTraces = false) (v1 : Int32) (M : Mem) (h_0 : G.2.2.2.1 0 0 0) : OkH l G yL_run cL_run 3 (some FieldType.int) [(0, 5, 6, 43)] 7 162 0 [.ref (G.1 0 0 0), .int v1] voI M (xok (pL_run  v1 M)) :=
  OkH.of "PermitParkLaw" rfl (by decide) (Nat.le_of_ble_eq_true rfl) (L := [(0, .ref (G.1 0 0 0)), (1, .int v1)]) rfl hT (fun K _ hr Y htab C => r_ofN (lL_run_0 C hr Y h0 v1 M h_0))
def pL_chain (v1 : Int32) (v2 : Int32) (M : Mem) : Option (Int32 × Mem) :=
    bnd (pX7_chain v1 v2 M) fun o2 M1 => some (o2, M1)
theorem lL_chain_0 {K : KT} {G : WT} (C : Cx K G "PermitParkLaw" cL_chain 4 (some FieldType.int)) (hRm : K.2.2.2.1 = rmX 3 69 0) (Y : Cy0 K) (h0 : W0 G) (v1 : Int32) (v2 : Int32) (M : Mem) (h_0 : G.2.2.2.1 0 0 0) : Run K G 4 0 (6 * 0) (FinN K G voI 0) 0 [(0, .ref (G.1 0 0 0)), (1, .int v1), (2, .int v2)] [] M (pL_chain   v1 v2 M) := by
  rw [pL_chain]
  refine r_aload_n (pc := 0) C 0 rfl rfl dL_chain_0 ?_
  refine r_iload_n (pc := 1) C 1 rfl rfl dL_chain_1 ?_
  refine r_iload_n (pc := 2) C 2 rfl rfl dL_chain_2 ?_
  refine r_wVI (pc := 3) C (Rx.of hRm rfl rfl rfl rfl) (okX7_chain h0 v1 v2 M h_0) (Rc.of C rfl rfl h_0) mw_778 cvX7_chain rfl rfl (Nat.le_of_ble_eq_true rfl) dL_chain_3 (fun o2 M1 => ?_)
  refine r_wid (cs' := 0) (sl' := 6 * 0) (Nat.le_of_ble_eq_true rfl) (Nat.le_of_ble_eq_true rfl) (r_nok ?_)
  exact r_iret (pc := 6) C rfl dL_chain_6
theorem okL_chain {l : Launch} {G : WT} (h0 : W0 G) (hT : l.stackTraces = false) (v1 : Int32) (v2 : Int32) (M : Mem) (h_0 : G.2.2.2.1 0 0 0) : OkH l G yL_chain cL_chain 4 (some FieldType.int) [(0, 6, 7, 50)] 3 69 0 [.ref (G.1 0 0 0), .int v1, .int v2] voI M (xok (pL_chain  v1 v2 M)) :=
  OkH.of "PermitParkLaw" rfl (by decide) (Nat.le_of_ble_eq_true rfl) (L := [(0, .ref (G.1 0 0 0)), (1, .int v1), (2, .int v2)]) rfl hT (fun K _ hr Y htab C => r_ofN (lL_chain_0 C hr Y h0 v1 v2 M h_0))
def pL_lent (v1 : Int32) (M : Mem) : Option (UInt32 × Mem) :=
    bnd (pX7_lent v1 M) fun o2 M1 => some (o2, M1)
theorem lL_lent_0 {K : KT} {G : WT} (C : Cx K G "PermitParkLaw" cL_lent 3 (some FieldType.float)) (hRm : K.2.2.2.1 = rmX 3 67 0) (Y : Cy0 K) (h0 : W0 G) (v1 : Int32) (M : Mem) (h_0 : G.2.2.2.1 0 0 0) : Run K G 3 0 (6 * 0) (FinN K G voF 0) 0 [(0, .ref (G.1 0 0 0)), (1, .int v1)] [] M (pL_lent   v1 M) := by
  rw [pL_lent]
  refine r_aload_n (pc := 0) C 0 rfl rfl dL_lent_0 ?_
  refine r_iload_n (pc := 1) C 1 rfl rfl dL_lent_1 ?_
  refine r_wVF (pc := 2) C (Rx.of hRm rfl rfl rfl rfl) (okX7_lent h0 v1 M h_0) (Rc.of C rfl rfl h_0) mw_789 cvX7_lent rfl rfl (Nat.le_of_ble_eq_true rfl) dL_lent_2 (fun o2 M1 => ?_)
  refine r_wid (cs' := 0) (sl' := 6 * 0) (Nat.le_of_ble_eq_true rfl) (Nat.le_of_ble_eq_true rfl) (r_nok ?_)
  exact r_fret (pc := 5) C dL_lent_5
theorem okL_lent {l : Launch} {G : WT} (h0 : W0 G) (hT : l.stackTraces = false) (v1 : Int32) (M : Mem) (h_0 : G.2.2.2.1 0 0 0) : OkH l G yL_lent cL_lent 3 (some FieldType.float) [(0, 5, 6, 50)] 3 67 0 [.ref (G.1 0 0 0), .int v1] voF M (xok (pL_lent  v1 M)) :=
  OkH.of "PermitParkLaw" rfl (by decide) (Nat.le_of_ble_eq_true rfl) (L := [(0, .ref (G.1 0 0 0)), (1, .int v1)]) rfl hT (fun K _ hr Y htab C => r_ofN (lL_lent_0 C hr Y h0 v1 M h_0))
def pL_doneIn (v1 : Int32) (v2 : Int32) (M : Mem) : Option (Int32 × Mem) :=
    bnd (pX7_doneIn v1 v2 M) fun o2 M1 => some (o2, M1)
theorem lL_doneIn_0 {K : KT} {G : WT} (C : Cx K G "PermitParkLaw" cL_doneIn 4 (some FieldType.int)) (hRm : K.2.2.2.1 = rmX 7 167 0) (Y : Cy0 K) (h0 : W0 G) (v1 : Int32) (v2 : Int32) (M : Mem) (h_0 : G.2.2.2.1 0 0 0) : Run K G 4 0 (6 * 0) (FinN K G voI 0) 0 [(0, .ref (G.1 0 0 0)), (1, .int v1), (2, .int v2)] [] M (pL_doneIn   v1 v2 M) := by
  rw [pL_doneIn]
  refine r_aload_n (pc := 0) C 0 rfl rfl dL_doneIn_0 ?_
  refine r_iload_n (pc := 1) C 1 rfl rfl dL_doneIn_1 ?_
  refine r_iload_n (pc := 2) C 2 rfl rfl dL_doneIn_2 ?_
  refine r_wVI (pc := 3) C (Rx.of hRm rfl rfl rfl rfl) (okX7_doneIn h0 v1 v2 M h_0) (Rc.of C rfl rfl h_0) mw_821 cvX7_doneIn rfl rfl (Nat.le_of_ble_eq_true rfl) dL_doneIn_3 (fun o2 M1 => ?_)
  refine r_wid (cs' := 0) (sl' := 6 * 0) (Nat.le_of_ble_eq_true rfl) (Nat.le_of_ble_eq_true rfl) (r_nok ?_)
  exact r_iret (pc := 6) C rfl dL_doneIn_6
theorem okL_doneIn {l : Launch} {G : WT} (h0 : W0 G) (hT : l.stackTraces = false) (v1 : Int32) (v2 : Int32) (M : Mem) (h_0 : G.2.2.2.1 0 0 0) : OkH l G yL_doneIn cL_doneIn 4 (some FieldType.int) [(0, 6, 7, 50), (0, 6, 11, 43)] 7 167 0 [.ref (G.1 0 0 0), .int v1, .int v2] voI M (xok (pL_doneIn  v1 v2 M)) :=
  OkH.of "PermitParkLaw" rfl (by decide) (Nat.le_of_ble_eq_true rfl) (L := [(0, .ref (G.1 0 0 0)), (1, .int v1), (2, .int v2)]) rfl hT (fun K _ hr Y htab C => r_ofN (lL_doneIn_0 C hr Y h0 v1 v2 M h_0))
def pL_returnsIn (v1 : Int32) (v2 : Int32) (M : Mem) : Option (Int32 × Mem) :=
    bnd (pX7_returnsIn v1 v2 M) fun o2 M1 => some (o2, M1)
theorem lL_returnsIn_0 {K : KT} {G : WT} (C : Cx K G "PermitParkLaw" cL_returnsIn 4 (some FieldType.int)) (hRm : K.2.2.2.1 = rmX 7 168 0) (Y : Cy0 K) (h0 : W0 G) (v1 : Int32) (v2 : Int32) (M : Mem) (h_0 : G.2.2.2.1 0 0 0) : Run K G 4 0 (6 * 0) (FinN K G voI 0) 0 [(0, .ref (G.1 0 0 0)), (1, .int v1), (2, .int v2)] [] M (pL_returnsIn   v1 v2 M) := by
  rw [pL_returnsIn]
  refine r_aload_n (pc := 0) C 0 rfl rfl dL_returnsIn_0 ?_
  refine r_iload_n (pc := 1) C 1 rfl rfl dL_returnsIn_1 ?_
  refine r_iload_n (pc := 2) C 2 rfl rfl dL_returnsIn_2 ?_
  refine r_wVI (pc := 3) C (Rx.of hRm rfl rfl rfl rfl) (okX7_returnsIn h0 v1 v2 M h_0) (Rc.of C rfl rfl h_0) mw_828 cvX7_returnsIn rfl rfl (Nat.le_of_ble_eq_true rfl) dL_returnsIn_3 (fun o2 M1 => ?_)
  refine r_wid (cs' := 0) (sl' := 6 * 0) (Nat.le_of_ble_eq_true rfl) (Nat.le_of_ble_eq_true rfl) (r_nok ?_)
  exact r_iret (pc := 6) C rfl dL_returnsIn_6
theorem okL_returnsIn {l : Launch} {G : WT} (h0 : W0 G) (hT : l.stackTraces = false) (v1 : Int32) (v2 : Int32) (M : Mem) (h_0 : G.2.2.2.1 0 0 0) : OkH l G yL_returnsIn cL_returnsIn 4 (some FieldType.int) [(0, 6, 7, 50), (0, 6, 11, 43)] 7 168 0 [.ref (G.1 0 0 0), .int v1, .int v2] voI M (xok (pL_returnsIn  v1 v2 M)) :=
  OkH.of "PermitParkLaw" rfl (by decide) (Nat.le_of_ble_eq_true rfl) (L := [(0, .ref (G.1 0 0 0)), (1, .int v1), (2, .int v2)]) rfl hT (fun K _ hr Y htab C => r_ofN (lL_returnsIn_0 C hr Y h0 v1 v2 M h_0))
def pL_ahead (v1 : Int32) (v2 : Int32) (M : Mem) : Option (Int32 × Mem) :=
    bnd (pX7_ahead v1 v2 M) fun o2 M1 => some (o2, M1)
theorem lL_ahead_0 {K : KT} {G : WT} (C : Cx K G "PermitParkLaw" cL_ahead 4 (some FieldType.int)) (hRm : K.2.2.2.1 = rmX 7 166 0) (Y : Cy0 K) (h0 : W0 G) (v1 : Int32) (v2 : Int32) (M : Mem) (h_0 : G.2.2.2.1 0 0 0) : Run K G 4 0 (6 * 0) (FinN K G voI 0) 0 [(0, .ref (G.1 0 0 0)), (1, .int v1), (2, .int v2)] [] M (pL_ahead   v1 v2 M) := by
  rw [pL_ahead]
  refine r_aload_n (pc := 0) C 0 rfl rfl dL_ahead_0 ?_
  refine r_iload_n (pc := 1) C 1 rfl rfl dL_ahead_1 ?_
  refine r_iload_n (pc := 2) C 2 rfl rfl dL_ahead_2 ?_
  refine r_wVI (pc := 3) C (Rx.of hRm rfl rfl rfl rfl) (okX7_ahead h0 v1 v2 M h_0) (Rc.of C rfl rfl h_0) mw_839 cvX7_ahead rfl rfl (Nat.le_of_ble_eq_true rfl) dL_ahead_3 (fun o2 M1 => ?_)
  refine r_wid (cs' := 0) (sl' := 6 * 0) (Nat.le_of_ble_eq_true rfl) (Nat.le_of_ble_eq_true rfl) (r_nok ?_)
  exact r_iret (pc := 6) C rfl dL_ahead_6
theorem okL_ahead {l : Launch} {G : WT} (h0 : W0 G) (hT : l.stackTraces = false) (v1 : Int32) (v2 : Int32) (M : Mem) (h_0 : G.2.2.2.1 0 0 0) : OkH l G yL_ahead cL_ahead 4 (some FieldType.int) [(0, 6, 7, 43)] 7 166 0 [.ref (G.1 0 0 0), .int v1, .int v2] voI M (xok (pL_ahead  v1 v2 M)) :=
  OkH.of "PermitParkLaw" rfl (by decide) (Nat.le_of_ble_eq_true rfl) (L := [(0, .ref (G.1 0 0 0)), (1, .int v1), (2, .int v2)]) rfl hT (fun K _ hr Y htab C => r_ofN (lL_ahead_0 C hr Y h0 v1 v2 M h_0))
def pL_bestBase (v1 : Int32) (v2 : Int32) (M : Mem) : Option (Int32 × Mem) :=
    bnd (pX7_bestBase v1 v2 M) fun o2 M1 => some (o2, M1)
theorem lL_bestBase_0 {K : KT} {G : WT} (C : Cx K G "PermitParkLaw" cL_bestBase 4 (some FieldType.int)) (hRm : K.2.2.2.1 = rmX 7 170 0) (Y : Cy0 K) (h0 : W0 G) (v1 : Int32) (v2 : Int32) (M : Mem) (h_0 : G.2.2.2.1 0 0 0) : Run K G 4 0 (6 * 0) (FinN K G voI 0) 0 [(0, .ref (G.1 0 0 0)), (1, .int v1), (2, .int v2)] [] M (pL_bestBase   v1 v2 M) := by
  rw [pL_bestBase]
  refine r_aload_n (pc := 0) C 0 rfl rfl dL_bestBase_0 ?_
  refine r_iload_n (pc := 1) C 1 rfl rfl dL_bestBase_1 ?_
  refine r_iload_n (pc := 2) C 2 rfl rfl dL_bestBase_2 ?_
  refine r_wVI (pc := 3) C (Rx.of hRm rfl rfl rfl rfl) (okX7_bestBase h0 v1 v2 M h_0) (Rc.of C rfl rfl h_0) mw_851 cvX7_bestBase rfl rfl (Nat.le_of_ble_eq_true rfl) dL_bestBase_3 (fun o2 M1 => ?_)
  refine r_wid (cs' := 0) (sl' := 6 * 0) (Nat.le_of_ble_eq_true rfl) (Nat.le_of_ble_eq_true rfl) (r_nok ?_)
  exact r_iret (pc := 6) C rfl dL_bestBase_6
theorem okL_bestBase {l : Launch} {G : WT} (h0 : W0 G) (hT : l.stackTraces = false) (v1 : Int32) (v2 : Int32) (M : Mem) (h_0 : G.2.2.2.1 0 0 0) : OkH l G yL_bestBase cL_bestBase 4 (some FieldType.int) [(0, 6, 7, 50), (0, 6, 11, 43)] 7 170 0 [.ref (G.1 0 0 0), .int v1, .int v2] voI M (xok (pL_bestBase  v1 v2 M)) :=
  OkH.of "PermitParkLaw" rfl (by decide) (Nat.le_of_ble_eq_true rfl) (L := [(0, .ref (G.1 0 0 0)), (1, .int v1), (2, .int v2)]) rfl hT (fun K _ hr Y htab C => r_ofN (lL_bestBase_0 C hr Y h0 v1 v2 M h_0))
def pL_save (v1 : Int32) (M : Mem) : Option (Int32 × Mem) :=
    bnd (pX7_save v1 M) fun o2 M1 => some ((0 : Int32), M1)
theorem lL_save_0 {K : KT} {G : WT} (C : Cx K G "PermitParkLaw" cL_save 3 (some FieldType.int)) (hRm : K.2.2.2.1 = rmX 4 164 0) (Y : Cy0 K) (h0 : W0 G) (v1 : Int32) (M : Mem) (h_0 : G.2.2.2.1 0 0 0) : Run K G 3 0 (6 * 0) (FinN K G voI 0) 0 [(0, .ref (G.1 0 0 0)), (1, .int v1)] [] M (pL_save   v1 M) := by
  rw [pL_save]
  refine r_aload_n (pc := 0) C 0 rfl rfl dL_save_0 ?_
  refine r_iload_n (pc := 1) C 1 rfl rfl dL_save_1 ?_
  refine r_wVV (pc := 2) C (Rx.of hRm rfl rfl rfl rfl) (okX7_save h0 v1 M h_0) (Rc.of C rfl rfl h_0) mw_866 cvX7_save rfl rfl (Nat.le_of_ble_eq_true rfl) dL_save_2 (fun o2 M1 => ?_)
  refine r_iconst (pc := 5) C dL_save_5 kc_0 ?_
  refine r_wid (cs' := 0) (sl' := 6 * 0) (Nat.le_of_ble_eq_true rfl) (Nat.le_of_ble_eq_true rfl) (r_nok ?_)
  exact r_iret (pc := 6) C rfl dL_save_6
theorem okL_save {l : Launch} {G : WT} (h0 : W0 G) (hT : l.stackTraces = false) (v1 : Int32) (M : Mem) (h_0 : G.2.2.2.1 0 0 0) : OkH l G yL_save cL_save 3 (some FieldType.int) [(0, 6, 7, 43)] 4 164 0 [.ref (G.1 0 0 0), .int v1] voI M (xok (pL_save  v1 M)) :=
  OkH.of "PermitParkLaw" rfl (by decide) (Nat.le_of_ble_eq_true rfl) (L := [(0, .ref (G.1 0 0 0)), (1, .int v1)]) rfl hT (fun K _ hr Y htab C => r_ofN (lL_save_0 C hr Y h0 v1 M h_0))
def pL_restore (v1 : Int32) (M : Mem) : Option (Int32 × Mem) :=
    bnd (pX7_restore v1 M) fun o2 M1 => some ((0 : Int32), M1)
theorem lL_restore_0 {K : KT} {G : WT} (C : Cx K G "PermitParkLaw" cL_restore 3 (some FieldType.int)) (hRm : K.2.2.2.1 = rmX 4 164 0) (Y : Cy0 K) (h0 : W0 G) (v1 : Int32) (M : Mem) (h_0 : G.2.2.2.1 0 0 0) : Run K G 3 0 (6 * 0) (FinN K G voI 0) 0 [(0, .ref (G.1 0 0 0)), (1, .int v1)] [] M (pL_restore   v1 M) := by
  rw [pL_restore]
  refine r_aload_n (pc := 0) C 0 rfl rfl dL_restore_0 ?_
  refine r_iload_n (pc := 1) C 1 rfl rfl dL_restore_1 ?_
  refine r_wVV (pc := 2) C (Rx.of hRm rfl rfl rfl rfl) (okX7_restore h0 v1 M h_0) (Rc.of C rfl rfl h_0) mw_873 cvX7_restore rfl rfl (Nat.le_of_ble_eq_true rfl) dL_restore_2 (fun o2 M1 => ?_)
  refine r_iconst (pc := 5) C dL_restore_5 kc_0 ?_
  refine r_wid (cs' := 0) (sl' := 6 * 0) (Nat.le_of_ble_eq_true rfl) (Nat.le_of_ble_eq_true rfl) (r_nok ?_)
  exact r_iret (pc := 6) C rfl dL_restore_6
theorem okL_restore {l : Launch} {G : WT} (h0 : W0 G) (hT : l.stackTraces = false) (v1 : Int32) (M : Mem) (h_0 : G.2.2.2.1 0 0 0) : OkH l G yL_restore cL_restore 3 (some FieldType.int) [(0, 6, 7, 43), (0, 6, 11, 45)] 4 164 0 [.ref (G.1 0 0 0), .int v1] voI M (xok (pL_restore  v1 M)) :=
  OkH.of "PermitParkLaw" rfl (by decide) (Nat.le_of_ble_eq_true rfl) (L := [(0, .ref (G.1 0 0 0)), (1, .int v1)]) rfl hT (fun K _ hr Y htab C => r_ofN (lL_restore_0 C hr Y h0 v1 M h_0))
end
