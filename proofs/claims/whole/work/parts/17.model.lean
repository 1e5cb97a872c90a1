/-! ===== pictures: the model, second ===== -/
section
set_option maxRecDepth 4000
def pX8_errorCode (M : Mem) : Option (Int32 × Mem) :=
    nm (wI M 19 0 0 7 (0 : Int32)) fun M1 => some ((M1.1 19 0 0 15), M1)
theorem lX8_errorCode_0 {K : KT} {G : WT} (C : Cx K G "PermitParkModel" cX8_errorCode 1 (some FieldType.int)) (hRm : K.2.2.2.1.frames = 0 ∧ K.2.2.2.1.locals = 0) (h0 : W0 G) (M : Mem) (h_0 : G.2.2.2.1 19 0 0) : Run K G 1 0 0 (FinM K G voI 0 0) 0 [(0, .ref (G.1 19 0 0))] [] M (pX8_errorCode    M) := by
  rw [pX8_errorCode]
  refine r_aload_n (pc := 0) C 0 rfl rfl dX8_errorCode_0 ?_
  refine r_iconst (pc := 1) C dX8_errorCode_1 kc_0 ?_
  refine r_putI (pc := 2) C FX8_thrown mw_1019 h_0 tyX8 tyX8_ok nmX8 (fun _ _ => rfl) rfl dX8_errorCode_2 (fun M1 => ?_)
  refine r_aload_n (pc := 5) C 0 rfl rfl dX8_errorCode_5 ?_
  refine r_getI (pc := 6) C FX8_errorCode mw_1027 h_0 rfl rfl dX8_errorCode_6 ?_
  exact r_iret (pc := 9) C rfl dX8_errorCode_9
theorem okX8_errorCode {l : Launch} {G : WT} (h0 : W0 G) (M : Mem) (h_0 : G.2.2.2.1 19 0 0) : Okm l G yX8_errorCode cX8_errorCode 1 (some FieldType.int) 0 0 [.ref (G.1 19 0 0)] voI M (pX8_errorCode   M) :=
  Okm.of "PermitParkModel" rfl (by decide) (Nat.le_of_ble_eq_true rfl) (L := [(0, .ref (G.1 19 0 0))]) rfl (fun K _ hr C => lX8_errorCode_0 C (by rw [hr]; exact ⟨rfl, rfl⟩) h0  M h_0)
def pX8_errorPosition (M : Mem) : Option (Int32 × Mem) :=
    nm (wI M 19 0 0 7 (0 : Int32)) fun M1 => some ((M1.1 19 0 0 16), M1)
theorem lX8_errorPosition_0 {K : KT} {G : WT} (C : Cx K G "PermitParkModel" cX8_errorPosition 1 (some FieldType.int)) (hRm : K.2.2.2.1.frames = 0 ∧ K.2.2.2.1.locals = 0) (h0 : W0 G) (M : Mem) (h_0 : G.2.2.2.1 19 0 0) : Run K G 1 0 0 (FinM K G voI 0 0) 0 [(0, .ref (G.1 19 0 0))] [] M (pX8_errorPosition    M) := by
  rw [pX8_errorPosition]
  refine r_aload_n (pc := 0) C 0 rfl rfl dX8_errorPosition_0 ?_
  refine r_iconst (pc := 1) C dX8_errorPosition_1 kc_0 ?_
  refine r_putI (pc := 2) C FX8_thrown mw_1019 h_0 tyX8 tyX8_ok nmX8 (fun _ _ => rfl) rfl dX8_errorPosition_2 (fun M1 => ?_)
  refine r_aload_n (pc := 5) C 0 rfl rfl dX8_errorPosition_5 ?_
  refine r_getI (pc := 6) C FX8_errorPosition mw_1028 h_0 rfl rfl dX8_errorPosition_6 ?_
  exact r_iret (pc := 9) C rfl dX8_errorPosition_9
theorem okX8_errorPosition {l : Launch} {G : WT} (h0 : W0 G) (M : Mem) (h_0 : G.2.2.2.1 19 0 0) : Okm l G yX8_errorPosition cX8_errorPosition 1 (some FieldType.int) 0 0 [.ref (G.1 19 0 0)] voI M (pX8_errorPosition   M) :=
  Okm.of "PermitParkModel" rfl (by decide) (Nat.le_of_ble_eq_true rfl) (L := [(0, .ref (G.1 19 0 0))]) rfl (fun K _ hr C => lX8_errorPosition_0 C (by rw [hr]; exact ⟨rfl, rfl⟩) h0  M h_0)
def pX8_addThread_24 (M : Mem) : Option (Int32 × Mem) :=
    bnd (pX8_fail (1 : Int32) M) fun o2 M1 => some (o2, M1)
theorem lX8_addThread_24 {K : KT} {G : WT} (C : Cx K G "PermitParkModel" cX8_addThread 5 (some FieldType.int)) (hRm : K.2.2.2.1.frames = 2 ∧ K.2.2.2.1.locals = 46) (h0 : W0 G) (M : Mem) (g_0 : G.2.2.2.1 19 0 0) : Run K G 5 0 0 (FinM K G voI 0 0) 24 [(0, .ref (G.1 19 0 0))] [] M (pX8_addThread_24    M) := by
  rw [pX8_addThread_24]
  refine r_aload_n (pc := 24) C 0 rfl rfl dX8_addThread_24 ?_
  refine r_iconst (pc := 25) C dX8_addThread_25 kc_1 ?_
  refine r_cVI (pc := 26) C hRm (okX8_fail h0 (1 : Int32) M g_0) (Rc.of C rfl rfl g_0) mw_1084 cvX8_fail rfl ⟨Nat.le_of_ble_eq_true rfl, Nat.le_of_ble_eq_true rfl⟩ rfl (Nat.le_of_ble_eq_true rfl) dX8_addThread_26 (fun o2 M1 => ?_)
  exact r_iret (pc := 29) C rfl dX8_addThread_29
def pX8_addThread (v1 : Int32) (v2 : Int32) (v3 : Int32) (M : Mem) : Option (Int32 × Mem) :=
    nm (wI M 19 0 0 7 (0 : Int32)) fun M1 => bnd (pX8_isBetween v1 (1 : Int32) (9 : Int32) M1) fun o3 M2 => if o3 = 0 then (pX8_addThread_24    M2)
    else bnd (pX8_isInstruction v2 v3 M2) fun o5 M4 => if ¬ o5 = 0 then (chk (inB (2 : Int32) 700) <| if ¬ (M4.1 20 0 0 (2 : Int32).toNatClampNeg) = (10 : Int32) then (bnd (pX8_appendThread v1 M4) fun o8 M7 => bnd (pX8_appendInstruction o8 v2 v3 M7) fun o10 M9 => some (o8, M9))
    else bnd (pX8_fail (2 : Int32) M4) fun o12 M11 => some (o12, M11))
    else pX8_addThread_24    M4
theorem lX8_addThread_0 {K : KT} {G : WT} (C : Cx K G "PermitParkModel" cX8_addThread 5 (some FieldType.int)) (hRm : K.2.2.2.1.frames = 2 ∧ K.2.2.2.1.locals = 46) (h0 : W0 G) (v1 : Int32) (v2 : Int32) (v3 : Int32) (M : Mem) (h_0 : G.2.2.2.1 19 0 0) : Run K G 5 0 0 (FinM K G voI 0 0) 0 [(0, .ref (G.1 19 0 0)), (1, .int v1), (2, .int v2), (3, .int v3)] [] M (pX8_addThread   v1 v2 v3 M) := by
  rw [pX8_addThread]
  refine r_aload_n (pc := 0) C 0 rfl rfl dX8_addThread_0 ?_
  refine r_iconst (pc := 1) C dX8_addThread_1 kc_0 ?_
  refine r_putI (pc := 2) C FX8_thrown mw_1019 h_0 tyX8 tyX8_ok nmX8 (fun _ _ => rfl) rfl dX8_addThread_2 (fun M1 => ?_)
  refine r_iload_n (pc := 5) C 1 rfl rfl dX8_addThread_5 ?_
  refine r_iconst (pc := 6) C dX8_addThread_6 kc_1 ?_
  refine r_bipush (pc := 7) C dX8_addThread_7 kb_9 ?_
  refine r_cSI (pc := 9) C hRm (okX8_isBetween h0 v1 (1 : Int32) (9 : Int32) M1 ) mw_1092 cvX8_isBetween rfl ⟨Nat.le_of_ble_eq_true rfl, Nat.le_of_ble_eq_true rfl⟩ rfl (Nat.le_of_ble_eq_true rfl) dX8_addThread_9 (fun o3 M2 => ?_)
  refine r_if_eq (pc := 12) C dX8_addThread_12 (tgt := 24) rfl ?_ ?_
  refine r_sub [0] rfl ?_
  exact lX8_addThread_24   C hRm h0   M2 h_0
  refine r_aload_n (pc := 15) C 0 rfl rfl dX8_addThread_15 ?_
  refine r_iload_n (pc := 16) C 2 rfl rfl dX8_addThread_16 ?_
  refine r_iload_n (pc := 17) C 3 rfl rfl dX8_addThread_17 ?_
  refine r_cVI (pc := 18) C hRm (okX8_isInstruction h0 v2 v3 M2 h_0) (Rc.of C rfl rfl h_0) mw_1243 cvX8_isInstruction rfl ⟨Nat.le_of_ble_eq_true rfl, Nat.le_of_ble_eq_true rfl⟩ rfl (Nat.le_of_ble_eq_true rfl) dX8_addThread_18 (fun o5 M4 => ?_)
  refine r_if_ne (pc := 21) C dX8_addThread_21 (tgt := 30) rfl ?_ ?_
  refine r_aload_n (pc := 30) C 0 rfl rfl dX8_addThread_30 ?_
  refine r_getR (pc := 31) C FX8_state mw_1012 h_0 rfl dX8_addThread_31 (fun g6 => ?_)
  refine r_iconst (pc := 34) C dX8_addThread_34 kc_2 ?_
  refine r_iald (pc := 35) C rfl g6 (fun _ => rfl) (fun _ => rfl) dX8_addThread_35 ?_
  refine r_bipush (pc := 36) C dX8_addThread_36 kb_10 ?_
  refine r_icmp_ne (pc := 38) C dX8_addThread_38 (tgt := 47) rfl ?_ ?_
  refine r_aload_n (pc := 47) C 0 rfl rfl dX8_addThread_47 ?_
  refine r_iload_n (pc := 48) C 1 rfl rfl dX8_addThread_48 ?_
  refine r_cVI (pc := 49) C hRm (okX8_appendThread h0 v1 M4 h_0) (Rc.of C rfl rfl h_0) mw_1162 cvX8_appendThread rfl ⟨Nat.le_of_ble_eq_true rfl, Nat.le_of_ble_eq_true rfl⟩ rfl (Nat.le_of_ble_eq_true rfl) dX8_addThread_49 (fun o8 M7 => ?_)
  refine r_istore (pc := 52) C [(4, .int o8), (0, .ref (G.1 19 0 0)), (1, .int v1), (2, .int v2), (3, .int v3)] dX8_addThread_52 (by decide) rfl ?_
  refine r_aload_n (pc := 54) C 1 rfl rfl dX8_addThread_54 ?_
  refine r_iload (pc := 55) C 0 rfl dX8_addThread_55 ?_
  refine r_iload_n (pc := 57) C 3 rfl rfl dX8_addThread_57 ?_
  refine r_iload_n (pc := 58) C 4 rfl rfl dX8_addThread_58 ?_
  refine r_cVV (pc := 59) C hRm (okX8_appendInstruction h0 o8 v2 v3 M7 h_0) (Rc.of C rfl rfl h_0) mw_1197 cvX8_appendInstruction rfl ⟨Nat.le_of_ble_eq_true rfl, Nat.le_of_ble_eq_true rfl⟩ rfl (Nat.le_of_ble_eq_true rfl) dX8_addThread_59 (fun o10 M9 => ?_)
  refine r_iload (pc := 62) C 0 rfl dX8_addThread_62 ?_
  exact r_iret (pc := 64) C rfl dX8_addThread_64
  refine r_aload_n (pc := 41) C 0 rfl rfl dX8_addThread_41 ?_
  refine r_iconst (pc := 42) C dX8_addThread_42 kc_2 ?_
  refine r_cVI (pc := 43) C hRm (okX8_fail h0 (2 : Int32) M4 h_0) (Rc.of C rfl rfl h_0) mw_1084 cvX8_fail rfl ⟨Nat.le_of_ble_eq_true rfl, Nat.le_of_ble_eq_true rfl⟩ rfl (Nat.le_of_ble_eq_true rfl) dX8_addThread_43 (fun o12 M11 => ?_)
  exact r_iret (pc := 46) C rfl dX8_addThread_46
  refine r_sub [0] rfl ?_
  exact lX8_addThread_24   C hRm h0   M4 h_0
theorem okX8_addThread {l : Launch} {G : WT} (h0 : W0 G) (v1 : Int32) (v2 : Int32) (v3 : Int32) (M : Mem) (h_0 : G.2.2.2.1 19 0 0) : Okm l G yX8_addThread cX8_addThread 5 (some FieldType.int) 2 46 [.ref (G.1 19 0 0), .int v1, .int v2, .int v3] voI M (pX8_addThread  v1 v2 v3 M) :=
  Okm.of "PermitParkModel" rfl (by decide) (Nat.le_of_ble_eq_true rfl) (L := [(0, .ref (G.1 19 0 0)), (1, .int v1), (2, .int v2), (3, .int v3)]) rfl (fun K _ hr C => lX8_addThread_0 C (by rw [hr]; exact ⟨rfl, rfl⟩) h0 v1 v2 v3 M h_0)
def pX8_addInstruction_55 (M : Mem) : Option (Int32 × Mem) :=
    bnd (pX8_fail (3 : Int32) M) fun o2 M1 => some (o2, M1)
theorem lX8_addInstruction_55 {K : KT} {G : WT} (C : Cx K G "PermitParkModel" cX8_addInstruction 4 (some FieldType.int)) (hRm : K.2.2.2.1.frames = 2 ∧ K.2.2.2.1.locals = 46) (h0 : W0 G) (M : Mem) (g_0 : G.2.2.2.1 19 0 0) : Run K G 4 0 0 (FinM K G voI 0 0) 55 [(0, .ref (G.1 19 0 0))] [] M (pX8_addInstruction_55    M) := by
  rw [pX8_addInstruction_55]
  refine r_aload_n (pc := 55) C 0 rfl rfl dX8_addInstruction_55 ?_
  refine r_iconst (pc := 56) C dX8_addInstruction_56 kc_3 ?_
  refine r_cVI (pc := 57) C hRm (okX8_fail h0 (3 : Int32) M g_0) (Rc.of C rfl rfl g_0) mw_1084 cvX8_fail rfl ⟨Nat.le_of_ble_eq_true rfl, Nat.le_of_ble_eq_true rfl⟩ rfl (Nat.le_of_ble_eq_true rfl) dX8_addInstruction_57 (fun o2 M1 => ?_)
  exact r_iret (pc := 60) C rfl dX8_addInstruction_60
def pX8_addInstruction (v1 : Int32) (v2 : Int32) (v3 : Int32) (M : Mem) : Option (Int32 × Mem) :=
    nm (wI M 19 0 0 7 (0 : Int32)) fun M1 => bnd (pX8_isThread v1 M1) fun o3 M2 => if ¬ o3 = 0 then (bnd (pX8_isInstruction v2 v3 M2) fun o5 M4 => if ¬ o5 = 0 then (bnd (pX8_of v1 (1 : Int32) M4) fun o7 M6 => if o7 = (16 : Int32) then (pX8_addInstruction_55    M6)
    else bnd (pX8_of v1 (3 : Int32) M6) fun o9 M8 => if o9 < (3 : Int32) then (bnd (pX8_appendInstruction v1 v2 v3 M8) fun o11 M10 => bnd (pX8_of v1 (1 : Int32) M10) fun o13 M12 => some (o13, M12))
    else pX8_addInstruction_55    M8)
    else bnd (pX8_fail (2 : Int32) M4) fun o15 M14 => some (o15, M14))
    else bnd (pX8_fail (1 : Int32) M2) fun o17 M16 => some (o17, M16)
theorem lX8_addInstruction_0 {K : KT} {G : WT} (C : Cx K G "PermitParkModel" cX8_addInstruction 4 (some FieldType.int)) (hRm : K.2.2.2.1.frames = 2 ∧ K.2.2.2.1.locals = 46) (h0 : W0 G) (v1 : Int32) (v2 : Int32) (v3 : Int32) (M : Mem) (h_0 : G.2.2.2.1 19 0 0) : Run K G 4 0 0 (FinM K G voI 0 0) 0 [(0, .ref (G.1 19 0 0)), (1, .int v1), (2, .int v2), (3, .int v3)] [] M (pX8_addInstruction   v1 v2 v3 M) := by
  rw [pX8_addInstruction]
  refine r_aload_n (pc := 0) C 0 rfl rfl dX8_addInstruction_0 ?_
  refine r_iconst (pc := 1) C dX8_addInstruction_1 kc_0 ?_
  refine r_putI (pc := 2) C FX8_thrown mw_1019 h_0 tyX8 tyX8_ok nmX8 (fun _ _ => rfl) rfl dX8_addInstruction_2 (fun M1 => ?_)
  refine r_aload_n (pc := 5) C 0 rfl rfl dX8_addInstruction_5 ?_
  refine r_iload_n (pc := 6) C 1 rfl rfl dX8_addInstruction_6 ?_
  refine r_cVI (pc := 7) C hRm (okX8_isThread h0 v1 M1 h_0) (Rc.of C rfl rfl h_0) mw_1251 cvX8_isThread rfl ⟨Nat.le_of_ble_eq_true rfl, Nat.le_of_ble_eq_true rfl⟩ rfl (Nat.le_of_ble_eq_true rfl) dX8_addInstruction_7 (fun o3 M2 => ?_)
  refine r_if_ne (pc := 10) C dX8_addInstruction_10 (tgt := 19) rfl ?_ ?_
  refine r_aload_n (pc := 19) C 0 rfl rfl dX8_addInstruction_19 ?_
  refine r_iload_n (pc := 20) C 2 rfl rfl dX8_addInstruction_20 ?_
  refine r_iload_n (pc := 21) C 3 rfl rfl dX8_addInstruction_21 ?_
  refine r_cVI (pc := 22) C hRm (okX8_isInstruction h0 v2 v3 M2 h_0) (Rc.of C rfl rfl h_0) mw_1243 cvX8_isInstruction rfl ⟨Nat.le_of_ble_eq_true rfl, Nat.le_of_ble_eq_true rfl⟩ rfl (Nat.le_of_ble_eq_true rfl) dX8_addInstruction_22 (fun o5 M4 => ?_)
  refine r_if_ne (pc := 25) C dX8_addInstruction_25 (tgt := 34) rfl ?_ ?_
  refine r_aload_n (pc := 34) C 0 rfl rfl dX8_addInstruction_34 ?_
  refine r_iload_n (pc := 35) C 1 rfl rfl dX8_addInstruction_35 ?_
  refine r_iconst (pc := 36) C dX8_addInstruction_36 kc_1 ?_
  refine r_cVI (pc := 37) C hRm (okX8_of h0 v1 (1 : Int32) M4 h_0) (Rc.of C rfl rfl h_0) mw_1193 cvX8_of rfl ⟨Nat.le_of_ble_eq_true rfl, Nat.le_of_ble_eq_true rfl⟩ rfl (Nat.le_of_ble_eq_true rfl) dX8_addInstruction_37 (fun o7 M6 => ?_)
  refine r_bipush (pc := 40) C dX8_addInstruction_40 kb_16 ?_
  refine r_icmp_eq (pc := 42) C dX8_addInstruction_42 (tgt := 55) rfl ?_ ?_
  refine r_sub [0] rfl ?_
  exact lX8_addInstruction_55   C hRm h0   M6 h_0
  refine r_aload_n (pc := 45) C 0 rfl rfl dX8_addInstruction_45 ?_
  refine r_iload_n (pc := 46) C 1 rfl rfl dX8_addInstruction_46 ?_
  refine r_iconst (pc := 47) C dX8_addInstruction_47 kc_3 ?_
  refine r_cVI (pc := 48) C hRm (okX8_of h0 v1 (3 : Int32) M6 h_0) (Rc.of C rfl rfl h_0) mw_1193 cvX8_of rfl ⟨Nat.le_of_ble_eq_true rfl, Nat.le_of_ble_eq_true rfl⟩ rfl (Nat.le_of_ble_eq_true rfl) dX8_addInstruction_48 (fun o9 M8 => ?_)
  refine r_iconst (pc := 51) C dX8_addInstruction_51 kc_3 ?_
  refine r_icmp_lt (pc := 52) C dX8_addInstruction_52 (tgt := 61) rfl ?_ ?_
  refine r_aload_n (pc := 61) C 0 rfl rfl dX8_addInstruction_61 ?_
  refine r_iload_n (pc := 62) C 1 rfl rfl dX8_addInstruction_62 ?_
  refine r_iload_n (pc := 63) C 2 rfl rfl dX8_addInstruction_63 ?_
  refine r_iload_n (pc := 64) C 3 rfl rfl dX8_addInstruction_64 ?_
  refine r_cVV (pc := 65) C hRm (okX8_appendInstruction h0 v1 v2 v3 M8 h_0) (Rc.of C rfl rfl h_0) mw_1197 cvX8_appendInstruction rfl ⟨Nat.le_of_ble_eq_true rfl, Nat.le_of_ble_eq_true rfl⟩ rfl (Nat.le_of_ble_eq_true rfl) dX8_addInstruction_65 (fun o11 M10 => ?_)
  refine r_aload_n (pc := 68) C 0 rfl rfl dX8_addInstruction_68 ?_
  refine r_iload_n (pc := 69) C 1 rfl rfl dX8_addInstruction_69 ?_
  refine r_iconst (pc := 70) C dX8_addInstruction_70 kc_1 ?_
  refine r_cVI (pc := 71) C hRm (okX8_of h0 v1 (1 : Int32) M10 h_0) (Rc.of C rfl rfl h_0) mw_1193 cvX8_of rfl ⟨Nat.le_of_ble_eq_true rfl, Nat.le_of_ble_eq_true rfl⟩ rfl (Nat.le_of_ble_eq_true rfl) dX8_addInstruction_71 (fun o13 M12 => ?_)
  exact r_iret (pc := 74) C rfl dX8_addInstruction_74
  refine r_sub [0] rfl ?_
  exact lX8_addInstruction_55   C hRm h0   M8 h_0
  refine r_aload_n (pc := 28) C 0 rfl rfl dX8_addInstruction_28 ?_
  refine r_iconst (pc := 29) C dX8_addInstruction_29 kc_2 ?_
  refine r_cVI (pc := 30) C hRm (okX8_fail h0 (2 : Int32) M4 h_0) (Rc.of C rfl rfl h_0) mw_1084 cvX8_fail rfl ⟨Nat.le_of_ble_eq_true rfl, Nat.le_of_ble_eq_true rfl⟩ rfl (Nat.le_of_ble_eq_true rfl) dX8_addInstruction_30 (fun o15 M14 => ?_)
  exact r_iret (pc := 33) C rfl dX8_addInstruction_33
  refine r_aload_n (pc := 13) C 0 rfl rfl dX8_addInstruction_13 ?_
  refine r_iconst (pc := 14) C dX8_addInstruction_14 kc_1 ?_
  refine r_cVI (pc := 15) C hRm (okX8_fail h0 (1 : Int32) M2 h_0) (Rc.of C rfl rfl h_0) mw_1084 cvX8_fail rfl ⟨Nat.le_of_ble_eq_true rfl, Nat.le_of_ble_eq_true rfl⟩ rfl (Nat.le_of_ble_eq_true rfl) dX8_addInstruction_15 (fun o17 M16 => ?_)
  exact r_iret (pc := 18) C rfl dX8_addInstruction_18
theorem okX8_addInstruction {l : Launch} {G : WT} (h0 : W0 G) (v1 : Int32) (v2 : Int32) (v3 : Int32) (M : Mem) (h_0 : G.2.2.2.1 19 0 0) : Okm l G yX8_addInstruction cX8_addInstruction 4 (some FieldType.int) 2 46 [.ref (G.1 19 0 0), .int v1, .int v2, .int v3] voI M (pX8_addInstruction  v1 v2 v3 M) :=
  Okm.of "PermitParkModel" rfl (by decide) (Nat.le_of_ble_eq_true rfl) (L := [(0, .ref (G.1 19 0 0)), (1, .int v1), (2, .int v2), (3, .int v3)]) rfl (fun K _ hr C => lX8_addInstruction_0 C (by rw [hr]; exact ⟨rfl, rfl⟩) h0 v1 v2 v3 M h_0)
def pX8_setBase (v1 : Int32) (v2 : Int32) (M : Mem) : Option (Int32 × Mem) :=
    nm (wI M 19 0 0 7 (0 : Int32)) fun M1 => bnd (pX8_isThread v1 M1) fun o3 M2 => if ¬ o3 = 0 then (bnd (pX8_isBetween v2 (1 : Int32) (9 : Int32) M2) fun o5 M4 => if ¬ o5 = 0 then (bnd (pX8_of v1 (0 : Int32) M4) fun o7 M6 => bnd (pX8_put v1 (0 : Int32) v2 M6) fun o9 M8 => some (o7, M8))
    else bnd (pX8_fail (2 : Int32) M4) fun o11 M10 => some (o11, M10))
    else bnd (pX8_fail (1 : Int32) M2) fun o13 M12 => some (o13, M12)
theorem lX8_setBase_0 {K : KT} {G : WT} (C : Cx K G "PermitParkModel" cX8_setBase 4 (some FieldType.int)) (hRm : K.2.2.2.1.frames = 2 ∧ K.2.2.2.1.locals = 43) (h0 : W0 G) (v1 : Int32) (v2 : Int32) (M : Mem) (h_0 : G.2.2.2.1 19 0 0) : Run K G 4 0 0 (FinM K G voI 0 0) 0 [(0, .ref (G.1 19 0 0)), (1, .int v1), (2, .int v2)] [] M (pX8_setBase   v1 v2 M) := by
  rw [pX8_setBase]
  refine r_aload_n (pc := 0) C 0 rfl rfl dX8_setBase_0 ?_
  refine r_iconst (pc := 1) C dX8_setBase_1 kc_0 ?_
  refine r_putI (pc := 2) C FX8_thrown mw_1019 h_0 tyX8 tyX8_ok nmX8 (fun _ _ => rfl) rfl dX8_setBase_2 (fun M1 => ?_)
  refine r_aload_n (pc := 5) C 0 rfl rfl dX8_setBase_5 ?_
  refine r_iload_n (pc := 6) C 1 rfl rfl dX8_setBase_6 ?_
  refine r_cVI (pc := 7) C hRm (okX8_isThread h0 v1 M1 h_0) (Rc.of C rfl rfl h_0) mw_1251 cvX8_isThread rfl ⟨Nat.le_of_ble_eq_true rfl, Nat.le_of_ble_eq_true rfl⟩ rfl (Nat.le_of_ble_eq_true rfl) dX8_setBase_7 (fun o3 M2 => ?_)
  refine r_if_ne (pc := 10) C dX8_setBase_10 (tgt := 19) rfl ?_ ?_
  refine r_iload_n (pc := 19) C 2 rfl rfl dX8_setBase_19 ?_
  refine r_iconst (pc := 20) C dX8_setBase_20 kc_1 ?_
  refine r_bipush (pc := 21) C dX8_setBase_21 kb_9 ?_
  refine r_cSI (pc := 23) C hRm (okX8_isBetween h0 v2 (1 : Int32) (9 : Int32) M2 ) mw_1092 cvX8_isBetween rfl ⟨Nat.le_of_ble_eq_true rfl, Nat.le_of_ble_eq_true rfl⟩ rfl (Nat.le_of_ble_eq_true rfl) dX8_setBase_23 (fun o5 M4 => ?_)
  refine r_if_ne (pc := 26) C dX8_setBase_26 (tgt := 35) rfl ?_ ?_
  refine r_aload_n (pc := 35) C 0 rfl rfl dX8_setBase_35 ?_
  refine r_iload_n (pc := 36) C 1 rfl rfl dX8_setBase_36 ?_
  refine r_iconst (pc := 37) C dX8_setBase_37 kc_0 ?_
  refine r_cVI (pc := 38) C hRm (okX8_of h0 v1 (0 : Int32) M4 h_0) (Rc.of C rfl rfl h_0) mw_1193 cvX8_of rfl ⟨Nat.le_of_ble_eq_true rfl, Nat.le_of_ble_eq_true rfl⟩ rfl (Nat.le_of_ble_eq_true rfl) dX8_setBase_38 (fun o7 M6 => ?_)
  refine r_istore_n (pc := 41) C [(3, .int o7), (0, .ref (G.1 19 0 0)), (1, .int v1), (2, .int v2)] dX8_setBase_41 rfl (by decide) rfl ?_
  refine r_aload_n (pc := 42) C 1 rfl rfl dX8_setBase_42 ?_
  refine r_iload_n (pc := 43) C 2 rfl rfl dX8_setBase_43 ?_
  refine r_iconst (pc := 44) C dX8_setBase_44 kc_0 ?_
  refine r_iload_n (pc := 45) C 3 rfl rfl dX8_setBase_45 ?_
  refine r_cVV (pc := 46) C hRm (okX8_put h0 v1 (0 : Int32) v2 M6 h_0) (Rc.of C rfl rfl h_0) mw_1166 cvX8_put rfl ⟨Nat.le_of_ble_eq_true rfl, Nat.le_of_ble_eq_true rfl⟩ rfl (Nat.le_of_ble_eq_true rfl) dX8_setBase_46 (fun o9 M8 => ?_)
  refine r_iload_n (pc := 49) C 0 rfl rfl dX8_setBase_49 ?_
  exact r_iret (pc := 50) C rfl dX8_setBase_50
  refine r_aload_n (pc := 29) C 0 rfl rfl dX8_setBase_29 ?_
  refine r_iconst (pc := 30) C dX8_setBase_30 kc_2 ?_
  refine r_cVI (pc := 31) C hRm (okX8_fail h0 (2 : Int32) M4 h_0) (Rc.of C rfl rfl h_0) mw_1084 cvX8_fail rfl ⟨Nat.le_of_ble_eq_true rfl, Nat.le_of_ble_eq_true rfl⟩ rfl (Nat.le_of_ble_eq_true rfl) dX8_setBase_31 (fun o11 M10 => ?_)
  exact r_iret (pc := 34) C rfl dX8_setBase_34
  refine r_aload_n (pc := 13) C 0 rfl rfl dX8_setBase_13 ?_
  refine r_iconst (pc := 14) C dX8_setBase_14 kc_1 ?_
  refine r_cVI (pc := 15) C hRm (okX8_fail h0 (1 : Int32) M2 h_0) (Rc.of C rfl rfl h_0) mw_1084 cvX8_fail rfl ⟨Nat.le_of_ble_eq_true rfl, Nat.le_of_ble_eq_true rfl⟩ rfl (Nat.le_of_ble_eq_true rfl) dX8_setBase_15 (fun o13 M12 => ?_)
  exact r_iret (pc := 18) C rfl dX8_setBase_18
theorem okX8_setBase {l : Launch} {G : WT} (h0 : W0 G) (v1 : Int32) (v2 : Int32) (M : Mem) (h_0 : G.2.2.2.1 19 0 0) : Okm l G yX8_setBase cX8_setBase 4 (some FieldType.int) 2 43 [.ref (G.1 19 0 0), .int v1, .int v2] voI M (pX8_setBase  v1 v2 M) :=
  Okm.of "PermitParkModel" rfl (by decide) (Nat.le_of_ble_eq_true rfl) (L := [(0, .ref (G.1 19 0 0)), (1, .int v1), (2, .int v2)]) rfl (fun K _ hr C => lX8_setBase_0 C (by rw [hr]; exact ⟨rfl, rfl⟩) h0 v1 v2 M h_0)
def pX8_set_33 (M : Mem) : Option (Int32 × Mem) :=
    bnd (pX8_fail (1 : Int32) M) fun o2 M1 => some (o2, M1)
theorem lX8_set_33 {K : KT} {G : WT} (C : Cx K G "PermitParkModel" cX8_set 4 (some FieldType.int)) (hRm : K.2.2.2.1.frames = 1 ∧ K.2.2.2.1.locals = 22) (h0 : W0 G) (M : Mem) (g_0 : G.2.2.2.1 19 0 0) : Run K G 4 0 0 (FinM K G voI 0 0) 33 [(0, .ref (G.1 19 0 0))] [] M (pX8_set_33    M) := by
  rw [pX8_set_33]
  refine r_aload_n (pc := 33) C 0 rfl rfl dX8_set_33 ?_
  refine r_iconst (pc := 34) C dX8_set_34 kc_1 ?_
  refine r_cVI (pc := 35) C hRm (okX8_fail h0 (1 : Int32) M g_0) (Rc.of C rfl rfl g_0) mw_1084 cvX8_fail rfl ⟨Nat.le_of_ble_eq_true rfl, Nat.le_of_ble_eq_true rfl⟩ rfl (Nat.le_of_ble_eq_true rfl) dX8_set_35 (fun o2 M1 => ?_)
  exact r_iret (pc := 38) C rfl dX8_set_38
def pX8_set_27 (v1 : Int32) (v2 : Int32) (s0 : Int32) (s1 : Int32) (s2 : Int32) (M : Mem) : Option (Int32 × Mem) :=
    bnd (pX8_isBetween s2 s1 s0 M) fun o2 M1 => if ¬ o2 = 0 then (chk (inB v1 700) <| nm (M1.1 20 0 0 v1.toNatClampNeg) fun x4 => chk (inB v1 700) <| nm (wI M1 20 0 0 v1.toNatClampNeg v2) fun M6 => some (x4, M6))
    else pX8_set_33    M1
theorem lX8_set_27 {K : KT} {G : WT} (C : Cx K G "PermitParkModel" cX8_set 4 (some FieldType.int)) (hRm : K.2.2.2.1.frames = 1 ∧ K.2.2.2.1.locals = 22) (h0 : W0 G) (v1 : Int32) (v2 : Int32) (s0 : Int32) (s1 : Int32) (s2 : Int32) (M : Mem) (g_0 : G.2.2.2.1 19 0 0) : Run K G 4 0 0 (FinM K G voI 0 0) 27 [(0, .ref (G.1 19 0 0)), (1, .int v1), (2, .int v2)] [.int s0, .int s1, .int s2] M (pX8_set_27   v1 v2 s0 s1 s2 M) := by
  rw [pX8_set_27]
  refine r_cSI (pc := 27) C hRm (okX8_isBetween h0 s2 s1 s0 M ) mw_1092 cvX8_isBetween rfl ⟨Nat.le_of_ble_eq_true rfl, Nat.le_of_ble_eq_true rfl⟩ rfl (Nat.le_of_ble_eq_true rfl) dX8_set_27 (fun o2 M1 => ?_)
  refine r_if_ne (pc := 30) C dX8_set_30 (tgt := 39) rfl ?_ ?_
  refine r_aload_n (pc := 39) C 0 rfl rfl dX8_set_39 ?_
  refine r_getR (pc := 40) C FX8_state mw_1012 g_0 rfl dX8_set_40 (fun g3 => ?_)
  refine r_iload_n (pc := 43) C 1 rfl rfl dX8_set_43 ?_
  refine r_iald (pc := 44) C rfl g3 (fun _ => rfl) (fun _ => rfl) dX8_set_44 ?_
  refine r_nmi (fun x4 => ?_)
  refine r_istore_n (pc := 45) C [(3, .int x4), (0, .ref (G.1 19 0 0)), (1, .int v1), (2, .int v2)] dX8_set_45 rfl (by decide) rfl ?_
  refine r_aload_n (pc := 46) C 1 rfl rfl dX8_set_46 ?_
  refine r_getR (pc := 47) C FX8_state mw_1012 g_0 rfl dX8_set_47 (fun g5 => ?_)
  refine r_iload_n (pc := 50) C 2 rfl rfl dX8_set_50 ?_
  refine r_iload_n (pc := 51) C 3 rfl rfl dX8_set_51 ?_
  refine r_iast (pc := 52) C rfl g3 (fun _ => rfl) (fun _ => rfl) dX8_set_52 (fun M6 => ?_)
  refine r_iload_n (pc := 53) C 0 rfl rfl dX8_set_53 ?_
  exact r_iret (pc := 54) C rfl dX8_set_54
  refine r_sub [0] rfl ?_
  exact lX8_set_33   C hRm h0   M1 g_0
def pX8_set (v1 : Int32) (v2 : Int32) (M : Mem) : Option (Int32 × Mem) :=
    nm (wI M 19 0 0 7 (0 : Int32)) fun M1 => bnd (pX8_isBetween v1 (0 : Int32) (1 : Int32) M1) fun o3 M2 => if o3 = 0 then (pX8_set_33    M2)
    else if ¬ v1 = 0 then (pX8_set_27    v1 v2 (1 : Int32) (0 : Int32) v2 M2)
    else pX8_set_27    v1 v2 (1000 : Int32) (0 : Int32) v2 M2
theorem lX8_set_0 {K : KT} {G : WT} (C : Cx K G "PermitParkModel" cX8_set 4 (some FieldType.int)) (hRm : K.2.2.2.1.frames = 1 ∧ K.2.2.2.1.locals = 22) (h0 : W0 G) (v1 : Int32) (v2 : Int32) (M : Mem) (h_0 : G.2.2.2.1 19 0 0) : Run K G 4 0 0 (FinM K G voI 0 0) 0 [(0, .ref (G.1 19 0 0)), (1, .int v1), (2, .int v2)] [] M (pX8_set   v1 v2 M) := by
  rw [pX8_set]
  refine r_aload_n (pc := 0) C 0 rfl rfl dX8_set_0 ?_
  refine r_iconst (pc := 1) C dX8_set_1 kc_0 ?_
  refine r_putI (pc := 2) C FX8_thrown mw_1019 h_0 tyX8 tyX8_ok nmX8 (fun _ _ => rfl) rfl dX8_set_2 (fun M1 => ?_)
  refine r_iload_n (pc := 5) C 1 rfl rfl dX8_set_5 ?_
  refine r_iconst (pc := 6) C dX8_set_6 kc_0 ?_
  refine r_iconst (pc := 7) C dX8_set_7 kc_1 ?_
  refine r_cSI (pc := 8) C hRm (okX8_isBetween h0 v1 (0 : Int32) (1 : Int32) M1 ) mw_1092 cvX8_isBetween rfl ⟨Nat.le_of_ble_eq_true rfl, Nat.le_of_ble_eq_true rfl⟩ rfl (Nat.le_of_ble_eq_true rfl) dX8_set_8 (fun o3 M2 => ?_)
  refine r_if_eq (pc := 11) C dX8_set_11 (tgt := 33) rfl ?_ ?_
  refine r_sub [0] rfl ?_
  exact lX8_set_33   C hRm h0   M2 h_0
  refine r_iload_n (pc := 14) C 2 rfl rfl dX8_set_14 ?_
  refine r_iconst (pc := 15) C dX8_set_15 kc_0 ?_
  refine r_iload_n (pc := 16) C 1 rfl rfl dX8_set_16 ?_
  refine r_if_ne (pc := 17) C dX8_set_17 (tgt := 26) rfl ?_ ?_
  refine r_iconst (pc := 26) C dX8_set_26 kc_1 ?_
  exact lX8_set_27   C hRm h0   v1 v2 (1 : Int32) (0 : Int32) v2 M2 h_0
  refine r_sipush (pc := 20) C dX8_set_20 ks_1000 ?_
  refine r_goto (pc := 23) C dX8_set_23 (tgt := 27) rfl ?_
  exact lX8_set_27   C hRm h0   v1 v2 (1000 : Int32) (0 : Int32) v2 M2 h_0
theorem okX8_set {l : Launch} {G : WT} (h0 : W0 G) (v1 : Int32) (v2 : Int32) (M : Mem) (h_0 : G.2.2.2.1 19 0 0) : Okm l G yX8_set cX8_set 4 (some FieldType.int) 1 22 [.ref (G.1 19 0 0), .int v1, .int v2] voI M (pX8_set  v1 v2 M) :=
  Okm.of "PermitParkModel" rfl (by decide) (Nat.le_of_ble_eq_true rfl) (L := [(0, .ref (G.1 19 0 0)), (1, .int v1), (2, .int v2)]) rfl (fun K _ hr C => lX8_set_0 C (by rw [hr]; exact ⟨rfl, rfl⟩) h0 v1 v2 M h_0)
def pX8_seed_16 (v1 : Int32) (s0 : Int32) (M : Mem) : Option (Unit × Mem) :=
    nm (wI M 19 0 0 7 s0) fun M1 => if ¬ (M1.1 19 0 0 7) = 0 then (chk (inB (4 : Int32) 700) <| chk (inB (4 : Int32) 700) <| nm (wI M1 20 0 0 (4 : Int32).toNatClampNeg (M1.1 20 0 0 (4 : Int32).toNatClampNeg)) fun M4 => some ((), M4))
    else chk (inB (4 : Int32) 700) <| nm (wI M1 20 0 0 (4 : Int32).toNatClampNeg v1) fun M5 => some ((), M5)
theorem lX8_seed_16 {K : KT} {G : WT} (C : Cx K G "PermitParkModel" cX8_seed 2 none) (hRm : K.2.2.2.1.frames = 1 ∧ K.2.2.2.1.locals = 22) (h0 : W0 G) (v1 : Int32) (s0 : Int32) (M : Mem) (g_0 : G.2.2.2.1 19 0 0) (g_s1 : G.2.2.2.1 19 0 0) : Run K G 2 0 0 (FinM K G voV 0 0) 16 [(0, .ref (G.1 19 0 0)), (1, .int v1)] [.int s0, .ref (G.1 19 0 0)] M (pX8_seed_16   v1 s0 M) := by
  rw [pX8_seed_16]
  refine r_putI (pc := 16) C FX8_thrown mw_1019 g_s1 tyX8 tyX8_ok nmX8 (fun _ _ => rfl) rfl dX8_seed_16 (fun M1 => ?_)
  refine r_aload_n (pc := 19) C 0 rfl rfl dX8_seed_19 ?_
  refine r_getR (pc := 20) C FX8_state mw_1012 g_s1 rfl dX8_seed_20 (fun g2 => ?_)
  refine r_iconst (pc := 23) C dX8_seed_23 kc_4 ?_
  refine r_aload_n (pc := 24) C 0 rfl rfl dX8_seed_24 ?_
  refine r_getI (pc := 25) C FX8_thrown mw_1019 g_s1 rfl rfl dX8_seed_25 ?_
  refine r_if_ne (pc := 28) C dX8_seed_28 (tgt := 35) rfl ?_ ?_
  refine r_aload_n (pc := 35) C 0 rfl rfl dX8_seed_35 ?_
  refine r_getR (pc := 36) C FX8_state mw_1012 g_s1 rfl dX8_seed_36 (fun g3 => ?_)
  refine r_iconst (pc := 39) C dX8_seed_39 kc_4 ?_
  refine r_iald (pc := 40) C rfl g2 (fun _ => rfl) (fun _ => rfl) dX8_seed_40 ?_
  refine r_iast (pc := 41) C rfl g2 (fun _ => rfl) (fun _ => rfl) dX8_seed_41 (fun M4 => ?_)
  exact r_vret (pc := 42) C dX8_seed_42
  refine r_iload_n (pc := 31) C 1 rfl rfl dX8_seed_31 ?_
  refine r_goto (pc := 32) C dX8_seed_32 (tgt := 41) rfl ?_
  refine r_iast (pc := 41) C rfl g2 (fun _ => rfl) (fun _ => rfl) dX8_seed_41 (fun M5 => ?_)
  exact r_vret (pc := 42) C dX8_seed_42
def pX8_seed (v1 : Int32) (M : Mem) : Option (Unit × Mem) :=
    bnd (pX8_isBetween v1 (0 : Int32) (1000002 : Int32) M) fun o2 M1 => if o2 = 0 then (pX8_seed_16    v1 (1 : Int32) M1)
    else pX8_seed_16    v1 (0 : Int32) M1
theorem lX8_seed_0 {K : KT} {G : WT} (C : Cx K G "PermitParkModel" cX8_seed 2 none) (hRm : K.2.2.2.1.frames = 1 ∧ K.2.2.2.1.locals = 22) (h0 : W0 G) (v1 : Int32) (M : Mem) (h_0 : G.2.2.2.1 19 0 0) : Run K G 2 0 0 (FinM K G voV 0 0) 0 [(0, .ref (G.1 19 0 0)), (1, .int v1)] [] M (pX8_seed   v1 M) := by
  rw [pX8_seed]
  refine r_aload_n (pc := 0) C 0 rfl rfl dX8_seed_0 ?_
  refine r_iload_n (pc := 1) C 1 rfl rfl dX8_seed_1 ?_
  refine r_iconst (pc := 2) C dX8_seed_2 kc_0 ?_
  refine r_ldc (pc := 3) C mw_1230 dX8_seed_3 ?_
  refine r_cSI (pc := 5) C hRm (okX8_isBetween h0 v1 (0 : Int32) (1000002 : Int32) M ) mw_1092 cvX8_isBetween rfl ⟨Nat.le_of_ble_eq_true rfl, Nat.le_of_ble_eq_true rfl⟩ rfl (Nat.le_of_ble_eq_true rfl) dX8_seed_5 (fun o2 M1 => ?_)
  refine r_if_eq (pc := 8) C dX8_seed_8 (tgt := 15) rfl ?_ ?_
  refine r_iconst (pc := 15) C dX8_seed_15 kc_1 ?_
  exact lX8_seed_16   C hRm h0   v1 (1 : Int32) M1 h_0 h_0
  refine r_iconst (pc := 11) C dX8_seed_11 kc_0 ?_
  refine r_goto (pc := 12) C dX8_seed_12 (tgt := 16) rfl ?_
  exact lX8_seed_16   C hRm h0   v1 (0 : Int32) M1 h_0 h_0
theorem okX8_seed {l : Launch} {G : WT} (h0 : W0 G) (v1 : Int32) (M : Mem) (h_0 : G.2.2.2.1 19 0 0) : Okm l G yX8_seed cX8_seed 2 none 1 22 [.ref (G.1 19 0 0), .int v1] voV M (pX8_seed  v1 M) :=
  Okm.of "PermitParkModel" rfl (by decide) (Nat.le_of_ble_eq_true rfl) (L := [(0, .ref (G.1 19 0 0)), (1, .int v1)]) rfl (fun K _ hr C => lX8_seed_0 C (by rw [hr]; exact ⟨rfl, rfl⟩) h0 v1 M h_0)
def pX8_setFlag_16 (v1 : Int32) (v2 : Int32) (s0 : Int32) (M : Mem) : Option (Int32 × Mem) :=
    nm (wI M 19 0 0 7 s0) fun M1 => if (M1.1 19 0 0 7) = 0 then (bnd (pX8_isOn v1 M1) fun o3 M2 => bnd (pX8_turnFlag v1 v2 M2) fun o5 M4 => chk (decide (o3 = 0 ∨ o3 = 1)) (some (o3, M4)))
    else chk (decide ((0 : Int32) = 0 ∨ (0 : Int32) = 1)) (some ((0 : Int32), M1))
theorem lX8_setFlag_16 {K : KT} {G : WT} (C : Cx K G "PermitParkModel" cX8_setFlag 4 (some FieldType.boolean)) (hRm : K.2.2.2.1.frames = 2 ∧ K.2.2.2.1.locals = 43) (h0 : W0 G) (v1 : Int32) (v2 : Int32) (s0 : Int32) (M : Mem) (g_0 : G.2.2.2.1 19 0 0) (g_s1 : G.2.2.2.1 19 0 0) : Run K G 4 0 0 (FinM K G voI 0 0) 16 [(0, .ref (G.1 19 0 0)), (1, .int v1), (2, .int v2)] [.int s0, .ref (G.1 19 0 0)] M (pX8_setFlag_16   v1 v2 s0 M) := by
  rw [pX8_setFlag_16]
  refine r_putI (pc := 16) C FX8_thrown mw_1019 g_s1 tyX8 tyX8_ok nmX8 (fun _ _ => rfl) rfl dX8_setFlag_16 (fun M1 => ?_)
  refine r_aload_n (pc := 19) C 0 rfl rfl dX8_setFlag_19 ?_
  refine r_getI (pc := 20) C FX8_thrown mw_1019 g_s1 rfl rfl dX8_setFlag_20 ?_
  refine r_if_eq (pc := 23) C dX8_setFlag_23 (tgt := 28) rfl ?_ ?_
  refine r_aload_n (pc := 28) C 0 rfl rfl dX8_setFlag_28 ?_
  refine r_iload_n (pc := 29) C 1 rfl rfl dX8_setFlag_29 ?_
  refine r_cVI (pc := 30) C hRm (okX8_isOn h0 v1 M1 g_s1) (Rc.of C rfl rfl g_s1) mw_1213 cvX8_isOn rfl ⟨Nat.le_of_ble_eq_true rfl, Nat.le_of_ble_eq_true rfl⟩ rfl (Nat.le_of_ble_eq_true rfl) dX8_setFlag_30 (fun o3 M2 => ?_)
  refine r_istore_n (pc := 33) C [(3, .int o3), (0, .ref (G.1 19 0 0)), (1, .int v1), (2, .int v2)] dX8_setFlag_33 rfl (by decide) rfl ?_
  refine r_aload_n (pc := 34) C 1 rfl rfl dX8_setFlag_34 ?_
  refine r_iload_n (pc := 35) C 2 rfl rfl dX8_setFlag_35 ?_
  refine r_iload_n (pc := 36) C 3 rfl rfl dX8_setFlag_36 ?_
  refine r_cVV (pc := 37) C hRm (okX8_turnFlag h0 v1 v2 M2 g_s1) (Rc.of C rfl rfl g_s1) mw_1217 cvX8_turnFlag rfl ⟨Nat.le_of_ble_eq_true rfl, Nat.le_of_ble_eq_true rfl⟩ rfl (Nat.le_of_ble_eq_true rfl) dX8_setFlag_37 (fun o5 M4 => ?_)
  refine r_iload_n (pc := 40) C 0 rfl rfl dX8_setFlag_40 ?_
  exact r_zret (pc := 41) C dX8_setFlag_41
  refine r_iconst (pc := 26) C dX8_setFlag_26 kc_0 ?_
  exact r_zret (pc := 27) C dX8_setFlag_27
def pX8_setFlag (v1 : Int32) (v2 : Int32) (M : Mem) : Option (Int32 × Mem) :=
    bnd (pX8_isBetween v1 (0 : Int32) (7 : Int32) M) fun o2 M1 => if o2 = 0 then (pX8_setFlag_16    v1 v2 (1 : Int32) M1)
    else pX8_setFlag_16    v1 v2 (0 : Int32) M1
theorem lX8_setFlag_0 {K : KT} {G : WT} (C : Cx K G "PermitParkModel" cX8_setFlag 4 (some FieldType.boolean)) (hRm : K.2.2.2.1.frames = 2 ∧ K.2.2.2.1.locals = 43) (h0 : W0 G) (v1 : Int32) (v2 : Int32) (M : Mem) (h_0 : G.2.2.2.1 19 0 0) : Run K G 4 0 0 (FinM K G voI 0 0) 0 [(0, .ref (G.1 19 0 0)), (1, .int v1), (2, .int v2)] [] M (pX8_setFlag   v1 v2 M) := by
  rw [pX8_setFlag]
  refine r_aload_n (pc := 0) C 0 rfl rfl dX8_setFlag_0 ?_
  refine r_iload_n (pc := 1) C 1 rfl rfl dX8_setFlag_1 ?_
  refine r_iconst (pc := 2) C dX8_setFlag_2 kc_0 ?_
  refine r_bipush (pc := 3) C dX8_setFlag_3 kb_7 ?_
  refine r_cSI (pc := 5) C hRm (okX8_isBetween h0 v1 (0 : Int32) (7 : Int32) M ) mw_1092 cvX8_isBetween rfl ⟨Nat.le_of_ble_eq_true rfl, Nat.le_of_ble_eq_true rfl⟩ rfl (Nat.le_of_ble_eq_true rfl) dX8_setFlag_5 (fun o2 M1 => ?_)
  refine r_if_eq (pc := 8) C dX8_setFlag_8 (tgt := 15) rfl ?_ ?_
  refine r_iconst (pc := 15) C dX8_setFlag_15 kc_1 ?_
  exact lX8_setFlag_16   C hRm h0   v1 v2 (1 : Int32) M1 h_0 h_0
  refine r_iconst (pc := 11) C dX8_setFlag_11 kc_0 ?_
  refine r_goto (pc := 12) C dX8_setFlag_12 (tgt := 16) rfl ?_
  exact lX8_setFlag_16   C hRm h0   v1 v2 (0 : Int32) M1 h_0 h_0
theorem okX8_setFlag {l : Launch} {G : WT} (h0 : W0 G) (v1 : Int32) (v2 : Int32) (M : Mem) (h_0 : G.2.2.2.1 19 0 0) : Okm l G yX8_setFlag cX8_setFlag 4 (some FieldType.boolean) 2 43 [.ref (G.1 19 0 0), .int v1, .int v2] voI M (pX8_setFlag  v1 v2 M) :=
  Okm.of "PermitParkModel" rfl (by decide) (Nat.le_of_ble_eq_true rfl) (L := [(0, .ref (G.1 19 0 0)), (1, .int v1), (2, .int v2)]) rfl (fun K _ hr C => lX8_setFlag_0 C (by rw [hr]; exact ⟨rfl, rfl⟩) h0 v1 v2 M h_0)
def pX8_inState_4 : Nat → Int32 → Int32 → Int32 → Mem → Option (Int32 × Mem)
  | 0, _, _, _, _ => none
  | n + 1, v1, v2, v3, M =>
    chk (inB (2 : Int32) 700) <| if (M.1 20 0 0 (2 : Int32).toNatClampNeg) ≤ v3 then (some (v2, M))
    else bnd (pX8_of v3 (3 : Int32) M) fun o3 M2 => if ¬ o3 = v1 then (nm (v2 + (0 : Int32)) fun x4 => pX8_inState_4   n v1 x4 (v3 + (1 : Int32)) M2)
    else nm (v2 + (1 : Int32)) fun x5 => pX8_inState_4   n v1 x5 (v3 + (1 : Int32)) M2
theorem lX8_inState_4 {K : KT} {G : WT} (C : Cx K G "PermitParkModel" cX8_inState 4 (some FieldType.int)) (hRm : K.2.2.2.1.frames = 1 ∧ K.2.2.2.1.locals = 22) (h0 : W0 G) : ∀ (n : Nat) (v1 : Int32) (v2 : Int32) (v3 : Int32) (M : Mem), G.2.2.2.1 19 0 0 → Run K G 4 0 0 (FinM K G voI 0 0) 4 [(0, .ref (G.1 19 0 0)), (1, .int v1), (2, .int v2), (3, .int v3)] [] M (pX8_inState_4   n v1 v2 v3 M) := by
  intro n
  induction n with
  | zero =>
    intro v1 v2 v3 M g_0
    exact r_none
  | succ n ih =>
    intro v1 v2 v3 M g_0
    rw [pX8_inState_4]
    refine r_iload_n (pc := 4) C 3 rfl rfl dX8_inState_4 ?_
    refine r_aload_n (pc := 5) C 0 rfl rfl dX8_inState_5 ?_
    refine r_getR (pc := 6) C FX8_state mw_1012 g_0 rfl dX8_inState_6 (fun g1 => ?_)
    refine r_iconst (pc := 9) C dX8_inState_9 kc_2 ?_
    refine r_iald (pc := 10) C rfl g1 (fun _ => rfl) (fun _ => rfl) dX8_inState_10 ?_
    refine r_icmp_ge (pc := 11) C dX8_inState_11 (tgt := 38) rfl ?_ ?_
    refine r_iload_n (pc := 38) C 2 rfl rfl dX8_inState_38 ?_
    exact r_iret (pc := 39) C rfl dX8_inState_39
    refine r_iload_n (pc := 14) C 2 rfl rfl dX8_inState_14 ?_
    refine r_aload_n (pc := 15) C 0 rfl rfl dX8_inState_15 ?_
    refine r_iload_n (pc := 16) C 3 rfl rfl dX8_inState_16 ?_
    refine r_iconst (pc := 17) C dX8_inState_17 kc_3 ?_
    refine r_cVI (pc := 18) C hRm (okX8_of h0 v3 (3 : Int32) M g_0) (Rc.of C rfl rfl g_0) mw_1193 cvX8_of rfl ⟨Nat.le_of_ble_eq_true rfl, Nat.le_of_ble_eq_true rfl⟩ rfl (Nat.le_of_ble_eq_true rfl) dX8_inState_18 (fun o3 M2 => ?_)
    refine r_iload_n (pc := 21) C 1 rfl rfl dX8_inState_21 ?_
    refine r_icmp_ne (pc := 22) C dX8_inState_22 (tgt := 29) rfl ?_ ?_
    refine r_iconst (pc := 29) C dX8_inState_29 kc_0 ?_
    refine r_iadd (pc := 30) C dX8_inState_30 ?_
    refine r_nmi (fun x4 => ?_)
    refine r_istore_n (pc := 31) C [(2, .int x4), (0, .ref (G.1 19 0 0)), (1, .int v1), (3, .int v3)] dX8_inState_31 rfl (by decide) rfl ?_
    refine r_iinc (pc := 32) C [(3, .int (v3 + (1 : Int32))), (2, .int x4), (0, .ref (G.1 19 0 0)), (1, .int v1)] dX8_inState_32 (p := 3) rfl (ki_1 _) (by decide) rfl ?_
    refine r_goto (pc := 35) C dX8_inState_35 (tgt := 4) rfl ?_
    refine r_sub [2, 3, 1, 0] rfl ?_
    exact ih v1 x4 (v3 + (1 : Int32)) M2 g_0
    refine r_iconst (pc := 25) C dX8_inState_25 kc_1 ?_
    refine r_goto (pc := 26) C dX8_inState_26 (tgt := 30) rfl ?_
    refine r_iadd (pc := 30) C dX8_inState_30 ?_
    refine r_nmi (fun x5 => ?_)
    refine r_istore_n (pc := 31) C [(2, .int x5), (0, .ref (G.1 19 0 0)), (1, .int v1), (3, .int v3)] dX8_inState_31 rfl (by decide) rfl ?_
    refine r_iinc (pc := 32) C [(3, .int (v3 + (1 : Int32))), (2, .int x5), (0, .ref (G.1 19 0 0)), (1, .int v1)] dX8_inState_32 (p := 3) rfl (ki_1 _) (by decide) rfl ?_
    refine r_goto (pc := 35) C dX8_inState_35 (tgt := 4) rfl ?_
    refine r_sub [2, 3, 1, 0] rfl ?_
    exact ih v1 x5 (v3 + (1 : Int32)) M2 g_0
def pX8_inState (v1 : Int32) (M : Mem) : Option (Int32 × Mem) :=
    pX8_inState_4   fu v1 (0 : Int32) (0 : Int32) M
theorem lX8_inState_0 {K : KT} {G : WT} (C : Cx K G "PermitParkModel" cX8_inState 4 (some FieldType.int)) (hRm : K.2.2.2.1.frames = 1 ∧ K.2.2.2.1.locals = 22) (h0 : W0 G) (v1 : Int32) (M : Mem) (h_0 : G.2.2.2.1 19 0 0) : Run K G 4 0 0 (FinM K G voI 0 0) 0 [(0, .ref (G.1 19 0 0)), (1, .int v1)] [] M (pX8_inState   v1 M) := by
  rw [pX8_inState]
  refine r_iconst (pc := 0) C dX8_inState_0 kc_0 ?_
  refine r_istore_n (pc := 1) C [(2, .int (0 : Int32)), (0, .ref (G.1 19 0 0)), (1, .int v1)] dX8_inState_1 rfl (by decide) rfl ?_
  refine r_iconst (pc := 2) C dX8_inState_2 kc_0 ?_
  refine r_istore_n (pc := 3) C [(3, .int (0 : Int32)), (2, .int (0 : Int32)), (0, .ref (G.1 19 0 0)), (1, .int v1)] dX8_inState_3 rfl (by decide) rfl ?_
  refine r_sub [2, 3, 1, 0] rfl ?_
  exact lX8_inState_4   C hRm h0  fu v1 (0 : Int32) (0 : Int32) M h_0
theorem okX8_inState {l : Launch} {G : WT} (h0 : W0 G) (v1 : Int32) (M : Mem) (h_0 : G.2.2.2.1 19 0 0) : Okm l G yX8_inState cX8_inState 4 (some FieldType.int) 1 22 [.ref (G.1 19 0 0), .int v1] voI M (pX8_inState  v1 M) :=
  Okm.of "PermitParkModel" rfl (by decide) (Nat.le_of_ble_eq_true rfl) (L := [(0, .ref (G.1 19 0 0)), (1, .int v1)]) rfl (fun K _ hr C => lX8_inState_0 C (by rw [hr]; exact ⟨rfl, rfl⟩) h0 v1 M h_0)
def pX8_locksOf_4 : Nat → Int32 → Int32 → Int32 → Mem → Option (Int32 × Mem)
  | 0, _, _, _, _ => none
  | n + 1, v1, v2, v3, M =>
    if (6 : Int32) ≤ v3 then (some (v2, M))
    else chk (inB ((14 : Int32) + v3) 700) <| if ¬ (M.1 20 0 0 ((14 : Int32) + v3).toNatClampNeg) = v1 then (nm (v2 + (0 : Int32)) fun x2 => pX8_locksOf_4   n v1 x2 (v3 + (1 : Int32)) M)
    else nm (v2 + ((1 : Int32) <<< (v3 &&& 31))) fun x3 => pX8_locksOf_4   n v1 x3 (v3 + (1 : Int32)) M
theorem lX8_locksOf_4 {K : KT} {G : WT} (C : Cx K G "PermitParkModel" cX8_locksOf 4 (some FieldType.int)) (hRm : K.2.2.2.1.frames = 0 ∧ K.2.2.2.1.locals = 0) (h0 : W0 G) : ∀ (n : Nat) (v1 : Int32) (v2 : Int32) (v3 : Int32) (M : Mem), G.2.2.2.1 19 0 0 → Run K G 4 0 0 (FinM K G voI 0 0) 4 [(0, .ref (G.1 19 0 0)), (1, .int v1), (2, .int v2), (3, .int v3)] [] M (pX8_locksOf_4   n v1 v2 v3 M) := by
  intro n
  induction n with
  | zero =>
    intro v1 v2 v3 M g_0
    exact r_none
  | succ n ih =>
    intro v1 v2 v3 M g_0
    rw [pX8_locksOf_4]
    refine r_iload_n (pc := 4) C 3 rfl rfl dX8_locksOf_4 ?_
    refine r_bipush (pc := 5) C dX8_locksOf_5 kb_6 ?_
    refine r_icmp_ge (pc := 7) C dX8_locksOf_7 (tgt := 39) rfl ?_ ?_
    refine r_iload_n (pc := 39) C 2 rfl rfl dX8_locksOf_39 ?_
    exact r_iret (pc := 40) C rfl dX8_locksOf_40
    refine r_iload_n (pc := 10) C 2 rfl rfl dX8_locksOf_10 ?_
    refine r_aload_n (pc := 11) C 0 rfl rfl dX8_locksOf_11 ?_
    refine r_getR (pc := 12) C FX8_state mw_1012 g_0 rfl dX8_locksOf_12 (fun g1 => ?_)
    refine r_bipush (pc := 15) C dX8_locksOf_15 kb_14 ?_
    refine r_iload_n (pc := 17) C 3 rfl rfl dX8_locksOf_17 ?_
    refine r_iadd (pc := 18) C dX8_locksOf_18 ?_
    refine r_iald (pc := 19) C rfl g1 (fun _ => rfl) (fun _ => rfl) dX8_locksOf_19 ?_
    refine r_iload_n (pc := 20) C 1 rfl rfl dX8_locksOf_20 ?_
    refine r_icmp_ne (pc := 21) C dX8_locksOf_21 (tgt := 30) rfl ?_ ?_
    refine r_iconst (pc := 30) C dX8_locksOf_30 kc_0 ?_
    refine r_iadd (pc := 31) C dX8_locksOf_31 ?_
    refine r_nmi (fun x2 => ?_)
    refine r_istore_n (pc := 32) C [(2, .int x2), (0, .ref (G.1 19 0 0)), (1, .int v1), (3, .int v3)] dX8_locksOf_32 rfl (by decide) rfl ?_
    refine r_iinc (pc := 33) C [(3, .int (v3 + (1 : Int32))), (2, .int x2), (0, .ref (G.1 19 0 0)), (1, .int v1)] dX8_locksOf_33 (p := 3) rfl (ki_1 _) (by decide) rfl ?_
    refine r_goto (pc := 36) C dX8_locksOf_36 (tgt := 4) rfl ?_
    refine r_sub [2, 3, 1, 0] rfl ?_
    exact ih v1 x2 (v3 + (1 : Int32)) M g_0
    refine r_iconst (pc := 24) C dX8_locksOf_24 kc_1 ?_
    refine r_iload_n (pc := 25) C 3 rfl rfl dX8_locksOf_25 ?_
    refine r_ishl (pc := 26) C dX8_locksOf_26 ?_
    refine r_goto (pc := 27) C dX8_locksOf_27 (tgt := 31) rfl ?_
    refine r_iadd (pc := 31) C dX8_locksOf_31 ?_
    refine r_nmi (fun x3 => ?_)
    refine r_istore_n (pc := 32) C [(2, .int x3), (0, .ref (G.1 19 0 0)), (1, .int v1), (3, .int v3)] dX8_locksOf_32 rfl (by decide) rfl ?_
    refine r_iinc (pc := 33) C [(3, .int (v3 + (1 : Int32))), (2, .int x3), (0, .ref (G.1 19 0 0)), (1, .int v1)] dX8_locksOf_33 (p := 3) rfl (ki_1 _) (by decide) rfl ?_
    refine r_goto (pc := 36) C dX8_locksOf_36 (tgt := 4) rfl ?_
    refine r_sub [2, 3, 1, 0] rfl ?_
    exact ih v1 x3 (v3 + (1 : Int32)) M g_0
def pX8_locksOf (v1 : Int32) (M : Mem) : Option (Int32 × Mem) :=
    pX8_locksOf_4   fu v1 (0 : Int32) (0 : Int32) M
theorem lX8_locksOf_0 {K : KT} {G : WT} (C : Cx K G "PermitParkModel" cX8_locksOf 4 (some FieldType.int)) (hRm : K.2.2.2.1.frames = 0 ∧ K.2.2.2.1.locals = 0) (h0 : W0 G) (v1 : Int32) (M : Mem) (h_0 : G.2.2.2.1 19 0 0) : Run K G 4 0 0 (FinM K G voI 0 0) 0 [(0, .ref (G.1 19 0 0)), (1, .int v1)] [] M (pX8_locksOf   v1 M) := by
  rw [pX8_locksOf]
  refine r_iconst (pc := 0) C dX8_locksOf_0 kc_0 ?_
  refine r_istore_n (pc := 1) C [(2, .int (0 : Int32)), (0, .ref (G.1 19 0 0)), (1, .int v1)] dX8_locksOf_1 rfl (by decide) rfl ?_
  refine r_iconst (pc := 2) C dX8_locksOf_2 kc_0 ?_
  refine r_istore_n (pc := 3) C [(3, .int (0 : Int32)), (2, .int (0 : Int32)), (0, .ref (G.1 19 0 0)), (1, .int v1)] dX8_locksOf_3 rfl (by decide) rfl ?_
  refine r_sub [2, 3, 1, 0] rfl ?_
  exact lX8_locksOf_4   C hRm h0  fu v1 (0 : Int32) (0 : Int32) M h_0
theorem okX8_locksOf {l : Launch} {G : WT} (h0 : W0 G) (v1 : Int32) (M : Mem) (h_0 : G.2.2.2.1 19 0 0) : Okm l G yX8_locksOf cX8_locksOf 4 (some FieldType.int) 0 0 [.ref (G.1 19 0 0), .int v1] voI M (pX8_locksOf  v1 M) :=
  Okm.of "PermitParkModel" rfl (by decide) (Nat.le_of_ble_eq_true rfl) (L := [(0, .ref (G.1 19 0 0)), (1, .int v1)]) rfl (fun K _ hr C => lX8_locksOf_0 C (by rw [hr]; exact ⟨rfl, rfl⟩) h0 v1 M h_0)
def pX8_heldLocks_4 : Nat → Int32 → Int32 → Mem → Option (Int32 × Mem)
  | 0, _, _, _ => none
  | n + 1, v1, v2, M =>
    if (6 : Int32) ≤ v2 then (some (v1, M))
    else chk (inB ((14 : Int32) + v2) 700) <| if ¬ (M.1 20 0 0 ((14 : Int32) + v2).toNatClampNeg) = (-1 : Int32) then (nm (v1 + ((1 : Int32) <<< (v2 &&& 31))) fun x2 => pX8_heldLocks_4   n x2 (v2 + (1 : Int32)) M)
    else nm (v1 + (0 : Int32)) fun x3 => pX8_heldLocks_4   n x3 (v2 + (1 : Int32)) M
theorem lX8_heldLocks_4 {K : KT} {G : WT} (C : Cx K G "PermitParkModel" cX8_heldLocks 3 (some FieldType.int)) (hRm : K.2.2.2.1.frames = 0 ∧ K.2.2.2.1.locals = 0) (h0 : W0 G) : ∀ (n : Nat) (v1 : Int32) (v2 : Int32) (M : Mem), G.2.2.2.1 19 0 0 → Run K G 3 0 0 (FinM K G voI 0 0) 4 [(0, .ref (G.1 19 0 0)), (1, .int v1), (2, .int v2)] [] M (pX8_heldLocks_4   n v1 v2 M) := by
  intro n
  induction n with
  | zero =>
    intro v1 v2 M g_0
    exact r_none
  | succ n ih =>
    intro v1 v2 M g_0
    rw [pX8_heldLocks_4]
    refine r_iload_n (pc := 4) C 2 rfl rfl dX8_heldLocks_4 ?_
    refine r_bipush (pc := 5) C dX8_heldLocks_5 kb_6 ?_
    refine r_icmp_ge (pc := 7) C dX8_heldLocks_7 (tgt := 39) rfl ?_ ?_
    refine r_iload_n (pc := 39) C 1 rfl rfl dX8_heldLocks_39 ?_
    exact r_iret (pc := 40) C rfl dX8_heldLocks_40
    refine r_iload_n (pc := 10) C 1 rfl rfl dX8_heldLocks_10 ?_
    refine r_aload_n (pc := 11) C 0 rfl rfl dX8_heldLocks_11 ?_
    refine r_getR (pc := 12) C FX8_state mw_1012 g_0 rfl dX8_heldLocks_12 (fun g1 => ?_)
    refine r_bipush (pc := 15) C dX8_heldLocks_15 kb_14 ?_
    refine r_iload_n (pc := 17) C 2 rfl rfl dX8_heldLocks_17 ?_
    refine r_iadd (pc := 18) C dX8_heldLocks_18 ?_
    refine r_iald (pc := 19) C rfl g1 (fun _ => rfl) (fun _ => rfl) dX8_heldLocks_19 ?_
    refine r_iconst (pc := 20) C dX8_heldLocks_20 kc_m1 ?_
    refine r_icmp_ne (pc := 21) C dX8_heldLocks_21 (tgt := 28) rfl ?_ ?_
    refine r_iconst (pc := 28) C dX8_heldLocks_28 kc_1 ?_
    refine r_iload_n (pc := 29) C 2 rfl rfl dX8_heldLocks_29 ?_
    refine r_ishl (pc := 30) C dX8_heldLocks_30 ?_
    refine r_iadd (pc := 31) C dX8_heldLocks_31 ?_
    refine r_nmi (fun x2 => ?_)
    refine r_istore_n (pc := 32) C [(1, .int x2), (0, .ref (G.1 19 0 0)), (2, .int v2)] dX8_heldLocks_32 rfl (by decide) rfl ?_
    refine r_iinc (pc := 33) C [(2, .int (v2 + (1 : Int32))), (1, .int x2), (0, .ref (G.1 19 0 0))] dX8_heldLocks_33 (p := 2) rfl (ki_1 _) (by decide) rfl ?_
    refine r_goto (pc := 36) C dX8_heldLocks_36 (tgt := 4) rfl ?_
    refine r_sub [2, 1, 0] rfl ?_
    exact ih x2 (v2 + (1 : Int32)) M g_0
    refine r_iconst (pc := 24) C dX8_heldLocks_24 kc_0 ?_
    refine r_goto (pc := 25) C dX8_heldLocks_25 (tgt := 31) rfl ?_
    refine r_iadd (pc := 31) C dX8_heldLocks_31 ?_
    refine r_nmi (fun x3 => ?_)
    refine r_istore_n (pc := 32) C [(1, .int x3), (0, .ref (G.1 19 0 0)), (2, .int v2)] dX8_heldLocks_32 rfl (by decide) rfl ?_
    refine r_iinc (pc := 33) C [(2, .int (v2 + (1 : Int32))), (1, .int x3), (0, .ref (G.1 19 0 0))] dX8_heldLocks_33 (p := 2) rfl (ki_1 _) (by decide) rfl ?_
    refine r_goto (pc := 36) C dX8_heldLocks_36 (tgt := 4) rfl ?_
    refine r_sub [2, 1, 0] rfl ?_
    exact ih x3 (v2 + (1 : Int32)) M g_0
def pX8_heldLocks (M : Mem) : Option (Int32 × Mem) :=
    pX8_heldLocks_4   fu (0 : Int32) (0 : Int32) M
theorem lX8_heldLocks_0 {K : KT} {G : WT} (C : Cx K G "PermitParkModel" cX8_heldLocks 3 (some FieldType.int)) (hRm : K.2.2.2.1.frames = 0 ∧ K.2.2.2.1.locals = 0) (h0 : W0 G) (M : Mem) (h_0 : G.2.2.2.1 19 0 0) : Run K G 3 0 0 (FinM K G voI 0 0) 0 [(0, .ref (G.1 19 0 0))] [] M (pX8_heldLocks    M) := by
  rw [pX8_heldLocks]
  refine r_iconst (pc := 0) C dX8_heldLocks_0 kc_0 ?_
  refine r_istore_n (pc := 1) C [(1, .int (0 : Int32)), (0, .ref (G.1 19 0 0))] dX8_heldLocks_1 rfl (by decide) rfl ?_
  refine r_iconst (pc := 2) C dX8_heldLocks_2 kc_0 ?_
  refine r_istore_n (pc := 3) C [(2, .int (0 : Int32)), (1, .int (0 : Int32)), (0, .ref (G.1 19 0 0))] dX8_heldLocks_3 rfl (by decide) rfl ?_
  refine r_sub [2, 1, 0] rfl ?_
  exact lX8_heldLocks_4   C hRm h0  fu (0 : Int32) (0 : Int32) M h_0
theorem okX8_heldLocks {l : Launch} {G : WT} (h0 : W0 G) (M : Mem) (h_0 : G.2.2.2.1 19 0 0) : Okm l G yX8_heldLocks cX8_heldLocks 3 (some FieldType.int) 0 0 [.ref (G.1 19 0 0)] voI M (pX8_heldLocks   M) :=
  Okm.of "PermitParkModel" rfl (by decide) (Nat.le_of_ble_eq_true rfl) (L := [(0, .ref (G.1 19 0 0))]) rfl (fun K _ hr C => lX8_heldLocks_0 C (by rw [hr]; exact ⟨rfl, rfl⟩) h0  M h_0)
def pX8_count (v1 : Int32) (M : Mem) : Option (Int32 × Mem) :=
    nm (wI M 19 0 0 7 (0 : Int32)) fun M1 => if v1 = (0 : Int32) then (chk (inB v1 700) <| some ((M1.1 20 0 0 v1.toNatClampNeg), M1))
    else if v1 = (1 : Int32) then (chk (inB v1 700) <| some ((M1.1 20 0 0 v1.toNatClampNeg), M1))
    else if v1 = (2 : Int32) then (chk (inB v1 700) <| some ((M1.1 20 0 0 v1.toNatClampNeg), M1))
    else if v1 = (3 : Int32) then (chk (inB v1 700) <| some ((M1.1 20 0 0 v1.toNatClampNeg), M1))
    else if v1 = (4 : Int32) then (chk (inB v1 700) <| some ((M1.1 20 0 0 v1.toNatClampNeg), M1))
    else if v1 = (5 : Int32) then (bnd (pX8_inState (v1 - (5 : Int32)) M1) fun o14 M13 => some (o14, M13))
    else if v1 = (6 : Int32) then (bnd (pX8_inState (v1 - (5 : Int32)) M1) fun o17 M16 => some (o17, M16))
    else if v1 = (7 : Int32) then (bnd (pX8_inState (v1 - (5 : Int32)) M1) fun o20 M19 => some (o20, M19))
    else if v1 = (8 : Int32) then (bnd (pX8_inState (v1 - (5 : Int32)) M1) fun o23 M22 => some (o23, M22))
    else if v1 = (9 : Int32) then (bnd (pX8_inState (v1 - (5 : Int32)) M1) fun o26 M25 => some (o26, M25))
    else if v1 = (10 : Int32) then (chk (inB (5 : Int32) 700) <| some ((M1.1 20 0 0 (5 : Int32).toNatClampNeg), M1))
    else if v1 = (11 : Int32) then (bnd (pX8_heldLocks M1) fun o31 M30 => some (o31, M30))
    else if v1 = (12 : Int32) then (chk (inB (6 : Int32) 700) <| some ((M1.1 20 0 0 (6 : Int32).toNatClampNeg), M1))
    else if v1 = (13 : Int32) then (chk (inB (7 : Int32) 700) <| some ((M1.1 20 0 0 (7 : Int32).toNatClampNeg), M1))
    else bnd (pX8_isBetween v1 (14 : Int32) (17 : Int32) M1) fun o37 M36 => if o37 = 0 then (bnd (pX8_fail (1 : Int32) M36) fun o39 M38 => some (o39, M38))
    else chk (inB (((8 : Int32) + v1) - (14 : Int32)) 700) <| some ((M36.1 20 0 0 (((8 : Int32) + v1) - (14 : Int32)).toNatClampNeg), M36)
theorem lX8_count_0 {K : KT} {G : WT} (C : Cx K G "PermitParkModel" cX8_count 2 (some FieldType.int)) (hRm : K.2.2.2.1.frames = 2 ∧ K.2.2.2.1.locals = 45) (h0 : W0 G) (v1 : Int32) (M : Mem) (h_0 : G.2.2.2.1 19 0 0) : Run K G 2 0 0 (FinM K G voI 0 0) 0 [(0, .ref (G.1 19 0 0)), (1, .int v1)] [] M (pX8_count   v1 M) := by
  rw [pX8_count]
  refine r_aload_n (pc := 0) C 0 rfl rfl dX8_count_0 ?_
  refine r_iconst (pc := 1) C dX8_count_1 kc_0 ?_
  refine r_putI (pc := 2) C FX8_thrown mw_1019 h_0 tyX8 tyX8_ok nmX8 (fun _ _ => rfl) rfl dX8_count_2 (fun M1 => ?_)
  refine r_iload_n (pc := 5) C 1 rfl rfl dX8_count_5 ?_
  refine r_ite (fun e2 => ?_) (fun e2n => ?_)
  refine r_tabE (pc := 6) C e2 dX8_count_6 (by decide) (by decide) (off := 70) rfl (tgt := 76) rfl ?_
  refine r_aload_n (pc := 76) C 0 rfl rfl dX8_count_76 ?_
  refine r_getR (pc := 77) C FX8_state mw_1012 h_0 rfl dX8_count_77 (fun g3 => ?_)
  refine r_iload_n (pc := 80) C 1 rfl rfl dX8_count_80 ?_
  refine r_iald (pc := 81) C rfl g3 (fun _ => rfl) (fun _ => rfl) dX8_count_81 ?_
  exact r_iret (pc := 82) C rfl dX8_count_82
  refine r_ite (fun e4 => ?_) (fun e4n => ?_)
  refine r_tabE (pc := 6) C e4 dX8_count_6 (by decide) (by decide) (off := 70) rfl (tgt := 76) rfl ?_
  refine r_aload_n (pc := 76) C 0 rfl rfl dX8_count_76 ?_
  refine r_getR (pc := 77) C FX8_state mw_1012 h_0 rfl dX8_count_77 (fun g5 => ?_)
  refine r_iload_n (pc := 80) C 1 rfl rfl dX8_count_80 ?_
  refine r_iald (pc := 81) C rfl g5 (fun _ => rfl) (fun _ => rfl) dX8_count_81 ?_
  exact r_iret (pc := 82) C rfl dX8_count_82
  refine r_ite (fun e6 => ?_) (fun e6n => ?_)
  refine r_tabE (pc := 6) C e6 dX8_count_6 (by decide) (by decide) (off := 70) rfl (tgt := 76) rfl ?_
  refine r_aload_n (pc := 76) C 0 rfl rfl dX8_count_76 ?_
  refine r_getR (pc := 77) C FX8_state mw_1012 h_0 rfl dX8_count_77 (fun g7 => ?_)
  refine r_iload_n (pc := 80) C 1 rfl rfl dX8_count_80 ?_
  refine r_iald (pc := 81) C rfl g7 (fun _ => rfl) (fun _ => rfl) dX8_count_81 ?_
  exact r_iret (pc := 82) C rfl dX8_count_82
  refine r_ite (fun e8 => ?_) (fun e8n => ?_)
  refine r_tabE (pc := 6) C e8 dX8_count_6 (by decide) (by decide) (off := 70) rfl (tgt := 76) rfl ?_
  refine r_aload_n (pc := 76) C 0 rfl rfl dX8_count_76 ?_
  refine r_getR (pc := 77) C FX8_state mw_1012 h_0 rfl dX8_count_77 (fun g9 => ?_)
  refine r_iload_n (pc := 80) C 1 rfl rfl dX8_count_80 ?_
  refine r_iald (pc := 81) C rfl g9 (fun _ => rfl) (fun _ => rfl) dX8_count_81 ?_
  exact r_iret (pc := 82) C rfl dX8_count_82
  refine r_ite (fun e10 => ?_) (fun e10n => ?_)
  refine r_tabE (pc := 6) C e10 dX8_count_6 (by decide) (by decide) (off := 70) rfl (tgt := 76) rfl ?_
  refine r_aload_n (pc := 76) C 0 rfl rfl dX8_count_76 ?_
  refine r_getR (pc := 77) C FX8_state mw_1012 h_0 rfl dX8_count_77 (fun g11 => ?_)
  refine r_iload_n (pc := 80) C 1 rfl rfl dX8_count_80 ?_
  refine r_iald (pc := 81) C rfl g11 (fun _ => rfl) (fun _ => rfl) dX8_count_81 ?_
  exact r_iret (pc := 82) C rfl dX8_count_82
  refine r_ite (fun e12 => ?_) (fun e12n => ?_)
  refine r_tabE (pc := 6) C e12 dX8_count_6 (by decide) (by decide) (off := 77) rfl (tgt := 83) rfl ?_
  refine r_aload_n (pc := 83) C 0 rfl rfl dX8_count_83 ?_
  refine r_iload_n (pc := 84) C 1 rfl rfl dX8_count_84 ?_
  refine r_iconst (pc := 85) C dX8_count_85 kc_5 ?_
  refine r_isub (pc := 86) C dX8_count_86 ?_
  refine r_cVI (pc := 87) C hRm (okX8_inState h0 (v1 - (5 : Int32)) M1 h_0) (Rc.of C rfl rfl h_0) mw_1275 cvX8_inState rfl ⟨Nat.le_of_ble_eq_true rfl, Nat.le_of_ble_eq_true rfl⟩ rfl (Nat.le_of_ble_eq_true rfl) dX8_count_87 (fun o14 M13 => ?_)
  exact r_iret (pc := 90) C rfl dX8_count_90
  refine r_ite (fun e15 => ?_) (fun e15n => ?_)
  refine r_tabE (pc := 6) C e15 dX8_count_6 (by decide) (by decide) (off := 77) rfl (tgt := 83) rfl ?_
  refine r_aload_n (pc := 83) C 0 rfl rfl dX8_count_83 ?_
  refine r_iload_n (pc := 84) C 1 rfl rfl dX8_count_84 ?_
  refine r_iconst (pc := 85) C dX8_count_85 kc_5 ?_
  refine r_isub (pc := 86) C dX8_count_86 ?_
  refine r_cVI (pc := 87) C hRm (okX8_inState h0 (v1 - (5 : Int32)) M1 h_0) (Rc.of C rfl rfl h_0) mw_1275 cvX8_inState rfl ⟨Nat.le_of_ble_eq_true rfl, Nat.le_of_ble_eq_true rfl⟩ rfl (Nat.le_of_ble_eq_true rfl) dX8_count_87 (fun o17 M16 => ?_)
  exact r_iret (pc := 90) C rfl dX8_count_90
  refine r_ite (fun e18 => ?_) (fun e18n => ?_)
  refine r_tabE (pc := 6) C e18 dX8_count_6 (by decide) (by decide) (off := 77) rfl (tgt := 83) rfl ?_
  refine r_aload_n (pc := 83) C 0 rfl rfl dX8_count_83 ?_
  refine r_iload_n (pc := 84) C 1 rfl rfl dX8_count_84 ?_
  refine r_iconst (pc := 85) C dX8_count_85 kc_5 ?_
  refine r_isub (pc := 86) C dX8_count_86 ?_
  refine r_cVI (pc := 87) C hRm (okX8_inState h0 (v1 - (5 : Int32)) M1 h_0) (Rc.of C rfl rfl h_0) mw_1275 cvX8_inState rfl ⟨Nat.le_of_ble_eq_true rfl, Nat.le_of_ble_eq_true rfl⟩ rfl (Nat.le_of_ble_eq_true rfl) dX8_count_87 (fun o20 M19 => ?_)
  exact r_iret (pc := 90) C rfl dX8_count_90
  refine r_ite (fun e21 => ?_) (fun e21n => ?_)
  refine r_tabE (pc := 6) C e21 dX8_count_6 (by decide) (by decide) (off := 77) rfl (tgt := 83) rfl ?_
  refine r_aload_n (pc := 83) C 0 rfl rfl dX8_count_83 ?_
  refine r_iload_n (pc := 84) C 1 rfl rfl dX8_count_84 ?_
  refine r_iconst (pc := 85) C dX8_count_85 kc_5 ?_
  refine r_isub (pc := 86) C dX8_count_86 ?_
  refine r_cVI (pc := 87) C hRm (okX8_inState h0 (v1 - (5 : Int32)) M1 h_0) (Rc.of C rfl rfl h_0) mw_1275 cvX8_inState rfl ⟨Nat.le_of_ble_eq_true rfl, Nat.le_of_ble_eq_true rfl⟩ rfl (Nat.le_of_ble_eq_true rfl) dX8_count_87 (fun o23 M22 => ?_)
  exact r_iret (pc := 90) C rfl dX8_count_90
  refine r_ite (fun e24 => ?_) (fun e24n => ?_)
  refine r_tabE (pc := 6) C e24 dX8_count_6 (by decide) (by decide) (off := 77) rfl (tgt := 83) rfl ?_
  refine r_aload_n (pc := 83) C 0 rfl rfl dX8_count_83 ?_
  refine r_iload_n (pc := 84) C 1 rfl rfl dX8_count_84 ?_
  refine r_iconst (pc := 85) C dX8_count_85 kc_5 ?_
  refine r_isub (pc := 86) C dX8_count_86 ?_
  refine r_cVI (pc := 87) C hRm (okX8_inState h0 (v1 - (5 : Int32)) M1 h_0) (Rc.of C rfl rfl h_0) mw_1275 cvX8_inState rfl ⟨Nat.le_of_ble_eq_true rfl, Nat.le_of_ble_eq_true rfl⟩ rfl (Nat.le_of_ble_eq_true rfl) dX8_count_87 (fun o26 M25 => ?_)
  exact r_iret (pc := 90) C rfl dX8_count_90
  refine r_ite (fun e27 => ?_) (fun e27n => ?_)
  refine r_tabE (pc := 6) C e27 dX8_count_6 (by decide) (by decide) (off := 85) rfl (tgt := 91) rfl ?_
  refine r_aload_n (pc := 91) C 0 rfl rfl dX8_count_91 ?_
  refine r_getR (pc := 92) C FX8_state mw_1012 h_0 rfl dX8_count_92 (fun g28 => ?_)
  refine r_iconst (pc := 95) C dX8_count_95 kc_5 ?_
  refine r_iald (pc := 96) C rfl g28 (fun _ => rfl) (fun _ => rfl) dX8_count_96 ?_
  exact r_iret (pc := 97) C rfl dX8_count_97
  refine r_ite (fun e29 => ?_) (fun e29n => ?_)
  refine r_tabE (pc := 6) C e29 dX8_count_6 (by decide) (by decide) (off := 92) rfl (tgt := 98) rfl ?_
  refine r_aload_n (pc := 98) C 0 rfl rfl dX8_count_98 ?_
  refine r_cVI (pc := 99) C hRm (okX8_heldLocks h0 M1 h_0) (Rc.of C rfl rfl h_0) mw_1279 cvX8_heldLocks rfl ⟨Nat.le_of_ble_eq_true rfl, Nat.le_of_ble_eq_true rfl⟩ rfl (Nat.le_of_ble_eq_true rfl) dX8_count_99 (fun o31 M30 => ?_)
  exact r_iret (pc := 102) C rfl dX8_count_102
  refine r_ite (fun e32 => ?_) (fun e32n => ?_)
  refine r_tabE (pc := 6) C e32 dX8_count_6 (by decide) (by decide) (off := 97) rfl (tgt := 103) rfl ?_
  refine r_aload_n (pc := 103) C 0 rfl rfl dX8_count_103 ?_
  refine r_getR (pc := 104) C FX8_state mw_1012 h_0 rfl dX8_count_104 (fun g33 => ?_)
  refine r_bipush (pc := 107) C dX8_count_107 kb_6 ?_
  refine r_iald (pc := 109) C rfl g33 (fun _ => rfl) (fun _ => rfl) dX8_count_109 ?_
  exact r_iret (pc := 110) C rfl dX8_count_110
  refine r_ite (fun e34 => ?_) (fun e34n => ?_)
  refine r_tabE (pc := 6) C e34 dX8_count_6 (by decide) (by decide) (off := 105) rfl (tgt := 111) rfl ?_
  refine r_aload_n (pc := 111) C 0 rfl rfl dX8_count_111 ?_
  refine r_getR (pc := 112) C FX8_state mw_1012 h_0 rfl dX8_count_112 (fun g35 => ?_)
  refine r_bipush (pc := 115) C dX8_count_115 kb_7 ?_
  refine r_iald (pc := 117) C rfl g35 (fun _ => rfl) (fun _ => rfl) dX8_count_117 ?_
  exact r_iret (pc := 118) C rfl dX8_count_118
  refine r_tabD (pc := 6) C (cz := [0, 1, 2, 3, 4, 5, 6, 7, 8, 9, 10, 11, 12, 13]) (tabN_cons e2n (tabN_cons e4n (tabN_cons e6n (tabN_cons e8n (tabN_cons e10n (tabN_cons e12n (tabN_cons e15n (tabN_cons e18n (tabN_cons e21n (tabN_cons e24n (tabN_cons e27n (tabN_cons e29n (tabN_cons e32n (tabN_cons e34n tabN_nil)))))))))))))) dX8_count_6 (by decide) (tgt := 119) rfl ?_
  refine r_iload_n (pc := 119) C 1 rfl rfl dX8_count_119 ?_
  refine r_bipush (pc := 120) C dX8_count_120 kb_14 ?_
  refine r_bipush (pc := 122) C dX8_count_122 kb_17 ?_
  refine r_cSI (pc := 124) C hRm (okX8_isBetween h0 v1 (14 : Int32) (17 : Int32) M1 ) mw_1092 cvX8_isBetween rfl ⟨Nat.le_of_ble_eq_true rfl, Nat.le_of_ble_eq_true rfl⟩ rfl (Nat.le_of_ble_eq_true rfl) dX8_count_124 (fun o37 M36 => ?_)
  refine r_if_eq (pc := 127) C dX8_count_127 (tgt := 145) rfl ?_ ?_
  refine r_aload_n (pc := 145) C 0 rfl rfl dX8_count_145 ?_
  refine r_iconst (pc := 146) C dX8_count_146 kc_1 ?_
  refine r_cVI (pc := 147) C hRm (okX8_fail h0 (1 : Int32) M36 h_0) (Rc.of C rfl rfl h_0) mw_1084 cvX8_fail rfl ⟨Nat.le_of_ble_eq_true rfl, Nat.le_of_ble_eq_true rfl⟩ rfl (Nat.le_of_ble_eq_true rfl) dX8_count_147 (fun o39 M38 => ?_)
  exact r_iret (pc := 150) C rfl dX8_count_150
  refine r_aload_n (pc := 130) C 0 rfl rfl dX8_count_130 ?_
  refine r_getR (pc := 131) C FX8_state mw_1012 h_0 rfl dX8_count_131 (fun g40 => ?_)
  refine r_bipush (pc := 134) C dX8_count_134 kb_8 ?_
  refine r_iload_n (pc := 136) C 1 rfl rfl dX8_count_136 ?_
  refine r_iadd (pc := 137) C dX8_count_137 ?_
  refine r_bipush (pc := 138) C dX8_count_138 kb_14 ?_
  refine r_isub (pc := 140) C dX8_count_140 ?_
  refine r_iald (pc := 141) C rfl g40 (fun _ => rfl) (fun _ => rfl) dX8_count_141 ?_
  refine r_goto (pc := 142) C dX8_count_142 (tgt := 150) rfl ?_
  exact r_iret (pc := 150) C rfl dX8_count_150
theorem okX8_count {l : Launch} {G : WT} (h0 : W0 G) (v1 : Int32) (M : Mem) (h_0 : G.2.2.2.1 19 0 0) : Okm l G yX8_count cX8_count 2 (some FieldType.int) 2 45 [.ref (G.1 19 0 0), .int v1] voI M (pX8_count  v1 M) :=
  Okm.of "PermitParkModel" rfl (by decide) (Nat.le_of_ble_eq_true rfl) (L := [(0, .ref (G.1 19 0 0)), (1, .int v1)]) rfl (fun K _ hr C => lX8_count_0 C (by rw [hr]; exact ⟨rfl, rfl⟩) h0 v1 M h_0)
def pX8_priorityOf_54 (k46 : Int32 → Mem → Option (Int32 × Mem)) : Nat → Int32 → Int32 → Mem → Option (Int32 × Mem)
  | 0, _, _, _ => none
  | n + 1, v2, v3, M =>
    chk (inB (2 : Int32) 700) <| if (M.1 20 0 0 (2 : Int32).toNatClampNeg) ≤ v3 then (k46 v2 M)
    else chk (inB v3 10) <| if ¬ (M.1 28 0 0 v3.toNatClampNeg) = 0 then (pX8_priorityOf_54  k46 n v2 (v3 + (1 : Int32)) M)
    else bnd (pX8_of v3 (3 : Int32) M) fun o4 M3 => if ¬ o4 = (2 : Int32) then (pX8_priorityOf_54  k46 n v2 (v3 + (1 : Int32)) M3)
    else bnd (pX8_of v3 (8 : Int32) M3) fun o8 M7 => chk (inB ((14 : Int32) + o8) 700) <| chk (inB (M7.1 20 0 0 ((14 : Int32) + o8).toNatClampNeg) 10) <| if (M7.1 28 0 0 (M7.1 20 0 0 ((14 : Int32) + o8).toNatClampNeg).toNatClampNeg) = 0 then (pX8_priorityOf_54  k46 n v2 (v3 + (1 : Int32)) M7)
    else chk (inB v3 10) <| nm (wI M7 28 0 0 v3.toNatClampNeg ((1 : Int32) &&& 1)) fun M10 => pX8_priorityOf_54  k46 n (1 : Int32) (v3 + (1 : Int32)) M10
theorem lX8_priorityOf_54 {K : KT} {G : WT} {k46 : Int32 → Mem → Option (Int32 × Mem)} (C : Cx K G "PermitParkModel" cX8_priorityOf 5 (some FieldType.int)) (hRm : K.2.2.2.1.frames = 1 ∧ K.2.2.2.1.locals = 22) (h0 : W0 G)
    (hk46 : ∀ (v2 : Int32) (M : Mem), G.2.2.2.1 19 0 0 → Run K G 5 0 0 (FinM K G voI 0 0) 46 [(0, .ref (G.1 19 0 0)), (2, .int v2)] [] M (k46 v2 M)) : ∀ (n : Nat) (v2 : Int32) (v3 : Int32) (M : Mem), G.2.2.2.1 19 0 0 → Run K G 5 0 0 (FinM K G voI 0 0) 54 [(0, .ref (G.1 19 0 0)), (2, .int v2), (3, .int v3)] [] M (pX8_priorityOf_54  k46 n v2 v3 M) := by
  intro n
  induction n with
  | zero =>
    intro v2 v3 M g_0
    exact r_none
  | succ n ih =>
    intro v2 v3 M g_0
    rw [pX8_priorityOf_54]
    refine r_iload_n (pc := 54) C 2 rfl rfl dX8_priorityOf_54 ?_
    refine r_aload_n (pc := 55) C 0 rfl rfl dX8_priorityOf_55 ?_
    refine r_getR (pc := 56) C FX8_state mw_1012 g_0 rfl dX8_priorityOf_56 (fun g1 => ?_)
    refine r_iconst (pc := 59) C dX8_priorityOf_59 kc_2 ?_
    refine r_iald (pc := 60) C rfl g1 (fun _ => rfl) (fun _ => rfl) dX8_priorityOf_60 ?_
    refine r_icmp_ge (pc := 61) C dX8_priorityOf_61 (tgt := 121) rfl ?_ ?_
    refine r_goto (pc := 121) C dX8_priorityOf_121 (tgt := 46) rfl ?_
    refine r_sub [0, 1] rfl ?_
    exact hk46 v2 M g_0
    refine r_aload_n (pc := 64) C 0 rfl rfl dX8_priorityOf_64 ?_
    refine r_getR (pc := 65) C FX8_isMet mw_1030 g_0 rfl dX8_priorityOf_65 (fun g2 => ?_)
    refine r_iload_n (pc := 68) C 2 rfl rfl dX8_priorityOf_68 ?_
    refine r_zald (pc := 69) C rfl g2 (fun _ => rfl) (fun _ => rfl) dX8_priorityOf_69 ?_
    refine r_if_ne (pc := 70) C dX8_priorityOf_70 (tgt := 115) rfl ?_ ?_
    refine r_iinc (pc := 115) C [(3, .int (v3 + (1 : Int32))), (0, .ref (G.1 19 0 0)), (2, .int v2)] dX8_priorityOf_115 (p := 2) rfl (ki_1 _) (by decide) rfl ?_
    refine r_goto (pc := 118) C dX8_priorityOf_118 (tgt := 54) rfl ?_
    refine r_sub [1, 2, 0] rfl ?_
    exact ih v2 (v3 + (1 : Int32)) M g_0
    refine r_aload_n (pc := 73) C 0 rfl rfl dX8_priorityOf_73 ?_
    refine r_iload_n (pc := 74) C 2 rfl rfl dX8_priorityOf_74 ?_
    refine r_iconst (pc := 75) C dX8_priorityOf_75 kc_3 ?_
    refine r_cVI (pc := 76) C hRm (okX8_of h0 v3 (3 : Int32) M g_0) (Rc.of C rfl rfl g_0) mw_1193 cvX8_of rfl ⟨Nat.le_of_ble_eq_true rfl, Nat.le_of_ble_eq_true rfl⟩ rfl (Nat.le_of_ble_eq_true rfl) dX8_priorityOf_76 (fun o4 M3 => ?_)
    refine r_iconst (pc := 79) C dX8_priorityOf_79 kc_2 ?_
    refine r_icmp_ne (pc := 80) C dX8_priorityOf_80 (tgt := 115) rfl ?_ ?_
    refine r_iinc (pc := 115) C [(3, .int (v3 + (1 : Int32))), (0, .ref (G.1 19 0 0)), (2, .int v2)] dX8_priorityOf_115 (p := 2) rfl (ki_1 _) (by decide) rfl ?_
    refine r_goto (pc := 118) C dX8_priorityOf_118 (tgt := 54) rfl ?_
    refine r_sub [1, 2, 0] rfl ?_
    exact ih v2 (v3 + (1 : Int32)) M3 g_0
    refine r_aload_n (pc := 83) C 0 rfl rfl dX8_priorityOf_83 ?_
    refine r_getR (pc := 84) C FX8_isMet mw_1030 g_0 rfl dX8_priorityOf_84 (fun g5 => ?_)
    refine r_aload_n (pc := 87) C 0 rfl rfl dX8_priorityOf_87 ?_
    refine r_getR (pc := 88) C FX8_state mw_1012 g_0 rfl dX8_priorityOf_88 (fun g6 => ?_)
    refine r_bipush (pc := 91) C dX8_priorityOf_91 kb_14 ?_
    refine r_aload_n (pc := 93) C 0 rfl rfl dX8_priorityOf_93 ?_
    refine r_iload_n (pc := 94) C 2 rfl rfl dX8_priorityOf_94 ?_
    refine r_bipush (pc := 95) C dX8_priorityOf_95 kb_8 ?_
    refine r_cVI (pc := 97) C hRm (okX8_of h0 v3 (8 : Int32) M3 g_0) (Rc.of C rfl rfl g_0) mw_1193 cvX8_of rfl ⟨Nat.le_of_ble_eq_true rfl, Nat.le_of_ble_eq_true rfl⟩ rfl (Nat.le_of_ble_eq_true rfl) dX8_priorityOf_97 (fun o8 M7 => ?_)
    refine r_iadd (pc := 100) C dX8_priorityOf_100 ?_
    refine r_iald (pc := 101) C rfl g1 (fun _ => rfl) (fun _ => rfl) dX8_priorityOf_101 ?_
    refine r_zald (pc := 102) C rfl g2 (fun _ => rfl) (fun _ => rfl) dX8_priorityOf_102 ?_
    refine r_if_eq (pc := 103) C dX8_priorityOf_103 (tgt := 115) rfl ?_ ?_
    refine r_iinc (pc := 115) C [(3, .int (v3 + (1 : Int32))), (0, .ref (G.1 19 0 0)), (2, .int v2)] dX8_priorityOf_115 (p := 2) rfl (ki_1 _) (by decide) rfl ?_
    refine r_goto (pc := 118) C dX8_priorityOf_118 (tgt := 54) rfl ?_
    refine r_sub [1, 2, 0] rfl ?_
    exact ih v2 (v3 + (1 : Int32)) M7 g_0
    refine r_aload_n (pc := 106) C 0 rfl rfl dX8_priorityOf_106 ?_
    refine r_getR (pc := 107) C FX8_isMet mw_1030 g_0 rfl dX8_priorityOf_107 (fun g9 => ?_)
    refine r_iload_n (pc := 110) C 2 rfl rfl dX8_priorityOf_110 ?_
    refine r_iconst (pc := 111) C dX8_priorityOf_111 kc_1 ?_
    refine r_zast (pc := 112) C rfl g2 (fun _ => rfl) (fun _ => rfl) dX8_priorityOf_112 (fun M10 => ?_)
    refine r_iconst (pc := 113) C dX8_priorityOf_113 kc_1 ?_
    refine r_istore_n (pc := 114) C [(2, .int (1 : Int32)), (0, .ref (G.1 19 0 0)), (3, .int v3)] dX8_priorityOf_114 rfl (by decide) rfl ?_
    refine r_iinc (pc := 115) C [(3, .int (v3 + (1 : Int32))), (2, .int (1 : Int32)), (0, .ref (G.1 19 0 0))] dX8_priorityOf_115 (p := 2) rfl (ki_1 _) (by decide) rfl ?_
    refine r_goto (pc := 118) C dX8_priorityOf_118 (tgt := 54) rfl ?_
    refine r_sub [2, 1, 0] rfl ?_
    exact ih (1 : Int32) (v3 + (1 : Int32)) M10 g_0
def pX8_priorityOf_129 : Nat → Int32 → Int32 → Mem → Option (Int32 × Mem)
  | 0, _, _, _ => none
  | n + 1, v3, v4, M =>
    chk (inB (2 : Int32) 700) <| if (M.1 20 0 0 (2 : Int32).toNatClampNeg) ≤ v4 then (some (v3, M))
    else chk (inB v4 10) <| if (M.1 28 0 0 v4.toNatClampNeg) = 0 then (pX8_priorityOf_129   n v3 (v4 + (1 : Int32)) M)
    else bnd (pX8_of v4 (0 : Int32) M) fun o4 M3 => nm (if v3 < o4 then o4 else v3) fun x5 => pX8_priorityOf_129   n x5 (v4 + (1 : Int32)) M3
theorem lX8_priorityOf_129 {K : KT} {G : WT} (C : Cx K G "PermitParkModel" cX8_priorityOf 5 (some FieldType.int)) (hRm : K.2.2.2.1.frames = 1 ∧ K.2.2.2.1.locals = 22) (h0 : W0 G) : ∀ (n : Nat) (v3 : Int32) (v4 : Int32) (M : Mem), G.2.2.2.1 19 0 0 → Run K G 5 0 0 (FinM K G voI 0 0) 129 [(0, .ref (G.1 19 0 0)), (3, .int v3), (4, .int v4)] [] M (pX8_priorityOf_129   n v3 v4 M) := by
  intro n
  induction n with
  | zero =>
    intro v3 v4 M g_0
    exact r_none
  | succ n ih =>
    intro v3 v4 M g_0
    rw [pX8_priorityOf_129]
    refine r_iload (pc := 129) C 2 rfl dX8_priorityOf_129 ?_
    refine r_aload_n (pc := 131) C 0 rfl rfl dX8_priorityOf_131 ?_
    refine r_getR (pc := 132) C FX8_state mw_1012 g_0 rfl dX8_priorityOf_132 (fun g1 => ?_)
    refine r_iconst (pc := 135) C dX8_priorityOf_135 kc_2 ?_
    refine r_iald (pc := 136) C rfl g1 (fun _ => rfl) (fun _ => rfl) dX8_priorityOf_136 ?_
    refine r_icmp_ge (pc := 137) C dX8_priorityOf_137 (tgt := 172) rfl ?_ ?_
    refine r_iload_n (pc := 172) C 1 rfl rfl dX8_priorityOf_172 ?_
    exact r_iret (pc := 173) C rfl dX8_priorityOf_173
    refine r_aload_n (pc := 140) C 0 rfl rfl dX8_priorityOf_140 ?_
    refine r_getR (pc := 141) C FX8_isMet mw_1030 g_0 rfl dX8_priorityOf_141 (fun g2 => ?_)
    refine r_iload (pc := 144) C 2 rfl dX8_priorityOf_144 ?_
    refine r_zald (pc := 146) C rfl g2 (fun _ => rfl) (fun _ => rfl) dX8_priorityOf_146 ?_
    refine r_if_eq (pc := 147) C dX8_priorityOf_147 (tgt := 164) rfl ?_ ?_
    refine r_iload_n (pc := 164) C 1 rfl rfl dX8_priorityOf_164 ?_
    refine r_istore_n (pc := 165) C [(3, .int v3), (0, .ref (G.1 19 0 0)), (4, .int v4)] dX8_priorityOf_165 rfl (by decide) rfl ?_
    refine r_iinc (pc := 166) C [(4, .int (v4 + (1 : Int32))), (3, .int v3), (0, .ref (G.1 19 0 0))] dX8_priorityOf_166 (p := 2) rfl (ki_1 _) (by decide) rfl ?_
    refine r_goto (pc := 169) C dX8_priorityOf_169 (tgt := 129) rfl ?_
    refine r_sub [2, 1, 0] rfl ?_
    exact ih v3 (v4 + (1 : Int32)) M g_0
    refine r_iload_n (pc := 150) C 1 rfl rfl dX8_priorityOf_150 ?_
    refine r_aload_n (pc := 151) C 0 rfl rfl dX8_priorityOf_151 ?_
    refine r_iload (pc := 152) C 2 rfl dX8_priorityOf_152 ?_
    refine r_iconst (pc := 154) C dX8_priorityOf_154 kc_0 ?_
    refine r_cVI (pc := 155) C hRm (okX8_of h0 v4 (0 : Int32) M g_0) (Rc.of C rfl rfl g_0) mw_1193 cvX8_of rfl ⟨Nat.le_of_ble_eq_true rfl, Nat.le_of_ble_eq_true rfl⟩ rfl (Nat.le_of_ble_eq_true rfl) dX8_priorityOf_155 (fun o4 M3 => ?_)
    refine r_max (pc := 158) C mw_1291 mw_500 mw_21 mw_501 hRm ⟨Nat.le_of_ble_eq_true rfl, Nat.le_of_ble_eq_true rfl⟩ dX8_priorityOf_158 ?_
    refine r_goto (pc := 161) C dX8_priorityOf_161 (tgt := 165) rfl ?_
    refine r_nmi (fun x5 => ?_)
    refine r_istore_n (pc := 165) C [(3, .int x5), (0, .ref (G.1 19 0 0)), (4, .int v4)] dX8_priorityOf_165 rfl (by decide) rfl ?_
    refine r_iinc (pc := 166) C [(4, .int (v4 + (1 : Int32))), (3, .int x5), (0, .ref (G.1 19 0 0))] dX8_priorityOf_166 (p := 2) rfl (ki_1 _) (by decide) rfl ?_
    refine r_goto (pc := 169) C dX8_priorityOf_169 (tgt := 129) rfl ?_
    refine r_sub [2, 1, 0] rfl ?_
    exact ih x5 (v4 + (1 : Int32)) M3 g_0
def pX8_priorityOf_46 : Nat → Int32 → Mem → Option (Int32 × Mem)
  | 0, _, _ => none
  | n + 1, v2, M =>
    if v2 = 0 then (pX8_priorityOf_129   fu (0 : Int32) (0 : Int32) M)
    else pX8_priorityOf_54  (fun v2 M => pX8_priorityOf_46   n v2 M) fu (0 : Int32) (0 : Int32) M
theorem lX8_priorityOf_46 {K : KT} {G : WT} (C : Cx K G "PermitParkModel" cX8_priorityOf 5 (some FieldType.int)) (hRm : K.2.2.2.1.frames = 1 ∧ K.2.2.2.1.locals = 22) (h0 : W0 G) : ∀ (n : Nat) (v2 : Int32) (M : Mem), G.2.2.2.1 19 0 0 → Run K G 5 0 0 (FinM K G voI 0 0) 46 [(0, .ref (G.1 19 0 0)), (2, .int v2)] [] M (pX8_priorityOf_46   n v2 M) := by
  intro n
  induction n with
  | zero =>
    intro v2 M g_0
    exact r_none
  | succ n ih =>
    intro v2 M g_0
    rw [pX8_priorityOf_46]
    refine r_iload_n (pc := 46) C 1 rfl rfl dX8_priorityOf_46 ?_
    refine r_if_eq (pc := 47) C dX8_priorityOf_47 (tgt := 124) rfl ?_ ?_
    refine r_iconst (pc := 124) C dX8_priorityOf_124 kc_0 ?_
    refine r_istore_n (pc := 125) C [(3, .int (0 : Int32)), (0, .ref (G.1 19 0 0)), (2, .int v2)] dX8_priorityOf_125 rfl (by decide) rfl ?_
    refine r_iconst (pc := 126) C dX8_priorityOf_126 kc_0 ?_
    refine r_istore (pc := 127) C [(4, .int (0 : Int32)), (3, .int (0 : Int32)), (0, .ref (G.1 19 0 0)), (2, .int v2)] dX8_priorityOf_127 (by decide) rfl ?_
    refine r_sub [2, 1, 0] rfl ?_
    exact lX8_priorityOf_129   C hRm h0  fu (0 : Int32) (0 : Int32) M g_0
    refine r_iconst (pc := 50) C dX8_priorityOf_50 kc_0 ?_
    refine r_istore_n (pc := 51) C [(2, .int (0 : Int32)), (0, .ref (G.1 19 0 0))] dX8_priorityOf_51 rfl (by decide) rfl ?_
    refine r_iconst (pc := 52) C dX8_priorityOf_52 kc_0 ?_
    refine r_istore_n (pc := 53) C [(3, .int (0 : Int32)), (2, .int (0 : Int32)), (0, .ref (G.1 19 0 0))] dX8_priorityOf_53 rfl (by decide) rfl ?_
    refine r_sub [2, 1, 0] rfl ?_
    exact lX8_priorityOf_54  (k46 := (fun v2 M => pX8_priorityOf_46   n v2 M)) C hRm h0 ih fu (0 : Int32) (0 : Int32) M g_0
def pX8_priorityOf_2 : Nat → Int32 → Int32 → Mem → Option (Int32 × Mem)
  | 0, _, _, _ => none
  | n + 1, v1, v2, M =>
    if (10 : Int32) ≤ v2 then (chk (inB (1 : Int32) 700) <| if ¬ (M.1 20 0 0 (1 : Int32).toNatClampNeg) = (1 : Int32) then (pX8_priorityOf_46   fu (0 : Int32) M)
    else pX8_priorityOf_46   fu (1 : Int32) M)
    else if ¬ v2 = v1 then (chk (inB v2 10) <| nm (wI M 28 0 0 v2.toNatClampNeg ((0 : Int32) &&& 1)) fun M3 => pX8_priorityOf_2   n v1 (v2 + (1 : Int32)) M3)
    else chk (inB v2 10) <| nm (wI M 28 0 0 v2.toNatClampNeg ((1 : Int32) &&& 1)) fun M4 => pX8_priorityOf_2   n v1 (v2 + (1 : Int32)) M4
theorem lX8_priorityOf_2 {K : KT} {G : WT} (C : Cx K G "PermitParkModel" cX8_priorityOf 5 (some FieldType.int)) (hRm : K.2.2.2.1.frames = 1 ∧ K.2.2.2.1.locals = 22) (h0 : W0 G) : ∀ (n : Nat) (v1 : Int32) (v2 : Int32) (M : Mem), G.2.2.2.1 19 0 0 → Run K G 5 0 0 (FinM K G voI 0 0) 2 [(0, .ref (G.1 19 0 0)), (1, .int v1), (2, .int v2)] [] M (pX8_priorityOf_2   n v1 v2 M) := by
  intro n
  induction n with
  | zero =>
    intro v1 v2 M g_0
    exact r_none
  | succ n ih =>
    intro v1 v2 M g_0
    rw [pX8_priorityOf_2]
    refine r_iload_n (pc := 2) C 2 rfl rfl dX8_priorityOf_2 ?_
    refine r_bipush (pc := 3) C dX8_priorityOf_3 kb_10 ?_
    refine r_icmp_ge (pc := 5) C dX8_priorityOf_5 (tgt := 30) rfl ?_ ?_
    refine r_aload_n (pc := 30) C 0 rfl rfl dX8_priorityOf_30 ?_
    refine r_getR (pc := 31) C FX8_state mw_1012 g_0 rfl dX8_priorityOf_31 (fun g1 => ?_)
    refine r_iconst (pc := 34) C dX8_priorityOf_34 kc_1 ?_
    refine r_iald (pc := 35) C rfl g1 (fun _ => rfl) (fun _ => rfl) dX8_priorityOf_35 ?_
    refine r_iconst (pc := 36) C dX8_priorityOf_36 kc_1 ?_
    refine r_icmp_ne (pc := 37) C dX8_priorityOf_37 (tgt := 44) rfl ?_ ?_
    refine r_iconst (pc := 44) C dX8_priorityOf_44 kc_0 ?_
    refine r_istore_n (pc := 45) C [(2, .int (0 : Int32)), (0, .ref (G.1 19 0 0)), (1, .int v1)] dX8_priorityOf_45 rfl (by decide) rfl ?_
    refine r_sub [1, 0] rfl ?_
    exact lX8_priorityOf_46   C hRm h0  fu (0 : Int32) M g_0
    refine r_iconst (pc := 40) C dX8_priorityOf_40 kc_1 ?_
    refine r_goto (pc := 41) C dX8_priorityOf_41 (tgt := 45) rfl ?_
    refine r_istore_n (pc := 45) C [(2, .int (1 : Int32)), (0, .ref (G.1 19 0 0)), (1, .int v1)] dX8_priorityOf_45 rfl (by decide) rfl ?_
    refine r_sub [1, 0] rfl ?_
    exact lX8_priorityOf_46   C hRm h0  fu (1 : Int32) M g_0
    refine r_aload_n (pc := 8) C 0 rfl rfl dX8_priorityOf_8 ?_
    refine r_getR (pc := 9) C FX8_isMet mw_1030 g_0 rfl dX8_priorityOf_9 (fun g2 => ?_)
    refine r_iload_n (pc := 12) C 2 rfl rfl dX8_priorityOf_12 ?_
    refine r_iload_n (pc := 13) C 2 rfl rfl dX8_priorityOf_13 ?_
    refine r_iload_n (pc := 14) C 1 rfl rfl dX8_priorityOf_14 ?_
    refine r_icmp_ne (pc := 15) C dX8_priorityOf_15 (tgt := 22) rfl ?_ ?_
    refine r_iconst (pc := 22) C dX8_priorityOf_22 kc_0 ?_
    refine r_zast (pc := 23) C rfl g2 (fun _ => rfl) (fun _ => rfl) dX8_priorityOf_23 (fun M3 => ?_)
    refine r_iinc (pc := 24) C [(2, .int (v2 + (1 : Int32))), (0, .ref (G.1 19 0 0)), (1, .int v1)] dX8_priorityOf_24 (p := 2) rfl (ki_1 _) (by decide) rfl ?_
    refine r_goto (pc := 27) C dX8_priorityOf_27 (tgt := 2) rfl ?_
    refine r_sub [1, 2, 0] rfl ?_
    exact ih v1 (v2 + (1 : Int32)) M3 g_0
    refine r_iconst (pc := 18) C dX8_priorityOf_18 kc_1 ?_
    refine r_goto (pc := 19) C dX8_priorityOf_19 (tgt := 23) rfl ?_
    refine r_zast (pc := 23) C rfl g2 (fun _ => rfl) (fun _ => rfl) dX8_priorityOf_23 (fun M4 => ?_)
    refine r_iinc (pc := 24) C [(2, .int (v2 + (1 : Int32))), (0, .ref (G.1 19 0 0)), (1, .int v1)] dX8_priorityOf_24 (p := 2) rfl (ki_1 _) (by decide) rfl ?_
    refine r_goto (pc := 27) C dX8_priorityOf_27 (tgt := 2) rfl ?_
    refine r_sub [1, 2, 0] rfl ?_
    exact ih v1 (v2 + (1 : Int32)) M4 g_0
def pX8_priorityOf (v1 : Int32) (M : Mem) : Option (Int32 × Mem) :=
    pX8_priorityOf_2   fu v1 (0 : Int32) M
theorem lX8_priorityOf_0 {K : KT} {G : WT} (C : Cx K G "PermitParkModel" cX8_priorityOf 5 (some FieldType.int)) (hRm : K.2.2.2.1.frames = 1 ∧ K.2.2.2.1.locals = 22) (h0 : W0 G) (v1 : Int32) (M : Mem) (h_0 : G.2.2.2.1 19 0 0) : Run K G 5 0 0 (FinM K G voI 0 0) 0 [(0, .ref (G.1 19 0 0)), (1, .int v1)] [] M (pX8_priorityOf   v1 M) := by
  rw [pX8_priorityOf]
  refine r_iconst (pc := 0) C dX8_priorityOf_0 kc_0 ?_
  refine r_istore_n (pc := 1) C [(2, .int (0 : Int32)), (0, .ref (G.1 19 0 0)), (1, .int v1)] dX8_priorityOf_1 rfl (by decide) rfl ?_
  refine r_sub [1, 2, 0] rfl ?_
  exact lX8_priorityOf_2   C hRm h0  fu v1 (0 : Int32) M h_0
theorem okX8_priorityOf {l : Launch} {G : WT} (h0 : W0 G) (v1 : Int32) (M : Mem) (h_0 : G.2.2.2.1 19 0 0) : Okm l G yX8_priorityOf cX8_priorityOf 5 (some FieldType.int) 1 22 [.ref (G.1 19 0 0), .int v1] voI M (pX8_priorityOf  v1 M) :=
  Okm.of "PermitParkModel" rfl (by decide) (Nat.le_of_ble_eq_true rfl) (L := [(0, .ref (G.1 19 0 0)), (1, .int v1)]) rfl (fun K _ hr C => lX8_priorityOf_0 C (by rw [hr]; exact ⟨rfl, rfl⟩) h0 v1 M h_0)
def pX8_thread (v1 : Int32) (v2 : Int32) (M : Mem) : Option (Int32 × Mem) :=
    nm (wI M 19 0 0 7 (0 : Int32)) fun M1 => bnd (pX8_isThread v1 M1) fun o3 M2 => if ¬ o3 = 0 then (if v2 = (0 : Int32) then (bnd (pX8_of v1 (0 : Int32) M2) fun o6 M5 => some (o6, M5))
    else if v2 = (1 : Int32) then (bnd (pX8_priorityOf v1 M2) fun o9 M8 => some (o9, M8))
    else if v2 = (2 : Int32) then (bnd (pX8_of v1 (3 : Int32) M2) fun o12 M11 => some (o12, M11))
    else if v2 = (3 : Int32) then (bnd (pX8_of v1 (2 : Int32) M2) fun o15 M14 => some (o15, M14))
    else if v2 = (4 : Int32) then (bnd (pX8_of v1 v2 M2) fun o18 M17 => some (o18, M17))
    else if v2 = (5 : Int32) then (bnd (pX8_of v1 v2 M2) fun o21 M20 => some (o21, M20))
    else if v2 = (6 : Int32) then (bnd (pX8_of v1 v2 M2) fun o24 M23 => some (o24, M23))
    else if v2 = (7 : Int32) then (bnd (pX8_of v1 v2 M2) fun o27 M26 => some (o27, M26))
    else if v2 = (8 : Int32) then (bnd (pX8_of v1 v2 M2) fun o30 M29 => some (o30, M29))
    else if v2 = (9 : Int32) then (bnd (pX8_locksOf v1 M2) fun o33 M32 => some (o33, M32))
    else if v2 = (10 : Int32) then (bnd (pX8_of v1 (v2 - (1 : Int32)) M2) fun o36 M35 => some (o36, M35))
    else if v2 = (11 : Int32) then (bnd (pX8_of v1 (v2 - (1 : Int32)) M2) fun o39 M38 => some (o39, M38))
    else if v2 = (12 : Int32) then (bnd (pX8_of v1 (v2 - (1 : Int32)) M2) fun o42 M41 => some (o42, M41))
    else if v2 = (13 : Int32) then (bnd (pX8_of v1 (v2 - (1 : Int32)) M2) fun o45 M44 => some (o45, M44))
    else if v2 = (14 : Int32) then (bnd (pX8_of v1 (v2 - (1 : Int32)) M2) fun o48 M47 => some (o48, M47))
    else if v2 = (15 : Int32) then (bnd (pX8_of v1 (v2 - (1 : Int32)) M2) fun o51 M50 => some (o51, M50))
    else if v2 = (16 : Int32) then (bnd (pX8_of v1 (v2 - (1 : Int32)) M2) fun o54 M53 => some (o54, M53))
    else if v2 = (17 : Int32) then (bnd (pX8_of v1 (16 : Int32) M2) fun o57 M56 => if ¬ o57 = (-1 : Int32) then (bnd (pX8_of v1 (16 : Int32) M56) fun o59 M58 => some (o59, M58))
    else bnd (pX8_of v1 (0 : Int32) M56) fun o61 M60 => some (o61, M60))
    else if v2 = (18 : Int32) then (bnd (pX8_of v1 (1 : Int32) M2) fun o64 M63 => some (o64, M63))
    else bnd (pX8_fail (2 : Int32) M2) fun o66 M65 => some (o66, M65))
    else bnd (pX8_fail (1 : Int32) M2) fun o68 M67 => some (o68, M67)
theorem lX8_thread_0 {K : KT} {G : WT} (C : Cx K G "PermitParkModel" cX8_thread 3 (some FieldType.int)) (hRm : K.2.2.2.1.frames = 2 ∧ K.2.2.2.1.locals = 46) (h0 : W0 G) (v1 : Int32) (v2 : Int32) (M : Mem) (h_0 : G.2.2.2.1 19 0 0) : Run K G 3 0 0 (FinM K G voI 0 0) 0 [(0, .ref (G.1 19 0 0)), (1, .int v1), (2, .int v2)] [] M (pX8_thread   v1 v2 M) := by
  rw [pX8_thread]
  refine r_aload_n (pc := 0) C 0 rfl rfl dX8_thread_0 ?_
  refine r_iconst (pc := 1) C dX8_thread_1 kc_0 ?_
  refine r_putI (pc := 2) C FX8_thrown mw_1019 h_0 tyX8 tyX8_ok nmX8 (fun _ _ => rfl) rfl dX8_thread_2 (fun M1 => ?_)
  refine r_aload_n (pc := 5) C 0 rfl rfl dX8_thread_5 ?_
  refine r_iload_n (pc := 6) C 1 rfl rfl dX8_thread_6 ?_
  refine r_cVI (pc := 7) C hRm (okX8_isThread h0 v1 M1 h_0) (Rc.of C rfl rfl h_0) mw_1251 cvX8_isThread rfl ⟨Nat.le_of_ble_eq_true rfl, Nat.le_of_ble_eq_true rfl⟩ rfl (Nat.le_of_ble_eq_true rfl) dX8_thread_7 (fun o3 M2 => ?_)
  refine r_if_ne (pc := 10) C dX8_thread_10 (tgt := 19) rfl ?_ ?_
  refine r_iload_n (pc := 19) C 2 rfl rfl dX8_thread_19 ?_
  refine r_ite (fun e4 => ?_) (fun e4n => ?_)
  refine r_tabE (pc := 20) C e4 dX8_thread_20 (by decide) (by decide) (off := 92) rfl (tgt := 112) rfl ?_
  refine r_aload_n (pc := 112) C 0 rfl rfl dX8_thread_112 ?_
  refine r_iload_n (pc := 113) C 1 rfl rfl dX8_thread_113 ?_
  refine r_iconst (pc := 114) C dX8_thread_114 kc_0 ?_
  refine r_cVI (pc := 115) C hRm (okX8_of h0 v1 (0 : Int32) M2 h_0) (Rc.of C rfl rfl h_0) mw_1193 cvX8_of rfl ⟨Nat.le_of_ble_eq_true rfl, Nat.le_of_ble_eq_true rfl⟩ rfl (Nat.le_of_ble_eq_true rfl) dX8_thread_115 (fun o6 M5 => ?_)
  exact r_iret (pc := 118) C rfl dX8_thread_118
  refine r_ite (fun e7 => ?_) (fun e7n => ?_)
  refine r_tabE (pc := 20) C e7 dX8_thread_20 (by decide) (by decide) (off := 99) rfl (tgt := 119) rfl ?_
  refine r_aload_n (pc := 119) C 0 rfl rfl dX8_thread_119 ?_
  refine r_iload_n (pc := 120) C 1 rfl rfl dX8_thread_120 ?_
  refine r_cVI (pc := 121) C hRm (okX8_priorityOf h0 v1 M2 h_0) (Rc.of C rfl rfl h_0) mw_1287 cvX8_priorityOf rfl ⟨Nat.le_of_ble_eq_true rfl, Nat.le_of_ble_eq_true rfl⟩ rfl (Nat.le_of_ble_eq_true rfl) dX8_thread_121 (fun o9 M8 => ?_)
  exact r_iret (pc := 124) C rfl dX8_thread_124
  refine r_ite (fun e10 => ?_) (fun e10n => ?_)
  refine r_tabE (pc := 20) C e10 dX8_thread_20 (by decide) (by decide) (off := 105) rfl (tgt := 125) rfl ?_
  refine r_aload_n (pc := 125) C 0 rfl rfl dX8_thread_125 ?_
  refine r_iload_n (pc := 126) C 1 rfl rfl dX8_thread_126 ?_
  refine r_iconst (pc := 127) C dX8_thread_127 kc_3 ?_
  refine r_cVI (pc := 128) C hRm (okX8_of h0 v1 (3 : Int32) M2 h_0) (Rc.of C rfl rfl h_0) mw_1193 cvX8_of rfl ⟨Nat.le_of_ble_eq_true rfl, Nat.le_of_ble_eq_true rfl⟩ rfl (Nat.le_of_ble_eq_true rfl) dX8_thread_128 (fun o12 M11 => ?_)
  exact r_iret (pc := 131) C rfl dX8_thread_131
  refine r_ite (fun e13 => ?_) (fun e13n => ?_)
  refine r_tabE (pc := 20) C e13 dX8_thread_20 (by decide) (by decide) (off := 112) rfl (tgt := 132) rfl ?_
  refine r_aload_n (pc := 132) C 0 rfl rfl dX8_thread_132 ?_
  refine r_iload_n (pc := 133) C 1 rfl rfl dX8_thread_133 ?_
  refine r_iconst (pc := 134) C dX8_thread_134 kc_2 ?_
  refine r_cVI (pc := 135) C hRm (okX8_of h0 v1 (2 : Int32) M2 h_0) (Rc.of C rfl rfl h_0) mw_1193 cvX8_of rfl ⟨Nat.le_of_ble_eq_true rfl, Nat.le_of_ble_eq_true rfl⟩ rfl (Nat.le_of_ble_eq_true rfl) dX8_thread_135 (fun o15 M14 => ?_)
  exact r_iret (pc := 138) C rfl dX8_thread_138
  refine r_ite (fun e16 => ?_) (fun e16n => ?_)
  refine r_tabE (pc := 20) C e16 dX8_thread_20 (by decide) (by decide) (off := 119) rfl (tgt := 139) rfl ?_
  refine r_aload_n (pc := 139) C 0 rfl rfl dX8_thread_139 ?_
  refine r_iload_n (pc := 140) C 1 rfl rfl dX8_thread_140 ?_
  refine r_iload_n (pc := 141) C 2 rfl rfl dX8_thread_141 ?_
  refine r_cVI (pc := 142) C hRm (okX8_of h0 v1 v2 M2 h_0) (Rc.of C rfl rfl h_0) mw_1193 cvX8_of rfl ⟨Nat.le_of_ble_eq_true rfl, Nat.le_of_ble_eq_true rfl⟩ rfl (Nat.le_of_ble_eq_true rfl) dX8_thread_142 (fun o18 M17 => ?_)
  exact r_iret (pc := 145) C rfl dX8_thread_145
  refine r_ite (fun e19 => ?_) (fun e19n => ?_)
  refine r_tabE (pc := 20) C e19 dX8_thread_20 (by decide) (by decide) (off := 119) rfl (tgt := 139) rfl ?_
  refine r_aload_n (pc := 139) C 0 rfl rfl dX8_thread_139 ?_
  refine r_iload_n (pc := 140) C 1 rfl rfl dX8_thread_140 ?_
  refine r_iload_n (pc := 141) C 2 rfl rfl dX8_thread_141 ?_
  refine r_cVI (pc := 142) C hRm (okX8_of h0 v1 v2 M2 h_0) (Rc.of C rfl rfl h_0) mw_1193 cvX8_of rfl ⟨Nat.le_of_ble_eq_true rfl, Nat.le_of_ble_eq_true rfl⟩ rfl (Nat.le_of_ble_eq_true rfl) dX8_thread_142 (fun o21 M20 => ?_)
  exact r_iret (pc := 145) C rfl dX8_thread_145
  refine r_ite (fun e22 => ?_) (fun e22n => ?_)
  refine r_tabE (pc := 20) C e22 dX8_thread_20 (by decide) (by decide) (off := 119) rfl (tgt := 139) rfl ?_
  refine r_aload_n (pc := 139) C 0 rfl rfl dX8_thread_139 ?_
  refine r_iload_n (pc := 140) C 1 rfl rfl dX8_thread_140 ?_
  refine r_iload_n (pc := 141) C 2 rfl rfl dX8_thread_141 ?_
  refine r_cVI (pc := 142) C hRm (okX8_of h0 v1 v2 M2 h_0) (Rc.of C rfl rfl h_0) mw_1193 cvX8_of rfl ⟨Nat.le_of_ble_eq_true rfl, Nat.le_of_ble_eq_true rfl⟩ rfl (Nat.le_of_ble_eq_true rfl) dX8_thread_142 (fun o24 M23 => ?_)
  exact r_iret (pc := 145) C rfl dX8_thread_145
  refine r_ite (fun e25 => ?_) (fun e25n => ?_)
  refine r_tabE (pc := 20) C e25 dX8_thread_20 (by decide) (by decide) (off := 119) rfl (tgt := 139) rfl ?_
  refine r_aload_n (pc := 139) C 0 rfl rfl dX8_thread_139 ?_
  refine r_iload_n (pc := 140) C 1 rfl rfl dX8_thread_140 ?_
  refine r_iload_n (pc := 141) C 2 rfl rfl dX8_thread_141 ?_
  refine r_cVI (pc := 142) C hRm (okX8_of h0 v1 v2 M2 h_0) (Rc.of C rfl rfl h_0) mw_1193 cvX8_of rfl ⟨Nat.le_of_ble_eq_true rfl, Nat.le_of_ble_eq_true rfl⟩ rfl (Nat.le_of_ble_eq_true rfl) dX8_thread_142 (fun o27 M26 => ?_)
  exact r_iret (pc := 145) C rfl dX8_thread_145
  refine r_ite (fun e28 => ?_) (fun e28n => ?_)
  refine r_tabE (pc := 20) C e28 dX8_thread_20 (by decide) (by decide) (off := 119) rfl (tgt := 139) rfl ?_
  refine r_aload_n (pc := 139) C 0 rfl rfl dX8_thread_139 ?_
  refine r_iload_n (pc := 140) C 1 rfl rfl dX8_thread_140 ?_
  refine r_iload_n (pc := 141) C 2 rfl rfl dX8_thread_141 ?_
  refine r_cVI (pc := 142) C hRm (okX8_of h0 v1 v2 M2 h_0) (Rc.of C rfl rfl h_0) mw_1193 cvX8_of rfl ⟨Nat.le_of_ble_eq_true rfl, Nat.le_of_ble_eq_true rfl⟩ rfl (Nat.le_of_ble_eq_true rfl) dX8_thread_142 (fun o30 M29 => ?_)
  exact r_iret (pc := 145) C rfl dX8_thread_145
  refine r_ite (fun e31 => ?_) (fun e31n => ?_)
  refine r_tabE (pc := 20) C e31 dX8_thread_20 (by decide) (by decide) (off := 126) rfl (tgt := 146) rfl ?_
  refine r_aload_n (pc := 146) C 0 rfl rfl dX8_thread_146 ?_
  refine r_iload_n (pc := 147) C 1 rfl rfl dX8_thread_147 ?_
  refine r_cVI (pc := 148) C hRm (okX8_locksOf h0 v1 M2 h_0) (Rc.of C rfl rfl h_0) mw_1292 cvX8_locksOf rfl ⟨Nat.le_of_ble_eq_true rfl, Nat.le_of_ble_eq_true rfl⟩ rfl (Nat.le_of_ble_eq_true rfl) dX8_thread_148 (fun o33 M32 => ?_)
  exact r_iret (pc := 151) C rfl dX8_thread_151
  refine r_ite (fun e34 => ?_) (fun e34n => ?_)
  refine r_tabE (pc := 20) C e34 dX8_thread_20 (by decide) (by decide) (off := 132) rfl (tgt := 152) rfl ?_
  refine r_aload_n (pc := 152) C 0 rfl rfl dX8_thread_152 ?_
  refine r_iload_n (pc := 153) C 1 rfl rfl dX8_thread_153 ?_
  refine r_iload_n (pc := 154) C 2 rfl rfl dX8_thread_154 ?_
  refine r_iconst (pc := 155) C dX8_thread_155 kc_1 ?_
  refine r_isub (pc := 156) C dX8_thread_156 ?_
  refine r_cVI (pc := 157) C hRm (okX8_of h0 v1 (v2 - (1 : Int32)) M2 h_0) (Rc.of C rfl rfl h_0) mw_1193 cvX8_of rfl ⟨Nat.le_of_ble_eq_true rfl, Nat.le_of_ble_eq_true rfl⟩ rfl (Nat.le_of_ble_eq_true rfl) dX8_thread_157 (fun o36 M35 => ?_)
  exact r_iret (pc := 160) C rfl dX8_thread_160
  refine r_ite (fun e37 => ?_) (fun e37n => ?_)
  refine r_tabE (pc := 20) C e37 dX8_thread_20 (by decide) (by decide) (off := 132) rfl (tgt := 152) rfl ?_
  refine r_aload_n (pc := 152) C 0 rfl rfl dX8_thread_152 ?_
  refine r_iload_n (pc := 153) C 1 rfl rfl dX8_thread_153 ?_
  refine r_iload_n (pc := 154) C 2 rfl rfl dX8_thread_154 ?_
  refine r_iconst (pc := 155) C dX8_thread_155 kc_1 ?_
  refine r_isub (pc := 156) C dX8_thread_156 ?_
  refine r_cVI (pc := 157) C hRm (okX8_of h0 v1 (v2 - (1 : Int32)) M2 h_0) (Rc.of C rfl rfl h_0) mw_1193 cvX8_of rfl ⟨Nat.le_of_ble_eq_true rfl, Nat.le_of_ble_eq_true rfl⟩ rfl (Nat.le_of_ble_eq_true rfl) dX8_thread_157 (fun o39 M38 => ?_)
  exact r_iret (pc := 160) C rfl dX8_thread_160
  refine r_ite (fun e40 => ?_) (fun e40n => ?_)
  refine r_tabE (pc := 20) C e40 dX8_thread_20 (by decide) (by decide) (off := 132) rfl (tgt := 152) rfl ?_
  refine r_aload_n (pc := 152) C 0 rfl rfl dX8_thread_152 ?_
  refine r_iload_n (pc := 153) C 1 rfl rfl dX8_thread_153 ?_
  refine r_iload_n (pc := 154) C 2 rfl rfl dX8_thread_154 ?_
  refine r_iconst (pc := 155) C dX8_thread_155 kc_1 ?_
  refine r_isub (pc := 156) C dX8_thread_156 ?_
  refine r_cVI (pc := 157) C hRm (okX8_of h0 v1 (v2 - (1 : Int32)) M2 h_0) (Rc.of C rfl rfl h_0) mw_1193 cvX8_of rfl ⟨Nat.le_of_ble_eq_true rfl, Nat.le_of_ble_eq_true rfl⟩ rfl (Nat.le_of_ble_eq_true rfl) dX8_thread_157 (fun o42 M41 => ?_)
  exact r_iret (pc := 160) C rfl dX8_thread_160
  refine r_ite (fun e43 => ?_) (fun e43n => ?_)
  refine r_tabE (pc := 20) C e43 dX8_thread_20 (by decide) (by decide) (off := 132) rfl (tgt := 152) rfl ?_
  refine r_aload_n (pc := 152) C 0 rfl rfl dX8_thread_152 ?_
  refine r_iload_n (pc := 153) C 1 rfl rfl dX8_thread_153 ?_
  refine r_iload_n (pc := 154) C 2 rfl rfl dX8_thread_154 ?_
  refine r_iconst (pc := 155) C dX8_thread_155 kc_1 ?_
  refine r_isub (pc := 156) C dX8_thread_156 ?_
  refine r_cVI (pc := 157) C hRm (okX8_of h0 v1 (v2 - (1 : Int32)) M2 h_0) (Rc.of C rfl rfl h_0) mw_1193 cvX8_of rfl ⟨Nat.le_of_ble_eq_true rfl, Nat.le_of_ble_eq_true rfl⟩ rfl (Nat.le_of_ble_eq_true rfl) dX8_thread_157 (fun o45 M44 => ?_)
  exact r_iret (pc := 160) C rfl dX8_thread_160
  refine r_ite (fun e46 => ?_) (fun e46n => ?_)
  refine r_tabE (pc := 20) C e46 dX8_thread_20 (by decide) (by decide) (off := 132) rfl (tgt := 152) rfl ?_
  refine r_aload_n (pc := 152) C 0 rfl rfl dX8_thread_152 ?_
  refine r_iload_n (pc := 153) C 1 rfl rfl dX8_thread_153 ?_
  refine r_iload_n (pc := 154) C 2 rfl rfl dX8_thread_154 ?_
  refine r_iconst (pc := 155) C dX8_thread_155 kc_1 ?_
  refine r_isub (pc := 156) C dX8_thread_156 ?_
  refine r_cVI (pc := 157) C hRm (okX8_of h0 v1 (v2 - (1 : Int32)) M2 h_0) (Rc.of C rfl rfl h_0) mw_1193 cvX8_of rfl ⟨Nat.le_of_ble_eq_true rfl, Nat.le_of_ble_eq_true rfl⟩ rfl (Nat.le_of_ble_eq_true rfl) dX8_thread_157 (fun o48 M47 => ?_)
  exact r_iret (pc := 160) C rfl dX8_thread_160
  refine r_ite (fun e49 => ?_) (fun e49n => ?_)
  refine r_tabE (pc := 20) C e49 dX8_thread_20 (by decide) (by decide) (off := 132) rfl (tgt := 152) rfl ?_
  refine r_aload_n (pc := 152) C 0 rfl rfl dX8_thread_152 ?_
  refine r_iload_n (pc := 153) C 1 rfl rfl dX8_thread_153 ?_
  refine r_iload_n (pc := 154) C 2 rfl rfl dX8_thread_154 ?_
  refine r_iconst (pc := 155) C dX8_thread_155 kc_1 ?_
  refine r_isub (pc := 156) C dX8_thread_156 ?_
  refine r_cVI (pc := 157) C hRm (okX8_of h0 v1 (v2 - (1 : Int32)) M2 h_0) (Rc.of C rfl rfl h_0) mw_1193 cvX8_of rfl ⟨Nat.le_of_ble_eq_true rfl, Nat.le_of_ble_eq_true rfl⟩ rfl (Nat.le_of_ble_eq_true rfl) dX8_thread_157 (fun o51 M50 => ?_)
  exact r_iret (pc := 160) C rfl dX8_thread_160
  refine r_ite (fun e52 => ?_) (fun e52n => ?_)
  refine r_tabE (pc := 20) C e52 dX8_thread_20 (by decide) (by decide) (off := 132) rfl (tgt := 152) rfl ?_
  refine r_aload_n (pc := 152) C 0 rfl rfl dX8_thread_152 ?_
  refine r_iload_n (pc := 153) C 1 rfl rfl dX8_thread_153 ?_
  refine r_iload_n (pc := 154) C 2 rfl rfl dX8_thread_154 ?_
  refine r_iconst (pc := 155) C dX8_thread_155 kc_1 ?_
  refine r_isub (pc := 156) C dX8_thread_156 ?_
  refine r_cVI (pc := 157) C hRm (okX8_of h0 v1 (v2 - (1 : Int32)) M2 h_0) (Rc.of C rfl rfl h_0) mw_1193 cvX8_of rfl ⟨Nat.le_of_ble_eq_true rfl, Nat.le_of_ble_eq_true rfl⟩ rfl (Nat.le_of_ble_eq_true rfl) dX8_thread_157 (fun o54 M53 => ?_)
  exact r_iret (pc := 160) C rfl dX8_thread_160
  refine r_ite (fun e55 => ?_) (fun e55n => ?_)
  refine r_tabE (pc := 20) C e55 dX8_thread_20 (by decide) (by decide) (off := 141) rfl (tgt := 161) rfl ?_
  refine r_aload_n (pc := 161) C 0 rfl rfl dX8_thread_161 ?_
  refine r_iload_n (pc := 162) C 1 rfl rfl dX8_thread_162 ?_
  refine r_bipush (pc := 163) C dX8_thread_163 kb_16 ?_
  refine r_cVI (pc := 165) C hRm (okX8_of h0 v1 (16 : Int32) M2 h_0) (Rc.of C rfl rfl h_0) mw_1193 cvX8_of rfl ⟨Nat.le_of_ble_eq_true rfl, Nat.le_of_ble_eq_true rfl⟩ rfl (Nat.le_of_ble_eq_true rfl) dX8_thread_165 (fun o57 M56 => ?_)
  refine r_iconst (pc := 168) C dX8_thread_168 kc_m1 ?_
  refine r_icmp_ne (pc := 169) C dX8_thread_169 (tgt := 181) rfl ?_ ?_
  refine r_aload_n (pc := 181) C 0 rfl rfl dX8_thread_181 ?_
  refine r_iload_n (pc := 182) C 1 rfl rfl dX8_thread_182 ?_
  refine r_bipush (pc := 183) C dX8_thread_183 kb_16 ?_
  refine r_cVI (pc := 185) C hRm (okX8_of h0 v1 (16 : Int32) M56 h_0) (Rc.of C rfl rfl h_0) mw_1193 cvX8_of rfl ⟨Nat.le_of_ble_eq_true rfl, Nat.le_of_ble_eq_true rfl⟩ rfl (Nat.le_of_ble_eq_true rfl) dX8_thread_185 (fun o59 M58 => ?_)
  exact r_iret (pc := 188) C rfl dX8_thread_188
  refine r_aload_n (pc := 172) C 0 rfl rfl dX8_thread_172 ?_
  refine r_iload_n (pc := 173) C 1 rfl rfl dX8_thread_173 ?_
  refine r_iconst (pc := 174) C dX8_thread_174 kc_0 ?_
  refine r_cVI (pc := 175) C hRm (okX8_of h0 v1 (0 : Int32) M56 h_0) (Rc.of C rfl rfl h_0) mw_1193 cvX8_of rfl ⟨Nat.le_of_ble_eq_true rfl, Nat.le_of_ble_eq_true rfl⟩ rfl (Nat.le_of_ble_eq_true rfl) dX8_thread_175 (fun o61 M60 => ?_)
  refine r_goto (pc := 178) C dX8_thread_178 (tgt := 188) rfl ?_
  exact r_iret (pc := 188) C rfl dX8_thread_188
  refine r_ite (fun e62 => ?_) (fun e62n => ?_)
  refine r_tabE (pc := 20) C e62 dX8_thread_20 (by decide) (by decide) (off := 169) rfl (tgt := 189) rfl ?_
  refine r_aload_n (pc := 189) C 0 rfl rfl dX8_thread_189 ?_
  refine r_iload_n (pc := 190) C 1 rfl rfl dX8_thread_190 ?_
  refine r_iconst (pc := 191) C dX8_thread_191 kc_1 ?_
  refine r_cVI (pc := 192) C hRm (okX8_of h0 v1 (1 : Int32) M2 h_0) (Rc.of C rfl rfl h_0) mw_1193 cvX8_of rfl ⟨Nat.le_of_ble_eq_true rfl, Nat.le_of_ble_eq_true rfl⟩ rfl (Nat.le_of_ble_eq_true rfl) dX8_thread_192 (fun o64 M63 => ?_)
  exact r_iret (pc := 195) C rfl dX8_thread_195
  refine r_tabD (pc := 20) C (cz := [0, 1, 2, 3, 4, 5, 6, 7, 8, 9, 10, 11, 12, 13, 14, 15, 16, 17, 18]) (tabN_cons e4n (tabN_cons e7n (tabN_cons e10n (tabN_cons e13n (tabN_cons e16n (tabN_cons e19n (tabN_cons e22n (tabN_cons e25n (tabN_cons e28n (tabN_cons e31n (tabN_cons e34n (tabN_cons e37n (tabN_cons e40n (tabN_cons e43n (tabN_cons e46n (tabN_cons e49n (tabN_cons e52n (tabN_cons e55n (tabN_cons e62n tabN_nil))))))))))))))))))) dX8_thread_20 (by decide) (tgt := 196) rfl ?_
  refine r_aload_n (pc := 196) C 0 rfl rfl dX8_thread_196 ?_
  refine r_iconst (pc := 197) C dX8_thread_197 kc_2 ?_
  refine r_cVI (pc := 198) C hRm (okX8_fail h0 (2 : Int32) M2 h_0) (Rc.of C rfl rfl h_0) mw_1084 cvX8_fail rfl ⟨Nat.le_of_ble_eq_true rfl, Nat.le_of_ble_eq_true rfl⟩ rfl (Nat.le_of_ble_eq_true rfl) dX8_thread_198 (fun o66 M65 => ?_)
  exact r_iret (pc := 201) C rfl dX8_thread_201
  refine r_aload_n (pc := 13) C 0 rfl rfl dX8_thread_13 ?_
  refine r_iconst (pc := 14) C dX8_thread_14 kc_1 ?_
  refine r_cVI (pc := 15) C hRm (okX8_fail h0 (1 : Int32) M2 h_0) (Rc.of C rfl rfl h_0) mw_1084 cvX8_fail rfl ⟨Nat.le_of_ble_eq_true rfl, Nat.le_of_ble_eq_true rfl⟩ rfl (Nat.le_of_ble_eq_true rfl) dX8_thread_15 (fun o68 M67 => ?_)
  exact r_iret (pc := 18) C rfl dX8_thread_18
theorem okX8_thread {l : Launch} {G : WT} (h0 : W0 G) (v1 : Int32) (v2 : Int32) (M : Mem) (h_0 : G.2.2.2.1 19 0 0) : Okm l G yX8_thread cX8_thread 3 (some FieldType.int) 2 46 [.ref (G.1 19 0 0), .int v1, .int v2] voI M (pX8_thread  v1 v2 M) :=
  Okm.of "PermitParkModel" rfl (by decide) (Nat.le_of_ble_eq_true rfl) (L := [(0, .ref (G.1 19 0 0)), (1, .int v1), (2, .int v2)]) rfl (fun K _ hr C => lX8_thread_0 C (by rw [hr]; exact ⟨rfl, rfl⟩) h0 v1 v2 M h_0)
def pX8_instruction_29 (M : Mem) : Option (Int32 × Mem) :=
    bnd (pX8_fail (1 : Int32) M) fun o2 M1 => some (o2, M1)
theorem lX8_instruction_29 {K : KT} {G : WT} (C : Cx K G "PermitParkModel" cX8_instruction 4 (some FieldType.int)) (hRm : K.2.2.2.1.frames = 2 ∧ K.2.2.2.1.locals = 43) (h0 : W0 G) (M : Mem) (g_0 : G.2.2.2.1 19 0 0) : Run K G 4 0 0 (FinM K G voI 0 0) 29 [(0, .ref (G.1 19 0 0))] [] M (pX8_instruction_29    M) := by
  rw [pX8_instruction_29]
  refine r_aload_n (pc := 29) C 0 rfl rfl dX8_instruction_29 ?_
  refine r_iconst (pc := 30) C dX8_instruction_30 kc_1 ?_
  refine r_cVI (pc := 31) C hRm (okX8_fail h0 (1 : Int32) M g_0) (Rc.of C rfl rfl g_0) mw_1084 cvX8_fail rfl ⟨Nat.le_of_ble_eq_true rfl, Nat.le_of_ble_eq_true rfl⟩ rfl (Nat.le_of_ble_eq_true rfl) dX8_instruction_31 (fun o2 M1 => ?_)
  exact r_iret (pc := 34) C rfl dX8_instruction_34
def pX8_instruction (v1 : Int32) (v2 : Int32) (v3 : Int32) (M : Mem) : Option (Int32 × Mem) :=
    nm (wI M 19 0 0 7 (0 : Int32)) fun M1 => bnd (pX8_isThread v1 M1) fun o3 M2 => if o3 = 0 then (pX8_instruction_29    M2)
    else bnd (pX8_of v1 (1 : Int32) M2) fun o5 M4 => bnd (pX8_isBetween v2 (0 : Int32) (o5 - (1 : Int32)) M4) fun o7 M6 => if ¬ o7 = 0 then (bnd (pX8_isBetween v3 (0 : Int32) (1 : Int32) M6) fun o9 M8 => if o9 = 0 then (bnd (pX8_fail (2 : Int32) M8) fun o11 M10 => some (o11, M10))
    else bnd (pX8_codePlace v1 v2 M8) fun o14 M13 => chk (inB (o14 + v3) 700) <| some ((M13.1 20 0 0 (o14 + v3).toNatClampNeg), M13))
    else pX8_instruction_29    M6
theorem lX8_instruction_0 {K : KT} {G : WT} (C : Cx K G "PermitParkModel" cX8_instruction 4 (some FieldType.int)) (hRm : K.2.2.2.1.frames = 2 ∧ K.2.2.2.1.locals = 43) (h0 : W0 G) (v1 : Int32) (v2 : Int32) (v3 : Int32) (M : Mem) (h_0 : G.2.2.2.1 19 0 0) : Run K G 4 0 0 (FinM K G voI 0 0) 0 [(0, .ref (G.1 19 0 0)), (1, .int v1), (2, .int v2), (3, .int v3)] [] M (pX8_instruction   v1 v2 v3 M) := by
  rw [pX8_instruction]
  refine r_aload_n (pc := 0) C 0 rfl rfl dX8_instruction_0 ?_
  refine r_iconst (pc := 1) C dX8_instruction_1 kc_0 ?_
  refine r_putI (pc := 2) C FX8_thrown mw_1019 h_0 tyX8 tyX8_ok nmX8 (fun _ _ => rfl) rfl dX8_instruction_2 (fun M1 => ?_)
  refine r_aload_n (pc := 5) C 0 rfl rfl dX8_instruction_5 ?_
  refine r_iload_n (pc := 6) C 1 rfl rfl dX8_instruction_6 ?_
  refine r_cVI (pc := 7) C hRm (okX8_isThread h0 v1 M1 h_0) (Rc.of C rfl rfl h_0) mw_1251 cvX8_isThread rfl ⟨Nat.le_of_ble_eq_true rfl, Nat.le_of_ble_eq_true rfl⟩ rfl (Nat.le_of_ble_eq_true rfl) dX8_instruction_7 (fun o3 M2 => ?_)
  refine r_if_eq (pc := 10) C dX8_instruction_10 (tgt := 29) rfl ?_ ?_
  refine r_sub [0] rfl ?_
  exact lX8_instruction_29   C hRm h0   M2 h_0
  refine r_iload_n (pc := 13) C 2 rfl rfl dX8_instruction_13 ?_
  refine r_iconst (pc := 14) C dX8_instruction_14 kc_0 ?_
  refine r_aload_n (pc := 15) C 0 rfl rfl dX8_instruction_15 ?_
  refine r_iload_n (pc := 16) C 1 rfl rfl dX8_instruction_16 ?_
  refine r_iconst (pc := 17) C dX8_instruction_17 kc_1 ?_
  refine r_cVI (pc := 18) C hRm (okX8_of h0 v1 (1 : Int32) M2 h_0) (Rc.of C rfl rfl h_0) mw_1193 cvX8_of rfl ⟨Nat.le_of_ble_eq_true rfl, Nat.le_of_ble_eq_true rfl⟩ rfl (Nat.le_of_ble_eq_true rfl) dX8_instruction_18 (fun o5 M4 => ?_)
  refine r_iconst (pc := 21) C dX8_instruction_21 kc_1 ?_
  refine r_isub (pc := 22) C dX8_instruction_22 ?_
  refine r_cSI (pc := 23) C hRm (okX8_isBetween h0 v2 (0 : Int32) (o5 - (1 : Int32)) M4 ) mw_1092 cvX8_isBetween rfl ⟨Nat.le_of_ble_eq_true rfl, Nat.le_of_ble_eq_true rfl⟩ rfl (Nat.le_of_ble_eq_true rfl) dX8_instruction_23 (fun o7 M6 => ?_)
  refine r_if_ne (pc := 26) C dX8_instruction_26 (tgt := 35) rfl ?_ ?_
  refine r_iload_n (pc := 35) C 3 rfl rfl dX8_instruction_35 ?_
  refine r_iconst (pc := 36) C dX8_instruction_36 kc_0 ?_
  refine r_iconst (pc := 37) C dX8_instruction_37 kc_1 ?_
  refine r_cSI (pc := 38) C hRm (okX8_isBetween h0 v3 (0 : Int32) (1 : Int32) M6 ) mw_1092 cvX8_isBetween rfl ⟨Nat.le_of_ble_eq_true rfl, Nat.le_of_ble_eq_true rfl⟩ rfl (Nat.le_of_ble_eq_true rfl) dX8_instruction_38 (fun o9 M8 => ?_)
  refine r_if_eq (pc := 41) C dX8_instruction_41 (tgt := 59) rfl ?_ ?_
  refine r_aload_n (pc := 59) C 0 rfl rfl dX8_instruction_59 ?_
  refine r_iconst (pc := 60) C dX8_instruction_60 kc_2 ?_
  refine r_cVI (pc := 61) C hRm (okX8_fail h0 (2 : Int32) M8 h_0) (Rc.of C rfl rfl h_0) mw_1084 cvX8_fail rfl ⟨Nat.le_of_ble_eq_true rfl, Nat.le_of_ble_eq_true rfl⟩ rfl (Nat.le_of_ble_eq_true rfl) dX8_instruction_61 (fun o11 M10 => ?_)
  exact r_iret (pc := 64) C rfl dX8_instruction_64
  refine r_aload_n (pc := 44) C 0 rfl rfl dX8_instruction_44 ?_
  refine r_getR (pc := 45) C FX8_state mw_1012 h_0 rfl dX8_instruction_45 (fun g12 => ?_)
  refine r_iload_n (pc := 48) C 1 rfl rfl dX8_instruction_48 ?_
  refine r_iload_n (pc := 49) C 2 rfl rfl dX8_instruction_49 ?_
  refine r_cSI (pc := 50) C hRm (okX8_codePlace h0 v1 v2 M8 ) mw_1201 cvX8_codePlace rfl ⟨Nat.le_of_ble_eq_true rfl, Nat.le_of_ble_eq_true rfl⟩ rfl (Nat.le_of_ble_eq_true rfl) dX8_instruction_50 (fun o14 M13 => ?_)
  refine r_iload_n (pc := 53) C 3 rfl rfl dX8_instruction_53 ?_
  refine r_iadd (pc := 54) C dX8_instruction_54 ?_
  refine r_iald (pc := 55) C rfl g12 (fun _ => rfl) (fun _ => rfl) dX8_instruction_55 ?_
  refine r_goto (pc := 56) C dX8_instruction_56 (tgt := 64) rfl ?_
  exact r_iret (pc := 64) C rfl dX8_instruction_64
  refine r_sub [0] rfl ?_
  exact lX8_instruction_29   C hRm h0   M6 h_0
theorem okX8_instruction {l : Launch} {G : WT} (h0 : W0 G) (v1 : Int32) (v2 : Int32) (v3 : Int32) (M : Mem) (h_0 : G.2.2.2.1 19 0 0) : Okm l G yX8_instruction cX8_instruction 4 (some FieldType.int) 2 43 [.ref (G.1 19 0 0), .int v1, .int v2, .int v3] voI M (pX8_instruction  v1 v2 v3 M) :=
  Okm.of "PermitParkModel" rfl (by decide) (Nat.le_of_ble_eq_true rfl) (L := [(0, .ref (G.1 19 0 0)), (1, .int v1), (2, .int v2), (3, .int v3)]) rfl (fun K _ hr C => lX8_instruction_0 C (by rw [hr]; exact ⟨rfl, rfl⟩) h0 v1 v2 v3 M h_0)
def pX8_waiter_71 (k8 : Int32 → Int32 → Int32 → Int32 → Int32 → Mem → Option (Int32 × Mem)) (k20 : Int32 → Int32 → Int32 → Int32 → Int32 → Int32 → Mem → Option (Int32 × Mem)) (v1 : Int32) (v2 : Int32) (v3 : Int32) (v4 : Int32) (v5 : Int32) (v6 : Int32) (s0 : Int32) (M : Mem) : Option (Int32 × Mem) :=
    if s0 = 0 then (k20 v1 v2 v3 v4 v5 (v6 + (1 : Int32)) M)
    else if v4 = (-1 : Int32) then (k20 v1 v2 v3 v6 v5 (v6 + (1 : Int32)) M)
    else bnd (pX8_of v6 (18 : Int32) M) fun o2 M1 => bnd (pX8_of v4 (18 : Int32) M1) fun o4 M3 => if o4 ≤ o2 then (k20 v1 v2 v3 v4 v5 (v6 + (1 : Int32)) M3)
    else k20 v1 v2 v3 v6 v5 (v6 + (1 : Int32)) M3
theorem lX8_waiter_71 {K : KT} {G : WT} {k8 : Int32 → Int32 → Int32 → Int32 → Int32 → Mem → Option (Int32 × Mem)} {k20 : Int32 → Int32 → Int32 → Int32 → Int32 → Int32 → Mem → Option (Int32 × Mem)} (C : Cx K G "PermitParkModel" cX8_waiter 8 (some FieldType.int)) (hRm : K.2.2.2.1.frames = 1 ∧ K.2.2.2.1.locals = 22) (h0 : W0 G)
    (hk8 : ∀ (v1 : Int32) (v2 : Int32) (v3 : Int32) (v4 : Int32) (v5 : Int32) (M : Mem), G.2.2.2.1 19 0 0 → Run K G 8 0 0 (FinM K G voI 0 0) 8 [(0, .ref (G.1 19 0 0)), (1, .int v1), (2, .int v2), (3, .int v3), (4, .int v4), (5, .int v5)] [] M (k8 v1 v2 v3 v4 v5 M))
    (hk20 : ∀ (v1 : Int32) (v2 : Int32) (v3 : Int32) (v4 : Int32) (v5 : Int32) (v6 : Int32) (M : Mem), G.2.2.2.1 19 0 0 → Run K G 8 0 0 (FinM K G voI 0 0) 20 [(0, .ref (G.1 19 0 0)), (1, .int v1), (2, .int v2), (3, .int v3), (4, .int v4), (5, .int v5), (6, .int v6)] [] M (k20 v1 v2 v3 v4 v5 v6 M)) (v1 : Int32) (v2 : Int32) (v3 : Int32) (v4 : Int32) (v5 : Int32) (v6 : Int32) (s0 : Int32) (M : Mem) (g_0 : G.2.2.2.1 19 0 0) : Run K G 8 0 0 (FinM K G voI 0 0) 71 [(0, .ref (G.1 19 0 0)), (1, .int v1), (2, .int v2), (3, .int v3), (4, .int v4), (5, .int v5), (6, .int v6)] [.int s0] M (pX8_waiter_71  k8 k20 v1 v2 v3 v4 v5 v6 s0 M) := by
  rw [pX8_waiter_71]
  refine r_istore (pc := 71) C [(7, .int s0), (0, .ref (G.1 19 0 0)), (1, .int v1), (2, .int v2), (3, .int v3), (4, .int v4), (5, .int v5), (6, .int v6)] dX8_waiter_71 (by decide) rfl ?_
  refine r_iload (pc := 73) C 0 rfl dX8_waiter_73 ?_
  refine r_if_eq (pc := 75) C dX8_waiter_75 (tgt := 108) rfl ?_ ?_
  refine r_iload (pc := 108) C 5 rfl dX8_waiter_108 ?_
  refine r_istore (pc := 110) C [(4, .int v4), (7, .int s0), (0, .ref (G.1 19 0 0)), (1, .int v1), (2, .int v2), (3, .int v3), (5, .int v5), (6, .int v6)] dX8_waiter_110 (by decide) rfl ?_
  refine r_iinc (pc := 112) C [(6, .int (v6 + (1 : Int32))), (4, .int v4), (7, .int s0), (0, .ref (G.1 19 0 0)), (1, .int v1), (2, .int v2), (3, .int v3), (5, .int v5)] dX8_waiter_112 (p := 7) rfl (ki_1 _) (by decide) rfl ?_
  refine r_goto (pc := 115) C dX8_waiter_115 (tgt := 20) rfl ?_
  refine r_sub [3, 4, 5, 6, 1, 7, 0] rfl ?_
  exact hk20 v1 v2 v3 v4 v5 (v6 + (1 : Int32)) M g_0
  refine r_iload (pc := 78) C 5 rfl dX8_waiter_78 ?_
  refine r_iconst (pc := 80) C dX8_waiter_80 kc_m1 ?_
  refine r_icmp_eq (pc := 81) C dX8_waiter_81 (tgt := 103) rfl ?_ ?_
  refine r_iload (pc := 103) C 7 rfl dX8_waiter_103 ?_
  refine r_goto (pc := 105) C dX8_waiter_105 (tgt := 110) rfl ?_
  refine r_istore (pc := 110) C [(4, .int v6), (7, .int s0), (0, .ref (G.1 19 0 0)), (1, .int v1), (2, .int v2), (3, .int v3), (5, .int v5), (6, .int v6)] dX8_waiter_110 (by decide) rfl ?_
  refine r_iinc (pc := 112) C [(6, .int (v6 + (1 : Int32))), (4, .int v6), (7, .int s0), (0, .ref (G.1 19 0 0)), (1, .int v1), (2, .int v2), (3, .int v3), (5, .int v5)] dX8_waiter_112 (p := 7) rfl (ki_1 _) (by decide) rfl ?_
  refine r_goto (pc := 115) C dX8_waiter_115 (tgt := 20) rfl ?_
  refine r_sub [3, 4, 5, 6, 1, 7, 0] rfl ?_
  exact hk20 v1 v2 v3 v6 v5 (v6 + (1 : Int32)) M g_0
  refine r_aload_n (pc := 84) C 1 rfl rfl dX8_waiter_84 ?_
  refine r_iload (pc := 85) C 7 rfl dX8_waiter_85 ?_
  refine r_bipush (pc := 87) C dX8_waiter_87 kb_18 ?_
  refine r_cVI (pc := 89) C hRm (okX8_of h0 v6 (18 : Int32) M g_0) (Rc.of C rfl rfl g_0) mw_1193 cvX8_of rfl ⟨Nat.le_of_ble_eq_true rfl, Nat.le_of_ble_eq_true rfl⟩ rfl (Nat.le_of_ble_eq_true rfl) dX8_waiter_89 (fun o2 M1 => ?_)
  refine r_aload_n (pc := 92) C 1 rfl rfl dX8_waiter_92 ?_
  refine r_iload (pc := 93) C 5 rfl dX8_waiter_93 ?_
  refine r_bipush (pc := 95) C dX8_waiter_95 kb_18 ?_
  refine r_cVI (pc := 97) C hRm (okX8_of h0 v4 (18 : Int32) M1 g_0) (Rc.of C rfl rfl g_0) mw_1193 cvX8_of rfl ⟨Nat.le_of_ble_eq_true rfl, Nat.le_of_ble_eq_true rfl⟩ rfl (Nat.le_of_ble_eq_true rfl) dX8_waiter_97 (fun o4 M3 => ?_)
  refine r_icmp_ge (pc := 100) C dX8_waiter_100 (tgt := 108) rfl ?_ ?_
  refine r_iload (pc := 108) C 5 rfl dX8_waiter_108 ?_
  refine r_istore (pc := 110) C [(4, .int v4), (7, .int s0), (0, .ref (G.1 19 0 0)), (1, .int v1), (2, .int v2), (3, .int v3), (5, .int v5), (6, .int v6)] dX8_waiter_110 (by decide) rfl ?_
  refine r_iinc (pc := 112) C [(6, .int (v6 + (1 : Int32))), (4, .int v4), (7, .int s0), (0, .ref (G.1 19 0 0)), (1, .int v1), (2, .int v2), (3, .int v3), (5, .int v5)] dX8_waiter_112 (p := 7) rfl (ki_1 _) (by decide) rfl ?_
  refine r_goto (pc := 115) C dX8_waiter_115 (tgt := 20) rfl ?_
  refine r_sub [3, 4, 5, 6, 1, 7, 0] rfl ?_
  exact hk20 v1 v2 v3 v4 v5 (v6 + (1 : Int32)) M3 g_0
  refine r_iload (pc := 103) C 7 rfl dX8_waiter_103 ?_
  refine r_goto (pc := 105) C dX8_waiter_105 (tgt := 110) rfl ?_
  refine r_istore (pc := 110) C [(4, .int v6), (7, .int s0), (0, .ref (G.1 19 0 0)), (1, .int v1), (2, .int v2), (3, .int v3), (5, .int v5), (6, .int v6)] dX8_waiter_110 (by decide) rfl ?_
  refine r_iinc (pc := 112) C [(6, .int (v6 + (1 : Int32))), (4, .int v6), (7, .int s0), (0, .ref (G.1 19 0 0)), (1, .int v1), (2, .int v2), (3, .int v3), (5, .int v5)] dX8_waiter_112 (p := 7) rfl (ki_1 _) (by decide) rfl ?_
  refine r_goto (pc := 115) C dX8_waiter_115 (tgt := 20) rfl ?_
  refine r_sub [3, 4, 5, 6, 1, 7, 0] rfl ?_
  exact hk20 v1 v2 v3 v6 v5 (v6 + (1 : Int32)) M3 g_0
def pX8_waiter_20 (k8 : Int32 → Int32 → Int32 → Int32 → Int32 → Mem → Option (Int32 × Mem)) : Nat → Int32 → Int32 → Int32 → Int32 → Int32 → Int32 → Mem → Option (Int32 × Mem)
  | 0, _, _, _, _, _, _, _ => none
  | n + 1, v1, v2, v3, v4, v5, v6, M =>
    chk (inB (2 : Int32) 700) <| if (M.1 20 0 0 (2 : Int32).toNatClampNeg) ≤ v6 then (if ¬ v4 = (-1 : Int32) then (bnd (pX8_of v4 (18 : Int32) M) fun o3 M2 => k8 v1 v2 o3 v4 (v5 + (1 : Int32)) M2)
    else some ((-1 : Int32), M))
    else bnd (pX8_of v6 (3 : Int32) M) fun o5 M4 => if ¬ o5 = (2 : Int32) then (pX8_waiter_71  k8 (fun v1 v2 v3 v4 v5 v6 M => pX8_waiter_20  k8 n v1 v2 v3 v4 v5 v6 M)  v1 v2 v3 v4 v5 v6 (0 : Int32) M4)
    else bnd (pX8_of v6 (8 : Int32) M4) fun o7 M6 => if ¬ o7 = v1 then (pX8_waiter_71  k8 (fun v1 v2 v3 v4 v5 v6 M => pX8_waiter_20  k8 n v1 v2 v3 v4 v5 v6 M)  v1 v2 v3 v4 v5 v6 (0 : Int32) M6)
    else bnd (pX8_of v6 (18 : Int32) M6) fun o9 M8 => if o9 ≤ v3 then (pX8_waiter_71  k8 (fun v1 v2 v3 v4 v5 v6 M => pX8_waiter_20  k8 n v1 v2 v3 v4 v5 v6 M)  v1 v2 v3 v4 v5 v6 (0 : Int32) M8)
    else pX8_waiter_71  k8 (fun v1 v2 v3 v4 v5 v6 M => pX8_waiter_20  k8 n v1 v2 v3 v4 v5 v6 M)  v1 v2 v3 v4 v5 v6 (1 : Int32) M8
theorem lX8_waiter_20 {K : KT} {G : WT} {k8 : Int32 → Int32 → Int32 → Int32 → Int32 → Mem → Option (Int32 × Mem)} (C : Cx K G "PermitParkModel" cX8_waiter 8 (some FieldType.int)) (hRm : K.2.2.2.1.frames = 1 ∧ K.2.2.2.1.locals = 22) (h0 : W0 G)
    (hk8 : ∀ (v1 : Int32) (v2 : Int32) (v3 : Int32) (v4 : Int32) (v5 : Int32) (M : Mem), G.2.2.2.1 19 0 0 → Run K G 8 0 0 (FinM K G voI 0 0) 8 [(0, .ref (G.1 19 0 0)), (1, .int v1), (2, .int v2), (3, .int v3), (4, .int v4), (5, .int v5)] [] M (k8 v1 v2 v3 v4 v5 M)) : ∀ (n : Nat) (v1 : Int32) (v2 : Int32) (v3 : Int32) (v4 : Int32) (v5 : Int32) (v6 : Int32) (M : Mem), G.2.2.2.1 19 0 0 → Run K G 8 0 0 (FinM K G voI 0 0) 20 [(0, .ref (G.1 19 0 0)), (1, .int v1), (2, .int v2), (3, .int v3), (4, .int v4), (5, .int v5), (6, .int v6)] [] M (pX8_waiter_20  k8 n v1 v2 v3 v4 v5 v6 M) := by
  intro n
  induction n with
  | zero =>
    intro v1 v2 v3 v4 v5 v6 M g_0
    exact r_none
  | succ n ih =>
    intro v1 v2 v3 v4 v5 v6 M g_0
    rw [pX8_waiter_20]
    refine r_iload (pc := 20) C 6 rfl dX8_waiter_20 ?_
    refine r_aload_n (pc := 22) C 0 rfl rfl dX8_waiter_22 ?_
    refine r_getR (pc := 23) C FX8_state mw_1012 g_0 rfl dX8_waiter_23 (fun g1 => ?_)
    refine r_iconst (pc := 26) C dX8_waiter_26 kc_2 ?_
    refine r_iald (pc := 27) C rfl g1 (fun _ => rfl) (fun _ => rfl) dX8_waiter_27 ?_
    refine r_icmp_ge (pc := 28) C dX8_waiter_28 (tgt := 118) rfl ?_ ?_
    refine r_iload (pc := 118) C 4 rfl dX8_waiter_118 ?_
    refine r_iconst (pc := 120) C dX8_waiter_120 kc_m1 ?_
    refine r_icmp_ne (pc := 121) C dX8_waiter_121 (tgt := 126) rfl ?_ ?_
    refine r_aload_n (pc := 126) C 0 rfl rfl dX8_waiter_126 ?_
    refine r_iload (pc := 127) C 4 rfl dX8_waiter_127 ?_
    refine r_bipush (pc := 129) C dX8_waiter_129 kb_18 ?_
    refine r_cVI (pc := 131) C hRm (okX8_of h0 v4 (18 : Int32) M g_0) (Rc.of C rfl rfl g_0) mw_1193 cvX8_of rfl ⟨Nat.le_of_ble_eq_true rfl, Nat.le_of_ble_eq_true rfl⟩ rfl (Nat.le_of_ble_eq_true rfl) dX8_waiter_131 (fun o3 M2 => ?_)
    refine r_istore_n (pc := 134) C [(3, .int o3), (0, .ref (G.1 19 0 0)), (1, .int v1), (2, .int v2), (4, .int v4), (5, .int v5), (6, .int v6)] dX8_waiter_134 rfl (by decide) rfl ?_
    refine r_iinc (pc := 135) C [(5, .int (v5 + (1 : Int32))), (3, .int o3), (0, .ref (G.1 19 0 0)), (1, .int v1), (2, .int v2), (4, .int v4), (6, .int v6)] dX8_waiter_135 (p := 5) rfl (ki_1 _) (by decide) rfl ?_
    refine r_goto (pc := 138) C dX8_waiter_138 (tgt := 8) rfl ?_
    refine r_sub [2, 3, 4, 1, 5, 0] rfl ?_
    exact hk8 v1 v2 o3 v4 (v5 + (1 : Int32)) M2 g_0
    refine r_iconst (pc := 124) C dX8_waiter_124 kc_m1 ?_
    exact r_iret (pc := 125) C rfl dX8_waiter_125
    refine r_aload_n (pc := 31) C 0 rfl rfl dX8_waiter_31 ?_
    refine r_iload (pc := 32) C 6 rfl dX8_waiter_32 ?_
    refine r_iconst (pc := 34) C dX8_waiter_34 kc_3 ?_
    refine r_cVI (pc := 35) C hRm (okX8_of h0 v6 (3 : Int32) M g_0) (Rc.of C rfl rfl g_0) mw_1193 cvX8_of rfl ⟨Nat.le_of_ble_eq_true rfl, Nat.le_of_ble_eq_true rfl⟩ rfl (Nat.le_of_ble_eq_true rfl) dX8_waiter_35 (fun o5 M4 => ?_)
    refine r_iconst (pc := 38) C dX8_waiter_38 kc_2 ?_
    refine r_icmp_ne (pc := 39) C dX8_waiter_39 (tgt := 70) rfl ?_ ?_
    refine r_iconst (pc := 70) C dX8_waiter_70 kc_0 ?_
    exact lX8_waiter_71  (k8 := k8) (k20 := (fun v1 v2 v3 v4 v5 v6 M => pX8_waiter_20  k8 n v1 v2 v3 v4 v5 v6 M)) C hRm h0 hk8 ih  v1 v2 v3 v4 v5 v6 (0 : Int32) M4 g_0
    refine r_aload_n (pc := 42) C 0 rfl rfl dX8_waiter_42 ?_
    refine r_iload (pc := 43) C 6 rfl dX8_waiter_43 ?_
    refine r_bipush (pc := 45) C dX8_waiter_45 kb_8 ?_
    refine r_cVI (pc := 47) C hRm (okX8_of h0 v6 (8 : Int32) M4 g_0) (Rc.of C rfl rfl g_0) mw_1193 cvX8_of rfl ⟨Nat.le_of_ble_eq_true rfl, Nat.le_of_ble_eq_true rfl⟩ rfl (Nat.le_of_ble_eq_true rfl) dX8_waiter_47 (fun o7 M6 => ?_)
    refine r_iload_n (pc := 50) C 1 rfl rfl dX8_waiter_50 ?_
    refine r_icmp_ne (pc := 51) C dX8_waiter_51 (tgt := 70) rfl ?_ ?_
    refine r_iconst (pc := 70) C dX8_waiter_70 kc_0 ?_
    exact lX8_waiter_71  (k8 := k8) (k20 := (fun v1 v2 v3 v4 v5 v6 M => pX8_waiter_20  k8 n v1 v2 v3 v4 v5 v6 M)) C hRm h0 hk8 ih  v1 v2 v3 v4 v5 v6 (0 : Int32) M6 g_0
    refine r_aload_n (pc := 54) C 0 rfl rfl dX8_waiter_54 ?_
    refine r_iload (pc := 55) C 6 rfl dX8_waiter_55 ?_
    refine r_bipush (pc := 57) C dX8_waiter_57 kb_18 ?_
    refine r_cVI (pc := 59) C hRm (okX8_of h0 v6 (18 : Int32) M6 g_0) (Rc.of C rfl rfl g_0) mw_1193 cvX8_of rfl ⟨Nat.le_of_ble_eq_true rfl, Nat.le_of_ble_eq_true rfl⟩ rfl (Nat.le_of_ble_eq_true rfl) dX8_waiter_59 (fun o9 M8 => ?_)
    refine r_iload_n (pc := 62) C 3 rfl rfl dX8_waiter_62 ?_
    refine r_icmp_le (pc := 63) C dX8_waiter_63 (tgt := 70) rfl ?_ ?_
    refine r_iconst (pc := 70) C dX8_waiter_70 kc_0 ?_
    exact lX8_waiter_71  (k8 := k8) (k20 := (fun v1 v2 v3 v4 v5 v6 M => pX8_waiter_20  k8 n v1 v2 v3 v4 v5 v6 M)) C hRm h0 hk8 ih  v1 v2 v3 v4 v5 v6 (0 : Int32) M8 g_0
    refine r_iconst (pc := 66) C dX8_waiter_66 kc_1 ?_
    refine r_goto (pc := 67) C dX8_waiter_67 (tgt := 71) rfl ?_
    exact lX8_waiter_71  (k8 := k8) (k20 := (fun v1 v2 v3 v4 v5 v6 M => pX8_waiter_20  k8 n v1 v2 v3 v4 v5 v6 M)) C hRm h0 hk8 ih  v1 v2 v3 v4 v5 v6 (1 : Int32) M8 g_0
def pX8_waiter_8 : Nat → Int32 → Int32 → Int32 → Int32 → Int32 → Mem → Option (Int32 × Mem)
  | 0, _, _, _, _, _, _ => none
  | n + 1, v1, v2, v3, v4, v5, M =>
    if v2 ≤ v5 then (some (v4, M))
    else pX8_waiter_20  (fun v1 v2 v3 v4 v5 M => pX8_waiter_8   n v1 v2 v3 v4 v5 M) fu v1 v2 v3 (-1 : Int32) v5 (0 : Int32) M
theorem lX8_waiter_8 {K : KT} {G : WT} (C : Cx K G "PermitParkModel" cX8_waiter 8 (some FieldType.int)) (hRm : K.2.2.2.1.frames = 1 ∧ K.2.2.2.1.locals = 22) (h0 : W0 G) : ∀ (n : Nat) (v1 : Int32) (v2 : Int32) (v3 : Int32) (v4 : Int32) (v5 : Int32) (M : Mem), G.2.2.2.1 19 0 0 → Run K G 8 0 0 (FinM K G voI 0 0) 8 [(0, .ref (G.1 19 0 0)), (1, .int v1), (2, .int v2), (3, .int v3), (4, .int v4), (5, .int v5)] [] M (pX8_waiter_8   n v1 v2 v3 v4 v5 M) := by
  intro n
  induction n with
  | zero =>
    intro v1 v2 v3 v4 v5 M g_0
    exact r_none
  | succ n ih =>
    intro v1 v2 v3 v4 v5 M g_0
    rw [pX8_waiter_8]
    refine r_iload (pc := 8) C 5 rfl dX8_waiter_8 ?_
    refine r_iload_n (pc := 10) C 2 rfl rfl dX8_waiter_10 ?_
    refine r_icmp_ge (pc := 11) C dX8_waiter_11 (tgt := 141) rfl ?_ ?_
    refine r_iload (pc := 141) C 4 rfl dX8_waiter_141 ?_
    exact r_iret (pc := 143) C rfl dX8_waiter_143
    refine r_iconst (pc := 14) C dX8_waiter_14 kc_m1 ?_
    refine r_istore (pc := 15) C [(4, .int (-1 : Int32)), (0, .ref (G.1 19 0 0)), (1, .int v1), (2, .int v2), (3, .int v3), (5, .int v5)] dX8_waiter_15 (by decide) rfl ?_
    refine r_iconst (pc := 17) C dX8_waiter_17 kc_0 ?_
    refine r_istore (pc := 18) C [(6, .int (0 : Int32)), (4, .int (-1 : Int32)), (0, .ref (G.1 19 0 0)), (1, .int v1), (2, .int v2), (3, .int v3), (5, .int v5)] dX8_waiter_18 (by decide) rfl ?_
    refine r_sub [2, 3, 4, 5, 1, 6, 0] rfl ?_
    exact lX8_waiter_20  (k8 := (fun v1 v2 v3 v4 v5 M => pX8_waiter_8   n v1 v2 v3 v4 v5 M)) C hRm h0 ih fu v1 v2 v3 (-1 : Int32) v5 (0 : Int32) M g_0
def pX8_waiter (v1 : Int32) (v2 : Int32) (M : Mem) : Option (Int32 × Mem) :=
    pX8_waiter_8   fu v1 v2 (-1 : Int32) (-1 : Int32) (0 : Int32) M
theorem lX8_waiter_0 {K : KT} {G : WT} (C : Cx K G "PermitParkModel" cX8_waiter 8 (some FieldType.int)) (hRm : K.2.2.2.1.frames = 1 ∧ K.2.2.2.1.locals = 22) (h0 : W0 G) (v1 : Int32) (v2 : Int32) (M : Mem) (h_0 : G.2.2.2.1 19 0 0) : Run K G 8 0 0 (FinM K G voI 0 0) 0 [(0, .ref (G.1 19 0 0)), (1, .int v1), (2, .int v2)] [] M (pX8_waiter   v1 v2 M) := by
  rw [pX8_waiter]
  refine r_iconst (pc := 0) C dX8_waiter_0 kc_m1 ?_
  refine r_istore_n (pc := 1) C [(3, .int (-1 : Int32)), (0, .ref (G.1 19 0 0)), (1, .int v1), (2, .int v2)] dX8_waiter_1 rfl (by decide) rfl ?_
  refine r_iconst (pc := 2) C dX8_waiter_2 kc_m1 ?_
  refine r_istore (pc := 3) C [(4, .int (-1 : Int32)), (3, .int (-1 : Int32)), (0, .ref (G.1 19 0 0)), (1, .int v1), (2, .int v2)] dX8_waiter_3 (by decide) rfl ?_
  refine r_iconst (pc := 5) C dX8_waiter_5 kc_0 ?_
  refine r_istore (pc := 6) C [(5, .int (0 : Int32)), (4, .int (-1 : Int32)), (3, .int (-1 : Int32)), (0, .ref (G.1 19 0 0)), (1, .int v1), (2, .int v2)] dX8_waiter_6 (by decide) rfl ?_
  refine r_sub [3, 4, 5, 2, 1, 0] rfl ?_
  exact lX8_waiter_8   C hRm h0  fu v1 v2 (-1 : Int32) (-1 : Int32) (0 : Int32) M h_0
theorem okX8_waiter {l : Launch} {G : WT} (h0 : W0 G) (v1 : Int32) (v2 : Int32) (M : Mem) (h_0 : G.2.2.2.1 19 0 0) : Okm l G yX8_waiter cX8_waiter 8 (some FieldType.int) 1 22 [.ref (G.1 19 0 0), .int v1, .int v2] voI M (pX8_waiter  v1 v2 M) :=
  Okm.of "PermitParkModel" rfl (by decide) (Nat.le_of_ble_eq_true rfl) (L := [(0, .ref (G.1 19 0 0)), (1, .int v1), (2, .int v2)]) rfl (fun K _ hr C => lX8_waiter_0 C (by rw [hr]; exact ⟨rfl, rfl⟩) h0 v1 v2 M h_0)
def pX8_lock_18 (M : Mem) : Option (Int32 × Mem) :=
    bnd (pX8_fail (1 : Int32) M) fun o2 M1 => some (o2, M1)
theorem lX8_lock_18 {K : KT} {G : WT} (C : Cx K G "PermitParkModel" cX8_lock 3 (some FieldType.int)) (hRm : K.2.2.2.1.frames = 2 ∧ K.2.2.2.1.locals = 49) (h0 : W0 G) (M : Mem) (g_0 : G.2.2.2.1 19 0 0) : Run K G 3 0 0 (FinM K G voI 0 0) 18 [(0, .ref (G.1 19 0 0))] [] M (pX8_lock_18    M) := by
  rw [pX8_lock_18]
  refine r_aload_n (pc := 18) C 0 rfl rfl dX8_lock_18 ?_
  refine r_iconst (pc := 19) C dX8_lock_19 kc_1 ?_
  refine r_cVI (pc := 20) C hRm (okX8_fail h0 (1 : Int32) M g_0) (Rc.of C rfl rfl g_0) mw_1084 cvX8_fail rfl ⟨Nat.le_of_ble_eq_true rfl, Nat.le_of_ble_eq_true rfl⟩ rfl (Nat.le_of_ble_eq_true rfl) dX8_lock_20 (fun o2 M1 => ?_)
  exact r_iret (pc := 23) C rfl dX8_lock_23
def pX8_lock (v1 : Int32) (v2 : Int32) (M : Mem) : Option (Int32 × Mem) :=
    nm (wI M 19 0 0 7 (0 : Int32)) fun M1 => bnd (pX8_isBetween v1 (0 : Int32) (5 : Int32) M1) fun o3 M2 => if o3 = 0 then (pX8_lock_18    M2)
    else if 0 ≤ v2 then (if ¬ v2 = 0 then (if v2 ≤ (10 : Int32) then (bnd (pX8_waiter v1 v2 M2) fun o5 M4 => some (o5, M4))
    else some ((-1 : Int32), M2))
    else chk (inB ((14 : Int32) + v1) 700) <| some ((M2.1 20 0 0 ((14 : Int32) + v1).toNatClampNeg), M2))
    else pX8_lock_18    M2
theorem lX8_lock_0 {K : KT} {G : WT} (C : Cx K G "PermitParkModel" cX8_lock 3 (some FieldType.int)) (hRm : K.2.2.2.1.frames = 2 ∧ K.2.2.2.1.locals = 49) (h0 : W0 G) (v1 : Int32) (v2 : Int32) (M : Mem) (h_0 : G.2.2.2.1 19 0 0) : Run K G 3 0 0 (FinM K G voI 0 0) 0 [(0, .ref (G.1 19 0 0)), (1, .int v1), (2, .int v2)] [] M (pX8_lock   v1 v2 M) := by
  rw [pX8_lock]
  refine r_aload_n (pc := 0) C 0 rfl rfl dX8_lock_0 ?_
  refine r_iconst (pc := 1) C dX8_lock_1 kc_0 ?_
  refine r_putI (pc := 2) C FX8_thrown mw_1019 h_0 tyX8 tyX8_ok nmX8 (fun _ _ => rfl) rfl dX8_lock_2 (fun M1 => ?_)
  refine r_iload_n (pc := 5) C 1 rfl rfl dX8_lock_5 ?_
  refine r_iconst (pc := 6) C dX8_lock_6 kc_0 ?_
  refine r_iconst (pc := 7) C dX8_lock_7 kc_5 ?_
  refine r_cSI (pc := 8) C hRm (okX8_isBetween h0 v1 (0 : Int32) (5 : Int32) M1 ) mw_1092 cvX8_isBetween rfl ⟨Nat.le_of_ble_eq_true rfl, Nat.le_of_ble_eq_true rfl⟩ rfl (Nat.le_of_ble_eq_true rfl) dX8_lock_8 (fun o3 M2 => ?_)
  refine r_if_eq (pc := 11) C dX8_lock_11 (tgt := 18) rfl ?_ ?_
  refine r_sub [0] rfl ?_
  exact lX8_lock_18   C hRm h0   M2 h_0
  refine r_iload_n (pc := 14) C 2 rfl rfl dX8_lock_14 ?_
  refine r_if_ge (pc := 15) C dX8_lock_15 (tgt := 24) rfl ?_ ?_
  refine r_iload_n (pc := 24) C 2 rfl rfl dX8_lock_24 ?_
  refine r_if_ne (pc := 25) C dX8_lock_25 (tgt := 40) rfl ?_ ?_
  refine r_iload_n (pc := 40) C 2 rfl rfl dX8_lock_40 ?_
  refine r_bipush (pc := 41) C dX8_lock_41 kb_10 ?_
  refine r_icmp_le (pc := 43) C dX8_lock_43 (tgt := 50) rfl ?_ ?_
  refine r_aload_n (pc := 50) C 0 rfl rfl dX8_lock_50 ?_
  refine r_iload_n (pc := 51) C 1 rfl rfl dX8_lock_51 ?_
  refine r_iload_n (pc := 52) C 2 rfl rfl dX8_lock_52 ?_
  refine r_cVI (pc := 53) C hRm (okX8_waiter h0 v1 v2 M2 h_0) (Rc.of C rfl rfl h_0) mw_1304 cvX8_waiter rfl ⟨Nat.le_of_ble_eq_true rfl, Nat.le_of_ble_eq_true rfl⟩ rfl (Nat.le_of_ble_eq_true rfl) dX8_lock_53 (fun o5 M4 => ?_)
  exact r_iret (pc := 56) C rfl dX8_lock_56
  refine r_iconst (pc := 46) C dX8_lock_46 kc_m1 ?_
  refine r_goto (pc := 47) C dX8_lock_47 (tgt := 56) rfl ?_
  exact r_iret (pc := 56) C rfl dX8_lock_56
  refine r_aload_n (pc := 28) C 0 rfl rfl dX8_lock_28 ?_
  refine r_getR (pc := 29) C FX8_state mw_1012 h_0 rfl dX8_lock_29 (fun g6 => ?_)
  refine r_bipush (pc := 32) C dX8_lock_32 kb_14 ?_
  refine r_iload_n (pc := 34) C 1 rfl rfl dX8_lock_34 ?_
  refine r_iadd (pc := 35) C dX8_lock_35 ?_
  refine r_iald (pc := 36) C rfl g6 (fun _ => rfl) (fun _ => rfl) dX8_lock_36 ?_
  refine r_goto (pc := 37) C dX8_lock_37 (tgt := 56) rfl ?_
  exact r_iret (pc := 56) C rfl dX8_lock_56
  refine r_sub [0] rfl ?_
  exact lX8_lock_18   C hRm h0   M2 h_0
theorem okX8_lock {l : Launch} {G : WT} (h0 : W0 G) (v1 : Int32) (v2 : Int32) (M : Mem) (h_0 : G.2.2.2.1 19 0 0) : Okm l G yX8_lock cX8_lock 3 (some FieldType.int) 2 49 [.ref (G.1 19 0 0), .int v1, .int v2] voI M (pX8_lock  v1 v2 M) :=
  Okm.of "PermitParkModel" rfl (by decide) (Nat.le_of_ble_eq_true rfl) (L := [(0, .ref (G.1 19 0 0)), (1, .int v1), (2, .int v2)]) rfl (fun K _ hr C => lX8_lock_0 C (by rw [hr]; exact ⟨rfl, rfl⟩) h0 v1 v2 M h_0)
def pX8_flag_16 (v1 : Int32) (s0 : Int32) (M : Mem) : Option (Int32 × Mem) :=
    nm (wI M 19 0 0 7 s0) fun M1 => if ¬ (M1.1 19 0 0 7) = 0 then (chk (decide ((0 : Int32) = 0 ∨ (0 : Int32) = 1)) (some ((0 : Int32), M1)))
    else bnd (pX8_isOn v1 M1) fun o3 M2 => if o3 = 0 then (chk (decide ((0 : Int32) = 0 ∨ (0 : Int32) = 1)) (some ((0 : Int32), M2)))
    else chk (decide ((1 : Int32) = 0 ∨ (1 : Int32) = 1)) (some ((1 : Int32), M2))
theorem lX8_flag_16 {K : KT} {G : WT} (C : Cx K G "PermitParkModel" cX8_flag 2 (some FieldType.boolean)) (hRm : K.2.2.2.1.frames = 1 ∧ K.2.2.2.1.locals = 22) (h0 : W0 G) (v1 : Int32) (s0 : Int32) (M : Mem) (g_0 : G.2.2.2.1 19 0 0) (g_s1 : G.2.2.2.1 19 0 0) : Run K G 2 0 0 (FinM K G voI 0 0) 16 [(0, .ref (G.1 19 0 0)), (1, .int v1)] [.int s0, .ref (G.1 19 0 0)] M (pX8_flag_16   v1 s0 M) := by
  rw [pX8_flag_16]
  refine r_putI (pc := 16) C FX8_thrown mw_1019 g_s1 tyX8 tyX8_ok nmX8 (fun _ _ => rfl) rfl dX8_flag_16 (fun M1 => ?_)
  refine r_aload_n (pc := 19) C 0 rfl rfl dX8_flag_19 ?_
  refine r_getI (pc := 20) C FX8_thrown mw_1019 g_s1 rfl rfl dX8_flag_20 ?_
  refine r_if_ne (pc := 23) C dX8_flag_23 (tgt := 38) rfl ?_ ?_
  refine r_iconst (pc := 38) C dX8_flag_38 kc_0 ?_
  exact r_zret (pc := 39) C dX8_flag_39
  refine r_aload_n (pc := 26) C 0 rfl rfl dX8_flag_26 ?_
  refine r_iload_n (pc := 27) C 1 rfl rfl dX8_flag_27 ?_
  refine r_cVI (pc := 28) C hRm (okX8_isOn h0 v1 M1 g_s1) (Rc.of C rfl rfl g_s1) mw_1213 cvX8_isOn rfl ⟨Nat.le_of_ble_eq_true rfl, Nat.le_of_ble_eq_true rfl⟩ rfl (Nat.le_of_ble_eq_true rfl) dX8_flag_28 (fun o3 M2 => ?_)
  refine r_if_eq (pc := 31) C dX8_flag_31 (tgt := 38) rfl ?_ ?_
  refine r_iconst (pc := 38) C dX8_flag_38 kc_0 ?_
  exact r_zret (pc := 39) C dX8_flag_39
  refine r_iconst (pc := 34) C dX8_flag_34 kc_1 ?_
  refine r_goto (pc := 35) C dX8_flag_35 (tgt := 39) rfl ?_
  exact r_zret (pc := 39) C dX8_flag_39
def pX8_flag (v1 : Int32) (M : Mem) : Option (Int32 × Mem) :=
    bnd (pX8_isBetween v1 (0 : Int32) (7 : Int32) M) fun o2 M1 => if o2 = 0 then (pX8_flag_16    v1 (1 : Int32) M1)
    else pX8_flag_16    v1 (0 : Int32) M1
theorem lX8_flag_0 {K : KT} {G : WT} (C : Cx K G "PermitParkModel" cX8_flag 2 (some FieldType.boolean)) (hRm : K.2.2.2.1.frames = 1 ∧ K.2.2.2.1.locals = 22) (h0 : W0 G) (v1 : Int32) (M : Mem) (h_0 : G.2.2.2.1 19 0 0) : Run K G 2 0 0 (FinM K G voI 0 0) 0 [(0, .ref (G.1 19 0 0)), (1, .int v1)] [] M (pX8_flag   v1 M) := by
  rw [pX8_flag]
  refine r_aload_n (pc := 0) C 0 rfl rfl dX8_flag_0 ?_
  refine r_iload_n (pc := 1) C 1 rfl rfl dX8_flag_1 ?_
  refine r_iconst (pc := 2) C dX8_flag_2 kc_0 ?_
  refine r_bipush (pc := 3) C dX8_flag_3 kb_7 ?_
  refine r_cSI (pc := 5) C hRm (okX8_isBetween h0 v1 (0 : Int32) (7 : Int32) M ) mw_1092 cvX8_isBetween rfl ⟨Nat.le_of_ble_eq_true rfl, Nat.le_of_ble_eq_true rfl⟩ rfl (Nat.le_of_ble_eq_true rfl) dX8_flag_5 (fun o2 M1 => ?_)
  refine r_if_eq (pc := 8) C dX8_flag_8 (tgt := 15) rfl ?_ ?_
  refine r_iconst (pc := 15) C dX8_flag_15 kc_1 ?_
  exact lX8_flag_16   C hRm h0   v1 (1 : Int32) M1 h_0 h_0
  refine r_iconst (pc := 11) C dX8_flag_11 kc_0 ?_
  refine r_goto (pc := 12) C dX8_flag_12 (tgt := 16) rfl ?_
  exact lX8_flag_16   C hRm h0   v1 (0 : Int32) M1 h_0 h_0
theorem okX8_flag {l : Launch} {G : WT} (h0 : W0 G) (v1 : Int32) (M : Mem) (h_0 : G.2.2.2.1 19 0 0) : Okm l G yX8_flag cX8_flag 2 (some FieldType.boolean) 1 22 [.ref (G.1 19 0 0), .int v1] voI M (pX8_flag  v1 M) :=
  Okm.of "PermitParkModel" rfl (by decide) (Nat.le_of_ble_eq_true rfl) (L := [(0, .ref (G.1 19 0 0)), (1, .int v1)]) rfl (fun K _ hr C => lX8_flag_0 C (by rw [hr]; exact ⟨rfl, rfl⟩) h0 v1 M h_0)
def pX8_note_64 (v1 : Int32) (v2 : Int32) (v3 : Int32) (M : Mem) : Option (Unit × Mem) :=
    chk (inB (7 : Int32) 700) <| nm ((540 : Int32) + ((4 : Int32) * (M.1 20 0 0 (7 : Int32).toNatClampNeg))) fun x2 => chk (inB (3 : Int32) 700) <| chk (inB x2 700) <| nm (wI M 20 0 0 x2.toNatClampNeg (M.1 20 0 0 (3 : Int32).toNatClampNeg)) fun M5 => chk (inB (x2 + (1 : Int32)) 700) <| nm (wI M5 20 0 0 (x2 + (1 : Int32)).toNatClampNeg v1) fun M7 => chk (inB (x2 + (2 : Int32)) 700) <| nm (wI M7 20 0 0 (x2 + (2 : Int32)).toNatClampNeg v2) fun M9 => chk (inB (x2 + (3 : Int32)) 700) <| nm (wI M9 20 0 0 (x2 + (3 : Int32)).toNatClampNeg v3) fun M11 => chk (inB (7 : Int32) 700) <| chk (inB (7 : Int32) 700) <| nm (wI M11 20 0 0 (7 : Int32).toNatClampNeg ((M11.1 20 0 0 (7 : Int32).toNatClampNeg) + (1 : Int32))) fun M13 => chk (inB (13 : Int32) 700) <| chk (inB (13 : Int32) 700) <| nm (wI M13 20 0 0 (13 : Int32).toNatClampNeg ((M13.1 20 0 0 (13 : Int32).toNatClampNeg) + (1 : Int32))) fun M15 => some ((), M15)
theorem lX8_note_64 {K : KT} {G : WT} (C : Cx K G "PermitParkModel" cX8_note 5 none) (hRm : K.2.2.2.1.frames = 0 ∧ K.2.2.2.1.locals = 0) (h0 : W0 G) (v1 : Int32) (v2 : Int32) (v3 : Int32) (M : Mem) (g_0 : G.2.2.2.1 19 0 0) : Run K G 5 0 0 (FinM K G voV 0 0) 64 [(0, .ref (G.1 19 0 0)), (1, .int v1), (2, .int v2), (3, .int v3)] [] M (pX8_note_64   v1 v2 v3 M) := by
  rw [pX8_note_64]
  refine r_sipush (pc := 64) C dX8_note_64 ks_540 ?_
  refine r_iconst (pc := 67) C dX8_note_67 kc_4 ?_
  refine r_aload_n (pc := 68) C 0 rfl rfl dX8_note_68 ?_
  refine r_getR (pc := 69) C FX8_state mw_1012 g_0 rfl dX8_note_69 (fun g1 => ?_)
  refine r_bipush (pc := 72) C dX8_note_72 kb_7 ?_
  refine r_iald (pc := 74) C rfl g1 (fun _ => rfl) (fun _ => rfl) dX8_note_74 ?_
  refine r_imul (pc := 75) C dX8_note_75 ?_
  refine r_iadd (pc := 76) C dX8_note_76 ?_
  refine r_nmi (fun x2 => ?_)
  refine r_istore (pc := 77) C [(4, .int x2), (0, .ref (G.1 19 0 0)), (1, .int v1), (2, .int v2), (3, .int v3)] dX8_note_77 (by decide) rfl ?_
  refine r_aload_n (pc := 79) C 1 rfl rfl dX8_note_79 ?_
  refine r_getR (pc := 80) C FX8_state mw_1012 g_0 rfl dX8_note_80 (fun g3 => ?_)
  refine r_iload (pc := 83) C 0 rfl dX8_note_83 ?_
  refine r_aload_n (pc := 85) C 1 rfl rfl dX8_note_85 ?_
  refine r_getR (pc := 86) C FX8_state mw_1012 g_0 rfl dX8_note_86 (fun g4 => ?_)
  refine r_iconst (pc := 89) C dX8_note_89 kc_3 ?_
  refine r_iald (pc := 90) C rfl g1 (fun _ => rfl) (fun _ => rfl) dX8_note_90 ?_
  refine r_iast (pc := 91) C rfl g1 (fun _ => rfl) (fun _ => rfl) dX8_note_91 (fun M5 => ?_)
  refine r_aload_n (pc := 92) C 1 rfl rfl dX8_note_92 ?_
  refine r_getR (pc := 93) C FX8_state mw_1012 g_0 rfl dX8_note_93 (fun g6 => ?_)
  refine r_iload (pc := 96) C 0 rfl dX8_note_96 ?_
  refine r_iconst (pc := 98) C dX8_note_98 kc_1 ?_
  refine r_iadd (pc := 99) C dX8_note_99 ?_
  refine r_iload_n (pc := 100) C 2 rfl rfl dX8_note_100 ?_
  refine r_iast (pc := 101) C rfl g1 (fun _ => rfl) (fun _ => rfl) dX8_note_101 (fun M7 => ?_)
  refine r_aload_n (pc := 102) C 1 rfl rfl dX8_note_102 ?_
  refine r_getR (pc := 103) C FX8_state mw_1012 g_0 rfl dX8_note_103 (fun g8 => ?_)
  refine r_iload (pc := 106) C 0 rfl dX8_note_106 ?_
  refine r_iconst (pc := 108) C dX8_note_108 kc_2 ?_
  refine r_iadd (pc := 109) C dX8_note_109 ?_
  refine r_iload_n (pc := 110) C 3 rfl rfl dX8_note_110 ?_
  refine r_iast (pc := 111) C rfl g1 (fun _ => rfl) (fun _ => rfl) dX8_note_111 (fun M9 => ?_)
  refine r_aload_n (pc := 112) C 1 rfl rfl dX8_note_112 ?_
  refine r_getR (pc := 113) C FX8_state mw_1012 g_0 rfl dX8_note_113 (fun g10 => ?_)
  refine r_iload (pc := 116) C 0 rfl dX8_note_116 ?_
  refine r_iconst (pc := 118) C dX8_note_118 kc_3 ?_
  refine r_iadd (pc := 119) C dX8_note_119 ?_
  refine r_iload_n (pc := 120) C 4 rfl rfl dX8_note_120 ?_
  refine r_iast (pc := 121) C rfl g1 (fun _ => rfl) (fun _ => rfl) dX8_note_121 (fun M11 => ?_)
  refine r_aload_n (pc := 122) C 1 rfl rfl dX8_note_122 ?_
  refine r_getR (pc := 123) C FX8_state mw_1012 g_0 rfl dX8_note_123 (fun g12 => ?_)
  refine r_bipush (pc := 126) C dX8_note_126 kb_7 ?_
  refine r_dup2_11 (pc := 128) C dX8_note_128 rfl rfl ?_
  refine r_iald (pc := 129) C rfl g1 (fun _ => rfl) (fun _ => rfl) dX8_note_129 ?_
  refine r_iconst (pc := 130) C dX8_note_130 kc_1 ?_
  refine r_iadd (pc := 131) C dX8_note_131 ?_
  refine r_iast (pc := 132) C rfl g1 (fun _ => rfl) (fun _ => rfl) dX8_note_132 (fun M13 => ?_)
  refine r_aload_n (pc := 133) C 1 rfl rfl dX8_note_133 ?_
  refine r_getR (pc := 134) C FX8_state mw_1012 g_0 rfl dX8_note_134 (fun g14 => ?_)
  refine r_bipush (pc := 137) C dX8_note_137 kb_13 ?_
  refine r_dup2_11 (pc := 139) C dX8_note_139 rfl rfl ?_
  refine r_iald (pc := 140) C rfl g1 (fun _ => rfl) (fun _ => rfl) dX8_note_140 ?_
  refine r_iconst (pc := 141) C dX8_note_141 kc_1 ?_
  refine r_iadd (pc := 142) C dX8_note_142 ?_
  refine r_iast (pc := 143) C rfl g1 (fun _ => rfl) (fun _ => rfl) dX8_note_143 (fun M15 => ?_)
  exact r_vret (pc := 144) C dX8_note_144
def pX8_note_15 : Nat → Int32 → Int32 → Int32 → Int32 → Mem → Option (Unit × Mem)
  | 0, _, _, _, _, _ => none
  | n + 1, v1, v2, v3, v4, M =>
    if (156 : Int32) ≤ v4 then (chk (inB (7 : Int32) 700) <| chk (inB (7 : Int32) 700) <| nm (wI M 20 0 0 (7 : Int32).toNatClampNeg ((M.1 20 0 0 (7 : Int32).toNatClampNeg) - (1 : Int32))) fun M2 => pX8_note_64    v1 v2 v3 M2)
    else chk (inB (((540 : Int32) + v4) + (4 : Int32)) 700) <| chk (inB ((540 : Int32) + v4) 700) <| nm (wI M 20 0 0 ((540 : Int32) + v4).toNatClampNeg (M.1 20 0 0 (((540 : Int32) + v4) + (4 : Int32)).toNatClampNeg)) fun M5 => pX8_note_15   n v1 v2 v3 (v4 + (1 : Int32)) M5
theorem lX8_note_15 {K : KT} {G : WT} (C : Cx K G "PermitParkModel" cX8_note 5 none) (hRm : K.2.2.2.1.frames = 0 ∧ K.2.2.2.1.locals = 0) (h0 : W0 G) : ∀ (n : Nat) (v1 : Int32) (v2 : Int32) (v3 : Int32) (v4 : Int32) (M : Mem), G.2.2.2.1 19 0 0 → Run K G 5 0 0 (FinM K G voV 0 0) 15 [(0, .ref (G.1 19 0 0)), (1, .int v1), (2, .int v2), (3, .int v3), (4, .int v4)] [] M (pX8_note_15   n v1 v2 v3 v4 M) := by
  intro n
  induction n with
  | zero =>
    intro v1 v2 v3 v4 M g_0
    exact r_none
  | succ n ih =>
    intro v1 v2 v3 v4 M g_0
    rw [pX8_note_15]
    refine r_iload (pc := 15) C 4 rfl dX8_note_15 ?_
    refine r_sipush (pc := 17) C dX8_note_17 ks_156 ?_
    refine r_icmp_ge (pc := 20) C dX8_note_20 (tgt := 53) rfl ?_ ?_
    refine r_aload_n (pc := 53) C 0 rfl rfl dX8_note_53 ?_
    refine r_getR (pc := 54) C FX8_state mw_1012 g_0 rfl dX8_note_54 (fun g1 => ?_)
    refine r_bipush (pc := 57) C dX8_note_57 kb_7 ?_
    refine r_dup2_11 (pc := 59) C dX8_note_59 rfl rfl ?_
    refine r_iald (pc := 60) C rfl g1 (fun _ => rfl) (fun _ => rfl) dX8_note_60 ?_
    refine r_iconst (pc := 61) C dX8_note_61 kc_1 ?_
    refine r_isub (pc := 62) C dX8_note_62 ?_
    refine r_iast (pc := 63) C rfl g1 (fun _ => rfl) (fun _ => rfl) dX8_note_63 (fun M2 => ?_)
    refine r_sub [0, 1, 2, 3] rfl ?_
    exact lX8_note_64   C hRm h0   v1 v2 v3 M2 g_0
    refine r_aload_n (pc := 23) C 0 rfl rfl dX8_note_23 ?_
    refine r_getR (pc := 24) C FX8_state mw_1012 g_0 rfl dX8_note_24 (fun g3 => ?_)
    refine r_sipush (pc := 27) C dX8_note_27 ks_540 ?_
    refine r_iload (pc := 30) C 4 rfl dX8_note_30 ?_
    refine r_iadd (pc := 32) C dX8_note_32 ?_
    refine r_aload_n (pc := 33) C 0 rfl rfl dX8_note_33 ?_
    refine r_getR (pc := 34) C FX8_state mw_1012 g_0 rfl dX8_note_34 (fun g4 => ?_)
    refine r_sipush (pc := 37) C dX8_note_37 ks_540 ?_
    refine r_iload (pc := 40) C 4 rfl dX8_note_40 ?_
    refine r_iadd (pc := 42) C dX8_note_42 ?_
    refine r_iconst (pc := 43) C dX8_note_43 kc_4 ?_
    refine r_iadd (pc := 44) C dX8_note_44 ?_
    refine r_iald (pc := 45) C rfl g3 (fun _ => rfl) (fun _ => rfl) dX8_note_45 ?_
    refine r_iast (pc := 46) C rfl g3 (fun _ => rfl) (fun _ => rfl) dX8_note_46 (fun M5 => ?_)
    refine r_iinc (pc := 47) C [(4, .int (v4 + (1 : Int32))), (0, .ref (G.1 19 0 0)), (1, .int v1), (2, .int v2), (3, .int v3)] dX8_note_47 (p := 4) rfl (ki_1 _) (by decide) rfl ?_
    refine r_goto (pc := 50) C dX8_note_50 (tgt := 15) rfl ?_
    refine r_sub [1, 2, 3, 4, 0] rfl ?_
    exact ih v1 v2 v3 (v4 + (1 : Int32)) M5 g_0
def pX8_note (v1 : Int32) (v2 : Int32) (v3 : Int32) (M : Mem) : Option (Unit × Mem) :=
    chk (inB (7 : Int32) 700) <| if ¬ (M.1 20 0 0 (7 : Int32).toNatClampNeg) = (40 : Int32) then (pX8_note_64    v1 v2 v3 M)
    else pX8_note_15   fu v1 v2 v3 (0 : Int32) M
theorem lX8_note_0 {K : KT} {G : WT} (C : Cx K G "PermitParkModel" cX8_note 5 none) (hRm : K.2.2.2.1.frames = 0 ∧ K.2.2.2.1.locals = 0) (h0 : W0 G) (v1 : Int32) (v2 : Int32) (v3 : Int32) (M : Mem) (h_0 : G.2.2.2.1 19 0 0) : Run K G 5 0 0 (FinM K G voV 0 0) 0 [(0, .ref (G.1 19 0 0)), (1, .int v1), (2, .int v2), (3, .int v3)] [] M (pX8_note   v1 v2 v3 M) := by
  rw [pX8_note]
  refine r_aload_n (pc := 0) C 0 rfl rfl dX8_note_0 ?_
  refine r_getR (pc := 1) C FX8_state mw_1012 h_0 rfl dX8_note_1 (fun g1 => ?_)
  refine r_bipush (pc := 4) C dX8_note_4 kb_7 ?_
  refine r_iald (pc := 6) C rfl g1 (fun _ => rfl) (fun _ => rfl) dX8_note_6 ?_
  refine r_bipush (pc := 7) C dX8_note_7 kb_40 ?_
  refine r_icmp_ne (pc := 9) C dX8_note_9 (tgt := 64) rfl ?_ ?_
  exact lX8_note_64   C hRm h0   v1 v2 v3 M h_0
  refine r_iconst (pc := 12) C dX8_note_12 kc_0 ?_
  refine r_istore (pc := 13) C [(4, .int (0 : Int32)), (0, .ref (G.1 19 0 0)), (1, .int v1), (2, .int v2), (3, .int v3)] dX8_note_13 (by decide) rfl ?_
  refine r_sub [1, 2, 3, 4, 0] rfl ?_
  exact lX8_note_15   C hRm h0  fu v1 v2 v3 (0 : Int32) M h_0
theorem okX8_note {l : Launch} {G : WT} (h0 : W0 G) (v1 : Int32) (v2 : Int32) (v3 : Int32) (M : Mem) (h_0 : G.2.2.2.1 19 0 0) : Okm l G yX8_note cX8_note 5 none 0 0 [.ref (G.1 19 0 0), .int v1, .int v2, .int v3] voV M (pX8_note  v1 v2 v3 M) :=
  Okm.of "PermitParkModel" rfl (by decide) (Nat.le_of_ble_eq_true rfl) (L := [(0, .ref (G.1 19 0 0)), (1, .int v1), (2, .int v2), (3, .int v3)]) rfl (fun K _ hr C => lX8_note_0 C (by rw [hr]; exact ⟨rfl, rfl⟩) h0 v1 v2 v3 M h_0)
def pX8_event (v1 : Int32) (v2 : Int32) (M : Mem) : Option (Int32 × Mem) :=
    nm (wI M 19 0 0 7 (0 : Int32)) fun M1 => chk (inB (7 : Int32) 700) <| bnd (pX8_isBetween v1 (0 : Int32) ((M1.1 20 0 0 (7 : Int32).toNatClampNeg) - (1 : Int32)) M1) fun o4 M3 => if ¬ o4 = 0 then (bnd (pX8_isBetween v2 (0 : Int32) (3 : Int32) M3) fun o6 M5 => if o6 = 0 then (bnd (pX8_fail (2 : Int32) M5) fun o8 M7 => some (o8, M7))
    else chk (inB (((540 : Int32) + ((4 : Int32) * v1)) + v2) 700) <| some ((M5.1 20 0 0 (((540 : Int32) + ((4 : Int32) * v1)) + v2).toNatClampNeg), M5))
    else bnd (pX8_fail (1 : Int32) M3) fun o11 M10 => some (o11, M10)
theorem lX8_event_0 {K : KT} {G : WT} (C : Cx K G "PermitParkModel" cX8_event 3 (some FieldType.int)) (hRm : K.2.2.2.1.frames = 1 ∧ K.2.2.2.1.locals = 22) (h0 : W0 G) (v1 : Int32) (v2 : Int32) (M : Mem) (h_0 : G.2.2.2.1 19 0 0) : Run K G 3 0 0 (FinM K G voI 0 0) 0 [(0, .ref (G.1 19 0 0)), (1, .int v1), (2, .int v2)] [] M (pX8_event   v1 v2 M) := by
  rw [pX8_event]
  refine r_aload_n (pc := 0) C 0 rfl rfl dX8_event_0 ?_
  refine r_iconst (pc := 1) C dX8_event_1 kc_0 ?_
  refine r_putI (pc := 2) C FX8_thrown mw_1019 h_0 tyX8 tyX8_ok nmX8 (fun _ _ => rfl) rfl dX8_event_2 (fun M1 => ?_)
  refine r_iload_n (pc := 5) C 1 rfl rfl dX8_event_5 ?_
  refine r_iconst (pc := 6) C dX8_event_6 kc_0 ?_
  refine r_aload_n (pc := 7) C 0 rfl rfl dX8_event_7 ?_
  refine r_getR (pc := 8) C FX8_state mw_1012 h_0 rfl dX8_event_8 (fun g2 => ?_)
  refine r_bipush (pc := 11) C dX8_event_11 kb_7 ?_
  refine r_iald (pc := 13) C rfl g2 (fun _ => rfl) (fun _ => rfl) dX8_event_13 ?_
  refine r_iconst (pc := 14) C dX8_event_14 kc_1 ?_
  refine r_isub (pc := 15) C dX8_event_15 ?_
  refine r_cSI (pc := 16) C hRm (okX8_isBetween h0 v1 (0 : Int32) ((M1.1 20 0 0 (7 : Int32).toNatClampNeg) - (1 : Int32)) M1 ) mw_1092 cvX8_isBetween rfl ⟨Nat.le_of_ble_eq_true rfl, Nat.le_of_ble_eq_true rfl⟩ rfl (Nat.le_of_ble_eq_true rfl) dX8_event_16 (fun o4 M3 => ?_)
  refine r_if_ne (pc := 19) C dX8_event_19 (tgt := 28) rfl ?_ ?_
  refine r_iload_n (pc := 28) C 2 rfl rfl dX8_event_28 ?_
  refine r_iconst (pc := 29) C dX8_event_29 kc_0 ?_
  refine r_iconst (pc := 30) C dX8_event_30 kc_3 ?_
  refine r_cSI (pc := 31) C hRm (okX8_isBetween h0 v2 (0 : Int32) (3 : Int32) M3 ) mw_1092 cvX8_isBetween rfl ⟨Nat.le_of_ble_eq_true rfl, Nat.le_of_ble_eq_true rfl⟩ rfl (Nat.le_of_ble_eq_true rfl) dX8_event_31 (fun o6 M5 => ?_)
  refine r_if_eq (pc := 34) C dX8_event_34 (tgt := 54) rfl ?_ ?_
  refine r_aload_n (pc := 54) C 0 rfl rfl dX8_event_54 ?_
  refine r_iconst (pc := 55) C dX8_event_55 kc_2 ?_
  refine r_cVI (pc := 56) C hRm (okX8_fail h0 (2 : Int32) M5 h_0) (Rc.of C rfl rfl h_0) mw_1084 cvX8_fail rfl ⟨Nat.le_of_ble_eq_true rfl, Nat.le_of_ble_eq_true rfl⟩ rfl (Nat.le_of_ble_eq_true rfl) dX8_event_56 (fun o8 M7 => ?_)
  exact r_iret (pc := 59) C rfl dX8_event_59
  refine r_aload_n (pc := 37) C 0 rfl rfl dX8_event_37 ?_
  refine r_getR (pc := 38) C FX8_state mw_1012 h_0 rfl dX8_event_38 (fun g9 => ?_)
  refine r_sipush (pc := 41) C dX8_event_41 ks_540 ?_
  refine r_iconst (pc := 44) C dX8_event_44 kc_4 ?_
  refine r_iload_n (pc := 45) C 1 rfl rfl dX8_event_45 ?_
  refine r_imul (pc := 46) C dX8_event_46 ?_
  refine r_iadd (pc := 47) C dX8_event_47 ?_
  refine r_iload_n (pc := 48) C 2 rfl rfl dX8_event_48 ?_
  refine r_iadd (pc := 49) C dX8_event_49 ?_
  refine r_iald (pc := 50) C rfl g2 (fun _ => rfl) (fun _ => rfl) dX8_event_50 ?_
  refine r_goto (pc := 51) C dX8_event_51 (tgt := 59) rfl ?_
  exact r_iret (pc := 59) C rfl dX8_event_59
  refine r_aload_n (pc := 22) C 0 rfl rfl dX8_event_22 ?_
  refine r_iconst (pc := 23) C dX8_event_23 kc_1 ?_
  refine r_cVI (pc := 24) C hRm (okX8_fail h0 (1 : Int32) M3 h_0) (Rc.of C rfl rfl h_0) mw_1084 cvX8_fail rfl ⟨Nat.le_of_ble_eq_true rfl, Nat.le_of_ble_eq_true rfl⟩ rfl (Nat.le_of_ble_eq_true rfl) dX8_event_24 (fun o11 M10 => ?_)
  exact r_iret (pc := 27) C rfl dX8_event_27
theorem okX8_event {l : Launch} {G : WT} (h0 : W0 G) (v1 : Int32) (v2 : Int32) (M : Mem) (h_0 : G.2.2.2.1 19 0 0) : Okm l G yX8_event cX8_event 3 (some FieldType.int) 1 22 [.ref (G.1 19 0 0), .int v1, .int v2] voI M (pX8_event  v1 v2 M) :=
  Okm.of "PermitParkModel" rfl (by decide) (Nat.le_of_ble_eq_true rfl) (L := [(0, .ref (G.1 19 0 0)), (1, .int v1), (2, .int v2)]) rfl (fun K _ hr C => lX8_event_0 C (by rw [hr]; exact ⟨rfl, rfl⟩) h0 v1 v2 M h_0)
def pX8_events_105 (k45 : Int32 → Int32 → Int32 → Int32 → Mem → Option (Int32 × Mem)) (v1 : Int32) (v2 : Int32) (v3 : Int32) (v4 : Int32) (s0 : Int32) (M : Mem) : Option (Int32 × Mem) :=
    if s0 = 0 then (nm (v3 + (0 : Int32)) fun x1 => k45 v1 v2 x1 (v4 + (1 : Int32)) M)
    else nm (v3 + (1 : Int32)) fun x2 => k45 v1 v2 x2 (v4 + (1 : Int32)) M
theorem lX8_events_105 {K : KT} {G : WT} {k45 : Int32 → Int32 → Int32 → Int32 → Mem → Option (Int32 × Mem)} (C : Cx K G "PermitParkModel" cX8_events 6 (some FieldType.int)) (hRm : K.2.2.2.1.frames = 2 ∧ K.2.2.2.1.locals = 43) (h0 : W0 G)
    (hk45 : ∀ (v1 : Int32) (v2 : Int32) (v3 : Int32) (v4 : Int32) (M : Mem), G.2.2.2.1 19 0 0 → Run K G 6 0 0 (FinM K G voI 0 0) 45 [(0, .ref (G.1 19 0 0)), (1, .int v1), (2, .int v2), (3, .int v3), (4, .int v4)] [] M (k45 v1 v2 v3 v4 M)) (v1 : Int32) (v2 : Int32) (v3 : Int32) (v4 : Int32) (s0 : Int32) (M : Mem) (g_0 : G.2.2.2.1 19 0 0) : Run K G 6 0 0 (FinM K G voI 0 0) 105 [(0, .ref (G.1 19 0 0)), (1, .int v1), (2, .int v2), (3, .int v3), (4, .int v4)] [.int s0] M (pX8_events_105  k45 v1 v2 v3 v4 s0 M) := by
  rw [pX8_events_105]
  refine r_istore (pc := 105) C [(5, .int s0), (0, .ref (G.1 19 0 0)), (1, .int v1), (2, .int v2), (3, .int v3), (4, .int v4)] dX8_events_105 (by decide) rfl ?_
  refine r_iload_n (pc := 107) C 4 rfl rfl dX8_events_107 ?_
  refine r_iload (pc := 108) C 0 rfl dX8_events_108 ?_
  refine r_if_eq (pc := 110) C dX8_events_110 (tgt := 117) rfl ?_ ?_
  refine r_iconst (pc := 117) C dX8_events_117 kc_0 ?_
  refine r_iadd (pc := 118) C dX8_events_118 ?_
  refine r_nmi (fun x1 => ?_)
  refine r_istore_n (pc := 119) C [(3, .int x1), (5, .int s0), (0, .ref (G.1 19 0 0)), (1, .int v1), (2, .int v2), (4, .int v4)] dX8_events_119 rfl (by decide) rfl ?_
  refine r_iinc (pc := 120) C [(4, .int (v4 + (1 : Int32))), (3, .int x1), (5, .int s0), (0, .ref (G.1 19 0 0)), (1, .int v1), (2, .int v2)] dX8_events_120 (p := 5) rfl (ki_1 _) (by decide) rfl ?_
  refine r_goto (pc := 123) C dX8_events_123 (tgt := 45) rfl ?_
  refine r_sub [3, 4, 5, 1, 0] rfl ?_
  exact hk45 v1 v2 x1 (v4 + (1 : Int32)) M g_0
  refine r_iconst (pc := 113) C dX8_events_113 kc_1 ?_
  refine r_goto (pc := 114) C dX8_events_114 (tgt := 118) rfl ?_
  refine r_iadd (pc := 118) C dX8_events_118 ?_
  refine r_nmi (fun x2 => ?_)
  refine r_istore_n (pc := 119) C [(3, .int x2), (5, .int s0), (0, .ref (G.1 19 0 0)), (1, .int v1), (2, .int v2), (4, .int v4)] dX8_events_119 rfl (by decide) rfl ?_
  refine r_iinc (pc := 120) C [(4, .int (v4 + (1 : Int32))), (3, .int x2), (5, .int s0), (0, .ref (G.1 19 0 0)), (1, .int v1), (2, .int v2)] dX8_events_120 (p := 5) rfl (ki_1 _) (by decide) rfl ?_
  refine r_goto (pc := 123) C dX8_events_123 (tgt := 45) rfl ?_
  refine r_sub [3, 4, 5, 1, 0] rfl ?_
  exact hk45 v1 v2 x2 (v4 + (1 : Int32)) M g_0
def pX8_events_45 : Nat → Int32 → Int32 → Int32 → Int32 → Mem → Option (Int32 × Mem)
  | 0, _, _, _, _, _ => none
  | n + 1, v1, v2, v3, v4, M =>
    chk (inB (7 : Int32) 700) <| if (M.1 20 0 0 (7 : Int32).toNatClampNeg) ≤ v4 then (some (v3, M))
    else chk (inB (((540 : Int32) + ((4 : Int32) * v4)) + (1 : Int32)) 700) <| if ¬ (M.1 20 0 0 (((540 : Int32) + ((4 : Int32) * v4)) + (1 : Int32)).toNatClampNeg) = v1 then (pX8_events_105  (fun v1 v2 v3 v4 M => pX8_events_45   n v1 v2 v3 v4 M)  v1 v2 v3 v4 (0 : Int32) M)
    else if v2 = (-1 : Int32) then (pX8_events_105  (fun v1 v2 v3 v4 M => pX8_events_45   n v1 v2 v3 v4 M)  v1 v2 v3 v4 (1 : Int32) M)
    else chk (inB (((540 : Int32) + ((4 : Int32) * v4)) + (2 : Int32)) 700) <| if ¬ (M.1 20 0 0 (((540 : Int32) + ((4 : Int32) * v4)) + (2 : Int32)).toNatClampNeg) = v2 then (pX8_events_105  (fun v1 v2 v3 v4 M => pX8_events_45   n v1 v2 v3 v4 M)  v1 v2 v3 v4 (0 : Int32) M)
    else pX8_events_105  (fun v1 v2 v3 v4 M => pX8_events_45   n v1 v2 v3 v4 M)  v1 v2 v3 v4 (1 : Int32) M
theorem lX8_events_45 {K : KT} {G : WT} (C : Cx K G "PermitParkModel" cX8_events 6 (some FieldType.int)) (hRm : K.2.2.2.1.frames = 2 ∧ K.2.2.2.1.locals = 43) (h0 : W0 G) : ∀ (n : Nat) (v1 : Int32) (v2 : Int32) (v3 : Int32) (v4 : Int32) (M : Mem), G.2.2.2.1 19 0 0 → Run K G 6 0 0 (FinM K G voI 0 0) 45 [(0, .ref (G.1 19 0 0)), (1, .int v1), (2, .int v2), (3, .int v3), (4, .int v4)] [] M (pX8_events_45   n v1 v2 v3 v4 M) := by
  intro n
  induction n with
  | zero =>
    intro v1 v2 v3 v4 M g_0
    exact r_none
  | succ n ih =>
    intro v1 v2 v3 v4 M g_0
    rw [pX8_events_45]
    refine r_iload (pc := 45) C 4 rfl dX8_events_45 ?_
    refine r_aload_n (pc := 47) C 0 rfl rfl dX8_events_47 ?_
    refine r_getR (pc := 48) C FX8_state mw_1012 g_0 rfl dX8_events_48 (fun g1 => ?_)
    refine r_bipush (pc := 51) C dX8_events_51 kb_7 ?_
    refine r_iald (pc := 53) C rfl g1 (fun _ => rfl) (fun _ => rfl) dX8_events_53 ?_
    refine r_icmp_ge (pc := 54) C dX8_events_54 (tgt := 126) rfl ?_ ?_
    refine r_iload_n (pc := 126) C 3 rfl rfl dX8_events_126 ?_
    exact r_iret (pc := 127) C rfl dX8_events_127
    refine r_aload_n (pc := 57) C 0 rfl rfl dX8_events_57 ?_
    refine r_getR (pc := 58) C FX8_state mw_1012 g_0 rfl dX8_events_58 (fun g2 => ?_)
    refine r_sipush (pc := 61) C dX8_events_61 ks_540 ?_
    refine r_iconst (pc := 64) C dX8_events_64 kc_4 ?_
    refine r_iload (pc := 65) C 4 rfl dX8_events_65 ?_
    refine r_imul (pc := 67) C dX8_events_67 ?_
    refine r_iadd (pc := 68) C dX8_events_68 ?_
    refine r_iconst (pc := 69) C dX8_events_69 kc_1 ?_
    refine r_iadd (pc := 70) C dX8_events_70 ?_
    refine r_iald (pc := 71) C rfl g1 (fun _ => rfl) (fun _ => rfl) dX8_events_71 ?_
    refine r_iload_n (pc := 72) C 1 rfl rfl dX8_events_72 ?_
    refine r_icmp_ne (pc := 73) C dX8_events_73 (tgt := 104) rfl ?_ ?_
    refine r_iconst (pc := 104) C dX8_events_104 kc_0 ?_
    exact lX8_events_105  (k45 := (fun v1 v2 v3 v4 M => pX8_events_45   n v1 v2 v3 v4 M)) C hRm h0 ih  v1 v2 v3 v4 (0 : Int32) M g_0
    refine r_iload_n (pc := 76) C 2 rfl rfl dX8_events_76 ?_
    refine r_iconst (pc := 77) C dX8_events_77 kc_m1 ?_
    refine r_icmp_eq (pc := 78) C dX8_events_78 (tgt := 100) rfl ?_ ?_
    refine r_iconst (pc := 100) C dX8_events_100 kc_1 ?_
    refine r_goto (pc := 101) C dX8_events_101 (tgt := 105) rfl ?_
    exact lX8_events_105  (k45 := (fun v1 v2 v3 v4 M => pX8_events_45   n v1 v2 v3 v4 M)) C hRm h0 ih  v1 v2 v3 v4 (1 : Int32) M g_0
    refine r_aload_n (pc := 81) C 0 rfl rfl dX8_events_81 ?_
    refine r_getR (pc := 82) C FX8_state mw_1012 g_0 rfl dX8_events_82 (fun g3 => ?_)
    refine r_sipush (pc := 85) C dX8_events_85 ks_540 ?_
    refine r_iconst (pc := 88) C dX8_events_88 kc_4 ?_
    refine r_iload (pc := 89) C 4 rfl dX8_events_89 ?_
    refine r_imul (pc := 91) C dX8_events_91 ?_
    refine r_iadd (pc := 92) C dX8_events_92 ?_
    refine r_iconst (pc := 93) C dX8_events_93 kc_2 ?_
    refine r_iadd (pc := 94) C dX8_events_94 ?_
    refine r_iald (pc := 95) C rfl g1 (fun _ => rfl) (fun _ => rfl) dX8_events_95 ?_
    refine r_iload_n (pc := 96) C 2 rfl rfl dX8_events_96 ?_
    refine r_icmp_ne (pc := 97) C dX8_events_97 (tgt := 104) rfl ?_ ?_
    refine r_iconst (pc := 104) C dX8_events_104 kc_0 ?_
    exact lX8_events_105  (k45 := (fun v1 v2 v3 v4 M => pX8_events_45   n v1 v2 v3 v4 M)) C hRm h0 ih  v1 v2 v3 v4 (0 : Int32) M g_0
    refine r_iconst (pc := 100) C dX8_events_100 kc_1 ?_
    refine r_goto (pc := 101) C dX8_events_101 (tgt := 105) rfl ?_
    exact lX8_events_105  (k45 := (fun v1 v2 v3 v4 M => pX8_events_45   n v1 v2 v3 v4 M)) C hRm h0 ih  v1 v2 v3 v4 (1 : Int32) M g_0
def pX8_events_24 (v1 : Int32) (v2 : Int32) (M : Mem) : Option (Int32 × Mem) :=
    bnd (pX8_isBetween v1 (0 : Int32) (9 : Int32) M) fun o2 M1 => if ¬ o2 = 0 then (pX8_events_45   fu v1 v2 (0 : Int32) (0 : Int32) M1)
    else bnd (pX8_fail (2 : Int32) M1) fun o4 M3 => some (o4, M3)
theorem lX8_events_24 {K : KT} {G : WT} (C : Cx K G "PermitParkModel" cX8_events 6 (some FieldType.int)) (hRm : K.2.2.2.1.frames = 2 ∧ K.2.2.2.1.locals = 43) (h0 : W0 G) (v1 : Int32) (v2 : Int32) (M : Mem) (g_0 : G.2.2.2.1 19 0 0) : Run K G 6 0 0 (FinM K G voI 0 0) 24 [(0, .ref (G.1 19 0 0)), (1, .int v1), (2, .int v2)] [] M (pX8_events_24   v1 v2 M) := by
  rw [pX8_events_24]
  refine r_iload_n (pc := 24) C 1 rfl rfl dX8_events_24 ?_
  refine r_iconst (pc := 25) C dX8_events_25 kc_0 ?_
  refine r_bipush (pc := 26) C dX8_events_26 kb_9 ?_
  refine r_cSI (pc := 28) C hRm (okX8_isBetween h0 v1 (0 : Int32) (9 : Int32) M ) mw_1092 cvX8_isBetween rfl ⟨Nat.le_of_ble_eq_true rfl, Nat.le_of_ble_eq_true rfl⟩ rfl (Nat.le_of_ble_eq_true rfl) dX8_events_28 (fun o2 M1 => ?_)
  refine r_if_ne (pc := 31) C dX8_events_31 (tgt := 40) rfl ?_ ?_
  refine r_iconst (pc := 40) C dX8_events_40 kc_0 ?_
  refine r_istore_n (pc := 41) C [(3, .int (0 : Int32)), (0, .ref (G.1 19 0 0)), (1, .int v1), (2, .int v2)] dX8_events_41 rfl (by decide) rfl ?_
  refine r_iconst (pc := 42) C dX8_events_42 kc_0 ?_
  refine r_istore (pc := 43) C [(4, .int (0 : Int32)), (3, .int (0 : Int32)), (0, .ref (G.1 19 0 0)), (1, .int v1), (2, .int v2)] dX8_events_43 (by decide) rfl ?_
  refine r_sub [2, 3, 4, 1, 0] rfl ?_
  exact lX8_events_45   C hRm h0  fu v1 v2 (0 : Int32) (0 : Int32) M1 g_0
  refine r_aload_n (pc := 34) C 0 rfl rfl dX8_events_34 ?_
  refine r_iconst (pc := 35) C dX8_events_35 kc_2 ?_
  refine r_cVI (pc := 36) C hRm (okX8_fail h0 (2 : Int32) M1 g_0) (Rc.of C rfl rfl g_0) mw_1084 cvX8_fail rfl ⟨Nat.le_of_ble_eq_true rfl, Nat.le_of_ble_eq_true rfl⟩ rfl (Nat.le_of_ble_eq_true rfl) dX8_events_36 (fun o4 M3 => ?_)
  exact r_iret (pc := 39) C rfl dX8_events_39
def pX8_events (v1 : Int32) (v2 : Int32) (M : Mem) : Option (Int32 × Mem) :=
    nm (wI M 19 0 0 7 (0 : Int32)) fun M1 => if v2 = (-1 : Int32) then (pX8_events_24    v1 v2 M1)
    else bnd (pX8_isThread v2 M1) fun o3 M2 => if ¬ o3 = 0 then (pX8_events_24    v1 v2 M2)
    else bnd (pX8_fail (1 : Int32) M2) fun o5 M4 => some (o5, M4)
theorem lX8_events_0 {K : KT} {G : WT} (C : Cx K G "PermitParkModel" cX8_events 6 (some FieldType.int)) (hRm : K.2.2.2.1.frames = 2 ∧ K.2.2.2.1.locals = 43) (h0 : W0 G) (v1 : Int32) (v2 : Int32) (M : Mem) (h_0 : G.2.2.2.1 19 0 0) : Run K G 6 0 0 (FinM K G voI 0 0) 0 [(0, .ref (G.1 19 0 0)), (1, .int v1), (2, .int v2)] [] M (pX8_events   v1 v2 M) := by
  rw [pX8_events]
  refine r_aload_n (pc := 0) C 0 rfl rfl dX8_events_0 ?_
  refine r_iconst (pc := 1) C dX8_events_1 kc_0 ?_
  refine r_putI (pc := 2) C FX8_thrown mw_1019 h_0 tyX8 tyX8_ok nmX8 (fun _ _ => rfl) rfl dX8_events_2 (fun M1 => ?_)
  refine r_iload_n (pc := 5) C 2 rfl rfl dX8_events_5 ?_
  refine r_iconst (pc := 6) C dX8_events_6 kc_m1 ?_
  refine r_icmp_eq (pc := 7) C dX8_events_7 (tgt := 24) rfl ?_ ?_
  exact lX8_events_24   C hRm h0   v1 v2 M1 h_0
  refine r_aload_n (pc := 10) C 0 rfl rfl dX8_events_10 ?_
  refine r_iload_n (pc := 11) C 2 rfl rfl dX8_events_11 ?_
  refine r_cVI (pc := 12) C hRm (okX8_isThread h0 v2 M1 h_0) (Rc.of C rfl rfl h_0) mw_1251 cvX8_isThread rfl ⟨Nat.le_of_ble_eq_true rfl, Nat.le_of_ble_eq_true rfl⟩ rfl (Nat.le_of_ble_eq_true rfl) dX8_events_12 (fun o3 M2 => ?_)
  refine r_if_ne (pc := 15) C dX8_events_15 (tgt := 24) rfl ?_ ?_
  exact lX8_events_24   C hRm h0   v1 v2 M2 h_0
  refine r_aload_n (pc := 18) C 0 rfl rfl dX8_events_18 ?_
  refine r_iconst (pc := 19) C dX8_events_19 kc_1 ?_
  refine r_cVI (pc := 20) C hRm (okX8_fail h0 (1 : Int32) M2 h_0) (Rc.of C rfl rfl h_0) mw_1084 cvX8_fail rfl ⟨Nat.le_of_ble_eq_true rfl, Nat.le_of_ble_eq_true rfl⟩ rfl (Nat.le_of_ble_eq_true rfl) dX8_events_20 (fun o5 M4 => ?_)
  exact r_iret (pc := 23) C rfl dX8_events_23
theorem okX8_events {l : Launch} {G : WT} (h0 : W0 G) (v1 : Int32) (v2 : Int32) (M : Mem) (h_0 : G.2.2.2.1 19 0 0) : Okm l G yX8_events cX8_events 6 (some FieldType.int) 2 43 [.ref (G.1 19 0 0), .int v1, .int v2] voI M (pX8_events  v1 v2 M) :=
  Okm.of "PermitParkModel" rfl (by decide) (Nat.le_of_ble_eq_true rfl) (L := [(0, .ref (G.1 19 0 0)), (1, .int v1), (2, .int v2)]) rfl (fun K _ hr C => lX8_events_0 C (by rw [hr]; exact ⟨rfl, rfl⟩) h0 v1 v2 M h_0)
def pX8_endIfBehind (v1 : Int32) (M : Mem) : Option (Unit × Mem) :=
    bnd (pX8_of v1 (2 : Int32) M) fun o2 M1 => bnd (pX8_of v1 (1 : Int32) M1) fun o4 M3 => if ¬ o2 = o4 then (some ((), M3))
    else bnd (pX8_put v1 (3 : Int32) (3 : Int32) M3) fun o6 M5 => bnd (pX8_note (5 : Int32) v1 (0 : Int32) M5) fun o8 M7 => chk (inB (M7.1 19 0 0 20) 12) <| nm (wI M7 29 0 0 (M7.1 19 0 0 20).toNatClampNeg v1) fun M10 => nm (wI M10 19 0 0 20 ((M10.1 19 0 0 20) + (1 : Int32))) fun M11 => some ((), M11)
theorem lX8_endIfBehind_0 {K : KT} {G : WT} (C : Cx K G "PermitParkModel" cX8_endIfBehind 2 none) (hRm : K.2.2.2.1.frames = 1 ∧ K.2.2.2.1.locals = 24) (h0 : W0 G) (v1 : Int32) (M : Mem) (h_0 : G.2.2.2.1 19 0 0) : Run K G 2 0 0 (FinM K G voV 0 0) 0 [(0, .ref (G.1 19 0 0)), (1, .int v1)] [] M (pX8_endIfBehind   v1 M) := by
  rw [pX8_endIfBehind]
  refine r_aload_n (pc := 0) C 0 rfl rfl dX8_endIfBehind_0 ?_
  refine r_iload_n (pc := 1) C 1 rfl rfl dX8_endIfBehind_1 ?_
  refine r_iconst (pc := 2) C dX8_endIfBehind_2 kc_2 ?_
  refine r_cVI (pc := 3) C hRm (okX8_of h0 v1 (2 : Int32) M h_0) (Rc.of C rfl rfl h_0) mw_1193 cvX8_of rfl ⟨Nat.le_of_ble_eq_true rfl, Nat.le_of_ble_eq_true rfl⟩ rfl (Nat.le_of_ble_eq_true rfl) dX8_endIfBehind_3 (fun o2 M1 => ?_)
  refine r_aload_n (pc := 6) C 0 rfl rfl dX8_endIfBehind_6 ?_
  refine r_iload_n (pc := 7) C 1 rfl rfl dX8_endIfBehind_7 ?_
  refine r_iconst (pc := 8) C dX8_endIfBehind_8 kc_1 ?_
  refine r_cVI (pc := 9) C hRm (okX8_of h0 v1 (1 : Int32) M1 h_0) (Rc.of C rfl rfl h_0) mw_1193 cvX8_of rfl ⟨Nat.le_of_ble_eq_true rfl, Nat.le_of_ble_eq_true rfl⟩ rfl (Nat.le_of_ble_eq_true rfl) dX8_endIfBehind_9 (fun o4 M3 => ?_)
  refine r_icmp_ne (pc := 12) C dX8_endIfBehind_12 (tgt := 49) rfl ?_ ?_
  exact r_vret (pc := 49) C dX8_endIfBehind_49
  refine r_aload_n (pc := 15) C 0 rfl rfl dX8_endIfBehind_15 ?_
  refine r_iload_n (pc := 16) C 1 rfl rfl dX8_endIfBehind_16 ?_
  refine r_iconst (pc := 17) C dX8_endIfBehind_17 kc_3 ?_
  refine r_iconst (pc := 18) C dX8_endIfBehind_18 kc_3 ?_
  refine r_cVV (pc := 19) C hRm (okX8_put h0 v1 (3 : Int32) (3 : Int32) M3 h_0) (Rc.of C rfl rfl h_0) mw_1166 cvX8_put rfl ⟨Nat.le_of_ble_eq_true rfl, Nat.le_of_ble_eq_true rfl⟩ rfl (Nat.le_of_ble_eq_true rfl) dX8_endIfBehind_19 (fun o6 M5 => ?_)
  refine r_aload_n (pc := 22) C 0 rfl rfl dX8_endIfBehind_22 ?_
  refine r_iconst (pc := 23) C dX8_endIfBehind_23 kc_5 ?_
  refine r_iload_n (pc := 24) C 1 rfl rfl dX8_endIfBehind_24 ?_
  refine r_iconst (pc := 25) C dX8_endIfBehind_25 kc_0 ?_
  refine r_cVV (pc := 26) C hRm (okX8_note h0 (5 : Int32) v1 (0 : Int32) M5 h_0) (Rc.of C rfl rfl h_0) mw_1332 cvX8_note rfl ⟨Nat.le_of_ble_eq_true rfl, Nat.le_of_ble_eq_true rfl⟩ rfl (Nat.le_of_ble_eq_true rfl) dX8_endIfBehind_26 (fun o8 M7 => ?_)
  refine r_aload_n (pc := 29) C 0 rfl rfl dX8_endIfBehind_29 ?_
  refine r_getR (pc := 30) C FX8_giver mw_1031 h_0 rfl dX8_endIfBehind_30 (fun g9 => ?_)
  refine r_aload_n (pc := 33) C 0 rfl rfl dX8_endIfBehind_33 ?_
  refine r_getI (pc := 34) C FX8_givers mw_1032 h_0 rfl rfl dX8_endIfBehind_34 ?_
  refine r_iload_n (pc := 37) C 1 rfl rfl dX8_endIfBehind_37 ?_
  refine r_iast (pc := 38) C rfl g9 (fun _ => rfl) (fun _ => rfl) dX8_endIfBehind_38 (fun M10 => ?_)
  refine r_aload_n (pc := 39) C 0 rfl rfl dX8_endIfBehind_39 ?_
  refine r_dup (pc := 40) C dX8_endIfBehind_40 rfl ?_
  refine r_getI (pc := 41) C FX8_givers mw_1032 h_0 rfl rfl dX8_endIfBehind_41 ?_
  refine r_iconst (pc := 44) C dX8_endIfBehind_44 kc_1 ?_
  refine r_iadd (pc := 45) C dX8_endIfBehind_45 ?_
  refine r_putI (pc := 46) C FX8_givers mw_1032 h_0 tyX8 tyX8_ok nmX8 (fun _ _ => rfl) rfl dX8_endIfBehind_46 (fun M11 => ?_)
  exact r_vret (pc := 49) C dX8_endIfBehind_49
theorem okX8_endIfBehind {l : Launch} {G : WT} (h0 : W0 G) (v1 : Int32) (M : Mem) (h_0 : G.2.2.2.1 19 0 0) : Okm l G yX8_endIfBehind cX8_endIfBehind 2 none 1 24 [.ref (G.1 19 0 0), .int v1] voV M (pX8_endIfBehind  v1 M) :=
  Okm.of "PermitParkModel" rfl (by decide) (Nat.le_of_ble_eq_true rfl) (L := [(0, .ref (G.1 19 0 0)), (1, .int v1)]) rfl (fun K _ hr C => lX8_endIfBehind_0 C (by rw [hr]; exact ⟨rfl, rfl⟩) h0 v1 M h_0)
def pX8_lowestLock_2 : Nat → Int32 → Int32 → Mem → Option (Int32 × Mem)
  | 0, _, _, _ => none
  | n + 1, v1, v2, M =>
    if (6 : Int32) ≤ v2 then (some ((-1 : Int32), M))
    else chk (inB ((14 : Int32) + v2) 700) <| if ¬ (M.1 20 0 0 ((14 : Int32) + v2).toNatClampNeg) = v1 then (pX8_lowestLock_2   n v1 (v2 + (1 : Int32)) M)
    else some (v2, M)
theorem lX8_lowestLock_2 {K : KT} {G : WT} (C : Cx K G "PermitParkModel" cX8_lowestLock 3 (some FieldType.int)) (hRm : K.2.2.2.1.frames = 0 ∧ K.2.2.2.1.locals = 0) (h0 : W0 G) : ∀ (n : Nat) (v1 : Int32) (v2 : Int32) (M : Mem), G.2.2.2.1 19 0 0 → Run K G 3 0 0 (FinM K G voI 0 0) 2 [(0, .ref (G.1 19 0 0)), (1, .int v1), (2, .int v2)] [] M (pX8_lowestLock_2   n v1 v2 M) := by
  intro n
  induction n with
  | zero =>
    intro v1 v2 M g_0
    exact r_none
  | succ n ih =>
    intro v1 v2 M g_0
    rw [pX8_lowestLock_2]
    refine r_iload_n (pc := 2) C 2 rfl rfl dX8_lowestLock_2 ?_
    refine r_bipush (pc := 3) C dX8_lowestLock_3 kb_6 ?_
    refine r_icmp_ge (pc := 5) C dX8_lowestLock_5 (tgt := 29) rfl ?_ ?_
    refine r_iconst (pc := 29) C dX8_lowestLock_29 kc_m1 ?_
    exact r_iret (pc := 30) C rfl dX8_lowestLock_30
    refine r_aload_n (pc := 8) C 0 rfl rfl dX8_lowestLock_8 ?_
    refine r_getR (pc := 9) C FX8_state mw_1012 g_0 rfl dX8_lowestLock_9 (fun g1 => ?_)
    refine r_bipush (pc := 12) C dX8_lowestLock_12 kb_14 ?_
    refine r_iload_n (pc := 14) C 2 rfl rfl dX8_lowestLock_14 ?_
    refine r_iadd (pc := 15) C dX8_lowestLock_15 ?_
    refine r_iald (pc := 16) C rfl g1 (fun _ => rfl) (fun _ => rfl) dX8_lowestLock_16 ?_
    refine r_iload_n (pc := 17) C 1 rfl rfl dX8_lowestLock_17 ?_
    refine r_icmp_ne (pc := 18) C dX8_lowestLock_18 (tgt := 23) rfl ?_ ?_
    refine r_iinc (pc := 23) C [(2, .int (v2 + (1 : Int32))), (0, .ref (G.1 19 0 0)), (1, .int v1)] dX8_lowestLock_23 (p := 2) rfl (ki_1 _) (by decide) rfl ?_
    refine r_goto (pc := 26) C dX8_lowestLock_26 (tgt := 2) rfl ?_
    refine r_sub [1, 2, 0] rfl ?_
    exact ih v1 (v2 + (1 : Int32)) M g_0
    refine r_iload_n (pc := 21) C 2 rfl rfl dX8_lowestLock_21 ?_
    exact r_iret (pc := 22) C rfl dX8_lowestLock_22
def pX8_lowestLock (v1 : Int32) (M : Mem) : Option (Int32 × Mem) :=
    pX8_lowestLock_2   fu v1 (0 : Int32) M
theorem lX8_lowestLock_0 {K : KT} {G : WT} (C : Cx K G "PermitParkModel" cX8_lowestLock 3 (some FieldType.int)) (hRm : K.2.2.2.1.frames = 0 ∧ K.2.2.2.1.locals = 0) (h0 : W0 G) (v1 : Int32) (M : Mem) (h_0 : G.2.2.2.1 19 0 0) : Run K G 3 0 0 (FinM K G voI 0 0) 0 [(0, .ref (G.1 19 0 0)), (1, .int v1)] [] M (pX8_lowestLock   v1 M) := by
  rw [pX8_lowestLock]
  refine r_iconst (pc := 0) C dX8_lowestLock_0 kc_0 ?_
  refine r_istore_n (pc := 1) C [(2, .int (0 : Int32)), (0, .ref (G.1 19 0 0)), (1, .int v1)] dX8_lowestLock_1 rfl (by decide) rfl ?_
  refine r_sub [1, 2, 0] rfl ?_
  exact lX8_lowestLock_2   C hRm h0  fu v1 (0 : Int32) M h_0
theorem okX8_lowestLock {l : Launch} {G : WT} (h0 : W0 G) (v1 : Int32) (M : Mem) (h_0 : G.2.2.2.1 19 0 0) : Okm l G yX8_lowestLock cX8_lowestLock 3 (some FieldType.int) 0 0 [.ref (G.1 19 0 0), .int v1] voI M (pX8_lowestLock  v1 M) :=
  Okm.of "PermitParkModel" rfl (by decide) (Nat.le_of_ble_eq_true rfl) (L := [(0, .ref (G.1 19 0 0)), (1, .int v1)]) rfl (fun K _ hr C => lX8_lowestLock_0 C (by rw [hr]; exact ⟨rfl, rfl⟩) h0 v1 M h_0)
def pX8_successor_39 (k7 : Int32 → Int32 → Int32 → Int32 → Mem → Option (Int32 × Mem)) (v1 : Int32) (v2 : Int32) (v3 : Int32) (v4 : Int32) (v5 : Int32) (s0 : Int32) (M : Mem) : Option (Int32 × Mem) :=
    if s0 ≤ v3 then (k7 v1 v2 v3 (v4 + (1 : Int32)) M)
    else k7 v1 v5 s0 (v4 + (1 : Int32)) M
theorem lX8_successor_39 {K : KT} {G : WT} {k7 : Int32 → Int32 → Int32 → Int32 → Mem → Option (Int32 × Mem)} (C : Cx K G "PermitParkModel" cX8_successor 7 (some FieldType.int)) (hRm : K.2.2.2.1.frames = 2 ∧ K.2.2.2.1.locals = 49) (h0 : W0 G)
    (hk7 : ∀ (v1 : Int32) (v2 : Int32) (v3 : Int32) (v4 : Int32) (M : Mem), G.2.2.2.1 19 0 0 → Run K G 7 0 0 (FinM K G voI 0 0) 7 [(0, .ref (G.1 19 0 0)), (1, .int v1), (2, .int v2), (3, .int v3), (4, .int v4)] [] M (k7 v1 v2 v3 v4 M)) (v1 : Int32) (v2 : Int32) (v3 : Int32) (v4 : Int32) (v5 : Int32) (s0 : Int32) (M : Mem) (g_0 : G.2.2.2.1 19 0 0) : Run K G 7 0 0 (FinM K G voI 0 0) 39 [(0, .ref (G.1 19 0 0)), (1, .int v1), (2, .int v2), (3, .int v3), (4, .int v4), (5, .int v5)] [.int s0] M (pX8_successor_39  k7 v1 v2 v3 v4 v5 s0 M) := by
  rw [pX8_successor_39]
  refine r_istore (pc := 39) C [(6, .int s0), (0, .ref (G.1 19 0 0)), (1, .int v1), (2, .int v2), (3, .int v3), (4, .int v4), (5, .int v5)] dX8_successor_39 (by decide) rfl ?_
  refine r_iload (pc := 41) C 0 rfl dX8_successor_41 ?_
  refine r_iload_n (pc := 43) C 4 rfl rfl dX8_successor_43 ?_
  refine r_icmp_le (pc := 44) C dX8_successor_44 (tgt := 53) rfl ?_ ?_
  refine r_iinc (pc := 53) C [(4, .int (v4 + (1 : Int32))), (6, .int s0), (0, .ref (G.1 19 0 0)), (1, .int v1), (2, .int v2), (3, .int v3), (5, .int v5)] dX8_successor_53 (p := 5) rfl (ki_1 _) (by decide) rfl ?_
  refine r_goto (pc := 56) C dX8_successor_56 (tgt := 7) rfl ?_
  refine r_sub [2, 3, 4, 5, 0] rfl ?_
  exact hk7 v1 v2 v3 (v4 + (1 : Int32)) M g_0
  refine r_iload (pc := 47) C 6 rfl dX8_successor_47 ?_
  refine r_istore_n (pc := 49) C [(2, .int v5), (6, .int s0), (0, .ref (G.1 19 0 0)), (1, .int v1), (3, .int v3), (4, .int v4), (5, .int v5)] dX8_successor_49 rfl (by decide) rfl ?_
  refine r_iload (pc := 50) C 1 rfl dX8_successor_50 ?_
  refine r_istore_n (pc := 52) C [(3, .int s0), (2, .int v5), (6, .int s0), (0, .ref (G.1 19 0 0)), (1, .int v1), (4, .int v4), (5, .int v5)] dX8_successor_52 rfl (by decide) rfl ?_
  refine r_iinc (pc := 53) C [(4, .int (v4 + (1 : Int32))), (3, .int s0), (2, .int v5), (6, .int s0), (0, .ref (G.1 19 0 0)), (1, .int v1), (5, .int v5)] dX8_successor_53 (p := 5) rfl (ki_1 _) (by decide) rfl ?_
  refine r_goto (pc := 56) C dX8_successor_56 (tgt := 7) rfl ?_
  refine r_sub [4, 5, 2, 1, 0] rfl ?_
  exact hk7 v1 v5 s0 (v4 + (1 : Int32)) M g_0
def pX8_successor_7 : Nat → Int32 → Int32 → Int32 → Int32 → Mem → Option (Int32 × Mem)
  | 0, _, _, _, _, _ => none
  | n + 1, v1, v2, v3, v4, M =>
    if (10 : Int32) < v4 then (some (v2, M))
    else bnd (pX8_waiter v1 v4 M) fun o2 M1 => if ¬ o2 = (-1 : Int32) then (bnd (pX8_priorityOf o2 M1) fun o4 M3 => pX8_successor_39  (fun v1 v2 v3 v4 M => pX8_successor_7   n v1 v2 v3 v4 M)  v1 v2 v3 v4 o2 o4 M3)
    else pX8_successor_39  (fun v1 v2 v3 v4 M => pX8_successor_7   n v1 v2 v3 v4 M)  v1 v2 v3 v4 o2 (0 : Int32) M1
theorem lX8_successor_7 {K : KT} {G : WT} (C : Cx K G "PermitParkModel" cX8_successor 7 (some FieldType.int)) (hRm : K.2.2.2.1.frames = 2 ∧ K.2.2.2.1.locals = 49) (h0 : W0 G) : ∀ (n : Nat) (v1 : Int32) (v2 : Int32) (v3 : Int32) (v4 : Int32) (M : Mem), G.2.2.2.1 19 0 0 → Run K G 7 0 0 (FinM K G voI 0 0) 7 [(0, .ref (G.1 19 0 0)), (1, .int v1), (2, .int v2), (3, .int v3), (4, .int v4)] [] M (pX8_successor_7   n v1 v2 v3 v4 M) := by
  intro n
  induction n with
  | zero =>
    intro v1 v2 v3 v4 M g_0
    exact r_none
  | succ n ih =>
    intro v1 v2 v3 v4 M g_0
    rw [pX8_successor_7]
    refine r_iload (pc := 7) C 4 rfl dX8_successor_7 ?_
    refine r_bipush (pc := 9) C dX8_successor_9 kb_10 ?_
    refine r_icmp_gt (pc := 11) C dX8_successor_11 (tgt := 59) rfl ?_ ?_
    refine r_iload_n (pc := 59) C 2 rfl rfl dX8_successor_59 ?_
    exact r_iret (pc := 60) C rfl dX8_successor_60
    refine r_aload_n (pc := 14) C 0 rfl rfl dX8_successor_14 ?_
    refine r_iload_n (pc := 15) C 1 rfl rfl dX8_successor_15 ?_
    refine r_iload (pc := 16) C 4 rfl dX8_successor_16 ?_
    refine r_cVI (pc := 18) C hRm (okX8_waiter h0 v1 v4 M g_0) (Rc.of C rfl rfl g_0) mw_1304 cvX8_waiter rfl ⟨Nat.le_of_ble_eq_true rfl, Nat.le_of_ble_eq_true rfl⟩ rfl (Nat.le_of_ble_eq_true rfl) dX8_successor_18 (fun o2 M1 => ?_)
    refine r_istore (pc := 21) C [(5, .int o2), (0, .ref (G.1 19 0 0)), (1, .int v1), (2, .int v2), (3, .int v3), (4, .int v4)] dX8_successor_21 (by decide) rfl ?_
    refine r_iload (pc := 23) C 0 rfl dX8_successor_23 ?_
    refine r_iconst (pc := 25) C dX8_successor_25 kc_m1 ?_
    refine r_icmp_ne (pc := 26) C dX8_successor_26 (tgt := 33) rfl ?_ ?_
    refine r_aload_n (pc := 33) C 1 rfl rfl dX8_successor_33 ?_
    refine r_iload (pc := 34) C 0 rfl dX8_successor_34 ?_
    refine r_cVI (pc := 36) C hRm (okX8_priorityOf h0 o2 M1 g_0) (Rc.of C rfl rfl g_0) mw_1287 cvX8_priorityOf rfl ⟨Nat.le_of_ble_eq_true rfl, Nat.le_of_ble_eq_true rfl⟩ rfl (Nat.le_of_ble_eq_true rfl) dX8_successor_36 (fun o4 M3 => ?_)
    refine r_sub [1, 2, 3, 4, 5, 0] rfl ?_
    exact lX8_successor_39  (k7 := (fun v1 v2 v3 v4 M => pX8_successor_7   n v1 v2 v3 v4 M)) C hRm h0 ih  v1 v2 v3 v4 o2 o4 M3 g_0
    refine r_iconst (pc := 29) C dX8_successor_29 kc_0 ?_
    refine r_goto (pc := 30) C dX8_successor_30 (tgt := 39) rfl ?_
    refine r_sub [1, 2, 3, 4, 5, 0] rfl ?_
    exact lX8_successor_39  (k7 := (fun v1 v2 v3 v4 M => pX8_successor_7   n v1 v2 v3 v4 M)) C hRm h0 ih  v1 v2 v3 v4 o2 (0 : Int32) M1 g_0
def pX8_successor (v1 : Int32) (M : Mem) : Option (Int32 × Mem) :=
    pX8_successor_7   fu v1 (-1 : Int32) (0 : Int32) (1 : Int32) M
theorem lX8_successor_0 {K : KT} {G : WT} (C : Cx K G "PermitParkModel" cX8_successor 7 (some FieldType.int)) (hRm : K.2.2.2.1.frames = 2 ∧ K.2.2.2.1.locals = 49) (h0 : W0 G) (v1 : Int32) (M : Mem) (h_0 : G.2.2.2.1 19 0 0) : Run K G 7 0 0 (FinM K G voI 0 0) 0 [(0, .ref (G.1 19 0 0)), (1, .int v1)] [] M (pX8_successor   v1 M) := by
  rw [pX8_successor]
  refine r_iconst (pc := 0) C dX8_successor_0 kc_m1 ?_
  refine r_istore_n (pc := 1) C [(2, .int (-1 : Int32)), (0, .ref (G.1 19 0 0)), (1, .int v1)] dX8_successor_1 rfl (by decide) rfl ?_
  refine r_iconst (pc := 2) C dX8_successor_2 kc_0 ?_
  refine r_istore_n (pc := 3) C [(3, .int (0 : Int32)), (2, .int (-1 : Int32)), (0, .ref (G.1 19 0 0)), (1, .int v1)] dX8_successor_3 rfl (by decide) rfl ?_
  refine r_iconst (pc := 4) C dX8_successor_4 kc_1 ?_
  refine r_istore (pc := 5) C [(4, .int (1 : Int32)), (3, .int (0 : Int32)), (2, .int (-1 : Int32)), (0, .ref (G.1 19 0 0)), (1, .int v1)] dX8_successor_5 (by decide) rfl ?_
  refine r_sub [3, 4, 2, 1, 0] rfl ?_
  exact lX8_successor_7   C hRm h0  fu v1 (-1 : Int32) (0 : Int32) (1 : Int32) M h_0
theorem okX8_successor {l : Launch} {G : WT} (h0 : W0 G) (v1 : Int32) (M : Mem) (h_0 : G.2.2.2.1 19 0 0) : Okm l G yX8_successor cX8_successor 7 (some FieldType.int) 2 49 [.ref (G.1 19 0 0), .int v1] voI M (pX8_successor  v1 M) :=
  Okm.of "PermitParkModel" rfl (by decide) (Nat.le_of_ble_eq_true rfl) (L := [(0, .ref (G.1 19 0 0)), (1, .int v1)]) rfl (fun K _ hr C => lX8_successor_0 C (by rw [hr]; exact ⟨rfl, rfl⟩) h0 v1 M h_0)
def pX8_goOn (v1 : Int32) (M : Mem) : Option (Unit × Mem) :=
    bnd (pX8_grow v1 (2 : Int32) M) fun o2 M1 => bnd (pX8_put v1 (17 : Int32) (0 : Int32) M1) fun o4 M3 => bnd (pX8_endIfBehind v1 M3) fun o6 M5 => some ((), M5)
theorem lX8_goOn_0 {K : KT} {G : WT} (C : Cx K G "PermitParkModel" cX8_goOn 2 none) (hRm : K.2.2.2.1.frames = 2 ∧ K.2.2.2.1.locals = 45) (h0 : W0 G) (v1 : Int32) (M : Mem) (h_0 : G.2.2.2.1 19 0 0) : Run K G 2 0 0 (FinM K G voV 0 0) 0 [(0, .ref (G.1 19 0 0)), (1, .int v1)] [] M (pX8_goOn   v1 M) := by
  rw [pX8_goOn]
  refine r_aload_n (pc := 0) C 0 rfl rfl dX8_goOn_0 ?_
  refine r_iload_n (pc := 1) C 1 rfl rfl dX8_goOn_1 ?_
  refine r_iconst (pc := 2) C dX8_goOn_2 kc_2 ?_
  refine r_cVV (pc := 3) C hRm (okX8_grow h0 v1 (2 : Int32) M h_0) (Rc.of C rfl rfl h_0) mw_1204 cvX8_grow rfl ⟨Nat.le_of_ble_eq_true rfl, Nat.le_of_ble_eq_true rfl⟩ rfl (Nat.le_of_ble_eq_true rfl) dX8_goOn_3 (fun o2 M1 => ?_)
  refine r_aload_n (pc := 6) C 0 rfl rfl dX8_goOn_6 ?_
  refine r_iload_n (pc := 7) C 1 rfl rfl dX8_goOn_7 ?_
  refine r_bipush (pc := 8) C dX8_goOn_8 kb_17 ?_
  refine r_iconst (pc := 10) C dX8_goOn_10 kc_0 ?_
  refine r_cVV (pc := 11) C hRm (okX8_put h0 v1 (17 : Int32) (0 : Int32) M1 h_0) (Rc.of C rfl rfl h_0) mw_1166 cvX8_put rfl ⟨Nat.le_of_ble_eq_true rfl, Nat.le_of_ble_eq_true rfl⟩ rfl (Nat.le_of_ble_eq_true rfl) dX8_goOn_11 (fun o4 M3 => ?_)
  refine r_aload_n (pc := 14) C 0 rfl rfl dX8_goOn_14 ?_
  refine r_iload_n (pc := 15) C 1 rfl rfl dX8_goOn_15 ?_
  refine r_cVV (pc := 16) C hRm (okX8_endIfBehind h0 v1 M3 h_0) (Rc.of C rfl rfl h_0) mw_1336 cvX8_endIfBehind rfl ⟨Nat.le_of_ble_eq_true rfl, Nat.le_of_ble_eq_true rfl⟩ rfl (Nat.le_of_ble_eq_true rfl) dX8_goOn_16 (fun o6 M5 => ?_)
  exact r_vret (pc := 19) C dX8_goOn_19
theorem okX8_goOn {l : Launch} {G : WT} (h0 : W0 G) (v1 : Int32) (M : Mem) (h_0 : G.2.2.2.1 19 0 0) : Okm l G yX8_goOn cX8_goOn 2 none 2 45 [.ref (G.1 19 0 0), .int v1] voV M (pX8_goOn  v1 M) :=
  Okm.of "PermitParkModel" rfl (by decide) (Nat.le_of_ble_eq_true rfl) (L := [(0, .ref (G.1 19 0 0)), (1, .int v1)]) rfl (fun K _ hr C => lX8_goOn_0 C (by rw [hr]; exact ⟨rfl, rfl⟩) h0 v1 M h_0)
def pX8_giveUp (v1 : Int32) (v2 : Int32) (M : Mem) : Option (Unit × Mem) :=
    bnd (pX8_successor v2 M) fun o2 M1 => bnd (pX8_note (4 : Int32) v1 v2 M1) fun o4 M3 => chk (inB ((14 : Int32) + v2) 700) <| nm (wI M3 20 0 0 ((14 : Int32) + v2).toNatClampNeg o2) fun M6 => if o2 = (-1 : Int32) then (some ((), M6))
    else bnd (pX8_put o2 (3 : Int32) (0 : Int32) M6) fun o8 M7 => bnd (pX8_put o2 (8 : Int32) (-1 : Int32) M7) fun o10 M9 => bnd (pX8_note (3 : Int32) o2 v2 M9) fun o12 M11 => bnd (pX8_goOn o2 M11) fun o14 M13 => some ((), M13)
theorem lX8_giveUp_0 {K : KT} {G : WT} (C : Cx K G "PermitParkModel" cX8_giveUp 4 none) (hRm : K.2.2.2.1.frames = 3 ∧ K.2.2.2.1.locals = 75) (h0 : W0 G) (v1 : Int32) (v2 : Int32) (M : Mem) (h_0 : G.2.2.2.1 19 0 0) : Run K G 4 0 0 (FinM K G voV 0 0) 0 [(0, .ref (G.1 19 0 0)), (1, .int v1), (2, .int v2)] [] M (pX8_giveUp   v1 v2 M) := by
  rw [pX8_giveUp]
  refine r_aload_n (pc := 0) C 0 rfl rfl dX8_giveUp_0 ?_
  refine r_iload_n (pc := 1) C 2 rfl rfl dX8_giveUp_1 ?_
  refine r_cVI (pc := 2) C hRm (okX8_successor h0 v2 M h_0) (Rc.of C rfl rfl h_0) mw_1352 cvX8_successor rfl ⟨Nat.le_of_ble_eq_true rfl, Nat.le_of_ble_eq_true rfl⟩ rfl (Nat.le_of_ble_eq_true rfl) dX8_giveUp_2 (fun o2 M1 => ?_)
  refine r_istore_n (pc := 5) C [(3, .int o2), (0, .ref (G.1 19 0 0)), (1, .int v1), (2, .int v2)] dX8_giveUp_5 rfl (by decide) rfl ?_
  refine r_aload_n (pc := 6) C 1 rfl rfl dX8_giveUp_6 ?_
  refine r_iconst (pc := 7) C dX8_giveUp_7 kc_4 ?_
  refine r_iload_n (pc := 8) C 2 rfl rfl dX8_giveUp_8 ?_
  refine r_iload_n (pc := 9) C 3 rfl rfl dX8_giveUp_9 ?_
  refine r_cVV (pc := 10) C hRm (okX8_note h0 (4 : Int32) v1 v2 M1 h_0) (Rc.of C rfl rfl h_0) mw_1332 cvX8_note rfl ⟨Nat.le_of_ble_eq_true rfl, Nat.le_of_ble_eq_true rfl⟩ rfl (Nat.le_of_ble_eq_true rfl) dX8_giveUp_10 (fun o4 M3 => ?_)
  refine r_aload_n (pc := 13) C 1 rfl rfl dX8_giveUp_13 ?_
  refine r_getR (pc := 14) C FX8_state mw_1012 h_0 rfl dX8_giveUp_14 (fun g5 => ?_)
  refine r_bipush (pc := 17) C dX8_giveUp_17 kb_14 ?_
  refine r_iload_n (pc := 19) C 3 rfl rfl dX8_giveUp_19 ?_
  refine r_iadd (pc := 20) C dX8_giveUp_20 ?_
  refine r_iload_n (pc := 21) C 0 rfl rfl dX8_giveUp_21 ?_
  refine r_iast (pc := 22) C rfl g5 (fun _ => rfl) (fun _ => rfl) dX8_giveUp_22 (fun M6 => ?_)
  refine r_iload_n (pc := 23) C 0 rfl rfl dX8_giveUp_23 ?_
  refine r_iconst (pc := 24) C dX8_giveUp_24 kc_m1 ?_
  refine r_icmp_eq (pc := 25) C dX8_giveUp_25 (tgt := 55) rfl ?_ ?_
  exact r_vret (pc := 55) C dX8_giveUp_55
  refine r_aload_n (pc := 28) C 1 rfl rfl dX8_giveUp_28 ?_
  refine r_iload_n (pc := 29) C 0 rfl rfl dX8_giveUp_29 ?_
  refine r_iconst (pc := 30) C dX8_giveUp_30 kc_3 ?_
  refine r_iconst (pc := 31) C dX8_giveUp_31 kc_0 ?_
  refine r_cVV (pc := 32) C hRm (okX8_put h0 o2 (3 : Int32) (0 : Int32) M6 h_0) (Rc.of C rfl rfl h_0) mw_1166 cvX8_put rfl ⟨Nat.le_of_ble_eq_true rfl, Nat.le_of_ble_eq_true rfl⟩ rfl (Nat.le_of_ble_eq_true rfl) dX8_giveUp_32 (fun o8 M7 => ?_)
  refine r_aload_n (pc := 35) C 1 rfl rfl dX8_giveUp_35 ?_
  refine r_iload_n (pc := 36) C 0 rfl rfl dX8_giveUp_36 ?_
  refine r_bipush (pc := 37) C dX8_giveUp_37 kb_8 ?_
  refine r_iconst (pc := 39) C dX8_giveUp_39 kc_m1 ?_
  refine r_cVV (pc := 40) C hRm (okX8_put h0 o2 (8 : Int32) (-1 : Int32) M7 h_0) (Rc.of C rfl rfl h_0) mw_1166 cvX8_put rfl ⟨Nat.le_of_ble_eq_true rfl, Nat.le_of_ble_eq_true rfl⟩ rfl (Nat.le_of_ble_eq_true rfl) dX8_giveUp_40 (fun o10 M9 => ?_)
  refine r_aload_n (pc := 43) C 1 rfl rfl dX8_giveUp_43 ?_
  refine r_iconst (pc := 44) C dX8_giveUp_44 kc_3 ?_
  refine r_iload_n (pc := 45) C 0 rfl rfl dX8_giveUp_45 ?_
  refine r_iload_n (pc := 46) C 3 rfl rfl dX8_giveUp_46 ?_
  refine r_cVV (pc := 47) C hRm (okX8_note h0 (3 : Int32) o2 v2 M9 h_0) (Rc.of C rfl rfl h_0) mw_1332 cvX8_note rfl ⟨Nat.le_of_ble_eq_true rfl, Nat.le_of_ble_eq_true rfl⟩ rfl (Nat.le_of_ble_eq_true rfl) dX8_giveUp_47 (fun o12 M11 => ?_)
  refine r_aload_n (pc := 50) C 1 rfl rfl dX8_giveUp_50 ?_
  refine r_iload_n (pc := 51) C 0 rfl rfl dX8_giveUp_51 ?_
  refine r_cVV (pc := 52) C hRm (okX8_goOn h0 o2 M11 h_0) (Rc.of C rfl rfl h_0) mw_1356 cvX8_goOn rfl ⟨Nat.le_of_ble_eq_true rfl, Nat.le_of_ble_eq_true rfl⟩ rfl (Nat.le_of_ble_eq_true rfl) dX8_giveUp_52 (fun o14 M13 => ?_)
  exact r_vret (pc := 55) C dX8_giveUp_55
theorem okX8_giveUp {l : Launch} {G : WT} (h0 : W0 G) (v1 : Int32) (v2 : Int32) (M : Mem) (h_0 : G.2.2.2.1 19 0 0) : Okm l G yX8_giveUp cX8_giveUp 4 none 3 75 [.ref (G.1 19 0 0), .int v1, .int v2] voV M (pX8_giveUp  v1 v2 M) :=
  Okm.of "PermitParkModel" rfl (by decide) (Nat.le_of_ble_eq_true rfl) (L := [(0, .ref (G.1 19 0 0)), (1, .int v1), (2, .int v2)]) rfl (fun K _ hr C => lX8_giveUp_0 C (by rw [hr]; exact ⟨rfl, rfl⟩) h0 v1 v2 M h_0)
def pX8_settle_0 : Nat → Mem → Option (Unit × Mem)
  | 0, _ => none
  | n + 1, M =>
    if (M.1 19 0 0 20) ≤ 0 then (some ((), M))
    else chk (inB ((M.1 19 0 0 20) - (1 : Int32)) 12) <| nm (M.1 29 0 0 ((M.1 19 0 0 20) - (1 : Int32)).toNatClampNeg) fun x2 => bnd (pX8_lowestLock x2 M) fun o4 M3 => if ¬ o4 = (-1 : Int32) then (bnd (pX8_giveUp x2 o4 M3) fun o6 M5 => pX8_settle_0   n M5)
    else nm (wI M3 19 0 0 20 ((M3.1 19 0 0 20) - (1 : Int32))) fun M7 => pX8_settle_0   n M7
theorem lX8_settle_0 {K : KT} {G : WT} (C : Cx K G "PermitParkModel" cX8_settle 3 none) (hRm : K.2.2.2.1.frames = 4 ∧ K.2.2.2.1.locals = 98) (h0 : W0 G) : ∀ (n : Nat) (M : Mem), G.2.2.2.1 19 0 0 → Run K G 3 0 0 (FinM K G voV 0 0) 0 [(0, .ref (G.1 19 0 0))] [] M (pX8_settle_0   n  M) := by
  intro n
  induction n with
  | zero =>
    intro  M g_0
    exact r_none
  | succ n ih =>
    intro  M g_0
    rw [pX8_settle_0]
    refine r_aload_n (pc := 0) C 0 rfl rfl dX8_settle_0 ?_
    refine r_getI (pc := 1) C FX8_givers mw_1032 g_0 rfl rfl dX8_settle_1 ?_
    refine r_if_le (pc := 4) C dX8_settle_4 (tgt := 52) rfl ?_ ?_
    exact r_vret (pc := 52) C dX8_settle_52
    refine r_aload_n (pc := 7) C 0 rfl rfl dX8_settle_7 ?_
    refine r_getR (pc := 8) C FX8_giver mw_1031 g_0 rfl dX8_settle_8 (fun g1 => ?_)
    refine r_aload_n (pc := 11) C 0 rfl rfl dX8_settle_11 ?_
    refine r_getI (pc := 12) C FX8_givers mw_1032 g_0 rfl rfl dX8_settle_12 ?_
    refine r_iconst (pc := 15) C dX8_settle_15 kc_1 ?_
    refine r_isub (pc := 16) C dX8_settle_16 ?_
    refine r_iald (pc := 17) C rfl g1 (fun _ => rfl) (fun _ => rfl) dX8_settle_17 ?_
    refine r_nmi (fun x2 => ?_)
    refine r_istore_n (pc := 18) C [(1, .int x2), (0, .ref (G.1 19 0 0))] dX8_settle_18 rfl (by decide) rfl ?_
    refine r_aload_n (pc := 19) C 1 rfl rfl dX8_settle_19 ?_
    refine r_iload_n (pc := 20) C 0 rfl rfl dX8_settle_20 ?_
    refine r_cVI (pc := 21) C hRm (okX8_lowestLock h0 x2 M g_0) (Rc.of C rfl rfl g_0) mw_1344 cvX8_lowestLock rfl ⟨Nat.le_of_ble_eq_true rfl, Nat.le_of_ble_eq_true rfl⟩ rfl (Nat.le_of_ble_eq_true rfl) dX8_settle_21 (fun o4 M3 => ?_)
    refine r_istore_n (pc := 24) C [(2, .int o4), (1, .int x2), (0, .ref (G.1 19 0 0))] dX8_settle_24 rfl (by decide) rfl ?_
    refine r_iload_n (pc := 25) C 0 rfl rfl dX8_settle_25 ?_
    refine r_iconst (pc := 26) C dX8_settle_26 kc_m1 ?_
    refine r_icmp_ne (pc := 27) C dX8_settle_27 (tgt := 43) rfl ?_ ?_
    refine r_aload_n (pc := 43) C 2 rfl rfl dX8_settle_43 ?_
    refine r_iload_n (pc := 44) C 1 rfl rfl dX8_settle_44 ?_
    refine r_iload_n (pc := 45) C 0 rfl rfl dX8_settle_45 ?_
    refine r_cVV (pc := 46) C hRm (okX8_giveUp h0 x2 o4 M3 g_0) (Rc.of C rfl rfl g_0) mw_1348 cvX8_giveUp rfl ⟨Nat.le_of_ble_eq_true rfl, Nat.le_of_ble_eq_true rfl⟩ rfl (Nat.le_of_ble_eq_true rfl) dX8_settle_46 (fun o6 M5 => ?_)
    refine r_goto (pc := 49) C dX8_settle_49 (tgt := 0) rfl ?_
    refine r_sub [2] rfl ?_
    exact ih M5 g_0
    refine r_aload_n (pc := 30) C 2 rfl rfl dX8_settle_30 ?_
    refine r_dup (pc := 31) C dX8_settle_31 rfl ?_
    refine r_getI (pc := 32) C FX8_givers mw_1032 g_0 rfl rfl dX8_settle_32 ?_
    refine r_iconst (pc := 35) C dX8_settle_35 kc_1 ?_
    refine r_isub (pc := 36) C dX8_settle_36 ?_
    refine r_putI (pc := 37) C FX8_givers mw_1032 g_0 tyX8 tyX8_ok nmX8 (fun _ _ => rfl) rfl dX8_settle_37 (fun M7 => ?_)
    refine r_goto (pc := 40) C dX8_settle_40 (tgt := 49) rfl ?_
    refine r_goto (pc := 49) C dX8_settle_49 (tgt := 0) rfl ?_
    refine r_sub [2] rfl ?_
    exact ih M7 g_0
def pX8_settle (M : Mem) : Option (Unit × Mem) :=
    pX8_settle_0   fu M
theorem lX8_settle_E {K : KT} {G : WT} (C : Cx K G "PermitParkModel" cX8_settle 3 none) (hRm : K.2.2.2.1.frames = 4 ∧ K.2.2.2.1.locals = 98) (h0 : W0 G) (M : Mem) (h_0 : G.2.2.2.1 19 0 0) : Run K G 3 0 0 (FinM K G voV 0 0) 0 [(0, .ref (G.1 19 0 0))] [] M (pX8_settle    M) := by
  rw [pX8_settle]
  exact lX8_settle_0   C hRm h0  fu M h_0
theorem okX8_settle {l : Launch} {G : WT} (h0 : W0 G) (M : Mem) (h_0 : G.2.2.2.1 19 0 0) : Okm l G yX8_settle cX8_settle 3 none 4 98 [.ref (G.1 19 0 0)] voV M (pX8_settle   M) :=
  Okm.of "PermitParkModel" rfl (by decide) (Nat.le_of_ble_eq_true rfl) (L := [(0, .ref (G.1 19 0 0))]) rfl (fun K _ hr C => lX8_settle_E C (by rw [hr]; exact ⟨rfl, rfl⟩) h0  M h_0)
def pX8_comeBack (v1 : Int32) (v2 : Int32) (M : Mem) : Option (Unit × Mem) :=
    bnd (pX8_put v1 (3 : Int32) (0 : Int32) M) fun o2 M1 => bnd (pX8_put v1 (7 : Int32) (-1 : Int32) M1) fun o4 M3 => bnd (pX8_put v1 (6 : Int32) v2 M3) fun o6 M5 => bnd (pX8_grow v1 ((11 : Int32) + v2) M5) fun o8 M7 => bnd (pX8_note (1 : Int32) v1 v2 M7) fun o10 M9 => bnd (pX8_endIfBehind v1 M9) fun o12 M11 => bnd (pX8_settle M11) fun o14 M13 => some ((), M13)
theorem lX8_comeBack_0 {K : KT} {G : WT} (C : Cx K G "PermitParkModel" cX8_comeBack 3 none) (hRm : K.2.2.2.1.frames = 5 ∧ K.2.2.2.1.locals = 120) (h0 : W0 G) (v1 : Int32) (v2 : Int32) (M : Mem) (h_0 : G.2.2.2.1 19 0 0) : Run K G 3 0 0 (FinM K G voV 0 0) 0 [(0, .ref (G.1 19 0 0)), (1, .int v1), (2, .int v2)] [] M (pX8_comeBack   v1 v2 M) := by
  rw [pX8_comeBack]
  refine r_aload_n (pc := 0) C 0 rfl rfl dX8_comeBack_0 ?_
  refine r_iload_n (pc := 1) C 1 rfl rfl dX8_comeBack_1 ?_
  refine r_iconst (pc := 2) C dX8_comeBack_2 kc_3 ?_
  refine r_iconst (pc := 3) C dX8_comeBack_3 kc_0 ?_
  refine r_cVV (pc := 4) C hRm (okX8_put h0 v1 (3 : Int32) (0 : Int32) M h_0) (Rc.of C rfl rfl h_0) mw_1166 cvX8_put rfl ⟨Nat.le_of_ble_eq_true rfl, Nat.le_of_ble_eq_true rfl⟩ rfl (Nat.le_of_ble_eq_true rfl) dX8_comeBack_4 (fun o2 M1 => ?_)
  refine r_aload_n (pc := 7) C 0 rfl rfl dX8_comeBack_7 ?_
  refine r_iload_n (pc := 8) C 1 rfl rfl dX8_comeBack_8 ?_
  refine r_bipush (pc := 9) C dX8_comeBack_9 kb_7 ?_
  refine r_iconst (pc := 11) C dX8_comeBack_11 kc_m1 ?_
  refine r_cVV (pc := 12) C hRm (okX8_put h0 v1 (7 : Int32) (-1 : Int32) M1 h_0) (Rc.of C rfl rfl h_0) mw_1166 cvX8_put rfl ⟨Nat.le_of_ble_eq_true rfl, Nat.le_of_ble_eq_true rfl⟩ rfl (Nat.le_of_ble_eq_true rfl) dX8_comeBack_12 (fun o4 M3 => ?_)
  refine r_aload_n (pc := 15) C 0 rfl rfl dX8_comeBack_15 ?_
  refine r_iload_n (pc := 16) C 1 rfl rfl dX8_comeBack_16 ?_
  refine r_bipush (pc := 17) C dX8_comeBack_17 kb_6 ?_
  refine r_iload_n (pc := 19) C 2 rfl rfl dX8_comeBack_19 ?_
  refine r_cVV (pc := 20) C hRm (okX8_put h0 v1 (6 : Int32) v2 M3 h_0) (Rc.of C rfl rfl h_0) mw_1166 cvX8_put rfl ⟨Nat.le_of_ble_eq_true rfl, Nat.le_of_ble_eq_true rfl⟩ rfl (Nat.le_of_ble_eq_true rfl) dX8_comeBack_20 (fun o6 M5 => ?_)
  refine r_aload_n (pc := 23) C 0 rfl rfl dX8_comeBack_23 ?_
  refine r_iload_n (pc := 24) C 1 rfl rfl dX8_comeBack_24 ?_
  refine r_bipush (pc := 25) C dX8_comeBack_25 kb_11 ?_
  refine r_iload_n (pc := 27) C 2 rfl rfl dX8_comeBack_27 ?_
  refine r_iadd (pc := 28) C dX8_comeBack_28 ?_
  refine r_cVV (pc := 29) C hRm (okX8_grow h0 v1 ((11 : Int32) + v2) M5 h_0) (Rc.of C rfl rfl h_0) mw_1204 cvX8_grow rfl ⟨Nat.le_of_ble_eq_true rfl, Nat.le_of_ble_eq_true rfl⟩ rfl (Nat.le_of_ble_eq_true rfl) dX8_comeBack_29 (fun o8 M7 => ?_)
  refine r_aload_n (pc := 32) C 0 rfl rfl dX8_comeBack_32 ?_
  refine r_iconst (pc := 33) C dX8_comeBack_33 kc_1 ?_
  refine r_iload_n (pc := 34) C 1 rfl rfl dX8_comeBack_34 ?_
  refine r_iload_n (pc := 35) C 2 rfl rfl dX8_comeBack_35 ?_
  refine r_cVV (pc := 36) C hRm (okX8_note h0 (1 : Int32) v1 v2 M7 h_0) (Rc.of C rfl rfl h_0) mw_1332 cvX8_note rfl ⟨Nat.le_of_ble_eq_true rfl, Nat.le_of_ble_eq_true rfl⟩ rfl (Nat.le_of_ble_eq_true rfl) dX8_comeBack_36 (fun o10 M9 => ?_)
  refine r_aload_n (pc := 39) C 0 rfl rfl dX8_comeBack_39 ?_
  refine r_iload_n (pc := 40) C 1 rfl rfl dX8_comeBack_40 ?_
  refine r_cVV (pc := 41) C hRm (okX8_endIfBehind h0 v1 M9 h_0) (Rc.of C rfl rfl h_0) mw_1336 cvX8_endIfBehind rfl ⟨Nat.le_of_ble_eq_true rfl, Nat.le_of_ble_eq_true rfl⟩ rfl (Nat.le_of_ble_eq_true rfl) dX8_comeBack_41 (fun o12 M11 => ?_)
  refine r_aload_n (pc := 44) C 0 rfl rfl dX8_comeBack_44 ?_
  refine r_cVV (pc := 45) C hRm (okX8_settle h0 M11 h_0) (Rc.of C rfl rfl h_0) mw_1340 cvX8_settle rfl ⟨Nat.le_of_ble_eq_true rfl, Nat.le_of_ble_eq_true rfl⟩ rfl (Nat.le_of_ble_eq_true rfl) dX8_comeBack_45 (fun o14 M13 => ?_)
  exact r_vret (pc := 48) C dX8_comeBack_48
theorem okX8_comeBack {l : Launch} {G : WT} (h0 : W0 G) (v1 : Int32) (v2 : Int32) (M : Mem) (h_0 : G.2.2.2.1 19 0 0) : Okm l G yX8_comeBack cX8_comeBack 3 none 5 120 [.ref (G.1 19 0 0), .int v1, .int v2] voV M (pX8_comeBack  v1 v2 M) :=
  Okm.of "PermitParkModel" rfl (by decide) (Nat.le_of_ble_eq_true rfl) (L := [(0, .ref (G.1 19 0 0)), (1, .int v1), (2, .int v2)]) rfl (fun K _ hr C => lX8_comeBack_0 C (by rw [hr]; exact ⟨rfl, rfl⟩) h0 v1 v2 M h_0)
def pX8_park (v1 : Int32) (v2 : Int32) (M : Mem) : Option (Unit × Mem) :=
    bnd (pX8_of v1 (5 : Int32) M) fun o2 M1 => if ¬ o2 = (1 : Int32) then (bnd (pX8_of v1 (4 : Int32) M1) fun o4 M3 => if ¬ o4 = (1 : Int32) then (bnd (pX8_put v1 (3 : Int32) (1 : Int32) M3) fun o6 M5 => bnd (pX8_put v1 (7 : Int32) v2 M5) fun o8 M7 => bnd (pX8_grow v1 (11 : Int32) M7) fun o10 M9 => bnd (pX8_note (0 : Int32) v1 v2 M9) fun o12 M11 => some ((), M11))
    else bnd (pX8_put v1 (4 : Int32) (0 : Int32) M3) fun o14 M13 => bnd (pX8_put v1 (6 : Int32) (1 : Int32) M13) fun o16 M15 => some ((), M15))
    else bnd (pX8_put v1 (5 : Int32) (0 : Int32) M1) fun o18 M17 => bnd (pX8_put v1 (6 : Int32) (4 : Int32) M17) fun o20 M19 => some ((), M19)
theorem lX8_park_0 {K : KT} {G : WT} (C : Cx K G "PermitParkModel" cX8_park 3 none) (hRm : K.2.2.2.1.frames = 1 ∧ K.2.2.2.1.locals = 24) (h0 : W0 G) (v1 : Int32) (v2 : Int32) (M : Mem) (h_0 : G.2.2.2.1 19 0 0) : Run K G 3 0 0 (FinM K G voV 0 0) 0 [(0, .ref (G.1 19 0 0)), (1, .int v1), (2, .int v2)] [] M (pX8_park   v1 v2 M) := by
  rw [pX8_park]
  refine r_aload_n (pc := 0) C 0 rfl rfl dX8_park_0 ?_
  refine r_iload_n (pc := 1) C 1 rfl rfl dX8_park_1 ?_
  refine r_iconst (pc := 2) C dX8_park_2 kc_5 ?_
  refine r_cVI (pc := 3) C hRm (okX8_of h0 v1 (5 : Int32) M h_0) (Rc.of C rfl rfl h_0) mw_1193 cvX8_of rfl ⟨Nat.le_of_ble_eq_true rfl, Nat.le_of_ble_eq_true rfl⟩ rfl (Nat.le_of_ble_eq_true rfl) dX8_park_3 (fun o2 M1 => ?_)
  refine r_iconst (pc := 6) C dX8_park_6 kc_1 ?_
  refine r_icmp_ne (pc := 7) C dX8_park_7 (tgt := 28) rfl ?_ ?_
  refine r_aload_n (pc := 28) C 0 rfl rfl dX8_park_28 ?_
  refine r_iload_n (pc := 29) C 1 rfl rfl dX8_park_29 ?_
  refine r_iconst (pc := 30) C dX8_park_30 kc_4 ?_
  refine r_cVI (pc := 31) C hRm (okX8_of h0 v1 (4 : Int32) M1 h_0) (Rc.of C rfl rfl h_0) mw_1193 cvX8_of rfl ⟨Nat.le_of_ble_eq_true rfl, Nat.le_of_ble_eq_true rfl⟩ rfl (Nat.le_of_ble_eq_true rfl) dX8_park_31 (fun o4 M3 => ?_)
  refine r_iconst (pc := 34) C dX8_park_34 kc_1 ?_
  refine r_icmp_ne (pc := 35) C dX8_park_35 (tgt := 56) rfl ?_ ?_
  refine r_aload_n (pc := 56) C 0 rfl rfl dX8_park_56 ?_
  refine r_iload_n (pc := 57) C 1 rfl rfl dX8_park_57 ?_
  refine r_iconst (pc := 58) C dX8_park_58 kc_3 ?_
  refine r_iconst (pc := 59) C dX8_park_59 kc_1 ?_
  refine r_cVV (pc := 60) C hRm (okX8_put h0 v1 (3 : Int32) (1 : Int32) M3 h_0) (Rc.of C rfl rfl h_0) mw_1166 cvX8_put rfl ⟨Nat.le_of_ble_eq_true rfl, Nat.le_of_ble_eq_true rfl⟩ rfl (Nat.le_of_ble_eq_true rfl) dX8_park_60 (fun o6 M5 => ?_)
  refine r_aload_n (pc := 63) C 0 rfl rfl dX8_park_63 ?_
  refine r_iload_n (pc := 64) C 1 rfl rfl dX8_park_64 ?_
  refine r_bipush (pc := 65) C dX8_park_65 kb_7 ?_
  refine r_iload_n (pc := 67) C 2 rfl rfl dX8_park_67 ?_
  refine r_cVV (pc := 68) C hRm (okX8_put h0 v1 (7 : Int32) v2 M5 h_0) (Rc.of C rfl rfl h_0) mw_1166 cvX8_put rfl ⟨Nat.le_of_ble_eq_true rfl, Nat.le_of_ble_eq_true rfl⟩ rfl (Nat.le_of_ble_eq_true rfl) dX8_park_68 (fun o8 M7 => ?_)
  refine r_aload_n (pc := 71) C 0 rfl rfl dX8_park_71 ?_
  refine r_iload_n (pc := 72) C 1 rfl rfl dX8_park_72 ?_
  refine r_bipush (pc := 73) C dX8_park_73 kb_11 ?_
  refine r_cVV (pc := 75) C hRm (okX8_grow h0 v1 (11 : Int32) M7 h_0) (Rc.of C rfl rfl h_0) mw_1204 cvX8_grow rfl ⟨Nat.le_of_ble_eq_true rfl, Nat.le_of_ble_eq_true rfl⟩ rfl (Nat.le_of_ble_eq_true rfl) dX8_park_75 (fun o10 M9 => ?_)
  refine r_aload_n (pc := 78) C 0 rfl rfl dX8_park_78 ?_
  refine r_iconst (pc := 79) C dX8_park_79 kc_0 ?_
  refine r_iload_n (pc := 80) C 1 rfl rfl dX8_park_80 ?_
  refine r_iload_n (pc := 81) C 2 rfl rfl dX8_park_81 ?_
  refine r_cVV (pc := 82) C hRm (okX8_note h0 (0 : Int32) v1 v2 M9 h_0) (Rc.of C rfl rfl h_0) mw_1332 cvX8_note rfl ⟨Nat.le_of_ble_eq_true rfl, Nat.le_of_ble_eq_true rfl⟩ rfl (Nat.le_of_ble_eq_true rfl) dX8_park_82 (fun o12 M11 => ?_)
  exact r_vret (pc := 85) C dX8_park_85
  refine r_aload_n (pc := 38) C 0 rfl rfl dX8_park_38 ?_
  refine r_iload_n (pc := 39) C 1 rfl rfl dX8_park_39 ?_
  refine r_iconst (pc := 40) C dX8_park_40 kc_4 ?_
  refine r_iconst (pc := 41) C dX8_park_41 kc_0 ?_
  refine r_cVV (pc := 42) C hRm (okX8_put h0 v1 (4 : Int32) (0 : Int32) M3 h_0) (Rc.of C rfl rfl h_0) mw_1166 cvX8_put rfl ⟨Nat.le_of_ble_eq_true rfl, Nat.le_of_ble_eq_true rfl⟩ rfl (Nat.le_of_ble_eq_true rfl) dX8_park_42 (fun o14 M13 => ?_)
  refine r_aload_n (pc := 45) C 0 rfl rfl dX8_park_45 ?_
  refine r_iload_n (pc := 46) C 1 rfl rfl dX8_park_46 ?_
  refine r_bipush (pc := 47) C dX8_park_47 kb_6 ?_
  refine r_iconst (pc := 49) C dX8_park_49 kc_1 ?_
  refine r_cVV (pc := 50) C hRm (okX8_put h0 v1 (6 : Int32) (1 : Int32) M13 h_0) (Rc.of C rfl rfl h_0) mw_1166 cvX8_put rfl ⟨Nat.le_of_ble_eq_true rfl, Nat.le_of_ble_eq_true rfl⟩ rfl (Nat.le_of_ble_eq_true rfl) dX8_park_50 (fun o16 M15 => ?_)
  refine r_goto (pc := 53) C dX8_park_53 (tgt := 85) rfl ?_
  exact r_vret (pc := 85) C dX8_park_85
  refine r_aload_n (pc := 10) C 0 rfl rfl dX8_park_10 ?_
  refine r_iload_n (pc := 11) C 1 rfl rfl dX8_park_11 ?_
  refine r_iconst (pc := 12) C dX8_park_12 kc_5 ?_
  refine r_iconst (pc := 13) C dX8_park_13 kc_0 ?_
  refine r_cVV (pc := 14) C hRm (okX8_put h0 v1 (5 : Int32) (0 : Int32) M1 h_0) (Rc.of C rfl rfl h_0) mw_1166 cvX8_put rfl ⟨Nat.le_of_ble_eq_true rfl, Nat.le_of_ble_eq_true rfl⟩ rfl (Nat.le_of_ble_eq_true rfl) dX8_park_14 (fun o18 M17 => ?_)
  refine r_aload_n (pc := 17) C 0 rfl rfl dX8_park_17 ?_
  refine r_iload_n (pc := 18) C 1 rfl rfl dX8_park_18 ?_
  refine r_bipush (pc := 19) C dX8_park_19 kb_6 ?_
  refine r_iconst (pc := 21) C dX8_park_21 kc_4 ?_
  refine r_cVV (pc := 22) C hRm (okX8_put h0 v1 (6 : Int32) (4 : Int32) M17 h_0) (Rc.of C rfl rfl h_0) mw_1166 cvX8_put rfl ⟨Nat.le_of_ble_eq_true rfl, Nat.le_of_ble_eq_true rfl⟩ rfl (Nat.le_of_ble_eq_true rfl) dX8_park_22 (fun o20 M19 => ?_)
  refine r_goto (pc := 25) C dX8_park_25 (tgt := 85) rfl ?_
  exact r_vret (pc := 85) C dX8_park_85
theorem okX8_park {l : Launch} {G : WT} (h0 : W0 G) (v1 : Int32) (v2 : Int32) (M : Mem) (h_0 : G.2.2.2.1 19 0 0) : Okm l G yX8_park cX8_park 3 none 1 24 [.ref (G.1 19 0 0), .int v1, .int v2] voV M (pX8_park  v1 v2 M) :=
  Okm.of "PermitParkModel" rfl (by decide) (Nat.le_of_ble_eq_true rfl) (L := [(0, .ref (G.1 19 0 0)), (1, .int v1), (2, .int v2)]) rfl (fun K _ hr C => lX8_park_0 C (by rw [hr]; exact ⟨rfl, rfl⟩) h0 v1 v2 M h_0)
def pX8_wakeUp (v1 : Int32) (v2 : Int32) (M : Mem) : Option (Int32 × Mem) :=
    bnd (pX8_of v1 (3 : Int32) M) fun o2 M1 => if ¬ o2 = (1 : Int32) then (bnd (pX8_of v1 (3 : Int32) M1) fun o4 M3 => if o4 < (3 : Int32) then (bnd (pX8_of v1 (4 : Int32) M3) fun o6 M5 => if ¬ o6 = (1 : Int32) then (bnd (pX8_put v1 (4 : Int32) (1 : Int32) M5) fun o8 M7 => some ((1 : Int32), M7))
    else chk (inB (8 : Int32) 700) <| chk (inB (8 : Int32) 700) <| nm (wI M5 20 0 0 (8 : Int32).toNatClampNeg ((M5.1 20 0 0 (8 : Int32).toNatClampNeg) + (1 : Int32))) fun M10 => bnd (pX8_note (7 : Int32) v1 v2 M10) fun o12 M11 => some ((2 : Int32), M11))
    else chk (inB (9 : Int32) 700) <| chk (inB (9 : Int32) 700) <| nm (wI M3 20 0 0 (9 : Int32).toNatClampNeg ((M3.1 20 0 0 (9 : Int32).toNatClampNeg) + (1 : Int32))) fun M14 => some ((3 : Int32), M14))
    else bnd (pX8_comeBack v1 (1 : Int32) M1) fun o16 M15 => some ((0 : Int32), M15)
theorem lX8_wakeUp_0 {K : KT} {G : WT} (C : Cx K G "PermitParkModel" cX8_wakeUp 3 (some FieldType.int)) (hRm : K.2.2.2.1.frames = 6 ∧ K.2.2.2.1.locals = 142) (h0 : W0 G) (v1 : Int32) (v2 : Int32) (M : Mem) (h_0 : G.2.2.2.1 19 0 0) : Run K G 3 0 0 (FinM K G voI 0 0) 0 [(0, .ref (G.1 19 0 0)), (1, .int v1), (2, .int v2)] [] M (pX8_wakeUp   v1 v2 M) := by
  rw [pX8_wakeUp]
  refine r_aload_n (pc := 0) C 0 rfl rfl dX8_wakeUp_0 ?_
  refine r_iload_n (pc := 1) C 1 rfl rfl dX8_wakeUp_1 ?_
  refine r_iconst (pc := 2) C dX8_wakeUp_2 kc_3 ?_
  refine r_cVI (pc := 3) C hRm (okX8_of h0 v1 (3 : Int32) M h_0) (Rc.of C rfl rfl h_0) mw_1193 cvX8_of rfl ⟨Nat.le_of_ble_eq_true rfl, Nat.le_of_ble_eq_true rfl⟩ rfl (Nat.le_of_ble_eq_true rfl) dX8_wakeUp_3 (fun o2 M1 => ?_)
  refine r_iconst (pc := 6) C dX8_wakeUp_6 kc_1 ?_
  refine r_icmp_ne (pc := 7) C dX8_wakeUp_7 (tgt := 18) rfl ?_ ?_
  refine r_aload_n (pc := 18) C 0 rfl rfl dX8_wakeUp_18 ?_
  refine r_iload_n (pc := 19) C 1 rfl rfl dX8_wakeUp_19 ?_
  refine r_iconst (pc := 20) C dX8_wakeUp_20 kc_3 ?_
  refine r_cVI (pc := 21) C hRm (okX8_of h0 v1 (3 : Int32) M1 h_0) (Rc.of C rfl rfl h_0) mw_1193 cvX8_of rfl ⟨Nat.le_of_ble_eq_true rfl, Nat.le_of_ble_eq_true rfl⟩ rfl (Nat.le_of_ble_eq_true rfl) dX8_wakeUp_21 (fun o4 M3 => ?_)
  refine r_iconst (pc := 24) C dX8_wakeUp_24 kc_3 ?_
  refine r_icmp_lt (pc := 25) C dX8_wakeUp_25 (tgt := 41) rfl ?_ ?_
  refine r_aload_n (pc := 41) C 0 rfl rfl dX8_wakeUp_41 ?_
  refine r_iload_n (pc := 42) C 1 rfl rfl dX8_wakeUp_42 ?_
  refine r_iconst (pc := 43) C dX8_wakeUp_43 kc_4 ?_
  refine r_cVI (pc := 44) C hRm (okX8_of h0 v1 (4 : Int32) M3 h_0) (Rc.of C rfl rfl h_0) mw_1193 cvX8_of rfl ⟨Nat.le_of_ble_eq_true rfl, Nat.le_of_ble_eq_true rfl⟩ rfl (Nat.le_of_ble_eq_true rfl) dX8_wakeUp_44 (fun o6 M5 => ?_)
  refine r_iconst (pc := 47) C dX8_wakeUp_47 kc_1 ?_
  refine r_icmp_ne (pc := 48) C dX8_wakeUp_48 (tgt := 72) rfl ?_ ?_
  refine r_aload_n (pc := 72) C 0 rfl rfl dX8_wakeUp_72 ?_
  refine r_iload_n (pc := 73) C 1 rfl rfl dX8_wakeUp_73 ?_
  refine r_iconst (pc := 74) C dX8_wakeUp_74 kc_4 ?_
  refine r_iconst (pc := 75) C dX8_wakeUp_75 kc_1 ?_
  refine r_cVV (pc := 76) C hRm (okX8_put h0 v1 (4 : Int32) (1 : Int32) M5 h_0) (Rc.of C rfl rfl h_0) mw_1166 cvX8_put rfl ⟨Nat.le_of_ble_eq_true rfl, Nat.le_of_ble_eq_true rfl⟩ rfl (Nat.le_of_ble_eq_true rfl) dX8_wakeUp_76 (fun o8 M7 => ?_)
  refine r_iconst (pc := 79) C dX8_wakeUp_79 kc_1 ?_
  exact r_iret (pc := 80) C rfl dX8_wakeUp_80
  refine r_aload_n (pc := 51) C 0 rfl rfl dX8_wakeUp_51 ?_
  refine r_getR (pc := 52) C FX8_state mw_1012 h_0 rfl dX8_wakeUp_52 (fun g9 => ?_)
  refine r_bipush (pc := 55) C dX8_wakeUp_55 kb_8 ?_
  refine r_dup2_11 (pc := 57) C dX8_wakeUp_57 rfl rfl ?_
  refine r_iald (pc := 58) C rfl g9 (fun _ => rfl) (fun _ => rfl) dX8_wakeUp_58 ?_
  refine r_iconst (pc := 59) C dX8_wakeUp_59 kc_1 ?_
  refine r_iadd (pc := 60) C dX8_wakeUp_60 ?_
  refine r_iast (pc := 61) C rfl g9 (fun _ => rfl) (fun _ => rfl) dX8_wakeUp_61 (fun M10 => ?_)
  refine r_aload_n (pc := 62) C 0 rfl rfl dX8_wakeUp_62 ?_
  refine r_bipush (pc := 63) C dX8_wakeUp_63 kb_7 ?_
  refine r_iload_n (pc := 65) C 1 rfl rfl dX8_wakeUp_65 ?_
  refine r_iload_n (pc := 66) C 2 rfl rfl dX8_wakeUp_66 ?_
  refine r_cVV (pc := 67) C hRm (okX8_note h0 (7 : Int32) v1 v2 M10 h_0) (Rc.of C rfl rfl h_0) mw_1332 cvX8_note rfl ⟨Nat.le_of_ble_eq_true rfl, Nat.le_of_ble_eq_true rfl⟩ rfl (Nat.le_of_ble_eq_true rfl) dX8_wakeUp_67 (fun o12 M11 => ?_)
  refine r_iconst (pc := 70) C dX8_wakeUp_70 kc_2 ?_
  exact r_iret (pc := 71) C rfl dX8_wakeUp_71
  refine r_aload_n (pc := 28) C 0 rfl rfl dX8_wakeUp_28 ?_
  refine r_getR (pc := 29) C FX8_state mw_1012 h_0 rfl dX8_wakeUp_29 (fun g13 => ?_)
  refine r_bipush (pc := 32) C dX8_wakeUp_32 kb_9 ?_
  refine r_dup2_11 (pc := 34) C dX8_wakeUp_34 rfl rfl ?_
  refine r_iald (pc := 35) C rfl g13 (fun _ => rfl) (fun _ => rfl) dX8_wakeUp_35 ?_
  refine r_iconst (pc := 36) C dX8_wakeUp_36 kc_1 ?_
  refine r_iadd (pc := 37) C dX8_wakeUp_37 ?_
  refine r_iast (pc := 38) C rfl g13 (fun _ => rfl) (fun _ => rfl) dX8_wakeUp_38 (fun M14 => ?_)
  refine r_iconst (pc := 39) C dX8_wakeUp_39 kc_3 ?_
  exact r_iret (pc := 40) C rfl dX8_wakeUp_40
  refine r_aload_n (pc := 10) C 0 rfl rfl dX8_wakeUp_10 ?_
  refine r_iload_n (pc := 11) C 1 rfl rfl dX8_wakeUp_11 ?_
  refine r_iconst (pc := 12) C dX8_wakeUp_12 kc_1 ?_
  refine r_cVV (pc := 13) C hRm (okX8_comeBack h0 v1 (1 : Int32) M1 h_0) (Rc.of C rfl rfl h_0) mw_1328 cvX8_comeBack rfl ⟨Nat.le_of_ble_eq_true rfl, Nat.le_of_ble_eq_true rfl⟩ rfl (Nat.le_of_ble_eq_true rfl) dX8_wakeUp_13 (fun o16 M15 => ?_)
  refine r_iconst (pc := 16) C dX8_wakeUp_16 kc_0 ?_
  exact r_iret (pc := 17) C rfl dX8_wakeUp_17
theorem okX8_wakeUp {l : Launch} {G : WT} (h0 : W0 G) (v1 : Int32) (v2 : Int32) (M : Mem) (h_0 : G.2.2.2.1 19 0 0) : Okm l G yX8_wakeUp cX8_wakeUp 3 (some FieldType.int) 6 142 [.ref (G.1 19 0 0), .int v1, .int v2] voI M (pX8_wakeUp  v1 v2 M) :=
  Okm.of "PermitParkModel" rfl (by decide) (Nat.le_of_ble_eq_true rfl) (L := [(0, .ref (G.1 19 0 0)), (1, .int v1), (2, .int v2)]) rfl (fun K _ hr C => lX8_wakeUp_0 C (by rw [hr]; exact ⟨rfl, rfl⟩) h0 v1 v2 M h_0)
def pX8_wake (v1 : Int32) (M : Mem) : Option (Int32 × Mem) :=
    nm (wI M 19 0 0 7 (0 : Int32)) fun M1 => bnd (pX8_isThread v1 M1) fun o3 M2 => if o3 = 0 then (bnd (pX8_fail (1 : Int32) M2) fun o5 M4 => some (o5, M4))
    else bnd (pX8_wakeUp v1 (-1 : Int32) M2) fun o7 M6 => some (o7, M6)
theorem lX8_wake_0 {K : KT} {G : WT} (C : Cx K G "PermitParkModel" cX8_wake 2 (some FieldType.int)) (hRm : K.2.2.2.1.frames = 7 ∧ K.2.2.2.1.locals = 164) (h0 : W0 G) (v1 : Int32) (M : Mem) (h_0 : G.2.2.2.1 19 0 0) : Run K G 2 0 0 (FinM K G voI 0 0) 0 [(0, .ref (G.1 19 0 0)), (1, .int v1)] [] M (pX8_wake   v1 M) := by
  rw [pX8_wake]
  refine r_aload_n (pc := 0) C 0 rfl rfl dX8_wake_0 ?_
  refine r_iconst (pc := 1) C dX8_wake_1 kc_0 ?_
  refine r_putI (pc := 2) C FX8_thrown mw_1019 h_0 tyX8 tyX8_ok nmX8 (fun _ _ => rfl) rfl dX8_wake_2 (fun M1 => ?_)
  refine r_aload_n (pc := 5) C 0 rfl rfl dX8_wake_5 ?_
  refine r_iload_n (pc := 6) C 1 rfl rfl dX8_wake_6 ?_
  refine r_cVI (pc := 7) C hRm (okX8_isThread h0 v1 M1 h_0) (Rc.of C rfl rfl h_0) mw_1251 cvX8_isThread rfl ⟨Nat.le_of_ble_eq_true rfl, Nat.le_of_ble_eq_true rfl⟩ rfl (Nat.le_of_ble_eq_true rfl) dX8_wake_7 (fun o3 M2 => ?_)
  refine r_if_eq (pc := 10) C dX8_wake_10 (tgt := 22) rfl ?_ ?_
  refine r_aload_n (pc := 22) C 0 rfl rfl dX8_wake_22 ?_
  refine r_iconst (pc := 23) C dX8_wake_23 kc_1 ?_
  refine r_cVI (pc := 24) C hRm (okX8_fail h0 (1 : Int32) M2 h_0) (Rc.of C rfl rfl h_0) mw_1084 cvX8_fail rfl ⟨Nat.le_of_ble_eq_true rfl, Nat.le_of_ble_eq_true rfl⟩ rfl (Nat.le_of_ble_eq_true rfl) dX8_wake_24 (fun o5 M4 => ?_)
  exact r_iret (pc := 27) C rfl dX8_wake_27
  refine r_aload_n (pc := 13) C 0 rfl rfl dX8_wake_13 ?_
  refine r_iload_n (pc := 14) C 1 rfl rfl dX8_wake_14 ?_
  refine r_iconst (pc := 15) C dX8_wake_15 kc_m1 ?_
  refine r_cVI (pc := 16) C hRm (okX8_wakeUp h0 v1 (-1 : Int32) M2 h_0) (Rc.of C rfl rfl h_0) mw_1324 cvX8_wakeUp rfl ⟨Nat.le_of_ble_eq_true rfl, Nat.le_of_ble_eq_true rfl⟩ rfl (Nat.le_of_ble_eq_true rfl) dX8_wake_16 (fun o7 M6 => ?_)
  refine r_goto (pc := 19) C dX8_wake_19 (tgt := 27) rfl ?_
  exact r_iret (pc := 27) C rfl dX8_wake_27
theorem okX8_wake {l : Launch} {G : WT} (h0 : W0 G) (v1 : Int32) (M : Mem) (h_0 : G.2.2.2.1 19 0 0) : Okm l G yX8_wake cX8_wake 2 (some FieldType.int) 7 164 [.ref (G.1 19 0 0), .int v1] voI M (pX8_wake  v1 M) :=
  Okm.of "PermitParkModel" rfl (by decide) (Nat.le_of_ble_eq_true rfl) (L := [(0, .ref (G.1 19 0 0)), (1, .int v1)]) rfl (fun K _ hr C => lX8_wake_0 C (by rw [hr]; exact ⟨rfl, rfl⟩) h0 v1 M h_0)
def pX8_interrupt (v1 : Int32) (M : Mem) : Option (Int32 × Mem) :=
    nm (wI M 19 0 0 7 (0 : Int32)) fun M1 => bnd (pX8_isThread v1 M1) fun o3 M2 => if ¬ o3 = 0 then (bnd (pX8_of v1 (3 : Int32) M2) fun o5 M4 => if ¬ o5 = (1 : Int32) then (bnd (pX8_of v1 (3 : Int32) M4) fun o7 M6 => if o7 < (3 : Int32) then (bnd (pX8_of v1 (5 : Int32) M6) fun o9 M8 => bnd (pX8_put v1 (5 : Int32) (1 : Int32) M8) fun o11 M10 => if ¬ o9 = (1 : Int32) then (some ((1 : Int32), M10))
    else some ((2 : Int32), M10))
    else some ((3 : Int32), M6))
    else bnd (pX8_comeBack v1 (4 : Int32) M4) fun o13 M12 => some ((0 : Int32), M12))
    else bnd (pX8_fail (1 : Int32) M2) fun o15 M14 => some (o15, M14)
theorem lX8_interrupt_0 {K : KT} {G : WT} (C : Cx K G "PermitParkModel" cX8_interrupt 3 (some FieldType.int)) (hRm : K.2.2.2.1.frames = 6 ∧ K.2.2.2.1.locals = 142) (h0 : W0 G) (v1 : Int32) (M : Mem) (h_0 : G.2.2.2.1 19 0 0) : Run K G 3 0 0 (FinM K G voI 0 0) 0 [(0, .ref (G.1 19 0 0)), (1, .int v1)] [] M (pX8_interrupt   v1 M) := by
  rw [pX8_interrupt]
  refine r_aload_n (pc := 0) C 0 rfl rfl dX8_interrupt_0 ?_
  refine r_iconst (pc := 1) C dX8_interrupt_1 kc_0 ?_
  refine r_putI (pc := 2) C FX8_thrown mw_1019 h_0 tyX8 tyX8_ok nmX8 (fun _ _ => rfl) rfl dX8_interrupt_2 (fun M1 => ?_)
  refine r_aload_n (pc := 5) C 0 rfl rfl dX8_interrupt_5 ?_
  refine r_iload_n (pc := 6) C 1 rfl rfl dX8_interrupt_6 ?_
  refine r_cVI (pc := 7) C hRm (okX8_isThread h0 v1 M1 h_0) (Rc.of C rfl rfl h_0) mw_1251 cvX8_isThread rfl ⟨Nat.le_of_ble_eq_true rfl, Nat.le_of_ble_eq_true rfl⟩ rfl (Nat.le_of_ble_eq_true rfl) dX8_interrupt_7 (fun o3 M2 => ?_)
  refine r_if_ne (pc := 10) C dX8_interrupt_10 (tgt := 19) rfl ?_ ?_
  refine r_aload_n (pc := 19) C 0 rfl rfl dX8_interrupt_19 ?_
  refine r_iload_n (pc := 20) C 1 rfl rfl dX8_interrupt_20 ?_
  refine r_iconst (pc := 21) C dX8_interrupt_21 kc_3 ?_
  refine r_cVI (pc := 22) C hRm (okX8_of h0 v1 (3 : Int32) M2 h_0) (Rc.of C rfl rfl h_0) mw_1193 cvX8_of rfl ⟨Nat.le_of_ble_eq_true rfl, Nat.le_of_ble_eq_true rfl⟩ rfl (Nat.le_of_ble_eq_true rfl) dX8_interrupt_22 (fun o5 M4 => ?_)
  refine r_iconst (pc := 25) C dX8_interrupt_25 kc_1 ?_
  refine r_icmp_ne (pc := 26) C dX8_interrupt_26 (tgt := 37) rfl ?_ ?_
  refine r_aload_n (pc := 37) C 0 rfl rfl dX8_interrupt_37 ?_
  refine r_iload_n (pc := 38) C 1 rfl rfl dX8_interrupt_38 ?_
  refine r_iconst (pc := 39) C dX8_interrupt_39 kc_3 ?_
  refine r_cVI (pc := 40) C hRm (okX8_of h0 v1 (3 : Int32) M4 h_0) (Rc.of C rfl rfl h_0) mw_1193 cvX8_of rfl ⟨Nat.le_of_ble_eq_true rfl, Nat.le_of_ble_eq_true rfl⟩ rfl (Nat.le_of_ble_eq_true rfl) dX8_interrupt_40 (fun o7 M6 => ?_)
  refine r_iconst (pc := 43) C dX8_interrupt_43 kc_3 ?_
  refine r_icmp_lt (pc := 44) C dX8_interrupt_44 (tgt := 49) rfl ?_ ?_
  refine r_aload_n (pc := 49) C 0 rfl rfl dX8_interrupt_49 ?_
  refine r_iload_n (pc := 50) C 1 rfl rfl dX8_interrupt_50 ?_
  refine r_iconst (pc := 51) C dX8_interrupt_51 kc_5 ?_
  refine r_cVI (pc := 52) C hRm (okX8_of h0 v1 (5 : Int32) M6 h_0) (Rc.of C rfl rfl h_0) mw_1193 cvX8_of rfl ⟨Nat.le_of_ble_eq_true rfl, Nat.le_of_ble_eq_true rfl⟩ rfl (Nat.le_of_ble_eq_true rfl) dX8_interrupt_52 (fun o9 M8 => ?_)
  refine r_istore_n (pc := 55) C [(2, .int o9), (0, .ref (G.1 19 0 0)), (1, .int v1)] dX8_interrupt_55 rfl (by decide) rfl ?_
  refine r_aload_n (pc := 56) C 1 rfl rfl dX8_interrupt_56 ?_
  refine r_iload_n (pc := 57) C 2 rfl rfl dX8_interrupt_57 ?_
  refine r_iconst (pc := 58) C dX8_interrupt_58 kc_5 ?_
  refine r_iconst (pc := 59) C dX8_interrupt_59 kc_1 ?_
  refine r_cVV (pc := 60) C hRm (okX8_put h0 v1 (5 : Int32) (1 : Int32) M8 h_0) (Rc.of C rfl rfl h_0) mw_1166 cvX8_put rfl ⟨Nat.le_of_ble_eq_true rfl, Nat.le_of_ble_eq_true rfl⟩ rfl (Nat.le_of_ble_eq_true rfl) dX8_interrupt_60 (fun o11 M10 => ?_)
  refine r_iload_n (pc := 63) C 0 rfl rfl dX8_interrupt_63 ?_
  refine r_iconst (pc := 64) C dX8_interrupt_64 kc_1 ?_
  refine r_icmp_ne (pc := 65) C dX8_interrupt_65 (tgt := 72) rfl ?_ ?_
  refine r_iconst (pc := 72) C dX8_interrupt_72 kc_1 ?_
  exact r_iret (pc := 73) C rfl dX8_interrupt_73
  refine r_iconst (pc := 68) C dX8_interrupt_68 kc_2 ?_
  refine r_goto (pc := 69) C dX8_interrupt_69 (tgt := 73) rfl ?_
  exact r_iret (pc := 73) C rfl dX8_interrupt_73
  refine r_iconst (pc := 47) C dX8_interrupt_47 kc_3 ?_
  exact r_iret (pc := 48) C rfl dX8_interrupt_48
  refine r_aload_n (pc := 29) C 0 rfl rfl dX8_interrupt_29 ?_
  refine r_iload_n (pc := 30) C 1 rfl rfl dX8_interrupt_30 ?_
  refine r_iconst (pc := 31) C dX8_interrupt_31 kc_4 ?_
  refine r_cVV (pc := 32) C hRm (okX8_comeBack h0 v1 (4 : Int32) M4 h_0) (Rc.of C rfl rfl h_0) mw_1328 cvX8_comeBack rfl ⟨Nat.le_of_ble_eq_true rfl, Nat.le_of_ble_eq_true rfl⟩ rfl (Nat.le_of_ble_eq_true rfl) dX8_interrupt_32 (fun o13 M12 => ?_)
  refine r_iconst (pc := 35) C dX8_interrupt_35 kc_0 ?_
  exact r_iret (pc := 36) C rfl dX8_interrupt_36
  refine r_aload_n (pc := 13) C 0 rfl rfl dX8_interrupt_13 ?_
  refine r_iconst (pc := 14) C dX8_interrupt_14 kc_1 ?_
  refine r_cVI (pc := 15) C hRm (okX8_fail h0 (1 : Int32) M2 h_0) (Rc.of C rfl rfl h_0) mw_1084 cvX8_fail rfl ⟨Nat.le_of_ble_eq_true rfl, Nat.le_of_ble_eq_true rfl⟩ rfl (Nat.le_of_ble_eq_true rfl) dX8_interrupt_15 (fun o15 M14 => ?_)
  exact r_iret (pc := 18) C rfl dX8_interrupt_18
theorem okX8_interrupt {l : Launch} {G : WT} (h0 : W0 G) (v1 : Int32) (M : Mem) (h_0 : G.2.2.2.1 19 0 0) : Okm l G yX8_interrupt cX8_interrupt 3 (some FieldType.int) 6 142 [.ref (G.1 19 0 0), .int v1] voI M (pX8_interrupt  v1 M) :=
  Okm.of "PermitParkModel" rfl (by decide) (Nat.le_of_ble_eq_true rfl) (L := [(0, .ref (G.1 19 0 0)), (1, .int v1)]) rfl (fun K _ hr C => lX8_interrupt_0 C (by rw [hr]; exact ⟨rfl, rfl⟩) h0 v1 M h_0)
def pX8_rouse_39 (v1 : Int32) (s0 : Int32) (M : Mem) : Option (Int32 × Mem) :=
    if s0 = 0 then (chk (decide (s0 = 0 ∨ s0 = 1)) (some (s0, M)))
    else bnd (pX8_comeBack v1 (3 : Int32) M) fun o2 M1 => chk (decide (s0 = 0 ∨ s0 = 1)) (some (s0, M1))
theorem lX8_rouse_39 {K : KT} {G : WT} (C : Cx K G "PermitParkModel" cX8_rouse 3 (some FieldType.boolean)) (hRm : K.2.2.2.1.frames = 6 ∧ K.2.2.2.1.locals = 142) (h0 : W0 G) (v1 : Int32) (s0 : Int32) (M : Mem) (g_0 : G.2.2.2.1 19 0 0) : Run K G 3 0 0 (FinM K G voI 0 0) 39 [(0, .ref (G.1 19 0 0)), (1, .int v1)] [.int s0] M (pX8_rouse_39   v1 s0 M) := by
  rw [pX8_rouse_39]
  refine r_istore_n (pc := 39) C [(2, .int s0), (0, .ref (G.1 19 0 0)), (1, .int v1)] dX8_rouse_39 rfl (by decide) rfl ?_
  refine r_iload_n (pc := 40) C 0 rfl rfl dX8_rouse_40 ?_
  refine r_if_eq (pc := 41) C dX8_rouse_41 (tgt := 50) rfl ?_ ?_
  refine r_iload_n (pc := 50) C 0 rfl rfl dX8_rouse_50 ?_
  exact r_zret (pc := 51) C dX8_rouse_51
  refine r_aload_n (pc := 44) C 1 rfl rfl dX8_rouse_44 ?_
  refine r_iload_n (pc := 45) C 2 rfl rfl dX8_rouse_45 ?_
  refine r_iconst (pc := 46) C dX8_rouse_46 kc_3 ?_
  refine r_cVV (pc := 47) C hRm (okX8_comeBack h0 v1 (3 : Int32) M g_0) (Rc.of C rfl rfl g_0) mw_1328 cvX8_comeBack rfl ⟨Nat.le_of_ble_eq_true rfl, Nat.le_of_ble_eq_true rfl⟩ rfl (Nat.le_of_ble_eq_true rfl) dX8_rouse_47 (fun o2 M1 => ?_)
  refine r_iload_n (pc := 50) C 0 rfl rfl dX8_rouse_50 ?_
  exact r_zret (pc := 51) C dX8_rouse_51
def pX8_rouse_14 (v1 : Int32) (s0 : Int32) (M : Mem) : Option (Int32 × Mem) :=
    nm (wI M 19 0 0 7 s0) fun M1 => if ¬ (M1.1 19 0 0 7) = 0 then (pX8_rouse_39    v1 (0 : Int32) M1)
    else bnd (pX8_of v1 (3 : Int32) M1) fun o3 M2 => if ¬ o3 = (1 : Int32) then (pX8_rouse_39    v1 (0 : Int32) M2)
    else pX8_rouse_39    v1 (1 : Int32) M2
theorem lX8_rouse_14 {K : KT} {G : WT} (C : Cx K G "PermitParkModel" cX8_rouse 3 (some FieldType.boolean)) (hRm : K.2.2.2.1.frames = 6 ∧ K.2.2.2.1.locals = 142) (h0 : W0 G) (v1 : Int32) (s0 : Int32) (M : Mem) (g_0 : G.2.2.2.1 19 0 0) (g_s1 : G.2.2.2.1 19 0 0) : Run K G 3 0 0 (FinM K G voI 0 0) 14 [(0, .ref (G.1 19 0 0)), (1, .int v1)] [.int s0, .ref (G.1 19 0 0)] M (pX8_rouse_14   v1 s0 M) := by
  rw [pX8_rouse_14]
  refine r_putI (pc := 14) C FX8_thrown mw_1019 g_s1 tyX8 tyX8_ok nmX8 (fun _ _ => rfl) rfl dX8_rouse_14 (fun M1 => ?_)
  refine r_aload_n (pc := 17) C 0 rfl rfl dX8_rouse_17 ?_
  refine r_getI (pc := 18) C FX8_thrown mw_1019 g_s1 rfl rfl dX8_rouse_18 ?_
  refine r_if_ne (pc := 21) C dX8_rouse_21 (tgt := 38) rfl ?_ ?_
  refine r_iconst (pc := 38) C dX8_rouse_38 kc_0 ?_
  exact lX8_rouse_39   C hRm h0   v1 (0 : Int32) M1 g_s1
  refine r_aload_n (pc := 24) C 0 rfl rfl dX8_rouse_24 ?_
  refine r_iload_n (pc := 25) C 1 rfl rfl dX8_rouse_25 ?_
  refine r_iconst (pc := 26) C dX8_rouse_26 kc_3 ?_
  refine r_cVI (pc := 27) C hRm (okX8_of h0 v1 (3 : Int32) M1 g_s1) (Rc.of C rfl rfl g_s1) mw_1193 cvX8_of rfl ⟨Nat.le_of_ble_eq_true rfl, Nat.le_of_ble_eq_true rfl⟩ rfl (Nat.le_of_ble_eq_true rfl) dX8_rouse_27 (fun o3 M2 => ?_)
  refine r_iconst (pc := 30) C dX8_rouse_30 kc_1 ?_
  refine r_icmp_ne (pc := 31) C dX8_rouse_31 (tgt := 38) rfl ?_ ?_
  refine r_iconst (pc := 38) C dX8_rouse_38 kc_0 ?_
  exact lX8_rouse_39   C hRm h0   v1 (0 : Int32) M2 g_s1
  refine r_iconst (pc := 34) C dX8_rouse_34 kc_1 ?_
  refine r_goto (pc := 35) C dX8_rouse_35 (tgt := 39) rfl ?_
  exact lX8_rouse_39   C hRm h0   v1 (1 : Int32) M2 g_s1
def pX8_rouse (v1 : Int32) (M : Mem) : Option (Int32 × Mem) :=
    bnd (pX8_isThread v1 M) fun o2 M1 => if o2 = 0 then (pX8_rouse_14    v1 (1 : Int32) M1)
    else pX8_rouse_14    v1 (0 : Int32) M1
theorem lX8_rouse_0 {K : KT} {G : WT} (C : Cx K G "PermitParkModel" cX8_rouse 3 (some FieldType.boolean)) (hRm : K.2.2.2.1.frames = 6 ∧ K.2.2.2.1.locals = 142) (h0 : W0 G) (v1 : Int32) (M : Mem) (h_0 : G.2.2.2.1 19 0 0) : Run K G 3 0 0 (FinM K G voI 0 0) 0 [(0, .ref (G.1 19 0 0)), (1, .int v1)] [] M (pX8_rouse   v1 M) := by
  rw [pX8_rouse]
  refine r_aload_n (pc := 0) C 0 rfl rfl dX8_rouse_0 ?_
  refine r_aload_n (pc := 1) C 0 rfl rfl dX8_rouse_1 ?_
  refine r_iload_n (pc := 2) C 1 rfl rfl dX8_rouse_2 ?_
  refine r_cVI (pc := 3) C hRm (okX8_isThread h0 v1 M h_0) (Rc.of C rfl rfl h_0) mw_1251 cvX8_isThread rfl ⟨Nat.le_of_ble_eq_true rfl, Nat.le_of_ble_eq_true rfl⟩ rfl (Nat.le_of_ble_eq_true rfl) dX8_rouse_3 (fun o2 M1 => ?_)
  refine r_if_eq (pc := 6) C dX8_rouse_6 (tgt := 13) rfl ?_ ?_
  refine r_iconst (pc := 13) C dX8_rouse_13 kc_1 ?_
  exact lX8_rouse_14   C hRm h0   v1 (1 : Int32) M1 h_0 h_0
  refine r_iconst (pc := 9) C dX8_rouse_9 kc_0 ?_
  refine r_goto (pc := 10) C dX8_rouse_10 (tgt := 14) rfl ?_
  exact lX8_rouse_14   C hRm h0   v1 (0 : Int32) M1 h_0 h_0
theorem okX8_rouse {l : Launch} {G : WT} (h0 : W0 G) (v1 : Int32) (M : Mem) (h_0 : G.2.2.2.1 19 0 0) : Okm l G yX8_rouse cX8_rouse 3 (some FieldType.boolean) 6 142 [.ref (G.1 19 0 0), .int v1] voI M (pX8_rouse  v1 M) :=
  Okm.of "PermitParkModel" rfl (by decide) (Nat.le_of_ble_eq_true rfl) (L := [(0, .ref (G.1 19 0 0)), (1, .int v1)]) rfl (fun K _ hr C => lX8_rouse_0 C (by rw [hr]; exact ⟨rfl, rfl⟩) h0 v1 M h_0)
def pX8_finish (v1 : Int32) (M : Mem) : Option (Unit × Mem) :=
    bnd (pX8_goOn v1 M) fun o2 M1 => bnd (pX8_settle M1) fun o4 M3 => some ((), M3)
theorem lX8_finish_0 {K : KT} {G : WT} (C : Cx K G "PermitParkModel" cX8_finish 2 none) (hRm : K.2.2.2.1.frames = 5 ∧ K.2.2.2.1.locals = 120) (h0 : W0 G) (v1 : Int32) (M : Mem) (h_0 : G.2.2.2.1 19 0 0) : Run K G 2 0 0 (FinM K G voV 0 0) 0 [(0, .ref (G.1 19 0 0)), (1, .int v1)] [] M (pX8_finish   v1 M) := by
  rw [pX8_finish]
  refine r_aload_n (pc := 0) C 0 rfl rfl dX8_finish_0 ?_
  refine r_iload_n (pc := 1) C 1 rfl rfl dX8_finish_1 ?_
  refine r_cVV (pc := 2) C hRm (okX8_goOn h0 v1 M h_0) (Rc.of C rfl rfl h_0) mw_1356 cvX8_goOn rfl ⟨Nat.le_of_ble_eq_true rfl, Nat.le_of_ble_eq_true rfl⟩ rfl (Nat.le_of_ble_eq_true rfl) dX8_finish_2 (fun o2 M1 => ?_)
  refine r_aload_n (pc := 5) C 0 rfl rfl dX8_finish_5 ?_
  refine r_cVV (pc := 6) C hRm (okX8_settle h0 M1 h_0) (Rc.of C rfl rfl h_0) mw_1340 cvX8_settle rfl ⟨Nat.le_of_ble_eq_true rfl, Nat.le_of_ble_eq_true rfl⟩ rfl (Nat.le_of_ble_eq_true rfl) dX8_finish_6 (fun o4 M3 => ?_)
  exact r_vret (pc := 9) C dX8_finish_9
theorem okX8_finish {l : Launch} {G : WT} (h0 : W0 G) (v1 : Int32) (M : Mem) (h_0 : G.2.2.2.1 19 0 0) : Okm l G yX8_finish cX8_finish 2 none 5 120 [.ref (G.1 19 0 0), .int v1] voV M (pX8_finish  v1 M) :=
  Okm.of "PermitParkModel" rfl (by decide) (Nat.le_of_ble_eq_true rfl) (L := [(0, .ref (G.1 19 0 0)), (1, .int v1)]) rfl (fun K _ hr C => lX8_finish_0 C (by rw [hr]; exact ⟨rfl, rfl⟩) h0 v1 M h_0)
def pX8_fault (v1 : Int32) (M : Mem) : Option (Unit × Mem) :=
    bnd (pX8_put v1 (3 : Int32) (4 : Int32) M) fun o2 M1 => bnd (pX8_of v1 (2 : Int32) M1) fun o4 M3 => bnd (pX8_note (6 : Int32) v1 o4 M3) fun o6 M5 => some ((), M5)
theorem lX8_fault_0 {K : KT} {G : WT} (C : Cx K G "PermitParkModel" cX8_fault 2 none) (hRm : K.2.2.2.1.frames = 1 ∧ K.2.2.2.1.locals = 24) (h0 : W0 G) (v1 : Int32) (M : Mem) (h_0 : G.2.2.2.1 19 0 0) : Run K G 2 0 0 (FinM K G voV 0 0) 0 [(0, .ref (G.1 19 0 0)), (1, .int v1)] [] M (pX8_fault   v1 M) := by
  rw [pX8_fault]
  refine r_aload_n (pc := 0) C 0 rfl rfl dX8_fault_0 ?_
  refine r_iload_n (pc := 1) C 1 rfl rfl dX8_fault_1 ?_
  refine r_iconst (pc := 2) C dX8_fault_2 kc_3 ?_
  refine r_iconst (pc := 3) C dX8_fault_3 kc_4 ?_
  refine r_cVV (pc := 4) C hRm (okX8_put h0 v1 (3 : Int32) (4 : Int32) M h_0) (Rc.of C rfl rfl h_0) mw_1166 cvX8_put rfl ⟨Nat.le_of_ble_eq_true rfl, Nat.le_of_ble_eq_true rfl⟩ rfl (Nat.le_of_ble_eq_true rfl) dX8_fault_4 (fun o2 M1 => ?_)
  refine r_aload_n (pc := 7) C 0 rfl rfl dX8_fault_7 ?_
  refine r_bipush (pc := 8) C dX8_fault_8 kb_6 ?_
  refine r_iload_n (pc := 10) C 1 rfl rfl dX8_fault_10 ?_
  refine r_aload_n (pc := 11) C 0 rfl rfl dX8_fault_11 ?_
  refine r_iload_n (pc := 12) C 1 rfl rfl dX8_fault_12 ?_
  refine r_iconst (pc := 13) C dX8_fault_13 kc_2 ?_
  refine r_cVI (pc := 14) C hRm (okX8_of h0 v1 (2 : Int32) M1 h_0) (Rc.of C rfl rfl h_0) mw_1193 cvX8_of rfl ⟨Nat.le_of_ble_eq_true rfl, Nat.le_of_ble_eq_true rfl⟩ rfl (Nat.le_of_ble_eq_true rfl) dX8_fault_14 (fun o4 M3 => ?_)
  refine r_cVV (pc := 17) C hRm (okX8_note h0 (6 : Int32) v1 o4 M3 h_0) (Rc.of C rfl rfl h_0) mw_1332 cvX8_note rfl ⟨Nat.le_of_ble_eq_true rfl, Nat.le_of_ble_eq_true rfl⟩ rfl (Nat.le_of_ble_eq_true rfl) dX8_fault_17 (fun o6 M5 => ?_)
  exact r_vret (pc := 20) C dX8_fault_20
theorem okX8_fault {l : Launch} {G : WT} (h0 : W0 G) (v1 : Int32) (M : Mem) (h_0 : G.2.2.2.1 19 0 0) : Okm l G yX8_fault cX8_fault 2 none 1 24 [.ref (G.1 19 0 0), .int v1] voV M (pX8_fault  v1 M) :=
  Okm.of "PermitParkModel" rfl (by decide) (Nat.le_of_ble_eq_true rfl) (L := [(0, .ref (G.1 19 0 0)), (1, .int v1)]) rfl (fun K _ hr C => lX8_fault_0 C (by rw [hr]; exact ⟨rfl, rfl⟩) h0 v1 M h_0)
def pX8_doRun (v1 : Int32) (v2 : Int32) (M : Mem) : Option (Unit × Mem) :=
    bnd (pX8_grow v1 (17 : Int32) M) fun o2 M1 => bnd (pX8_of v1 (17 : Int32) M1) fun o4 M3 => if ¬ o4 = v2 then (some ((), M3))
    else bnd (pX8_finish v1 M3) fun o6 M5 => some ((), M5)
theorem lX8_doRun_0 {K : KT} {G : WT} (C : Cx K G "PermitParkModel" cX8_doRun 3 none) (hRm : K.2.2.2.1.frames = 6 ∧ K.2.2.2.1.locals = 141) (h0 : W0 G) (v1 : Int32) (v2 : Int32) (M : Mem) (h_0 : G.2.2.2.1 19 0 0) : Run K G 3 0 0 (FinM K G voV 0 0) 0 [(0, .ref (G.1 19 0 0)), (1, .int v1), (2, .int v2)] [] M (pX8_doRun   v1 v2 M) := by
  rw [pX8_doRun]
  refine r_aload_n (pc := 0) C 0 rfl rfl dX8_doRun_0 ?_
  refine r_iload_n (pc := 1) C 1 rfl rfl dX8_doRun_1 ?_
  refine r_bipush (pc := 2) C dX8_doRun_2 kb_17 ?_
  refine r_cVV (pc := 4) C hRm (okX8_grow h0 v1 (17 : Int32) M h_0) (Rc.of C rfl rfl h_0) mw_1204 cvX8_grow rfl ⟨Nat.le_of_ble_eq_true rfl, Nat.le_of_ble_eq_true rfl⟩ rfl (Nat.le_of_ble_eq_true rfl) dX8_doRun_4 (fun o2 M1 => ?_)
  refine r_aload_n (pc := 7) C 0 rfl rfl dX8_doRun_7 ?_
  refine r_iload_n (pc := 8) C 1 rfl rfl dX8_doRun_8 ?_
  refine r_bipush (pc := 9) C dX8_doRun_9 kb_17 ?_
  refine r_cVI (pc := 11) C hRm (okX8_of h0 v1 (17 : Int32) M1 h_0) (Rc.of C rfl rfl h_0) mw_1193 cvX8_of rfl ⟨Nat.le_of_ble_eq_true rfl, Nat.le_of_ble_eq_true rfl⟩ rfl (Nat.le_of_ble_eq_true rfl) dX8_doRun_11 (fun o4 M3 => ?_)
  refine r_iload_n (pc := 14) C 2 rfl rfl dX8_doRun_14 ?_
  refine r_icmp_ne (pc := 15) C dX8_doRun_15 (tgt := 23) rfl ?_ ?_
  exact r_vret (pc := 23) C dX8_doRun_23
  refine r_aload_n (pc := 18) C 0 rfl rfl dX8_doRun_18 ?_
  refine r_iload_n (pc := 19) C 1 rfl rfl dX8_doRun_19 ?_
  refine r_cVV (pc := 20) C hRm (okX8_finish h0 v1 M3 h_0) (Rc.of C rfl rfl h_0) mw_1407 cvX8_finish rfl ⟨Nat.le_of_ble_eq_true rfl, Nat.le_of_ble_eq_true rfl⟩ rfl (Nat.le_of_ble_eq_true rfl) dX8_doRun_20 (fun o6 M5 => ?_)
  exact r_vret (pc := 23) C dX8_doRun_23
theorem okX8_doRun {l : Launch} {G : WT} (h0 : W0 G) (v1 : Int32) (v2 : Int32) (M : Mem) (h_0 : G.2.2.2.1 19 0 0) : Okm l G yX8_doRun cX8_doRun 3 none 6 141 [.ref (G.1 19 0 0), .int v1, .int v2] voV M (pX8_doRun  v1 v2 M) :=
  Okm.of "PermitParkModel" rfl (by decide) (Nat.le_of_ble_eq_true rfl) (L := [(0, .ref (G.1 19 0 0)), (1, .int v1), (2, .int v2)]) rfl (fun K _ hr C => lX8_doRun_0 C (by rw [hr]; exact ⟨rfl, rfl⟩) h0 v1 v2 M h_0)
def pX8_doAwait (v1 : Int32) (v2 : Int32) (M : Mem) : Option (Unit × Mem) :=
    bnd (pX8_isOn v2 M) fun o2 M1 => if o2 = 0 then (bnd (pX8_park v1 (-1 : Int32) M1) fun o4 M3 => some ((), M3))
    else bnd (pX8_finish v1 M1) fun o6 M5 => some ((), M5)
theorem lX8_doAwait_0 {K : KT} {G : WT} (C : Cx K G "PermitParkModel" cX8_doAwait 3 none) (hRm : K.2.2.2.1.frames = 6 ∧ K.2.2.2.1.locals = 141) (h0 : W0 G) (v1 : Int32) (v2 : Int32) (M : Mem) (h_0 : G.2.2.2.1 19 0 0) : Run K G 3 0 0 (FinM K G voV 0 0) 0 [(0, .ref (G.1 19 0 0)), (1, .int v1), (2, .int v2)] [] M (pX8_doAwait   v1 v2 M) := by
  rw [pX8_doAwait]
  refine r_aload_n (pc := 0) C 0 rfl rfl dX8_doAwait_0 ?_
  refine r_iload_n (pc := 1) C 2 rfl rfl dX8_doAwait_1 ?_
  refine r_cVI (pc := 2) C hRm (okX8_isOn h0 v2 M h_0) (Rc.of C rfl rfl h_0) mw_1213 cvX8_isOn rfl ⟨Nat.le_of_ble_eq_true rfl, Nat.le_of_ble_eq_true rfl⟩ rfl (Nat.le_of_ble_eq_true rfl) dX8_doAwait_2 (fun o2 M1 => ?_)
  refine r_if_eq (pc := 5) C dX8_doAwait_5 (tgt := 16) rfl ?_ ?_
  refine r_aload_n (pc := 16) C 0 rfl rfl dX8_doAwait_16 ?_
  refine r_iload_n (pc := 17) C 1 rfl rfl dX8_doAwait_17 ?_
  refine r_iconst (pc := 18) C dX8_doAwait_18 kc_m1 ?_
  refine r_cVV (pc := 19) C hRm (okX8_park h0 v1 (-1 : Int32) M1 h_0) (Rc.of C rfl rfl h_0) mw_1411 cvX8_park rfl ⟨Nat.le_of_ble_eq_true rfl, Nat.le_of_ble_eq_true rfl⟩ rfl (Nat.le_of_ble_eq_true rfl) dX8_doAwait_19 (fun o4 M3 => ?_)
  exact r_vret (pc := 22) C dX8_doAwait_22
  refine r_aload_n (pc := 8) C 0 rfl rfl dX8_doAwait_8 ?_
  refine r_iload_n (pc := 9) C 1 rfl rfl dX8_doAwait_9 ?_
  refine r_cVV (pc := 10) C hRm (okX8_finish h0 v1 M1 h_0) (Rc.of C rfl rfl h_0) mw_1407 cvX8_finish rfl ⟨Nat.le_of_ble_eq_true rfl, Nat.le_of_ble_eq_true rfl⟩ rfl (Nat.le_of_ble_eq_true rfl) dX8_doAwait_10 (fun o6 M5 => ?_)
  refine r_goto (pc := 13) C dX8_doAwait_13 (tgt := 22) rfl ?_
  exact r_vret (pc := 22) C dX8_doAwait_22
theorem okX8_doAwait {l : Launch} {G : WT} (h0 : W0 G) (v1 : Int32) (v2 : Int32) (M : Mem) (h_0 : G.2.2.2.1 19 0 0) : Okm l G yX8_doAwait cX8_doAwait 3 none 6 141 [.ref (G.1 19 0 0), .int v1, .int v2] voV M (pX8_doAwait  v1 v2 M) :=
  Okm.of "PermitParkModel" rfl (by decide) (Nat.le_of_ble_eq_true rfl) (L := [(0, .ref (G.1 19 0 0)), (1, .int v1), (2, .int v2)]) rfl (fun K _ hr C => lX8_doAwait_0 C (by rw [hr]; exact ⟨rfl, rfl⟩) h0 v1 v2 M h_0)
def pX8_doTell_53 (v1 : Int32) (M : Mem) : Option (Unit × Mem) :=
    bnd (pX8_finish v1 M) fun o2 M1 => some ((), M1)
theorem lX8_doTell_53 {K : KT} {G : WT} (C : Cx K G "PermitParkModel" cX8_doTell 4 none) (hRm : K.2.2.2.1.frames = 7 ∧ K.2.2.2.1.locals = 164) (h0 : W0 G) (v1 : Int32) (M : Mem) (g_0 : G.2.2.2.1 19 0 0) : Run K G 4 0 0 (FinM K G voV 0 0) 53 [(0, .ref (G.1 19 0 0)), (1, .int v1)] [] M (pX8_doTell_53   v1 M) := by
  rw [pX8_doTell_53]
  refine r_aload_n (pc := 53) C 0 rfl rfl dX8_doTell_53 ?_
  refine r_iload_n (pc := 54) C 1 rfl rfl dX8_doTell_54 ?_
  refine r_cVV (pc := 55) C hRm (okX8_finish h0 v1 M g_0) (Rc.of C rfl rfl g_0) mw_1407 cvX8_finish rfl ⟨Nat.le_of_ble_eq_true rfl, Nat.le_of_ble_eq_true rfl⟩ rfl (Nat.le_of_ble_eq_true rfl) dX8_doTell_55 (fun o2 M1 => ?_)
  exact r_vret (pc := 58) C dX8_doTell_58
def pX8_doTell (v1 : Int32) (v2 : Int32) (M : Mem) : Option (Unit × Mem) :=
    bnd (pX8_of v1 (6 : Int32) M) fun o2 M1 => if ¬ o2 = (1 : Int32) then (pX8_doTell_53    v1 M1)
    else bnd (pX8_put v1 (6 : Int32) (0 : Int32) M1) fun o4 M3 => bnd (pX8_isThread v2 M3) fun o6 M5 => if o6 = 0 then (pX8_doTell_53    v1 M5)
    else chk (inB (11 : Int32) 700) <| chk (inB (11 : Int32) 700) <| nm (wI M5 20 0 0 (11 : Int32).toNatClampNeg ((M5.1 20 0 0 (11 : Int32).toNatClampNeg) + (1 : Int32))) fun M8 => bnd (pX8_note (9 : Int32) v1 v2 M8) fun o10 M9 => bnd (pX8_wakeUp v2 v1 M9) fun o12 M11 => pX8_doTell_53    v1 M11
theorem lX8_doTell_0 {K : KT} {G : WT} (C : Cx K G "PermitParkModel" cX8_doTell 4 none) (hRm : K.2.2.2.1.frames = 7 ∧ K.2.2.2.1.locals = 164) (h0 : W0 G) (v1 : Int32) (v2 : Int32) (M : Mem) (h_0 : G.2.2.2.1 19 0 0) : Run K G 4 0 0 (FinM K G voV 0 0) 0 [(0, .ref (G.1 19 0 0)), (1, .int v1), (2, .int v2)] [] M (pX8_doTell   v1 v2 M) := by
  rw [pX8_doTell]
  refine r_aload_n (pc := 0) C 0 rfl rfl dX8_doTell_0 ?_
  refine r_iload_n (pc := 1) C 1 rfl rfl dX8_doTell_1 ?_
  refine r_bipush (pc := 2) C dX8_doTell_2 kb_6 ?_
  refine r_cVI (pc := 4) C hRm (okX8_of h0 v1 (6 : Int32) M h_0) (Rc.of C rfl rfl h_0) mw_1193 cvX8_of rfl ⟨Nat.le_of_ble_eq_true rfl, Nat.le_of_ble_eq_true rfl⟩ rfl (Nat.le_of_ble_eq_true rfl) dX8_doTell_4 (fun o2 M1 => ?_)
  refine r_iconst (pc := 7) C dX8_doTell_7 kc_1 ?_
  refine r_icmp_ne (pc := 8) C dX8_doTell_8 (tgt := 53) rfl ?_ ?_
  refine r_sub [0, 1] rfl ?_
  exact lX8_doTell_53   C hRm h0   v1 M1 h_0
  refine r_aload_n (pc := 11) C 0 rfl rfl dX8_doTell_11 ?_
  refine r_iload_n (pc := 12) C 1 rfl rfl dX8_doTell_12 ?_
  refine r_bipush (pc := 13) C dX8_doTell_13 kb_6 ?_
  refine r_iconst (pc := 15) C dX8_doTell_15 kc_0 ?_
  refine r_cVV (pc := 16) C hRm (okX8_put h0 v1 (6 : Int32) (0 : Int32) M1 h_0) (Rc.of C rfl rfl h_0) mw_1166 cvX8_put rfl ⟨Nat.le_of_ble_eq_true rfl, Nat.le_of_ble_eq_true rfl⟩ rfl (Nat.le_of_ble_eq_true rfl) dX8_doTell_16 (fun o4 M3 => ?_)
  refine r_aload_n (pc := 19) C 0 rfl rfl dX8_doTell_19 ?_
  refine r_iload_n (pc := 20) C 2 rfl rfl dX8_doTell_20 ?_
  refine r_cVI (pc := 21) C hRm (okX8_isThread h0 v2 M3 h_0) (Rc.of C rfl rfl h_0) mw_1251 cvX8_isThread rfl ⟨Nat.le_of_ble_eq_true rfl, Nat.le_of_ble_eq_true rfl⟩ rfl (Nat.le_of_ble_eq_true rfl) dX8_doTell_21 (fun o6 M5 => ?_)
  refine r_if_eq (pc := 24) C dX8_doTell_24 (tgt := 53) rfl ?_ ?_
  refine r_sub [0, 1] rfl ?_
  exact lX8_doTell_53   C hRm h0   v1 M5 h_0
  refine r_aload_n (pc := 27) C 0 rfl rfl dX8_doTell_27 ?_
  refine r_getR (pc := 28) C FX8_state mw_1012 h_0 rfl dX8_doTell_28 (fun g7 => ?_)
  refine r_bipush (pc := 31) C dX8_doTell_31 kb_11 ?_
  refine r_dup2_11 (pc := 33) C dX8_doTell_33 rfl rfl ?_
  refine r_iald (pc := 34) C rfl g7 (fun _ => rfl) (fun _ => rfl) dX8_doTell_34 ?_
  refine r_iconst (pc := 35) C dX8_doTell_35 kc_1 ?_
  refine r_iadd (pc := 36) C dX8_doTell_36 ?_
  refine r_iast (pc := 37) C rfl g7 (fun _ => rfl) (fun _ => rfl) dX8_doTell_37 (fun M8 => ?_)
  refine r_aload_n (pc := 38) C 0 rfl rfl dX8_doTell_38 ?_
  refine r_bipush (pc := 39) C dX8_doTell_39 kb_9 ?_
  refine r_iload_n (pc := 41) C 1 rfl rfl dX8_doTell_41 ?_
  refine r_iload_n (pc := 42) C 2 rfl rfl dX8_doTell_42 ?_
  refine r_cVV (pc := 43) C hRm (okX8_note h0 (9 : Int32) v1 v2 M8 h_0) (Rc.of C rfl rfl h_0) mw_1332 cvX8_note rfl ⟨Nat.le_of_ble_eq_true rfl, Nat.le_of_ble_eq_true rfl⟩ rfl (Nat.le_of_ble_eq_true rfl) dX8_doTell_43 (fun o10 M9 => ?_)
  refine r_aload_n (pc := 46) C 0 rfl rfl dX8_doTell_46 ?_
  refine r_iload_n (pc := 47) C 2 rfl rfl dX8_doTell_47 ?_
  refine r_iload_n (pc := 48) C 1 rfl rfl dX8_doTell_48 ?_
  refine r_cVI (pc := 49) C hRm (okX8_wakeUp h0 v2 v1 M9 h_0) (Rc.of C rfl rfl h_0) mw_1324 cvX8_wakeUp rfl ⟨Nat.le_of_ble_eq_true rfl, Nat.le_of_ble_eq_true rfl⟩ rfl (Nat.le_of_ble_eq_true rfl) dX8_doTell_49 (fun o12 M11 => ?_)
  refine r_istore_n (pc := 52) C [(3, .int o12), (0, .ref (G.1 19 0 0)), (1, .int v1), (2, .int v2)] dX8_doTell_52 rfl (by decide) rfl ?_
  refine r_sub [1, 2] rfl ?_
  exact lX8_doTell_53   C hRm h0   v1 M11 h_0
theorem okX8_doTell {l : Launch} {G : WT} (h0 : W0 G) (v1 : Int32) (v2 : Int32) (M : Mem) (h_0 : G.2.2.2.1 19 0 0) : Okm l G yX8_doTell cX8_doTell 4 none 7 164 [.ref (G.1 19 0 0), .int v1, .int v2] voV M (pX8_doTell  v1 v2 M) :=
  Okm.of "PermitParkModel" rfl (by decide) (Nat.le_of_ble_eq_true rfl) (L := [(0, .ref (G.1 19 0 0)), (1, .int v1), (2, .int v2)]) rfl (fun K _ hr C => lX8_doTell_0 C (by rw [hr]; exact ⟨rfl, rfl⟩) h0 v1 v2 M h_0)
def pX8_doSteal_56 (v1 : Int32) (M : Mem) : Option (Unit × Mem) :=
    bnd (pX8_finish v1 M) fun o2 M1 => some ((), M1)
theorem lX8_doSteal_56 {K : KT} {G : WT} (C : Cx K G "PermitParkModel" cX8_doSteal 3 none) (hRm : K.2.2.2.1.frames = 6 ∧ K.2.2.2.1.locals = 141) (h0 : W0 G) (v1 : Int32) (M : Mem) (g_0 : G.2.2.2.1 19 0 0) : Run K G 3 0 0 (FinM K G voV 0 0) 56 [(0, .ref (G.1 19 0 0)), (1, .int v1)] [] M (pX8_doSteal_56   v1 M) := by
  rw [pX8_doSteal_56]
  refine r_aload_n (pc := 56) C 0 rfl rfl dX8_doSteal_56 ?_
  refine r_iload_n (pc := 57) C 1 rfl rfl dX8_doSteal_57 ?_
  refine r_cVV (pc := 58) C hRm (okX8_finish h0 v1 M g_0) (Rc.of C rfl rfl g_0) mw_1407 cvX8_finish rfl ⟨Nat.le_of_ble_eq_true rfl, Nat.le_of_ble_eq_true rfl⟩ rfl (Nat.le_of_ble_eq_true rfl) dX8_doSteal_58 (fun o2 M1 => ?_)
  exact r_vret (pc := 61) C dX8_doSteal_61
def pX8_doSteal (v1 : Int32) (v2 : Int32) (M : Mem) : Option (Unit × Mem) :=
    bnd (pX8_isThread v2 M) fun o2 M1 => if o2 = 0 then (pX8_doSteal_56    v1 M1)
    else if v2 = v1 then (pX8_doSteal_56    v1 M1)
    else bnd (pX8_of v2 (4 : Int32) M1) fun o4 M3 => if ¬ o4 = (1 : Int32) then (pX8_doSteal_56    v1 M3)
    else bnd (pX8_put v2 (4 : Int32) (0 : Int32) M3) fun o6 M5 => bnd (pX8_put v1 (4 : Int32) (1 : Int32) M5) fun o8 M7 => chk (inB (10 : Int32) 700) <| chk (inB (10 : Int32) 700) <| nm (wI M7 20 0 0 (10 : Int32).toNatClampNeg ((M7.1 20 0 0 (10 : Int32).toNatClampNeg) + (1 : Int32))) fun M10 => bnd (pX8_note (8 : Int32) v1 v2 M10) fun o12 M11 => pX8_doSteal_56    v1 M11
theorem lX8_doSteal_0 {K : KT} {G : WT} (C : Cx K G "PermitParkModel" cX8_doSteal 3 none) (hRm : K.2.2.2.1.frames = 6 ∧ K.2.2.2.1.locals = 141) (h0 : W0 G) (v1 : Int32) (v2 : Int32) (M : Mem) (h_0 : G.2.2.2.1 19 0 0) : Run K G 3 0 0 (FinM K G voV 0 0) 0 [(0, .ref (G.1 19 0 0)), (1, .int v1), (2, .int v2)] [] M (pX8_doSteal   v1 v2 M) := by
  rw [pX8_doSteal]
  refine r_aload_n (pc := 0) C 0 rfl rfl dX8_doSteal_0 ?_
  refine r_iload_n (pc := 1) C 2 rfl rfl dX8_doSteal_1 ?_
  refine r_cVI (pc := 2) C hRm (okX8_isThread h0 v2 M h_0) (Rc.of C rfl rfl h_0) mw_1251 cvX8_isThread rfl ⟨Nat.le_of_ble_eq_true rfl, Nat.le_of_ble_eq_true rfl⟩ rfl (Nat.le_of_ble_eq_true rfl) dX8_doSteal_2 (fun o2 M1 => ?_)
  refine r_if_eq (pc := 5) C dX8_doSteal_5 (tgt := 56) rfl ?_ ?_
  refine r_sub [0, 1] rfl ?_
  exact lX8_doSteal_56   C hRm h0   v1 M1 h_0
  refine r_iload_n (pc := 8) C 2 rfl rfl dX8_doSteal_8 ?_
  refine r_iload_n (pc := 9) C 1 rfl rfl dX8_doSteal_9 ?_
  refine r_icmp_eq (pc := 10) C dX8_doSteal_10 (tgt := 56) rfl ?_ ?_
  refine r_sub [0, 1] rfl ?_
  exact lX8_doSteal_56   C hRm h0   v1 M1 h_0
  refine r_aload_n (pc := 13) C 0 rfl rfl dX8_doSteal_13 ?_
  refine r_iload_n (pc := 14) C 2 rfl rfl dX8_doSteal_14 ?_
  refine r_iconst (pc := 15) C dX8_doSteal_15 kc_4 ?_
  refine r_cVI (pc := 16) C hRm (okX8_of h0 v2 (4 : Int32) M1 h_0) (Rc.of C rfl rfl h_0) mw_1193 cvX8_of rfl ⟨Nat.le_of_ble_eq_true rfl, Nat.le_of_ble_eq_true rfl⟩ rfl (Nat.le_of_ble_eq_true rfl) dX8_doSteal_16 (fun o4 M3 => ?_)
  refine r_iconst (pc := 19) C dX8_doSteal_19 kc_1 ?_
  refine r_icmp_ne (pc := 20) C dX8_doSteal_20 (tgt := 56) rfl ?_ ?_
  refine r_sub [0, 1] rfl ?_
  exact lX8_doSteal_56   C hRm h0   v1 M3 h_0
  refine r_aload_n (pc := 23) C 0 rfl rfl dX8_doSteal_23 ?_
  refine r_iload_n (pc := 24) C 2 rfl rfl dX8_doSteal_24 ?_
  refine r_iconst (pc := 25) C dX8_doSteal_25 kc_4 ?_
  refine r_iconst (pc := 26) C dX8_doSteal_26 kc_0 ?_
  refine r_cVV (pc := 27) C hRm (okX8_put h0 v2 (4 : Int32) (0 : Int32) M3 h_0) (Rc.of C rfl rfl h_0) mw_1166 cvX8_put rfl ⟨Nat.le_of_ble_eq_true rfl, Nat.le_of_ble_eq_true rfl⟩ rfl (Nat.le_of_ble_eq_true rfl) dX8_doSteal_27 (fun o6 M5 => ?_)
  refine r_aload_n (pc := 30) C 0 rfl rfl dX8_doSteal_30 ?_
  refine r_iload_n (pc := 31) C 1 rfl rfl dX8_doSteal_31 ?_
  refine r_iconst (pc := 32) C dX8_doSteal_32 kc_4 ?_
  refine r_iconst (pc := 33) C dX8_doSteal_33 kc_1 ?_
  refine r_cVV (pc := 34) C hRm (okX8_put h0 v1 (4 : Int32) (1 : Int32) M5 h_0) (Rc.of C rfl rfl h_0) mw_1166 cvX8_put rfl ⟨Nat.le_of_ble_eq_true rfl, Nat.le_of_ble_eq_true rfl⟩ rfl (Nat.le_of_ble_eq_true rfl) dX8_doSteal_34 (fun o8 M7 => ?_)
  refine r_aload_n (pc := 37) C 0 rfl rfl dX8_doSteal_37 ?_
  refine r_getR (pc := 38) C FX8_state mw_1012 h_0 rfl dX8_doSteal_38 (fun g9 => ?_)
  refine r_bipush (pc := 41) C dX8_doSteal_41 kb_10 ?_
  refine r_dup2_11 (pc := 43) C dX8_doSteal_43 rfl rfl ?_
  refine r_iald (pc := 44) C rfl g9 (fun _ => rfl) (fun _ => rfl) dX8_doSteal_44 ?_
  refine r_iconst (pc := 45) C dX8_doSteal_45 kc_1 ?_
  refine r_iadd (pc := 46) C dX8_doSteal_46 ?_
  refine r_iast (pc := 47) C rfl g9 (fun _ => rfl) (fun _ => rfl) dX8_doSteal_47 (fun M10 => ?_)
  refine r_aload_n (pc := 48) C 0 rfl rfl dX8_doSteal_48 ?_
  refine r_bipush (pc := 49) C dX8_doSteal_49 kb_8 ?_
  refine r_iload_n (pc := 51) C 1 rfl rfl dX8_doSteal_51 ?_
  refine r_iload_n (pc := 52) C 2 rfl rfl dX8_doSteal_52 ?_
  refine r_cVV (pc := 53) C hRm (okX8_note h0 (8 : Int32) v1 v2 M10 h_0) (Rc.of C rfl rfl h_0) mw_1332 cvX8_note rfl ⟨Nat.le_of_ble_eq_true rfl, Nat.le_of_ble_eq_true rfl⟩ rfl (Nat.le_of_ble_eq_true rfl) dX8_doSteal_53 (fun o12 M11 => ?_)
  refine r_sub [0, 1] rfl ?_
  exact lX8_doSteal_56   C hRm h0   v1 M11 h_0
theorem okX8_doSteal {l : Launch} {G : WT} (h0 : W0 G) (v1 : Int32) (v2 : Int32) (M : Mem) (h_0 : G.2.2.2.1 19 0 0) : Okm l G yX8_doSteal cX8_doSteal 3 none 6 141 [.ref (G.1 19 0 0), .int v1, .int v2] voV M (pX8_doSteal  v1 v2 M) :=
  Okm.of "PermitParkModel" rfl (by decide) (Nat.le_of_ble_eq_true rfl) (L := [(0, .ref (G.1 19 0 0)), (1, .int v1), (2, .int v2)]) rfl (fun K _ hr C => lX8_doSteal_0 C (by rw [hr]; exact ⟨rfl, rfl⟩) h0 v1 v2 M h_0)
def pX8_doLock (v1 : Int32) (v2 : Int32) (M : Mem) : Option (Unit × Mem) :=
    chk (inB ((14 : Int32) + v2) 700) <| nm (M.1 20 0 0 ((14 : Int32) + v2).toNatClampNeg) fun x2 => if ¬ x2 = (-1 : Int32) then (if ¬ x2 = v1 then (bnd (pX8_put v1 (3 : Int32) (2 : Int32) M) fun o4 M3 => bnd (pX8_put v1 (8 : Int32) v2 M3) fun o6 M5 => chk (inB (12 : Int32) 700) <| bnd (pX8_put v1 (18 : Int32) (M5.1 20 0 0 (12 : Int32).toNatClampNeg) M5) fun o9 M8 => chk (inB (12 : Int32) 700) <| chk (inB (12 : Int32) 700) <| nm (wI M8 20 0 0 (12 : Int32).toNatClampNeg ((M8.1 20 0 0 (12 : Int32).toNatClampNeg) + (1 : Int32))) fun M11 => bnd (pX8_note (2 : Int32) v1 v2 M11) fun o13 M12 => some ((), M12))
    else bnd (pX8_fault v1 M) fun o15 M14 => some ((), M14))
    else chk (inB ((14 : Int32) + v2) 700) <| nm (wI M 20 0 0 ((14 : Int32) + v2).toNatClampNeg v1) fun M17 => bnd (pX8_note (3 : Int32) v1 v2 M17) fun o19 M18 => bnd (pX8_finish v1 M18) fun o21 M20 => some ((), M20)
theorem lX8_doLock_0 {K : KT} {G : WT} (C : Cx K G "PermitParkModel" cX8_doLock 4 none) (hRm : K.2.2.2.1.frames = 6 ∧ K.2.2.2.1.locals = 141) (h0 : W0 G) (v1 : Int32) (v2 : Int32) (M : Mem) (h_0 : G.2.2.2.1 19 0 0) : Run K G 4 0 0 (FinM K G voV 0 0) 0 [(0, .ref (G.1 19 0 0)), (1, .int v1), (2, .int v2)] [] M (pX8_doLock   v1 v2 M) := by
  rw [pX8_doLock]
  refine r_aload_n (pc := 0) C 0 rfl rfl dX8_doLock_0 ?_
  refine r_getR (pc := 1) C FX8_state mw_1012 h_0 rfl dX8_doLock_1 (fun g1 => ?_)
  refine r_bipush (pc := 4) C dX8_doLock_4 kb_14 ?_
  refine r_iload_n (pc := 6) C 2 rfl rfl dX8_doLock_6 ?_
  refine r_iadd (pc := 7) C dX8_doLock_7 ?_
  refine r_iald (pc := 8) C rfl g1 (fun _ => rfl) (fun _ => rfl) dX8_doLock_8 ?_
  refine r_nmi (fun x2 => ?_)
  refine r_istore_n (pc := 9) C [(3, .int x2), (0, .ref (G.1 19 0 0)), (1, .int v1), (2, .int v2)] dX8_doLock_9 rfl (by decide) rfl ?_
  refine r_iload_n (pc := 10) C 0 rfl rfl dX8_doLock_10 ?_
  refine r_iconst (pc := 11) C dX8_doLock_11 kc_m1 ?_
  refine r_icmp_ne (pc := 12) C dX8_doLock_12 (tgt := 40) rfl ?_ ?_
  refine r_iload_n (pc := 40) C 0 rfl rfl dX8_doLock_40 ?_
  refine r_iload_n (pc := 41) C 2 rfl rfl dX8_doLock_41 ?_
  refine r_icmp_ne (pc := 42) C dX8_doLock_42 (tgt := 53) rfl ?_ ?_
  refine r_aload_n (pc := 53) C 1 rfl rfl dX8_doLock_53 ?_
  refine r_iload_n (pc := 54) C 2 rfl rfl dX8_doLock_54 ?_
  refine r_iconst (pc := 55) C dX8_doLock_55 kc_3 ?_
  refine r_iconst (pc := 56) C dX8_doLock_56 kc_2 ?_
  refine r_cVV (pc := 57) C hRm (okX8_put h0 v1 (3 : Int32) (2 : Int32) M h_0) (Rc.of C rfl rfl h_0) mw_1166 cvX8_put rfl ⟨Nat.le_of_ble_eq_true rfl, Nat.le_of_ble_eq_true rfl⟩ rfl (Nat.le_of_ble_eq_true rfl) dX8_doLock_57 (fun o4 M3 => ?_)
  refine r_aload_n (pc := 60) C 1 rfl rfl dX8_doLock_60 ?_
  refine r_iload_n (pc := 61) C 2 rfl rfl dX8_doLock_61 ?_
  refine r_bipush (pc := 62) C dX8_doLock_62 kb_8 ?_
  refine r_iload_n (pc := 64) C 3 rfl rfl dX8_doLock_64 ?_
  refine r_cVV (pc := 65) C hRm (okX8_put h0 v1 (8 : Int32) v2 M3 h_0) (Rc.of C rfl rfl h_0) mw_1166 cvX8_put rfl ⟨Nat.le_of_ble_eq_true rfl, Nat.le_of_ble_eq_true rfl⟩ rfl (Nat.le_of_ble_eq_true rfl) dX8_doLock_65 (fun o6 M5 => ?_)
  refine r_aload_n (pc := 68) C 1 rfl rfl dX8_doLock_68 ?_
  refine r_iload_n (pc := 69) C 2 rfl rfl dX8_doLock_69 ?_
  refine r_bipush (pc := 70) C dX8_doLock_70 kb_18 ?_
  refine r_aload_n (pc := 72) C 1 rfl rfl dX8_doLock_72 ?_
  refine r_getR (pc := 73) C FX8_state mw_1012 h_0 rfl dX8_doLock_73 (fun g7 => ?_)
  refine r_bipush (pc := 76) C dX8_doLock_76 kb_12 ?_
  refine r_iald (pc := 78) C rfl g1 (fun _ => rfl) (fun _ => rfl) dX8_doLock_78 ?_
  refine r_cVV (pc := 79) C hRm (okX8_put h0 v1 (18 : Int32) (M5.1 20 0 0 (12 : Int32).toNatClampNeg) M5 h_0) (Rc.of C rfl rfl h_0) mw_1166 cvX8_put rfl ⟨Nat.le_of_ble_eq_true rfl, Nat.le_of_ble_eq_true rfl⟩ rfl (Nat.le_of_ble_eq_true rfl) dX8_doLock_79 (fun o9 M8 => ?_)
  refine r_aload_n (pc := 82) C 1 rfl rfl dX8_doLock_82 ?_
  refine r_getR (pc := 83) C FX8_state mw_1012 h_0 rfl dX8_doLock_83 (fun g10 => ?_)
  refine r_bipush (pc := 86) C dX8_doLock_86 kb_12 ?_
  refine r_dup2_11 (pc := 88) C dX8_doLock_88 rfl rfl ?_
  refine r_iald (pc := 89) C rfl g1 (fun _ => rfl) (fun _ => rfl) dX8_doLock_89 ?_
  refine r_iconst (pc := 90) C dX8_doLock_90 kc_1 ?_
  refine r_iadd (pc := 91) C dX8_doLock_91 ?_
  refine r_iast (pc := 92) C rfl g1 (fun _ => rfl) (fun _ => rfl) dX8_doLock_92 (fun M11 => ?_)
  refine r_aload_n (pc := 93) C 1 rfl rfl dX8_doLock_93 ?_
  refine r_iconst (pc := 94) C dX8_doLock_94 kc_2 ?_
  refine r_iload_n (pc := 95) C 2 rfl rfl dX8_doLock_95 ?_
  refine r_iload_n (pc := 96) C 3 rfl rfl dX8_doLock_96 ?_
  refine r_cVV (pc := 97) C hRm (okX8_note h0 (2 : Int32) v1 v2 M11 h_0) (Rc.of C rfl rfl h_0) mw_1332 cvX8_note rfl ⟨Nat.le_of_ble_eq_true rfl, Nat.le_of_ble_eq_true rfl⟩ rfl (Nat.le_of_ble_eq_true rfl) dX8_doLock_97 (fun o13 M12 => ?_)
  exact r_vret (pc := 100) C dX8_doLock_100
  refine r_aload_n (pc := 45) C 1 rfl rfl dX8_doLock_45 ?_
  refine r_iload_n (pc := 46) C 2 rfl rfl dX8_doLock_46 ?_
  refine r_cVV (pc := 47) C hRm (okX8_fault h0 v1 M h_0) (Rc.of C rfl rfl h_0) mw_1439 cvX8_fault rfl ⟨Nat.le_of_ble_eq_true rfl, Nat.le_of_ble_eq_true rfl⟩ rfl (Nat.le_of_ble_eq_true rfl) dX8_doLock_47 (fun o15 M14 => ?_)
  refine r_goto (pc := 50) C dX8_doLock_50 (tgt := 100) rfl ?_
  exact r_vret (pc := 100) C dX8_doLock_100
  refine r_aload_n (pc := 15) C 1 rfl rfl dX8_doLock_15 ?_
  refine r_getR (pc := 16) C FX8_state mw_1012 h_0 rfl dX8_doLock_16 (fun g16 => ?_)
  refine r_bipush (pc := 19) C dX8_doLock_19 kb_14 ?_
  refine r_iload_n (pc := 21) C 3 rfl rfl dX8_doLock_21 ?_
  refine r_iadd (pc := 22) C dX8_doLock_22 ?_
  refine r_iload_n (pc := 23) C 2 rfl rfl dX8_doLock_23 ?_
  refine r_iast (pc := 24) C rfl g1 (fun _ => rfl) (fun _ => rfl) dX8_doLock_24 (fun M17 => ?_)
  refine r_aload_n (pc := 25) C 1 rfl rfl dX8_doLock_25 ?_
  refine r_iconst (pc := 26) C dX8_doLock_26 kc_3 ?_
  refine r_iload_n (pc := 27) C 2 rfl rfl dX8_doLock_27 ?_
  refine r_iload_n (pc := 28) C 3 rfl rfl dX8_doLock_28 ?_
  refine r_cVV (pc := 29) C hRm (okX8_note h0 (3 : Int32) v1 v2 M17 h_0) (Rc.of C rfl rfl h_0) mw_1332 cvX8_note rfl ⟨Nat.le_of_ble_eq_true rfl, Nat.le_of_ble_eq_true rfl⟩ rfl (Nat.le_of_ble_eq_true rfl) dX8_doLock_29 (fun o19 M18 => ?_)
  refine r_aload_n (pc := 32) C 1 rfl rfl dX8_doLock_32 ?_
  refine r_iload_n (pc := 33) C 2 rfl rfl dX8_doLock_33 ?_
  refine r_cVV (pc := 34) C hRm (okX8_finish h0 v1 M18 h_0) (Rc.of C rfl rfl h_0) mw_1407 cvX8_finish rfl ⟨Nat.le_of_ble_eq_true rfl, Nat.le_of_ble_eq_true rfl⟩ rfl (Nat.le_of_ble_eq_true rfl) dX8_doLock_34 (fun o21 M20 => ?_)
  refine r_goto (pc := 37) C dX8_doLock_37 (tgt := 100) rfl ?_
  exact r_vret (pc := 100) C dX8_doLock_100
theorem okX8_doLock {l : Launch} {G : WT} (h0 : W0 G) (v1 : Int32) (v2 : Int32) (M : Mem) (h_0 : G.2.2.2.1 19 0 0) : Okm l G yX8_doLock cX8_doLock 4 none 6 141 [.ref (G.1 19 0 0), .int v1, .int v2] voV M (pX8_doLock  v1 v2 M) :=
  Okm.of "PermitParkModel" rfl (by decide) (Nat.le_of_ble_eq_true rfl) (L := [(0, .ref (G.1 19 0 0)), (1, .int v1), (2, .int v2)]) rfl (fun K _ hr C => lX8_doLock_0 C (by rw [hr]; exact ⟨rfl, rfl⟩) h0 v1 v2 M h_0)
def pX8_doUnlock (v1 : Int32) (v2 : Int32) (M : Mem) : Option (Unit × Mem) :=
    chk (inB ((14 : Int32) + v2) 700) <| if (M.1 20 0 0 ((14 : Int32) + v2).toNatClampNeg) = v1 then (bnd (pX8_giveUp v1 v2 M) fun o3 M2 => bnd (pX8_settle M2) fun o5 M4 => bnd (pX8_finish v1 M4) fun o7 M6 => some ((), M6))
    else bnd (pX8_fault v1 M) fun o9 M8 => some ((), M8)
theorem lX8_doUnlock_0 {K : KT} {G : WT} (C : Cx K G "PermitParkModel" cX8_doUnlock 3 none) (hRm : K.2.2.2.1.frames = 6 ∧ K.2.2.2.1.locals = 141) (h0 : W0 G) (v1 : Int32) (v2 : Int32) (M : Mem) (h_0 : G.2.2.2.1 19 0 0) : Run K G 3 0 0 (FinM K G voV 0 0) 0 [(0, .ref (G.1 19 0 0)), (1, .int v1), (2, .int v2)] [] M (pX8_doUnlock   v1 v2 M) := by
  rw [pX8_doUnlock]
  refine r_aload_n (pc := 0) C 0 rfl rfl dX8_doUnlock_0 ?_
  refine r_getR (pc := 1) C FX8_state mw_1012 h_0 rfl dX8_doUnlock_1 (fun g1 => ?_)
  refine r_bipush (pc := 4) C dX8_doUnlock_4 kb_14 ?_
  refine r_iload_n (pc := 6) C 2 rfl rfl dX8_doUnlock_6 ?_
  refine r_iadd (pc := 7) C dX8_doUnlock_7 ?_
  refine r_iald (pc := 8) C rfl g1 (fun _ => rfl) (fun _ => rfl) dX8_doUnlock_8 ?_
  refine r_iload_n (pc := 9) C 1 rfl rfl dX8_doUnlock_9 ?_
  refine r_icmp_eq (pc := 10) C dX8_doUnlock_10 (tgt := 19) rfl ?_ ?_
  refine r_aload_n (pc := 19) C 0 rfl rfl dX8_doUnlock_19 ?_
  refine r_iload_n (pc := 20) C 1 rfl rfl dX8_doUnlock_20 ?_
  refine r_iload_n (pc := 21) C 2 rfl rfl dX8_doUnlock_21 ?_
  refine r_cVV (pc := 22) C hRm (okX8_giveUp h0 v1 v2 M h_0) (Rc.of C rfl rfl h_0) mw_1348 cvX8_giveUp rfl ⟨Nat.le_of_ble_eq_true rfl, Nat.le_of_ble_eq_true rfl⟩ rfl (Nat.le_of_ble_eq_true rfl) dX8_doUnlock_22 (fun o3 M2 => ?_)
  refine r_aload_n (pc := 25) C 0 rfl rfl dX8_doUnlock_25 ?_
  refine r_cVV (pc := 26) C hRm (okX8_settle h0 M2 h_0) (Rc.of C rfl rfl h_0) mw_1340 cvX8_settle rfl ⟨Nat.le_of_ble_eq_true rfl, Nat.le_of_ble_eq_true rfl⟩ rfl (Nat.le_of_ble_eq_true rfl) dX8_doUnlock_26 (fun o5 M4 => ?_)
  refine r_aload_n (pc := 29) C 0 rfl rfl dX8_doUnlock_29 ?_
  refine r_iload_n (pc := 30) C 1 rfl rfl dX8_doUnlock_30 ?_
  refine r_cVV (pc := 31) C hRm (okX8_finish h0 v1 M4 h_0) (Rc.of C rfl rfl h_0) mw_1407 cvX8_finish rfl ⟨Nat.le_of_ble_eq_true rfl, Nat.le_of_ble_eq_true rfl⟩ rfl (Nat.le_of_ble_eq_true rfl) dX8_doUnlock_31 (fun o7 M6 => ?_)
  exact r_vret (pc := 34) C dX8_doUnlock_34
  refine r_aload_n (pc := 13) C 0 rfl rfl dX8_doUnlock_13 ?_
  refine r_iload_n (pc := 14) C 1 rfl rfl dX8_doUnlock_14 ?_
  refine r_cVV (pc := 15) C hRm (okX8_fault h0 v1 M h_0) (Rc.of C rfl rfl h_0) mw_1439 cvX8_fault rfl ⟨Nat.le_of_ble_eq_true rfl, Nat.le_of_ble_eq_true rfl⟩ rfl (Nat.le_of_ble_eq_true rfl) dX8_doUnlock_15 (fun o9 M8 => ?_)
  exact r_vret (pc := 18) C dX8_doUnlock_18
theorem okX8_doUnlock {l : Launch} {G : WT} (h0 : W0 G) (v1 : Int32) (v2 : Int32) (M : Mem) (h_0 : G.2.2.2.1 19 0 0) : Okm l G yX8_doUnlock cX8_doUnlock 3 none 6 141 [.ref (G.1 19 0 0), .int v1, .int v2] voV M (pX8_doUnlock  v1 v2 M) :=
  Okm.of "PermitParkModel" rfl (by decide) (Nat.le_of_ble_eq_true rfl) (L := [(0, .ref (G.1 19 0 0)), (1, .int v1), (2, .int v2)]) rfl (fun K _ hr C => lX8_doUnlock_0 C (by rw [hr]; exact ⟨rfl, rfl⟩) h0 v1 v2 M h_0)
end
