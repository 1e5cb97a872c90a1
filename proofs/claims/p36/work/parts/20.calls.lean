/-! ===== pictures: the calls ===== -/
section
set_option maxRecDepth 4000
def pX7_needInRange_10 (M : Mem) : Option (Unit × Mem) :=
    none
theorem lX7_needInRange_10 {K : KT} {G : WT} (C : Cx K G "PermitPark" cX7_needInRange 3 none) (hRm : K.2.2.2.1.frames = 0 ∧ K.2.2.2.1.locals = 0) (h0 : W0 G) (M : Mem) : Run K G 3 0 0 (FinM K G voV 0 0) 10 [] [] M (pX7_needInRange_10    M) := by
  rw [pX7_needInRange_10]
  exact r_none
def pX7_needInRange (v0 : Int32) (v1 : Int32) (v2 : Int32) (M : Mem) : Option (Unit × Mem) :=
    if v0 < v1 then (pX7_needInRange_10    M)
    else if v0 ≤ v2 then (some ((), M))
    else pX7_needInRange_10    M
theorem lX7_needInRange_0 {K : KT} {G : WT} (C : Cx K G "PermitPark" cX7_needInRange 3 none) (hRm : K.2.2.2.1.frames = 0 ∧ K.2.2.2.1.locals = 0) (h0 : W0 G) (v0 : Int32) (v1 : Int32) (v2 : Int32) (M : Mem) : Run K G 3 0 0 (FinM K G voV 0 0) 0 [(0, .int v0), (1, .int v1), (2, .int v2)] [] M (pX7_needInRange   v0 v1 v2 M) := by
  rw [pX7_needInRange]
  refine r_iload_n (pc := 0) C 0 rfl rfl dX7_needInRange_0 ?_
  refine r_iload_n (pc := 1) C 1 rfl rfl dX7_needInRange_1 ?_
  refine r_icmp_lt (pc := 2) C dX7_needInRange_2 (tgt := 10) rfl ?_ ?_
  refine r_sub [] rfl ?_
  exact lX7_needInRange_10   C hRm h0   M 
  refine r_iload_n (pc := 5) C 0 rfl rfl dX7_needInRange_5 ?_
  refine r_iload_n (pc := 6) C 2 rfl rfl dX7_needInRange_6 ?_
  refine r_icmp_le (pc := 7) C dX7_needInRange_7 (tgt := 20) rfl ?_ ?_
  exact r_vret (pc := 20) C dX7_needInRange_20
  refine r_sub [] rfl ?_
  exact lX7_needInRange_10   C hRm h0   M 
theorem okX7_needInRange {l : Launch} {G : WT} (h0 : W0 G) (v0 : Int32) (v1 : Int32) (v2 : Int32) (M : Mem) : Okm l G yX7_needInRange cX7_needInRange 3 none 0 0 [.int v0, .int v1, .int v2] voV M (pX7_needInRange  v0 v1 v2 M) :=
  Okm.of "PermitPark" rfl (by decide) (Nat.le_of_ble_eq_true rfl) (L := [(0, .int v0), (1, .int v1), (2, .int v2)]) rfl (fun K _ hr C => lX7_needInRange_0 C (by rw [hr]; exact ⟨rfl, rfl⟩) h0 v0 v1 v2 M )
def pX7_needInstruction (v0 : Int32) (v1 : Int32) (M : Mem) : Option (Unit × Mem) :=
    bnd (pX7_needInRange v0 (0 : Int32) ((11 : Int32) - (1 : Int32)) M) fun o2 M1 => chk (inB v0 11) <| chk (inB v0 11) <| bnd (pX7_needInRange v1 (xLeast.getD v0.toNatClampNeg 0) (xMost.getD v0.toNatClampNeg 0) M1) fun o6 M5 => some ((), M5)
theorem lX7_needInstruction_0 {K : KT} {G : WT} (C : Cx K G "PermitPark" cX7_needInstruction 2 none) (hRm : K.2.2.2.1.frames = 1 ∧ K.2.2.2.1.locals = 22) (h0 : W0 G) (v0 : Int32) (v1 : Int32) (M : Mem) : Run K G 2 0 0 (FinM K G voV 0 0) 0 [(0, .int v0), (1, .int v1)] [] M (pX7_needInstruction   v0 v1 M) := by
  rw [pX7_needInstruction]
  refine r_iload_n (pc := 0) C 0 rfl rfl dX7_needInstruction_0 ?_
  refine r_iconst (pc := 1) C dX7_needInstruction_1 kc_0 ?_
  refine r_gOps (pc := 2) C mw_388 dX7_needInstruction_2 ?_
  refine r_opsN (pc := 5) C dX7_needInstruction_5 ?_
  refine r_iconst (pc := 6) C dX7_needInstruction_6 kc_1 ?_
  refine r_isub (pc := 7) C dX7_needInstruction_7 ?_
  refine r_cSV (pc := 8) C hRm (okX7_needInRange h0 v0 (0 : Int32) ((11 : Int32) - (1 : Int32)) M ) mw_315 cvX7_needInRange rfl ⟨Nat.le_of_ble_eq_true rfl, Nat.le_of_ble_eq_true rfl⟩ rfl (Nat.le_of_ble_eq_true rfl) dX7_needInstruction_8 (fun o2 M1 => ?_)
  refine r_iload_n (pc := 11) C 1 rfl rfl dX7_needInstruction_11 ?_
  refine r_gOps (pc := 12) C mw_388 dX7_needInstruction_12 ?_
  refine r_iload_n (pc := 15) C 0 rfl rfl dX7_needInstruction_15 ?_
  refine r_opsL (pc := 16) C dX7_needInstruction_16 (fun g3 => ?_)
  refine r_opLeast (pc := 17) C g3 mw_879 dX7_needInstruction_17 ?_
  refine r_gOps (pc := 20) C mw_388 dX7_needInstruction_20 ?_
  refine r_iload_n (pc := 23) C 0 rfl rfl dX7_needInstruction_23 ?_
  refine r_opsL (pc := 24) C dX7_needInstruction_24 (fun g4 => ?_)
  refine r_opMost (pc := 25) C g3 mw_880 dX7_needInstruction_25 ?_
  refine r_cSV (pc := 28) C hRm (okX7_needInRange h0 v1 (xLeast.getD v0.toNatClampNeg 0) (xMost.getD v0.toNatClampNeg 0) M1 ) mw_315 cvX7_needInRange rfl ⟨Nat.le_of_ble_eq_true rfl, Nat.le_of_ble_eq_true rfl⟩ rfl (Nat.le_of_ble_eq_true rfl) dX7_needInstruction_28 (fun o6 M5 => ?_)
  exact r_vret (pc := 31) C dX7_needInstruction_31
theorem okX7_needInstruction {l : Launch} {G : WT} (h0 : W0 G) (v0 : Int32) (v1 : Int32) (M : Mem) : Okm l G yX7_needInstruction cX7_needInstruction 2 none 1 22 [.int v0, .int v1] voV M (pX7_needInstruction  v0 v1 M) :=
  Okm.of "PermitPark" rfl (by decide) (Nat.le_of_ble_eq_true rfl) (L := [(0, .int v0), (1, .int v1)]) rfl (fun K _ hr C => lX7_needInstruction_0 C (by rw [hr]; exact ⟨rfl, rfl⟩) h0 v0 v1 M )
def pX7_addThread (v1 : Int32) (v2 : Int32) (v3 : Int32) (M : Mem) : Option (Int32 × Mem) :=
    bnd (pX7_needInRange v1 (1 : Int32) (9 : Int32) M) fun o2 M1 => bnd (pX7_needInstruction v2 v3 M1) fun o4 M3 => bnd (pX3_isFull 0 M3) fun o7 M6 => if o7 = 0 then (bnd (pX3_newThread 0 v1 M6) fun o10 M9 => chk (decide (o10.1 = 0 ∧ o10.2 < 10)) <| bnd (pX6_addStep (o10.1) (o10.2) v2 v3 M9) fun o13 M12 => some (((M12.1 3 0 0 4) - (1 : Int32)), M12))
    else none
theorem lX7_addThread_0 {K : KT} {G : WT} (C : Cx K G "PermitPark" cX7_addThread 4 (some FieldType.int)) (hRm : K.2.2.2.1.frames = 2 ∧ K.2.2.2.1.locals = 44) (h0 : W0 G) (v1 : Int32) (v2 : Int32) (v3 : Int32) (M : Mem) (h_0 : G.2.2.2.1 0 0 0) : Run K G 4 0 0 (FinM K G voI 0 0) 0 [(0, .ref (G.1 0 0 0)), (1, .int v1), (2, .int v2), (3, .int v3)] [] M (pX7_addThread   v1 v2 v3 M) := by
  rw [pX7_addThread]
  refine r_iload_n (pc := 0) C 1 rfl rfl dX7_addThread_0 ?_
  refine r_iconst (pc := 1) C dX7_addThread_1 kc_1 ?_
  refine r_bipush (pc := 2) C dX7_addThread_2 kb_9 ?_
  refine r_cSV (pc := 4) C hRm (okX7_needInRange h0 v1 (1 : Int32) (9 : Int32) M ) mw_315 cvX7_needInRange rfl ⟨Nat.le_of_ble_eq_true rfl, Nat.le_of_ble_eq_true rfl⟩ rfl (Nat.le_of_ble_eq_true rfl) dX7_addThread_4 (fun o2 M1 => ?_)
  refine r_iload_n (pc := 7) C 2 rfl rfl dX7_addThread_7 ?_
  refine r_iload_n (pc := 8) C 3 rfl rfl dX7_addThread_8 ?_
  refine r_cSV (pc := 9) C hRm (okX7_needInstruction h0 v2 v3 M1 ) mw_385 cvX7_needInstruction rfl ⟨Nat.le_of_ble_eq_true rfl, Nat.le_of_ble_eq_true rfl⟩ rfl (Nat.le_of_ble_eq_true rfl) dX7_addThread_9 (fun o4 M3 => ?_)
  refine r_aload_n (pc := 12) C 0 rfl rfl dX7_addThread_12 ?_
  refine r_getR (pc := 13) C FX7_live mw_257 h_0 rfl dX7_addThread_13 (fun g5 => ?_)
  refine r_cVI (pc := 16) C hRm (okX3_isFull h0 0 M3 g5) (Rc.of C rfl rfl g5) mw_390 cvX3_isFull rfl ⟨Nat.le_of_ble_eq_true rfl, Nat.le_of_ble_eq_true rfl⟩ rfl (Nat.le_of_ble_eq_true rfl) dX7_addThread_16 (fun o7 M6 => ?_)
  refine r_if_eq (pc := 19) C dX7_addThread_19 (tgt := 32) rfl ?_ ?_
  refine r_aload_n (pc := 32) C 0 rfl rfl dX7_addThread_32 ?_
  refine r_getR (pc := 33) C FX7_live mw_257 h_0 rfl dX7_addThread_33 (fun g8 => ?_)
  refine r_iload_n (pc := 36) C 1 rfl rfl dX7_addThread_36 ?_
  refine r_cVR (pc := 37) C hRm (okX3_newThread h0 0 v1 M6 g5) (Rc.of C rfl rfl g5) mw_410 cvX3_newThread rfl ⟨Nat.le_of_ble_eq_true rfl, Nat.le_of_ble_eq_true rfl⟩ rfl (Nat.le_of_ble_eq_true rfl) dX7_addThread_37 (fun o10 M9 => ?_)
  refine r_chk (fun g11 => ?_)
  refine r_iload_n (pc := 40) C 2 rfl rfl dX7_addThread_40 ?_
  refine r_iload_n (pc := 41) C 3 rfl rfl dX7_addThread_41 ?_
  refine r_cVV (pc := 42) C hRm (okX6_addStep h0 (o10.1) (o10.2) v2 v3 M9 (dm5 C g5 g11)) (Rc.of C rfl rfl (dm5 C g5 g11)) mw_418 cvX6_addStep rfl ⟨Nat.le_of_ble_eq_true rfl, Nat.le_of_ble_eq_true rfl⟩ rfl (Nat.le_of_ble_eq_true rfl) dX7_addThread_42 (fun o13 M12 => ?_)
  refine r_aload_n (pc := 45) C 0 rfl rfl dX7_addThread_45 ?_
  refine r_getR (pc := 46) C FX7_live mw_257 h_0 rfl dX7_addThread_46 (fun g14 => ?_)
  refine r_getI (pc := 49) C FX3_threadCount mw_208 g5 rfl rfl dX7_addThread_49 ?_
  refine r_iconst (pc := 52) C dX7_addThread_52 kc_1 ?_
  refine r_isub (pc := 53) C dX7_addThread_53 ?_
  exact r_iret (pc := 54) C rfl dX7_addThread_54
  exact r_none
theorem okX7_addThread {l : Launch} {G : WT} (h0 : W0 G) (v1 : Int32) (v2 : Int32) (v3 : Int32) (M : Mem) (h_0 : G.2.2.2.1 0 0 0) : Okm l G yX7_addThread cX7_addThread 4 (some FieldType.int) 2 44 [.ref (G.1 0 0 0), .int v1, .int v2, .int v3] voI M (pX7_addThread  v1 v2 v3 M) :=
  Okm.of "PermitPark" rfl (by decide) (Nat.le_of_ble_eq_true rfl) (L := [(0, .ref (G.1 0 0 0)), (1, .int v1), (2, .int v2), (3, .int v3)]) rfl (fun K _ hr C => lX7_addThread_0 C (by rw [hr]; exact ⟨rfl, rfl⟩) h0 v1 v2 v3 M h_0)
def pX7_needIndex_9 (M : Mem) : Option (Unit × Mem) :=
    none
theorem lX7_needIndex_9 {K : KT} {G : WT} (C : Cx K G "PermitPark" cX7_needIndex 2 none) (hRm : K.2.2.2.1.frames = 0 ∧ K.2.2.2.1.locals = 0) (h0 : W0 G) (M : Mem) : Run K G 2 0 0 (FinM K G voV 0 0) 9 [] [] M (pX7_needIndex_9    M) := by
  rw [pX7_needIndex_9]
  exact r_none
def pX7_needIndex (v0 : Int32) (v1 : Int32) (M : Mem) : Option (Unit × Mem) :=
    if v0 < 0 then (pX7_needIndex_9    M)
    else if v0 < v1 then (some ((), M))
    else pX7_needIndex_9    M
theorem lX7_needIndex_0 {K : KT} {G : WT} (C : Cx K G "PermitPark" cX7_needIndex 2 none) (hRm : K.2.2.2.1.frames = 0 ∧ K.2.2.2.1.locals = 0) (h0 : W0 G) (v0 : Int32) (v1 : Int32) (M : Mem) : Run K G 2 0 0 (FinM K G voV 0 0) 0 [(0, .int v0), (1, .int v1)] [] M (pX7_needIndex   v0 v1 M) := by
  rw [pX7_needIndex]
  refine r_iload_n (pc := 0) C 0 rfl rfl dX7_needIndex_0 ?_
  refine r_if_lt (pc := 1) C dX7_needIndex_1 (tgt := 9) rfl ?_ ?_
  refine r_sub [] rfl ?_
  exact lX7_needIndex_9   C hRm h0   M 
  refine r_iload_n (pc := 4) C 0 rfl rfl dX7_needIndex_4 ?_
  refine r_iload_n (pc := 5) C 1 rfl rfl dX7_needIndex_5 ?_
  refine r_icmp_lt (pc := 6) C dX7_needIndex_6 (tgt := 19) rfl ?_ ?_
  exact r_vret (pc := 19) C dX7_needIndex_19
  refine r_sub [] rfl ?_
  exact lX7_needIndex_9   C hRm h0   M 
theorem okX7_needIndex {l : Launch} {G : WT} (h0 : W0 G) (v0 : Int32) (v1 : Int32) (M : Mem) : Okm l G yX7_needIndex cX7_needIndex 2 none 0 0 [.int v0, .int v1] voV M (pX7_needIndex  v0 v1 M) :=
  Okm.of "PermitPark" rfl (by decide) (Nat.le_of_ble_eq_true rfl) (L := [(0, .int v0), (1, .int v1)]) rfl (fun K _ hr C => lX7_needIndex_0 C (by rw [hr]; exact ⟨rfl, rfl⟩) h0 v0 v1 M )
def pX7_needThread (v1 : Int32) (M : Mem) : Option (Unit × Mem) :=
    bnd (pX7_needIndex v1 (M.1 3 0 0 4) M) fun o3 M2 => some ((), M2)
theorem lX7_needThread_0 {K : KT} {G : WT} (C : Cx K G "PermitPark" cX7_needThread 2 none) (hRm : K.2.2.2.1.frames = 1 ∧ K.2.2.2.1.locals = 21) (h0 : W0 G) (v1 : Int32) (M : Mem) (h_0 : G.2.2.2.1 0 0 0) : Run K G 2 0 0 (FinM K G voV 0 0) 0 [(0, .ref (G.1 0 0 0)), (1, .int v1)] [] M (pX7_needThread   v1 M) := by
  rw [pX7_needThread]
  refine r_iload_n (pc := 0) C 1 rfl rfl dX7_needThread_0 ?_
  refine r_aload_n (pc := 1) C 0 rfl rfl dX7_needThread_1 ?_
  refine r_getR (pc := 2) C FX7_live mw_257 h_0 rfl dX7_needThread_2 (fun g1 => ?_)
  refine r_getI (pc := 5) C FX3_threadCount mw_208 g1 rfl rfl dX7_needThread_5 ?_
  refine r_cSV (pc := 8) C hRm (okX7_needIndex h0 v1 (M.1 3 0 0 4) M ) mw_434 cvX7_needIndex rfl ⟨Nat.le_of_ble_eq_true rfl, Nat.le_of_ble_eq_true rfl⟩ rfl (Nat.le_of_ble_eq_true rfl) dX7_needThread_8 (fun o3 M2 => ?_)
  exact r_vret (pc := 11) C dX7_needThread_11
theorem okX7_needThread {l : Launch} {G : WT} (h0 : W0 G) (v1 : Int32) (M : Mem) (h_0 : G.2.2.2.1 0 0 0) : Okm l G yX7_needThread cX7_needThread 2 none 1 21 [.ref (G.1 0 0 0), .int v1] voV M (pX7_needThread  v1 M) :=
  Okm.of "PermitPark" rfl (by decide) (Nat.le_of_ble_eq_true rfl) (L := [(0, .ref (G.1 0 0 0)), (1, .int v1)]) rfl (fun K _ hr C => lX7_needThread_0 C (by rw [hr]; exact ⟨rfl, rfl⟩) h0 v1 M h_0)
def pX7_addInstruction_39 (M : Mem) : Option (Int32 × Mem) :=
    none
theorem lX7_addInstruction_39 {K : KT} {G : WT} (C : Cx K G "PermitPark" cX7_addInstruction 5 (some FieldType.int)) (hRm : K.2.2.2.1.frames = 2 ∧ K.2.2.2.1.locals = 43) (h0 : W0 G) (M : Mem) : Run K G 5 0 0 (FinM K G voI 0 0) 39 [] [] M (pX7_addInstruction_39    M) := by
  rw [pX7_addInstruction_39]
  exact r_none
def pX7_addInstruction (v1 : Int32) (v2 : Int32) (v3 : Int32) (M : Mem) : Option (Int32 × Mem) :=
    bnd (pX7_needThread v1 M) fun o2 M1 => bnd (pX7_needInstruction v2 v3 M1) fun o4 M3 => chk (inB v1 10) <| if (16 : Int32) ≤ (M3.1 5 0 (v1.toNatClampNeg) 3) then (pX7_addInstruction_39    M3)
    else bnd (pX6_isOver 0 (v1.toNatClampNeg) M3) fun o9 M8 => if o9 = 0 then (bnd (pX6_addStep 0 (v1.toNatClampNeg) v2 v3 M8) fun o11 M10 => some ((M10.1 5 0 (v1.toNatClampNeg) 3), M10))
    else pX7_addInstruction_39    M8
theorem lX7_addInstruction_0 {K : KT} {G : WT} (C : Cx K G "PermitPark" cX7_addInstruction 5 (some FieldType.int)) (hRm : K.2.2.2.1.frames = 2 ∧ K.2.2.2.1.locals = 43) (h0 : W0 G) (v1 : Int32) (v2 : Int32) (v3 : Int32) (M : Mem) (h_0 : G.2.2.2.1 0 0 0) : Run K G 5 0 0 (FinM K G voI 0 0) 0 [(0, .ref (G.1 0 0 0)), (1, .int v1), (2, .int v2), (3, .int v3)] [] M (pX7_addInstruction   v1 v2 v3 M) := by
  rw [pX7_addInstruction]
  refine r_aload_n (pc := 0) C 0 rfl rfl dX7_addInstruction_0 ?_
  refine r_iload_n (pc := 1) C 1 rfl rfl dX7_addInstruction_1 ?_
  refine r_cVV (pc := 2) C hRm (okX7_needThread h0 v1 M h_0) (Rc.of C rfl rfl h_0) mw_430 cvX7_needThread rfl ⟨Nat.le_of_ble_eq_true rfl, Nat.le_of_ble_eq_true rfl⟩ rfl (Nat.le_of_ble_eq_true rfl) dX7_addInstruction_2 (fun o2 M1 => ?_)
  refine r_iload_n (pc := 5) C 2 rfl rfl dX7_addInstruction_5 ?_
  refine r_iload_n (pc := 6) C 3 rfl rfl dX7_addInstruction_6 ?_
  refine r_cSV (pc := 7) C hRm (okX7_needInstruction h0 v2 v3 M1 ) mw_385 cvX7_needInstruction rfl ⟨Nat.le_of_ble_eq_true rfl, Nat.le_of_ble_eq_true rfl⟩ rfl (Nat.le_of_ble_eq_true rfl) dX7_addInstruction_7 (fun o4 M3 => ?_)
  refine r_aload_n (pc := 10) C 0 rfl rfl dX7_addInstruction_10 ?_
  refine r_getR (pc := 11) C FX7_live mw_257 h_0 rfl dX7_addInstruction_11 (fun g5 => ?_)
  refine r_getR (pc := 14) C FX3_threads mw_200 g5 rfl dX7_addInstruction_14 (fun g6 => ?_)
  refine r_iload_n (pc := 17) C 1 rfl rfl dX7_addInstruction_17 ?_
  refine r_aald (pc := 18) C (kd := 4) rfl rfl g6 rfl dX7_addInstruction_18 (fun g7 => ?_)
  refine r_astore (pc := 19) C [(4, .ref (G.1 5 0 (v1.toNatClampNeg))), (0, .ref (G.1 0 0 0)), (1, .int v1), (2, .int v2), (3, .int v3)] dX7_addInstruction_19 (by decide) rfl ?_
  refine r_aload (pc := 21) C 0 rfl dX7_addInstruction_21 ?_
  refine r_getI (pc := 23) C FX6_length mw_117 g7 rfl rfl dX7_addInstruction_23 ?_
  refine r_bipush (pc := 26) C dX7_addInstruction_26 kb_16 ?_
  refine r_icmp_ge (pc := 28) C dX7_addInstruction_28 (tgt := 39) rfl ?_ ?_
  refine r_sub [] rfl ?_
  exact lX7_addInstruction_39   C hRm h0   M3 
  refine r_aload (pc := 31) C 0 rfl dX7_addInstruction_31 ?_
  refine r_cVI (pc := 33) C hRm (okX6_isOver h0 0 (v1.toNatClampNeg) M3 g7) (Rc.of C rfl rfl g7) mw_453 cvX6_isOver rfl ⟨Nat.le_of_ble_eq_true rfl, Nat.le_of_ble_eq_true rfl⟩ rfl (Nat.le_of_ble_eq_true rfl) dX7_addInstruction_33 (fun o9 M8 => ?_)
  refine r_if_eq (pc := 36) C dX7_addInstruction_36 (tgt := 49) rfl ?_ ?_
  refine r_aload (pc := 49) C 0 rfl dX7_addInstruction_49 ?_
  refine r_iload_n (pc := 51) C 3 rfl rfl dX7_addInstruction_51 ?_
  refine r_iload_n (pc := 52) C 4 rfl rfl dX7_addInstruction_52 ?_
  refine r_cVV (pc := 53) C hRm (okX6_addStep h0 0 (v1.toNatClampNeg) v2 v3 M8 g7) (Rc.of C rfl rfl g7) mw_418 cvX6_addStep rfl ⟨Nat.le_of_ble_eq_true rfl, Nat.le_of_ble_eq_true rfl⟩ rfl (Nat.le_of_ble_eq_true rfl) dX7_addInstruction_53 (fun o11 M10 => ?_)
  refine r_aload (pc := 56) C 0 rfl dX7_addInstruction_56 ?_
  refine r_getI (pc := 58) C FX6_length mw_117 g7 rfl rfl dX7_addInstruction_58 ?_
  exact r_iret (pc := 61) C rfl dX7_addInstruction_61
  refine r_sub [] rfl ?_
  exact lX7_addInstruction_39   C hRm h0   M8 
theorem okX7_addInstruction {l : Launch} {G : WT} (h0 : W0 G) (v1 : Int32) (v2 : Int32) (v3 : Int32) (M : Mem) (h_0 : G.2.2.2.1 0 0 0) : Okm l G yX7_addInstruction cX7_addInstruction 5 (some FieldType.int) 2 43 [.ref (G.1 0 0 0), .int v1, .int v2, .int v3] voI M (pX7_addInstruction  v1 v2 v3 M) :=
  Okm.of "PermitPark" rfl (by decide) (Nat.le_of_ble_eq_true rfl) (L := [(0, .ref (G.1 0 0 0)), (1, .int v1), (2, .int v2), (3, .int v3)]) rfl (fun K _ hr C => lX7_addInstruction_0 C (by rw [hr]; exact ⟨rfl, rfl⟩) h0 v1 v2 v3 M h_0)
def pX7_setBase (v1 : Int32) (v2 : Int32) (M : Mem) : Option (Int32 × Mem) :=
    bnd (pX7_needThread v1 M) fun o2 M1 => bnd (pX7_needInRange v2 (1 : Int32) (9 : Int32) M1) fun o4 M3 => chk (inB v1 10) <| nm (M3.1 5 0 (v1.toNatClampNeg) 4) fun x8 => bnd (pX3_changeBase 0 v1 v2 M3) fun o11 M10 => some (x8, M10)
theorem lX7_setBase_0 {K : KT} {G : WT} (C : Cx K G "PermitPark" cX7_setBase 4 (some FieldType.int)) (hRm : K.2.2.2.1.frames = 2 ∧ K.2.2.2.1.locals = 42) (h0 : W0 G) (v1 : Int32) (v2 : Int32) (M : Mem) (h_0 : G.2.2.2.1 0 0 0) : Run K G 4 0 0 (FinM K G voI 0 0) 0 [(0, .ref (G.1 0 0 0)), (1, .int v1), (2, .int v2)] [] M (pX7_setBase   v1 v2 M) := by
  rw [pX7_setBase]
  refine r_aload_n (pc := 0) C 0 rfl rfl dX7_setBase_0 ?_
  refine r_iload_n (pc := 1) C 1 rfl rfl dX7_setBase_1 ?_
  refine r_cVV (pc := 2) C hRm (okX7_needThread h0 v1 M h_0) (Rc.of C rfl rfl h_0) mw_430 cvX7_needThread rfl ⟨Nat.le_of_ble_eq_true rfl, Nat.le_of_ble_eq_true rfl⟩ rfl (Nat.le_of_ble_eq_true rfl) dX7_setBase_2 (fun o2 M1 => ?_)
  refine r_iload_n (pc := 5) C 2 rfl rfl dX7_setBase_5 ?_
  refine r_iconst (pc := 6) C dX7_setBase_6 kc_1 ?_
  refine r_bipush (pc := 7) C dX7_setBase_7 kb_9 ?_
  refine r_cSV (pc := 9) C hRm (okX7_needInRange h0 v2 (1 : Int32) (9 : Int32) M1 ) mw_315 cvX7_needInRange rfl ⟨Nat.le_of_ble_eq_true rfl, Nat.le_of_ble_eq_true rfl⟩ rfl (Nat.le_of_ble_eq_true rfl) dX7_setBase_9 (fun o4 M3 => ?_)
  refine r_aload_n (pc := 12) C 0 rfl rfl dX7_setBase_12 ?_
  refine r_getR (pc := 13) C FX7_live mw_257 h_0 rfl dX7_setBase_13 (fun g5 => ?_)
  refine r_getR (pc := 16) C FX3_threads mw_200 g5 rfl dX7_setBase_16 (fun g6 => ?_)
  refine r_iload_n (pc := 19) C 1 rfl rfl dX7_setBase_19 ?_
  refine r_aald (pc := 20) C (kd := 4) rfl rfl g6 rfl dX7_setBase_20 (fun g7 => ?_)
  refine r_getI (pc := 21) C FX6_base mw_121 g7 rfl rfl dX7_setBase_21 ?_
  refine r_nmi (fun x8 => ?_)
  refine r_istore_n (pc := 24) C [(3, .int x8), (0, .ref (G.1 0 0 0)), (1, .int v1), (2, .int v2)] dX7_setBase_24 rfl (by decide) rfl ?_
  refine r_aload_n (pc := 25) C 1 rfl rfl dX7_setBase_25 ?_
  refine r_getR (pc := 26) C FX7_live mw_257 h_0 rfl dX7_setBase_26 (fun g9 => ?_)
  refine r_iload_n (pc := 29) C 2 rfl rfl dX7_setBase_29 ?_
  refine r_iload_n (pc := 30) C 3 rfl rfl dX7_setBase_30 ?_
  refine r_cVV (pc := 31) C hRm (okX3_changeBase h0 0 v1 v2 M3 g5) (Rc.of C rfl rfl g5) mw_755 cvX3_changeBase rfl ⟨Nat.le_of_ble_eq_true rfl, Nat.le_of_ble_eq_true rfl⟩ rfl (Nat.le_of_ble_eq_true rfl) dX7_setBase_31 (fun o11 M10 => ?_)
  refine r_iload_n (pc := 34) C 0 rfl rfl dX7_setBase_34 ?_
  exact r_iret (pc := 35) C rfl dX7_setBase_35
theorem okX7_setBase {l : Launch} {G : WT} (h0 : W0 G) (v1 : Int32) (v2 : Int32) (M : Mem) (h_0 : G.2.2.2.1 0 0 0) : Okm l G yX7_setBase cX7_setBase 4 (some FieldType.int) 2 42 [.ref (G.1 0 0 0), .int v1, .int v2] voI M (pX7_setBase  v1 v2 M) :=
  Okm.of "PermitPark" rfl (by decide) (Nat.le_of_ble_eq_true rfl) (L := [(0, .ref (G.1 0 0 0)), (1, .int v1), (2, .int v2)]) rfl (fun K _ hr C => lX7_setBase_0 C (by rw [hr]; exact ⟨rfl, rfl⟩) h0 v1 v2 M h_0)
def pX7_settingMost (v0 : Int32) (M : Mem) : Option (Int32 × Mem) :=
    if ¬ v0 = 0 then (some ((1 : Int32), M))
    else some ((1000 : Int32), M)
theorem lX7_settingMost_0 {K : KT} {G : WT} (C : Cx K G "PermitPark" cX7_settingMost 1 (some FieldType.int)) (hRm : K.2.2.2.1.frames = 0 ∧ K.2.2.2.1.locals = 0) (h0 : W0 G) (v0 : Int32) (M : Mem) : Run K G 1 0 0 (FinM K G voI 0 0) 0 [(0, .int v0)] [] M (pX7_settingMost   v0 M) := by
  rw [pX7_settingMost]
  refine r_iload_n (pc := 0) C 0 rfl rfl dX7_settingMost_0 ?_
  refine r_if_ne (pc := 1) C dX7_settingMost_1 (tgt := 10) rfl ?_ ?_
  refine r_iconst (pc := 10) C dX7_settingMost_10 kc_1 ?_
  exact r_iret (pc := 11) C rfl dX7_settingMost_11
  refine r_sipush (pc := 4) C dX7_settingMost_4 ks_1000 ?_
  refine r_goto (pc := 7) C dX7_settingMost_7 (tgt := 11) rfl ?_
  exact r_iret (pc := 11) C rfl dX7_settingMost_11
theorem okX7_settingMost {l : Launch} {G : WT} (h0 : W0 G) (v0 : Int32) (M : Mem) : Okm l G yX7_settingMost cX7_settingMost 1 (some FieldType.int) 0 0 [.int v0] voI M (pX7_settingMost  v0 M) :=
  Okm.of "PermitPark" rfl (by decide) (Nat.le_of_ble_eq_true rfl) (L := [(0, .int v0)]) rfl (fun K _ hr C => lX7_settingMost_0 C (by rw [hr]; exact ⟨rfl, rfl⟩) h0 v0 M )
def pX7_set (v1 : Int32) (v2 : Int32) (M : Mem) : Option (Int32 × Mem) :=
    bnd (pX7_needInRange v1 (0 : Int32) (1 : Int32) M) fun o2 M1 => bnd (pX7_settingMost v1 M1) fun o4 M3 => bnd (pX7_needInRange v2 (0 : Int32) o4 M3) fun o6 M5 => chk (inB v1 2) <| nm (M5.1 15 0 0 v1.toNatClampNeg) fun x9 => bnd (pX3_changeSetting 0 v1 v2 M5) fun o12 M11 => some (x9, M11)
theorem lX7_set_0 {K : KT} {G : WT} (C : Cx K G "PermitPark" cX7_set 4 (some FieldType.int)) (hRm : K.2.2.2.1.frames = 1 ∧ K.2.2.2.1.locals = 22) (h0 : W0 G) (v1 : Int32) (v2 : Int32) (M : Mem) (h_0 : G.2.2.2.1 0 0 0) : Run K G 4 0 0 (FinM K G voI 0 0) 0 [(0, .ref (G.1 0 0 0)), (1, .int v1), (2, .int v2)] [] M (pX7_set   v1 v2 M) := by
  rw [pX7_set]
  refine r_iload_n (pc := 0) C 1 rfl rfl dX7_set_0 ?_
  refine r_iconst (pc := 1) C dX7_set_1 kc_0 ?_
  refine r_iconst (pc := 2) C dX7_set_2 kc_1 ?_
  refine r_cSV (pc := 3) C hRm (okX7_needInRange h0 v1 (0 : Int32) (1 : Int32) M ) mw_315 cvX7_needInRange rfl ⟨Nat.le_of_ble_eq_true rfl, Nat.le_of_ble_eq_true rfl⟩ rfl (Nat.le_of_ble_eq_true rfl) dX7_set_3 (fun o2 M1 => ?_)
  refine r_iload_n (pc := 6) C 2 rfl rfl dX7_set_6 ?_
  refine r_iconst (pc := 7) C dX7_set_7 kc_0 ?_
  refine r_iload_n (pc := 8) C 1 rfl rfl dX7_set_8 ?_
  refine r_cSI (pc := 9) C hRm (okX7_settingMost h0 v1 M1 ) mw_465 cvX7_settingMost rfl ⟨Nat.le_of_ble_eq_true rfl, Nat.le_of_ble_eq_true rfl⟩ rfl (Nat.le_of_ble_eq_true rfl) dX7_set_9 (fun o4 M3 => ?_)
  refine r_cSV (pc := 12) C hRm (okX7_needInRange h0 v2 (0 : Int32) o4 M3 ) mw_315 cvX7_needInRange rfl ⟨Nat.le_of_ble_eq_true rfl, Nat.le_of_ble_eq_true rfl⟩ rfl (Nat.le_of_ble_eq_true rfl) dX7_set_12 (fun o6 M5 => ?_)
  refine r_aload_n (pc := 15) C 0 rfl rfl dX7_set_15 ?_
  refine r_getR (pc := 16) C FX7_live mw_257 h_0 rfl dX7_set_16 (fun g7 => ?_)
  refine r_getR (pc := 19) C FX3_settings mw_206 g7 rfl dX7_set_19 (fun g8 => ?_)
  refine r_iload_n (pc := 22) C 1 rfl rfl dX7_set_22 ?_
  refine r_iald (pc := 23) C rfl g8 (fun _ => rfl) (fun _ => rfl) dX7_set_23 ?_
  refine r_nmi (fun x9 => ?_)
  refine r_istore_n (pc := 24) C [(3, .int x9), (0, .ref (G.1 0 0 0)), (1, .int v1), (2, .int v2)] dX7_set_24 rfl (by decide) rfl ?_
  refine r_aload_n (pc := 25) C 1 rfl rfl dX7_set_25 ?_
  refine r_getR (pc := 26) C FX7_live mw_257 h_0 rfl dX7_set_26 (fun g10 => ?_)
  refine r_iload_n (pc := 29) C 2 rfl rfl dX7_set_29 ?_
  refine r_iload_n (pc := 30) C 3 rfl rfl dX7_set_30 ?_
  refine r_cVV (pc := 31) C hRm (okX3_changeSetting h0 0 v1 v2 M5 g7) (Rc.of C rfl rfl g7) mw_468 cvX3_changeSetting rfl ⟨Nat.le_of_ble_eq_true rfl, Nat.le_of_ble_eq_true rfl⟩ rfl (Nat.le_of_ble_eq_true rfl) dX7_set_31 (fun o12 M11 => ?_)
  refine r_iload_n (pc := 34) C 0 rfl rfl dX7_set_34 ?_
  exact r_iret (pc := 35) C rfl dX7_set_35
theorem okX7_set {l : Launch} {G : WT} (h0 : W0 G) (v1 : Int32) (v2 : Int32) (M : Mem) (h_0 : G.2.2.2.1 0 0 0) : Okm l G yX7_set cX7_set 4 (some FieldType.int) 1 22 [.ref (G.1 0 0 0), .int v1, .int v2] voI M (pX7_set  v1 v2 M) :=
  Okm.of "PermitPark" rfl (by decide) (Nat.le_of_ble_eq_true rfl) (L := [(0, .ref (G.1 0 0 0)), (1, .int v1), (2, .int v2)]) rfl (fun K _ hr C => lX7_set_0 C (by rw [hr]; exact ⟨rfl, rfl⟩) h0 v1 v2 M h_0)
def pX7_seed (v1 : Int32) (M : Mem) : Option (Unit × Mem) :=
    bnd (pX7_needInRange v1 (0 : Int32) (1000002 : Int32) M) fun o2 M1 => nm (wI M1 3 0 0 6 v1) fun M4 => some ((), M4)
theorem lX7_seed_0 {K : KT} {G : WT} (C : Cx K G "PermitPark" cX7_seed 2 none) (hRm : K.2.2.2.1.frames = 1 ∧ K.2.2.2.1.locals = 22) (h0 : W0 G) (v1 : Int32) (M : Mem) (h_0 : G.2.2.2.1 0 0 0) : Run K G 2 0 0 (FinM K G voV 0 0) 0 [(0, .ref (G.1 0 0 0)), (1, .int v1)] [] M (pX7_seed   v1 M) := by
  rw [pX7_seed]
  refine r_iload_n (pc := 0) C 1 rfl rfl dX7_seed_0 ?_
  refine r_iconst (pc := 1) C dX7_seed_1 kc_0 ?_
  refine r_ldc (pc := 2) C mw_480 dX7_seed_2 ?_
  refine r_cSV (pc := 4) C hRm (okX7_needInRange h0 v1 (0 : Int32) (1000002 : Int32) M ) mw_315 cvX7_needInRange rfl ⟨Nat.le_of_ble_eq_true rfl, Nat.le_of_ble_eq_true rfl⟩ rfl (Nat.le_of_ble_eq_true rfl) dX7_seed_4 (fun o2 M1 => ?_)
  refine r_aload_n (pc := 7) C 0 rfl rfl dX7_seed_7 ?_
  refine r_getR (pc := 8) C FX7_live mw_257 h_0 rfl dX7_seed_8 (fun g3 => ?_)
  refine r_iload_n (pc := 11) C 1 rfl rfl dX7_seed_11 ?_
  refine r_putI (pc := 12) C FX3_x mw_211 g3 tyX3 tyX3_ok nmX3 (fun _ _ => rfl) rfl dX7_seed_12 (fun M4 => ?_)
  exact r_vret (pc := 15) C dX7_seed_15
theorem okX7_seed {l : Launch} {G : WT} (h0 : W0 G) (v1 : Int32) (M : Mem) (h_0 : G.2.2.2.1 0 0 0) : Okm l G yX7_seed cX7_seed 2 none 1 22 [.ref (G.1 0 0 0), .int v1] voV M (pX7_seed  v1 M) :=
  Okm.of "PermitPark" rfl (by decide) (Nat.le_of_ble_eq_true rfl) (L := [(0, .ref (G.1 0 0 0)), (1, .int v1)]) rfl (fun K _ hr C => lX7_seed_0 C (by rw [hr]; exact ⟨rfl, rfl⟩) h0 v1 M h_0)
def pX7_setFlag (v1 : Int32) (v2 : Int32) (M : Mem) : Option (Int32 × Mem) :=
    bnd (pX7_needIndex v1 (8 : Int32) M) fun o2 M1 => bnd (pX3_isFlagOn 0 v1 M1) fun o5 M4 => bnd (pX3_turnFlag 0 v1 v2 M4) fun o8 M7 => chk (decide (o5 = 0 ∨ o5 = 1)) (some (o5, M7))
theorem lX7_setFlag_0 {K : KT} {G : WT} (C : Cx K G "PermitPark" cX7_setFlag 4 (some FieldType.boolean)) (hRm : K.2.2.2.1.frames = 1 ∧ K.2.2.2.1.locals = 22) (h0 : W0 G) (v1 : Int32) (v2 : Int32) (M : Mem) (h_0 : G.2.2.2.1 0 0 0) : Run K G 4 0 0 (FinM K G voI 0 0) 0 [(0, .ref (G.1 0 0 0)), (1, .int v1), (2, .int v2)] [] M (pX7_setFlag   v1 v2 M) := by
  rw [pX7_setFlag]
  refine r_iload_n (pc := 0) C 1 rfl rfl dX7_setFlag_0 ?_
  refine r_bipush (pc := 1) C dX7_setFlag_1 kb_8 ?_
  refine r_cSV (pc := 3) C hRm (okX7_needIndex h0 v1 (8 : Int32) M ) mw_434 cvX7_needIndex rfl ⟨Nat.le_of_ble_eq_true rfl, Nat.le_of_ble_eq_true rfl⟩ rfl (Nat.le_of_ble_eq_true rfl) dX7_setFlag_3 (fun o2 M1 => ?_)
  refine r_aload_n (pc := 6) C 0 rfl rfl dX7_setFlag_6 ?_
  refine r_getR (pc := 7) C FX7_live mw_257 h_0 rfl dX7_setFlag_7 (fun g3 => ?_)
  refine r_iload_n (pc := 10) C 1 rfl rfl dX7_setFlag_10 ?_
  refine r_cVI (pc := 11) C hRm (okX3_isFlagOn h0 0 v1 M1 g3) (Rc.of C rfl rfl g3) mw_739 cvX3_isFlagOn rfl ⟨Nat.le_of_ble_eq_true rfl, Nat.le_of_ble_eq_true rfl⟩ rfl (Nat.le_of_ble_eq_true rfl) dX7_setFlag_11 (fun o5 M4 => ?_)
  refine r_istore_n (pc := 14) C [(3, .int o5), (0, .ref (G.1 0 0 0)), (1, .int v1), (2, .int v2)] dX7_setFlag_14 rfl (by decide) rfl ?_
  refine r_aload_n (pc := 15) C 1 rfl rfl dX7_setFlag_15 ?_
  refine r_getR (pc := 16) C FX7_live mw_257 h_0 rfl dX7_setFlag_16 (fun g6 => ?_)
  refine r_iload_n (pc := 19) C 2 rfl rfl dX7_setFlag_19 ?_
  refine r_iload_n (pc := 20) C 3 rfl rfl dX7_setFlag_20 ?_
  refine r_cVV (pc := 21) C hRm (okX3_turnFlag h0 0 v1 v2 M4 g3) (Rc.of C rfl rfl g3) mw_747 cvX3_turnFlag rfl ⟨Nat.le_of_ble_eq_true rfl, Nat.le_of_ble_eq_true rfl⟩ rfl (Nat.le_of_ble_eq_true rfl) dX7_setFlag_21 (fun o8 M7 => ?_)
  refine r_iload_n (pc := 24) C 0 rfl rfl dX7_setFlag_24 ?_
  exact r_zret (pc := 25) C dX7_setFlag_25
theorem okX7_setFlag {l : Launch} {G : WT} (h0 : W0 G) (v1 : Int32) (v2 : Int32) (M : Mem) (h_0 : G.2.2.2.1 0 0 0) : Okm l G yX7_setFlag cX7_setFlag 4 (some FieldType.boolean) 1 22 [.ref (G.1 0 0 0), .int v1, .int v2] voI M (pX7_setFlag  v1 v2 M) :=
  Okm.of "PermitPark" rfl (by decide) (Nat.le_of_ble_eq_true rfl) (L := [(0, .ref (G.1 0 0 0)), (1, .int v1), (2, .int v2)]) rfl (fun K _ hr C => lX7_setFlag_0 C (by rw [hr]; exact ⟨rfl, rfl⟩) h0 v1 v2 M h_0)
def pX7_count (v1 : Int32) (M : Mem) : Option (Int32 × Mem) :=
    bnd (pX7_needInRange v1 (0 : Int32) (17 : Int32) M) fun o2 M1 => bnd (pX3_number 0 v1 M1) fun o5 M4 => some (o5, M4)
theorem lX7_count_0 {K : KT} {G : WT} (C : Cx K G "PermitPark" cX7_count 2 (some FieldType.int)) (hRm : K.2.2.2.1.frames = 2 ∧ K.2.2.2.1.locals = 44) (h0 : W0 G) (v1 : Int32) (M : Mem) (h_0 : G.2.2.2.1 0 0 0) : Run K G 2 0 0 (FinM K G voI 0 0) 0 [(0, .ref (G.1 0 0 0)), (1, .int v1)] [] M (pX7_count   v1 M) := by
  rw [pX7_count]
  refine r_iload_n (pc := 0) C 1 rfl rfl dX7_count_0 ?_
  refine r_iconst (pc := 1) C dX7_count_1 kc_0 ?_
  refine r_bipush (pc := 2) C dX7_count_2 kb_17 ?_
  refine r_cSV (pc := 4) C hRm (okX7_needInRange h0 v1 (0 : Int32) (17 : Int32) M ) mw_315 cvX7_needInRange rfl ⟨Nat.le_of_ble_eq_true rfl, Nat.le_of_ble_eq_true rfl⟩ rfl (Nat.le_of_ble_eq_true rfl) dX7_count_4 (fun o2 M1 => ?_)
  refine r_aload_n (pc := 7) C 0 rfl rfl dX7_count_7 ?_
  refine r_getR (pc := 8) C FX7_live mw_257 h_0 rfl dX7_count_8 (fun g3 => ?_)
  refine r_iload_n (pc := 11) C 1 rfl rfl dX7_count_11 ?_
  refine r_cVI (pc := 12) C hRm (okX3_number h0 0 v1 M1 g3) (Rc.of C rfl rfl g3) mw_645 cvX3_number rfl ⟨Nat.le_of_ble_eq_true rfl, Nat.le_of_ble_eq_true rfl⟩ rfl (Nat.le_of_ble_eq_true rfl) dX7_count_12 (fun o5 M4 => ?_)
  exact r_iret (pc := 15) C rfl dX7_count_15
theorem okX7_count {l : Launch} {G : WT} (h0 : W0 G) (v1 : Int32) (M : Mem) (h_0 : G.2.2.2.1 0 0 0) : Okm l G yX7_count cX7_count 2 (some FieldType.int) 2 44 [.ref (G.1 0 0 0), .int v1] voI M (pX7_count  v1 M) :=
  Okm.of "PermitPark" rfl (by decide) (Nat.le_of_ble_eq_true rfl) (L := [(0, .ref (G.1 0 0 0)), (1, .int v1)]) rfl (fun K _ hr C => lX7_count_0 C (by rw [hr]; exact ⟨rfl, rfl⟩) h0 v1 M h_0)
def pX7_thread (v1 : Int32) (v2 : Int32) (M : Mem) : Option (Int32 × Mem) :=
    bnd (pX7_needThread v1 M) fun o2 M1 => bnd (pX7_needInRange v2 (0 : Int32) (18 : Int32) M1) fun o4 M3 => if ¬ v2 = (9 : Int32) then (bnd (pX3_refreshPriorities 0 M3) fun o7 M6 => chk (inB v1 10) <| bnd (pX6_number 0 (v1.toNatClampNeg) v2 M6) fun o12 M11 => some (o12, M11))
    else bnd (pX1_heldBy 0 v1 M3) fun o16 M15 => some (o16, M15)
theorem lX7_thread_0 {K : KT} {G : WT} (C : Cx K G "PermitPark" cX7_thread 3 (some FieldType.int)) (hRm : K.2.2.2.1.frames = 2 ∧ K.2.2.2.1.locals = 45) (h0 : W0 G) (v1 : Int32) (v2 : Int32) (M : Mem) (h_0 : G.2.2.2.1 0 0 0) : Run K G 3 0 0 (FinM K G voI 0 0) 0 [(0, .ref (G.1 0 0 0)), (1, .int v1), (2, .int v2)] [] M (pX7_thread   v1 v2 M) := by
  rw [pX7_thread]
  refine r_aload_n (pc := 0) C 0 rfl rfl dX7_thread_0 ?_
  refine r_iload_n (pc := 1) C 1 rfl rfl dX7_thread_1 ?_
  refine r_cVV (pc := 2) C hRm (okX7_needThread h0 v1 M h_0) (Rc.of C rfl rfl h_0) mw_430 cvX7_needThread rfl ⟨Nat.le_of_ble_eq_true rfl, Nat.le_of_ble_eq_true rfl⟩ rfl (Nat.le_of_ble_eq_true rfl) dX7_thread_2 (fun o2 M1 => ?_)
  refine r_iload_n (pc := 5) C 2 rfl rfl dX7_thread_5 ?_
  refine r_iconst (pc := 6) C dX7_thread_6 kc_0 ?_
  refine r_bipush (pc := 7) C dX7_thread_7 kb_18 ?_
  refine r_cSV (pc := 9) C hRm (okX7_needInRange h0 v2 (0 : Int32) (18 : Int32) M1 ) mw_315 cvX7_needInRange rfl ⟨Nat.le_of_ble_eq_true rfl, Nat.le_of_ble_eq_true rfl⟩ rfl (Nat.le_of_ble_eq_true rfl) dX7_thread_9 (fun o4 M3 => ?_)
  refine r_iload_n (pc := 12) C 2 rfl rfl dX7_thread_12 ?_
  refine r_bipush (pc := 13) C dX7_thread_13 kb_9 ?_
  refine r_icmp_ne (pc := 15) C dX7_thread_15 (tgt := 30) rfl ?_ ?_
  refine r_aload_n (pc := 30) C 0 rfl rfl dX7_thread_30 ?_
  refine r_getR (pc := 31) C FX7_live mw_257 h_0 rfl dX7_thread_31 (fun g5 => ?_)
  refine r_cVV (pc := 34) C hRm (okX3_refreshPriorities h0 0 M3 g5) (Rc.of C rfl rfl g5) mw_668 cvX3_refreshPriorities rfl ⟨Nat.le_of_ble_eq_true rfl, Nat.le_of_ble_eq_true rfl⟩ rfl (Nat.le_of_ble_eq_true rfl) dX7_thread_34 (fun o7 M6 => ?_)
  refine r_aload_n (pc := 37) C 0 rfl rfl dX7_thread_37 ?_
  refine r_getR (pc := 38) C FX7_live mw_257 h_0 rfl dX7_thread_38 (fun g8 => ?_)
  refine r_getR (pc := 41) C FX3_threads mw_200 g5 rfl dX7_thread_41 (fun g9 => ?_)
  refine r_iload_n (pc := 44) C 1 rfl rfl dX7_thread_44 ?_
  refine r_aald (pc := 45) C (kd := 4) rfl rfl g9 rfl dX7_thread_45 (fun g10 => ?_)
  refine r_iload_n (pc := 46) C 2 rfl rfl dX7_thread_46 ?_
  refine r_cVI (pc := 47) C hRm (okX6_number h0 0 (v1.toNatClampNeg) v2 M6 g10) (Rc.of C rfl rfl g10) mw_669 cvX6_number rfl ⟨Nat.le_of_ble_eq_true rfl, Nat.le_of_ble_eq_true rfl⟩ rfl (Nat.le_of_ble_eq_true rfl) dX7_thread_47 (fun o12 M11 => ?_)
  exact r_iret (pc := 50) C rfl dX7_thread_50
  refine r_aload_n (pc := 18) C 0 rfl rfl dX7_thread_18 ?_
  refine r_getR (pc := 19) C FX7_live mw_257 h_0 rfl dX7_thread_19 (fun g13 => ?_)
  refine r_getR (pc := 22) C FX3_locks mw_202 g13 rfl dX7_thread_22 (fun g14 => ?_)
  refine r_iload_n (pc := 25) C 1 rfl rfl dX7_thread_25 ?_
  refine r_cVI (pc := 26) C hRm (okX1_heldBy h0 0 v1 M3 g14) (Rc.of C rfl rfl g14) mw_664 cvX1_heldBy rfl ⟨Nat.le_of_ble_eq_true rfl, Nat.le_of_ble_eq_true rfl⟩ rfl (Nat.le_of_ble_eq_true rfl) dX7_thread_26 (fun o16 M15 => ?_)
  exact r_iret (pc := 29) C rfl dX7_thread_29
theorem okX7_thread {l : Launch} {G : WT} (h0 : W0 G) (v1 : Int32) (v2 : Int32) (M : Mem) (h_0 : G.2.2.2.1 0 0 0) : Okm l G yX7_thread cX7_thread 3 (some FieldType.int) 2 45 [.ref (G.1 0 0 0), .int v1, .int v2] voI M (pX7_thread  v1 v2 M) :=
  Okm.of "PermitPark" rfl (by decide) (Nat.le_of_ble_eq_true rfl) (L := [(0, .ref (G.1 0 0 0)), (1, .int v1), (2, .int v2)]) rfl (fun K _ hr C => lX7_thread_0 C (by rw [hr]; exact ⟨rfl, rfl⟩) h0 v1 v2 M h_0)
def pX7_needNotNegative (v0 : Int32) (M : Mem) : Option (Unit × Mem) :=
    if 0 ≤ v0 then (some ((), M))
    else none
theorem lX7_needNotNegative_0 {K : KT} {G : WT} (C : Cx K G "PermitPark" cX7_needNotNegative 1 none) (hRm : K.2.2.2.1.frames = 0 ∧ K.2.2.2.1.locals = 0) (h0 : W0 G) (v0 : Int32) (M : Mem) : Run K G 1 0 0 (FinM K G voV 0 0) 0 [(0, .int v0)] [] M (pX7_needNotNegative   v0 M) := by
  rw [pX7_needNotNegative]
  refine r_iload_n (pc := 0) C 0 rfl rfl dX7_needNotNegative_0 ?_
  refine r_if_ge (pc := 1) C dX7_needNotNegative_1 (tgt := 14) rfl ?_ ?_
  exact r_vret (pc := 14) C dX7_needNotNegative_14
  exact r_none
theorem okX7_needNotNegative {l : Launch} {G : WT} (h0 : W0 G) (v0 : Int32) (M : Mem) : Okm l G yX7_needNotNegative cX7_needNotNegative 1 none 0 0 [.int v0] voV M (pX7_needNotNegative  v0 M) :=
  Okm.of "PermitPark" rfl (by decide) (Nat.le_of_ble_eq_true rfl) (L := [(0, .int v0)]) rfl (fun K _ hr C => lX7_needNotNegative_0 C (by rw [hr]; exact ⟨rfl, rfl⟩) h0 v0 M )
def pX7_lock (v1 : Int32) (v2 : Int32) (M : Mem) : Option (Int32 × Mem) :=
    bnd (pX7_needIndex v1 (6 : Int32) M) fun o2 M1 => bnd (pX7_needNotNegative v2 M1) fun o4 M3 => if ¬ v2 = 0 then (bnd (pX1_waiter 0 v1 (v2 - (1 : Int32)) M3) fun o8 M7 => some (o8, M7))
    else chk (inB v1 6) <| some ((M3.1 10 0 0 v1.toNatClampNeg), M3)
theorem lX7_lock_0 {K : KT} {G : WT} (C : Cx K G "PermitPark" cX7_lock 3 (some FieldType.int)) (hRm : K.2.2.2.1.frames = 1 ∧ K.2.2.2.1.locals = 22) (h0 : W0 G) (v1 : Int32) (v2 : Int32) (M : Mem) (h_0 : G.2.2.2.1 0 0 0) : Run K G 3 0 0 (FinM K G voI 0 0) 0 [(0, .ref (G.1 0 0 0)), (1, .int v1), (2, .int v2)] [] M (pX7_lock   v1 v2 M) := by
  rw [pX7_lock]
  refine r_iload_n (pc := 0) C 1 rfl rfl dX7_lock_0 ?_
  refine r_bipush (pc := 1) C dX7_lock_1 kb_6 ?_
  refine r_cSV (pc := 3) C hRm (okX7_needIndex h0 v1 (6 : Int32) M ) mw_434 cvX7_needIndex rfl ⟨Nat.le_of_ble_eq_true rfl, Nat.le_of_ble_eq_true rfl⟩ rfl (Nat.le_of_ble_eq_true rfl) dX7_lock_3 (fun o2 M1 => ?_)
  refine r_iload_n (pc := 6) C 2 rfl rfl dX7_lock_6 ?_
  refine r_cSV (pc := 7) C hRm (okX7_needNotNegative h0 v2 M1 ) mw_770 cvX7_needNotNegative rfl ⟨Nat.le_of_ble_eq_true rfl, Nat.le_of_ble_eq_true rfl⟩ rfl (Nat.le_of_ble_eq_true rfl) dX7_lock_7 (fun o4 M3 => ?_)
  refine r_iload_n (pc := 10) C 2 rfl rfl dX7_lock_10 ?_
  refine r_if_ne (pc := 11) C dX7_lock_11 (tgt := 29) rfl ?_ ?_
  refine r_aload_n (pc := 29) C 0 rfl rfl dX7_lock_29 ?_
  refine r_getR (pc := 30) C FX7_live mw_257 h_0 rfl dX7_lock_30 (fun g5 => ?_)
  refine r_getR (pc := 33) C FX3_locks mw_202 g5 rfl dX7_lock_33 (fun g6 => ?_)
  refine r_iload_n (pc := 36) C 1 rfl rfl dX7_lock_36 ?_
  refine r_iload_n (pc := 37) C 2 rfl rfl dX7_lock_37 ?_
  refine r_iconst (pc := 38) C dX7_lock_38 kc_1 ?_
  refine r_isub (pc := 39) C dX7_lock_39 ?_
  refine r_cVI (pc := 40) C hRm (okX1_waiter h0 0 v1 (v2 - (1 : Int32)) M3 g6) (Rc.of C rfl rfl g6) mw_774 cvX1_waiter rfl ⟨Nat.le_of_ble_eq_true rfl, Nat.le_of_ble_eq_true rfl⟩ rfl (Nat.le_of_ble_eq_true rfl) dX7_lock_40 (fun o8 M7 => ?_)
  exact r_iret (pc := 43) C rfl dX7_lock_43
  refine r_aload_n (pc := 14) C 0 rfl rfl dX7_lock_14 ?_
  refine r_getR (pc := 15) C FX7_live mw_257 h_0 rfl dX7_lock_15 (fun g9 => ?_)
  refine r_getR (pc := 18) C FX3_locks mw_202 g9 rfl dX7_lock_18 (fun g10 => ?_)
  refine r_getR (pc := 21) C FX1_holders mw_72 g10 rfl dX7_lock_21 (fun g11 => ?_)
  refine r_iload_n (pc := 24) C 1 rfl rfl dX7_lock_24 ?_
  refine r_iald (pc := 25) C rfl g11 (fun _ => rfl) (fun _ => rfl) dX7_lock_25 ?_
  refine r_goto (pc := 26) C dX7_lock_26 (tgt := 43) rfl ?_
  exact r_iret (pc := 43) C rfl dX7_lock_43
theorem okX7_lock {l : Launch} {G : WT} (h0 : W0 G) (v1 : Int32) (v2 : Int32) (M : Mem) (h_0 : G.2.2.2.1 0 0 0) : Okm l G yX7_lock cX7_lock 3 (some FieldType.int) 1 22 [.ref (G.1 0 0 0), .int v1, .int v2] voI M (pX7_lock  v1 v2 M) :=
  Okm.of "PermitPark" rfl (by decide) (Nat.le_of_ble_eq_true rfl) (L := [(0, .ref (G.1 0 0 0)), (1, .int v1), (2, .int v2)]) rfl (fun K _ hr C => lX7_lock_0 C (by rw [hr]; exact ⟨rfl, rfl⟩) h0 v1 v2 M h_0)
def pX7_flag (v1 : Int32) (M : Mem) : Option (Int32 × Mem) :=
    bnd (pX7_needIndex v1 (8 : Int32) M) fun o2 M1 => bnd (pX3_isFlagOn 0 v1 M1) fun o5 M4 => chk (decide (o5 = 0 ∨ o5 = 1)) (some (o5, M4))
theorem lX7_flag_0 {K : KT} {G : WT} (C : Cx K G "PermitPark" cX7_flag 2 (some FieldType.boolean)) (hRm : K.2.2.2.1.frames = 1 ∧ K.2.2.2.1.locals = 21) (h0 : W0 G) (v1 : Int32) (M : Mem) (h_0 : G.2.2.2.1 0 0 0) : Run K G 2 0 0 (FinM K G voI 0 0) 0 [(0, .ref (G.1 0 0 0)), (1, .int v1)] [] M (pX7_flag   v1 M) := by
  rw [pX7_flag]
  refine r_iload_n (pc := 0) C 1 rfl rfl dX7_flag_0 ?_
  refine r_bipush (pc := 1) C dX7_flag_1 kb_8 ?_
  refine r_cSV (pc := 3) C hRm (okX7_needIndex h0 v1 (8 : Int32) M ) mw_434 cvX7_needIndex rfl ⟨Nat.le_of_ble_eq_true rfl, Nat.le_of_ble_eq_true rfl⟩ rfl (Nat.le_of_ble_eq_true rfl) dX7_flag_3 (fun o2 M1 => ?_)
  refine r_aload_n (pc := 6) C 0 rfl rfl dX7_flag_6 ?_
  refine r_getR (pc := 7) C FX7_live mw_257 h_0 rfl dX7_flag_7 (fun g3 => ?_)
  refine r_iload_n (pc := 10) C 1 rfl rfl dX7_flag_10 ?_
  refine r_cVI (pc := 11) C hRm (okX3_isFlagOn h0 0 v1 M1 g3) (Rc.of C rfl rfl g3) mw_739 cvX3_isFlagOn rfl ⟨Nat.le_of_ble_eq_true rfl, Nat.le_of_ble_eq_true rfl⟩ rfl (Nat.le_of_ble_eq_true rfl) dX7_flag_11 (fun o5 M4 => ?_)
  exact r_zret (pc := 14) C dX7_flag_14
theorem okX7_flag {l : Launch} {G : WT} (h0 : W0 G) (v1 : Int32) (M : Mem) (h_0 : G.2.2.2.1 0 0 0) : Okm l G yX7_flag cX7_flag 2 (some FieldType.boolean) 1 21 [.ref (G.1 0 0 0), .int v1] voI M (pX7_flag  v1 M) :=
  Okm.of "PermitPark" rfl (by decide) (Nat.le_of_ble_eq_true rfl) (L := [(0, .ref (G.1 0 0 0)), (1, .int v1)]) rfl (fun K _ hr C => lX7_flag_0 C (by rw [hr]; exact ⟨rfl, rfl⟩) h0 v1 M h_0)
def pX7_event (v1 : Int32) (v2 : Int32) (M : Mem) : Option (Int32 × Mem) :=
    bnd (pX7_needIndex v1 (M.1 13 0 0 2) M) fun o4 M3 => bnd (pX7_needInRange v2 (0 : Int32) (3 : Int32) M3) fun o6 M5 => bnd (pX2_cell 0 v1 v2 M5) fun o10 M9 => some (o10, M9)
theorem lX7_event_0 {K : KT} {G : WT} (C : Cx K G "PermitPark" cX7_event 3 (some FieldType.int)) (hRm : K.2.2.2.1.frames = 1 ∧ K.2.2.2.1.locals = 22) (h0 : W0 G) (v1 : Int32) (v2 : Int32) (M : Mem) (h_0 : G.2.2.2.1 0 0 0) : Run K G 3 0 0 (FinM K G voI 0 0) 0 [(0, .ref (G.1 0 0 0)), (1, .int v1), (2, .int v2)] [] M (pX7_event   v1 v2 M) := by
  rw [pX7_event]
  refine r_iload_n (pc := 0) C 1 rfl rfl dX7_event_0 ?_
  refine r_aload_n (pc := 1) C 0 rfl rfl dX7_event_1 ?_
  refine r_getR (pc := 2) C FX7_live mw_257 h_0 rfl dX7_event_2 (fun g1 => ?_)
  refine r_getR (pc := 5) C FX3_log mw_204 g1 rfl dX7_event_5 (fun g2 => ?_)
  refine r_getI (pc := 8) C FX2_kept mw_93 g2 rfl rfl dX7_event_8 ?_
  refine r_cSV (pc := 11) C hRm (okX7_needIndex h0 v1 (M.1 13 0 0 2) M ) mw_434 cvX7_needIndex rfl ⟨Nat.le_of_ble_eq_true rfl, Nat.le_of_ble_eq_true rfl⟩ rfl (Nat.le_of_ble_eq_true rfl) dX7_event_11 (fun o4 M3 => ?_)
  refine r_iload_n (pc := 14) C 2 rfl rfl dX7_event_14 ?_
  refine r_iconst (pc := 15) C dX7_event_15 kc_0 ?_
  refine r_iconst (pc := 16) C dX7_event_16 kc_3 ?_
  refine r_cSV (pc := 17) C hRm (okX7_needInRange h0 v2 (0 : Int32) (3 : Int32) M3 ) mw_315 cvX7_needInRange rfl ⟨Nat.le_of_ble_eq_true rfl, Nat.le_of_ble_eq_true rfl⟩ rfl (Nat.le_of_ble_eq_true rfl) dX7_event_17 (fun o6 M5 => ?_)
  refine r_aload_n (pc := 20) C 0 rfl rfl dX7_event_20 ?_
  refine r_getR (pc := 21) C FX7_live mw_257 h_0 rfl dX7_event_21 (fun g7 => ?_)
  refine r_getR (pc := 24) C FX3_log mw_204 g1 rfl dX7_event_24 (fun g8 => ?_)
  refine r_iload_n (pc := 27) C 1 rfl rfl dX7_event_27 ?_
  refine r_iload_n (pc := 28) C 2 rfl rfl dX7_event_28 ?_
  refine r_cVI (pc := 29) C hRm (okX2_cell h0 0 v1 v2 M5 g2) (Rc.of C rfl rfl g2) mw_813 cvX2_cell rfl ⟨Nat.le_of_ble_eq_true rfl, Nat.le_of_ble_eq_true rfl⟩ rfl (Nat.le_of_ble_eq_true rfl) dX7_event_29 (fun o10 M9 => ?_)
  exact r_iret (pc := 32) C rfl dX7_event_32
theorem okX7_event {l : Launch} {G : WT} (h0 : W0 G) (v1 : Int32) (v2 : Int32) (M : Mem) (h_0 : G.2.2.2.1 0 0 0) : Okm l G yX7_event cX7_event 3 (some FieldType.int) 1 22 [.ref (G.1 0 0 0), .int v1, .int v2] voI M (pX7_event  v1 v2 M) :=
  Okm.of "PermitPark" rfl (by decide) (Nat.le_of_ble_eq_true rfl) (L := [(0, .ref (G.1 0 0 0)), (1, .int v1), (2, .int v2)]) rfl (fun K _ hr C => lX7_event_0 C (by rw [hr]; exact ⟨rfl, rfl⟩) h0 v1 v2 M h_0)
def pX7_events_10 (v1 : Int32) (v2 : Int32) (M : Mem) : Option (Int32 × Mem) :=
    bnd (pX7_needInRange v1 (0 : Int32) (9 : Int32) M) fun o2 M1 => bnd (pX2_countOf 0 v1 v2 M1) fun o6 M5 => some (o6, M5)
theorem lX7_events_10 {K : KT} {G : WT} (C : Cx K G "PermitPark" cX7_events 3 (some FieldType.int)) (hRm : K.2.2.2.1.frames = 2 ∧ K.2.2.2.1.locals = 46) (h0 : W0 G) (v1 : Int32) (v2 : Int32) (M : Mem) (g_0 : G.2.2.2.1 0 0 0) : Run K G 3 0 0 (FinM K G voI 0 0) 10 [(0, .ref (G.1 0 0 0)), (1, .int v1), (2, .int v2)] [] M (pX7_events_10   v1 v2 M) := by
  rw [pX7_events_10]
  refine r_iload_n (pc := 10) C 1 rfl rfl dX7_events_10 ?_
  refine r_iconst (pc := 11) C dX7_events_11 kc_0 ?_
  refine r_bipush (pc := 12) C dX7_events_12 kb_9 ?_
  refine r_cSV (pc := 14) C hRm (okX7_needInRange h0 v1 (0 : Int32) (9 : Int32) M ) mw_315 cvX7_needInRange rfl ⟨Nat.le_of_ble_eq_true rfl, Nat.le_of_ble_eq_true rfl⟩ rfl (Nat.le_of_ble_eq_true rfl) dX7_events_14 (fun o2 M1 => ?_)
  refine r_aload_n (pc := 17) C 0 rfl rfl dX7_events_17 ?_
  refine r_getR (pc := 18) C FX7_live mw_257 g_0 rfl dX7_events_18 (fun g3 => ?_)
  refine r_getR (pc := 21) C FX3_log mw_204 g3 rfl dX7_events_21 (fun g4 => ?_)
  refine r_iload_n (pc := 24) C 1 rfl rfl dX7_events_24 ?_
  refine r_iload_n (pc := 25) C 2 rfl rfl dX7_events_25 ?_
  refine r_cVI (pc := 26) C hRm (okX2_countOf h0 0 v1 v2 M1 g4) (Rc.of C rfl rfl g4) mw_696 cvX2_countOf rfl ⟨Nat.le_of_ble_eq_true rfl, Nat.le_of_ble_eq_true rfl⟩ rfl (Nat.le_of_ble_eq_true rfl) dX7_events_26 (fun o6 M5 => ?_)
  exact r_iret (pc := 29) C rfl dX7_events_29
def pX7_events (v1 : Int32) (v2 : Int32) (M : Mem) : Option (Int32 × Mem) :=
    if v2 = (-1 : Int32) then (pX7_events_10    v1 v2 M)
    else bnd (pX7_needThread v2 M) fun o2 M1 => pX7_events_10    v1 v2 M1
theorem lX7_events_0 {K : KT} {G : WT} (C : Cx K G "PermitPark" cX7_events 3 (some FieldType.int)) (hRm : K.2.2.2.1.frames = 2 ∧ K.2.2.2.1.locals = 46) (h0 : W0 G) (v1 : Int32) (v2 : Int32) (M : Mem) (h_0 : G.2.2.2.1 0 0 0) : Run K G 3 0 0 (FinM K G voI 0 0) 0 [(0, .ref (G.1 0 0 0)), (1, .int v1), (2, .int v2)] [] M (pX7_events   v1 v2 M) := by
  rw [pX7_events]
  refine r_iload_n (pc := 0) C 2 rfl rfl dX7_events_0 ?_
  refine r_iconst (pc := 1) C dX7_events_1 kc_m1 ?_
  refine r_icmp_eq (pc := 2) C dX7_events_2 (tgt := 10) rfl ?_ ?_
  exact lX7_events_10   C hRm h0   v1 v2 M h_0
  refine r_aload_n (pc := 5) C 0 rfl rfl dX7_events_5 ?_
  refine r_iload_n (pc := 6) C 2 rfl rfl dX7_events_6 ?_
  refine r_cVV (pc := 7) C hRm (okX7_needThread h0 v2 M h_0) (Rc.of C rfl rfl h_0) mw_430 cvX7_needThread rfl ⟨Nat.le_of_ble_eq_true rfl, Nat.le_of_ble_eq_true rfl⟩ rfl (Nat.le_of_ble_eq_true rfl) dX7_events_7 (fun o2 M1 => ?_)
  exact lX7_events_10   C hRm h0   v1 v2 M1 h_0
theorem okX7_events {l : Launch} {G : WT} (h0 : W0 G) (v1 : Int32) (v2 : Int32) (M : Mem) (h_0 : G.2.2.2.1 0 0 0) : Okm l G yX7_events cX7_events 3 (some FieldType.int) 2 46 [.ref (G.1 0 0 0), .int v1, .int v2] voI M (pX7_events  v1 v2 M) :=
  Okm.of "PermitPark" rfl (by decide) (Nat.le_of_ble_eq_true rfl) (L := [(0, .ref (G.1 0 0 0)), (1, .int v1), (2, .int v2)]) rfl (fun K _ hr C => lX7_events_0 C (by rw [hr]; exact ⟨rfl, rfl⟩) h0 v1 v2 M h_0)
def pX7_wake (v1 : Int32) (M : Mem) : Option (Int32 × Mem) :=
    bnd (pX7_needThread v1 M) fun o2 M1 => bnd (pX3_wakeUp 0 v1 (-1 : Int32) M1) fun o5 M4 => bnd (pX3_settle 0 M4) fun o8 M7 => some (o5, M7)
theorem lX7_wake_0 {K : KT} {G : WT} (C : Cx K G "PermitPark" cX7_wake 3 (some FieldType.int)) (hRm : K.2.2.2.1.frames = 4 ∧ K.2.2.2.1.locals = 91) (h0 : W0 G) (v1 : Int32) (M : Mem) (h_0 : G.2.2.2.1 0 0 0) : Run K G 3 0 0 (FinM K G voI 0 0) 0 [(0, .ref (G.1 0 0 0)), (1, .int v1)] [] M (pX7_wake   v1 M) := by
  rw [pX7_wake]
  refine r_aload_n (pc := 0) C 0 rfl rfl dX7_wake_0 ?_
  refine r_iload_n (pc := 1) C 1 rfl rfl dX7_wake_1 ?_
  refine r_cVV (pc := 2) C hRm (okX7_needThread h0 v1 M h_0) (Rc.of C rfl rfl h_0) mw_430 cvX7_needThread rfl ⟨Nat.le_of_ble_eq_true rfl, Nat.le_of_ble_eq_true rfl⟩ rfl (Nat.le_of_ble_eq_true rfl) dX7_wake_2 (fun o2 M1 => ?_)
  refine r_aload_n (pc := 5) C 0 rfl rfl dX7_wake_5 ?_
  refine r_getR (pc := 6) C FX7_live mw_257 h_0 rfl dX7_wake_6 (fun g3 => ?_)
  refine r_iload_n (pc := 9) C 1 rfl rfl dX7_wake_9 ?_
  refine r_iconst (pc := 10) C dX7_wake_10 kc_m1 ?_
  refine r_cVI (pc := 11) C hRm (okX3_wakeUp h0 0 v1 (-1 : Int32) M1 g3) (Rc.of C rfl rfl g3) mw_711 cvX3_wakeUp rfl ⟨Nat.le_of_ble_eq_true rfl, Nat.le_of_ble_eq_true rfl⟩ rfl (Nat.le_of_ble_eq_true rfl) dX7_wake_11 (fun o5 M4 => ?_)
  refine r_istore_n (pc := 14) C [(2, .int o5), (0, .ref (G.1 0 0 0)), (1, .int v1)] dX7_wake_14 rfl (by decide) rfl ?_
  refine r_aload_n (pc := 15) C 1 rfl rfl dX7_wake_15 ?_
  refine r_getR (pc := 16) C FX7_live mw_257 h_0 rfl dX7_wake_16 (fun g6 => ?_)
  refine r_cVV (pc := 19) C hRm (okX3_settle h0 0 M4 g3) (Rc.of C rfl rfl g3) mw_712 cvX3_settle rfl ⟨Nat.le_of_ble_eq_true rfl, Nat.le_of_ble_eq_true rfl⟩ rfl (Nat.le_of_ble_eq_true rfl) dX7_wake_19 (fun o8 M7 => ?_)
  refine r_iload_n (pc := 22) C 0 rfl rfl dX7_wake_22 ?_
  exact r_iret (pc := 23) C rfl dX7_wake_23
theorem okX7_wake {l : Launch} {G : WT} (h0 : W0 G) (v1 : Int32) (M : Mem) (h_0 : G.2.2.2.1 0 0 0) : Okm l G yX7_wake cX7_wake 3 (some FieldType.int) 4 91 [.ref (G.1 0 0 0), .int v1] voI M (pX7_wake  v1 M) :=
  Okm.of "PermitPark" rfl (by decide) (Nat.le_of_ble_eq_true rfl) (L := [(0, .ref (G.1 0 0 0)), (1, .int v1)]) rfl (fun K _ hr C => lX7_wake_0 C (by rw [hr]; exact ⟨rfl, rfl⟩) h0 v1 M h_0)
def pX7_interrupt (v1 : Int32) (M : Mem) : Option (Int32 × Mem) :=
    bnd (pX7_needThread v1 M) fun o2 M1 => bnd (pX3_disturb 0 v1 M1) fun o5 M4 => bnd (pX3_settle 0 M4) fun o8 M7 => some (o5, M7)
theorem lX7_interrupt_0 {K : KT} {G : WT} (C : Cx K G "PermitPark" cX7_interrupt 3 (some FieldType.int)) (hRm : K.2.2.2.1.frames = 4 ∧ K.2.2.2.1.locals = 91) (h0 : W0 G) (v1 : Int32) (M : Mem) (h_0 : G.2.2.2.1 0 0 0) : Run K G 3 0 0 (FinM K G voI 0 0) 0 [(0, .ref (G.1 0 0 0)), (1, .int v1)] [] M (pX7_interrupt   v1 M) := by
  rw [pX7_interrupt]
  refine r_aload_n (pc := 0) C 0 rfl rfl dX7_interrupt_0 ?_
  refine r_iload_n (pc := 1) C 1 rfl rfl dX7_interrupt_1 ?_
  refine r_cVV (pc := 2) C hRm (okX7_needThread h0 v1 M h_0) (Rc.of C rfl rfl h_0) mw_430 cvX7_needThread rfl ⟨Nat.le_of_ble_eq_true rfl, Nat.le_of_ble_eq_true rfl⟩ rfl (Nat.le_of_ble_eq_true rfl) dX7_interrupt_2 (fun o2 M1 => ?_)
  refine r_aload_n (pc := 5) C 0 rfl rfl dX7_interrupt_5 ?_
  refine r_getR (pc := 6) C FX7_live mw_257 h_0 rfl dX7_interrupt_6 (fun g3 => ?_)
  refine r_iload_n (pc := 9) C 1 rfl rfl dX7_interrupt_9 ?_
  refine r_cVI (pc := 10) C hRm (okX3_disturb h0 0 v1 M1 g3) (Rc.of C rfl rfl g3) mw_720 cvX3_disturb rfl ⟨Nat.le_of_ble_eq_true rfl, Nat.le_of_ble_eq_true rfl⟩ rfl (Nat.le_of_ble_eq_true rfl) dX7_interrupt_10 (fun o5 M4 => ?_)
  refine r_istore_n (pc := 13) C [(2, .int o5), (0, .ref (G.1 0 0 0)), (1, .int v1)] dX7_interrupt_13 rfl (by decide) rfl ?_
  refine r_aload_n (pc := 14) C 1 rfl rfl dX7_interrupt_14 ?_
  refine r_getR (pc := 15) C FX7_live mw_257 h_0 rfl dX7_interrupt_15 (fun g6 => ?_)
  refine r_cVV (pc := 18) C hRm (okX3_settle h0 0 M4 g3) (Rc.of C rfl rfl g3) mw_712 cvX3_settle rfl ⟨Nat.le_of_ble_eq_true rfl, Nat.le_of_ble_eq_true rfl⟩ rfl (Nat.le_of_ble_eq_true rfl) dX7_interrupt_18 (fun o8 M7 => ?_)
  refine r_iload_n (pc := 21) C 0 rfl rfl dX7_interrupt_21 ?_
  exact r_iret (pc := 22) C rfl dX7_interrupt_22
theorem okX7_interrupt {l : Launch} {G : WT} (h0 : W0 G) (v1 : Int32) (M : Mem) (h_0 : G.2.2.2.1 0 0 0) : Okm l G yX7_interrupt cX7_interrupt 3 (some FieldType.int) 4 91 [.ref (G.1 0 0 0), .int v1] voI M (pX7_interrupt  v1 M) :=
  Okm.of "PermitPark" rfl (by decide) (Nat.le_of_ble_eq_true rfl) (L := [(0, .ref (G.1 0 0 0)), (1, .int v1)]) rfl (fun K _ hr C => lX7_interrupt_0 C (by rw [hr]; exact ⟨rfl, rfl⟩) h0 v1 M h_0)
def pX7_rouse (v1 : Int32) (M : Mem) : Option (Int32 × Mem) :=
    bnd (pX7_needThread v1 M) fun o2 M1 => chk (inB v1 10) <| if (M1.1 5 0 (v1.toNatClampNeg) 7) = (1 : Int32) then (bnd (pX3_comeBack 0 v1 (3 : Int32) M1) fun o8 M7 => bnd (pX3_settle 0 M7) fun o11 M10 => chk (decide ((1 : Int32) = 0 ∨ (1 : Int32) = 1)) (some ((1 : Int32), M10)))
    else chk (decide ((0 : Int32) = 0 ∨ (0 : Int32) = 1)) (some ((0 : Int32), M1))
theorem lX7_rouse_0 {K : KT} {G : WT} (C : Cx K G "PermitPark" cX7_rouse 2 (some FieldType.boolean)) (hRm : K.2.2.2.1.frames = 4 ∧ K.2.2.2.1.locals = 91) (h0 : W0 G) (v1 : Int32) (M : Mem) (h_0 : G.2.2.2.1 0 0 0) : Run K G 2 0 0 (FinM K G voI 0 0) 0 [(0, .ref (G.1 0 0 0)), (1, .int v1)] [] M (pX7_rouse   v1 M) := by
  rw [pX7_rouse]
  refine r_aload_n (pc := 0) C 0 rfl rfl dX7_rouse_0 ?_
  refine r_iload_n (pc := 1) C 1 rfl rfl dX7_rouse_1 ?_
  refine r_cVV (pc := 2) C hRm (okX7_needThread h0 v1 M h_0) (Rc.of C rfl rfl h_0) mw_430 cvX7_needThread rfl ⟨Nat.le_of_ble_eq_true rfl, Nat.le_of_ble_eq_true rfl⟩ rfl (Nat.le_of_ble_eq_true rfl) dX7_rouse_2 (fun o2 M1 => ?_)
  refine r_aload_n (pc := 5) C 0 rfl rfl dX7_rouse_5 ?_
  refine r_getR (pc := 6) C FX7_live mw_257 h_0 rfl dX7_rouse_6 (fun g3 => ?_)
  refine r_getR (pc := 9) C FX3_threads mw_200 g3 rfl dX7_rouse_9 (fun g4 => ?_)
  refine r_iload_n (pc := 12) C 1 rfl rfl dX7_rouse_12 ?_
  refine r_aald (pc := 13) C (kd := 4) rfl rfl g4 rfl dX7_rouse_13 (fun g5 => ?_)
  refine r_getI (pc := 14) C FX6_state mw_129 g5 rfl rfl dX7_rouse_14 ?_
  refine r_iconst (pc := 17) C dX7_rouse_17 kc_1 ?_
  refine r_icmp_eq (pc := 18) C dX7_rouse_18 (tgt := 23) rfl ?_ ?_
  refine r_aload_n (pc := 23) C 0 rfl rfl dX7_rouse_23 ?_
  refine r_getR (pc := 24) C FX7_live mw_257 h_0 rfl dX7_rouse_24 (fun g6 => ?_)
  refine r_iload_n (pc := 27) C 1 rfl rfl dX7_rouse_27 ?_
  refine r_iconst (pc := 28) C dX7_rouse_28 kc_3 ?_
  refine r_cVV (pc := 29) C hRm (okX3_comeBack h0 0 v1 (3 : Int32) M1 g3) (Rc.of C rfl rfl g3) mw_731 cvX3_comeBack rfl ⟨Nat.le_of_ble_eq_true rfl, Nat.le_of_ble_eq_true rfl⟩ rfl (Nat.le_of_ble_eq_true rfl) dX7_rouse_29 (fun o8 M7 => ?_)
  refine r_aload_n (pc := 32) C 0 rfl rfl dX7_rouse_32 ?_
  refine r_getR (pc := 33) C FX7_live mw_257 h_0 rfl dX7_rouse_33 (fun g9 => ?_)
  refine r_cVV (pc := 36) C hRm (okX3_settle h0 0 M7 g3) (Rc.of C rfl rfl g3) mw_712 cvX3_settle rfl ⟨Nat.le_of_ble_eq_true rfl, Nat.le_of_ble_eq_true rfl⟩ rfl (Nat.le_of_ble_eq_true rfl) dX7_rouse_36 (fun o11 M10 => ?_)
  refine r_iconst (pc := 39) C dX7_rouse_39 kc_1 ?_
  exact r_zret (pc := 40) C dX7_rouse_40
  refine r_iconst (pc := 21) C dX7_rouse_21 kc_0 ?_
  exact r_zret (pc := 22) C dX7_rouse_22
theorem okX7_rouse {l : Launch} {G : WT} (h0 : W0 G) (v1 : Int32) (M : Mem) (h_0 : G.2.2.2.1 0 0 0) : Okm l G yX7_rouse cX7_rouse 2 (some FieldType.boolean) 4 91 [.ref (G.1 0 0 0), .int v1] voI M (pX7_rouse  v1 M) :=
  Okm.of "PermitPark" rfl (by decide) (Nat.le_of_ble_eq_true rfl) (L := [(0, .ref (G.1 0 0 0)), (1, .int v1)]) rfl (fun K _ hr C => lX7_rouse_0 C (by rw [hr]; exact ⟨rfl, rfl⟩) h0 v1 M h_0)
def pX7_run_19 : Nat → Int32 → Int32 → Int32 → Mem → Option (Int32 × Mem)
  | 0, _, _, _, _ => none
  | n + 1, v1, v2, v3, M =>
    if v1 ≤ v3 then (bnd (pX3_threadsIn 0 (3 : Int32) M) fun o3 M2 => some ((o3 - v2), M2))
    else bnd (pX3_tick 0 M) fun o6 M5 => pX7_run_19   n v1 v2 (v3 + (1 : Int32)) M5
theorem lX7_run_19 {K : KT} {G : WT} (C : Cx K G "PermitPark" cX7_run 4 (some FieldType.int)) (hRm : K.2.2.2.1.frames = 6 ∧ K.2.2.2.1.locals = 139) (h0 : W0 G) : ∀ (n : Nat) (v1 : Int32) (v2 : Int32) (v3 : Int32) (M : Mem), G.2.2.2.1 0 0 0 → Run K G 4 0 0 (FinM K G voI 0 0) 19 [(0, .ref (G.1 0 0 0)), (1, .int v1), (2, .int v2), (3, .int v3)] [] M (pX7_run_19   n v1 v2 v3 M) := by
  intro n
  induction n with
  | zero =>
    intro v1 v2 v3 M g_0
    exact r_none
  | succ n ih =>
    intro v1 v2 v3 M g_0
    rw [pX7_run_19]
    refine r_iload_n (pc := 19) C 3 rfl rfl dX7_run_19 ?_
    refine r_iload_n (pc := 20) C 1 rfl rfl dX7_run_20 ?_
    refine r_icmp_ge (pc := 21) C dX7_run_21 (tgt := 38) rfl ?_ ?_
    refine r_aload_n (pc := 38) C 0 rfl rfl dX7_run_38 ?_
    refine r_getR (pc := 39) C FX7_live mw_257 g_0 rfl dX7_run_39 (fun g1 => ?_)
    refine r_iconst (pc := 42) C dX7_run_42 kc_3 ?_
    refine r_cVI (pc := 43) C hRm (okX3_threadsIn h0 0 (3 : Int32) M g1) (Rc.of C rfl rfl g1) mw_684 cvX3_threadsIn rfl ⟨Nat.le_of_ble_eq_true rfl, Nat.le_of_ble_eq_true rfl⟩ rfl (Nat.le_of_ble_eq_true rfl) dX7_run_43 (fun o3 M2 => ?_)
    refine r_iload_n (pc := 46) C 2 rfl rfl dX7_run_46 ?_
    refine r_isub (pc := 47) C dX7_run_47 ?_
    exact r_iret (pc := 48) C rfl dX7_run_48
    refine r_aload_n (pc := 24) C 0 rfl rfl dX7_run_24 ?_
    refine r_getR (pc := 25) C FX7_live mw_257 g_0 rfl dX7_run_25 (fun g4 => ?_)
    refine r_cVI (pc := 28) C hRm (okX3_tick h0 0 M g4) (Rc.of C rfl rfl g4) mw_511 cvX3_tick rfl ⟨Nat.le_of_ble_eq_true rfl, Nat.le_of_ble_eq_true rfl⟩ rfl (Nat.le_of_ble_eq_true rfl) dX7_run_28 (fun o6 M5 => ?_)
    refine r_pop (pc := 31) C dX7_run_31 rfl ?_
    refine r_iinc (pc := 32) C [(3, .int (v3 + (1 : Int32))), (0, .ref (G.1 0 0 0)), (1, .int v1), (2, .int v2)] dX7_run_32 (p := 3) rfl (ki_1 _) (by decide) rfl ?_
    refine r_goto (pc := 35) C dX7_run_35 (tgt := 19) rfl ?_
    refine r_sub [1, 2, 3, 0] rfl ?_
    exact ih v1 v2 (v3 + (1 : Int32)) M5 g_0
def pX7_run (v1 : Int32) (M : Mem) : Option (Int32 × Mem) :=
    bnd (pX7_needInRange v1 (1 : Int32) (500 : Int32) M) fun o2 M1 => bnd (pX3_threadsIn 0 (3 : Int32) M1) fun o5 M4 => pX7_run_19   fu v1 o5 (0 : Int32) M4
theorem lX7_run_0 {K : KT} {G : WT} (C : Cx K G "PermitPark" cX7_run 4 (some FieldType.int)) (hRm : K.2.2.2.1.frames = 6 ∧ K.2.2.2.1.locals = 139) (h0 : W0 G) (v1 : Int32) (M : Mem) (h_0 : G.2.2.2.1 0 0 0) : Run K G 4 0 0 (FinM K G voI 0 0) 0 [(0, .ref (G.1 0 0 0)), (1, .int v1)] [] M (pX7_run   v1 M) := by
  rw [pX7_run]
  refine r_iload_n (pc := 0) C 1 rfl rfl dX7_run_0 ?_
  refine r_iconst (pc := 1) C dX7_run_1 kc_1 ?_
  refine r_sipush (pc := 2) C dX7_run_2 ks_500 ?_
  refine r_cSV (pc := 5) C hRm (okX7_needInRange h0 v1 (1 : Int32) (500 : Int32) M ) mw_315 cvX7_needInRange rfl ⟨Nat.le_of_ble_eq_true rfl, Nat.le_of_ble_eq_true rfl⟩ rfl (Nat.le_of_ble_eq_true rfl) dX7_run_5 (fun o2 M1 => ?_)
  refine r_aload_n (pc := 8) C 0 rfl rfl dX7_run_8 ?_
  refine r_getR (pc := 9) C FX7_live mw_257 h_0 rfl dX7_run_9 (fun g3 => ?_)
  refine r_iconst (pc := 12) C dX7_run_12 kc_3 ?_
  refine r_cVI (pc := 13) C hRm (okX3_threadsIn h0 0 (3 : Int32) M1 g3) (Rc.of C rfl rfl g3) mw_684 cvX3_threadsIn rfl ⟨Nat.le_of_ble_eq_true rfl, Nat.le_of_ble_eq_true rfl⟩ rfl (Nat.le_of_ble_eq_true rfl) dX7_run_13 (fun o5 M4 => ?_)
  refine r_istore_n (pc := 16) C [(2, .int o5), (0, .ref (G.1 0 0 0)), (1, .int v1)] dX7_run_16 rfl (by decide) rfl ?_
  refine r_iconst (pc := 17) C dX7_run_17 kc_0 ?_
  refine r_istore_n (pc := 18) C [(3, .int (0 : Int32)), (2, .int o5), (0, .ref (G.1 0 0 0)), (1, .int v1)] dX7_run_18 rfl (by decide) rfl ?_
  refine r_sub [2, 3, 1, 0] rfl ?_
  exact lX7_run_19   C hRm h0  fu v1 o5 (0 : Int32) M4 h_0
theorem okX7_run {l : Launch} {G : WT} (h0 : W0 G) (v1 : Int32) (M : Mem) (h_0 : G.2.2.2.1 0 0 0) : Okm l G yX7_run cX7_run 4 (some FieldType.int) 6 139 [.ref (G.1 0 0 0), .int v1] voI M (pX7_run  v1 M) :=
  Okm.of "PermitPark" rfl (by decide) (Nat.le_of_ble_eq_true rfl) (L := [(0, .ref (G.1 0 0 0)), (1, .int v1)]) rfl (fun K _ hr C => lX7_run_0 C (by rw [hr]; exact ⟨rfl, rfl⟩) h0 v1 M h_0)
def pX7_next (M : Mem) : Option (Int32 × Mem) :=
    bnd (pX3_copyFrom 1 0 M) fun o4 M3 => bnd (pX3_tick 1 M3) fun o7 M6 => some (o7, M6)
theorem lX7_next_0 {K : KT} {G : WT} (C : Cx K G "PermitPark" cX7_next 1 (some FieldType.int)) (hRm : K.2.2.2.1.frames = 6 ∧ K.2.2.2.1.locals = 143) (h0 : W0 G) (M : Mem) (h_0 : G.2.2.2.1 0 0 0) : Run K G 1 0 0 (FinM K G voI 0 0) 0 [(0, .ref (G.1 0 0 0))] [] M (pX7_next    M) := by
  rw [pX7_next]
  refine r_aload_n (pc := 0) C 0 rfl rfl dX7_next_0 ?_
  refine r_getR (pc := 1) C FX7_trial mw_258 h_0 rfl dX7_next_1 (fun g1 => ?_)
  refine r_aload_n (pc := 4) C 0 rfl rfl dX7_next_4 ?_
  refine r_getR (pc := 5) C FX7_live mw_257 h_0 rfl dX7_next_5 (fun g2 => ?_)
  refine r_cVV (pc := 8) C hRm (okX3_copyFrom h0 1 0 M g1 g2) (Rc.of C rfl rfl g1) mw_489 cvX3_copyFrom rfl ⟨Nat.le_of_ble_eq_true rfl, Nat.le_of_ble_eq_true rfl⟩ rfl (Nat.le_of_ble_eq_true rfl) dX7_next_8 (fun o4 M3 => ?_)
  refine r_aload_n (pc := 11) C 0 rfl rfl dX7_next_11 ?_
  refine r_getR (pc := 12) C FX7_trial mw_258 h_0 rfl dX7_next_12 (fun g5 => ?_)
  refine r_cVI (pc := 15) C hRm (okX3_tick h0 1 M3 g1) (Rc.of C rfl rfl g1) mw_511 cvX3_tick rfl ⟨Nat.le_of_ble_eq_true rfl, Nat.le_of_ble_eq_true rfl⟩ rfl (Nat.le_of_ble_eq_true rfl) dX7_next_15 (fun o7 M6 => ?_)
  exact r_iret (pc := 18) C rfl dX7_next_18
theorem okX7_next {l : Launch} {G : WT} (h0 : W0 G) (M : Mem) (h_0 : G.2.2.2.1 0 0 0) : Okm l G yX7_next cX7_next 1 (some FieldType.int) 6 143 [.ref (G.1 0 0 0)] voI M (pX7_next   M) :=
  Okm.of "PermitPark" rfl (by decide) (Nat.le_of_ble_eq_true rfl) (L := [(0, .ref (G.1 0 0 0))]) rfl (fun K _ hr C => lX7_next_0 C (by rw [hr]; exact ⟨rfl, rfl⟩) h0  M h_0)
def pX7_chain (v1 : Int32) (v2 : Int32) (M : Mem) : Option (Int32 × Mem) :=
    bnd (pX7_needThread v1 M) fun o2 M1 => bnd (pX7_needNotNegative v2 M1) fun o4 M3 => bnd (pX3_blockerInChain 0 v1 v2 M3) fun o7 M6 => some (o7, M6)
theorem lX7_chain_0 {K : KT} {G : WT} (C : Cx K G "PermitPark" cX7_chain 3 (some FieldType.int)) (hRm : K.2.2.2.1.frames = 2 ∧ K.2.2.2.1.locals = 47) (h0 : W0 G) (v1 : Int32) (v2 : Int32) (M : Mem) (h_0 : G.2.2.2.1 0 0 0) : Run K G 3 0 0 (FinM K G voI 0 0) 0 [(0, .ref (G.1 0 0 0)), (1, .int v1), (2, .int v2)] [] M (pX7_chain   v1 v2 M) := by
  rw [pX7_chain]
  refine r_aload_n (pc := 0) C 0 rfl rfl dX7_chain_0 ?_
  refine r_iload_n (pc := 1) C 1 rfl rfl dX7_chain_1 ?_
  refine r_cVV (pc := 2) C hRm (okX7_needThread h0 v1 M h_0) (Rc.of C rfl rfl h_0) mw_430 cvX7_needThread rfl ⟨Nat.le_of_ble_eq_true rfl, Nat.le_of_ble_eq_true rfl⟩ rfl (Nat.le_of_ble_eq_true rfl) dX7_chain_2 (fun o2 M1 => ?_)
  refine r_iload_n (pc := 5) C 2 rfl rfl dX7_chain_5 ?_
  refine r_cSV (pc := 6) C hRm (okX7_needNotNegative h0 v2 M1 ) mw_770 cvX7_needNotNegative rfl ⟨Nat.le_of_ble_eq_true rfl, Nat.le_of_ble_eq_true rfl⟩ rfl (Nat.le_of_ble_eq_true rfl) dX7_chain_6 (fun o4 M3 => ?_)
  refine r_aload_n (pc := 9) C 0 rfl rfl dX7_chain_9 ?_
  refine r_getR (pc := 10) C FX7_live mw_257 h_0 rfl dX7_chain_10 (fun g5 => ?_)
  refine r_iload_n (pc := 13) C 1 rfl rfl dX7_chain_13 ?_
  refine r_iload_n (pc := 14) C 2 rfl rfl dX7_chain_14 ?_
  refine r_cVI (pc := 15) C hRm (okX3_blockerInChain h0 0 v1 v2 M3 g5) (Rc.of C rfl rfl g5) mw_782 cvX3_blockerInChain rfl ⟨Nat.le_of_ble_eq_true rfl, Nat.le_of_ble_eq_true rfl⟩ rfl (Nat.le_of_ble_eq_true rfl) dX7_chain_15 (fun o7 M6 => ?_)
  exact r_iret (pc := 18) C rfl dX7_chain_18
theorem okX7_chain {l : Launch} {G : WT} (h0 : W0 G) (v1 : Int32) (v2 : Int32) (M : Mem) (h_0 : G.2.2.2.1 0 0 0) : Okm l G yX7_chain cX7_chain 3 (some FieldType.int) 2 47 [.ref (G.1 0 0 0), .int v1, .int v2] voI M (pX7_chain  v1 v2 M) :=
  Okm.of "PermitPark" rfl (by decide) (Nat.le_of_ble_eq_true rfl) (L := [(0, .ref (G.1 0 0 0)), (1, .int v1), (2, .int v2)]) rfl (fun K _ hr C => lX7_chain_0 C (by rw [hr]; exact ⟨rfl, rfl⟩) h0 v1 v2 M h_0)
def pX7_stuck_4 : Nat → Int32 → Int32 → Mem → Option (Int32 × Mem)
  | 0, _, _, _ => none
  | n + 1, v1, v2, M =>
    if (M.1 3 0 0 4) ≤ v2 then (some (v1, M))
    else bnd (pX3_isStuck 0 v2 M) fun o4 M3 => if o4 = 0 then (pX7_stuck_4   n v1 (v2 + (1 : Int32)) M3)
    else nm (v1 ||| ((1 : Int32) <<< (v2 &&& 31))) fun x5 => pX7_stuck_4   n x5 (v2 + (1 : Int32)) M3
theorem lX7_stuck_4 {K : KT} {G : WT} (C : Cx K G "PermitPark" cX7_stuck 3 (some FieldType.int)) (hRm : K.2.2.2.1.frames = 2 ∧ K.2.2.2.1.locals = 46) (h0 : W0 G) : ∀ (n : Nat) (v1 : Int32) (v2 : Int32) (M : Mem), G.2.2.2.1 0 0 0 → Run K G 3 0 0 (FinM K G voI 0 0) 4 [(0, .ref (G.1 0 0 0)), (1, .int v1), (2, .int v2)] [] M (pX7_stuck_4   n v1 v2 M) := by
  intro n
  induction n with
  | zero =>
    intro v1 v2 M g_0
    exact r_none
  | succ n ih =>
    intro v1 v2 M g_0
    rw [pX7_stuck_4]
    refine r_iload_n (pc := 4) C 2 rfl rfl dX7_stuck_4 ?_
    refine r_aload_n (pc := 5) C 0 rfl rfl dX7_stuck_5 ?_
    refine r_getR (pc := 6) C FX7_live mw_257 g_0 rfl dX7_stuck_6 (fun g1 => ?_)
    refine r_getI (pc := 9) C FX3_threadCount mw_208 g1 rfl rfl dX7_stuck_9 ?_
    refine r_icmp_ge (pc := 12) C dX7_stuck_12 (tgt := 38) rfl ?_ ?_
    refine r_iload_n (pc := 38) C 1 rfl rfl dX7_stuck_38 ?_
    exact r_iret (pc := 39) C rfl dX7_stuck_39
    refine r_aload_n (pc := 15) C 0 rfl rfl dX7_stuck_15 ?_
    refine r_getR (pc := 16) C FX7_live mw_257 g_0 rfl dX7_stuck_16 (fun g2 => ?_)
    refine r_iload_n (pc := 19) C 2 rfl rfl dX7_stuck_19 ?_
    refine r_cVI (pc := 20) C hRm (okX3_isStuck h0 0 v2 M g1) (Rc.of C rfl rfl g1) mw_798 cvX3_isStuck rfl ⟨Nat.le_of_ble_eq_true rfl, Nat.le_of_ble_eq_true rfl⟩ rfl (Nat.le_of_ble_eq_true rfl) dX7_stuck_20 (fun o4 M3 => ?_)
    refine r_if_eq (pc := 23) C dX7_stuck_23 (tgt := 32) rfl ?_ ?_
    refine r_iinc (pc := 32) C [(2, .int (v2 + (1 : Int32))), (0, .ref (G.1 0 0 0)), (1, .int v1)] dX7_stuck_32 (p := 2) rfl (ki_1 _) (by decide) rfl ?_
    refine r_goto (pc := 35) C dX7_stuck_35 (tgt := 4) rfl ?_
    refine r_sub [1, 2, 0] rfl ?_
    exact ih v1 (v2 + (1 : Int32)) M3 g_0
    refine r_iload_n (pc := 26) C 1 rfl rfl dX7_stuck_26 ?_
    refine r_iconst (pc := 27) C dX7_stuck_27 kc_1 ?_
    refine r_iload_n (pc := 28) C 2 rfl rfl dX7_stuck_28 ?_
    refine r_ishl (pc := 29) C dX7_stuck_29 ?_
    refine r_ior (pc := 30) C dX7_stuck_30 ?_
    refine r_nmi (fun x5 => ?_)
    refine r_istore_n (pc := 31) C [(1, .int x5), (0, .ref (G.1 0 0 0)), (2, .int v2)] dX7_stuck_31 rfl (by decide) rfl ?_
    refine r_iinc (pc := 32) C [(2, .int (v2 + (1 : Int32))), (1, .int x5), (0, .ref (G.1 0 0 0))] dX7_stuck_32 (p := 2) rfl (ki_1 _) (by decide) rfl ?_
    refine r_goto (pc := 35) C dX7_stuck_35 (tgt := 4) rfl ?_
    refine r_sub [2, 1, 0] rfl ?_
    exact ih x5 (v2 + (1 : Int32)) M3 g_0
def pX7_stuck (M : Mem) : Option (Int32 × Mem) :=
    pX7_stuck_4   fu (0 : Int32) (0 : Int32) M
theorem lX7_stuck_0 {K : KT} {G : WT} (C : Cx K G "PermitPark" cX7_stuck 3 (some FieldType.int)) (hRm : K.2.2.2.1.frames = 2 ∧ K.2.2.2.1.locals = 46) (h0 : W0 G) (M : Mem) (h_0 : G.2.2.2.1 0 0 0) : Run K G 3 0 0 (FinM K G voI 0 0) 0 [(0, .ref (G.1 0 0 0))] [] M (pX7_stuck    M) := by
  rw [pX7_stuck]
  refine r_iconst (pc := 0) C dX7_stuck_0 kc_0 ?_
  refine r_istore_n (pc := 1) C [(1, .int (0 : Int32)), (0, .ref (G.1 0 0 0))] dX7_stuck_1 rfl (by decide) rfl ?_
  refine r_iconst (pc := 2) C dX7_stuck_2 kc_0 ?_
  refine r_istore_n (pc := 3) C [(2, .int (0 : Int32)), (1, .int (0 : Int32)), (0, .ref (G.1 0 0 0))] dX7_stuck_3 rfl (by decide) rfl ?_
  refine r_sub [2, 1, 0] rfl ?_
  exact lX7_stuck_4   C hRm h0  fu (0 : Int32) (0 : Int32) M h_0
theorem okX7_stuck {l : Launch} {G : WT} (h0 : W0 G) (M : Mem) (h_0 : G.2.2.2.1 0 0 0) : Okm l G yX7_stuck cX7_stuck 3 (some FieldType.int) 2 46 [.ref (G.1 0 0 0)] voI M (pX7_stuck   M) :=
  Okm.of "PermitPark" rfl (by decide) (Nat.le_of_ble_eq_true rfl) (L := [(0, .ref (G.1 0 0 0))]) rfl (fun K _ hr C => lX7_stuck_0 C (by rw [hr]; exact ⟨rfl, rfl⟩) h0  M h_0)
def pX7_lent (v1 : Int32) (M : Mem) : Option (UInt32 × Mem) :=
    bnd (pX7_needThread v1 M) fun o2 M1 => bnd (pX3_refreshPriorities 0 M1) fun o5 M4 => chk (inB v1 10) <| chk (decide ((FP.fdiv (FP.i2f (M4.1 5 0 (v1.toNatClampNeg) 5)) (FP.i2f (M4.1 5 0 (v1.toNatClampNeg) 4))) &&& 0x7fffffff ≤ 0x7f800000)) <| some ((FP.fdiv (FP.i2f (M4.1 5 0 (v1.toNatClampNeg) 5)) (FP.i2f (M4.1 5 0 (v1.toNatClampNeg) 4))), M4)
theorem lX7_lent_0 {K : KT} {G : WT} (C : Cx K G "PermitPark" cX7_lent 3 (some FieldType.float)) (hRm : K.2.2.2.1.frames = 2 ∧ K.2.2.2.1.locals = 45) (h0 : W0 G) (v1 : Int32) (M : Mem) (h_0 : G.2.2.2.1 0 0 0) : Run K G 3 0 0 (FinM K G voF 0 0) 0 [(0, .ref (G.1 0 0 0)), (1, .int v1)] [] M (pX7_lent   v1 M) := by
  rw [pX7_lent]
  refine r_aload_n (pc := 0) C 0 rfl rfl dX7_lent_0 ?_
  refine r_iload_n (pc := 1) C 1 rfl rfl dX7_lent_1 ?_
  refine r_cVV (pc := 2) C hRm (okX7_needThread h0 v1 M h_0) (Rc.of C rfl rfl h_0) mw_430 cvX7_needThread rfl ⟨Nat.le_of_ble_eq_true rfl, Nat.le_of_ble_eq_true rfl⟩ rfl (Nat.le_of_ble_eq_true rfl) dX7_lent_2 (fun o2 M1 => ?_)
  refine r_aload_n (pc := 5) C 0 rfl rfl dX7_lent_5 ?_
  refine r_getR (pc := 6) C FX7_live mw_257 h_0 rfl dX7_lent_6 (fun g3 => ?_)
  refine r_cVV (pc := 9) C hRm (okX3_refreshPriorities h0 0 M1 g3) (Rc.of C rfl rfl g3) mw_668 cvX3_refreshPriorities rfl ⟨Nat.le_of_ble_eq_true rfl, Nat.le_of_ble_eq_true rfl⟩ rfl (Nat.le_of_ble_eq_true rfl) dX7_lent_9 (fun o5 M4 => ?_)
  refine r_aload_n (pc := 12) C 0 rfl rfl dX7_lent_12 ?_
  refine r_getR (pc := 13) C FX7_live mw_257 h_0 rfl dX7_lent_13 (fun g6 => ?_)
  refine r_getR (pc := 16) C FX3_threads mw_200 g3 rfl dX7_lent_16 (fun g7 => ?_)
  refine r_iload_n (pc := 19) C 1 rfl rfl dX7_lent_19 ?_
  refine r_aald (pc := 20) C (kd := 4) rfl rfl g7 rfl dX7_lent_20 (fun g8 => ?_)
  refine r_astore_n (pc := 21) C [(2, .ref (G.1 5 0 (v1.toNatClampNeg))), (0, .ref (G.1 0 0 0)), (1, .int v1)] dX7_lent_21 rfl (by decide) rfl ?_
  refine r_aload_n (pc := 22) C 0 rfl rfl dX7_lent_22 ?_
  refine r_getI (pc := 23) C FX6_priority mw_124 g8 rfl rfl dX7_lent_23 ?_
  refine r_i2f (pc := 26) C dX7_lent_26 ?_
  refine r_aload_n (pc := 27) C 0 rfl rfl dX7_lent_27 ?_
  refine r_getI (pc := 28) C FX6_base mw_121 g8 rfl rfl dX7_lent_28 ?_
  refine r_i2f (pc := 31) C dX7_lent_31 ?_
  refine r_fdiv (pc := 32) C dX7_lent_32 ?_
  exact r_fret (pc := 33) C dX7_lent_33
theorem okX7_lent {l : Launch} {G : WT} (h0 : W0 G) (v1 : Int32) (M : Mem) (h_0 : G.2.2.2.1 0 0 0) : Okm l G yX7_lent cX7_lent 3 (some FieldType.float) 2 45 [.ref (G.1 0 0 0), .int v1] voF M (pX7_lent  v1 M) :=
  Okm.of "PermitPark" rfl (by decide) (Nat.le_of_ble_eq_true rfl) (L := [(0, .ref (G.1 0 0 0)), (1, .int v1)]) rfl (fun K _ hr C => lX7_lent_0 C (by rw [hr]; exact ⟨rfl, rfl⟩) h0 v1 M h_0)
def pX7_doneIn_37 : Nat → Int32 → Nat → Int32 → Mem → Option (Int32 × Mem)
  | 0, _, _, _, _ => none
  | n + 1, v2, n3i, v4, M =>
    if v2 < v4 then (some ((-1 : Int32), M))
    else if ¬ (M.1 5 1 n3i 7) = (3 : Int32) then (bnd (pX3_tick 1 M) fun o3 M2 => pX7_doneIn_37   n v2 n3i (v4 + (1 : Int32)) M2)
    else some (v4, M)
theorem lX7_doneIn_37 {K : KT} {G : WT} (C : Cx K G "PermitPark" cX7_doneIn 5 (some FieldType.int)) (hRm : K.2.2.2.1.frames = 6 ∧ K.2.2.2.1.locals = 143) (h0 : W0 G) : ∀ (n : Nat) (v2 : Int32) (n3i : Nat) (v4 : Int32) (M : Mem), G.2.2.2.1 0 0 0 → G.2.2.2.1 5 1 n3i → Run K G 5 0 0 (FinM K G voI 0 0) 37 [(0, .ref (G.1 0 0 0)), (2, .int v2), (3, .ref (G.1 5 1 n3i)), (4, .int v4)] [] M (pX7_doneIn_37   n v2 n3i v4 M) := by
  intro n
  induction n with
  | zero =>
    intro v2 n3i v4 M g_0 g_3
    exact r_none
  | succ n ih =>
    intro v2 n3i v4 M g_0 g_3
    rw [pX7_doneIn_37]
    refine r_iload (pc := 37) C 3 rfl dX7_doneIn_37 ?_
    refine r_iload_n (pc := 39) C 1 rfl rfl dX7_doneIn_39 ?_
    refine r_icmp_gt (pc := 40) C dX7_doneIn_40 (tgt := 68) rfl ?_ ?_
    refine r_iconst (pc := 68) C dX7_doneIn_68 kc_m1 ?_
    exact r_iret (pc := 69) C rfl dX7_doneIn_69
    refine r_aload_n (pc := 43) C 2 rfl rfl dX7_doneIn_43 ?_
    refine r_getI (pc := 44) C FX6_state mw_129 g_3 rfl rfl dX7_doneIn_44 ?_
    refine r_iconst (pc := 47) C dX7_doneIn_47 kc_3 ?_
    refine r_icmp_ne (pc := 48) C dX7_doneIn_48 (tgt := 54) rfl ?_ ?_
    refine r_aload_n (pc := 54) C 0 rfl rfl dX7_doneIn_54 ?_
    refine r_getR (pc := 55) C FX7_trial mw_258 g_0 rfl dX7_doneIn_55 (fun g1 => ?_)
    refine r_cVI (pc := 58) C hRm (okX3_tick h0 1 M g1) (Rc.of C rfl rfl g1) mw_511 cvX3_tick rfl ⟨Nat.le_of_ble_eq_true rfl, Nat.le_of_ble_eq_true rfl⟩ rfl (Nat.le_of_ble_eq_true rfl) dX7_doneIn_58 (fun o3 M2 => ?_)
    refine r_pop (pc := 61) C dX7_doneIn_61 rfl ?_
    refine r_iinc (pc := 62) C [(4, .int (v4 + (1 : Int32))), (0, .ref (G.1 0 0 0)), (2, .int v2), (3, .ref (G.1 5 1 n3i))] dX7_doneIn_62 (p := 3) rfl (ki_1 _) (by decide) rfl ?_
    refine r_goto (pc := 65) C dX7_doneIn_65 (tgt := 37) rfl ?_
    refine r_sub [1, 2, 3, 0] rfl ?_
    exact ih v2 n3i (v4 + (1 : Int32)) M2 g_0 g_3
    refine r_iload (pc := 51) C 3 rfl dX7_doneIn_51 ?_
    exact r_iret (pc := 53) C rfl dX7_doneIn_53
def pX7_doneIn (v1 : Int32) (v2 : Int32) (M : Mem) : Option (Int32 × Mem) :=
    bnd (pX7_needThread v1 M) fun o2 M1 => bnd (pX7_needInRange v2 (1 : Int32) (500 : Int32) M1) fun o4 M3 => bnd (pX3_copyFrom 1 0 M3) fun o8 M7 => chk (inB v1 10) <| pX7_doneIn_37   fu v2 (v1.toNatClampNeg) (0 : Int32) M7
theorem lX7_doneIn_0 {K : KT} {G : WT} (C : Cx K G "PermitPark" cX7_doneIn 5 (some FieldType.int)) (hRm : K.2.2.2.1.frames = 6 ∧ K.2.2.2.1.locals = 143) (h0 : W0 G) (v1 : Int32) (v2 : Int32) (M : Mem) (h_0 : G.2.2.2.1 0 0 0) : Run K G 5 0 0 (FinM K G voI 0 0) 0 [(0, .ref (G.1 0 0 0)), (1, .int v1), (2, .int v2)] [] M (pX7_doneIn   v1 v2 M) := by
  rw [pX7_doneIn]
  refine r_aload_n (pc := 0) C 0 rfl rfl dX7_doneIn_0 ?_
  refine r_iload_n (pc := 1) C 1 rfl rfl dX7_doneIn_1 ?_
  refine r_cVV (pc := 2) C hRm (okX7_needThread h0 v1 M h_0) (Rc.of C rfl rfl h_0) mw_430 cvX7_needThread rfl ⟨Nat.le_of_ble_eq_true rfl, Nat.le_of_ble_eq_true rfl⟩ rfl (Nat.le_of_ble_eq_true rfl) dX7_doneIn_2 (fun o2 M1 => ?_)
  refine r_iload_n (pc := 5) C 2 rfl rfl dX7_doneIn_5 ?_
  refine r_iconst (pc := 6) C dX7_doneIn_6 kc_1 ?_
  refine r_sipush (pc := 7) C dX7_doneIn_7 ks_500 ?_
  refine r_cSV (pc := 10) C hRm (okX7_needInRange h0 v2 (1 : Int32) (500 : Int32) M1 ) mw_315 cvX7_needInRange rfl ⟨Nat.le_of_ble_eq_true rfl, Nat.le_of_ble_eq_true rfl⟩ rfl (Nat.le_of_ble_eq_true rfl) dX7_doneIn_10 (fun o4 M3 => ?_)
  refine r_aload_n (pc := 13) C 0 rfl rfl dX7_doneIn_13 ?_
  refine r_getR (pc := 14) C FX7_trial mw_258 h_0 rfl dX7_doneIn_14 (fun g5 => ?_)
  refine r_aload_n (pc := 17) C 0 rfl rfl dX7_doneIn_17 ?_
  refine r_getR (pc := 18) C FX7_live mw_257 h_0 rfl dX7_doneIn_18 (fun g6 => ?_)
  refine r_cVV (pc := 21) C hRm (okX3_copyFrom h0 1 0 M3 g5 g6) (Rc.of C rfl rfl g5) mw_489 cvX3_copyFrom rfl ⟨Nat.le_of_ble_eq_true rfl, Nat.le_of_ble_eq_true rfl⟩ rfl (Nat.le_of_ble_eq_true rfl) dX7_doneIn_21 (fun o8 M7 => ?_)
  refine r_aload_n (pc := 24) C 0 rfl rfl dX7_doneIn_24 ?_
  refine r_getR (pc := 25) C FX7_trial mw_258 h_0 rfl dX7_doneIn_25 (fun g9 => ?_)
  refine r_getR (pc := 28) C FX3_threads mw_200 g5 rfl dX7_doneIn_28 (fun g10 => ?_)
  refine r_iload_n (pc := 31) C 1 rfl rfl dX7_doneIn_31 ?_
  refine r_aald (pc := 32) C (kd := 4) rfl rfl g10 rfl dX7_doneIn_32 (fun g11 => ?_)
  refine r_astore_n (pc := 33) C [(3, .ref (G.1 5 1 (v1.toNatClampNeg))), (0, .ref (G.1 0 0 0)), (1, .int v1), (2, .int v2)] dX7_doneIn_33 rfl (by decide) rfl ?_
  refine r_iconst (pc := 34) C dX7_doneIn_34 kc_0 ?_
  refine r_istore (pc := 35) C [(4, .int (0 : Int32)), (3, .ref (G.1 5 1 (v1.toNatClampNeg))), (0, .ref (G.1 0 0 0)), (1, .int v1), (2, .int v2)] dX7_doneIn_35 (by decide) rfl ?_
  refine r_sub [2, 4, 1, 0] rfl ?_
  exact lX7_doneIn_37   C hRm h0  fu v2 (v1.toNatClampNeg) (0 : Int32) M7 h_0 g11
theorem okX7_doneIn {l : Launch} {G : WT} (h0 : W0 G) (v1 : Int32) (v2 : Int32) (M : Mem) (h_0 : G.2.2.2.1 0 0 0) : Okm l G yX7_doneIn cX7_doneIn 5 (some FieldType.int) 6 143 [.ref (G.1 0 0 0), .int v1, .int v2] voI M (pX7_doneIn  v1 v2 M) :=
  Okm.of "PermitPark" rfl (by decide) (Nat.le_of_ble_eq_true rfl) (L := [(0, .ref (G.1 0 0 0)), (1, .int v1), (2, .int v2)]) rfl (fun K _ hr C => lX7_doneIn_0 C (by rw [hr]; exact ⟨rfl, rfl⟩) h0 v1 v2 M h_0)
def pX7_returnsIn_43 : Nat → Int32 → Nat → Int32 → Int32 → Mem → Option (Int32 × Mem)
  | 0, _, _, _, _, _ => none
  | n + 1, v2, n3i, v4, v5, M =>
    if v2 < v5 then (some ((-1 : Int32), M))
    else bnd (pX3_tick 1 M) fun o3 M2 => bnd (pX6_allReturns 1 n3i M2) fun o5 M4 => if o5 = v4 then (pX7_returnsIn_43   n v2 n3i v4 (v5 + (1 : Int32)) M4)
    else some (v5, M4)
theorem lX7_returnsIn_43 {K : KT} {G : WT} (C : Cx K G "PermitPark" cX7_returnsIn 6 (some FieldType.int)) (hRm : K.2.2.2.1.frames = 6 ∧ K.2.2.2.1.locals = 143) (h0 : W0 G) : ∀ (n : Nat) (v2 : Int32) (n3i : Nat) (v4 : Int32) (v5 : Int32) (M : Mem), G.2.2.2.1 0 0 0 → G.2.2.2.1 5 1 n3i → Run K G 6 0 0 (FinM K G voI 0 0) 43 [(0, .ref (G.1 0 0 0)), (2, .int v2), (3, .ref (G.1 5 1 n3i)), (4, .int v4), (5, .int v5)] [] M (pX7_returnsIn_43   n v2 n3i v4 v5 M) := by
  intro n
  induction n with
  | zero =>
    intro v2 n3i v4 v5 M g_0 g_3
    exact r_none
  | succ n ih =>
    intro v2 n3i v4 v5 M g_0 g_3
    rw [pX7_returnsIn_43]
    refine r_iload (pc := 43) C 4 rfl dX7_returnsIn_43 ?_
    refine r_iload_n (pc := 45) C 1 rfl rfl dX7_returnsIn_45 ?_
    refine r_icmp_gt (pc := 46) C dX7_returnsIn_46 (tgt := 75) rfl ?_ ?_
    refine r_iconst (pc := 75) C dX7_returnsIn_75 kc_m1 ?_
    exact r_iret (pc := 76) C rfl dX7_returnsIn_76
    refine r_aload_n (pc := 49) C 0 rfl rfl dX7_returnsIn_49 ?_
    refine r_getR (pc := 50) C FX7_trial mw_258 g_0 rfl dX7_returnsIn_50 (fun g1 => ?_)
    refine r_cVI (pc := 53) C hRm (okX3_tick h0 1 M g1) (Rc.of C rfl rfl g1) mw_511 cvX3_tick rfl ⟨Nat.le_of_ble_eq_true rfl, Nat.le_of_ble_eq_true rfl⟩ rfl (Nat.le_of_ble_eq_true rfl) dX7_returnsIn_53 (fun o3 M2 => ?_)
    refine r_pop (pc := 56) C dX7_returnsIn_56 rfl ?_
    refine r_aload_n (pc := 57) C 2 rfl rfl dX7_returnsIn_57 ?_
    refine r_cVI (pc := 58) C hRm (okX6_allReturns h0 1 n3i M2 g_3) (Rc.of C rfl rfl g_3) mw_832 cvX6_allReturns rfl ⟨Nat.le_of_ble_eq_true rfl, Nat.le_of_ble_eq_true rfl⟩ rfl (Nat.le_of_ble_eq_true rfl) dX7_returnsIn_58 (fun o5 M4 => ?_)
    refine r_iload (pc := 61) C 3 rfl dX7_returnsIn_61 ?_
    refine r_icmp_eq (pc := 63) C dX7_returnsIn_63 (tgt := 69) rfl ?_ ?_
    refine r_iinc (pc := 69) C [(5, .int (v5 + (1 : Int32))), (0, .ref (G.1 0 0 0)), (2, .int v2), (3, .ref (G.1 5 1 n3i)), (4, .int v4)] dX7_returnsIn_69 (p := 4) rfl (ki_1 _) (by decide) rfl ?_
    refine r_goto (pc := 72) C dX7_returnsIn_72 (tgt := 43) rfl ?_
    refine r_sub [1, 2, 3, 4, 0] rfl ?_
    exact ih v2 n3i v4 (v5 + (1 : Int32)) M4 g_0 g_3
    refine r_iload (pc := 66) C 4 rfl dX7_returnsIn_66 ?_
    exact r_iret (pc := 68) C rfl dX7_returnsIn_68
def pX7_returnsIn (v1 : Int32) (v2 : Int32) (M : Mem) : Option (Int32 × Mem) :=
    bnd (pX7_needThread v1 M) fun o2 M1 => bnd (pX7_needInRange v2 (1 : Int32) (500 : Int32) M1) fun o4 M3 => bnd (pX3_copyFrom 1 0 M3) fun o8 M7 => chk (inB v1 10) <| bnd (pX6_allReturns 1 (v1.toNatClampNeg) M7) fun o13 M12 => pX7_returnsIn_43   fu v2 (v1.toNatClampNeg) o13 (1 : Int32) M12
theorem lX7_returnsIn_0 {K : KT} {G : WT} (C : Cx K G "PermitPark" cX7_returnsIn 6 (some FieldType.int)) (hRm : K.2.2.2.1.frames = 6 ∧ K.2.2.2.1.locals = 143) (h0 : W0 G) (v1 : Int32) (v2 : Int32) (M : Mem) (h_0 : G.2.2.2.1 0 0 0) : Run K G 6 0 0 (FinM K G voI 0 0) 0 [(0, .ref (G.1 0 0 0)), (1, .int v1), (2, .int v2)] [] M (pX7_returnsIn   v1 v2 M) := by
  rw [pX7_returnsIn]
  refine r_aload_n (pc := 0) C 0 rfl rfl dX7_returnsIn_0 ?_
  refine r_iload_n (pc := 1) C 1 rfl rfl dX7_returnsIn_1 ?_
  refine r_cVV (pc := 2) C hRm (okX7_needThread h0 v1 M h_0) (Rc.of C rfl rfl h_0) mw_430 cvX7_needThread rfl ⟨Nat.le_of_ble_eq_true rfl, Nat.le_of_ble_eq_true rfl⟩ rfl (Nat.le_of_ble_eq_true rfl) dX7_returnsIn_2 (fun o2 M1 => ?_)
  refine r_iload_n (pc := 5) C 2 rfl rfl dX7_returnsIn_5 ?_
  refine r_iconst (pc := 6) C dX7_returnsIn_6 kc_1 ?_
  refine r_sipush (pc := 7) C dX7_returnsIn_7 ks_500 ?_
  refine r_cSV (pc := 10) C hRm (okX7_needInRange h0 v2 (1 : Int32) (500 : Int32) M1 ) mw_315 cvX7_needInRange rfl ⟨Nat.le_of_ble_eq_true rfl, Nat.le_of_ble_eq_true rfl⟩ rfl (Nat.le_of_ble_eq_true rfl) dX7_returnsIn_10 (fun o4 M3 => ?_)
  refine r_aload_n (pc := 13) C 0 rfl rfl dX7_returnsIn_13 ?_
  refine r_getR (pc := 14) C FX7_trial mw_258 h_0 rfl dX7_returnsIn_14 (fun g5 => ?_)
  refine r_aload_n (pc := 17) C 0 rfl rfl dX7_returnsIn_17 ?_
  refine r_getR (pc := 18) C FX7_live mw_257 h_0 rfl dX7_returnsIn_18 (fun g6 => ?_)
  refine r_cVV (pc := 21) C hRm (okX3_copyFrom h0 1 0 M3 g5 g6) (Rc.of C rfl rfl g5) mw_489 cvX3_copyFrom rfl ⟨Nat.le_of_ble_eq_true rfl, Nat.le_of_ble_eq_true rfl⟩ rfl (Nat.le_of_ble_eq_true rfl) dX7_returnsIn_21 (fun o8 M7 => ?_)
  refine r_aload_n (pc := 24) C 0 rfl rfl dX7_returnsIn_24 ?_
  refine r_getR (pc := 25) C FX7_trial mw_258 h_0 rfl dX7_returnsIn_25 (fun g9 => ?_)
  refine r_getR (pc := 28) C FX3_threads mw_200 g5 rfl dX7_returnsIn_28 (fun g10 => ?_)
  refine r_iload_n (pc := 31) C 1 rfl rfl dX7_returnsIn_31 ?_
  refine r_aald (pc := 32) C (kd := 4) rfl rfl g10 rfl dX7_returnsIn_32 (fun g11 => ?_)
  refine r_astore_n (pc := 33) C [(3, .ref (G.1 5 1 (v1.toNatClampNeg))), (0, .ref (G.1 0 0 0)), (1, .int v1), (2, .int v2)] dX7_returnsIn_33 rfl (by decide) rfl ?_
  refine r_aload_n (pc := 34) C 0 rfl rfl dX7_returnsIn_34 ?_
  refine r_cVI (pc := 35) C hRm (okX6_allReturns h0 1 (v1.toNatClampNeg) M7 g11) (Rc.of C rfl rfl g11) mw_832 cvX6_allReturns rfl ⟨Nat.le_of_ble_eq_true rfl, Nat.le_of_ble_eq_true rfl⟩ rfl (Nat.le_of_ble_eq_true rfl) dX7_returnsIn_35 (fun o13 M12 => ?_)
  refine r_istore (pc := 38) C [(4, .int o13), (3, .ref (G.1 5 1 (v1.toNatClampNeg))), (0, .ref (G.1 0 0 0)), (1, .int v1), (2, .int v2)] dX7_returnsIn_38 (by decide) rfl ?_
  refine r_iconst (pc := 40) C dX7_returnsIn_40 kc_1 ?_
  refine r_istore (pc := 41) C [(5, .int (1 : Int32)), (4, .int o13), (3, .ref (G.1 5 1 (v1.toNatClampNeg))), (0, .ref (G.1 0 0 0)), (1, .int v1), (2, .int v2)] dX7_returnsIn_41 (by decide) rfl ?_
  refine r_sub [3, 5, 2, 1, 0] rfl ?_
  exact lX7_returnsIn_43   C hRm h0  fu v2 (v1.toNatClampNeg) o13 (1 : Int32) M12 h_0 g11
theorem okX7_returnsIn {l : Launch} {G : WT} (h0 : W0 G) (v1 : Int32) (v2 : Int32) (M : Mem) (h_0 : G.2.2.2.1 0 0 0) : Okm l G yX7_returnsIn cX7_returnsIn 6 (some FieldType.int) 6 143 [.ref (G.1 0 0 0), .int v1, .int v2] voI M (pX7_returnsIn  v1 v2 M) :=
  Okm.of "PermitPark" rfl (by decide) (Nat.le_of_ble_eq_true rfl) (L := [(0, .ref (G.1 0 0 0)), (1, .int v1), (2, .int v2)]) rfl (fun K _ hr C => lX7_returnsIn_0 C (by rw [hr]; exact ⟨rfl, rfl⟩) h0 v1 v2 M h_0)
def pX7_ahead_27 : Nat → Int32 → Int32 → Int32 → Mem → Option (Int32 × Mem)
  | 0, _, _, _, _ => none
  | n + 1, v1, v2, v3, M =>
    if v1 ≤ v3 then (if v2 = (0 : Int32) then (bnd (pX3_threadsIn 1 (3 : Int32) M) fun o4 M3 => some (o4, M3))
    else if v2 = (1 : Int32) then (some (((M.1 3 1 0 7) - (M.1 3 0 0 7)), M))
    else if v2 = (2 : Int32) then (bnd (pX3_allReturns 1 M) fun o11 M10 => bnd (pX3_allReturns 0 M10) fun o14 M13 => some ((o11 - o14), M13))
    else some (((M.1 13 1 0 3) - (M.1 13 0 0 3)), M))
    else bnd (pX3_tick 1 M) fun o21 M20 => pX7_ahead_27   n v1 v2 (v3 + (1 : Int32)) M20
theorem lX7_ahead_27 {K : KT} {G : WT} (C : Cx K G "PermitPark" cX7_ahead 4 (some FieldType.int)) (hRm : K.2.2.2.1.frames = 6 ∧ K.2.2.2.1.locals = 143) (h0 : W0 G) : ∀ (n : Nat) (v1 : Int32) (v2 : Int32) (v3 : Int32) (M : Mem), G.2.2.2.1 0 0 0 → Run K G 4 0 0 (FinM K G voI 0 0) 27 [(0, .ref (G.1 0 0 0)), (1, .int v1), (2, .int v2), (3, .int v3)] [] M (pX7_ahead_27   n v1 v2 v3 M) := by
  intro n
  induction n with
  | zero =>
    intro v1 v2 v3 M g_0
    exact r_none
  | succ n ih =>
    intro v1 v2 v3 M g_0
    rw [pX7_ahead_27]
    refine r_iload_n (pc := 27) C 3 rfl rfl dX7_ahead_27 ?_
    refine r_iload_n (pc := 28) C 1 rfl rfl dX7_ahead_28 ?_
    refine r_icmp_ge (pc := 29) C dX7_ahead_29 (tgt := 46) rfl ?_ ?_
    refine r_iload_n (pc := 46) C 2 rfl rfl dX7_ahead_46 ?_
    refine r_ite (fun e1 => ?_) (fun e1n => ?_)
    refine r_tabE (pc := 47) C e1 dX7_ahead_47 (by decide) (by decide) (off := 25) rfl (tgt := 72) rfl ?_
    refine r_aload_n (pc := 72) C 0 rfl rfl dX7_ahead_72 ?_
    refine r_getR (pc := 73) C FX7_trial mw_258 g_0 rfl dX7_ahead_73 (fun g2 => ?_)
    refine r_iconst (pc := 76) C dX7_ahead_76 kc_3 ?_
    refine r_cVI (pc := 77) C hRm (okX3_threadsIn h0 1 (3 : Int32) M g2) (Rc.of C rfl rfl g2) mw_684 cvX3_threadsIn rfl ⟨Nat.le_of_ble_eq_true rfl, Nat.le_of_ble_eq_true rfl⟩ rfl (Nat.le_of_ble_eq_true rfl) dX7_ahead_77 (fun o4 M3 => ?_)
    exact r_iret (pc := 80) C rfl dX7_ahead_80
    refine r_ite (fun e5 => ?_) (fun e5n => ?_)
    refine r_tabE (pc := 47) C e5 dX7_ahead_47 (by decide) (by decide) (off := 34) rfl (tgt := 81) rfl ?_
    refine r_aload_n (pc := 81) C 0 rfl rfl dX7_ahead_81 ?_
    refine r_getR (pc := 82) C FX7_trial mw_258 g_0 rfl dX7_ahead_82 (fun g6 => ?_)
    refine r_getI (pc := 85) C FX3_idleTicks mw_213 g6 rfl rfl dX7_ahead_85 ?_
    refine r_aload_n (pc := 88) C 0 rfl rfl dX7_ahead_88 ?_
    refine r_getR (pc := 89) C FX7_live mw_257 g_0 rfl dX7_ahead_89 (fun g7 => ?_)
    refine r_getI (pc := 92) C FX3_idleTicks mw_213 g7 rfl rfl dX7_ahead_92 ?_
    refine r_isub (pc := 95) C dX7_ahead_95 ?_
    exact r_iret (pc := 96) C rfl dX7_ahead_96
    refine r_ite (fun e8 => ?_) (fun e8n => ?_)
    refine r_tabE (pc := 47) C e8 dX7_ahead_47 (by decide) (by decide) (off := 50) rfl (tgt := 97) rfl ?_
    refine r_aload_n (pc := 97) C 0 rfl rfl dX7_ahead_97 ?_
    refine r_getR (pc := 98) C FX7_trial mw_258 g_0 rfl dX7_ahead_98 (fun g9 => ?_)
    refine r_cVI (pc := 101) C hRm (okX3_allReturns h0 1 M g9) (Rc.of C rfl rfl g9) mw_843 cvX3_allReturns rfl ⟨Nat.le_of_ble_eq_true rfl, Nat.le_of_ble_eq_true rfl⟩ rfl (Nat.le_of_ble_eq_true rfl) dX7_ahead_101 (fun o11 M10 => ?_)
    refine r_aload_n (pc := 104) C 0 rfl rfl dX7_ahead_104 ?_
    refine r_getR (pc := 105) C FX7_live mw_257 g_0 rfl dX7_ahead_105 (fun g12 => ?_)
    refine r_cVI (pc := 108) C hRm (okX3_allReturns h0 0 M10 g12) (Rc.of C rfl rfl g12) mw_843 cvX3_allReturns rfl ⟨Nat.le_of_ble_eq_true rfl, Nat.le_of_ble_eq_true rfl⟩ rfl (Nat.le_of_ble_eq_true rfl) dX7_ahead_108 (fun o14 M13 => ?_)
    refine r_isub (pc := 111) C dX7_ahead_111 ?_
    exact r_iret (pc := 112) C rfl dX7_ahead_112
    refine r_tabD (pc := 47) C (cz := [0, 1, 2]) (tabN_cons e1n (tabN_cons e5n (tabN_cons e8n tabN_nil))) dX7_ahead_47 (by decide) (tgt := 113) rfl ?_
    refine r_aload_n (pc := 113) C 0 rfl rfl dX7_ahead_113 ?_
    refine r_getR (pc := 114) C FX7_trial mw_258 g_0 rfl dX7_ahead_114 (fun g15 => ?_)
    refine r_getR (pc := 117) C FX3_log mw_204 g15 rfl dX7_ahead_117 (fun g16 => ?_)
    refine r_getI (pc := 120) C FX2_total mw_95 g16 rfl rfl dX7_ahead_120 ?_
    refine r_aload_n (pc := 123) C 0 rfl rfl dX7_ahead_123 ?_
    refine r_getR (pc := 124) C FX7_live mw_257 g_0 rfl dX7_ahead_124 (fun g17 => ?_)
    refine r_getR (pc := 127) C FX3_log mw_204 g17 rfl dX7_ahead_127 (fun g18 => ?_)
    refine r_getI (pc := 130) C FX2_total mw_95 g18 rfl rfl dX7_ahead_130 ?_
    refine r_isub (pc := 133) C dX7_ahead_133 ?_
    exact r_iret (pc := 134) C rfl dX7_ahead_134
    refine r_aload_n (pc := 32) C 0 rfl rfl dX7_ahead_32 ?_
    refine r_getR (pc := 33) C FX7_trial mw_258 g_0 rfl dX7_ahead_33 (fun g19 => ?_)
    refine r_cVI (pc := 36) C hRm (okX3_tick h0 1 M g19) (Rc.of C rfl rfl g19) mw_511 cvX3_tick rfl ⟨Nat.le_of_ble_eq_true rfl, Nat.le_of_ble_eq_true rfl⟩ rfl (Nat.le_of_ble_eq_true rfl) dX7_ahead_36 (fun o21 M20 => ?_)
    refine r_pop (pc := 39) C dX7_ahead_39 rfl ?_
    refine r_iinc (pc := 40) C [(3, .int (v3 + (1 : Int32))), (0, .ref (G.1 0 0 0)), (1, .int v1), (2, .int v2)] dX7_ahead_40 (p := 3) rfl (ki_1 _) (by decide) rfl ?_
    refine r_goto (pc := 43) C dX7_ahead_43 (tgt := 27) rfl ?_
    refine r_sub [1, 2, 3, 0] rfl ?_
    exact ih v1 v2 (v3 + (1 : Int32)) M20 g_0
def pX7_ahead (v1 : Int32) (v2 : Int32) (M : Mem) : Option (Int32 × Mem) :=
    bnd (pX7_needInRange v1 (1 : Int32) (500 : Int32) M) fun o2 M1 => bnd (pX7_needInRange v2 (0 : Int32) (3 : Int32) M1) fun o4 M3 => bnd (pX3_copyFrom 1 0 M3) fun o8 M7 => pX7_ahead_27   fu v1 v2 (0 : Int32) M7
theorem lX7_ahead_0 {K : KT} {G : WT} (C : Cx K G "PermitPark" cX7_ahead 4 (some FieldType.int)) (hRm : K.2.2.2.1.frames = 6 ∧ K.2.2.2.1.locals = 143) (h0 : W0 G) (v1 : Int32) (v2 : Int32) (M : Mem) (h_0 : G.2.2.2.1 0 0 0) : Run K G 4 0 0 (FinM K G voI 0 0) 0 [(0, .ref (G.1 0 0 0)), (1, .int v1), (2, .int v2)] [] M (pX7_ahead   v1 v2 M) := by
  rw [pX7_ahead]
  refine r_iload_n (pc := 0) C 1 rfl rfl dX7_ahead_0 ?_
  refine r_iconst (pc := 1) C dX7_ahead_1 kc_1 ?_
  refine r_sipush (pc := 2) C dX7_ahead_2 ks_500 ?_
  refine r_cSV (pc := 5) C hRm (okX7_needInRange h0 v1 (1 : Int32) (500 : Int32) M ) mw_315 cvX7_needInRange rfl ⟨Nat.le_of_ble_eq_true rfl, Nat.le_of_ble_eq_true rfl⟩ rfl (Nat.le_of_ble_eq_true rfl) dX7_ahead_5 (fun o2 M1 => ?_)
  refine r_iload_n (pc := 8) C 2 rfl rfl dX7_ahead_8 ?_
  refine r_iconst (pc := 9) C dX7_ahead_9 kc_0 ?_
  refine r_iconst (pc := 10) C dX7_ahead_10 kc_3 ?_
  refine r_cSV (pc := 11) C hRm (okX7_needInRange h0 v2 (0 : Int32) (3 : Int32) M1 ) mw_315 cvX7_needInRange rfl ⟨Nat.le_of_ble_eq_true rfl, Nat.le_of_ble_eq_true rfl⟩ rfl (Nat.le_of_ble_eq_true rfl) dX7_ahead_11 (fun o4 M3 => ?_)
  refine r_aload_n (pc := 14) C 0 rfl rfl dX7_ahead_14 ?_
  refine r_getR (pc := 15) C FX7_trial mw_258 h_0 rfl dX7_ahead_15 (fun g5 => ?_)
  refine r_aload_n (pc := 18) C 0 rfl rfl dX7_ahead_18 ?_
  refine r_getR (pc := 19) C FX7_live mw_257 h_0 rfl dX7_ahead_19 (fun g6 => ?_)
  refine r_cVV (pc := 22) C hRm (okX3_copyFrom h0 1 0 M3 g5 g6) (Rc.of C rfl rfl g5) mw_489 cvX3_copyFrom rfl ⟨Nat.le_of_ble_eq_true rfl, Nat.le_of_ble_eq_true rfl⟩ rfl (Nat.le_of_ble_eq_true rfl) dX7_ahead_22 (fun o8 M7 => ?_)
  refine r_iconst (pc := 25) C dX7_ahead_25 kc_0 ?_
  refine r_istore_n (pc := 26) C [(3, .int (0 : Int32)), (0, .ref (G.1 0 0 0)), (1, .int v1), (2, .int v2)] dX7_ahead_26 rfl (by decide) rfl ?_
  refine r_sub [1, 2, 3, 0] rfl ?_
  exact lX7_ahead_27   C hRm h0  fu v1 v2 (0 : Int32) M7 h_0
theorem okX7_ahead {l : Launch} {G : WT} (h0 : W0 G) (v1 : Int32) (v2 : Int32) (M : Mem) (h_0 : G.2.2.2.1 0 0 0) : Okm l G yX7_ahead cX7_ahead 4 (some FieldType.int) 6 143 [.ref (G.1 0 0 0), .int v1, .int v2] voI M (pX7_ahead  v1 v2 M) :=
  Okm.of "PermitPark" rfl (by decide) (Nat.le_of_ble_eq_true rfl) (L := [(0, .ref (G.1 0 0 0)), (1, .int v1), (2, .int v2)]) rfl (fun K _ hr C => lX7_ahead_0 C (by rw [hr]; exact ⟨rfl, rfl⟩) h0 v1 v2 M h_0)
def pX7_bestBase_94 (k34 : Int32 → Nat → Int32 → Int32 → Int32 → Mem → Option (Int32 × Mem)) (v1 : Int32) (n3i : Nat) (v4 : Int32) (v5 : Int32) (v6 : Int32) (v7 : Int32) (M : Mem) : Option (Int32 × Mem) :=
    if v5 ≤ v7 then (k34 v1 n3i v4 v5 (v6 + (1 : Int32)) M)
    else k34 v1 n3i v6 v7 (v6 + (1 : Int32)) M
theorem lX7_bestBase_94 {K : KT} {G : WT} {k34 : Int32 → Nat → Int32 → Int32 → Int32 → Mem → Option (Int32 × Mem)} (C : Cx K G "PermitPark" cX7_bestBase 8 (some FieldType.int)) (hRm : K.2.2.2.1.frames = 6 ∧ K.2.2.2.1.locals = 143) (h0 : W0 G)
    (hk34 : ∀ (v1 : Int32) (n3i : Nat) (v4 : Int32) (v5 : Int32) (v6 : Int32) (M : Mem), G.2.2.2.1 0 0 0 → G.2.2.2.1 5 1 n3i → Run K G 8 0 0 (FinM K G voI 0 0) 34 [(0, .ref (G.1 0 0 0)), (1, .int v1), (3, .ref (G.1 5 1 n3i)), (4, .int v4), (5, .int v5), (6, .int v6)] [] M (k34 v1 n3i v4 v5 v6 M)) (v1 : Int32) (n3i : Nat) (v4 : Int32) (v5 : Int32) (v6 : Int32) (v7 : Int32) (M : Mem) (g_0 : G.2.2.2.1 0 0 0) (g_3 : G.2.2.2.1 5 1 n3i) : Run K G 8 0 0 (FinM K G voI 0 0) 94 [(0, .ref (G.1 0 0 0)), (1, .int v1), (3, .ref (G.1 5 1 n3i)), (4, .int v4), (5, .int v5), (6, .int v6), (7, .int v7)] [] M (pX7_bestBase_94  k34 v1 n3i v4 v5 v6 v7 M) := by
  rw [pX7_bestBase_94]
  refine r_iload (pc := 94) C 6 rfl dX7_bestBase_94 ?_
  refine r_iload (pc := 96) C 4 rfl dX7_bestBase_96 ?_
  refine r_icmp_ge (pc := 98) C dX7_bestBase_98 (tgt := 109) rfl ?_ ?_
  refine r_iinc (pc := 109) C [(6, .int (v6 + (1 : Int32))), (0, .ref (G.1 0 0 0)), (1, .int v1), (3, .ref (G.1 5 1 n3i)), (4, .int v4), (5, .int v5), (7, .int v7)] dX7_bestBase_109 (p := 5) rfl (ki_1 _) (by decide) rfl ?_
  refine r_goto (pc := 112) C dX7_bestBase_112 (tgt := 34) rfl ?_
  refine r_sub [1, 2, 3, 4, 5, 0] rfl ?_
  exact hk34 v1 n3i v4 v5 (v6 + (1 : Int32)) M g_0 g_3
  refine r_iload (pc := 101) C 6 rfl dX7_bestBase_101 ?_
  refine r_istore (pc := 103) C [(5, .int v7), (0, .ref (G.1 0 0 0)), (1, .int v1), (3, .ref (G.1 5 1 n3i)), (4, .int v4), (6, .int v6), (7, .int v7)] dX7_bestBase_103 (by decide) rfl ?_
  refine r_iload (pc := 105) C 5 rfl dX7_bestBase_105 ?_
  refine r_istore (pc := 107) C [(4, .int v6), (5, .int v7), (0, .ref (G.1 0 0 0)), (1, .int v1), (3, .ref (G.1 5 1 n3i)), (6, .int v6), (7, .int v7)] dX7_bestBase_107 (by decide) rfl ?_
  refine r_iinc (pc := 109) C [(6, .int (v6 + (1 : Int32))), (4, .int v6), (5, .int v7), (0, .ref (G.1 0 0 0)), (1, .int v1), (3, .ref (G.1 5 1 n3i)), (7, .int v7)] dX7_bestBase_109 (p := 5) rfl (ki_1 _) (by decide) rfl ?_
  refine r_goto (pc := 112) C dX7_bestBase_112 (tgt := 34) rfl ?_
  refine r_sub [3, 4, 5, 1, 2, 0] rfl ?_
  exact hk34 v1 n3i v6 v7 (v6 + (1 : Int32)) M g_0 g_3
def pX7_bestBase_65 (k34 : Int32 → Nat → Int32 → Int32 → Int32 → Mem → Option (Int32 × Mem)) : Nat → Int32 → Nat → Int32 → Int32 → Int32 → Int32 → Mem → Option (Int32 × Mem)
  | 0, _, _, _, _, _, _, _ => none
  | n + 1, v1, n3i, v4, v5, v6, v7, M =>
    if v5 ≤ v7 then (pX7_bestBase_94  k34  v1 n3i v4 v5 v6 v7 M)
    else if (M.1 5 1 n3i 7) = (3 : Int32) then (pX7_bestBase_94  k34  v1 n3i v4 v5 v6 v7 M)
    else bnd (pX3_tick 1 M) fun o3 M2 => pX7_bestBase_65  k34 n v1 n3i v4 v5 v6 (v7 + (1 : Int32)) M2
theorem lX7_bestBase_65 {K : KT} {G : WT} {k34 : Int32 → Nat → Int32 → Int32 → Int32 → Mem → Option (Int32 × Mem)} (C : Cx K G "PermitPark" cX7_bestBase 8 (some FieldType.int)) (hRm : K.2.2.2.1.frames = 6 ∧ K.2.2.2.1.locals = 143) (h0 : W0 G)
    (hk34 : ∀ (v1 : Int32) (n3i : Nat) (v4 : Int32) (v5 : Int32) (v6 : Int32) (M : Mem), G.2.2.2.1 0 0 0 → G.2.2.2.1 5 1 n3i → Run K G 8 0 0 (FinM K G voI 0 0) 34 [(0, .ref (G.1 0 0 0)), (1, .int v1), (3, .ref (G.1 5 1 n3i)), (4, .int v4), (5, .int v5), (6, .int v6)] [] M (k34 v1 n3i v4 v5 v6 M)) : ∀ (n : Nat) (v1 : Int32) (n3i : Nat) (v4 : Int32) (v5 : Int32) (v6 : Int32) (v7 : Int32) (M : Mem), G.2.2.2.1 0 0 0 → G.2.2.2.1 5 1 n3i → Run K G 8 0 0 (FinM K G voI 0 0) 65 [(0, .ref (G.1 0 0 0)), (1, .int v1), (3, .ref (G.1 5 1 n3i)), (4, .int v4), (5, .int v5), (6, .int v6), (7, .int v7)] [] M (pX7_bestBase_65  k34 n v1 n3i v4 v5 v6 v7 M) := by
  intro n
  induction n with
  | zero =>
    intro v1 n3i v4 v5 v6 v7 M g_0 g_3
    exact r_none
  | succ n ih =>
    intro v1 n3i v4 v5 v6 v7 M g_0 g_3
    rw [pX7_bestBase_65]
    refine r_iload (pc := 65) C 6 rfl dX7_bestBase_65 ?_
    refine r_iload (pc := 67) C 4 rfl dX7_bestBase_67 ?_
    refine r_icmp_ge (pc := 69) C dX7_bestBase_69 (tgt := 94) rfl ?_ ?_
    exact lX7_bestBase_94  (k34 := k34) C hRm h0 hk34  v1 n3i v4 v5 v6 v7 M g_0 g_3
    refine r_aload_n (pc := 72) C 2 rfl rfl dX7_bestBase_72 ?_
    refine r_getI (pc := 73) C FX6_state mw_129 g_3 rfl rfl dX7_bestBase_73 ?_
    refine r_iconst (pc := 76) C dX7_bestBase_76 kc_3 ?_
    refine r_icmp_eq (pc := 77) C dX7_bestBase_77 (tgt := 94) rfl ?_ ?_
    exact lX7_bestBase_94  (k34 := k34) C hRm h0 hk34  v1 n3i v4 v5 v6 v7 M g_0 g_3
    refine r_aload_n (pc := 80) C 0 rfl rfl dX7_bestBase_80 ?_
    refine r_getR (pc := 81) C FX7_trial mw_258 g_0 rfl dX7_bestBase_81 (fun g1 => ?_)
    refine r_cVI (pc := 84) C hRm (okX3_tick h0 1 M g1) (Rc.of C rfl rfl g1) mw_511 cvX3_tick rfl ⟨Nat.le_of_ble_eq_true rfl, Nat.le_of_ble_eq_true rfl⟩ rfl (Nat.le_of_ble_eq_true rfl) dX7_bestBase_84 (fun o3 M2 => ?_)
    refine r_pop (pc := 87) C dX7_bestBase_87 rfl ?_
    refine r_iinc (pc := 88) C [(7, .int (v7 + (1 : Int32))), (0, .ref (G.1 0 0 0)), (1, .int v1), (3, .ref (G.1 5 1 n3i)), (4, .int v4), (5, .int v5), (6, .int v6)] dX7_bestBase_88 (p := 6) rfl (ki_1 _) (by decide) rfl ?_
    refine r_goto (pc := 91) C dX7_bestBase_91 (tgt := 65) rfl ?_
    refine r_sub [1, 2, 3, 4, 5, 6, 0] rfl ?_
    exact ih v1 n3i v4 v5 v6 (v7 + (1 : Int32)) M2 g_0 g_3
def pX7_bestBase_34 : Nat → Int32 → Nat → Int32 → Int32 → Int32 → Mem → Option (Int32 × Mem)
  | 0, _, _, _, _, _, _ => none
  | n + 1, v1, n3i, v4, v5, v6, M =>
    if (9 : Int32) < v6 then (some (v4, M))
    else bnd (pX3_copyFrom 1 0 M) fun o4 M3 => bnd (pX3_changeBase 1 v1 v6 M3) fun o7 M6 => pX7_bestBase_65  (fun v1 n3i v4 v5 v6 M => pX7_bestBase_34   n v1 n3i v4 v5 v6 M) fu v1 n3i v4 v5 v6 (0 : Int32) M6
theorem lX7_bestBase_34 {K : KT} {G : WT} (C : Cx K G "PermitPark" cX7_bestBase 8 (some FieldType.int)) (hRm : K.2.2.2.1.frames = 6 ∧ K.2.2.2.1.locals = 143) (h0 : W0 G) : ∀ (n : Nat) (v1 : Int32) (n3i : Nat) (v4 : Int32) (v5 : Int32) (v6 : Int32) (M : Mem), G.2.2.2.1 0 0 0 → G.2.2.2.1 5 1 n3i → Run K G 8 0 0 (FinM K G voI 0 0) 34 [(0, .ref (G.1 0 0 0)), (1, .int v1), (3, .ref (G.1 5 1 n3i)), (4, .int v4), (5, .int v5), (6, .int v6)] [] M (pX7_bestBase_34   n v1 n3i v4 v5 v6 M) := by
  intro n
  induction n with
  | zero =>
    intro v1 n3i v4 v5 v6 M g_0 g_3
    exact r_none
  | succ n ih =>
    intro v1 n3i v4 v5 v6 M g_0 g_3
    rw [pX7_bestBase_34]
    refine r_iload (pc := 34) C 5 rfl dX7_bestBase_34 ?_
    refine r_bipush (pc := 36) C dX7_bestBase_36 kb_9 ?_
    refine r_icmp_gt (pc := 38) C dX7_bestBase_38 (tgt := 115) rfl ?_ ?_
    refine r_iload (pc := 115) C 3 rfl dX7_bestBase_115 ?_
    exact r_iret (pc := 117) C rfl dX7_bestBase_117
    refine r_aload_n (pc := 41) C 0 rfl rfl dX7_bestBase_41 ?_
    refine r_getR (pc := 42) C FX7_trial mw_258 g_0 rfl dX7_bestBase_42 (fun g1 => ?_)
    refine r_aload_n (pc := 45) C 0 rfl rfl dX7_bestBase_45 ?_
    refine r_getR (pc := 46) C FX7_live mw_257 g_0 rfl dX7_bestBase_46 (fun g2 => ?_)
    refine r_cVV (pc := 49) C hRm (okX3_copyFrom h0 1 0 M g1 g2) (Rc.of C rfl rfl g1) mw_489 cvX3_copyFrom rfl ⟨Nat.le_of_ble_eq_true rfl, Nat.le_of_ble_eq_true rfl⟩ rfl (Nat.le_of_ble_eq_true rfl) dX7_bestBase_49 (fun o4 M3 => ?_)
    refine r_aload_n (pc := 52) C 0 rfl rfl dX7_bestBase_52 ?_
    refine r_getR (pc := 53) C FX7_trial mw_258 g_0 rfl dX7_bestBase_53 (fun g5 => ?_)
    refine r_iload_n (pc := 56) C 1 rfl rfl dX7_bestBase_56 ?_
    refine r_iload (pc := 57) C 5 rfl dX7_bestBase_57 ?_
    refine r_cVV (pc := 59) C hRm (okX3_changeBase h0 1 v1 v6 M3 g1) (Rc.of C rfl rfl g1) mw_755 cvX3_changeBase rfl ⟨Nat.le_of_ble_eq_true rfl, Nat.le_of_ble_eq_true rfl⟩ rfl (Nat.le_of_ble_eq_true rfl) dX7_bestBase_59 (fun o7 M6 => ?_)
    refine r_iconst (pc := 62) C dX7_bestBase_62 kc_0 ?_
    refine r_istore (pc := 63) C [(7, .int (0 : Int32)), (0, .ref (G.1 0 0 0)), (1, .int v1), (3, .ref (G.1 5 1 n3i)), (4, .int v4), (5, .int v5), (6, .int v6)] dX7_bestBase_63 (by decide) rfl ?_
    refine r_sub [1, 2, 3, 4, 5, 6, 0] rfl ?_
    exact lX7_bestBase_65  (k34 := (fun v1 n3i v4 v5 v6 M => pX7_bestBase_34   n v1 n3i v4 v5 v6 M)) C hRm h0 ih fu v1 n3i v4 v5 v6 (0 : Int32) M6 g_0 g_3
def pX7_bestBase (v1 : Int32) (v2 : Int32) (M : Mem) : Option (Int32 × Mem) :=
    bnd (pX7_needThread v1 M) fun o2 M1 => bnd (pX7_needInRange v2 (1 : Int32) (200 : Int32) M1) fun o4 M3 => chk (inB v1 10) <| nm (v2 + (1 : Int32)) fun x8 => pX7_bestBase_34   fu v1 (v1.toNatClampNeg) (-1 : Int32) x8 (1 : Int32) M3
theorem lX7_bestBase_0 {K : KT} {G : WT} (C : Cx K G "PermitPark" cX7_bestBase 8 (some FieldType.int)) (hRm : K.2.2.2.1.frames = 6 ∧ K.2.2.2.1.locals = 143) (h0 : W0 G) (v1 : Int32) (v2 : Int32) (M : Mem) (h_0 : G.2.2.2.1 0 0 0) : Run K G 8 0 0 (FinM K G voI 0 0) 0 [(0, .ref (G.1 0 0 0)), (1, .int v1), (2, .int v2)] [] M (pX7_bestBase   v1 v2 M) := by
  rw [pX7_bestBase]
  refine r_aload_n (pc := 0) C 0 rfl rfl dX7_bestBase_0 ?_
  refine r_iload_n (pc := 1) C 1 rfl rfl dX7_bestBase_1 ?_
  refine r_cVV (pc := 2) C hRm (okX7_needThread h0 v1 M h_0) (Rc.of C rfl rfl h_0) mw_430 cvX7_needThread rfl ⟨Nat.le_of_ble_eq_true rfl, Nat.le_of_ble_eq_true rfl⟩ rfl (Nat.le_of_ble_eq_true rfl) dX7_bestBase_2 (fun o2 M1 => ?_)
  refine r_iload_n (pc := 5) C 2 rfl rfl dX7_bestBase_5 ?_
  refine r_iconst (pc := 6) C dX7_bestBase_6 kc_1 ?_
  refine r_sipush (pc := 7) C dX7_bestBase_7 ks_200 ?_
  refine r_cSV (pc := 10) C hRm (okX7_needInRange h0 v2 (1 : Int32) (200 : Int32) M1 ) mw_315 cvX7_needInRange rfl ⟨Nat.le_of_ble_eq_true rfl, Nat.le_of_ble_eq_true rfl⟩ rfl (Nat.le_of_ble_eq_true rfl) dX7_bestBase_10 (fun o4 M3 => ?_)
  refine r_aload_n (pc := 13) C 0 rfl rfl dX7_bestBase_13 ?_
  refine r_getR (pc := 14) C FX7_trial mw_258 h_0 rfl dX7_bestBase_14 (fun g5 => ?_)
  refine r_getR (pc := 17) C FX3_threads mw_200 g5 rfl dX7_bestBase_17 (fun g6 => ?_)
  refine r_iload_n (pc := 20) C 1 rfl rfl dX7_bestBase_20 ?_
  refine r_aald (pc := 21) C (kd := 4) rfl rfl g6 rfl dX7_bestBase_21 (fun g7 => ?_)
  refine r_astore_n (pc := 22) C [(3, .ref (G.1 5 1 (v1.toNatClampNeg))), (0, .ref (G.1 0 0 0)), (1, .int v1), (2, .int v2)] dX7_bestBase_22 rfl (by decide) rfl ?_
  refine r_iconst (pc := 23) C dX7_bestBase_23 kc_m1 ?_
  refine r_istore (pc := 24) C [(4, .int (-1 : Int32)), (3, .ref (G.1 5 1 (v1.toNatClampNeg))), (0, .ref (G.1 0 0 0)), (1, .int v1), (2, .int v2)] dX7_bestBase_24 (by decide) rfl ?_
  refine r_iload_n (pc := 26) C 4 rfl rfl dX7_bestBase_26 ?_
  refine r_iconst (pc := 27) C dX7_bestBase_27 kc_1 ?_
  refine r_iadd (pc := 28) C dX7_bestBase_28 ?_
  refine r_nmi (fun x8 => ?_)
  refine r_istore (pc := 29) C [(5, .int x8), (4, .int (-1 : Int32)), (3, .ref (G.1 5 1 (v1.toNatClampNeg))), (0, .ref (G.1 0 0 0)), (1, .int v1), (2, .int v2)] dX7_bestBase_29 (by decide) rfl ?_
  refine r_iconst (pc := 31) C dX7_bestBase_31 kc_1 ?_
  refine r_istore (pc := 32) C [(6, .int (1 : Int32)), (5, .int x8), (4, .int (-1 : Int32)), (3, .ref (G.1 5 1 (v1.toNatClampNeg))), (0, .ref (G.1 0 0 0)), (1, .int v1), (2, .int v2)] dX7_bestBase_32 (by decide) rfl ?_
  refine r_sub [4, 5, 3, 2, 1, 0] rfl ?_
  exact lX7_bestBase_34   C hRm h0  fu v1 (v1.toNatClampNeg) (-1 : Int32) x8 (1 : Int32) M3 h_0 g7
theorem okX7_bestBase {l : Launch} {G : WT} (h0 : W0 G) (v1 : Int32) (v2 : Int32) (M : Mem) (h_0 : G.2.2.2.1 0 0 0) : Okm l G yX7_bestBase cX7_bestBase 8 (some FieldType.int) 6 143 [.ref (G.1 0 0 0), .int v1, .int v2] voI M (pX7_bestBase  v1 v2 M) :=
  Okm.of "PermitPark" rfl (by decide) (Nat.le_of_ble_eq_true rfl) (L := [(0, .ref (G.1 0 0 0)), (1, .int v1), (2, .int v2)]) rfl (fun K _ hr C => lX7_bestBase_0 C (by rw [hr]; exact ⟨rfl, rfl⟩) h0 v1 v2 M h_0)
def pX7_save (v1 : Int32) (M : Mem) : Option (Unit × Mem) :=
    bnd (pX7_needInRange v1 (0 : Int32) (1 : Int32) M) fun o2 M1 => chk (inB v1 2) <| bnd (pX3_copyFrom (v1.toNatClampNeg + 2) 0 M1) fun o7 M6 => chk (inB v1 2) <| nm (wI M6 18 0 0 v1.toNatClampNeg ((1 : Int32) &&& 1)) fun M9 => some ((), M9)
theorem lX7_save_0 {K : KT} {G : WT} (C : Cx K G "PermitPark" cX7_save 2 none) (hRm : K.2.2.2.1.frames = 3 ∧ K.2.2.2.1.locals = 143) (h0 : W0 G) (v1 : Int32) (M : Mem) (h_0 : G.2.2.2.1 0 0 0) : Run K G 2 0 0 (FinM K G voV 0 0) 0 [(0, .ref (G.1 0 0 0)), (1, .int v1)] [] M (pX7_save   v1 M) := by
  rw [pX7_save]
  refine r_iload_n (pc := 0) C 1 rfl rfl dX7_save_0 ?_
  refine r_iconst (pc := 1) C dX7_save_1 kc_0 ?_
  refine r_iconst (pc := 2) C dX7_save_2 kc_1 ?_
  refine r_cSV (pc := 3) C hRm (okX7_needInRange h0 v1 (0 : Int32) (1 : Int32) M ) mw_315 cvX7_needInRange rfl ⟨Nat.le_of_ble_eq_true rfl, Nat.le_of_ble_eq_true rfl⟩ rfl (Nat.le_of_ble_eq_true rfl) dX7_save_3 (fun o2 M1 => ?_)
  refine r_aload_n (pc := 6) C 0 rfl rfl dX7_save_6 ?_
  refine r_getR (pc := 7) C FX7_saved mw_259 h_0 rfl dX7_save_7 (fun g3 => ?_)
  refine r_iload_n (pc := 10) C 1 rfl rfl dX7_save_10 ?_
  refine r_aald (pc := 11) C (kd := 17) rfl rfl g3 rfl dX7_save_11 (fun g4 => ?_)
  refine r_aload_n (pc := 12) C 0 rfl rfl dX7_save_12 ?_
  refine r_getR (pc := 13) C FX7_live mw_257 h_0 rfl dX7_save_13 (fun g5 => ?_)
  refine r_cVV (pc := 16) C hRm (okX3_copyFrom h0 (v1.toNatClampNeg + 2) 0 M1 g4 g5) (Rc.of C rfl rfl g4) mw_489 cvX3_copyFrom rfl ⟨Nat.le_of_ble_eq_true rfl, Nat.le_of_ble_eq_true rfl⟩ rfl (Nat.le_of_ble_eq_true rfl) dX7_save_16 (fun o7 M6 => ?_)
  refine r_aload_n (pc := 19) C 0 rfl rfl dX7_save_19 ?_
  refine r_getR (pc := 20) C FX7_isSaved mw_260 h_0 rfl dX7_save_20 (fun g8 => ?_)
  refine r_iload_n (pc := 23) C 1 rfl rfl dX7_save_23 ?_
  refine r_iconst (pc := 24) C dX7_save_24 kc_1 ?_
  refine r_zast (pc := 25) C rfl g8 (fun _ => rfl) (fun _ => rfl) dX7_save_25 (fun M9 => ?_)
  exact r_vret (pc := 26) C dX7_save_26
theorem okX7_save {l : Launch} {G : WT} (h0 : W0 G) (v1 : Int32) (M : Mem) (h_0 : G.2.2.2.1 0 0 0) : Okm l G yX7_save cX7_save 2 none 3 143 [.ref (G.1 0 0 0), .int v1] voV M (pX7_save  v1 M) :=
  Okm.of "PermitPark" rfl (by decide) (Nat.le_of_ble_eq_true rfl) (L := [(0, .ref (G.1 0 0 0)), (1, .int v1)]) rfl (fun K _ hr C => lX7_save_0 C (by rw [hr]; exact ⟨rfl, rfl⟩) h0 v1 M h_0)
def pX7_restore (v1 : Int32) (M : Mem) : Option (Unit × Mem) :=
    bnd (pX7_needInRange v1 (0 : Int32) (1 : Int32) M) fun o2 M1 => chk (inB v1 2) <| if ¬ (M1.1 18 0 0 v1.toNatClampNeg) = 0 then (chk (inB v1 2) <| bnd (pX3_copyFrom 0 (v1.toNatClampNeg + 2) M1) fun o8 M7 => some ((), M7))
    else none
theorem lX7_restore_0 {K : KT} {G : WT} (C : Cx K G "PermitPark" cX7_restore 2 none) (hRm : K.2.2.2.1.frames = 3 ∧ K.2.2.2.1.locals = 143) (h0 : W0 G) (v1 : Int32) (M : Mem) (h_0 : G.2.2.2.1 0 0 0) : Run K G 2 0 0 (FinM K G voV 0 0) 0 [(0, .ref (G.1 0 0 0)), (1, .int v1)] [] M (pX7_restore   v1 M) := by
  rw [pX7_restore]
  refine r_iload_n (pc := 0) C 1 rfl rfl dX7_restore_0 ?_
  refine r_iconst (pc := 1) C dX7_restore_1 kc_0 ?_
  refine r_iconst (pc := 2) C dX7_restore_2 kc_1 ?_
  refine r_cSV (pc := 3) C hRm (okX7_needInRange h0 v1 (0 : Int32) (1 : Int32) M ) mw_315 cvX7_needInRange rfl ⟨Nat.le_of_ble_eq_true rfl, Nat.le_of_ble_eq_true rfl⟩ rfl (Nat.le_of_ble_eq_true rfl) dX7_restore_3 (fun o2 M1 => ?_)
  refine r_aload_n (pc := 6) C 0 rfl rfl dX7_restore_6 ?_
  refine r_getR (pc := 7) C FX7_isSaved mw_260 h_0 rfl dX7_restore_7 (fun g3 => ?_)
  refine r_iload_n (pc := 10) C 1 rfl rfl dX7_restore_10 ?_
  refine r_zald (pc := 11) C rfl g3 (fun _ => rfl) (fun _ => rfl) dX7_restore_11 ?_
  refine r_if_ne (pc := 12) C dX7_restore_12 (tgt := 25) rfl ?_ ?_
  refine r_aload_n (pc := 25) C 0 rfl rfl dX7_restore_25 ?_
  refine r_getR (pc := 26) C FX7_live mw_257 h_0 rfl dX7_restore_26 (fun g4 => ?_)
  refine r_aload_n (pc := 29) C 0 rfl rfl dX7_restore_29 ?_
  refine r_getR (pc := 30) C FX7_saved mw_259 h_0 rfl dX7_restore_30 (fun g5 => ?_)
  refine r_iload_n (pc := 33) C 1 rfl rfl dX7_restore_33 ?_
  refine r_aald (pc := 34) C (kd := 17) rfl rfl g5 rfl dX7_restore_34 (fun g6 => ?_)
  refine r_cVV (pc := 35) C hRm (okX3_copyFrom h0 0 (v1.toNatClampNeg + 2) M1 g4 g6) (Rc.of C rfl rfl g4) mw_489 cvX3_copyFrom rfl ⟨Nat.le_of_ble_eq_true rfl, Nat.le_of_ble_eq_true rfl⟩ rfl (Nat.le_of_ble_eq_true rfl) dX7_restore_35 (fun o8 M7 => ?_)
  exact r_vret (pc := 38) C dX7_restore_38
  exact r_none
theorem okX7_restore {l : Launch} {G : WT} (h0 : W0 G) (v1 : Int32) (M : Mem) (h_0 : G.2.2.2.1 0 0 0) : Okm l G yX7_restore cX7_restore 2 none 3 143 [.ref (G.1 0 0 0), .int v1] voV M (pX7_restore  v1 M) :=
  Okm.of "PermitPark" rfl (by decide) (Nat.le_of_ble_eq_true rfl) (L := [(0, .ref (G.1 0 0 0)), (1, .int v1)]) rfl (fun K _ hr C => lX7_restore_0 C (by rw [hr]; exact ⟨rfl, rfl⟩) h0 v1 M h_0)
end
