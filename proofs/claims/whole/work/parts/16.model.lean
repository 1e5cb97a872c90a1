/-! ===== pictures: the model, first ===== -/
section
set_option maxRecDepth 4000
def pX8_thrown (M : Mem) : Option (Int32 × Mem) :=
    some ((M.1 19 0 0 7), M)
theorem lX8_thrown_0 {K : KT} {G : WT} (C : Cx K G "PermitParkModel" cX8_thrown 1 (some FieldType.int)) (hRm : K.2.2.2.1.frames = 0 ∧ K.2.2.2.1.locals = 0) (h0 : W0 G) (M : Mem) (h_0 : G.2.2.2.1 19 0 0) : Run K G 1 0 0 (FinM K G voI 0 0) 0 [(0, .ref (G.1 19 0 0))] [] M (pX8_thrown    M) := by
  rw [pX8_thrown]
  refine r_aload_n (pc := 0) C 0 rfl rfl dX8_thrown_0 ?_
  refine r_getI (pc := 1) C FX8_thrown mw_1019 h_0 rfl rfl dX8_thrown_1 ?_
  exact r_iret (pc := 4) C rfl dX8_thrown_4
theorem okX8_thrown {l : Launch} {G : WT} (h0 : W0 G) (M : Mem) (h_0 : G.2.2.2.1 19 0 0) : Okm l G yX8_thrown cX8_thrown 1 (some FieldType.int) 0 0 [.ref (G.1 19 0 0)] voI M (pX8_thrown   M) :=
  Okm.of "PermitParkModel" rfl (by decide) (Nat.le_of_ble_eq_true rfl) (L := [(0, .ref (G.1 19 0 0))]) rfl (fun K _ hr C => lX8_thrown_0 C (by rw [hr]; exact ⟨rfl, rfl⟩) h0  M h_0)
def pX8_fail (v1 : Int32) (M : Mem) : Option (Int32 × Mem) :=
    nm (wI M 19 0 0 7 v1) fun M1 => some ((0 : Int32), M1)
theorem lX8_fail_0 {K : KT} {G : WT} (C : Cx K G "PermitParkModel" cX8_fail 2 (some FieldType.int)) (hRm : K.2.2.2.1.frames = 0 ∧ K.2.2.2.1.locals = 0) (h0 : W0 G) (v1 : Int32) (M : Mem) (h_0 : G.2.2.2.1 19 0 0) : Run K G 2 0 0 (FinM K G voI 0 0) 0 [(0, .ref (G.1 19 0 0)), (1, .int v1)] [] M (pX8_fail   v1 M) := by
  rw [pX8_fail]
  refine r_aload_n (pc := 0) C 0 rfl rfl dX8_fail_0 ?_
  refine r_iload_n (pc := 1) C 1 rfl rfl dX8_fail_1 ?_
  refine r_putI (pc := 2) C FX8_thrown mw_1019 h_0 tyX8 tyX8_ok nmX8 (fun _ _ => rfl) rfl dX8_fail_2 (fun M1 => ?_)
  refine r_iconst (pc := 5) C dX8_fail_5 kc_0 ?_
  exact r_iret (pc := 6) C rfl dX8_fail_6
theorem okX8_fail {l : Launch} {G : WT} (h0 : W0 G) (v1 : Int32) (M : Mem) (h_0 : G.2.2.2.1 19 0 0) : Okm l G yX8_fail cX8_fail 2 (some FieldType.int) 0 0 [.ref (G.1 19 0 0), .int v1] voI M (pX8_fail  v1 M) :=
  Okm.of "PermitParkModel" rfl (by decide) (Nat.le_of_ble_eq_true rfl) (L := [(0, .ref (G.1 19 0 0)), (1, .int v1)]) rfl (fun K _ hr C => lX8_fail_0 C (by rw [hr]; exact ⟨rfl, rfl⟩) h0 v1 M h_0)
def pX8_isBetween (v0 : Int32) (v1 : Int32) (v2 : Int32) (M : Mem) : Option (Int32 × Mem) :=
    if v0 < v1 then (chk (decide ((0 : Int32) = 0 ∨ (0 : Int32) = 1)) (some ((0 : Int32), M)))
    else if v2 < v0 then (chk (decide ((0 : Int32) = 0 ∨ (0 : Int32) = 1)) (some ((0 : Int32), M)))
    else chk (decide ((1 : Int32) = 0 ∨ (1 : Int32) = 1)) (some ((1 : Int32), M))
theorem lX8_isBetween_0 {K : KT} {G : WT} (C : Cx K G "PermitParkModel" cX8_isBetween 3 (some FieldType.boolean)) (hRm : K.2.2.2.1.frames = 0 ∧ K.2.2.2.1.locals = 0) (h0 : W0 G) (v0 : Int32) (v1 : Int32) (v2 : Int32) (M : Mem) : Run K G 3 0 0 (FinM K G voI 0 0) 0 [(0, .int v0), (1, .int v1), (2, .int v2)] [] M (pX8_isBetween   v0 v1 v2 M) := by
  rw [pX8_isBetween]
  refine r_iload_n (pc := 0) C 0 rfl rfl dX8_isBetween_0 ?_
  refine r_iload_n (pc := 1) C 1 rfl rfl dX8_isBetween_1 ?_
  refine r_icmp_lt (pc := 2) C dX8_isBetween_2 (tgt := 14) rfl ?_ ?_
  refine r_iconst (pc := 14) C dX8_isBetween_14 kc_0 ?_
  exact r_zret (pc := 15) C dX8_isBetween_15
  refine r_iload_n (pc := 5) C 0 rfl rfl dX8_isBetween_5 ?_
  refine r_iload_n (pc := 6) C 2 rfl rfl dX8_isBetween_6 ?_
  refine r_icmp_gt (pc := 7) C dX8_isBetween_7 (tgt := 14) rfl ?_ ?_
  refine r_iconst (pc := 14) C dX8_isBetween_14 kc_0 ?_
  exact r_zret (pc := 15) C dX8_isBetween_15
  refine r_iconst (pc := 10) C dX8_isBetween_10 kc_1 ?_
  refine r_goto (pc := 11) C dX8_isBetween_11 (tgt := 15) rfl ?_
  exact r_zret (pc := 15) C dX8_isBetween_15
theorem okX8_isBetween {l : Launch} {G : WT} (h0 : W0 G) (v0 : Int32) (v1 : Int32) (v2 : Int32) (M : Mem) : Okm l G yX8_isBetween cX8_isBetween 3 (some FieldType.boolean) 0 0 [.int v0, .int v1, .int v2] voI M (pX8_isBetween  v0 v1 v2 M) :=
  Okm.of "PermitParkModel" rfl (by decide) (Nat.le_of_ble_eq_true rfl) (L := [(0, .int v0), (1, .int v1), (2, .int v2)]) rfl (fun K _ hr C => lX8_isBetween_0 C (by rw [hr]; exact ⟨rfl, rfl⟩) h0 v0 v1 v2 M )
def pX8_clear_24 : Nat → Int32 → Mem → Option (Unit × Mem)
  | 0, _, _ => none
  | n + 1, v1, M =>
    if (6 : Int32) ≤ v1 then (chk (inB (1 : Int32) 700) <| nm (wI M 20 0 0 (1 : Int32).toNatClampNeg (1 : Int32)) fun M2 => chk (inB (4 : Int32) 700) <| nm (wI M2 20 0 0 (4 : Int32).toNatClampNeg (1 : Int32)) fun M4 => some ((), M4))
    else chk (inB ((14 : Int32) + v1) 700) <| nm (wI M 20 0 0 ((14 : Int32) + v1).toNatClampNeg (-1 : Int32)) fun M6 => pX8_clear_24   n (v1 + (1 : Int32)) M6
theorem lX8_clear_24 {K : KT} {G : WT} (C : Cx K G "PermitParkModel" cX8_clear 2 none) (hRm : K.2.2.2.1.frames = 0 ∧ K.2.2.2.1.locals = 0) (h0 : W0 G) : ∀ (n : Nat) (v1 : Int32) (M : Mem), G.2.2.2.1 19 0 0 → Run K G 2 0 0 (FinM K G voV 0 0) 24 [(0, .ref (G.1 19 0 0)), (1, .int v1)] [] M (pX8_clear_24   n v1 M) := by
  intro n
  induction n with
  | zero =>
    intro v1 M g_0
    exact r_none
  | succ n ih =>
    intro v1 M g_0
    rw [pX8_clear_24]
    refine r_iload_n (pc := 24) C 1 rfl rfl dX8_clear_24 ?_
    refine r_bipush (pc := 25) C dX8_clear_25 kb_6 ?_
    refine r_icmp_ge (pc := 27) C dX8_clear_27 (tgt := 46) rfl ?_ ?_
    refine r_aload_n (pc := 46) C 0 rfl rfl dX8_clear_46 ?_
    refine r_getR (pc := 47) C FX8_state mw_1012 g_0 rfl dX8_clear_47 (fun g1 => ?_)
    refine r_iconst (pc := 50) C dX8_clear_50 kc_1 ?_
    refine r_iconst (pc := 51) C dX8_clear_51 kc_1 ?_
    refine r_iast (pc := 52) C rfl g1 (fun _ => rfl) (fun _ => rfl) dX8_clear_52 (fun M2 => ?_)
    refine r_aload_n (pc := 53) C 0 rfl rfl dX8_clear_53 ?_
    refine r_getR (pc := 54) C FX8_state mw_1012 g_0 rfl dX8_clear_54 (fun g3 => ?_)
    refine r_iconst (pc := 57) C dX8_clear_57 kc_4 ?_
    refine r_iconst (pc := 58) C dX8_clear_58 kc_1 ?_
    refine r_iast (pc := 59) C rfl g1 (fun _ => rfl) (fun _ => rfl) dX8_clear_59 (fun M4 => ?_)
    exact r_vret (pc := 60) C dX8_clear_60
    refine r_aload_n (pc := 30) C 0 rfl rfl dX8_clear_30 ?_
    refine r_getR (pc := 31) C FX8_state mw_1012 g_0 rfl dX8_clear_31 (fun g5 => ?_)
    refine r_bipush (pc := 34) C dX8_clear_34 kb_14 ?_
    refine r_iload_n (pc := 36) C 1 rfl rfl dX8_clear_36 ?_
    refine r_iadd (pc := 37) C dX8_clear_37 ?_
    refine r_iconst (pc := 38) C dX8_clear_38 kc_m1 ?_
    refine r_iast (pc := 39) C rfl g5 (fun _ => rfl) (fun _ => rfl) dX8_clear_39 (fun M6 => ?_)
    refine r_iinc (pc := 40) C [(1, .int (v1 + (1 : Int32))), (0, .ref (G.1 19 0 0))] dX8_clear_40 (p := 1) rfl (ki_1 _) (by decide) rfl ?_
    refine r_goto (pc := 43) C dX8_clear_43 (tgt := 24) rfl ?_
    refine r_sub [1, 0] rfl ?_
    exact ih (v1 + (1 : Int32)) M6 g_0
def pX8_clear_2 : Nat → Int32 → Mem → Option (Unit × Mem)
  | 0, _, _ => none
  | n + 1, v1, M =>
    if (700 : Int32) ≤ v1 then (pX8_clear_24   fu (0 : Int32) M)
    else chk (inB v1 700) <| nm (wI M 20 0 0 v1.toNatClampNeg (0 : Int32)) fun M2 => pX8_clear_2   n (v1 + (1 : Int32)) M2
theorem lX8_clear_2 {K : KT} {G : WT} (C : Cx K G "PermitParkModel" cX8_clear 2 none) (hRm : K.2.2.2.1.frames = 0 ∧ K.2.2.2.1.locals = 0) (h0 : W0 G) : ∀ (n : Nat) (v1 : Int32) (M : Mem), G.2.2.2.1 19 0 0 → Run K G 2 0 0 (FinM K G voV 0 0) 2 [(0, .ref (G.1 19 0 0)), (1, .int v1)] [] M (pX8_clear_2   n v1 M) := by
  intro n
  induction n with
  | zero =>
    intro v1 M g_0
    exact r_none
  | succ n ih =>
    intro v1 M g_0
    rw [pX8_clear_2]
    refine r_iload_n (pc := 2) C 1 rfl rfl dX8_clear_2 ?_
    refine r_sipush (pc := 3) C dX8_clear_3 ks_700 ?_
    refine r_icmp_ge (pc := 6) C dX8_clear_6 (tgt := 22) rfl ?_ ?_
    refine r_iconst (pc := 22) C dX8_clear_22 kc_0 ?_
    refine r_istore_n (pc := 23) C [(1, .int (0 : Int32)), (0, .ref (G.1 19 0 0))] dX8_clear_23 rfl (by decide) rfl ?_
    refine r_sub [1, 0] rfl ?_
    exact lX8_clear_24   C hRm h0  fu (0 : Int32) M g_0
    refine r_aload_n (pc := 9) C 0 rfl rfl dX8_clear_9 ?_
    refine r_getR (pc := 10) C FX8_state mw_1012 g_0 rfl dX8_clear_10 (fun g1 => ?_)
    refine r_iload_n (pc := 13) C 1 rfl rfl dX8_clear_13 ?_
    refine r_iconst (pc := 14) C dX8_clear_14 kc_0 ?_
    refine r_iast (pc := 15) C rfl g1 (fun _ => rfl) (fun _ => rfl) dX8_clear_15 (fun M2 => ?_)
    refine r_iinc (pc := 16) C [(1, .int (v1 + (1 : Int32))), (0, .ref (G.1 19 0 0))] dX8_clear_16 (p := 1) rfl (ki_1 _) (by decide) rfl ?_
    refine r_goto (pc := 19) C dX8_clear_19 (tgt := 2) rfl ?_
    refine r_sub [1, 0] rfl ?_
    exact ih (v1 + (1 : Int32)) M2 g_0
def pX8_clear (M : Mem) : Option (Unit × Mem) :=
    pX8_clear_2   fu (0 : Int32) M
theorem lX8_clear_0 {K : KT} {G : WT} (C : Cx K G "PermitParkModel" cX8_clear 2 none) (hRm : K.2.2.2.1.frames = 0 ∧ K.2.2.2.1.locals = 0) (h0 : W0 G) (M : Mem) (h_0 : G.2.2.2.1 19 0 0) : Run K G 2 0 0 (FinM K G voV 0 0) 0 [(0, .ref (G.1 19 0 0))] [] M (pX8_clear    M) := by
  rw [pX8_clear]
  refine r_iconst (pc := 0) C dX8_clear_0 kc_0 ?_
  refine r_istore_n (pc := 1) C [(1, .int (0 : Int32)), (0, .ref (G.1 19 0 0))] dX8_clear_1 rfl (by decide) rfl ?_
  refine r_sub [1, 0] rfl ?_
  exact lX8_clear_2   C hRm h0  fu (0 : Int32) M h_0
theorem okX8_clear {l : Launch} {G : WT} (h0 : W0 G) (M : Mem) (h_0 : G.2.2.2.1 19 0 0) : Okm l G yX8_clear cX8_clear 2 none 0 0 [.ref (G.1 19 0 0)] voV M (pX8_clear   M) :=
  Okm.of "PermitParkModel" rfl (by decide) (Nat.le_of_ble_eq_true rfl) (L := [(0, .ref (G.1 19 0 0))]) rfl (fun K _ hr C => lX8_clear_0 C (by rw [hr]; exact ⟨rfl, rfl⟩) h0  M h_0)
def pX8_isThread (v1 : Int32) (M : Mem) : Option (Int32 × Mem) :=
    chk (inB (2 : Int32) 700) <| bnd (pX8_isBetween v1 (0 : Int32) ((M.1 20 0 0 (2 : Int32).toNatClampNeg) - (1 : Int32)) M) fun o3 M2 => chk (decide (o3 = 0 ∨ o3 = 1)) (some (o3, M2))
theorem lX8_isThread_0 {K : KT} {G : WT} (C : Cx K G "PermitParkModel" cX8_isThread 2 (some FieldType.boolean)) (hRm : K.2.2.2.1.frames = 1 ∧ K.2.2.2.1.locals = 22) (h0 : W0 G) (v1 : Int32) (M : Mem) (h_0 : G.2.2.2.1 19 0 0) : Run K G 2 0 0 (FinM K G voI 0 0) 0 [(0, .ref (G.1 19 0 0)), (1, .int v1)] [] M (pX8_isThread   v1 M) := by
  rw [pX8_isThread]
  refine r_iload_n (pc := 0) C 1 rfl rfl dX8_isThread_0 ?_
  refine r_iconst (pc := 1) C dX8_isThread_1 kc_0 ?_
  refine r_aload_n (pc := 2) C 0 rfl rfl dX8_isThread_2 ?_
  refine r_getR (pc := 3) C FX8_state mw_1012 h_0 rfl dX8_isThread_3 (fun g1 => ?_)
  refine r_iconst (pc := 6) C dX8_isThread_6 kc_2 ?_
  refine r_iald (pc := 7) C rfl g1 (fun _ => rfl) (fun _ => rfl) dX8_isThread_7 ?_
  refine r_iconst (pc := 8) C dX8_isThread_8 kc_1 ?_
  refine r_isub (pc := 9) C dX8_isThread_9 ?_
  refine r_cSI (pc := 10) C hRm (okX8_isBetween h0 v1 (0 : Int32) ((M.1 20 0 0 (2 : Int32).toNatClampNeg) - (1 : Int32)) M ) mw_1092 cvX8_isBetween rfl ⟨Nat.le_of_ble_eq_true rfl, Nat.le_of_ble_eq_true rfl⟩ rfl (Nat.le_of_ble_eq_true rfl) dX8_isThread_10 (fun o3 M2 => ?_)
  exact r_zret (pc := 13) C dX8_isThread_13
theorem okX8_isThread {l : Launch} {G : WT} (h0 : W0 G) (v1 : Int32) (M : Mem) (h_0 : G.2.2.2.1 19 0 0) : Okm l G yX8_isThread cX8_isThread 2 (some FieldType.boolean) 1 22 [.ref (G.1 19 0 0), .int v1] voI M (pX8_isThread  v1 M) :=
  Okm.of "PermitParkModel" rfl (by decide) (Nat.le_of_ble_eq_true rfl) (L := [(0, .ref (G.1 19 0 0)), (1, .int v1)]) rfl (fun K _ hr C => lX8_isThread_0 C (by rw [hr]; exact ⟨rfl, rfl⟩) h0 v1 M h_0)
def pX8_of (v1 : Int32) (v2 : Int32) (M : Mem) : Option (Int32 × Mem) :=
    chk (inB (((20 : Int32) + ((20 : Int32) * v1)) + v2) 700) <| some ((M.1 20 0 0 (((20 : Int32) + ((20 : Int32) * v1)) + v2).toNatClampNeg), M)
theorem lX8_of_0 {K : KT} {G : WT} (C : Cx K G "PermitParkModel" cX8_of 3 (some FieldType.int)) (hRm : K.2.2.2.1.frames = 0 ∧ K.2.2.2.1.locals = 0) (h0 : W0 G) (v1 : Int32) (v2 : Int32) (M : Mem) (h_0 : G.2.2.2.1 19 0 0) : Run K G 3 0 0 (FinM K G voI 0 0) 0 [(0, .ref (G.1 19 0 0)), (1, .int v1), (2, .int v2)] [] M (pX8_of   v1 v2 M) := by
  rw [pX8_of]
  refine r_aload_n (pc := 0) C 0 rfl rfl dX8_of_0 ?_
  refine r_getR (pc := 1) C FX8_state mw_1012 h_0 rfl dX8_of_1 (fun g1 => ?_)
  refine r_bipush (pc := 4) C dX8_of_4 kb_20 ?_
  refine r_bipush (pc := 6) C dX8_of_6 kb_20 ?_
  refine r_iload_n (pc := 8) C 1 rfl rfl dX8_of_8 ?_
  refine r_imul (pc := 9) C dX8_of_9 ?_
  refine r_iadd (pc := 10) C dX8_of_10 ?_
  refine r_iload_n (pc := 11) C 2 rfl rfl dX8_of_11 ?_
  refine r_iadd (pc := 12) C dX8_of_12 ?_
  refine r_iald (pc := 13) C rfl g1 (fun _ => rfl) (fun _ => rfl) dX8_of_13 ?_
  exact r_iret (pc := 14) C rfl dX8_of_14
theorem okX8_of {l : Launch} {G : WT} (h0 : W0 G) (v1 : Int32) (v2 : Int32) (M : Mem) (h_0 : G.2.2.2.1 19 0 0) : Okm l G yX8_of cX8_of 3 (some FieldType.int) 0 0 [.ref (G.1 19 0 0), .int v1, .int v2] voI M (pX8_of  v1 v2 M) :=
  Okm.of "PermitParkModel" rfl (by decide) (Nat.le_of_ble_eq_true rfl) (L := [(0, .ref (G.1 19 0 0)), (1, .int v1), (2, .int v2)]) rfl (fun K _ hr C => lX8_of_0 C (by rw [hr]; exact ⟨rfl, rfl⟩) h0 v1 v2 M h_0)
def pX8_put (v1 : Int32) (v2 : Int32) (v3 : Int32) (M : Mem) : Option (Unit × Mem) :=
    chk (inB (((20 : Int32) + ((20 : Int32) * v1)) + v2) 700) <| nm (wI M 20 0 0 (((20 : Int32) + ((20 : Int32) * v1)) + v2).toNatClampNeg v3) fun M2 => some ((), M2)
theorem lX8_put_0 {K : KT} {G : WT} (C : Cx K G "PermitParkModel" cX8_put 4 none) (hRm : K.2.2.2.1.frames = 0 ∧ K.2.2.2.1.locals = 0) (h0 : W0 G) (v1 : Int32) (v2 : Int32) (v3 : Int32) (M : Mem) (h_0 : G.2.2.2.1 19 0 0) : Run K G 4 0 0 (FinM K G voV 0 0) 0 [(0, .ref (G.1 19 0 0)), (1, .int v1), (2, .int v2), (3, .int v3)] [] M (pX8_put   v1 v2 v3 M) := by
  rw [pX8_put]
  refine r_aload_n (pc := 0) C 0 rfl rfl dX8_put_0 ?_
  refine r_getR (pc := 1) C FX8_state mw_1012 h_0 rfl dX8_put_1 (fun g1 => ?_)
  refine r_bipush (pc := 4) C dX8_put_4 kb_20 ?_
  refine r_bipush (pc := 6) C dX8_put_6 kb_20 ?_
  refine r_iload_n (pc := 8) C 1 rfl rfl dX8_put_8 ?_
  refine r_imul (pc := 9) C dX8_put_9 ?_
  refine r_iadd (pc := 10) C dX8_put_10 ?_
  refine r_iload_n (pc := 11) C 2 rfl rfl dX8_put_11 ?_
  refine r_iadd (pc := 12) C dX8_put_12 ?_
  refine r_iload_n (pc := 13) C 3 rfl rfl dX8_put_13 ?_
  refine r_iast (pc := 14) C rfl g1 (fun _ => rfl) (fun _ => rfl) dX8_put_14 (fun M2 => ?_)
  exact r_vret (pc := 15) C dX8_put_15
theorem okX8_put {l : Launch} {G : WT} (h0 : W0 G) (v1 : Int32) (v2 : Int32) (v3 : Int32) (M : Mem) (h_0 : G.2.2.2.1 19 0 0) : Okm l G yX8_put cX8_put 4 none 0 0 [.ref (G.1 19 0 0), .int v1, .int v2, .int v3] voV M (pX8_put  v1 v2 v3 M) :=
  Okm.of "PermitParkModel" rfl (by decide) (Nat.le_of_ble_eq_true rfl) (L := [(0, .ref (G.1 19 0 0)), (1, .int v1), (2, .int v2), (3, .int v3)]) rfl (fun K _ hr C => lX8_put_0 C (by rw [hr]; exact ⟨rfl, rfl⟩) h0 v1 v2 v3 M h_0)
def pX8_grow (v1 : Int32) (v2 : Int32) (M : Mem) : Option (Unit × Mem) :=
    nm (((20 : Int32) + ((20 : Int32) * v1)) + v2) fun x2 => chk (inB x2 700) <| chk (inB x2 700) <| nm (wI M 20 0 0 x2.toNatClampNeg ((M.1 20 0 0 x2.toNatClampNeg) + (1 : Int32))) fun M3 => some ((), M3)
theorem lX8_grow_0 {K : KT} {G : WT} (C : Cx K G "PermitParkModel" cX8_grow 3 none) (hRm : K.2.2.2.1.frames = 0 ∧ K.2.2.2.1.locals = 0) (h0 : W0 G) (v1 : Int32) (v2 : Int32) (M : Mem) (h_0 : G.2.2.2.1 19 0 0) : Run K G 3 0 0 (FinM K G voV 0 0) 0 [(0, .ref (G.1 19 0 0)), (1, .int v1), (2, .int v2)] [] M (pX8_grow   v1 v2 M) := by
  rw [pX8_grow]
  refine r_aload_n (pc := 0) C 0 rfl rfl dX8_grow_0 ?_
  refine r_getR (pc := 1) C FX8_state mw_1012 h_0 rfl dX8_grow_1 (fun g1 => ?_)
  refine r_bipush (pc := 4) C dX8_grow_4 kb_20 ?_
  refine r_bipush (pc := 6) C dX8_grow_6 kb_20 ?_
  refine r_iload_n (pc := 8) C 1 rfl rfl dX8_grow_8 ?_
  refine r_imul (pc := 9) C dX8_grow_9 ?_
  refine r_iadd (pc := 10) C dX8_grow_10 ?_
  refine r_iload_n (pc := 11) C 2 rfl rfl dX8_grow_11 ?_
  refine r_iadd (pc := 12) C dX8_grow_12 ?_
  refine r_nmi (fun x2 => ?_)
  refine r_dup2_11 (pc := 13) C dX8_grow_13 rfl rfl ?_
  refine r_iald (pc := 14) C rfl g1 (fun _ => rfl) (fun _ => rfl) dX8_grow_14 ?_
  refine r_iconst (pc := 15) C dX8_grow_15 kc_1 ?_
  refine r_iadd (pc := 16) C dX8_grow_16 ?_
  refine r_iast (pc := 17) C rfl g1 (fun _ => rfl) (fun _ => rfl) dX8_grow_17 (fun M3 => ?_)
  exact r_vret (pc := 18) C dX8_grow_18
theorem okX8_grow {l : Launch} {G : WT} (h0 : W0 G) (v1 : Int32) (v2 : Int32) (M : Mem) (h_0 : G.2.2.2.1 19 0 0) : Okm l G yX8_grow cX8_grow 3 none 0 0 [.ref (G.1 19 0 0), .int v1, .int v2] voV M (pX8_grow  v1 v2 M) :=
  Okm.of "PermitParkModel" rfl (by decide) (Nat.le_of_ble_eq_true rfl) (L := [(0, .ref (G.1 19 0 0)), (1, .int v1), (2, .int v2)]) rfl (fun K _ hr C => lX8_grow_0 C (by rw [hr]; exact ⟨rfl, rfl⟩) h0 v1 v2 M h_0)
def pX8_codePlace (v0 : Int32) (v1 : Int32) (M : Mem) : Option (Int32 × Mem) :=
    some (((220 : Int32) + ((2 : Int32) * (((16 : Int32) * v0) + v1))), M)
theorem lX8_codePlace_0 {K : KT} {G : WT} (C : Cx K G "PermitParkModel" cX8_codePlace 2 (some FieldType.int)) (hRm : K.2.2.2.1.frames = 0 ∧ K.2.2.2.1.locals = 0) (h0 : W0 G) (v0 : Int32) (v1 : Int32) (M : Mem) : Run K G 2 0 0 (FinM K G voI 0 0) 0 [(0, .int v0), (1, .int v1)] [] M (pX8_codePlace   v0 v1 M) := by
  rw [pX8_codePlace]
  refine r_sipush (pc := 0) C dX8_codePlace_0 ks_220 ?_
  refine r_iconst (pc := 3) C dX8_codePlace_3 kc_2 ?_
  refine r_bipush (pc := 4) C dX8_codePlace_4 kb_16 ?_
  refine r_iload_n (pc := 6) C 0 rfl rfl dX8_codePlace_6 ?_
  refine r_imul (pc := 7) C dX8_codePlace_7 ?_
  refine r_iload_n (pc := 8) C 1 rfl rfl dX8_codePlace_8 ?_
  refine r_iadd (pc := 9) C dX8_codePlace_9 ?_
  refine r_imul (pc := 10) C dX8_codePlace_10 ?_
  refine r_iadd (pc := 11) C dX8_codePlace_11 ?_
  exact r_iret (pc := 12) C rfl dX8_codePlace_12
theorem okX8_codePlace {l : Launch} {G : WT} (h0 : W0 G) (v0 : Int32) (v1 : Int32) (M : Mem) : Okm l G yX8_codePlace cX8_codePlace 2 (some FieldType.int) 0 0 [.int v0, .int v1] voI M (pX8_codePlace  v0 v1 M) :=
  Okm.of "PermitParkModel" rfl (by decide) (Nat.le_of_ble_eq_true rfl) (L := [(0, .int v0), (1, .int v1)]) rfl (fun K _ hr C => lX8_codePlace_0 C (by rw [hr]; exact ⟨rfl, rfl⟩) h0 v0 v1 M )
def pX8_isInstruction (v1 : Int32) (v2 : Int32) (M : Mem) : Option (Int32 × Mem) :=
    bnd (pX8_isBetween v1 (0 : Int32) (10 : Int32) M) fun o2 M1 => if o2 = 0 then (chk (decide ((0 : Int32) = 0 ∨ (0 : Int32) = 1)) (some ((0 : Int32), M1)))
    else chk (inB v1 11) <| chk (inB v1 11) <| bnd (pX8_isBetween v2 (M1.1 25 0 0 v1.toNatClampNeg) (M1.1 26 0 0 v1.toNatClampNeg) M1) fun o6 M5 => if o6 = 0 then (chk (decide ((0 : Int32) = 0 ∨ (0 : Int32) = 1)) (some ((0 : Int32), M5)))
    else chk (decide ((1 : Int32) = 0 ∨ (1 : Int32) = 1)) (some ((1 : Int32), M5))
theorem lX8_isInstruction_0 {K : KT} {G : WT} (C : Cx K G "PermitParkModel" cX8_isInstruction 3 (some FieldType.boolean)) (hRm : K.2.2.2.1.frames = 1 ∧ K.2.2.2.1.locals = 22) (h0 : W0 G) (v1 : Int32) (v2 : Int32) (M : Mem) (h_0 : G.2.2.2.1 19 0 0) : Run K G 3 0 0 (FinM K G voI 0 0) 0 [(0, .ref (G.1 19 0 0)), (1, .int v1), (2, .int v2)] [] M (pX8_isInstruction   v1 v2 M) := by
  rw [pX8_isInstruction]
  refine r_iload_n (pc := 0) C 1 rfl rfl dX8_isInstruction_0 ?_
  refine r_iconst (pc := 1) C dX8_isInstruction_1 kc_0 ?_
  refine r_bipush (pc := 2) C dX8_isInstruction_2 kb_10 ?_
  refine r_cSI (pc := 4) C hRm (okX8_isBetween h0 v1 (0 : Int32) (10 : Int32) M ) mw_1092 cvX8_isBetween rfl ⟨Nat.le_of_ble_eq_true rfl, Nat.le_of_ble_eq_true rfl⟩ rfl (Nat.le_of_ble_eq_true rfl) dX8_isInstruction_4 (fun o2 M1 => ?_)
  refine r_if_eq (pc := 7) C dX8_isInstruction_7 (tgt := 33) rfl ?_ ?_
  refine r_iconst (pc := 33) C dX8_isInstruction_33 kc_0 ?_
  exact r_zret (pc := 34) C dX8_isInstruction_34
  refine r_iload_n (pc := 10) C 2 rfl rfl dX8_isInstruction_10 ?_
  refine r_aload_n (pc := 11) C 0 rfl rfl dX8_isInstruction_11 ?_
  refine r_getR (pc := 12) C FX8_leastNumbers mw_1017 h_0 rfl dX8_isInstruction_12 (fun g3 => ?_)
  refine r_iload_n (pc := 15) C 1 rfl rfl dX8_isInstruction_15 ?_
  refine r_iald (pc := 16) C rfl g3 (fun _ => rfl) (fun _ => rfl) dX8_isInstruction_16 ?_
  refine r_aload_n (pc := 17) C 0 rfl rfl dX8_isInstruction_17 ?_
  refine r_getR (pc := 18) C FX8_greatestNumbers mw_1018 h_0 rfl dX8_isInstruction_18 (fun g4 => ?_)
  refine r_iload_n (pc := 21) C 1 rfl rfl dX8_isInstruction_21 ?_
  refine r_iald (pc := 22) C rfl g4 (fun _ => rfl) (fun _ => rfl) dX8_isInstruction_22 ?_
  refine r_cSI (pc := 23) C hRm (okX8_isBetween h0 v2 (M1.1 25 0 0 v1.toNatClampNeg) (M1.1 26 0 0 v1.toNatClampNeg) M1 ) mw_1092 cvX8_isBetween rfl ⟨Nat.le_of_ble_eq_true rfl, Nat.le_of_ble_eq_true rfl⟩ rfl (Nat.le_of_ble_eq_true rfl) dX8_isInstruction_23 (fun o6 M5 => ?_)
  refine r_if_eq (pc := 26) C dX8_isInstruction_26 (tgt := 33) rfl ?_ ?_
  refine r_iconst (pc := 33) C dX8_isInstruction_33 kc_0 ?_
  exact r_zret (pc := 34) C dX8_isInstruction_34
  refine r_iconst (pc := 29) C dX8_isInstruction_29 kc_1 ?_
  refine r_goto (pc := 30) C dX8_isInstruction_30 (tgt := 34) rfl ?_
  exact r_zret (pc := 34) C dX8_isInstruction_34
theorem okX8_isInstruction {l : Launch} {G : WT} (h0 : W0 G) (v1 : Int32) (v2 : Int32) (M : Mem) (h_0 : G.2.2.2.1 19 0 0) : Okm l G yX8_isInstruction cX8_isInstruction 3 (some FieldType.boolean) 1 22 [.ref (G.1 19 0 0), .int v1, .int v2] voI M (pX8_isInstruction  v1 v2 M) :=
  Okm.of "PermitParkModel" rfl (by decide) (Nat.le_of_ble_eq_true rfl) (L := [(0, .ref (G.1 19 0 0)), (1, .int v1), (2, .int v2)]) rfl (fun K _ hr C => lX8_isInstruction_0 C (by rw [hr]; exact ⟨rfl, rfl⟩) h0 v1 v2 M h_0)
def pX8_isOn (v1 : Int32) (M : Mem) : Option (Int32 × Mem) :=
    chk (inB (5 : Int32) 700) <| if ¬ (((M.1 20 0 0 (5 : Int32).toNatClampNeg) >>> (v1 &&& 31)) &&& (1 : Int32)) = (1 : Int32) then (chk (decide ((0 : Int32) = 0 ∨ (0 : Int32) = 1)) (some ((0 : Int32), M)))
    else chk (decide ((1 : Int32) = 0 ∨ (1 : Int32) = 1)) (some ((1 : Int32), M))
theorem lX8_isOn_0 {K : KT} {G : WT} (C : Cx K G "PermitParkModel" cX8_isOn 2 (some FieldType.boolean)) (hRm : K.2.2.2.1.frames = 0 ∧ K.2.2.2.1.locals = 0) (h0 : W0 G) (v1 : Int32) (M : Mem) (h_0 : G.2.2.2.1 19 0 0) : Run K G 2 0 0 (FinM K G voI 0 0) 0 [(0, .ref (G.1 19 0 0)), (1, .int v1)] [] M (pX8_isOn   v1 M) := by
  rw [pX8_isOn]
  refine r_aload_n (pc := 0) C 0 rfl rfl dX8_isOn_0 ?_
  refine r_getR (pc := 1) C FX8_state mw_1012 h_0 rfl dX8_isOn_1 (fun g1 => ?_)
  refine r_iconst (pc := 4) C dX8_isOn_4 kc_5 ?_
  refine r_iald (pc := 5) C rfl g1 (fun _ => rfl) (fun _ => rfl) dX8_isOn_5 ?_
  refine r_iload_n (pc := 6) C 1 rfl rfl dX8_isOn_6 ?_
  refine r_ishr (pc := 7) C dX8_isOn_7 ?_
  refine r_iconst (pc := 8) C dX8_isOn_8 kc_1 ?_
  refine r_iand (pc := 9) C dX8_isOn_9 ?_
  refine r_iconst (pc := 10) C dX8_isOn_10 kc_1 ?_
  refine r_icmp_ne (pc := 11) C dX8_isOn_11 (tgt := 18) rfl ?_ ?_
  refine r_iconst (pc := 18) C dX8_isOn_18 kc_0 ?_
  exact r_zret (pc := 19) C dX8_isOn_19
  refine r_iconst (pc := 14) C dX8_isOn_14 kc_1 ?_
  refine r_goto (pc := 15) C dX8_isOn_15 (tgt := 19) rfl ?_
  exact r_zret (pc := 19) C dX8_isOn_19
theorem okX8_isOn {l : Launch} {G : WT} (h0 : W0 G) (v1 : Int32) (M : Mem) (h_0 : G.2.2.2.1 19 0 0) : Okm l G yX8_isOn cX8_isOn 2 (some FieldType.boolean) 0 0 [.ref (G.1 19 0 0), .int v1] voI M (pX8_isOn  v1 M) :=
  Okm.of "PermitParkModel" rfl (by decide) (Nat.le_of_ble_eq_true rfl) (L := [(0, .ref (G.1 19 0 0)), (1, .int v1)]) rfl (fun K _ hr C => lX8_isOn_0 C (by rw [hr]; exact ⟨rfl, rfl⟩) h0 v1 M h_0)
def pX8_turnFlag (v1 : Int32) (v2 : Int32) (M : Mem) : Option (Unit × Mem) :=
    bnd (pX8_isOn v1 M) fun o2 M1 => if o2 = v2 then (some ((), M1))
    else chk (inB (5 : Int32) 700) <| if v2 = 0 then (chk (inB (5 : Int32) 700) <| nm (wI M1 20 0 0 (5 : Int32).toNatClampNeg ((M1.1 20 0 0 (5 : Int32).toNatClampNeg) + (-((1 : Int32) <<< (v1 &&& 31))))) fun M4 => some ((), M4))
    else chk (inB (5 : Int32) 700) <| nm (wI M1 20 0 0 (5 : Int32).toNatClampNeg ((M1.1 20 0 0 (5 : Int32).toNatClampNeg) + ((1 : Int32) <<< (v1 &&& 31)))) fun M5 => some ((), M5)
theorem lX8_turnFlag_0 {K : KT} {G : WT} (C : Cx K G "PermitParkModel" cX8_turnFlag 3 none) (hRm : K.2.2.2.1.frames = 1 ∧ K.2.2.2.1.locals = 21) (h0 : W0 G) (v1 : Int32) (v2 : Int32) (M : Mem) (h_0 : G.2.2.2.1 19 0 0) : Run K G 3 0 0 (FinM K G voV 0 0) 0 [(0, .ref (G.1 19 0 0)), (1, .int v1), (2, .int v2)] [] M (pX8_turnFlag   v1 v2 M) := by
  rw [pX8_turnFlag]
  refine r_aload_n (pc := 0) C 0 rfl rfl dX8_turnFlag_0 ?_
  refine r_iload_n (pc := 1) C 1 rfl rfl dX8_turnFlag_1 ?_
  refine r_cVI (pc := 2) C hRm (okX8_isOn h0 v1 M h_0) (Rc.of C rfl rfl h_0) mw_1213 cvX8_isOn rfl ⟨Nat.le_of_ble_eq_true rfl, Nat.le_of_ble_eq_true rfl⟩ rfl (Nat.le_of_ble_eq_true rfl) dX8_turnFlag_2 (fun o2 M1 => ?_)
  refine r_iload_n (pc := 5) C 2 rfl rfl dX8_turnFlag_5 ?_
  refine r_icmp_eq (pc := 6) C dX8_turnFlag_6 (tgt := 32) rfl ?_ ?_
  exact r_vret (pc := 32) C dX8_turnFlag_32
  refine r_aload_n (pc := 9) C 0 rfl rfl dX8_turnFlag_9 ?_
  refine r_getR (pc := 10) C FX8_state mw_1012 h_0 rfl dX8_turnFlag_10 (fun g3 => ?_)
  refine r_iconst (pc := 13) C dX8_turnFlag_13 kc_5 ?_
  refine r_dup2_11 (pc := 14) C dX8_turnFlag_14 rfl rfl ?_
  refine r_iald (pc := 15) C rfl g3 (fun _ => rfl) (fun _ => rfl) dX8_turnFlag_15 ?_
  refine r_iload_n (pc := 16) C 2 rfl rfl dX8_turnFlag_16 ?_
  refine r_if_eq (pc := 17) C dX8_turnFlag_17 (tgt := 26) rfl ?_ ?_
  refine r_iconst (pc := 26) C dX8_turnFlag_26 kc_1 ?_
  refine r_iload_n (pc := 27) C 1 rfl rfl dX8_turnFlag_27 ?_
  refine r_ishl (pc := 28) C dX8_turnFlag_28 ?_
  refine r_ineg (pc := 29) C dX8_turnFlag_29 ?_
  refine r_iadd (pc := 30) C dX8_turnFlag_30 ?_
  refine r_iast (pc := 31) C rfl g3 (fun _ => rfl) (fun _ => rfl) dX8_turnFlag_31 (fun M4 => ?_)
  exact r_vret (pc := 32) C dX8_turnFlag_32
  refine r_iconst (pc := 20) C dX8_turnFlag_20 kc_1 ?_
  refine r_iload_n (pc := 21) C 1 rfl rfl dX8_turnFlag_21 ?_
  refine r_ishl (pc := 22) C dX8_turnFlag_22 ?_
  refine r_goto (pc := 23) C dX8_turnFlag_23 (tgt := 30) rfl ?_
  refine r_iadd (pc := 30) C dX8_turnFlag_30 ?_
  refine r_iast (pc := 31) C rfl g3 (fun _ => rfl) (fun _ => rfl) dX8_turnFlag_31 (fun M5 => ?_)
  exact r_vret (pc := 32) C dX8_turnFlag_32
theorem okX8_turnFlag {l : Launch} {G : WT} (h0 : W0 G) (v1 : Int32) (v2 : Int32) (M : Mem) (h_0 : G.2.2.2.1 19 0 0) : Okm l G yX8_turnFlag cX8_turnFlag 3 none 1 21 [.ref (G.1 19 0 0), .int v1, .int v2] voV M (pX8_turnFlag  v1 v2 M) :=
  Okm.of "PermitParkModel" rfl (by decide) (Nat.le_of_ble_eq_true rfl) (L := [(0, .ref (G.1 19 0 0)), (1, .int v1), (2, .int v2)]) rfl (fun K _ hr C => lX8_turnFlag_0 C (by rw [hr]; exact ⟨rfl, rfl⟩) h0 v1 v2 M h_0)
def pX8_appendText_26 : Nat → Int32 → Int32 → Mem → Option (Int32 × Mem)
  | 0, _, _, _ => none
  | n + 1, v1, v2, M =>
    if v2 < 0 then (some ((M.1 19 0 0 9), M))
    else chk (inB (M.1 19 0 0 9) 800) <| nm (wI M 27 0 0 (M.1 19 0 0 9).toNatClampNeg ((v1 >>> (v2 &&& 31)) &&& (255 : Int32))) fun M2 => nm (wI M2 19 0 0 9 ((M2.1 19 0 0 9) + (1 : Int32))) fun M3 => pX8_appendText_26   n v1 (v2 + (-8 : Int32)) M3
theorem lX8_appendText_26 {K : KT} {G : WT} (C : Cx K G "PermitParkModel" cX8_appendText 3 (some FieldType.int)) (hRm : K.2.2.2.1.frames = 1 ∧ K.2.2.2.1.locals = 21) (h0 : W0 G) : ∀ (n : Nat) (v1 : Int32) (v2 : Int32) (M : Mem), G.2.2.2.1 19 0 0 → Run K G 3 0 0 (FinM K G voI 0 0) 26 [(0, .ref (G.1 19 0 0)), (1, .int v1), (2, .int v2)] [] M (pX8_appendText_26   n v1 v2 M) := by
  intro n
  induction n with
  | zero =>
    intro v1 v2 M g_0
    exact r_none
  | succ n ih =>
    intro v1 v2 M g_0
    rw [pX8_appendText_26]
    refine r_iload_n (pc := 26) C 2 rfl rfl dX8_appendText_26 ?_
    refine r_if_lt (pc := 27) C dX8_appendText_27 (tgt := 62) rfl ?_ ?_
    refine r_aload_n (pc := 62) C 0 rfl rfl dX8_appendText_62 ?_
    refine r_getI (pc := 63) C FX8_textLength mw_1021 g_0 rfl rfl dX8_appendText_63 ?_
    exact r_iret (pc := 66) C rfl dX8_appendText_66
    refine r_aload_n (pc := 30) C 0 rfl rfl dX8_appendText_30 ?_
    refine r_getR (pc := 31) C FX8_text mw_1020 g_0 rfl dX8_appendText_31 (fun g1 => ?_)
    refine r_aload_n (pc := 34) C 0 rfl rfl dX8_appendText_34 ?_
    refine r_getI (pc := 35) C FX8_textLength mw_1021 g_0 rfl rfl dX8_appendText_35 ?_
    refine r_iload_n (pc := 38) C 1 rfl rfl dX8_appendText_38 ?_
    refine r_iload_n (pc := 39) C 2 rfl rfl dX8_appendText_39 ?_
    refine r_ishr (pc := 40) C dX8_appendText_40 ?_
    refine r_sipush (pc := 41) C dX8_appendText_41 ks_255 ?_
    refine r_iand (pc := 44) C dX8_appendText_44 ?_
    refine r_iast (pc := 45) C rfl g1 (fun _ => rfl) (fun _ => rfl) dX8_appendText_45 (fun M2 => ?_)
    refine r_aload_n (pc := 46) C 0 rfl rfl dX8_appendText_46 ?_
    refine r_dup (pc := 47) C dX8_appendText_47 rfl ?_
    refine r_getI (pc := 48) C FX8_textLength mw_1021 g_0 rfl rfl dX8_appendText_48 ?_
    refine r_iconst (pc := 51) C dX8_appendText_51 kc_1 ?_
    refine r_iadd (pc := 52) C dX8_appendText_52 ?_
    refine r_putI (pc := 53) C FX8_textLength mw_1021 g_0 tyX8 tyX8_ok nmX8 (fun _ _ => rfl) rfl dX8_appendText_53 (fun M3 => ?_)
    refine r_iinc (pc := 56) C [(2, .int (v2 + (-8 : Int32))), (0, .ref (G.1 19 0 0)), (1, .int v1)] dX8_appendText_56 (p := 2) rfl (ki_m8 _) (by decide) rfl ?_
    refine r_goto (pc := 59) C dX8_appendText_59 (tgt := 26) rfl ?_
    refine r_sub [1, 2, 0] rfl ?_
    exact ih v1 (v2 + (-8 : Int32)) M3 g_0
def pX8_appendText (v1 : Int32) (M : Mem) : Option (Int32 × Mem) :=
    nm (wI M 19 0 0 7 (0 : Int32)) fun M1 => if ((M1.1 19 0 0 9) + (4 : Int32)) ≤ (800 : Int32) then (pX8_appendText_26   fu v1 (24 : Int32) M1)
    else bnd (pX8_fail (1 : Int32) M1) fun o3 M2 => some (o3, M2)
theorem lX8_appendText_0 {K : KT} {G : WT} (C : Cx K G "PermitParkModel" cX8_appendText 3 (some FieldType.int)) (hRm : K.2.2.2.1.frames = 1 ∧ K.2.2.2.1.locals = 21) (h0 : W0 G) (v1 : Int32) (M : Mem) (h_0 : G.2.2.2.1 19 0 0) : Run K G 3 0 0 (FinM K G voI 0 0) 0 [(0, .ref (G.1 19 0 0)), (1, .int v1)] [] M (pX8_appendText   v1 M) := by
  rw [pX8_appendText]
  refine r_aload_n (pc := 0) C 0 rfl rfl dX8_appendText_0 ?_
  refine r_iconst (pc := 1) C dX8_appendText_1 kc_0 ?_
  refine r_putI (pc := 2) C FX8_thrown mw_1019 h_0 tyX8 tyX8_ok nmX8 (fun _ _ => rfl) rfl dX8_appendText_2 (fun M1 => ?_)
  refine r_aload_n (pc := 5) C 0 rfl rfl dX8_appendText_5 ?_
  refine r_getI (pc := 6) C FX8_textLength mw_1021 h_0 rfl rfl dX8_appendText_6 ?_
  refine r_iconst (pc := 9) C dX8_appendText_9 kc_4 ?_
  refine r_iadd (pc := 10) C dX8_appendText_10 ?_
  refine r_sipush (pc := 11) C dX8_appendText_11 ks_800 ?_
  refine r_icmp_le (pc := 14) C dX8_appendText_14 (tgt := 23) rfl ?_ ?_
  refine r_bipush (pc := 23) C dX8_appendText_23 kb_24 ?_
  refine r_istore_n (pc := 25) C [(2, .int (24 : Int32)), (0, .ref (G.1 19 0 0)), (1, .int v1)] dX8_appendText_25 rfl (by decide) rfl ?_
  refine r_sub [1, 2, 0] rfl ?_
  exact lX8_appendText_26   C hRm h0  fu v1 (24 : Int32) M1 h_0
  refine r_aload_n (pc := 17) C 0 rfl rfl dX8_appendText_17 ?_
  refine r_iconst (pc := 18) C dX8_appendText_18 kc_1 ?_
  refine r_cVI (pc := 19) C hRm (okX8_fail h0 (1 : Int32) M1 h_0) (Rc.of C rfl rfl h_0) mw_1084 cvX8_fail rfl ⟨Nat.le_of_ble_eq_true rfl, Nat.le_of_ble_eq_true rfl⟩ rfl (Nat.le_of_ble_eq_true rfl) dX8_appendText_19 (fun o3 M2 => ?_)
  exact r_iret (pc := 22) C rfl dX8_appendText_22
theorem okX8_appendText {l : Launch} {G : WT} (h0 : W0 G) (v1 : Int32) (M : Mem) (h_0 : G.2.2.2.1 19 0 0) : Okm l G yX8_appendText cX8_appendText 3 (some FieldType.int) 1 21 [.ref (G.1 19 0 0), .int v1] voI M (pX8_appendText  v1 M) :=
  Okm.of "PermitParkModel" rfl (by decide) (Nat.le_of_ble_eq_true rfl) (L := [(0, .ref (G.1 19 0 0)), (1, .int v1)]) rfl (fun K _ hr C => lX8_appendText_0 C (by rw [hr]; exact ⟨rfl, rfl⟩) h0 v1 M h_0)
def pX8_truncateText (v1 : Int32) (M : Mem) : Option (Int32 × Mem) :=
    nm (wI M 19 0 0 7 (0 : Int32)) fun M1 => bnd (pX8_isBetween v1 (0 : Int32) (M1.1 19 0 0 9) M1) fun o3 M2 => if ¬ o3 = 0 then (nm (wI M2 19 0 0 9 v1) fun M4 => some ((M4.1 19 0 0 9), M4))
    else bnd (pX8_fail (1 : Int32) M2) fun o6 M5 => some (o6, M5)
theorem lX8_truncateText_0 {K : KT} {G : WT} (C : Cx K G "PermitParkModel" cX8_truncateText 2 (some FieldType.int)) (hRm : K.2.2.2.1.frames = 1 ∧ K.2.2.2.1.locals = 22) (h0 : W0 G) (v1 : Int32) (M : Mem) (h_0 : G.2.2.2.1 19 0 0) : Run K G 2 0 0 (FinM K G voI 0 0) 0 [(0, .ref (G.1 19 0 0)), (1, .int v1)] [] M (pX8_truncateText   v1 M) := by
  rw [pX8_truncateText]
  refine r_aload_n (pc := 0) C 0 rfl rfl dX8_truncateText_0 ?_
  refine r_iconst (pc := 1) C dX8_truncateText_1 kc_0 ?_
  refine r_putI (pc := 2) C FX8_thrown mw_1019 h_0 tyX8 tyX8_ok nmX8 (fun _ _ => rfl) rfl dX8_truncateText_2 (fun M1 => ?_)
  refine r_iload_n (pc := 5) C 1 rfl rfl dX8_truncateText_5 ?_
  refine r_iconst (pc := 6) C dX8_truncateText_6 kc_0 ?_
  refine r_aload_n (pc := 7) C 0 rfl rfl dX8_truncateText_7 ?_
  refine r_getI (pc := 8) C FX8_textLength mw_1021 h_0 rfl rfl dX8_truncateText_8 ?_
  refine r_cSI (pc := 11) C hRm (okX8_isBetween h0 v1 (0 : Int32) (M1.1 19 0 0 9) M1 ) mw_1092 cvX8_isBetween rfl ⟨Nat.le_of_ble_eq_true rfl, Nat.le_of_ble_eq_true rfl⟩ rfl (Nat.le_of_ble_eq_true rfl) dX8_truncateText_11 (fun o3 M2 => ?_)
  refine r_if_ne (pc := 14) C dX8_truncateText_14 (tgt := 23) rfl ?_ ?_
  refine r_aload_n (pc := 23) C 0 rfl rfl dX8_truncateText_23 ?_
  refine r_iload_n (pc := 24) C 1 rfl rfl dX8_truncateText_24 ?_
  refine r_putI (pc := 25) C FX8_textLength mw_1021 h_0 tyX8 tyX8_ok nmX8 (fun _ _ => rfl) rfl dX8_truncateText_25 (fun M4 => ?_)
  refine r_aload_n (pc := 28) C 0 rfl rfl dX8_truncateText_28 ?_
  refine r_getI (pc := 29) C FX8_textLength mw_1021 h_0 rfl rfl dX8_truncateText_29 ?_
  exact r_iret (pc := 32) C rfl dX8_truncateText_32
  refine r_aload_n (pc := 17) C 0 rfl rfl dX8_truncateText_17 ?_
  refine r_iconst (pc := 18) C dX8_truncateText_18 kc_1 ?_
  refine r_cVI (pc := 19) C hRm (okX8_fail h0 (1 : Int32) M2 h_0) (Rc.of C rfl rfl h_0) mw_1084 cvX8_fail rfl ⟨Nat.le_of_ble_eq_true rfl, Nat.le_of_ble_eq_true rfl⟩ rfl (Nat.le_of_ble_eq_true rfl) dX8_truncateText_19 (fun o6 M5 => ?_)
  exact r_iret (pc := 22) C rfl dX8_truncateText_22
theorem okX8_truncateText {l : Launch} {G : WT} (h0 : W0 G) (v1 : Int32) (M : Mem) (h_0 : G.2.2.2.1 19 0 0) : Okm l G yX8_truncateText cX8_truncateText 2 (some FieldType.int) 1 22 [.ref (G.1 19 0 0), .int v1] voI M (pX8_truncateText  v1 M) :=
  Okm.of "PermitParkModel" rfl (by decide) (Nat.le_of_ble_eq_true rfl) (L := [(0, .ref (G.1 19 0 0)), (1, .int v1)]) rfl (fun K _ hr C => lX8_truncateText_0 C (by rw [hr]; exact ⟨rfl, rfl⟩) h0 v1 M h_0)
def pX8_byteAt (v1 : Int32) (M : Mem) : Option (Int32 × Mem) :=
    if (M.1 19 0 0 9) ≤ v1 then (some ((-1 : Int32), M))
    else chk (inB v1 800) <| some ((M.1 27 0 0 v1.toNatClampNeg), M)
theorem lX8_byteAt_0 {K : KT} {G : WT} (C : Cx K G "PermitParkModel" cX8_byteAt 2 (some FieldType.int)) (hRm : K.2.2.2.1.frames = 0 ∧ K.2.2.2.1.locals = 0) (h0 : W0 G) (v1 : Int32) (M : Mem) (h_0 : G.2.2.2.1 19 0 0) : Run K G 2 0 0 (FinM K G voI 0 0) 0 [(0, .ref (G.1 19 0 0)), (1, .int v1)] [] M (pX8_byteAt   v1 M) := by
  rw [pX8_byteAt]
  refine r_iload_n (pc := 0) C 1 rfl rfl dX8_byteAt_0 ?_
  refine r_aload_n (pc := 1) C 0 rfl rfl dX8_byteAt_1 ?_
  refine r_getI (pc := 2) C FX8_textLength mw_1021 h_0 rfl rfl dX8_byteAt_2 ?_
  refine r_icmp_ge (pc := 5) C dX8_byteAt_5 (tgt := 17) rfl ?_ ?_
  refine r_iconst (pc := 17) C dX8_byteAt_17 kc_m1 ?_
  exact r_iret (pc := 18) C rfl dX8_byteAt_18
  refine r_aload_n (pc := 8) C 0 rfl rfl dX8_byteAt_8 ?_
  refine r_getR (pc := 9) C FX8_text mw_1020 h_0 rfl dX8_byteAt_9 (fun g1 => ?_)
  refine r_iload_n (pc := 12) C 1 rfl rfl dX8_byteAt_12 ?_
  refine r_iald (pc := 13) C rfl g1 (fun _ => rfl) (fun _ => rfl) dX8_byteAt_13 ?_
  refine r_goto (pc := 14) C dX8_byteAt_14 (tgt := 18) rfl ?_
  exact r_iret (pc := 18) C rfl dX8_byteAt_18
theorem okX8_byteAt {l : Launch} {G : WT} (h0 : W0 G) (v1 : Int32) (M : Mem) (h_0 : G.2.2.2.1 19 0 0) : Okm l G yX8_byteAt cX8_byteAt 2 (some FieldType.int) 0 0 [.ref (G.1 19 0 0), .int v1] voI M (pX8_byteAt  v1 M) :=
  Okm.of "PermitParkModel" rfl (by decide) (Nat.le_of_ble_eq_true rfl) (L := [(0, .ref (G.1 19 0 0)), (1, .int v1)]) rfl (fun K _ hr C => lX8_byteAt_0 C (by rw [hr]; exact ⟨rfl, rfl⟩) h0 v1 M h_0)
def pX8_isLetter (v0 : Int32) (M : Mem) : Option (Int32 × Mem) :=
    bnd (pX8_isBetween v0 (97 : Int32) (122 : Int32) M) fun o2 M1 => chk (decide (o2 = 0 ∨ o2 = 1)) (some (o2, M1))
theorem lX8_isLetter_0 {K : KT} {G : WT} (C : Cx K G "PermitParkModel" cX8_isLetter 1 (some FieldType.boolean)) (hRm : K.2.2.2.1.frames = 1 ∧ K.2.2.2.1.locals = 22) (h0 : W0 G) (v0 : Int32) (M : Mem) : Run K G 1 0 0 (FinM K G voI 0 0) 0 [(0, .int v0)] [] M (pX8_isLetter   v0 M) := by
  rw [pX8_isLetter]
  refine r_iload_n (pc := 0) C 0 rfl rfl dX8_isLetter_0 ?_
  refine r_bipush (pc := 1) C dX8_isLetter_1 kb_97 ?_
  refine r_bipush (pc := 3) C dX8_isLetter_3 kb_122 ?_
  refine r_cSI (pc := 5) C hRm (okX8_isBetween h0 v0 (97 : Int32) (122 : Int32) M ) mw_1092 cvX8_isBetween rfl ⟨Nat.le_of_ble_eq_true rfl, Nat.le_of_ble_eq_true rfl⟩ rfl (Nat.le_of_ble_eq_true rfl) dX8_isLetter_5 (fun o2 M1 => ?_)
  exact r_zret (pc := 8) C dX8_isLetter_8
theorem okX8_isLetter {l : Launch} {G : WT} (h0 : W0 G) (v0 : Int32) (M : Mem) : Okm l G yX8_isLetter cX8_isLetter 1 (some FieldType.boolean) 1 22 [.int v0] voI M (pX8_isLetter  v0 M) :=
  Okm.of "PermitParkModel" rfl (by decide) (Nat.le_of_ble_eq_true rfl) (L := [(0, .int v0)]) rfl (fun K _ hr C => lX8_isLetter_0 C (by rw [hr]; exact ⟨rfl, rfl⟩) h0 v0 M )
def pX8_isDigit (v0 : Int32) (M : Mem) : Option (Int32 × Mem) :=
    bnd (pX8_isBetween v0 (48 : Int32) (57 : Int32) M) fun o2 M1 => chk (decide (o2 = 0 ∨ o2 = 1)) (some (o2, M1))
theorem lX8_isDigit_0 {K : KT} {G : WT} (C : Cx K G "PermitParkModel" cX8_isDigit 1 (some FieldType.boolean)) (hRm : K.2.2.2.1.frames = 1 ∧ K.2.2.2.1.locals = 22) (h0 : W0 G) (v0 : Int32) (M : Mem) : Run K G 1 0 0 (FinM K G voI 0 0) 0 [(0, .int v0)] [] M (pX8_isDigit   v0 M) := by
  rw [pX8_isDigit]
  refine r_iload_n (pc := 0) C 0 rfl rfl dX8_isDigit_0 ?_
  refine r_bipush (pc := 1) C dX8_isDigit_1 kb_48 ?_
  refine r_bipush (pc := 3) C dX8_isDigit_3 kb_57 ?_
  refine r_cSI (pc := 5) C hRm (okX8_isBetween h0 v0 (48 : Int32) (57 : Int32) M ) mw_1092 cvX8_isBetween rfl ⟨Nat.le_of_ble_eq_true rfl, Nat.le_of_ble_eq_true rfl⟩ rfl (Nat.le_of_ble_eq_true rfl) dX8_isDigit_5 (fun o2 M1 => ?_)
  exact r_zret (pc := 8) C dX8_isDigit_8
theorem okX8_isDigit {l : Launch} {G : WT} (h0 : W0 G) (v0 : Int32) (M : Mem) : Okm l G yX8_isDigit cX8_isDigit 1 (some FieldType.boolean) 1 22 [.int v0] voI M (pX8_isDigit  v0 M) :=
  Okm.of "PermitParkModel" rfl (by decide) (Nat.le_of_ble_eq_true rfl) (L := [(0, .int v0)]) rfl (fun K _ hr C => lX8_isDigit_0 C (by rw [hr]; exact ⟨rfl, rfl⟩) h0 v0 M )
def pX8_nextToken_149 (k96 : Mem → Option (Unit × Mem)) (s0 : Int64) (M : Mem) : Option (Unit × Mem) :=
    nm (wW M s0) fun M1 => nm (wI M1 19 0 0 13 ((M1.1 19 0 0 13) + (1 : Int32))) fun M2 => nm (wI M2 19 0 0 10 ((M2.1 19 0 0 10) + (1 : Int32))) fun M3 => k96 M3
theorem lX8_nextToken_149 {K : KT} {G : WT} {k96 : Mem → Option (Unit × Mem)} (C : Cx K G "PermitParkModel" cX8_nextToken 2 none) (hRm : K.2.2.2.1.frames = 2 ∧ K.2.2.2.1.locals = 42) (h0 : W0 G)
    (hk96 : ∀ (M : Mem), G.2.2.2.1 19 0 0 → Run K G 2 0 0 (FinM K G voV 0 0) 96 [(0, .ref (G.1 19 0 0))] [] M (k96  M)) (s0 : Int64) (M : Mem) (g_0 : G.2.2.2.1 19 0 0) (g_s1 : G.2.2.2.1 19 0 0) : Run K G 2 0 0 (FinM K G voV 0 0) 149 [(0, .ref (G.1 19 0 0))] [.long s0, .ref (G.1 19 0 0)] M (pX8_nextToken_149  k96 s0 M) := by
  rw [pX8_nextToken_149]
  refine r_putW (pc := 149) C h0 FX8_word mw_1029 g_s1 tyX8 tyX8_ok nmX8 dX8_nextToken_149 (fun M1 => ?_)
  refine r_aload_n (pc := 152) C 0 rfl rfl dX8_nextToken_152 ?_
  refine r_dup (pc := 153) C dX8_nextToken_153 rfl ?_
  refine r_getI (pc := 154) C FX8_letters mw_1025 g_s1 rfl rfl dX8_nextToken_154 ?_
  refine r_iconst (pc := 157) C dX8_nextToken_157 kc_1 ?_
  refine r_iadd (pc := 158) C dX8_nextToken_158 ?_
  refine r_putI (pc := 159) C FX8_letters mw_1025 g_s1 tyX8 tyX8_ok nmX8 (fun _ _ => rfl) rfl dX8_nextToken_159 (fun M2 => ?_)
  refine r_aload_n (pc := 162) C 0 rfl rfl dX8_nextToken_162 ?_
  refine r_dup (pc := 163) C dX8_nextToken_163 rfl ?_
  refine r_getI (pc := 164) C FX8_position mw_1022 g_s1 rfl rfl dX8_nextToken_164 ?_
  refine r_iconst (pc := 167) C dX8_nextToken_167 kc_1 ?_
  refine r_iadd (pc := 168) C dX8_nextToken_168 ?_
  refine r_putI (pc := 169) C FX8_position mw_1022 g_s1 tyX8 tyX8_ok nmX8 (fun _ _ => rfl) rfl dX8_nextToken_169 (fun M3 => ?_)
  refine r_goto (pc := 172) C dX8_nextToken_172 (tgt := 96) rfl ?_
  exact hk96 M3 g_s1
def pX8_nextToken_96 : Nat → Mem → Option (Unit × Mem)
  | 0, _ => none
  | n + 1, M =>
    bnd (pX8_byteAt (M.1 19 0 0 10) M) fun o2 M1 => bnd (pX8_isLetter o2 M1) fun o4 M3 => if o4 = 0 then (some ((), M3))
    else if (11 : Int32) ≤ (M3.1 19 0 0 13) then (pX8_nextToken_149  (fun  M => pX8_nextToken_96   n  M)  (M3.2.1) M3)
    else bnd (pX8_byteAt (M3.1 19 0 0 10) M3) fun o6 M5 => pX8_nextToken_149  (fun  M => pX8_nextToken_96   n  M)  ((((27 : Int64) * M3.2.1) + o6.toInt64) - (96 : Int64)) M5
theorem lX8_nextToken_96 {K : KT} {G : WT} (C : Cx K G "PermitParkModel" cX8_nextToken 2 none) (hRm : K.2.2.2.1.frames = 2 ∧ K.2.2.2.1.locals = 42) (h0 : W0 G) : ∀ (n : Nat) (M : Mem), G.2.2.2.1 19 0 0 → Run K G 2 0 0 (FinM K G voV 0 0) 96 [(0, .ref (G.1 19 0 0))] [] M (pX8_nextToken_96   n  M) := by
  intro n
  induction n with
  | zero =>
    intro  M g_0
    exact r_none
  | succ n ih =>
    intro  M g_0
    rw [pX8_nextToken_96]
    refine r_aload_n (pc := 96) C 0 rfl rfl dX8_nextToken_96 ?_
    refine r_aload_n (pc := 97) C 0 rfl rfl dX8_nextToken_97 ?_
    refine r_getI (pc := 98) C FX8_position mw_1022 g_0 rfl rfl dX8_nextToken_98 ?_
    refine r_cVI (pc := 101) C hRm (okX8_byteAt h0 (M.1 19 0 0 10) M g_0) (Rc.of C rfl rfl g_0) mw_1106 cvX8_byteAt rfl ⟨Nat.le_of_ble_eq_true rfl, Nat.le_of_ble_eq_true rfl⟩ rfl (Nat.le_of_ble_eq_true rfl) dX8_nextToken_101 (fun o2 M1 => ?_)
    refine r_cSI (pc := 104) C hRm (okX8_isLetter h0 o2 M1 ) mw_1110 cvX8_isLetter rfl ⟨Nat.le_of_ble_eq_true rfl, Nat.le_of_ble_eq_true rfl⟩ rfl (Nat.le_of_ble_eq_true rfl) dX8_nextToken_104 (fun o4 M3 => ?_)
    refine r_if_eq (pc := 107) C dX8_nextToken_107 (tgt := 290) rfl ?_ ?_
    exact r_vret (pc := 290) C dX8_nextToken_290
    refine r_aload_n (pc := 110) C 0 rfl rfl dX8_nextToken_110 ?_
    refine r_aload_n (pc := 111) C 0 rfl rfl dX8_nextToken_111 ?_
    refine r_getI (pc := 112) C FX8_letters mw_1025 g_0 rfl rfl dX8_nextToken_112 ?_
    refine r_bipush (pc := 115) C dX8_nextToken_115 kb_11 ?_
    refine r_icmp_ge (pc := 117) C dX8_nextToken_117 (tgt := 145) rfl ?_ ?_
    refine r_aload_n (pc := 145) C 0 rfl rfl dX8_nextToken_145 ?_
    refine r_getW (pc := 146) C FX8_word mw_1029 g_0 dX8_nextToken_146 ?_
    exact lX8_nextToken_149  (k96 := (fun  M => pX8_nextToken_96   n  M)) C hRm h0 ih  (M3.2.1) M3 g_0 g_0
    refine r_ldc2 (pc := 120) C mw_1113 dX8_nextToken_120 ?_
    refine r_aload_n (pc := 123) C 0 rfl rfl dX8_nextToken_123 ?_
    refine r_getW (pc := 124) C FX8_word mw_1029 g_0 dX8_nextToken_124 ?_
    refine r_lmul (pc := 127) C dX8_nextToken_127 ?_
    refine r_aload_n (pc := 128) C 0 rfl rfl dX8_nextToken_128 ?_
    refine r_aload_n (pc := 129) C 0 rfl rfl dX8_nextToken_129 ?_
    refine r_getI (pc := 130) C FX8_position mw_1022 g_0 rfl rfl dX8_nextToken_130 ?_
    refine r_cVI (pc := 133) C hRm (okX8_byteAt h0 (M3.1 19 0 0 10) M3 g_0) (Rc.of C rfl rfl g_0) mw_1106 cvX8_byteAt rfl ⟨Nat.le_of_ble_eq_true rfl, Nat.le_of_ble_eq_true rfl⟩ rfl (Nat.le_of_ble_eq_true rfl) dX8_nextToken_133 (fun o6 M5 => ?_)
    refine r_i2l (pc := 136) C dX8_nextToken_136 ?_
    refine r_ladd (pc := 137) C dX8_nextToken_137 ?_
    refine r_ldc2 (pc := 138) C mw_1114 dX8_nextToken_138 ?_
    refine r_lsub (pc := 141) C dX8_nextToken_141 ?_
    refine r_goto (pc := 142) C dX8_nextToken_142 (tgt := 149) rfl ?_
    exact lX8_nextToken_149  (k96 := (fun  M => pX8_nextToken_96   n  M)) C hRm h0 ih  ((((27 : Int64) * M3.2.1) + o6.toInt64) - (96 : Int64)) M5 g_0 g_0
def pX8_nextToken_187 : Nat → Mem → Option (Unit × Mem)
  | 0, _ => none
  | n + 1, M =>
    bnd (pX8_byteAt (M.1 19 0 0 10) M) fun o2 M1 => bnd (pX8_isDigit o2 M1) fun o4 M3 => if o4 = 0 then (some ((), M3))
    else if (M3.1 19 0 0 14) ≤ (10000000 : Int32) then (bnd (pX8_byteAt (M3.1 19 0 0 10) M3) fun o6 M5 => nm (wI M5 19 0 0 14 ((((10 : Int32) * (M3.1 19 0 0 14)) + o6) - (48 : Int32))) fun M7 => nm (wI M7 19 0 0 10 ((M7.1 19 0 0 10) + (1 : Int32))) fun M8 => pX8_nextToken_187   n M8)
    else nm (wI M3 19 0 0 14 (M3.1 19 0 0 14)) fun M9 => nm (wI M9 19 0 0 10 ((M9.1 19 0 0 10) + (1 : Int32))) fun M10 => pX8_nextToken_187   n M10
theorem lX8_nextToken_187 {K : KT} {G : WT} (C : Cx K G "PermitParkModel" cX8_nextToken 2 none) (hRm : K.2.2.2.1.frames = 2 ∧ K.2.2.2.1.locals = 42) (h0 : W0 G) : ∀ (n : Nat) (M : Mem), G.2.2.2.1 19 0 0 → Run K G 2 0 0 (FinM K G voV 0 0) 187 [(0, .ref (G.1 19 0 0))] [] M (pX8_nextToken_187   n  M) := by
  intro n
  induction n with
  | zero =>
    intro  M g_0
    exact r_none
  | succ n ih =>
    intro  M g_0
    rw [pX8_nextToken_187]
    refine r_aload_n (pc := 187) C 0 rfl rfl dX8_nextToken_187 ?_
    refine r_aload_n (pc := 188) C 0 rfl rfl dX8_nextToken_188 ?_
    refine r_getI (pc := 189) C FX8_position mw_1022 g_0 rfl rfl dX8_nextToken_189 ?_
    refine r_cVI (pc := 192) C hRm (okX8_byteAt h0 (M.1 19 0 0 10) M g_0) (Rc.of C rfl rfl g_0) mw_1106 cvX8_byteAt rfl ⟨Nat.le_of_ble_eq_true rfl, Nat.le_of_ble_eq_true rfl⟩ rfl (Nat.le_of_ble_eq_true rfl) dX8_nextToken_192 (fun o2 M1 => ?_)
    refine r_cSI (pc := 195) C hRm (okX8_isDigit h0 o2 M1 ) mw_1115 cvX8_isDigit rfl ⟨Nat.le_of_ble_eq_true rfl, Nat.le_of_ble_eq_true rfl⟩ rfl (Nat.le_of_ble_eq_true rfl) dX8_nextToken_195 (fun o4 M3 => ?_)
    refine r_if_eq (pc := 198) C dX8_nextToken_198 (tgt := 290) rfl ?_ ?_
    exact r_vret (pc := 290) C dX8_nextToken_290
    refine r_aload_n (pc := 201) C 0 rfl rfl dX8_nextToken_201 ?_
    refine r_aload_n (pc := 202) C 0 rfl rfl dX8_nextToken_202 ?_
    refine r_getI (pc := 203) C FX8_number mw_1026 g_0 rfl rfl dX8_nextToken_203 ?_
    refine r_ldc (pc := 206) C mw_1118 dX8_nextToken_206 ?_
    refine r_icmp_le (pc := 208) C dX8_nextToken_208 (tgt := 218) rfl ?_ ?_
    refine r_bipush (pc := 218) C dX8_nextToken_218 kb_10 ?_
    refine r_aload_n (pc := 220) C 0 rfl rfl dX8_nextToken_220 ?_
    refine r_getI (pc := 221) C FX8_number mw_1026 g_0 rfl rfl dX8_nextToken_221 ?_
    refine r_imul (pc := 224) C dX8_nextToken_224 ?_
    refine r_aload_n (pc := 225) C 0 rfl rfl dX8_nextToken_225 ?_
    refine r_aload_n (pc := 226) C 0 rfl rfl dX8_nextToken_226 ?_
    refine r_getI (pc := 227) C FX8_position mw_1022 g_0 rfl rfl dX8_nextToken_227 ?_
    refine r_cVI (pc := 230) C hRm (okX8_byteAt h0 (M3.1 19 0 0 10) M3 g_0) (Rc.of C rfl rfl g_0) mw_1106 cvX8_byteAt rfl ⟨Nat.le_of_ble_eq_true rfl, Nat.le_of_ble_eq_true rfl⟩ rfl (Nat.le_of_ble_eq_true rfl) dX8_nextToken_230 (fun o6 M5 => ?_)
    refine r_iadd (pc := 233) C dX8_nextToken_233 ?_
    refine r_bipush (pc := 234) C dX8_nextToken_234 kb_48 ?_
    refine r_isub (pc := 236) C dX8_nextToken_236 ?_
    refine r_putI (pc := 237) C FX8_number mw_1026 g_0 tyX8 tyX8_ok nmX8 (fun _ _ => rfl) rfl dX8_nextToken_237 (fun M7 => ?_)
    refine r_aload_n (pc := 240) C 0 rfl rfl dX8_nextToken_240 ?_
    refine r_dup (pc := 241) C dX8_nextToken_241 rfl ?_
    refine r_getI (pc := 242) C FX8_position mw_1022 g_0 rfl rfl dX8_nextToken_242 ?_
    refine r_iconst (pc := 245) C dX8_nextToken_245 kc_1 ?_
    refine r_iadd (pc := 246) C dX8_nextToken_246 ?_
    refine r_putI (pc := 247) C FX8_position mw_1022 g_0 tyX8 tyX8_ok nmX8 (fun _ _ => rfl) rfl dX8_nextToken_247 (fun M8 => ?_)
    refine r_goto (pc := 250) C dX8_nextToken_250 (tgt := 187) rfl ?_
    exact ih M8 g_0
    refine r_aload_n (pc := 211) C 0 rfl rfl dX8_nextToken_211 ?_
    refine r_getI (pc := 212) C FX8_number mw_1026 g_0 rfl rfl dX8_nextToken_212 ?_
    refine r_goto (pc := 215) C dX8_nextToken_215 (tgt := 237) rfl ?_
    refine r_putI (pc := 237) C FX8_number mw_1026 g_0 tyX8 tyX8_ok nmX8 (fun _ _ => rfl) rfl dX8_nextToken_237 (fun M9 => ?_)
    refine r_aload_n (pc := 240) C 0 rfl rfl dX8_nextToken_240 ?_
    refine r_dup (pc := 241) C dX8_nextToken_241 rfl ?_
    refine r_getI (pc := 242) C FX8_position mw_1022 g_0 rfl rfl dX8_nextToken_242 ?_
    refine r_iconst (pc := 245) C dX8_nextToken_245 kc_1 ?_
    refine r_iadd (pc := 246) C dX8_nextToken_246 ?_
    refine r_putI (pc := 247) C FX8_position mw_1022 g_0 tyX8 tyX8_ok nmX8 (fun _ _ => rfl) rfl dX8_nextToken_247 (fun M10 => ?_)
    refine r_goto (pc := 250) C dX8_nextToken_250 (tgt := 187) rfl ?_
    exact ih M10 g_0
def pX8_nextToken_0 : Nat → Mem → Option (Unit × Mem)
  | 0, _ => none
  | n + 1, M =>
    bnd (pX8_byteAt (M.1 19 0 0 10) M) fun o2 M1 => if o2 = (32 : Int32) then (nm (wI M1 19 0 0 10 ((M1.1 19 0 0 10) + (1 : Int32))) fun M3 => pX8_nextToken_0   n M3)
    else bnd (pX8_byteAt (M1.1 19 0 0 10) M1) fun o5 M4 => if ¬ o5 = (10 : Int32) then (nm (wI M4 19 0 0 11 (M4.1 19 0 0 10)) fun M6 => nm (wI M6 19 0 0 13 (0 : Int32)) fun M7 => nm (wW M7 (0 : Int64)) fun M8 => nm (wI M8 19 0 0 14 (0 : Int32)) fun M9 => bnd (pX8_byteAt (M9.1 19 0 0 10) M9) fun o11 M10 => if ¬ o11 = (-1 : Int32) then (bnd (pX8_isLetter o11 M10) fun o13 M12 => if o13 = 0 then (bnd (pX8_isDigit o11 M12) fun o15 M14 => if o15 = 0 then (if o11 = (59 : Int32) then (nm (wI M14 19 0 0 12 (4 : Int32)) fun M16 => nm (wI M16 19 0 0 10 ((M16.1 19 0 0 10) + (1 : Int32))) fun M17 => some ((), M17))
    else if o11 = (44 : Int32) then (nm (wI M14 19 0 0 12 (4 : Int32)) fun M18 => nm (wI M18 19 0 0 10 ((M18.1 19 0 0 10) + (1 : Int32))) fun M19 => some ((), M19))
    else if ¬ o11 = (58 : Int32) then (nm (wI M14 19 0 0 12 (1 : Int32)) fun M20 => nm (wI M20 19 0 0 10 ((M20.1 19 0 0 10) + (1 : Int32))) fun M21 => some ((), M21))
    else nm (wI M14 19 0 0 12 (4 : Int32)) fun M22 => nm (wI M22 19 0 0 10 ((M22.1 19 0 0 10) + (1 : Int32))) fun M23 => some ((), M23))
    else nm (wI M14 19 0 0 12 (3 : Int32)) fun M24 => pX8_nextToken_187   fu M24)
    else nm (wI M12 19 0 0 12 (2 : Int32)) fun M25 => pX8_nextToken_96   fu M25)
    else nm (wI M10 19 0 0 12 (0 : Int32)) fun M26 => some ((), M26))
    else nm (wI M4 19 0 0 10 ((M4.1 19 0 0 10) + (1 : Int32))) fun M27 => pX8_nextToken_0   n M27
theorem lX8_nextToken_0 {K : KT} {G : WT} (C : Cx K G "PermitParkModel" cX8_nextToken 2 none) (hRm : K.2.2.2.1.frames = 2 ∧ K.2.2.2.1.locals = 42) (h0 : W0 G) : ∀ (n : Nat) (M : Mem), G.2.2.2.1 19 0 0 → Run K G 2 0 0 (FinM K G voV 0 0) 0 [(0, .ref (G.1 19 0 0))] [] M (pX8_nextToken_0   n  M) := by
  intro n
  induction n with
  | zero =>
    intro  M g_0
    exact r_none
  | succ n ih =>
    intro  M g_0
    rw [pX8_nextToken_0]
    refine r_aload_n (pc := 0) C 0 rfl rfl dX8_nextToken_0 ?_
    refine r_aload_n (pc := 1) C 0 rfl rfl dX8_nextToken_1 ?_
    refine r_getI (pc := 2) C FX8_position mw_1022 g_0 rfl rfl dX8_nextToken_2 ?_
    refine r_cVI (pc := 5) C hRm (okX8_byteAt h0 (M.1 19 0 0 10) M g_0) (Rc.of C rfl rfl g_0) mw_1106 cvX8_byteAt rfl ⟨Nat.le_of_ble_eq_true rfl, Nat.le_of_ble_eq_true rfl⟩ rfl (Nat.le_of_ble_eq_true rfl) dX8_nextToken_5 (fun o2 M1 => ?_)
    refine r_bipush (pc := 8) C dX8_nextToken_8 kb_32 ?_
    refine r_icmp_eq (pc := 10) C dX8_nextToken_10 (tgt := 26) rfl ?_ ?_
    refine r_aload_n (pc := 26) C 0 rfl rfl dX8_nextToken_26 ?_
    refine r_dup (pc := 27) C dX8_nextToken_27 rfl ?_
    refine r_getI (pc := 28) C FX8_position mw_1022 g_0 rfl rfl dX8_nextToken_28 ?_
    refine r_iconst (pc := 31) C dX8_nextToken_31 kc_1 ?_
    refine r_iadd (pc := 32) C dX8_nextToken_32 ?_
    refine r_putI (pc := 33) C FX8_position mw_1022 g_0 tyX8 tyX8_ok nmX8 (fun _ _ => rfl) rfl dX8_nextToken_33 (fun M3 => ?_)
    refine r_goto (pc := 36) C dX8_nextToken_36 (tgt := 0) rfl ?_
    exact ih M3 g_0
    refine r_aload_n (pc := 13) C 0 rfl rfl dX8_nextToken_13 ?_
    refine r_aload_n (pc := 14) C 0 rfl rfl dX8_nextToken_14 ?_
    refine r_getI (pc := 15) C FX8_position mw_1022 g_0 rfl rfl dX8_nextToken_15 ?_
    refine r_cVI (pc := 18) C hRm (okX8_byteAt h0 (M1.1 19 0 0 10) M1 g_0) (Rc.of C rfl rfl g_0) mw_1106 cvX8_byteAt rfl ⟨Nat.le_of_ble_eq_true rfl, Nat.le_of_ble_eq_true rfl⟩ rfl (Nat.le_of_ble_eq_true rfl) dX8_nextToken_18 (fun o5 M4 => ?_)
    refine r_bipush (pc := 21) C dX8_nextToken_21 kb_10 ?_
    refine r_icmp_ne (pc := 23) C dX8_nextToken_23 (tgt := 39) rfl ?_ ?_
    refine r_aload_n (pc := 39) C 0 rfl rfl dX8_nextToken_39 ?_
    refine r_aload_n (pc := 40) C 0 rfl rfl dX8_nextToken_40 ?_
    refine r_getI (pc := 41) C FX8_position mw_1022 g_0 rfl rfl dX8_nextToken_41 ?_
    refine r_putI (pc := 44) C FX8_tokenStart mw_1023 g_0 tyX8 tyX8_ok nmX8 (fun _ _ => rfl) rfl dX8_nextToken_44 (fun M6 => ?_)
    refine r_aload_n (pc := 47) C 0 rfl rfl dX8_nextToken_47 ?_
    refine r_iconst (pc := 48) C dX8_nextToken_48 kc_0 ?_
    refine r_putI (pc := 49) C FX8_letters mw_1025 g_0 tyX8 tyX8_ok nmX8 (fun _ _ => rfl) rfl dX8_nextToken_49 (fun M7 => ?_)
    refine r_aload_n (pc := 52) C 0 rfl rfl dX8_nextToken_52 ?_
    refine r_lconst (pc := 53) C dX8_nextToken_53 (rfl : _ = (0 : Int64)) ?_
    refine r_putW (pc := 54) C h0 FX8_word mw_1029 g_0 tyX8 tyX8_ok nmX8 dX8_nextToken_54 (fun M8 => ?_)
    refine r_aload_n (pc := 57) C 0 rfl rfl dX8_nextToken_57 ?_
    refine r_iconst (pc := 58) C dX8_nextToken_58 kc_0 ?_
    refine r_putI (pc := 59) C FX8_number mw_1026 g_0 tyX8 tyX8_ok nmX8 (fun _ _ => rfl) rfl dX8_nextToken_59 (fun M9 => ?_)
    refine r_aload_n (pc := 62) C 0 rfl rfl dX8_nextToken_62 ?_
    refine r_aload_n (pc := 63) C 0 rfl rfl dX8_nextToken_63 ?_
    refine r_getI (pc := 64) C FX8_position mw_1022 g_0 rfl rfl dX8_nextToken_64 ?_
    refine r_cVI (pc := 67) C hRm (okX8_byteAt h0 (M9.1 19 0 0 10) M9 g_0) (Rc.of C rfl rfl g_0) mw_1106 cvX8_byteAt rfl ⟨Nat.le_of_ble_eq_true rfl, Nat.le_of_ble_eq_true rfl⟩ rfl (Nat.le_of_ble_eq_true rfl) dX8_nextToken_67 (fun o11 M10 => ?_)
    refine r_istore_n (pc := 70) C [(1, .int o11), (0, .ref (G.1 19 0 0))] dX8_nextToken_70 rfl (by decide) rfl ?_
    refine r_iload_n (pc := 71) C 0 rfl rfl dX8_nextToken_71 ?_
    refine r_iconst (pc := 72) C dX8_nextToken_72 kc_m1 ?_
    refine r_icmp_ne (pc := 73) C dX8_nextToken_73 (tgt := 84) rfl ?_ ?_
    refine r_iload_n (pc := 84) C 0 rfl rfl dX8_nextToken_84 ?_
    refine r_cSI (pc := 85) C hRm (okX8_isLetter h0 o11 M10 ) mw_1110 cvX8_isLetter rfl ⟨Nat.le_of_ble_eq_true rfl, Nat.le_of_ble_eq_true rfl⟩ rfl (Nat.le_of_ble_eq_true rfl) dX8_nextToken_85 (fun o13 M12 => ?_)
    refine r_if_eq (pc := 88) C dX8_nextToken_88 (tgt := 175) rfl ?_ ?_
    refine r_iload_n (pc := 175) C 0 rfl rfl dX8_nextToken_175 ?_
    refine r_cSI (pc := 176) C hRm (okX8_isDigit h0 o11 M12 ) mw_1115 cvX8_isDigit rfl ⟨Nat.le_of_ble_eq_true rfl, Nat.le_of_ble_eq_true rfl⟩ rfl (Nat.le_of_ble_eq_true rfl) dX8_nextToken_176 (fun o15 M14 => ?_)
    refine r_if_eq (pc := 179) C dX8_nextToken_179 (tgt := 253) rfl ?_ ?_
    refine r_aload_n (pc := 253) C 1 rfl rfl dX8_nextToken_253 ?_
    refine r_iload_n (pc := 254) C 0 rfl rfl dX8_nextToken_254 ?_
    refine r_bipush (pc := 255) C dX8_nextToken_255 kb_59 ?_
    refine r_icmp_eq (pc := 257) C dX8_nextToken_257 (tgt := 272) rfl ?_ ?_
    refine r_iconst (pc := 272) C dX8_nextToken_272 kc_4 ?_
    refine r_goto (pc := 273) C dX8_nextToken_273 (tgt := 277) rfl ?_
    refine r_putI (pc := 277) C FX8_token mw_1024 g_0 tyX8 tyX8_ok nmX8 (fun _ _ => rfl) rfl dX8_nextToken_277 (fun M16 => ?_)
    refine r_aload_n (pc := 280) C 1 rfl rfl dX8_nextToken_280 ?_
    refine r_dup (pc := 281) C dX8_nextToken_281 rfl ?_
    refine r_getI (pc := 282) C FX8_position mw_1022 g_0 rfl rfl dX8_nextToken_282 ?_
    refine r_iconst (pc := 285) C dX8_nextToken_285 kc_1 ?_
    refine r_iadd (pc := 286) C dX8_nextToken_286 ?_
    refine r_putI (pc := 287) C FX8_position mw_1022 g_0 tyX8 tyX8_ok nmX8 (fun _ _ => rfl) rfl dX8_nextToken_287 (fun M17 => ?_)
    exact r_vret (pc := 290) C dX8_nextToken_290
    refine r_iload_n (pc := 260) C 0 rfl rfl dX8_nextToken_260 ?_
    refine r_bipush (pc := 261) C dX8_nextToken_261 kb_44 ?_
    refine r_icmp_eq (pc := 263) C dX8_nextToken_263 (tgt := 272) rfl ?_ ?_
    refine r_iconst (pc := 272) C dX8_nextToken_272 kc_4 ?_
    refine r_goto (pc := 273) C dX8_nextToken_273 (tgt := 277) rfl ?_
    refine r_putI (pc := 277) C FX8_token mw_1024 g_0 tyX8 tyX8_ok nmX8 (fun _ _ => rfl) rfl dX8_nextToken_277 (fun M18 => ?_)
    refine r_aload_n (pc := 280) C 1 rfl rfl dX8_nextToken_280 ?_
    refine r_dup (pc := 281) C dX8_nextToken_281 rfl ?_
    refine r_getI (pc := 282) C FX8_position mw_1022 g_0 rfl rfl dX8_nextToken_282 ?_
    refine r_iconst (pc := 285) C dX8_nextToken_285 kc_1 ?_
    refine r_iadd (pc := 286) C dX8_nextToken_286 ?_
    refine r_putI (pc := 287) C FX8_position mw_1022 g_0 tyX8 tyX8_ok nmX8 (fun _ _ => rfl) rfl dX8_nextToken_287 (fun M19 => ?_)
    exact r_vret (pc := 290) C dX8_nextToken_290
    refine r_iload_n (pc := 266) C 0 rfl rfl dX8_nextToken_266 ?_
    refine r_bipush (pc := 267) C dX8_nextToken_267 kb_58 ?_
    refine r_icmp_ne (pc := 269) C dX8_nextToken_269 (tgt := 276) rfl ?_ ?_
    refine r_iconst (pc := 276) C dX8_nextToken_276 kc_1 ?_
    refine r_putI (pc := 277) C FX8_token mw_1024 g_0 tyX8 tyX8_ok nmX8 (fun _ _ => rfl) rfl dX8_nextToken_277 (fun M20 => ?_)
    refine r_aload_n (pc := 280) C 1 rfl rfl dX8_nextToken_280 ?_
    refine r_dup (pc := 281) C dX8_nextToken_281 rfl ?_
    refine r_getI (pc := 282) C FX8_position mw_1022 g_0 rfl rfl dX8_nextToken_282 ?_
    refine r_iconst (pc := 285) C dX8_nextToken_285 kc_1 ?_
    refine r_iadd (pc := 286) C dX8_nextToken_286 ?_
    refine r_putI (pc := 287) C FX8_position mw_1022 g_0 tyX8 tyX8_ok nmX8 (fun _ _ => rfl) rfl dX8_nextToken_287 (fun M21 => ?_)
    exact r_vret (pc := 290) C dX8_nextToken_290
    refine r_iconst (pc := 272) C dX8_nextToken_272 kc_4 ?_
    refine r_goto (pc := 273) C dX8_nextToken_273 (tgt := 277) rfl ?_
    refine r_putI (pc := 277) C FX8_token mw_1024 g_0 tyX8 tyX8_ok nmX8 (fun _ _ => rfl) rfl dX8_nextToken_277 (fun M22 => ?_)
    refine r_aload_n (pc := 280) C 1 rfl rfl dX8_nextToken_280 ?_
    refine r_dup (pc := 281) C dX8_nextToken_281 rfl ?_
    refine r_getI (pc := 282) C FX8_position mw_1022 g_0 rfl rfl dX8_nextToken_282 ?_
    refine r_iconst (pc := 285) C dX8_nextToken_285 kc_1 ?_
    refine r_iadd (pc := 286) C dX8_nextToken_286 ?_
    refine r_putI (pc := 287) C FX8_position mw_1022 g_0 tyX8 tyX8_ok nmX8 (fun _ _ => rfl) rfl dX8_nextToken_287 (fun M23 => ?_)
    exact r_vret (pc := 290) C dX8_nextToken_290
    refine r_aload_n (pc := 182) C 1 rfl rfl dX8_nextToken_182 ?_
    refine r_iconst (pc := 183) C dX8_nextToken_183 kc_3 ?_
    refine r_putI (pc := 184) C FX8_token mw_1024 g_0 tyX8 tyX8_ok nmX8 (fun _ _ => rfl) rfl dX8_nextToken_184 (fun M24 => ?_)
    refine r_sub [1] rfl ?_
    exact lX8_nextToken_187   C hRm h0  fu M24 g_0
    refine r_aload_n (pc := 91) C 1 rfl rfl dX8_nextToken_91 ?_
    refine r_iconst (pc := 92) C dX8_nextToken_92 kc_2 ?_
    refine r_putI (pc := 93) C FX8_token mw_1024 g_0 tyX8 tyX8_ok nmX8 (fun _ _ => rfl) rfl dX8_nextToken_93 (fun M25 => ?_)
    refine r_sub [1] rfl ?_
    exact lX8_nextToken_96   C hRm h0  fu M25 g_0
    refine r_aload_n (pc := 76) C 1 rfl rfl dX8_nextToken_76 ?_
    refine r_iconst (pc := 77) C dX8_nextToken_77 kc_0 ?_
    refine r_putI (pc := 78) C FX8_token mw_1024 g_0 tyX8 tyX8_ok nmX8 (fun _ _ => rfl) rfl dX8_nextToken_78 (fun M26 => ?_)
    refine r_goto (pc := 81) C dX8_nextToken_81 (tgt := 290) rfl ?_
    exact r_vret (pc := 290) C dX8_nextToken_290
    refine r_aload_n (pc := 26) C 0 rfl rfl dX8_nextToken_26 ?_
    refine r_dup (pc := 27) C dX8_nextToken_27 rfl ?_
    refine r_getI (pc := 28) C FX8_position mw_1022 g_0 rfl rfl dX8_nextToken_28 ?_
    refine r_iconst (pc := 31) C dX8_nextToken_31 kc_1 ?_
    refine r_iadd (pc := 32) C dX8_nextToken_32 ?_
    refine r_putI (pc := 33) C FX8_position mw_1022 g_0 tyX8 tyX8_ok nmX8 (fun _ _ => rfl) rfl dX8_nextToken_33 (fun M27 => ?_)
    refine r_goto (pc := 36) C dX8_nextToken_36 (tgt := 0) rfl ?_
    exact ih M27 g_0
def pX8_nextToken (M : Mem) : Option (Unit × Mem) :=
    pX8_nextToken_0   fu M
theorem lX8_nextToken_E {K : KT} {G : WT} (C : Cx K G "PermitParkModel" cX8_nextToken 2 none) (hRm : K.2.2.2.1.frames = 2 ∧ K.2.2.2.1.locals = 42) (h0 : W0 G) (M : Mem) (h_0 : G.2.2.2.1 19 0 0) : Run K G 2 0 0 (FinM K G voV 0 0) 0 [(0, .ref (G.1 19 0 0))] [] M (pX8_nextToken    M) := by
  rw [pX8_nextToken]
  exact lX8_nextToken_0   C hRm h0  fu M h_0
theorem okX8_nextToken {l : Launch} {G : WT} (h0 : W0 G) (M : Mem) (h_0 : G.2.2.2.1 19 0 0) : Okm l G yX8_nextToken cX8_nextToken 2 none 2 42 [.ref (G.1 19 0 0)] voV M (pX8_nextToken   M) :=
  Okm.of "PermitParkModel" rfl (by decide) (Nat.le_of_ble_eq_true rfl) (L := [(0, .ref (G.1 19 0 0))]) rfl (fun K _ hr C => lX8_nextToken_E C (by rw [hr]; exact ⟨rfl, rfl⟩) h0  M h_0)
def pX8_isWord_26 (e1 : Nat) : Nat → Nat → Int64 → Int32 → Mem → Option (Int32 × Mem)
  | 0, _, _, _, _ => none
  | n + 1, n1e, v2, v4, M =>
    bnd (pJ0_length_8abf5 n1e M) fun o2 M1 => if o2 ≤ v4 then (if ¬ (lg_cmp M1.2.1 v2) = 0 then (chk (decide ((0 : Int32) = 0 ∨ (0 : Int32) = 1)) (some ((0 : Int32), M1)))
    else chk (decide ((1 : Int32) = 0 ∨ (1 : Int32) = 1)) (some ((1 : Int32), M1)))
    else bnd (pJ0_charAt_5068e n1e v4 M1) fun o4 M3 => nm ((((27 : Int64) * v2) + o4.toInt64) - (96 : Int64)) fun x5 => pX8_isWord_26 e1  n n1e x5 (v4 + (1 : Int32)) M3
theorem lX8_isWord_26 {K : KT} {G : WT} {e1 : Nat} (C : Cx K G "PermitParkModel" cX8_isWord 5 (some FieldType.boolean)) (hRm : K.2.2.2.1.frames = 4 ∧ K.2.2.2.1.locals = 85) (h0 : W0 G) : ∀ (n : Nat) (n1e : Nat) (v2 : Int64) (v4 : Int32) (M : Mem), G.2.2.2.1 19 0 0 → n1e < 14 → Run K G 5 0 0 (FinM K G voI 0 0) 26 [(0, .ref (G.1 19 0 0)), (1, .ref (G.2.2.2.2.2.2.1 n1e)), (2, .long v2), (4, .int v4)] [] M (pX8_isWord_26 e1  n n1e v2 v4 M) := by
  intro n
  induction n with
  | zero =>
    intro n1e v2 v4 M g_0 g_1
    exact r_none
  | succ n ih =>
    intro n1e v2 v4 M g_0 g_1
    rw [pX8_isWord_26]
    refine r_iload (pc := 26) C 3 rfl dX8_isWord_26 ?_
    refine r_aload_n (pc := 28) C 1 rfl rfl dX8_isWord_28 ?_
    refine r_cVI (pc := 29) C hRm (okJ0_length_8abf5 h0 n1e M g_1) (Rc.str C g_1) mw_1132 cvJ0_length_8abf5 rfl ⟨Nat.le_of_ble_eq_true rfl, Nat.le_of_ble_eq_true rfl⟩ rfl (Nat.le_of_ble_eq_true rfl) dX8_isWord_29 (fun o2 M1 => ?_)
    refine r_icmp_ge (pc := 32) C dX8_isWord_32 (tgt := 59) rfl ?_ ?_
    refine r_aload_n (pc := 59) C 0 rfl rfl dX8_isWord_59 ?_
    refine r_getW (pc := 60) C FX8_word mw_1029 g_0 dX8_isWord_60 ?_
    refine r_lload_n (pc := 63) C 2 rfl rfl dX8_isWord_63 ?_
    refine r_lcmp (pc := 64) C dX8_isWord_64 ?_
    refine r_if_ne (pc := 65) C dX8_isWord_65 (tgt := 72) rfl ?_ ?_
    refine r_iconst (pc := 72) C dX8_isWord_72 kc_0 ?_
    exact r_zret (pc := 73) C dX8_isWord_73
    refine r_iconst (pc := 68) C dX8_isWord_68 kc_1 ?_
    refine r_goto (pc := 69) C dX8_isWord_69 (tgt := 73) rfl ?_
    exact r_zret (pc := 73) C dX8_isWord_73
    refine r_ldc2 (pc := 35) C mw_1113 dX8_isWord_35 ?_
    refine r_lload_n (pc := 38) C 2 rfl rfl dX8_isWord_38 ?_
    refine r_lmul (pc := 39) C dX8_isWord_39 ?_
    refine r_aload_n (pc := 40) C 1 rfl rfl dX8_isWord_40 ?_
    refine r_iload (pc := 41) C 3 rfl dX8_isWord_41 ?_
    refine r_cVI (pc := 43) C hRm (okJ0_charAt_5068e h0 n1e v4 M1 g_1) (Rc.str C g_1) mw_1133 cvJ0_charAt_5068e rfl ⟨Nat.le_of_ble_eq_true rfl, Nat.le_of_ble_eq_true rfl⟩ rfl (Nat.le_of_ble_eq_true rfl) dX8_isWord_43 (fun o4 M3 => ?_)
    refine r_i2l (pc := 46) C dX8_isWord_46 ?_
    refine r_ladd (pc := 47) C dX8_isWord_47 ?_
    refine r_ldc2 (pc := 48) C mw_1114 dX8_isWord_48 ?_
    refine r_lsub (pc := 51) C dX8_isWord_51 ?_
    refine r_nml (fun x5 => ?_)
    refine r_lstore_n (pc := 52) C [(2, .long x5), (0, .ref (G.1 19 0 0)), (1, .ref (G.2.2.2.2.2.2.1 n1e)), (4, .int v4)] dX8_isWord_52 rfl (by decide) rfl ?_
    refine r_iinc (pc := 53) C [(4, .int (v4 + (1 : Int32))), (2, .long x5), (0, .ref (G.1 19 0 0)), (1, .ref (G.2.2.2.2.2.2.1 n1e))] dX8_isWord_53 (p := 3) rfl (ki_1 _) (by decide) rfl ?_
    refine r_goto (pc := 56) C dX8_isWord_56 (tgt := 26) rfl ?_
    refine r_sub [2, 3, 1, 0] rfl ?_
    exact ih n1e x5 (v4 + (1 : Int32)) M3 g_0 g_1
def pX8_isWord (e1 : Nat) (M : Mem) : Option (Int32 × Mem) :=
    if ¬ (M.1 19 0 0 12) = (2 : Int32) then (chk (decide ((0 : Int32) = 0 ∨ (0 : Int32) = 1)) (some ((0 : Int32), M)))
    else bnd (pJ0_length_8abf5 e1 M) fun o2 M1 => if (M.1 19 0 0 13) = o2 then (pX8_isWord_26 e1  fu e1 (0 : Int64) (0 : Int32) M1)
    else chk (decide ((0 : Int32) = 0 ∨ (0 : Int32) = 1)) (some ((0 : Int32), M1))
theorem lX8_isWord_0 {K : KT} {G : WT} {e1 : Nat} (C : Cx K G "PermitParkModel" cX8_isWord 5 (some FieldType.boolean)) (hRm : K.2.2.2.1.frames = 4 ∧ K.2.2.2.1.locals = 85) (h0 : W0 G) (M : Mem) (h_0 : G.2.2.2.1 19 0 0) (h_1 : e1 < 14) : Run K G 5 0 0 (FinM K G voI 0 0) 0 [(0, .ref (G.1 19 0 0)), (1, .ref (G.2.2.2.2.2.2.1 e1))] [] M (pX8_isWord e1   M) := by
  rw [pX8_isWord]
  refine r_aload_n (pc := 0) C 0 rfl rfl dX8_isWord_0 ?_
  refine r_getI (pc := 1) C FX8_token mw_1024 h_0 rfl rfl dX8_isWord_1 ?_
  refine r_iconst (pc := 4) C dX8_isWord_4 kc_2 ?_
  refine r_icmp_ne (pc := 5) C dX8_isWord_5 (tgt := 19) rfl ?_ ?_
  refine r_iconst (pc := 19) C dX8_isWord_19 kc_0 ?_
  exact r_zret (pc := 20) C dX8_isWord_20
  refine r_aload_n (pc := 8) C 0 rfl rfl dX8_isWord_8 ?_
  refine r_getI (pc := 9) C FX8_letters mw_1025 h_0 rfl rfl dX8_isWord_9 ?_
  refine r_aload_n (pc := 12) C 1 rfl rfl dX8_isWord_12 ?_
  refine r_cVI (pc := 13) C hRm (okJ0_length_8abf5 h0 e1 M h_1) (Rc.str C h_1) mw_1132 cvJ0_length_8abf5 rfl ⟨Nat.le_of_ble_eq_true rfl, Nat.le_of_ble_eq_true rfl⟩ rfl (Nat.le_of_ble_eq_true rfl) dX8_isWord_13 (fun o2 M1 => ?_)
  refine r_icmp_eq (pc := 16) C dX8_isWord_16 (tgt := 21) rfl ?_ ?_
  refine r_lconst (pc := 21) C dX8_isWord_21 (rfl : _ = (0 : Int64)) ?_
  refine r_lstore_n (pc := 22) C [(2, .long (0 : Int64)), (0, .ref (G.1 19 0 0)), (1, .ref (G.2.2.2.2.2.2.1 e1))] dX8_isWord_22 rfl (by decide) rfl ?_
  refine r_iconst (pc := 23) C dX8_isWord_23 kc_0 ?_
  refine r_istore (pc := 24) C [(4, .int (0 : Int32)), (2, .long (0 : Int64)), (0, .ref (G.1 19 0 0)), (1, .ref (G.2.2.2.2.2.2.1 e1))] dX8_isWord_24 (by decide) rfl ?_
  refine r_sub [2, 3, 1, 0] rfl ?_
  exact lX8_isWord_26 (e1 := e1)  C hRm h0  fu e1 (0 : Int64) (0 : Int32) M1 h_0 h_1
  refine r_iconst (pc := 19) C dX8_isWord_19 kc_0 ?_
  exact r_zret (pc := 20) C dX8_isWord_20
theorem okX8_isWord {l : Launch} {G : WT} (h0 : W0 G) (e1 : Nat) (M : Mem) (h_0 : G.2.2.2.1 19 0 0) (h_1 : e1 < 14) : Okm l G yX8_isWord cX8_isWord 5 (some FieldType.boolean) 4 85 [.ref (G.1 19 0 0), .ref (G.2.2.2.2.2.2.1 e1)] voI M (pX8_isWord e1  M) :=
  Okm.of "PermitParkModel" rfl (by decide) (Nat.le_of_ble_eq_true rfl) (L := [(0, .ref (G.1 19 0 0)), (1, .ref (G.2.2.2.2.2.2.1 e1))]) rfl (fun K _ hr C => lX8_isWord_0 C (by rw [hr]; exact ⟨rfl, rfl⟩) h0  M h_0 h_1)
def pX8_isSymbol (v1 : Int32) (M : Mem) : Option (Int32 × Mem) :=
    if ¬ (M.1 19 0 0 12) = (4 : Int32) then (chk (decide ((0 : Int32) = 0 ∨ (0 : Int32) = 1)) (some ((0 : Int32), M)))
    else chk (inB (M.1 19 0 0 11) 800) <| if ¬ (M.1 27 0 0 (M.1 19 0 0 11).toNatClampNeg) = v1 then (chk (decide ((0 : Int32) = 0 ∨ (0 : Int32) = 1)) (some ((0 : Int32), M)))
    else chk (decide ((1 : Int32) = 0 ∨ (1 : Int32) = 1)) (some ((1 : Int32), M))
theorem lX8_isSymbol_0 {K : KT} {G : WT} (C : Cx K G "PermitParkModel" cX8_isSymbol 2 (some FieldType.boolean)) (hRm : K.2.2.2.1.frames = 0 ∧ K.2.2.2.1.locals = 0) (h0 : W0 G) (v1 : Int32) (M : Mem) (h_0 : G.2.2.2.1 19 0 0) : Run K G 2 0 0 (FinM K G voI 0 0) 0 [(0, .ref (G.1 19 0 0)), (1, .int v1)] [] M (pX8_isSymbol   v1 M) := by
  rw [pX8_isSymbol]
  refine r_aload_n (pc := 0) C 0 rfl rfl dX8_isSymbol_0 ?_
  refine r_getI (pc := 1) C FX8_token mw_1024 h_0 rfl rfl dX8_isSymbol_1 ?_
  refine r_iconst (pc := 4) C dX8_isSymbol_4 kc_4 ?_
  refine r_icmp_ne (pc := 5) C dX8_isSymbol_5 (tgt := 25) rfl ?_ ?_
  refine r_iconst (pc := 25) C dX8_isSymbol_25 kc_0 ?_
  exact r_zret (pc := 26) C dX8_isSymbol_26
  refine r_aload_n (pc := 8) C 0 rfl rfl dX8_isSymbol_8 ?_
  refine r_getR (pc := 9) C FX8_text mw_1020 h_0 rfl dX8_isSymbol_9 (fun g1 => ?_)
  refine r_aload_n (pc := 12) C 0 rfl rfl dX8_isSymbol_12 ?_
  refine r_getI (pc := 13) C FX8_tokenStart mw_1023 h_0 rfl rfl dX8_isSymbol_13 ?_
  refine r_iald (pc := 16) C rfl g1 (fun _ => rfl) (fun _ => rfl) dX8_isSymbol_16 ?_
  refine r_iload_n (pc := 17) C 1 rfl rfl dX8_isSymbol_17 ?_
  refine r_icmp_ne (pc := 18) C dX8_isSymbol_18 (tgt := 25) rfl ?_ ?_
  refine r_iconst (pc := 25) C dX8_isSymbol_25 kc_0 ?_
  exact r_zret (pc := 26) C dX8_isSymbol_26
  refine r_iconst (pc := 21) C dX8_isSymbol_21 kc_1 ?_
  refine r_goto (pc := 22) C dX8_isSymbol_22 (tgt := 26) rfl ?_
  exact r_zret (pc := 26) C dX8_isSymbol_26
theorem okX8_isSymbol {l : Launch} {G : WT} (h0 : W0 G) (v1 : Int32) (M : Mem) (h_0 : G.2.2.2.1 19 0 0) : Okm l G yX8_isSymbol cX8_isSymbol 2 (some FieldType.boolean) 0 0 [.ref (G.1 19 0 0), .int v1] voI M (pX8_isSymbol  v1 M) :=
  Okm.of "PermitParkModel" rfl (by decide) (Nat.le_of_ble_eq_true rfl) (L := [(0, .ref (G.1 19 0 0)), (1, .int v1)]) rfl (fun K _ hr C => lX8_isSymbol_0 C (by rw [hr]; exact ⟨rfl, rfl⟩) h0 v1 M h_0)
def pX8_require (v1 : Int32) (v2 : Int32) (M : Mem) : Option (Unit × Mem) :=
    if ¬ v1 = 0 then (some ((), M))
    else if ¬ (M.1 19 0 0 15) = 0 then (some ((), M))
    else nm (wI M 19 0 0 15 v2) fun M1 => nm (wI M1 19 0 0 16 (M1.1 19 0 0 11)) fun M2 => some ((), M2)
theorem lX8_require_0 {K : KT} {G : WT} (C : Cx K G "PermitParkModel" cX8_require 3 none) (hRm : K.2.2.2.1.frames = 0 ∧ K.2.2.2.1.locals = 0) (h0 : W0 G) (v1 : Int32) (v2 : Int32) (M : Mem) (h_0 : G.2.2.2.1 19 0 0) : Run K G 3 0 0 (FinM K G voV 0 0) 0 [(0, .ref (G.1 19 0 0)), (1, .int v1), (2, .int v2)] [] M (pX8_require   v1 v2 M) := by
  rw [pX8_require]
  refine r_iload_n (pc := 0) C 1 rfl rfl dX8_require_0 ?_
  refine r_if_ne (pc := 1) C dX8_require_1 (tgt := 24) rfl ?_ ?_
  exact r_vret (pc := 24) C dX8_require_24
  refine r_aload_n (pc := 4) C 0 rfl rfl dX8_require_4 ?_
  refine r_getI (pc := 5) C FX8_errorCode mw_1027 h_0 rfl rfl dX8_require_5 ?_
  refine r_if_ne (pc := 8) C dX8_require_8 (tgt := 24) rfl ?_ ?_
  exact r_vret (pc := 24) C dX8_require_24
  refine r_aload_n (pc := 11) C 0 rfl rfl dX8_require_11 ?_
  refine r_iload_n (pc := 12) C 2 rfl rfl dX8_require_12 ?_
  refine r_putI (pc := 13) C FX8_errorCode mw_1027 h_0 tyX8 tyX8_ok nmX8 (fun _ _ => rfl) rfl dX8_require_13 (fun M1 => ?_)
  refine r_aload_n (pc := 16) C 0 rfl rfl dX8_require_16 ?_
  refine r_aload_n (pc := 17) C 0 rfl rfl dX8_require_17 ?_
  refine r_getI (pc := 18) C FX8_tokenStart mw_1023 h_0 rfl rfl dX8_require_18 ?_
  refine r_putI (pc := 21) C FX8_errorPosition mw_1028 h_0 tyX8 tyX8_ok nmX8 (fun _ _ => rfl) rfl dX8_require_21 (fun M2 => ?_)
  exact r_vret (pc := 24) C dX8_require_24
theorem okX8_require {l : Launch} {G : WT} (h0 : W0 G) (v1 : Int32) (v2 : Int32) (M : Mem) (h_0 : G.2.2.2.1 19 0 0) : Okm l G yX8_require cX8_require 3 none 0 0 [.ref (G.1 19 0 0), .int v1, .int v2] voV M (pX8_require  v1 v2 M) :=
  Okm.of "PermitParkModel" rfl (by decide) (Nat.le_of_ble_eq_true rfl) (L := [(0, .ref (G.1 19 0 0)), (1, .int v1), (2, .int v2)]) rfl (fun K _ hr C => lX8_require_0 C (by rw [hr]; exact ⟨rfl, rfl⟩) h0 v1 v2 M h_0)
def pX8_isFine (M : Mem) : Option (Int32 × Mem) :=
    if ¬ (M.1 19 0 0 15) = 0 then (chk (decide ((0 : Int32) = 0 ∨ (0 : Int32) = 1)) (some ((0 : Int32), M)))
    else chk (decide ((1 : Int32) = 0 ∨ (1 : Int32) = 1)) (some ((1 : Int32), M))
theorem lX8_isFine_0 {K : KT} {G : WT} (C : Cx K G "PermitParkModel" cX8_isFine 1 (some FieldType.boolean)) (hRm : K.2.2.2.1.frames = 0 ∧ K.2.2.2.1.locals = 0) (h0 : W0 G) (M : Mem) (h_0 : G.2.2.2.1 19 0 0) : Run K G 1 0 0 (FinM K G voI 0 0) 0 [(0, .ref (G.1 19 0 0))] [] M (pX8_isFine    M) := by
  rw [pX8_isFine]
  refine r_aload_n (pc := 0) C 0 rfl rfl dX8_isFine_0 ?_
  refine r_getI (pc := 1) C FX8_errorCode mw_1027 h_0 rfl rfl dX8_isFine_1 ?_
  refine r_if_ne (pc := 4) C dX8_isFine_4 (tgt := 11) rfl ?_ ?_
  refine r_iconst (pc := 11) C dX8_isFine_11 kc_0 ?_
  exact r_zret (pc := 12) C dX8_isFine_12
  refine r_iconst (pc := 7) C dX8_isFine_7 kc_1 ?_
  refine r_goto (pc := 8) C dX8_isFine_8 (tgt := 12) rfl ?_
  exact r_zret (pc := 12) C dX8_isFine_12
theorem okX8_isFine {l : Launch} {G : WT} (h0 : W0 G) (M : Mem) (h_0 : G.2.2.2.1 19 0 0) : Okm l G yX8_isFine cX8_isFine 1 (some FieldType.boolean) 0 0 [.ref (G.1 19 0 0)] voI M (pX8_isFine   M) :=
  Okm.of "PermitParkModel" rfl (by decide) (Nat.le_of_ble_eq_true rfl) (L := [(0, .ref (G.1 19 0 0))]) rfl (fun K _ hr C => lX8_isFine_0 C (by rw [hr]; exact ⟨rfl, rfl⟩) h0  M h_0)
def pX8_advance (M : Mem) : Option (Unit × Mem) :=
    bnd (pX8_isFine M) fun o2 M1 => if o2 = 0 then (some ((), M1))
    else bnd (pX8_nextToken M1) fun o4 M3 => some ((), M3)
theorem lX8_advance_0 {K : KT} {G : WT} (C : Cx K G "PermitParkModel" cX8_advance 1 none) (hRm : K.2.2.2.1.frames = 3 ∧ K.2.2.2.1.locals = 63) (h0 : W0 G) (M : Mem) (h_0 : G.2.2.2.1 19 0 0) : Run K G 1 0 0 (FinM K G voV 0 0) 0 [(0, .ref (G.1 19 0 0))] [] M (pX8_advance    M) := by
  rw [pX8_advance]
  refine r_aload_n (pc := 0) C 0 rfl rfl dX8_advance_0 ?_
  refine r_cVI (pc := 1) C hRm (okX8_isFine h0 M h_0) (Rc.of C rfl rfl h_0) mw_1119 cvX8_isFine rfl ⟨Nat.le_of_ble_eq_true rfl, Nat.le_of_ble_eq_true rfl⟩ rfl (Nat.le_of_ble_eq_true rfl) dX8_advance_1 (fun o2 M1 => ?_)
  refine r_if_eq (pc := 4) C dX8_advance_4 (tgt := 11) rfl ?_ ?_
  exact r_vret (pc := 11) C dX8_advance_11
  refine r_aload_n (pc := 7) C 0 rfl rfl dX8_advance_7 ?_
  refine r_cVV (pc := 8) C hRm (okX8_nextToken h0 M1 h_0) (Rc.of C rfl rfl h_0) mw_1102 cvX8_nextToken rfl ⟨Nat.le_of_ble_eq_true rfl, Nat.le_of_ble_eq_true rfl⟩ rfl (Nat.le_of_ble_eq_true rfl) dX8_advance_8 (fun o4 M3 => ?_)
  exact r_vret (pc := 11) C dX8_advance_11
theorem okX8_advance {l : Launch} {G : WT} (h0 : W0 G) (M : Mem) (h_0 : G.2.2.2.1 19 0 0) : Okm l G yX8_advance cX8_advance 1 none 3 63 [.ref (G.1 19 0 0)] voV M (pX8_advance   M) :=
  Okm.of "PermitParkModel" rfl (by decide) (Nat.le_of_ble_eq_true rfl) (L := [(0, .ref (G.1 19 0 0))]) rfl (fun K _ hr C => lX8_advance_0 C (by rw [hr]; exact ⟨rfl, rfl⟩) h0  M h_0)
def pX8_look_14 (v1 : Int32) (v2 : Int32) (s0 : Int32) (M : Mem) : Option (Unit × Mem) :=
    bnd (pX8_require s0 (1 : Int32) M) fun o2 M1 => bnd (pX8_isBetween (M1.1 19 0 0 14) v1 v2 M1) fun o4 M3 => bnd (pX8_require o4 (2 : Int32) M3) fun o6 M5 => some ((), M5)
theorem lX8_look_14 {K : KT} {G : WT} (C : Cx K G "PermitParkModel" cX8_look 3 none) (hRm : K.2.2.2.1.frames = 1 ∧ K.2.2.2.1.locals = 22) (h0 : W0 G) (v1 : Int32) (v2 : Int32) (s0 : Int32) (M : Mem) (g_0 : G.2.2.2.1 19 0 0) (g_s1 : G.2.2.2.1 19 0 0) : Run K G 3 0 0 (FinM K G voV 0 0) 14 [(0, .ref (G.1 19 0 0)), (1, .int v1), (2, .int v2)] [.int s0, .ref (G.1 19 0 0)] M (pX8_look_14   v1 v2 s0 M) := by
  rw [pX8_look_14]
  refine r_iconst (pc := 14) C dX8_look_14 kc_1 ?_
  refine r_cVV (pc := 15) C hRm (okX8_require h0 s0 (1 : Int32) M g_s1) (Rc.of C rfl rfl g_s1) mw_1138 cvX8_require rfl ⟨Nat.le_of_ble_eq_true rfl, Nat.le_of_ble_eq_true rfl⟩ rfl (Nat.le_of_ble_eq_true rfl) dX8_look_15 (fun o2 M1 => ?_)
  refine r_aload_n (pc := 18) C 0 rfl rfl dX8_look_18 ?_
  refine r_aload_n (pc := 19) C 0 rfl rfl dX8_look_19 ?_
  refine r_getI (pc := 20) C FX8_number mw_1026 g_s1 rfl rfl dX8_look_20 ?_
  refine r_iload_n (pc := 23) C 1 rfl rfl dX8_look_23 ?_
  refine r_iload_n (pc := 24) C 2 rfl rfl dX8_look_24 ?_
  refine r_cSI (pc := 25) C hRm (okX8_isBetween h0 (M1.1 19 0 0 14) v1 v2 M1 ) mw_1092 cvX8_isBetween rfl ⟨Nat.le_of_ble_eq_true rfl, Nat.le_of_ble_eq_true rfl⟩ rfl (Nat.le_of_ble_eq_true rfl) dX8_look_25 (fun o4 M3 => ?_)
  refine r_iconst (pc := 28) C dX8_look_28 kc_2 ?_
  refine r_cVV (pc := 29) C hRm (okX8_require h0 o4 (2 : Int32) M3 g_s1) (Rc.of C rfl rfl g_s1) mw_1138 cvX8_require rfl ⟨Nat.le_of_ble_eq_true rfl, Nat.le_of_ble_eq_true rfl⟩ rfl (Nat.le_of_ble_eq_true rfl) dX8_look_29 (fun o6 M5 => ?_)
  exact r_vret (pc := 32) C dX8_look_32
def pX8_look (v1 : Int32) (v2 : Int32) (M : Mem) : Option (Unit × Mem) :=
    if ¬ (M.1 19 0 0 12) = (3 : Int32) then (pX8_look_14    v1 v2 (0 : Int32) M)
    else pX8_look_14    v1 v2 (1 : Int32) M
theorem lX8_look_0 {K : KT} {G : WT} (C : Cx K G "PermitParkModel" cX8_look 3 none) (hRm : K.2.2.2.1.frames = 1 ∧ K.2.2.2.1.locals = 22) (h0 : W0 G) (v1 : Int32) (v2 : Int32) (M : Mem) (h_0 : G.2.2.2.1 19 0 0) : Run K G 3 0 0 (FinM K G voV 0 0) 0 [(0, .ref (G.1 19 0 0)), (1, .int v1), (2, .int v2)] [] M (pX8_look   v1 v2 M) := by
  rw [pX8_look]
  refine r_aload_n (pc := 0) C 0 rfl rfl dX8_look_0 ?_
  refine r_aload_n (pc := 1) C 0 rfl rfl dX8_look_1 ?_
  refine r_getI (pc := 2) C FX8_token mw_1024 h_0 rfl rfl dX8_look_2 ?_
  refine r_iconst (pc := 5) C dX8_look_5 kc_3 ?_
  refine r_icmp_ne (pc := 6) C dX8_look_6 (tgt := 13) rfl ?_ ?_
  refine r_iconst (pc := 13) C dX8_look_13 kc_0 ?_
  exact lX8_look_14   C hRm h0   v1 v2 (0 : Int32) M h_0 h_0
  refine r_iconst (pc := 9) C dX8_look_9 kc_1 ?_
  refine r_goto (pc := 10) C dX8_look_10 (tgt := 14) rfl ?_
  exact lX8_look_14   C hRm h0   v1 v2 (1 : Int32) M h_0 h_0
theorem okX8_look {l : Launch} {G : WT} (h0 : W0 G) (v1 : Int32) (v2 : Int32) (M : Mem) (h_0 : G.2.2.2.1 19 0 0) : Okm l G yX8_look cX8_look 3 none 1 22 [.ref (G.1 19 0 0), .int v1, .int v2] voV M (pX8_look  v1 v2 M) :=
  Okm.of "PermitParkModel" rfl (by decide) (Nat.le_of_ble_eq_true rfl) (L := [(0, .ref (G.1 19 0 0)), (1, .int v1), (2, .int v2)]) rfl (fun K _ hr C => lX8_look_0 C (by rw [hr]; exact ⟨rfl, rfl⟩) h0 v1 v2 M h_0)
def pX8_parseNumber (v1 : Int32) (v2 : Int32) (M : Mem) : Option (Int32 × Mem) :=
    bnd (pX8_look v1 v2 M) fun o2 M1 => nm (M1.1 19 0 0 14) fun x3 => bnd (pX8_advance M1) fun o5 M4 => some (x3, M4)
theorem lX8_parseNumber_0 {K : KT} {G : WT} (C : Cx K G "PermitParkModel" cX8_parseNumber 4 (some FieldType.int)) (hRm : K.2.2.2.1.frames = 4 ∧ K.2.2.2.1.locals = 83) (h0 : W0 G) (v1 : Int32) (v2 : Int32) (M : Mem) (h_0 : G.2.2.2.1 19 0 0) : Run K G 4 0 0 (FinM K G voI 0 0) 0 [(0, .ref (G.1 19 0 0)), (1, .int v1), (2, .int v2)] [] M (pX8_parseNumber   v1 v2 M) := by
  rw [pX8_parseNumber]
  refine r_aload_n (pc := 0) C 0 rfl rfl dX8_parseNumber_0 ?_
  refine r_iload_n (pc := 1) C 1 rfl rfl dX8_parseNumber_1 ?_
  refine r_iload_n (pc := 2) C 2 rfl rfl dX8_parseNumber_2 ?_
  refine r_cVV (pc := 3) C hRm (okX8_look h0 v1 v2 M h_0) (Rc.of C rfl rfl h_0) mw_1150 cvX8_look rfl ⟨Nat.le_of_ble_eq_true rfl, Nat.le_of_ble_eq_true rfl⟩ rfl (Nat.le_of_ble_eq_true rfl) dX8_parseNumber_3 (fun o2 M1 => ?_)
  refine r_aload_n (pc := 6) C 0 rfl rfl dX8_parseNumber_6 ?_
  refine r_getI (pc := 7) C FX8_number mw_1026 h_0 rfl rfl dX8_parseNumber_7 ?_
  refine r_nmi (fun x3 => ?_)
  refine r_istore_n (pc := 10) C [(3, .int x3), (0, .ref (G.1 19 0 0)), (1, .int v1), (2, .int v2)] dX8_parseNumber_10 rfl (by decide) rfl ?_
  refine r_aload_n (pc := 11) C 1 rfl rfl dX8_parseNumber_11 ?_
  refine r_cVV (pc := 12) C hRm (okX8_advance h0 M1 h_0) (Rc.of C rfl rfl h_0) mw_1142 cvX8_advance rfl ⟨Nat.le_of_ble_eq_true rfl, Nat.le_of_ble_eq_true rfl⟩ rfl (Nat.le_of_ble_eq_true rfl) dX8_parseNumber_12 (fun o5 M4 => ?_)
  refine r_iload_n (pc := 15) C 0 rfl rfl dX8_parseNumber_15 ?_
  exact r_iret (pc := 16) C rfl dX8_parseNumber_16
theorem okX8_parseNumber {l : Launch} {G : WT} (h0 : W0 G) (v1 : Int32) (v2 : Int32) (M : Mem) (h_0 : G.2.2.2.1 19 0 0) : Okm l G yX8_parseNumber cX8_parseNumber 4 (some FieldType.int) 4 83 [.ref (G.1 19 0 0), .int v1, .int v2] voI M (pX8_parseNumber  v1 v2 M) :=
  Okm.of "PermitParkModel" rfl (by decide) (Nat.le_of_ble_eq_true rfl) (L := [(0, .ref (G.1 19 0 0)), (1, .int v1), (2, .int v2)]) rfl (fun K _ hr C => lX8_parseNumber_0 C (by rw [hr]; exact ⟨rfl, rfl⟩) h0 v1 v2 M h_0)
def pX8_parseSymbol (v1 : Int32) (M : Mem) : Option (Unit × Mem) :=
    bnd (pX8_isSymbol v1 M) fun o2 M1 => bnd (pX8_require o2 (1 : Int32) M1) fun o4 M3 => bnd (pX8_advance M3) fun o6 M5 => some ((), M5)
theorem lX8_parseSymbol_0 {K : KT} {G : WT} (C : Cx K G "PermitParkModel" cX8_parseSymbol 2 none) (hRm : K.2.2.2.1.frames = 4 ∧ K.2.2.2.1.locals = 83) (h0 : W0 G) (v1 : Int32) (M : Mem) (h_0 : G.2.2.2.1 19 0 0) : Run K G 2 0 0 (FinM K G voV 0 0) 0 [(0, .ref (G.1 19 0 0)), (1, .int v1)] [] M (pX8_parseSymbol   v1 M) := by
  rw [pX8_parseSymbol]
  refine r_aload_n (pc := 0) C 0 rfl rfl dX8_parseSymbol_0 ?_
  refine r_aload_n (pc := 1) C 0 rfl rfl dX8_parseSymbol_1 ?_
  refine r_iload_n (pc := 2) C 1 rfl rfl dX8_parseSymbol_2 ?_
  refine r_cVI (pc := 3) C hRm (okX8_isSymbol h0 v1 M h_0) (Rc.of C rfl rfl h_0) mw_1158 cvX8_isSymbol rfl ⟨Nat.le_of_ble_eq_true rfl, Nat.le_of_ble_eq_true rfl⟩ rfl (Nat.le_of_ble_eq_true rfl) dX8_parseSymbol_3 (fun o2 M1 => ?_)
  refine r_iconst (pc := 6) C dX8_parseSymbol_6 kc_1 ?_
  refine r_cVV (pc := 7) C hRm (okX8_require h0 o2 (1 : Int32) M1 h_0) (Rc.of C rfl rfl h_0) mw_1138 cvX8_require rfl ⟨Nat.le_of_ble_eq_true rfl, Nat.le_of_ble_eq_true rfl⟩ rfl (Nat.le_of_ble_eq_true rfl) dX8_parseSymbol_7 (fun o4 M3 => ?_)
  refine r_aload_n (pc := 10) C 0 rfl rfl dX8_parseSymbol_10 ?_
  refine r_cVV (pc := 11) C hRm (okX8_advance h0 M3 h_0) (Rc.of C rfl rfl h_0) mw_1142 cvX8_advance rfl ⟨Nat.le_of_ble_eq_true rfl, Nat.le_of_ble_eq_true rfl⟩ rfl (Nat.le_of_ble_eq_true rfl) dX8_parseSymbol_11 (fun o6 M5 => ?_)
  exact r_vret (pc := 14) C dX8_parseSymbol_14
theorem okX8_parseSymbol {l : Launch} {G : WT} (h0 : W0 G) (v1 : Int32) (M : Mem) (h_0 : G.2.2.2.1 19 0 0) : Okm l G yX8_parseSymbol cX8_parseSymbol 2 none 4 83 [.ref (G.1 19 0 0), .int v1] voV M (pX8_parseSymbol  v1 M) :=
  Okm.of "PermitParkModel" rfl (by decide) (Nat.le_of_ble_eq_true rfl) (L := [(0, .ref (G.1 19 0 0)), (1, .int v1)]) rfl (fun K _ hr C => lX8_parseSymbol_0 C (by rw [hr]; exact ⟨rfl, rfl⟩) h0 v1 M h_0)
def pX8_laterCodeHere (M : Mem) : Option (Int32 × Mem) :=
    bnd (pX8_isWord 6 M) fun o2 M1 => if o2 = 0 then (bnd (pX8_isWord 7 M1) fun o4 M3 => if o4 = 0 then (bnd (pX8_isWord 8 M3) fun o6 M5 => if o6 = 0 then (bnd (pX8_isWord 9 M5) fun o8 M7 => if o8 = 0 then (bnd (pX8_isWord 10 M7) fun o10 M9 => if o10 = 0 then (some ((-1 : Int32), M9))
    else some ((10 : Int32), M9))
    else some ((9 : Int32), M7))
    else some ((8 : Int32), M5))
    else some ((7 : Int32), M3))
    else some ((6 : Int32), M1)
theorem lX8_laterCodeHere_0 {K : KT} {G : WT} (C : Cx K G "PermitParkModel" cX8_laterCodeHere 1 (some FieldType.int)) (hRm : K.2.2.2.1.frames = 5 ∧ K.2.2.2.1.locals = 109) (h0 : W0 G) (M : Mem) (h_0 : G.2.2.2.1 19 0 0) : Run K G 1 0 0 (FinM K G voI 0 0) 0 [(0, .ref (G.1 19 0 0))] [] M (pX8_laterCodeHere    M) := by
  rw [pX8_laterCodeHere]
  refine r_aload_n (pc := 0) C 0 rfl rfl dX8_laterCodeHere_0 ?_
  refine r_ldcS (pc := 1) C (q := ("PermitParkModel", 151, "wake", 6)) (by decide +kernel) rfl dX8_laterCodeHere_1 ?_
  refine r_cVI (pc := 3) C hRm (okX8_isWord h0 6 M h_0 (by decide)) (Rc.of C rfl rfl h_0) mw_1128 cvX8_isWord rfl ⟨Nat.le_of_ble_eq_true rfl, Nat.le_of_ble_eq_true rfl⟩ rfl (Nat.le_of_ble_eq_true rfl) dX8_laterCodeHere_3 (fun o2 M1 => ?_)
  refine r_if_eq (pc := 6) C dX8_laterCodeHere_6 (tgt := 12) rfl ?_ ?_
  refine r_aload_n (pc := 12) C 0 rfl rfl dX8_laterCodeHere_12 ?_
  refine r_ldcS (pc := 13) C (q := ("PermitParkModel", 153, "tell", 7)) (by decide +kernel) rfl dX8_laterCodeHere_13 ?_
  refine r_cVI (pc := 15) C hRm (okX8_isWord h0 7 M1 h_0 (by decide)) (Rc.of C rfl rfl h_0) mw_1128 cvX8_isWord rfl ⟨Nat.le_of_ble_eq_true rfl, Nat.le_of_ble_eq_true rfl⟩ rfl (Nat.le_of_ble_eq_true rfl) dX8_laterCodeHere_15 (fun o4 M3 => ?_)
  refine r_if_eq (pc := 18) C dX8_laterCodeHere_18 (tgt := 24) rfl ?_ ?_
  refine r_aload_n (pc := 24) C 0 rfl rfl dX8_laterCodeHere_24 ?_
  refine r_ldcS (pc := 25) C (q := ("PermitParkModel", 155, "steal", 8)) (by decide +kernel) rfl dX8_laterCodeHere_25 ?_
  refine r_cVI (pc := 27) C hRm (okX8_isWord h0 8 M3 h_0 (by decide)) (Rc.of C rfl rfl h_0) mw_1128 cvX8_isWord rfl ⟨Nat.le_of_ble_eq_true rfl, Nat.le_of_ble_eq_true rfl⟩ rfl (Nat.le_of_ble_eq_true rfl) dX8_laterCodeHere_27 (fun o6 M5 => ?_)
  refine r_if_eq (pc := 30) C dX8_laterCodeHere_30 (tgt := 36) rfl ?_ ?_
  refine r_aload_n (pc := 36) C 0 rfl rfl dX8_laterCodeHere_36 ?_
  refine r_ldcS (pc := 37) C (q := ("PermitParkModel", 157, "lock", 9)) (by decide +kernel) rfl dX8_laterCodeHere_37 ?_
  refine r_cVI (pc := 39) C hRm (okX8_isWord h0 9 M5 h_0 (by decide)) (Rc.of C rfl rfl h_0) mw_1128 cvX8_isWord rfl ⟨Nat.le_of_ble_eq_true rfl, Nat.le_of_ble_eq_true rfl⟩ rfl (Nat.le_of_ble_eq_true rfl) dX8_laterCodeHere_39 (fun o8 M7 => ?_)
  refine r_if_eq (pc := 42) C dX8_laterCodeHere_42 (tgt := 48) rfl ?_ ?_
  refine r_aload_n (pc := 48) C 0 rfl rfl dX8_laterCodeHere_48 ?_
  refine r_ldcS (pc := 49) C (q := ("PermitParkModel", 159, "unlock", 10)) (by decide +kernel) rfl dX8_laterCodeHere_49 ?_
  refine r_cVI (pc := 51) C hRm (okX8_isWord h0 10 M7 h_0 (by decide)) (Rc.of C rfl rfl h_0) mw_1128 cvX8_isWord rfl ⟨Nat.le_of_ble_eq_true rfl, Nat.le_of_ble_eq_true rfl⟩ rfl (Nat.le_of_ble_eq_true rfl) dX8_laterCodeHere_51 (fun o10 M9 => ?_)
  refine r_if_eq (pc := 54) C dX8_laterCodeHere_54 (tgt := 62) rfl ?_ ?_
  refine r_iconst (pc := 62) C dX8_laterCodeHere_62 kc_m1 ?_
  exact r_iret (pc := 63) C rfl dX8_laterCodeHere_63
  refine r_bipush (pc := 57) C dX8_laterCodeHere_57 kb_10 ?_
  refine r_goto (pc := 59) C dX8_laterCodeHere_59 (tgt := 63) rfl ?_
  exact r_iret (pc := 63) C rfl dX8_laterCodeHere_63
  refine r_bipush (pc := 45) C dX8_laterCodeHere_45 kb_9 ?_
  exact r_iret (pc := 47) C rfl dX8_laterCodeHere_47
  refine r_bipush (pc := 33) C dX8_laterCodeHere_33 kb_8 ?_
  exact r_iret (pc := 35) C rfl dX8_laterCodeHere_35
  refine r_bipush (pc := 21) C dX8_laterCodeHere_21 kb_7 ?_
  exact r_iret (pc := 23) C rfl dX8_laterCodeHere_23
  refine r_bipush (pc := 9) C dX8_laterCodeHere_9 kb_6 ?_
  exact r_iret (pc := 11) C rfl dX8_laterCodeHere_11
theorem okX8_laterCodeHere {l : Launch} {G : WT} (h0 : W0 G) (M : Mem) (h_0 : G.2.2.2.1 19 0 0) : Okm l G yX8_laterCodeHere cX8_laterCodeHere 1 (some FieldType.int) 5 109 [.ref (G.1 19 0 0)] voI M (pX8_laterCodeHere   M) :=
  Okm.of "PermitParkModel" rfl (by decide) (Nat.le_of_ble_eq_true rfl) (L := [(0, .ref (G.1 19 0 0))]) rfl (fun K _ hr C => lX8_laterCodeHere_0 C (by rw [hr]; exact ⟨rfl, rfl⟩) h0  M h_0)
def pX8_codeHere (M : Mem) : Option (Int32 × Mem) :=
    bnd (pX8_isWord 0 M) fun o2 M1 => if o2 = 0 then (bnd (pX8_isWord 1 M1) fun o4 M3 => if o4 = 0 then (bnd (pX8_isWord 2 M3) fun o6 M5 => if o6 = 0 then (bnd (pX8_isWord 3 M5) fun o8 M7 => if o8 = 0 then (bnd (pX8_isWord 4 M7) fun o10 M9 => if o10 = 0 then (bnd (pX8_isWord 5 M9) fun o12 M11 => if o12 = 0 then (bnd (pX8_laterCodeHere M11) fun o14 M13 => some (o14, M13))
    else some ((5 : Int32), M11))
    else some ((4 : Int32), M9))
    else some ((3 : Int32), M7))
    else some ((2 : Int32), M5))
    else some ((1 : Int32), M3))
    else some ((0 : Int32), M1)
theorem lX8_codeHere_0 {K : KT} {G : WT} (C : Cx K G "PermitParkModel" cX8_codeHere 1 (some FieldType.int)) (hRm : K.2.2.2.1.frames = 6 ∧ K.2.2.2.1.locals = 129) (h0 : W0 G) (M : Mem) (h_0 : G.2.2.2.1 19 0 0) : Run K G 1 0 0 (FinM K G voI 0 0) 0 [(0, .ref (G.1 19 0 0))] [] M (pX8_codeHere    M) := by
  rw [pX8_codeHere]
  refine r_aload_n (pc := 0) C 0 rfl rfl dX8_codeHere_0 ?_
  refine r_ldcS (pc := 1) C (q := ("PermitParkModel", 133, "run", 0)) (by decide +kernel) rfl dX8_codeHere_1 ?_
  refine r_cVI (pc := 3) C hRm (okX8_isWord h0 0 M h_0 (by decide)) (Rc.of C rfl rfl h_0) mw_1128 cvX8_isWord rfl ⟨Nat.le_of_ble_eq_true rfl, Nat.le_of_ble_eq_true rfl⟩ rfl (Nat.le_of_ble_eq_true rfl) dX8_codeHere_3 (fun o2 M1 => ?_)
  refine r_if_eq (pc := 6) C dX8_codeHere_6 (tgt := 11) rfl ?_ ?_
  refine r_aload_n (pc := 11) C 0 rfl rfl dX8_codeHere_11 ?_
  refine r_ldcS (pc := 12) C (q := ("PermitParkModel", 139, "park", 1)) (by decide +kernel) rfl dX8_codeHere_12 ?_
  refine r_cVI (pc := 14) C hRm (okX8_isWord h0 1 M1 h_0 (by decide)) (Rc.of C rfl rfl h_0) mw_1128 cvX8_isWord rfl ⟨Nat.le_of_ble_eq_true rfl, Nat.le_of_ble_eq_true rfl⟩ rfl (Nat.le_of_ble_eq_true rfl) dX8_codeHere_14 (fun o4 M3 => ?_)
  refine r_if_eq (pc := 17) C dX8_codeHere_17 (tgt := 22) rfl ?_ ?_
  refine r_aload_n (pc := 22) C 0 rfl rfl dX8_codeHere_22 ?_
  refine r_ldcS (pc := 23) C (q := ("PermitParkModel", 141, "nap", 2)) (by decide +kernel) rfl dX8_codeHere_23 ?_
  refine r_cVI (pc := 25) C hRm (okX8_isWord h0 2 M3 h_0 (by decide)) (Rc.of C rfl rfl h_0) mw_1128 cvX8_isWord rfl ⟨Nat.le_of_ble_eq_true rfl, Nat.le_of_ble_eq_true rfl⟩ rfl (Nat.le_of_ble_eq_true rfl) dX8_codeHere_25 (fun o6 M5 => ?_)
  refine r_if_eq (pc := 28) C dX8_codeHere_28 (tgt := 33) rfl ?_ ?_
  refine r_aload_n (pc := 33) C 0 rfl rfl dX8_codeHere_33 ?_
  refine r_ldcS (pc := 34) C (q := ("PermitParkModel", 143, "await", 3)) (by decide +kernel) rfl dX8_codeHere_34 ?_
  refine r_cVI (pc := 36) C hRm (okX8_isWord h0 3 M5 h_0 (by decide)) (Rc.of C rfl rfl h_0) mw_1128 cvX8_isWord rfl ⟨Nat.le_of_ble_eq_true rfl, Nat.le_of_ble_eq_true rfl⟩ rfl (Nat.le_of_ble_eq_true rfl) dX8_codeHere_36 (fun o8 M7 => ?_)
  refine r_if_eq (pc := 39) C dX8_codeHere_39 (tgt := 44) rfl ?_ ?_
  refine r_aload_n (pc := 44) C 0 rfl rfl dX8_codeHere_44 ?_
  refine r_ldcS (pc := 45) C (q := ("PermitParkModel", 145, "set", 4)) (by decide +kernel) rfl dX8_codeHere_45 ?_
  refine r_cVI (pc := 47) C hRm (okX8_isWord h0 4 M7 h_0 (by decide)) (Rc.of C rfl rfl h_0) mw_1128 cvX8_isWord rfl ⟨Nat.le_of_ble_eq_true rfl, Nat.le_of_ble_eq_true rfl⟩ rfl (Nat.le_of_ble_eq_true rfl) dX8_codeHere_47 (fun o10 M9 => ?_)
  refine r_if_eq (pc := 50) C dX8_codeHere_50 (tgt := 55) rfl ?_ ?_
  refine r_aload_n (pc := 55) C 0 rfl rfl dX8_codeHere_55 ?_
  refine r_ldcS (pc := 56) C (q := ("PermitParkModel", 147, "clear", 5)) (by decide +kernel) rfl dX8_codeHere_56 ?_
  refine r_cVI (pc := 58) C hRm (okX8_isWord h0 5 M9 h_0 (by decide)) (Rc.of C rfl rfl h_0) mw_1128 cvX8_isWord rfl ⟨Nat.le_of_ble_eq_true rfl, Nat.le_of_ble_eq_true rfl⟩ rfl (Nat.le_of_ble_eq_true rfl) dX8_codeHere_58 (fun o12 M11 => ?_)
  refine r_if_eq (pc := 61) C dX8_codeHere_61 (tgt := 66) rfl ?_ ?_
  refine r_aload_n (pc := 66) C 0 rfl rfl dX8_codeHere_66 ?_
  refine r_cVI (pc := 67) C hRm (okX8_laterCodeHere h0 M11 h_0) (Rc.of C rfl rfl h_0) mw_1184 cvX8_laterCodeHere rfl ⟨Nat.le_of_ble_eq_true rfl, Nat.le_of_ble_eq_true rfl⟩ rfl (Nat.le_of_ble_eq_true rfl) dX8_codeHere_67 (fun o14 M13 => ?_)
  exact r_iret (pc := 70) C rfl dX8_codeHere_70
  refine r_iconst (pc := 64) C dX8_codeHere_64 kc_5 ?_
  exact r_iret (pc := 65) C rfl dX8_codeHere_65
  refine r_iconst (pc := 53) C dX8_codeHere_53 kc_4 ?_
  exact r_iret (pc := 54) C rfl dX8_codeHere_54
  refine r_iconst (pc := 42) C dX8_codeHere_42 kc_3 ?_
  exact r_iret (pc := 43) C rfl dX8_codeHere_43
  refine r_iconst (pc := 31) C dX8_codeHere_31 kc_2 ?_
  exact r_iret (pc := 32) C rfl dX8_codeHere_32
  refine r_iconst (pc := 20) C dX8_codeHere_20 kc_1 ?_
  exact r_iret (pc := 21) C rfl dX8_codeHere_21
  refine r_iconst (pc := 9) C dX8_codeHere_9 kc_0 ?_
  exact r_iret (pc := 10) C rfl dX8_codeHere_10
theorem okX8_codeHere {l : Launch} {G : WT} (h0 : W0 G) (M : Mem) (h_0 : G.2.2.2.1 19 0 0) : Okm l G yX8_codeHere cX8_codeHere 1 (some FieldType.int) 6 129 [.ref (G.1 19 0 0)] voI M (pX8_codeHere   M) :=
  Okm.of "PermitParkModel" rfl (by decide) (Nat.le_of_ble_eq_true rfl) (L := [(0, .ref (G.1 19 0 0))]) rfl (fun K _ hr C => lX8_codeHere_0 C (by rw [hr]; exact ⟨rfl, rfl⟩) h0  M h_0)
def pX8_appendInstruction (v1 : Int32) (v2 : Int32) (v3 : Int32) (M : Mem) : Option (Unit × Mem) :=
    bnd (pX8_of v1 (1 : Int32) M) fun o2 M1 => bnd (pX8_codePlace v1 o2 M1) fun o4 M3 => chk (inB o4 700) <| nm (wI M3 20 0 0 o4.toNatClampNeg v2) fun M6 => chk (inB (o4 + (1 : Int32)) 700) <| nm (wI M6 20 0 0 (o4 + (1 : Int32)).toNatClampNeg v3) fun M8 => bnd (pX8_grow v1 (1 : Int32) M8) fun o10 M9 => some ((), M9)
theorem lX8_appendInstruction_0 {K : KT} {G : WT} (C : Cx K G "PermitParkModel" cX8_appendInstruction 5 none) (hRm : K.2.2.2.1.frames = 1 ∧ K.2.2.2.1.locals = 22) (h0 : W0 G) (v1 : Int32) (v2 : Int32) (v3 : Int32) (M : Mem) (h_0 : G.2.2.2.1 19 0 0) : Run K G 5 0 0 (FinM K G voV 0 0) 0 [(0, .ref (G.1 19 0 0)), (1, .int v1), (2, .int v2), (3, .int v3)] [] M (pX8_appendInstruction   v1 v2 v3 M) := by
  rw [pX8_appendInstruction]
  refine r_iload_n (pc := 0) C 1 rfl rfl dX8_appendInstruction_0 ?_
  refine r_aload_n (pc := 1) C 0 rfl rfl dX8_appendInstruction_1 ?_
  refine r_iload_n (pc := 2) C 1 rfl rfl dX8_appendInstruction_2 ?_
  refine r_iconst (pc := 3) C dX8_appendInstruction_3 kc_1 ?_
  refine r_cVI (pc := 4) C hRm (okX8_of h0 v1 (1 : Int32) M h_0) (Rc.of C rfl rfl h_0) mw_1193 cvX8_of rfl ⟨Nat.le_of_ble_eq_true rfl, Nat.le_of_ble_eq_true rfl⟩ rfl (Nat.le_of_ble_eq_true rfl) dX8_appendInstruction_4 (fun o2 M1 => ?_)
  refine r_cSI (pc := 7) C hRm (okX8_codePlace h0 v1 o2 M1 ) mw_1201 cvX8_codePlace rfl ⟨Nat.le_of_ble_eq_true rfl, Nat.le_of_ble_eq_true rfl⟩ rfl (Nat.le_of_ble_eq_true rfl) dX8_appendInstruction_7 (fun o4 M3 => ?_)
  refine r_istore (pc := 10) C [(4, .int o4), (0, .ref (G.1 19 0 0)), (1, .int v1), (2, .int v2), (3, .int v3)] dX8_appendInstruction_10 (by decide) rfl ?_
  refine r_aload_n (pc := 12) C 1 rfl rfl dX8_appendInstruction_12 ?_
  refine r_getR (pc := 13) C FX8_state mw_1012 h_0 rfl dX8_appendInstruction_13 (fun g5 => ?_)
  refine r_iload (pc := 16) C 0 rfl dX8_appendInstruction_16 ?_
  refine r_iload_n (pc := 18) C 3 rfl rfl dX8_appendInstruction_18 ?_
  refine r_iast (pc := 19) C rfl g5 (fun _ => rfl) (fun _ => rfl) dX8_appendInstruction_19 (fun M6 => ?_)
  refine r_aload_n (pc := 20) C 1 rfl rfl dX8_appendInstruction_20 ?_
  refine r_getR (pc := 21) C FX8_state mw_1012 h_0 rfl dX8_appendInstruction_21 (fun g7 => ?_)
  refine r_iload (pc := 24) C 0 rfl dX8_appendInstruction_24 ?_
  refine r_iconst (pc := 26) C dX8_appendInstruction_26 kc_1 ?_
  refine r_iadd (pc := 27) C dX8_appendInstruction_27 ?_
  refine r_iload_n (pc := 28) C 4 rfl rfl dX8_appendInstruction_28 ?_
  refine r_iast (pc := 29) C rfl g5 (fun _ => rfl) (fun _ => rfl) dX8_appendInstruction_29 (fun M8 => ?_)
  refine r_aload_n (pc := 30) C 1 rfl rfl dX8_appendInstruction_30 ?_
  refine r_iload_n (pc := 31) C 2 rfl rfl dX8_appendInstruction_31 ?_
  refine r_iconst (pc := 32) C dX8_appendInstruction_32 kc_1 ?_
  refine r_cVV (pc := 33) C hRm (okX8_grow h0 v1 (1 : Int32) M8 h_0) (Rc.of C rfl rfl h_0) mw_1204 cvX8_grow rfl ⟨Nat.le_of_ble_eq_true rfl, Nat.le_of_ble_eq_true rfl⟩ rfl (Nat.le_of_ble_eq_true rfl) dX8_appendInstruction_33 (fun o10 M9 => ?_)
  exact r_vret (pc := 36) C dX8_appendInstruction_36
theorem okX8_appendInstruction {l : Launch} {G : WT} (h0 : W0 G) (v1 : Int32) (v2 : Int32) (v3 : Int32) (M : Mem) (h_0 : G.2.2.2.1 19 0 0) : Okm l G yX8_appendInstruction cX8_appendInstruction 5 none 1 22 [.ref (G.1 19 0 0), .int v1, .int v2, .int v3] voV M (pX8_appendInstruction  v1 v2 v3 M) :=
  Okm.of "PermitParkModel" rfl (by decide) (Nat.le_of_ble_eq_true rfl) (L := [(0, .ref (G.1 19 0 0)), (1, .int v1), (2, .int v2), (3, .int v3)]) rfl (fun K _ hr C => lX8_appendInstruction_0 C (by rw [hr]; exact ⟨rfl, rfl⟩) h0 v1 v2 v3 M h_0)
def pX8_parseInstruction_76 (v1 : Int32) (v2 : Int32) (v3 : Int32) (M : Mem) : Option (Unit × Mem) :=
    bnd (pX8_isFine M) fun o2 M1 => if o2 = 0 then (some ((), M1))
    else bnd (pX8_appendInstruction v1 v2 v3 M1) fun o4 M3 => some ((), M3)
theorem lX8_parseInstruction_76 {K : KT} {G : WT} (C : Cx K G "PermitParkModel" cX8_parseInstruction 4 none) (hRm : K.2.2.2.1.frames = 7 ∧ K.2.2.2.1.locals = 149) (h0 : W0 G) (v1 : Int32) (v2 : Int32) (v3 : Int32) (M : Mem) (g_0 : G.2.2.2.1 19 0 0) : Run K G 4 0 0 (FinM K G voV 0 0) 76 [(0, .ref (G.1 19 0 0)), (1, .int v1), (2, .int v2), (3, .int v3)] [] M (pX8_parseInstruction_76   v1 v2 v3 M) := by
  rw [pX8_parseInstruction_76]
  refine r_aload_n (pc := 76) C 0 rfl rfl dX8_parseInstruction_76 ?_
  refine r_cVI (pc := 77) C hRm (okX8_isFine h0 M g_0) (Rc.of C rfl rfl g_0) mw_1119 cvX8_isFine rfl ⟨Nat.le_of_ble_eq_true rfl, Nat.le_of_ble_eq_true rfl⟩ rfl (Nat.le_of_ble_eq_true rfl) dX8_parseInstruction_77 (fun o2 M1 => ?_)
  refine r_if_eq (pc := 80) C dX8_parseInstruction_80 (tgt := 90) rfl ?_ ?_
  exact r_vret (pc := 90) C dX8_parseInstruction_90
  refine r_aload_n (pc := 83) C 0 rfl rfl dX8_parseInstruction_83 ?_
  refine r_iload_n (pc := 84) C 1 rfl rfl dX8_parseInstruction_84 ?_
  refine r_iload_n (pc := 85) C 2 rfl rfl dX8_parseInstruction_85 ?_
  refine r_iload_n (pc := 86) C 3 rfl rfl dX8_parseInstruction_86 ?_
  refine r_cVV (pc := 87) C hRm (okX8_appendInstruction h0 v1 v2 v3 M1 g_0) (Rc.of C rfl rfl g_0) mw_1197 cvX8_appendInstruction rfl ⟨Nat.le_of_ble_eq_true rfl, Nat.le_of_ble_eq_true rfl⟩ rfl (Nat.le_of_ble_eq_true rfl) dX8_parseInstruction_87 (fun o4 M3 => ?_)
  exact r_vret (pc := 90) C dX8_parseInstruction_90
def pX8_parseInstruction_37 (v1 : Int32) (v2 : Int32) (s0 : Int32) (M : Mem) : Option (Unit × Mem) :=
    bnd (pX8_require s0 (3 : Int32) M) fun o2 M1 => bnd (pX8_advance M1) fun o4 M3 => bnd (pX8_isFine M3) fun o6 M5 => if o6 = 0 then (pX8_parseInstruction_76    v1 v2 (0 : Int32) M5)
    else if v2 = (1 : Int32) then (pX8_parseInstruction_76    v1 v2 (0 : Int32) M5)
    else chk (inB v2 11) <| chk (inB v2 11) <| bnd (pX8_parseNumber (M5.1 25 0 0 v2.toNatClampNeg) (M5.1 26 0 0 v2.toNatClampNeg) M5) fun o10 M9 => pX8_parseInstruction_76    v1 v2 o10 M9
theorem lX8_parseInstruction_37 {K : KT} {G : WT} (C : Cx K G "PermitParkModel" cX8_parseInstruction 4 none) (hRm : K.2.2.2.1.frames = 7 ∧ K.2.2.2.1.locals = 149) (h0 : W0 G) (v1 : Int32) (v2 : Int32) (s0 : Int32) (M : Mem) (g_0 : G.2.2.2.1 19 0 0) (g_s1 : G.2.2.2.1 19 0 0) : Run K G 4 0 0 (FinM K G voV 0 0) 37 [(0, .ref (G.1 19 0 0)), (1, .int v1), (2, .int v2)] [.int s0, .ref (G.1 19 0 0)] M (pX8_parseInstruction_37   v1 v2 s0 M) := by
  rw [pX8_parseInstruction_37]
  refine r_iconst (pc := 37) C dX8_parseInstruction_37 kc_3 ?_
  refine r_cVV (pc := 38) C hRm (okX8_require h0 s0 (3 : Int32) M g_s1) (Rc.of C rfl rfl g_s1) mw_1138 cvX8_require rfl ⟨Nat.le_of_ble_eq_true rfl, Nat.le_of_ble_eq_true rfl⟩ rfl (Nat.le_of_ble_eq_true rfl) dX8_parseInstruction_38 (fun o2 M1 => ?_)
  refine r_aload_n (pc := 41) C 0 rfl rfl dX8_parseInstruction_41 ?_
  refine r_cVV (pc := 42) C hRm (okX8_advance h0 M1 g_s1) (Rc.of C rfl rfl g_s1) mw_1142 cvX8_advance rfl ⟨Nat.le_of_ble_eq_true rfl, Nat.le_of_ble_eq_true rfl⟩ rfl (Nat.le_of_ble_eq_true rfl) dX8_parseInstruction_42 (fun o4 M3 => ?_)
  refine r_iconst (pc := 45) C dX8_parseInstruction_45 kc_0 ?_
  refine r_istore_n (pc := 46) C [(3, .int (0 : Int32)), (0, .ref (G.1 19 0 0)), (1, .int v1), (2, .int v2)] dX8_parseInstruction_46 rfl (by decide) rfl ?_
  refine r_aload_n (pc := 47) C 1 rfl rfl dX8_parseInstruction_47 ?_
  refine r_cVI (pc := 48) C hRm (okX8_isFine h0 M3 g_s1) (Rc.of C rfl rfl g_s1) mw_1119 cvX8_isFine rfl ⟨Nat.le_of_ble_eq_true rfl, Nat.le_of_ble_eq_true rfl⟩ rfl (Nat.le_of_ble_eq_true rfl) dX8_parseInstruction_48 (fun o6 M5 => ?_)
  refine r_if_eq (pc := 51) C dX8_parseInstruction_51 (tgt := 76) rfl ?_ ?_
  refine r_sub [1, 2, 3, 0] rfl ?_
  exact lX8_parseInstruction_76   C hRm h0   v1 v2 (0 : Int32) M5 g_s1
  refine r_iload_n (pc := 54) C 3 rfl rfl dX8_parseInstruction_54 ?_
  refine r_iconst (pc := 55) C dX8_parseInstruction_55 kc_1 ?_
  refine r_icmp_eq (pc := 56) C dX8_parseInstruction_56 (tgt := 76) rfl ?_ ?_
  refine r_sub [1, 2, 3, 0] rfl ?_
  exact lX8_parseInstruction_76   C hRm h0   v1 v2 (0 : Int32) M5 g_s1
  refine r_aload_n (pc := 59) C 1 rfl rfl dX8_parseInstruction_59 ?_
  refine r_aload_n (pc := 60) C 1 rfl rfl dX8_parseInstruction_60 ?_
  refine r_getR (pc := 61) C FX8_leastNumbers mw_1017 g_s1 rfl dX8_parseInstruction_61 (fun g7 => ?_)
  refine r_iload_n (pc := 64) C 3 rfl rfl dX8_parseInstruction_64 ?_
  refine r_iald (pc := 65) C rfl g7 (fun _ => rfl) (fun _ => rfl) dX8_parseInstruction_65 ?_
  refine r_aload_n (pc := 66) C 1 rfl rfl dX8_parseInstruction_66 ?_
  refine r_getR (pc := 67) C FX8_greatestNumbers mw_1018 g_s1 rfl dX8_parseInstruction_67 (fun g8 => ?_)
  refine r_iload_n (pc := 70) C 3 rfl rfl dX8_parseInstruction_70 ?_
  refine r_iald (pc := 71) C rfl g8 (fun _ => rfl) (fun _ => rfl) dX8_parseInstruction_71 ?_
  refine r_cVI (pc := 72) C hRm (okX8_parseNumber h0 (M5.1 25 0 0 v2.toNatClampNeg) (M5.1 26 0 0 v2.toNatClampNeg) M5 g_s1) (Rc.of C rfl rfl g_s1) mw_1146 cvX8_parseNumber rfl ⟨Nat.le_of_ble_eq_true rfl, Nat.le_of_ble_eq_true rfl⟩ rfl (Nat.le_of_ble_eq_true rfl) dX8_parseInstruction_72 (fun o10 M9 => ?_)
  refine r_istore_n (pc := 75) C [(3, .int o10), (0, .ref (G.1 19 0 0)), (1, .int v1), (2, .int v2)] dX8_parseInstruction_75 rfl (by decide) rfl ?_
  refine r_sub [1, 2, 3, 0] rfl ?_
  exact lX8_parseInstruction_76   C hRm h0   v1 v2 o10 M9 g_s1
def pX8_parseInstruction_16 (v1 : Int32) (v2 : Int32) (s0 : Int32) (M : Mem) : Option (Unit × Mem) :=
    bnd (pX8_require s0 (1 : Int32) M) fun o2 M1 => bnd (pX8_of v1 (1 : Int32) M1) fun o4 M3 => if (16 : Int32) ≤ o4 then (pX8_parseInstruction_37    v1 v2 (0 : Int32) M3)
    else pX8_parseInstruction_37    v1 v2 (1 : Int32) M3
theorem lX8_parseInstruction_16 {K : KT} {G : WT} (C : Cx K G "PermitParkModel" cX8_parseInstruction 4 none) (hRm : K.2.2.2.1.frames = 7 ∧ K.2.2.2.1.locals = 149) (h0 : W0 G) (v1 : Int32) (v2 : Int32) (s0 : Int32) (M : Mem) (g_0 : G.2.2.2.1 19 0 0) (g_s1 : G.2.2.2.1 19 0 0) : Run K G 4 0 0 (FinM K G voV 0 0) 16 [(0, .ref (G.1 19 0 0)), (1, .int v1), (2, .int v2)] [.int s0, .ref (G.1 19 0 0)] M (pX8_parseInstruction_16   v1 v2 s0 M) := by
  rw [pX8_parseInstruction_16]
  refine r_iconst (pc := 16) C dX8_parseInstruction_16 kc_1 ?_
  refine r_cVV (pc := 17) C hRm (okX8_require h0 s0 (1 : Int32) M g_s1) (Rc.of C rfl rfl g_s1) mw_1138 cvX8_require rfl ⟨Nat.le_of_ble_eq_true rfl, Nat.le_of_ble_eq_true rfl⟩ rfl (Nat.le_of_ble_eq_true rfl) dX8_parseInstruction_17 (fun o2 M1 => ?_)
  refine r_aload_n (pc := 20) C 0 rfl rfl dX8_parseInstruction_20 ?_
  refine r_aload_n (pc := 21) C 0 rfl rfl dX8_parseInstruction_21 ?_
  refine r_iload_n (pc := 22) C 1 rfl rfl dX8_parseInstruction_22 ?_
  refine r_iconst (pc := 23) C dX8_parseInstruction_23 kc_1 ?_
  refine r_cVI (pc := 24) C hRm (okX8_of h0 v1 (1 : Int32) M1 g_s1) (Rc.of C rfl rfl g_s1) mw_1193 cvX8_of rfl ⟨Nat.le_of_ble_eq_true rfl, Nat.le_of_ble_eq_true rfl⟩ rfl (Nat.le_of_ble_eq_true rfl) dX8_parseInstruction_24 (fun o4 M3 => ?_)
  refine r_bipush (pc := 27) C dX8_parseInstruction_27 kb_16 ?_
  refine r_icmp_ge (pc := 29) C dX8_parseInstruction_29 (tgt := 36) rfl ?_ ?_
  refine r_iconst (pc := 36) C dX8_parseInstruction_36 kc_0 ?_
  exact lX8_parseInstruction_37   C hRm h0   v1 v2 (0 : Int32) M3 g_s1 g_s1
  refine r_iconst (pc := 32) C dX8_parseInstruction_32 kc_1 ?_
  refine r_goto (pc := 33) C dX8_parseInstruction_33 (tgt := 37) rfl ?_
  exact lX8_parseInstruction_37   C hRm h0   v1 v2 (1 : Int32) M3 g_s1 g_s1
def pX8_parseInstruction (v1 : Int32) (M : Mem) : Option (Unit × Mem) :=
    bnd (pX8_codeHere M) fun o2 M1 => if o2 = (-1 : Int32) then (pX8_parseInstruction_16    v1 o2 (0 : Int32) M1)
    else pX8_parseInstruction_16    v1 o2 (1 : Int32) M1
theorem lX8_parseInstruction_0 {K : KT} {G : WT} (C : Cx K G "PermitParkModel" cX8_parseInstruction 4 none) (hRm : K.2.2.2.1.frames = 7 ∧ K.2.2.2.1.locals = 149) (h0 : W0 G) (v1 : Int32) (M : Mem) (h_0 : G.2.2.2.1 19 0 0) : Run K G 4 0 0 (FinM K G voV 0 0) 0 [(0, .ref (G.1 19 0 0)), (1, .int v1)] [] M (pX8_parseInstruction   v1 M) := by
  rw [pX8_parseInstruction]
  refine r_aload_n (pc := 0) C 0 rfl rfl dX8_parseInstruction_0 ?_
  refine r_cVI (pc := 1) C hRm (okX8_codeHere h0 M h_0) (Rc.of C rfl rfl h_0) mw_1174 cvX8_codeHere rfl ⟨Nat.le_of_ble_eq_true rfl, Nat.le_of_ble_eq_true rfl⟩ rfl (Nat.le_of_ble_eq_true rfl) dX8_parseInstruction_1 (fun o2 M1 => ?_)
  refine r_istore_n (pc := 4) C [(2, .int o2), (0, .ref (G.1 19 0 0)), (1, .int v1)] dX8_parseInstruction_4 rfl (by decide) rfl ?_
  refine r_aload_n (pc := 5) C 1 rfl rfl dX8_parseInstruction_5 ?_
  refine r_iload_n (pc := 6) C 0 rfl rfl dX8_parseInstruction_6 ?_
  refine r_iconst (pc := 7) C dX8_parseInstruction_7 kc_m1 ?_
  refine r_icmp_eq (pc := 8) C dX8_parseInstruction_8 (tgt := 15) rfl ?_ ?_
  refine r_iconst (pc := 15) C dX8_parseInstruction_15 kc_0 ?_
  refine r_sub [1, 2, 0] rfl ?_
  exact lX8_parseInstruction_16   C hRm h0   v1 o2 (0 : Int32) M1 h_0 h_0
  refine r_iconst (pc := 11) C dX8_parseInstruction_11 kc_1 ?_
  refine r_goto (pc := 12) C dX8_parseInstruction_12 (tgt := 16) rfl ?_
  refine r_sub [1, 2, 0] rfl ?_
  exact lX8_parseInstruction_16   C hRm h0   v1 o2 (1 : Int32) M1 h_0 h_0
theorem okX8_parseInstruction {l : Launch} {G : WT} (h0 : W0 G) (v1 : Int32) (M : Mem) (h_0 : G.2.2.2.1 19 0 0) : Okm l G yX8_parseInstruction cX8_parseInstruction 4 none 7 149 [.ref (G.1 19 0 0), .int v1] voV M (pX8_parseInstruction  v1 M) :=
  Okm.of "PermitParkModel" rfl (by decide) (Nat.le_of_ble_eq_true rfl) (L := [(0, .ref (G.1 19 0 0)), (1, .int v1)]) rfl (fun K _ hr C => lX8_parseInstruction_0 C (by rw [hr]; exact ⟨rfl, rfl⟩) h0 v1 M h_0)
def pX8_appendThread_9 : Nat → Int32 → Int32 → Int32 → Mem → Option (Int32 × Mem)
  | 0, _, _, _, _ => none
  | n + 1, v1, v2, v3, M =>
    if (20 : Int32) ≤ v3 then (bnd (pX8_put v2 (0 : Int32) v1 M) fun o2 M1 => bnd (pX8_put v2 (7 : Int32) (-1 : Int32) M1) fun o4 M3 => bnd (pX8_put v2 (8 : Int32) (-1 : Int32) M3) fun o6 M5 => bnd (pX8_put v2 (10 : Int32) (-1 : Int32) M5) fun o8 M7 => bnd (pX8_put v2 (16 : Int32) (-1 : Int32) M7) fun o10 M9 => chk (inB (2 : Int32) 700) <| chk (inB (2 : Int32) 700) <| nm (wI M9 20 0 0 (2 : Int32).toNatClampNeg ((M9.1 20 0 0 (2 : Int32).toNatClampNeg) + (1 : Int32))) fun M12 => some (v2, M12))
    else bnd (pX8_put v2 v3 (0 : Int32) M) fun o14 M13 => pX8_appendThread_9   n v1 v2 (v3 + (1 : Int32)) M13
theorem lX8_appendThread_9 {K : KT} {G : WT} (C : Cx K G "PermitParkModel" cX8_appendThread 4 (some FieldType.int)) (hRm : K.2.2.2.1.frames = 1 ∧ K.2.2.2.1.locals = 23) (h0 : W0 G) : ∀ (n : Nat) (v1 : Int32) (v2 : Int32) (v3 : Int32) (M : Mem), G.2.2.2.1 19 0 0 → Run K G 4 0 0 (FinM K G voI 0 0) 9 [(0, .ref (G.1 19 0 0)), (1, .int v1), (2, .int v2), (3, .int v3)] [] M (pX8_appendThread_9   n v1 v2 v3 M) := by
  intro n
  induction n with
  | zero =>
    intro v1 v2 v3 M g_0
    exact r_none
  | succ n ih =>
    intro v1 v2 v3 M g_0
    rw [pX8_appendThread_9]
    refine r_iload_n (pc := 9) C 3 rfl rfl dX8_appendThread_9 ?_
    refine r_bipush (pc := 10) C dX8_appendThread_10 kb_20 ?_
    refine r_icmp_ge (pc := 12) C dX8_appendThread_12 (tgt := 28) rfl ?_ ?_
    refine r_aload_n (pc := 28) C 0 rfl rfl dX8_appendThread_28 ?_
    refine r_iload_n (pc := 29) C 2 rfl rfl dX8_appendThread_29 ?_
    refine r_iconst (pc := 30) C dX8_appendThread_30 kc_0 ?_
    refine r_iload_n (pc := 31) C 1 rfl rfl dX8_appendThread_31 ?_
    refine r_cVV (pc := 32) C hRm (okX8_put h0 v2 (0 : Int32) v1 M g_0) (Rc.of C rfl rfl g_0) mw_1166 cvX8_put rfl ⟨Nat.le_of_ble_eq_true rfl, Nat.le_of_ble_eq_true rfl⟩ rfl (Nat.le_of_ble_eq_true rfl) dX8_appendThread_32 (fun o2 M1 => ?_)
    refine r_aload_n (pc := 35) C 0 rfl rfl dX8_appendThread_35 ?_
    refine r_iload_n (pc := 36) C 2 rfl rfl dX8_appendThread_36 ?_
    refine r_bipush (pc := 37) C dX8_appendThread_37 kb_7 ?_
    refine r_iconst (pc := 39) C dX8_appendThread_39 kc_m1 ?_
    refine r_cVV (pc := 40) C hRm (okX8_put h0 v2 (7 : Int32) (-1 : Int32) M1 g_0) (Rc.of C rfl rfl g_0) mw_1166 cvX8_put rfl ⟨Nat.le_of_ble_eq_true rfl, Nat.le_of_ble_eq_true rfl⟩ rfl (Nat.le_of_ble_eq_true rfl) dX8_appendThread_40 (fun o4 M3 => ?_)
    refine r_aload_n (pc := 43) C 0 rfl rfl dX8_appendThread_43 ?_
    refine r_iload_n (pc := 44) C 2 rfl rfl dX8_appendThread_44 ?_
    refine r_bipush (pc := 45) C dX8_appendThread_45 kb_8 ?_
    refine r_iconst (pc := 47) C dX8_appendThread_47 kc_m1 ?_
    refine r_cVV (pc := 48) C hRm (okX8_put h0 v2 (8 : Int32) (-1 : Int32) M3 g_0) (Rc.of C rfl rfl g_0) mw_1166 cvX8_put rfl ⟨Nat.le_of_ble_eq_true rfl, Nat.le_of_ble_eq_true rfl⟩ rfl (Nat.le_of_ble_eq_true rfl) dX8_appendThread_48 (fun o6 M5 => ?_)
    refine r_aload_n (pc := 51) C 0 rfl rfl dX8_appendThread_51 ?_
    refine r_iload_n (pc := 52) C 2 rfl rfl dX8_appendThread_52 ?_
    refine r_bipush (pc := 53) C dX8_appendThread_53 kb_10 ?_
    refine r_iconst (pc := 55) C dX8_appendThread_55 kc_m1 ?_
    refine r_cVV (pc := 56) C hRm (okX8_put h0 v2 (10 : Int32) (-1 : Int32) M5 g_0) (Rc.of C rfl rfl g_0) mw_1166 cvX8_put rfl ⟨Nat.le_of_ble_eq_true rfl, Nat.le_of_ble_eq_true rfl⟩ rfl (Nat.le_of_ble_eq_true rfl) dX8_appendThread_56 (fun o8 M7 => ?_)
    refine r_aload_n (pc := 59) C 0 rfl rfl dX8_appendThread_59 ?_
    refine r_iload_n (pc := 60) C 2 rfl rfl dX8_appendThread_60 ?_
    refine r_bipush (pc := 61) C dX8_appendThread_61 kb_16 ?_
    refine r_iconst (pc := 63) C dX8_appendThread_63 kc_m1 ?_
    refine r_cVV (pc := 64) C hRm (okX8_put h0 v2 (16 : Int32) (-1 : Int32) M7 g_0) (Rc.of C rfl rfl g_0) mw_1166 cvX8_put rfl ⟨Nat.le_of_ble_eq_true rfl, Nat.le_of_ble_eq_true rfl⟩ rfl (Nat.le_of_ble_eq_true rfl) dX8_appendThread_64 (fun o10 M9 => ?_)
    refine r_aload_n (pc := 67) C 0 rfl rfl dX8_appendThread_67 ?_
    refine r_getR (pc := 68) C FX8_state mw_1012 g_0 rfl dX8_appendThread_68 (fun g11 => ?_)
    refine r_iconst (pc := 71) C dX8_appendThread_71 kc_2 ?_
    refine r_dup2_11 (pc := 72) C dX8_appendThread_72 rfl rfl ?_
    refine r_iald (pc := 73) C rfl g11 (fun _ => rfl) (fun _ => rfl) dX8_appendThread_73 ?_
    refine r_iconst (pc := 74) C dX8_appendThread_74 kc_1 ?_
    refine r_iadd (pc := 75) C dX8_appendThread_75 ?_
    refine r_iast (pc := 76) C rfl g11 (fun _ => rfl) (fun _ => rfl) dX8_appendThread_76 (fun M12 => ?_)
    refine r_iload_n (pc := 77) C 2 rfl rfl dX8_appendThread_77 ?_
    exact r_iret (pc := 78) C rfl dX8_appendThread_78
    refine r_aload_n (pc := 15) C 0 rfl rfl dX8_appendThread_15 ?_
    refine r_iload_n (pc := 16) C 2 rfl rfl dX8_appendThread_16 ?_
    refine r_iload_n (pc := 17) C 3 rfl rfl dX8_appendThread_17 ?_
    refine r_iconst (pc := 18) C dX8_appendThread_18 kc_0 ?_
    refine r_cVV (pc := 19) C hRm (okX8_put h0 v2 v3 (0 : Int32) M g_0) (Rc.of C rfl rfl g_0) mw_1166 cvX8_put rfl ⟨Nat.le_of_ble_eq_true rfl, Nat.le_of_ble_eq_true rfl⟩ rfl (Nat.le_of_ble_eq_true rfl) dX8_appendThread_19 (fun o14 M13 => ?_)
    refine r_iinc (pc := 22) C [(3, .int (v3 + (1 : Int32))), (0, .ref (G.1 19 0 0)), (1, .int v1), (2, .int v2)] dX8_appendThread_22 (p := 3) rfl (ki_1 _) (by decide) rfl ?_
    refine r_goto (pc := 25) C dX8_appendThread_25 (tgt := 9) rfl ?_
    refine r_sub [1, 2, 3, 0] rfl ?_
    exact ih v1 v2 (v3 + (1 : Int32)) M13 g_0
def pX8_appendThread (v1 : Int32) (M : Mem) : Option (Int32 × Mem) :=
    chk (inB (2 : Int32) 700) <| nm (M.1 20 0 0 (2 : Int32).toNatClampNeg) fun x2 => pX8_appendThread_9   fu v1 x2 (0 : Int32) M
theorem lX8_appendThread_0 {K : KT} {G : WT} (C : Cx K G "PermitParkModel" cX8_appendThread 4 (some FieldType.int)) (hRm : K.2.2.2.1.frames = 1 ∧ K.2.2.2.1.locals = 23) (h0 : W0 G) (v1 : Int32) (M : Mem) (h_0 : G.2.2.2.1 19 0 0) : Run K G 4 0 0 (FinM K G voI 0 0) 0 [(0, .ref (G.1 19 0 0)), (1, .int v1)] [] M (pX8_appendThread   v1 M) := by
  rw [pX8_appendThread]
  refine r_aload_n (pc := 0) C 0 rfl rfl dX8_appendThread_0 ?_
  refine r_getR (pc := 1) C FX8_state mw_1012 h_0 rfl dX8_appendThread_1 (fun g1 => ?_)
  refine r_iconst (pc := 4) C dX8_appendThread_4 kc_2 ?_
  refine r_iald (pc := 5) C rfl g1 (fun _ => rfl) (fun _ => rfl) dX8_appendThread_5 ?_
  refine r_nmi (fun x2 => ?_)
  refine r_istore_n (pc := 6) C [(2, .int x2), (0, .ref (G.1 19 0 0)), (1, .int v1)] dX8_appendThread_6 rfl (by decide) rfl ?_
  refine r_iconst (pc := 7) C dX8_appendThread_7 kc_0 ?_
  refine r_istore_n (pc := 8) C [(3, .int (0 : Int32)), (2, .int x2), (0, .ref (G.1 19 0 0)), (1, .int v1)] dX8_appendThread_8 rfl (by decide) rfl ?_
  refine r_sub [2, 3, 1, 0] rfl ?_
  exact lX8_appendThread_9   C hRm h0  fu v1 x2 (0 : Int32) M h_0
theorem okX8_appendThread {l : Launch} {G : WT} (h0 : W0 G) (v1 : Int32) (M : Mem) (h_0 : G.2.2.2.1 19 0 0) : Okm l G yX8_appendThread cX8_appendThread 4 (some FieldType.int) 1 23 [.ref (G.1 19 0 0), .int v1] voI M (pX8_appendThread  v1 M) :=
  Okm.of "PermitParkModel" rfl (by decide) (Nat.le_of_ble_eq_true rfl) (L := [(0, .ref (G.1 19 0 0)), (1, .int v1)]) rfl (fun K _ hr C => lX8_appendThread_0 C (by rw [hr]; exact ⟨rfl, rfl⟩) h0 v1 M h_0)
def pX8_parseThread_58 : Nat → Int32 → Mem → Option (Unit × Mem)
  | 0, _, _ => none
  | n + 1, v2, M =>
    bnd (pX8_isFine M) fun o2 M1 => if o2 = 0 then (some ((), M1))
    else bnd (pX8_isSymbol (44 : Int32) M1) fun o4 M3 => if o4 = 0 then (some ((), M3))
    else bnd (pX8_advance M3) fun o6 M5 => bnd (pX8_parseInstruction v2 M5) fun o8 M7 => pX8_parseThread_58   n v2 M7
theorem lX8_parseThread_58 {K : KT} {G : WT} (C : Cx K G "PermitParkModel" cX8_parseThread 3 none) (hRm : K.2.2.2.1.frames = 8 ∧ K.2.2.2.1.locals = 172) (h0 : W0 G) : ∀ (n : Nat) (v2 : Int32) (M : Mem), G.2.2.2.1 19 0 0 → Run K G 3 0 0 (FinM K G voV 0 0) 58 [(0, .ref (G.1 19 0 0)), (2, .int v2)] [] M (pX8_parseThread_58   n v2 M) := by
  intro n
  induction n with
  | zero =>
    intro v2 M g_0
    exact r_none
  | succ n ih =>
    intro v2 M g_0
    rw [pX8_parseThread_58]
    refine r_aload_n (pc := 58) C 0 rfl rfl dX8_parseThread_58 ?_
    refine r_cVI (pc := 59) C hRm (okX8_isFine h0 M g_0) (Rc.of C rfl rfl g_0) mw_1119 cvX8_isFine rfl ⟨Nat.le_of_ble_eq_true rfl, Nat.le_of_ble_eq_true rfl⟩ rfl (Nat.le_of_ble_eq_true rfl) dX8_parseThread_59 (fun o2 M1 => ?_)
    refine r_if_eq (pc := 62) C dX8_parseThread_62 (tgt := 86) rfl ?_ ?_
    exact r_vret (pc := 86) C dX8_parseThread_86
    refine r_aload_n (pc := 65) C 0 rfl rfl dX8_parseThread_65 ?_
    refine r_bipush (pc := 66) C dX8_parseThread_66 kb_44 ?_
    refine r_cVI (pc := 68) C hRm (okX8_isSymbol h0 (44 : Int32) M1 g_0) (Rc.of C rfl rfl g_0) mw_1158 cvX8_isSymbol rfl ⟨Nat.le_of_ble_eq_true rfl, Nat.le_of_ble_eq_true rfl⟩ rfl (Nat.le_of_ble_eq_true rfl) dX8_parseThread_68 (fun o4 M3 => ?_)
    refine r_if_eq (pc := 71) C dX8_parseThread_71 (tgt := 86) rfl ?_ ?_
    exact r_vret (pc := 86) C dX8_parseThread_86
    refine r_aload_n (pc := 74) C 0 rfl rfl dX8_parseThread_74 ?_
    refine r_cVV (pc := 75) C hRm (okX8_advance h0 M3 g_0) (Rc.of C rfl rfl g_0) mw_1142 cvX8_advance rfl ⟨Nat.le_of_ble_eq_true rfl, Nat.le_of_ble_eq_true rfl⟩ rfl (Nat.le_of_ble_eq_true rfl) dX8_parseThread_75 (fun o6 M5 => ?_)
    refine r_aload_n (pc := 78) C 0 rfl rfl dX8_parseThread_78 ?_
    refine r_iload_n (pc := 79) C 1 rfl rfl dX8_parseThread_79 ?_
    refine r_cVV (pc := 80) C hRm (okX8_parseInstruction h0 v2 M5 g_0) (Rc.of C rfl rfl g_0) mw_1170 cvX8_parseInstruction rfl ⟨Nat.le_of_ble_eq_true rfl, Nat.le_of_ble_eq_true rfl⟩ rfl (Nat.le_of_ble_eq_true rfl) dX8_parseThread_80 (fun o8 M7 => ?_)
    refine r_goto (pc := 83) C dX8_parseThread_83 (tgt := 58) rfl ?_
    exact ih v2 M7 g_0
def pX8_parseThread_17 (s0 : Int32) (M : Mem) : Option (Unit × Mem) :=
    bnd (pX8_require s0 (3 : Int32) M) fun o2 M1 => bnd (pX8_advance M1) fun o4 M3 => bnd (pX8_parseNumber (1 : Int32) (9 : Int32) M3) fun o6 M5 => bnd (pX8_parseSymbol (58 : Int32) M5) fun o8 M7 => bnd (pX8_isFine M7) fun o10 M9 => if ¬ o10 = 0 then (bnd (pX8_appendThread o6 M9) fun o12 M11 => bnd (pX8_parseInstruction o12 M11) fun o14 M13 => pX8_parseThread_58   fu o12 M13)
    else some ((), M9)
theorem lX8_parseThread_17 {K : KT} {G : WT} (C : Cx K G "PermitParkModel" cX8_parseThread 3 none) (hRm : K.2.2.2.1.frames = 8 ∧ K.2.2.2.1.locals = 172) (h0 : W0 G) (s0 : Int32) (M : Mem) (g_0 : G.2.2.2.1 19 0 0) (g_s1 : G.2.2.2.1 19 0 0) : Run K G 3 0 0 (FinM K G voV 0 0) 17 [(0, .ref (G.1 19 0 0))] [.int s0, .ref (G.1 19 0 0)] M (pX8_parseThread_17   s0 M) := by
  rw [pX8_parseThread_17]
  refine r_iconst (pc := 17) C dX8_parseThread_17 kc_3 ?_
  refine r_cVV (pc := 18) C hRm (okX8_require h0 s0 (3 : Int32) M g_s1) (Rc.of C rfl rfl g_s1) mw_1138 cvX8_require rfl ⟨Nat.le_of_ble_eq_true rfl, Nat.le_of_ble_eq_true rfl⟩ rfl (Nat.le_of_ble_eq_true rfl) dX8_parseThread_18 (fun o2 M1 => ?_)
  refine r_aload_n (pc := 21) C 0 rfl rfl dX8_parseThread_21 ?_
  refine r_cVV (pc := 22) C hRm (okX8_advance h0 M1 g_s1) (Rc.of C rfl rfl g_s1) mw_1142 cvX8_advance rfl ⟨Nat.le_of_ble_eq_true rfl, Nat.le_of_ble_eq_true rfl⟩ rfl (Nat.le_of_ble_eq_true rfl) dX8_parseThread_22 (fun o4 M3 => ?_)
  refine r_aload_n (pc := 25) C 0 rfl rfl dX8_parseThread_25 ?_
  refine r_iconst (pc := 26) C dX8_parseThread_26 kc_1 ?_
  refine r_bipush (pc := 27) C dX8_parseThread_27 kb_9 ?_
  refine r_cVI (pc := 29) C hRm (okX8_parseNumber h0 (1 : Int32) (9 : Int32) M3 g_s1) (Rc.of C rfl rfl g_s1) mw_1146 cvX8_parseNumber rfl ⟨Nat.le_of_ble_eq_true rfl, Nat.le_of_ble_eq_true rfl⟩ rfl (Nat.le_of_ble_eq_true rfl) dX8_parseThread_29 (fun o6 M5 => ?_)
  refine r_istore_n (pc := 32) C [(1, .int o6), (0, .ref (G.1 19 0 0))] dX8_parseThread_32 rfl (by decide) rfl ?_
  refine r_aload_n (pc := 33) C 1 rfl rfl dX8_parseThread_33 ?_
  refine r_bipush (pc := 34) C dX8_parseThread_34 kb_58 ?_
  refine r_cVV (pc := 36) C hRm (okX8_parseSymbol h0 (58 : Int32) M5 g_s1) (Rc.of C rfl rfl g_s1) mw_1154 cvX8_parseSymbol rfl ⟨Nat.le_of_ble_eq_true rfl, Nat.le_of_ble_eq_true rfl⟩ rfl (Nat.le_of_ble_eq_true rfl) dX8_parseThread_36 (fun o8 M7 => ?_)
  refine r_aload_n (pc := 39) C 1 rfl rfl dX8_parseThread_39 ?_
  refine r_cVI (pc := 40) C hRm (okX8_isFine h0 M7 g_s1) (Rc.of C rfl rfl g_s1) mw_1119 cvX8_isFine rfl ⟨Nat.le_of_ble_eq_true rfl, Nat.le_of_ble_eq_true rfl⟩ rfl (Nat.le_of_ble_eq_true rfl) dX8_parseThread_40 (fun o10 M9 => ?_)
  refine r_if_ne (pc := 43) C dX8_parseThread_43 (tgt := 47) rfl ?_ ?_
  refine r_aload_n (pc := 47) C 1 rfl rfl dX8_parseThread_47 ?_
  refine r_iload_n (pc := 48) C 0 rfl rfl dX8_parseThread_48 ?_
  refine r_cVI (pc := 49) C hRm (okX8_appendThread h0 o6 M9 g_s1) (Rc.of C rfl rfl g_s1) mw_1162 cvX8_appendThread rfl ⟨Nat.le_of_ble_eq_true rfl, Nat.le_of_ble_eq_true rfl⟩ rfl (Nat.le_of_ble_eq_true rfl) dX8_parseThread_49 (fun o12 M11 => ?_)
  refine r_istore_n (pc := 52) C [(2, .int o12), (1, .int o6), (0, .ref (G.1 19 0 0))] dX8_parseThread_52 rfl (by decide) rfl ?_
  refine r_aload_n (pc := 53) C 2 rfl rfl dX8_parseThread_53 ?_
  refine r_iload_n (pc := 54) C 0 rfl rfl dX8_parseThread_54 ?_
  refine r_cVV (pc := 55) C hRm (okX8_parseInstruction h0 o12 M11 g_s1) (Rc.of C rfl rfl g_s1) mw_1170 cvX8_parseInstruction rfl ⟨Nat.le_of_ble_eq_true rfl, Nat.le_of_ble_eq_true rfl⟩ rfl (Nat.le_of_ble_eq_true rfl) dX8_parseThread_55 (fun o14 M13 => ?_)
  refine r_sub [2, 0] rfl ?_
  exact lX8_parseThread_58   C hRm h0  fu o12 M13 g_s1
  exact r_vret (pc := 46) C dX8_parseThread_46
def pX8_parseThread (M : Mem) : Option (Unit × Mem) :=
    chk (inB (2 : Int32) 700) <| if (10 : Int32) ≤ (M.1 20 0 0 (2 : Int32).toNatClampNeg) then (pX8_parseThread_17    (0 : Int32) M)
    else pX8_parseThread_17    (1 : Int32) M
theorem lX8_parseThread_0 {K : KT} {G : WT} (C : Cx K G "PermitParkModel" cX8_parseThread 3 none) (hRm : K.2.2.2.1.frames = 8 ∧ K.2.2.2.1.locals = 172) (h0 : W0 G) (M : Mem) (h_0 : G.2.2.2.1 19 0 0) : Run K G 3 0 0 (FinM K G voV 0 0) 0 [(0, .ref (G.1 19 0 0))] [] M (pX8_parseThread    M) := by
  rw [pX8_parseThread]
  refine r_aload_n (pc := 0) C 0 rfl rfl dX8_parseThread_0 ?_
  refine r_aload_n (pc := 1) C 0 rfl rfl dX8_parseThread_1 ?_
  refine r_getR (pc := 2) C FX8_state mw_1012 h_0 rfl dX8_parseThread_2 (fun g1 => ?_)
  refine r_iconst (pc := 5) C dX8_parseThread_5 kc_2 ?_
  refine r_iald (pc := 6) C rfl g1 (fun _ => rfl) (fun _ => rfl) dX8_parseThread_6 ?_
  refine r_bipush (pc := 7) C dX8_parseThread_7 kb_10 ?_
  refine r_icmp_ge (pc := 9) C dX8_parseThread_9 (tgt := 16) rfl ?_ ?_
  refine r_iconst (pc := 16) C dX8_parseThread_16 kc_0 ?_
  exact lX8_parseThread_17   C hRm h0   (0 : Int32) M h_0 h_0
  refine r_iconst (pc := 12) C dX8_parseThread_12 kc_1 ?_
  refine r_goto (pc := 13) C dX8_parseThread_13 (tgt := 17) rfl ?_
  exact lX8_parseThread_17   C hRm h0   (1 : Int32) M h_0 h_0
theorem okX8_parseThread {l : Launch} {G : WT} (h0 : W0 G) (M : Mem) (h_0 : G.2.2.2.1 19 0 0) : Okm l G yX8_parseThread cX8_parseThread 3 none 8 172 [.ref (G.1 19 0 0)] voV M (pX8_parseThread   M) :=
  Okm.of "PermitParkModel" rfl (by decide) (Nat.le_of_ble_eq_true rfl) (L := [(0, .ref (G.1 19 0 0))]) rfl (fun K _ hr C => lX8_parseThread_0 C (by rw [hr]; exact ⟨rfl, rfl⟩) h0  M h_0)
def pX8_parseFlag_37 (v1 : Int32) (s0 : Int32) (M : Mem) : Option (Unit × Mem) :=
    bnd (pX8_require s0 (4 : Int32) M) fun o2 M1 => bnd (pX8_advance M1) fun o4 M3 => bnd (pX8_isFine M3) fun o6 M5 => if o6 = 0 then (some ((), M5))
    else bnd (pX8_turnFlag v1 (1 : Int32) M5) fun o8 M7 => some ((), M7)
theorem lX8_parseFlag_37 {K : KT} {G : WT} (C : Cx K G "PermitParkModel" cX8_parseFlag 2 none) (hRm : K.2.2.2.1.frames = 4 ∧ K.2.2.2.1.locals = 83) (h0 : W0 G) (v1 : Int32) (s0 : Int32) (M : Mem) (g_0 : G.2.2.2.1 19 0 0) (g_s1 : G.2.2.2.1 19 0 0) : Run K G 2 0 0 (FinM K G voV 0 0) 37 [(0, .ref (G.1 19 0 0)), (1, .int v1)] [.int s0, .ref (G.1 19 0 0)] M (pX8_parseFlag_37   v1 s0 M) := by
  rw [pX8_parseFlag_37]
  refine r_iconst (pc := 37) C dX8_parseFlag_37 kc_4 ?_
  refine r_cVV (pc := 38) C hRm (okX8_require h0 s0 (4 : Int32) M g_s1) (Rc.of C rfl rfl g_s1) mw_1138 cvX8_require rfl ⟨Nat.le_of_ble_eq_true rfl, Nat.le_of_ble_eq_true rfl⟩ rfl (Nat.le_of_ble_eq_true rfl) dX8_parseFlag_38 (fun o2 M1 => ?_)
  refine r_aload_n (pc := 41) C 0 rfl rfl dX8_parseFlag_41 ?_
  refine r_cVV (pc := 42) C hRm (okX8_advance h0 M1 g_s1) (Rc.of C rfl rfl g_s1) mw_1142 cvX8_advance rfl ⟨Nat.le_of_ble_eq_true rfl, Nat.le_of_ble_eq_true rfl⟩ rfl (Nat.le_of_ble_eq_true rfl) dX8_parseFlag_42 (fun o4 M3 => ?_)
  refine r_aload_n (pc := 45) C 0 rfl rfl dX8_parseFlag_45 ?_
  refine r_cVI (pc := 46) C hRm (okX8_isFine h0 M3 g_s1) (Rc.of C rfl rfl g_s1) mw_1119 cvX8_isFine rfl ⟨Nat.le_of_ble_eq_true rfl, Nat.le_of_ble_eq_true rfl⟩ rfl (Nat.le_of_ble_eq_true rfl) dX8_parseFlag_46 (fun o6 M5 => ?_)
  refine r_if_eq (pc := 49) C dX8_parseFlag_49 (tgt := 58) rfl ?_ ?_
  exact r_vret (pc := 58) C dX8_parseFlag_58
  refine r_aload_n (pc := 52) C 0 rfl rfl dX8_parseFlag_52 ?_
  refine r_iload_n (pc := 53) C 1 rfl rfl dX8_parseFlag_53 ?_
  refine r_iconst (pc := 54) C dX8_parseFlag_54 kc_1 ?_
  refine r_cVV (pc := 55) C hRm (okX8_turnFlag h0 v1 (1 : Int32) M5 g_s1) (Rc.of C rfl rfl g_s1) mw_1217 cvX8_turnFlag rfl ⟨Nat.le_of_ble_eq_true rfl, Nat.le_of_ble_eq_true rfl⟩ rfl (Nat.le_of_ble_eq_true rfl) dX8_parseFlag_55 (fun o8 M7 => ?_)
  exact r_vret (pc := 58) C dX8_parseFlag_58
def pX8_parseFlag (M : Mem) : Option (Unit × Mem) :=
    bnd (pX8_advance M) fun o2 M1 => bnd (pX8_look (0 : Int32) (7 : Int32) M1) fun o4 M3 => nm (M3.1 19 0 0 14) fun x5 => bnd (pX8_isFine M3) fun o7 M6 => if o7 = 0 then (pX8_parseFlag_37    x5 (1 : Int32) M6)
    else bnd (pX8_isOn x5 M6) fun o9 M8 => if ¬ o9 = 0 then (pX8_parseFlag_37    x5 (0 : Int32) M8)
    else pX8_parseFlag_37    x5 (1 : Int32) M8
theorem lX8_parseFlag_0 {K : KT} {G : WT} (C : Cx K G "PermitParkModel" cX8_parseFlag 2 none) (hRm : K.2.2.2.1.frames = 4 ∧ K.2.2.2.1.locals = 83) (h0 : W0 G) (M : Mem) (h_0 : G.2.2.2.1 19 0 0) : Run K G 2 0 0 (FinM K G voV 0 0) 0 [(0, .ref (G.1 19 0 0))] [] M (pX8_parseFlag    M) := by
  rw [pX8_parseFlag]
  refine r_aload_n (pc := 0) C 0 rfl rfl dX8_parseFlag_0 ?_
  refine r_cVV (pc := 1) C hRm (okX8_advance h0 M h_0) (Rc.of C rfl rfl h_0) mw_1142 cvX8_advance rfl ⟨Nat.le_of_ble_eq_true rfl, Nat.le_of_ble_eq_true rfl⟩ rfl (Nat.le_of_ble_eq_true rfl) dX8_parseFlag_1 (fun o2 M1 => ?_)
  refine r_aload_n (pc := 4) C 0 rfl rfl dX8_parseFlag_4 ?_
  refine r_iconst (pc := 5) C dX8_parseFlag_5 kc_0 ?_
  refine r_bipush (pc := 6) C dX8_parseFlag_6 kb_7 ?_
  refine r_cVV (pc := 8) C hRm (okX8_look h0 (0 : Int32) (7 : Int32) M1 h_0) (Rc.of C rfl rfl h_0) mw_1150 cvX8_look rfl ⟨Nat.le_of_ble_eq_true rfl, Nat.le_of_ble_eq_true rfl⟩ rfl (Nat.le_of_ble_eq_true rfl) dX8_parseFlag_8 (fun o4 M3 => ?_)
  refine r_aload_n (pc := 11) C 0 rfl rfl dX8_parseFlag_11 ?_
  refine r_getI (pc := 12) C FX8_number mw_1026 h_0 rfl rfl dX8_parseFlag_12 ?_
  refine r_nmi (fun x5 => ?_)
  refine r_istore_n (pc := 15) C [(1, .int x5), (0, .ref (G.1 19 0 0))] dX8_parseFlag_15 rfl (by decide) rfl ?_
  refine r_aload_n (pc := 16) C 1 rfl rfl dX8_parseFlag_16 ?_
  refine r_aload_n (pc := 17) C 1 rfl rfl dX8_parseFlag_17 ?_
  refine r_cVI (pc := 18) C hRm (okX8_isFine h0 M3 h_0) (Rc.of C rfl rfl h_0) mw_1119 cvX8_isFine rfl ⟨Nat.le_of_ble_eq_true rfl, Nat.le_of_ble_eq_true rfl⟩ rfl (Nat.le_of_ble_eq_true rfl) dX8_parseFlag_18 (fun o7 M6 => ?_)
  refine r_if_eq (pc := 21) C dX8_parseFlag_21 (tgt := 32) rfl ?_ ?_
  refine r_iconst (pc := 32) C dX8_parseFlag_32 kc_1 ?_
  refine r_goto (pc := 33) C dX8_parseFlag_33 (tgt := 37) rfl ?_
  refine r_sub [1, 0] rfl ?_
  exact lX8_parseFlag_37   C hRm h0   x5 (1 : Int32) M6 h_0 h_0
  refine r_aload_n (pc := 24) C 1 rfl rfl dX8_parseFlag_24 ?_
  refine r_iload_n (pc := 25) C 0 rfl rfl dX8_parseFlag_25 ?_
  refine r_cVI (pc := 26) C hRm (okX8_isOn h0 x5 M6 h_0) (Rc.of C rfl rfl h_0) mw_1213 cvX8_isOn rfl ⟨Nat.le_of_ble_eq_true rfl, Nat.le_of_ble_eq_true rfl⟩ rfl (Nat.le_of_ble_eq_true rfl) dX8_parseFlag_26 (fun o9 M8 => ?_)
  refine r_if_ne (pc := 29) C dX8_parseFlag_29 (tgt := 36) rfl ?_ ?_
  refine r_iconst (pc := 36) C dX8_parseFlag_36 kc_0 ?_
  refine r_sub [1, 0] rfl ?_
  exact lX8_parseFlag_37   C hRm h0   x5 (0 : Int32) M8 h_0 h_0
  refine r_iconst (pc := 32) C dX8_parseFlag_32 kc_1 ?_
  refine r_goto (pc := 33) C dX8_parseFlag_33 (tgt := 37) rfl ?_
  refine r_sub [1, 0] rfl ?_
  exact lX8_parseFlag_37   C hRm h0   x5 (1 : Int32) M8 h_0 h_0
theorem okX8_parseFlag {l : Launch} {G : WT} (h0 : W0 G) (M : Mem) (h_0 : G.2.2.2.1 19 0 0) : Okm l G yX8_parseFlag cX8_parseFlag 2 none 4 83 [.ref (G.1 19 0 0)] voV M (pX8_parseFlag   M) :=
  Okm.of "PermitParkModel" rfl (by decide) (Nat.le_of_ble_eq_true rfl) (L := [(0, .ref (G.1 19 0 0))]) rfl (fun K _ hr C => lX8_parseFlag_0 C (by rw [hr]; exact ⟨rfl, rfl⟩) h0  M h_0)
def pX8_parseSet_24 (v1 : Int32) (s0 : Int32) (s1 : Int32) (M : Mem) : Option (Unit × Mem) :=
    bnd (pX8_parseNumber s1 s0 M) fun o2 M1 => bnd (pX8_isFine M1) fun o4 M3 => if o4 = 0 then (some ((), M3))
    else chk (inB v1 700) <| nm (wI M3 20 0 0 v1.toNatClampNeg o2) fun M6 => some ((), M6)
theorem lX8_parseSet_24 {K : KT} {G : WT} (C : Cx K G "PermitParkModel" cX8_parseSet 3 none) (hRm : K.2.2.2.1.frames = 5 ∧ K.2.2.2.1.locals = 106) (h0 : W0 G) (v1 : Int32) (s0 : Int32) (s1 : Int32) (M : Mem) (g_0 : G.2.2.2.1 19 0 0) (g_s2 : G.2.2.2.1 19 0 0) : Run K G 3 0 0 (FinM K G voV 0 0) 24 [(0, .ref (G.1 19 0 0)), (1, .int v1)] [.int s0, .int s1, .ref (G.1 19 0 0)] M (pX8_parseSet_24   v1 s0 s1 M) := by
  rw [pX8_parseSet_24]
  refine r_cVI (pc := 24) C hRm (okX8_parseNumber h0 s1 s0 M g_s2) (Rc.of C rfl rfl g_s2) mw_1146 cvX8_parseNumber rfl ⟨Nat.le_of_ble_eq_true rfl, Nat.le_of_ble_eq_true rfl⟩ rfl (Nat.le_of_ble_eq_true rfl) dX8_parseSet_24 (fun o2 M1 => ?_)
  refine r_istore_n (pc := 27) C [(2, .int o2), (0, .ref (G.1 19 0 0)), (1, .int v1)] dX8_parseSet_27 rfl (by decide) rfl ?_
  refine r_aload_n (pc := 28) C 1 rfl rfl dX8_parseSet_28 ?_
  refine r_cVI (pc := 29) C hRm (okX8_isFine h0 M1 g_s2) (Rc.of C rfl rfl g_s2) mw_1119 cvX8_isFine rfl ⟨Nat.le_of_ble_eq_true rfl, Nat.le_of_ble_eq_true rfl⟩ rfl (Nat.le_of_ble_eq_true rfl) dX8_parseSet_29 (fun o4 M3 => ?_)
  refine r_if_eq (pc := 32) C dX8_parseSet_32 (tgt := 42) rfl ?_ ?_
  exact r_vret (pc := 42) C dX8_parseSet_42
  refine r_aload_n (pc := 35) C 1 rfl rfl dX8_parseSet_35 ?_
  refine r_getR (pc := 36) C FX8_state mw_1012 g_s2 rfl dX8_parseSet_36 (fun g5 => ?_)
  refine r_iload_n (pc := 39) C 2 rfl rfl dX8_parseSet_39 ?_
  refine r_iload_n (pc := 40) C 0 rfl rfl dX8_parseSet_40 ?_
  refine r_iast (pc := 41) C rfl g5 (fun _ => rfl) (fun _ => rfl) dX8_parseSet_41 (fun M6 => ?_)
  exact r_vret (pc := 42) C dX8_parseSet_42
def pX8_parseSet (M : Mem) : Option (Unit × Mem) :=
    bnd (pX8_advance M) fun o2 M1 => bnd (pX8_parseNumber (0 : Int32) (1 : Int32) M1) fun o4 M3 => if ¬ o4 = 0 then (pX8_parseSet_24    o4 (1 : Int32) (0 : Int32) M3)
    else pX8_parseSet_24    o4 (1000 : Int32) (0 : Int32) M3
theorem lX8_parseSet_0 {K : KT} {G : WT} (C : Cx K G "PermitParkModel" cX8_parseSet 3 none) (hRm : K.2.2.2.1.frames = 5 ∧ K.2.2.2.1.locals = 106) (h0 : W0 G) (M : Mem) (h_0 : G.2.2.2.1 19 0 0) : Run K G 3 0 0 (FinM K G voV 0 0) 0 [(0, .ref (G.1 19 0 0))] [] M (pX8_parseSet    M) := by
  rw [pX8_parseSet]
  refine r_aload_n (pc := 0) C 0 rfl rfl dX8_parseSet_0 ?_
  refine r_cVV (pc := 1) C hRm (okX8_advance h0 M h_0) (Rc.of C rfl rfl h_0) mw_1142 cvX8_advance rfl ⟨Nat.le_of_ble_eq_true rfl, Nat.le_of_ble_eq_true rfl⟩ rfl (Nat.le_of_ble_eq_true rfl) dX8_parseSet_1 (fun o2 M1 => ?_)
  refine r_aload_n (pc := 4) C 0 rfl rfl dX8_parseSet_4 ?_
  refine r_iconst (pc := 5) C dX8_parseSet_5 kc_0 ?_
  refine r_iconst (pc := 6) C dX8_parseSet_6 kc_1 ?_
  refine r_cVI (pc := 7) C hRm (okX8_parseNumber h0 (0 : Int32) (1 : Int32) M1 h_0) (Rc.of C rfl rfl h_0) mw_1146 cvX8_parseNumber rfl ⟨Nat.le_of_ble_eq_true rfl, Nat.le_of_ble_eq_true rfl⟩ rfl (Nat.le_of_ble_eq_true rfl) dX8_parseSet_7 (fun o4 M3 => ?_)
  refine r_istore_n (pc := 10) C [(1, .int o4), (0, .ref (G.1 19 0 0))] dX8_parseSet_10 rfl (by decide) rfl ?_
  refine r_aload_n (pc := 11) C 1 rfl rfl dX8_parseSet_11 ?_
  refine r_iconst (pc := 12) C dX8_parseSet_12 kc_0 ?_
  refine r_iload_n (pc := 13) C 0 rfl rfl dX8_parseSet_13 ?_
  refine r_if_ne (pc := 14) C dX8_parseSet_14 (tgt := 23) rfl ?_ ?_
  refine r_iconst (pc := 23) C dX8_parseSet_23 kc_1 ?_
  refine r_sub [1, 0] rfl ?_
  exact lX8_parseSet_24   C hRm h0   o4 (1 : Int32) (0 : Int32) M3 h_0 h_0
  refine r_sipush (pc := 17) C dX8_parseSet_17 ks_1000 ?_
  refine r_goto (pc := 20) C dX8_parseSet_20 (tgt := 24) rfl ?_
  refine r_sub [1, 0] rfl ?_
  exact lX8_parseSet_24   C hRm h0   o4 (1000 : Int32) (0 : Int32) M3 h_0 h_0
theorem okX8_parseSet {l : Launch} {G : WT} (h0 : W0 G) (M : Mem) (h_0 : G.2.2.2.1 19 0 0) : Okm l G yX8_parseSet cX8_parseSet 3 none 5 106 [.ref (G.1 19 0 0)] voV M (pX8_parseSet   M) :=
  Okm.of "PermitParkModel" rfl (by decide) (Nat.le_of_ble_eq_true rfl) (L := [(0, .ref (G.1 19 0 0))]) rfl (fun K _ hr C => lX8_parseSet_0 C (by rw [hr]; exact ⟨rfl, rfl⟩) h0  M h_0)
def pX8_parseSeed (M : Mem) : Option (Unit × Mem) :=
    bnd (pX8_isWord 13 M) fun o2 M1 => bnd (pX8_require o2 (1 : Int32) M1) fun o4 M3 => bnd (pX8_advance M3) fun o6 M5 => bnd (pX8_parseNumber (0 : Int32) (1000002 : Int32) M5) fun o8 M7 => bnd (pX8_isFine M7) fun o10 M9 => if o10 = 0 then (some ((), M9))
    else chk (inB (4 : Int32) 700) <| nm (wI M9 20 0 0 (4 : Int32).toNatClampNeg o8) fun M12 => some ((), M12)
theorem lX8_parseSeed_0 {K : KT} {G : WT} (C : Cx K G "PermitParkModel" cX8_parseSeed 2 none) (hRm : K.2.2.2.1.frames = 5 ∧ K.2.2.2.1.locals = 109) (h0 : W0 G) (M : Mem) (h_0 : G.2.2.2.1 19 0 0) : Run K G 2 0 0 (FinM K G voV 0 0) 0 [(0, .ref (G.1 19 0 0))] [] M (pX8_parseSeed    M) := by
  rw [pX8_parseSeed]
  refine r_aload_n (pc := 0) C 0 rfl rfl dX8_parseSeed_0 ?_
  refine r_aload_n (pc := 1) C 0 rfl rfl dX8_parseSeed_1 ?_
  refine r_ldcS (pc := 2) C (q := ("PermitParkModel", 189, "seed", 13)) (by decide +kernel) rfl dX8_parseSeed_2 ?_
  refine r_cVI (pc := 4) C hRm (okX8_isWord h0 13 M h_0 (by decide)) (Rc.of C rfl rfl h_0) mw_1128 cvX8_isWord rfl ⟨Nat.le_of_ble_eq_true rfl, Nat.le_of_ble_eq_true rfl⟩ rfl (Nat.le_of_ble_eq_true rfl) dX8_parseSeed_4 (fun o2 M1 => ?_)
  refine r_iconst (pc := 7) C dX8_parseSeed_7 kc_1 ?_
  refine r_cVV (pc := 8) C hRm (okX8_require h0 o2 (1 : Int32) M1 h_0) (Rc.of C rfl rfl h_0) mw_1138 cvX8_require rfl ⟨Nat.le_of_ble_eq_true rfl, Nat.le_of_ble_eq_true rfl⟩ rfl (Nat.le_of_ble_eq_true rfl) dX8_parseSeed_8 (fun o4 M3 => ?_)
  refine r_aload_n (pc := 11) C 0 rfl rfl dX8_parseSeed_11 ?_
  refine r_cVV (pc := 12) C hRm (okX8_advance h0 M3 h_0) (Rc.of C rfl rfl h_0) mw_1142 cvX8_advance rfl ⟨Nat.le_of_ble_eq_true rfl, Nat.le_of_ble_eq_true rfl⟩ rfl (Nat.le_of_ble_eq_true rfl) dX8_parseSeed_12 (fun o6 M5 => ?_)
  refine r_aload_n (pc := 15) C 0 rfl rfl dX8_parseSeed_15 ?_
  refine r_iconst (pc := 16) C dX8_parseSeed_16 kc_0 ?_
  refine r_ldc (pc := 17) C mw_1230 dX8_parseSeed_17 ?_
  refine r_cVI (pc := 19) C hRm (okX8_parseNumber h0 (0 : Int32) (1000002 : Int32) M5 h_0) (Rc.of C rfl rfl h_0) mw_1146 cvX8_parseNumber rfl ⟨Nat.le_of_ble_eq_true rfl, Nat.le_of_ble_eq_true rfl⟩ rfl (Nat.le_of_ble_eq_true rfl) dX8_parseSeed_19 (fun o8 M7 => ?_)
  refine r_istore_n (pc := 22) C [(1, .int o8), (0, .ref (G.1 19 0 0))] dX8_parseSeed_22 rfl (by decide) rfl ?_
  refine r_aload_n (pc := 23) C 1 rfl rfl dX8_parseSeed_23 ?_
  refine r_cVI (pc := 24) C hRm (okX8_isFine h0 M7 h_0) (Rc.of C rfl rfl h_0) mw_1119 cvX8_isFine rfl ⟨Nat.le_of_ble_eq_true rfl, Nat.le_of_ble_eq_true rfl⟩ rfl (Nat.le_of_ble_eq_true rfl) dX8_parseSeed_24 (fun o10 M9 => ?_)
  refine r_if_eq (pc := 27) C dX8_parseSeed_27 (tgt := 37) rfl ?_ ?_
  exact r_vret (pc := 37) C dX8_parseSeed_37
  refine r_aload_n (pc := 30) C 1 rfl rfl dX8_parseSeed_30 ?_
  refine r_getR (pc := 31) C FX8_state mw_1012 h_0 rfl dX8_parseSeed_31 (fun g11 => ?_)
  refine r_iconst (pc := 34) C dX8_parseSeed_34 kc_4 ?_
  refine r_iload_n (pc := 35) C 0 rfl rfl dX8_parseSeed_35 ?_
  refine r_iast (pc := 36) C rfl g11 (fun _ => rfl) (fun _ => rfl) dX8_parseSeed_36 (fun M12 => ?_)
  exact r_vret (pc := 37) C dX8_parseSeed_37
theorem okX8_parseSeed {l : Launch} {G : WT} (h0 : W0 G) (M : Mem) (h_0 : G.2.2.2.1 19 0 0) : Okm l G yX8_parseSeed cX8_parseSeed 2 none 5 109 [.ref (G.1 19 0 0)] voV M (pX8_parseSeed   M) :=
  Okm.of "PermitParkModel" rfl (by decide) (Nat.le_of_ble_eq_true rfl) (L := [(0, .ref (G.1 19 0 0))]) rfl (fun K _ hr C => lX8_parseSeed_0 C (by rw [hr]; exact ⟨rfl, rfl⟩) h0  M h_0)
def pX8_parseStatement_52 (M : Mem) : Option (Unit × Mem) :=
    bnd (pX8_parseSymbol (59 : Int32) M) fun o2 M1 => some ((), M1)
theorem lX8_parseStatement_52 {K : KT} {G : WT} (C : Cx K G "PermitParkModel" cX8_parseStatement 1 none) (hRm : K.2.2.2.1.frames = 9 ∧ K.2.2.2.1.locals = 194) (h0 : W0 G) (M : Mem) (g_0 : G.2.2.2.1 19 0 0) : Run K G 1 0 0 (FinM K G voV 0 0) 52 [(0, .ref (G.1 19 0 0))] [] M (pX8_parseStatement_52    M) := by
  rw [pX8_parseStatement_52]
  refine r_aload_n (pc := 52) C 0 rfl rfl dX8_parseStatement_52 ?_
  refine r_bipush (pc := 53) C dX8_parseStatement_53 kb_59 ?_
  refine r_cVV (pc := 55) C hRm (okX8_parseSymbol h0 (59 : Int32) M g_0) (Rc.of C rfl rfl g_0) mw_1154 cvX8_parseSymbol rfl ⟨Nat.le_of_ble_eq_true rfl, Nat.le_of_ble_eq_true rfl⟩ rfl (Nat.le_of_ble_eq_true rfl) dX8_parseStatement_55 (fun o2 M1 => ?_)
  exact r_vret (pc := 58) C dX8_parseStatement_58
def pX8_parseStatement (M : Mem) : Option (Unit × Mem) :=
    bnd (pX8_isWord 11 M) fun o2 M1 => if o2 = 0 then (bnd (pX8_isWord 12 M1) fun o4 M3 => if o4 = 0 then (bnd (pX8_isWord 4 M3) fun o6 M5 => if o6 = 0 then (bnd (pX8_parseSeed M5) fun o8 M7 => pX8_parseStatement_52    M7)
    else bnd (pX8_parseSet M5) fun o10 M9 => pX8_parseStatement_52    M9)
    else bnd (pX8_parseFlag M3) fun o12 M11 => pX8_parseStatement_52    M11)
    else bnd (pX8_parseThread M1) fun o14 M13 => pX8_parseStatement_52    M13
theorem lX8_parseStatement_0 {K : KT} {G : WT} (C : Cx K G "PermitParkModel" cX8_parseStatement 1 none) (hRm : K.2.2.2.1.frames = 9 ∧ K.2.2.2.1.locals = 194) (h0 : W0 G) (M : Mem) (h_0 : G.2.2.2.1 19 0 0) : Run K G 1 0 0 (FinM K G voV 0 0) 0 [(0, .ref (G.1 19 0 0))] [] M (pX8_parseStatement    M) := by
  rw [pX8_parseStatement]
  refine r_aload_n (pc := 0) C 0 rfl rfl dX8_parseStatement_0 ?_
  refine r_ldcS (pc := 1) C (q := ("PermitParkModel", 192, "thread", 11)) (by decide +kernel) rfl dX8_parseStatement_1 ?_
  refine r_cVI (pc := 3) C hRm (okX8_isWord h0 11 M h_0 (by decide)) (Rc.of C rfl rfl h_0) mw_1128 cvX8_isWord rfl ⟨Nat.le_of_ble_eq_true rfl, Nat.le_of_ble_eq_true rfl⟩ rfl (Nat.le_of_ble_eq_true rfl) dX8_parseStatement_3 (fun o2 M1 => ?_)
  refine r_if_eq (pc := 6) C dX8_parseStatement_6 (tgt := 16) rfl ?_ ?_
  refine r_aload_n (pc := 16) C 0 rfl rfl dX8_parseStatement_16 ?_
  refine r_ldcS (pc := 17) C (q := ("PermitParkModel", 197, "flag", 12)) (by decide +kernel) rfl dX8_parseStatement_17 ?_
  refine r_cVI (pc := 19) C hRm (okX8_isWord h0 12 M1 h_0 (by decide)) (Rc.of C rfl rfl h_0) mw_1128 cvX8_isWord rfl ⟨Nat.le_of_ble_eq_true rfl, Nat.le_of_ble_eq_true rfl⟩ rfl (Nat.le_of_ble_eq_true rfl) dX8_parseStatement_19 (fun o4 M3 => ?_)
  refine r_if_eq (pc := 22) C dX8_parseStatement_22 (tgt := 32) rfl ?_ ?_
  refine r_aload_n (pc := 32) C 0 rfl rfl dX8_parseStatement_32 ?_
  refine r_ldcS (pc := 33) C (q := ("PermitParkModel", 145, "set", 4)) (by decide +kernel) rfl dX8_parseStatement_33 ?_
  refine r_cVI (pc := 35) C hRm (okX8_isWord h0 4 M3 h_0 (by decide)) (Rc.of C rfl rfl h_0) mw_1128 cvX8_isWord rfl ⟨Nat.le_of_ble_eq_true rfl, Nat.le_of_ble_eq_true rfl⟩ rfl (Nat.le_of_ble_eq_true rfl) dX8_parseStatement_35 (fun o6 M5 => ?_)
  refine r_if_eq (pc := 38) C dX8_parseStatement_38 (tgt := 48) rfl ?_ ?_
  refine r_aload_n (pc := 48) C 0 rfl rfl dX8_parseStatement_48 ?_
  refine r_cVV (pc := 49) C hRm (okX8_parseSeed h0 M5 h_0) (Rc.of C rfl rfl h_0) mw_1225 cvX8_parseSeed rfl ⟨Nat.le_of_ble_eq_true rfl, Nat.le_of_ble_eq_true rfl⟩ rfl (Nat.le_of_ble_eq_true rfl) dX8_parseStatement_49 (fun o8 M7 => ?_)
  exact lX8_parseStatement_52   C hRm h0   M7 h_0
  refine r_aload_n (pc := 41) C 0 rfl rfl dX8_parseStatement_41 ?_
  refine r_cVV (pc := 42) C hRm (okX8_parseSet h0 M5 h_0) (Rc.of C rfl rfl h_0) mw_1221 cvX8_parseSet rfl ⟨Nat.le_of_ble_eq_true rfl, Nat.le_of_ble_eq_true rfl⟩ rfl (Nat.le_of_ble_eq_true rfl) dX8_parseStatement_42 (fun o10 M9 => ?_)
  refine r_goto (pc := 45) C dX8_parseStatement_45 (tgt := 52) rfl ?_
  exact lX8_parseStatement_52   C hRm h0   M9 h_0
  refine r_aload_n (pc := 25) C 0 rfl rfl dX8_parseStatement_25 ?_
  refine r_cVV (pc := 26) C hRm (okX8_parseFlag h0 M3 h_0) (Rc.of C rfl rfl h_0) mw_1209 cvX8_parseFlag rfl ⟨Nat.le_of_ble_eq_true rfl, Nat.le_of_ble_eq_true rfl⟩ rfl (Nat.le_of_ble_eq_true rfl) dX8_parseStatement_26 (fun o12 M11 => ?_)
  refine r_goto (pc := 29) C dX8_parseStatement_29 (tgt := 52) rfl ?_
  exact lX8_parseStatement_52   C hRm h0   M11 h_0
  refine r_aload_n (pc := 9) C 0 rfl rfl dX8_parseStatement_9 ?_
  refine r_cVV (pc := 10) C hRm (okX8_parseThread h0 M1 h_0) (Rc.of C rfl rfl h_0) mw_1134 cvX8_parseThread rfl ⟨Nat.le_of_ble_eq_true rfl, Nat.le_of_ble_eq_true rfl⟩ rfl (Nat.le_of_ble_eq_true rfl) dX8_parseStatement_10 (fun o14 M13 => ?_)
  refine r_goto (pc := 13) C dX8_parseStatement_13 (tgt := 52) rfl ?_
  exact lX8_parseStatement_52   C hRm h0   M13 h_0
theorem okX8_parseStatement {l : Launch} {G : WT} (h0 : W0 G) (M : Mem) (h_0 : G.2.2.2.1 19 0 0) : Okm l G yX8_parseStatement cX8_parseStatement 1 none 9 194 [.ref (G.1 19 0 0)] voV M (pX8_parseStatement   M) :=
  Okm.of "PermitParkModel" rfl (by decide) (Nat.le_of_ble_eq_true rfl) (L := [(0, .ref (G.1 19 0 0))]) rfl (fun K _ hr C => lX8_parseStatement_0 C (by rw [hr]; exact ⟨rfl, rfl⟩) h0  M h_0)
def pX8_copy_20_21_3 : Nat → Int32 → Int32 → Int32 → Mem → Option (Unit × Mem)
  | 0, _, _, _, _ => none
  | n + 1, v1, v3, v4, M =>
    if (700 : Int32) ≤ v4 then (some ((), M))
    else chk (inB (v1 + v4) 700) <| chk (inB (v3 + v4) 700) <| nm (wI M 21 0 0 (v3 + v4).toNatClampNeg (M.1 20 0 0 (v1 + v4).toNatClampNeg)) fun M1 => pX8_copy_20_21_3   n v1 v3 (v4 + (1 : Int32)) M1
theorem lX8_copy_20_21_3 {K : KT} {G : WT} (C : Cx K G "PermitParkModel" cX8_copy 5 none) (hRm : K.2.2.2.1.frames = 0 ∧ K.2.2.2.1.locals = 0) (h0 : W0 G) : ∀ (n : Nat) (v1 : Int32) (v3 : Int32) (v4 : Int32) (M : Mem), G.2.2.2.1 20 0 0 → G.2.2.2.1 21 0 0 → Run K G 5 0 0 (FinM K G voV 0 0) 3 [(0, .ref (G.1 20 0 0)), (1, .int v1), (2, .ref (G.1 21 0 0)), (3, .int v3), (4, .int v4)] [] M (pX8_copy_20_21_3   n v1 v3 v4 M) := by
  intro n
  induction n with
  | zero =>
    intro v1 v3 v4 M g_0 g_2
    exact r_none
  | succ n ih =>
    intro v1 v3 v4 M g_0 g_2
    rw [pX8_copy_20_21_3]
    refine r_iload (pc := 3) C 4 rfl dX8_copy_3 ?_
    refine r_sipush (pc := 5) C dX8_copy_5 ks_700 ?_
    refine r_icmp_ge (pc := 8) C dX8_copy_8 (tgt := 29) rfl ?_ ?_
    exact r_vret (pc := 29) C dX8_copy_29
    refine r_aload_n (pc := 11) C 2 rfl rfl dX8_copy_11 ?_
    refine r_iload_n (pc := 12) C 3 rfl rfl dX8_copy_12 ?_
    refine r_iload (pc := 13) C 4 rfl dX8_copy_13 ?_
    refine r_iadd (pc := 15) C dX8_copy_15 ?_
    refine r_aload_n (pc := 16) C 0 rfl rfl dX8_copy_16 ?_
    refine r_iload_n (pc := 17) C 1 rfl rfl dX8_copy_17 ?_
    refine r_iload (pc := 18) C 4 rfl dX8_copy_18 ?_
    refine r_iadd (pc := 20) C dX8_copy_20 ?_
    refine r_iald (pc := 21) C rfl g_0 (fun _ => rfl) (fun _ => rfl) dX8_copy_21 ?_
    refine r_iast (pc := 22) C rfl g_2 (fun _ => rfl) (fun _ => rfl) dX8_copy_22 (fun M1 => ?_)
    refine r_iinc (pc := 23) C [(4, .int (v4 + (1 : Int32))), (0, .ref (G.1 20 0 0)), (1, .int v1), (2, .ref (G.1 21 0 0)), (3, .int v3)] dX8_copy_23 (p := 4) rfl (ki_1 _) (by decide) rfl ?_
    refine r_goto (pc := 26) C dX8_copy_26 (tgt := 3) rfl ?_
    refine r_sub [1, 2, 3, 4, 0] rfl ?_
    exact ih v1 v3 (v4 + (1 : Int32)) M1 g_0 g_2
def pX8_copy_20_21 (v1 : Int32) (v3 : Int32) (M : Mem) : Option (Unit × Mem) :=
    pX8_copy_20_21_3   fu v1 v3 (0 : Int32) M
theorem lX8_copy_20_21_0 {K : KT} {G : WT} (C : Cx K G "PermitParkModel" cX8_copy 5 none) (hRm : K.2.2.2.1.frames = 0 ∧ K.2.2.2.1.locals = 0) (h0 : W0 G) (v1 : Int32) (v3 : Int32) (M : Mem) (h_0 : G.2.2.2.1 20 0 0) (h_2 : G.2.2.2.1 21 0 0) : Run K G 5 0 0 (FinM K G voV 0 0) 0 [(0, .ref (G.1 20 0 0)), (1, .int v1), (2, .ref (G.1 21 0 0)), (3, .int v3)] [] M (pX8_copy_20_21   v1 v3 M) := by
  rw [pX8_copy_20_21]
  refine r_iconst (pc := 0) C dX8_copy_0 kc_0 ?_
  refine r_istore (pc := 1) C [(4, .int (0 : Int32)), (0, .ref (G.1 20 0 0)), (1, .int v1), (2, .ref (G.1 21 0 0)), (3, .int v3)] dX8_copy_1 (by decide) rfl ?_
  refine r_sub [1, 2, 3, 4, 0] rfl ?_
  exact lX8_copy_20_21_3   C hRm h0  fu v1 v3 (0 : Int32) M h_0 h_2
theorem okX8_copy_20_21 {l : Launch} {G : WT} (h0 : W0 G) (v1 : Int32) (v3 : Int32) (M : Mem) (h_0 : G.2.2.2.1 20 0 0) (h_2 : G.2.2.2.1 21 0 0) : Okm l G yX8_copy cX8_copy 5 none 0 0 [.ref (G.1 20 0 0), .int v1, .ref (G.1 21 0 0), .int v3] voV M (pX8_copy_20_21  v1 v3 M) :=
  Okm.of "PermitParkModel" rfl (by decide) (Nat.le_of_ble_eq_true rfl) (L := [(0, .ref (G.1 20 0 0)), (1, .int v1), (2, .ref (G.1 21 0 0)), (3, .int v3)]) rfl (fun K _ hr C => lX8_copy_20_21_0 C (by rw [hr]; exact ⟨rfl, rfl⟩) h0 v1 v3 M h_0 h_2)
def pX8_copy_21_20_3 : Nat → Int32 → Int32 → Int32 → Mem → Option (Unit × Mem)
  | 0, _, _, _, _ => none
  | n + 1, v1, v3, v4, M =>
    if (700 : Int32) ≤ v4 then (some ((), M))
    else chk (inB (v1 + v4) 700) <| chk (inB (v3 + v4) 700) <| nm (wI M 20 0 0 (v3 + v4).toNatClampNeg (M.1 21 0 0 (v1 + v4).toNatClampNeg)) fun M1 => pX8_copy_21_20_3   n v1 v3 (v4 + (1 : Int32)) M1
theorem lX8_copy_21_20_3 {K : KT} {G : WT} (C : Cx K G "PermitParkModel" cX8_copy 5 none) (hRm : K.2.2.2.1.frames = 0 ∧ K.2.2.2.1.locals = 0) (h0 : W0 G) : ∀ (n : Nat) (v1 : Int32) (v3 : Int32) (v4 : Int32) (M : Mem), G.2.2.2.1 21 0 0 → G.2.2.2.1 20 0 0 → Run K G 5 0 0 (FinM K G voV 0 0) 3 [(0, .ref (G.1 21 0 0)), (1, .int v1), (2, .ref (G.1 20 0 0)), (3, .int v3), (4, .int v4)] [] M (pX8_copy_21_20_3   n v1 v3 v4 M) := by
  intro n
  induction n with
  | zero =>
    intro v1 v3 v4 M g_0 g_2
    exact r_none
  | succ n ih =>
    intro v1 v3 v4 M g_0 g_2
    rw [pX8_copy_21_20_3]
    refine r_iload (pc := 3) C 4 rfl dX8_copy_3 ?_
    refine r_sipush (pc := 5) C dX8_copy_5 ks_700 ?_
    refine r_icmp_ge (pc := 8) C dX8_copy_8 (tgt := 29) rfl ?_ ?_
    exact r_vret (pc := 29) C dX8_copy_29
    refine r_aload_n (pc := 11) C 2 rfl rfl dX8_copy_11 ?_
    refine r_iload_n (pc := 12) C 3 rfl rfl dX8_copy_12 ?_
    refine r_iload (pc := 13) C 4 rfl dX8_copy_13 ?_
    refine r_iadd (pc := 15) C dX8_copy_15 ?_
    refine r_aload_n (pc := 16) C 0 rfl rfl dX8_copy_16 ?_
    refine r_iload_n (pc := 17) C 1 rfl rfl dX8_copy_17 ?_
    refine r_iload (pc := 18) C 4 rfl dX8_copy_18 ?_
    refine r_iadd (pc := 20) C dX8_copy_20 ?_
    refine r_iald (pc := 21) C rfl g_0 (fun _ => rfl) (fun _ => rfl) dX8_copy_21 ?_
    refine r_iast (pc := 22) C rfl g_2 (fun _ => rfl) (fun _ => rfl) dX8_copy_22 (fun M1 => ?_)
    refine r_iinc (pc := 23) C [(4, .int (v4 + (1 : Int32))), (0, .ref (G.1 21 0 0)), (1, .int v1), (2, .ref (G.1 20 0 0)), (3, .int v3)] dX8_copy_23 (p := 4) rfl (ki_1 _) (by decide) rfl ?_
    refine r_goto (pc := 26) C dX8_copy_26 (tgt := 3) rfl ?_
    refine r_sub [1, 2, 3, 4, 0] rfl ?_
    exact ih v1 v3 (v4 + (1 : Int32)) M1 g_0 g_2
def pX8_copy_21_20 (v1 : Int32) (v3 : Int32) (M : Mem) : Option (Unit × Mem) :=
    pX8_copy_21_20_3   fu v1 v3 (0 : Int32) M
theorem lX8_copy_21_20_0 {K : KT} {G : WT} (C : Cx K G "PermitParkModel" cX8_copy 5 none) (hRm : K.2.2.2.1.frames = 0 ∧ K.2.2.2.1.locals = 0) (h0 : W0 G) (v1 : Int32) (v3 : Int32) (M : Mem) (h_0 : G.2.2.2.1 21 0 0) (h_2 : G.2.2.2.1 20 0 0) : Run K G 5 0 0 (FinM K G voV 0 0) 0 [(0, .ref (G.1 21 0 0)), (1, .int v1), (2, .ref (G.1 20 0 0)), (3, .int v3)] [] M (pX8_copy_21_20   v1 v3 M) := by
  rw [pX8_copy_21_20]
  refine r_iconst (pc := 0) C dX8_copy_0 kc_0 ?_
  refine r_istore (pc := 1) C [(4, .int (0 : Int32)), (0, .ref (G.1 21 0 0)), (1, .int v1), (2, .ref (G.1 20 0 0)), (3, .int v3)] dX8_copy_1 (by decide) rfl ?_
  refine r_sub [1, 2, 3, 4, 0] rfl ?_
  exact lX8_copy_21_20_3   C hRm h0  fu v1 v3 (0 : Int32) M h_0 h_2
theorem okX8_copy_21_20 {l : Launch} {G : WT} (h0 : W0 G) (v1 : Int32) (v3 : Int32) (M : Mem) (h_0 : G.2.2.2.1 21 0 0) (h_2 : G.2.2.2.1 20 0 0) : Okm l G yX8_copy cX8_copy 5 none 0 0 [.ref (G.1 21 0 0), .int v1, .ref (G.1 20 0 0), .int v3] voV M (pX8_copy_21_20  v1 v3 M) :=
  Okm.of "PermitParkModel" rfl (by decide) (Nat.le_of_ble_eq_true rfl) (L := [(0, .ref (G.1 21 0 0)), (1, .int v1), (2, .ref (G.1 20 0 0)), (3, .int v3)]) rfl (fun K _ hr C => lX8_copy_21_20_0 C (by rw [hr]; exact ⟨rfl, rfl⟩) h0 v1 v3 M h_0 h_2)
def pX8_load_62 (M : Mem) : Option (Int32 × Mem) :=
    nm (wI M 19 0 0 9 (0 : Int32)) fun M1 => bnd (pX8_isFine M1) fun o3 M2 => if ¬ o3 = 0 then (chk (inB (2 : Int32) 700) <| some ((M2.1 20 0 0 (2 : Int32).toNatClampNeg), M2))
    else bnd (pX8_copy_21_20 (0 : Int32) (0 : Int32) M2) fun o8 M7 => some ((-1 : Int32), M7)
theorem lX8_load_62 {K : KT} {G : WT} (C : Cx K G "PermitParkModel" cX8_load 1 (some FieldType.int)) (hRm : K.2.2.2.1.frames = 10 ∧ K.2.2.2.1.locals = 214) (h0 : W0 G) (M : Mem) (g_0 : G.2.2.2.1 19 0 0) : Run K G 1 0 0 (FinM K G voI 0 0) 62 [(0, .ref (G.1 19 0 0))] [] M (pX8_load_62    M) := by
  rw [pX8_load_62]
  refine r_aload_n (pc := 62) C 0 rfl rfl dX8_load_62 ?_
  refine r_iconst (pc := 63) C dX8_load_63 kc_0 ?_
  refine r_putI (pc := 64) C FX8_textLength mw_1021 g_0 tyX8 tyX8_ok nmX8 (fun _ _ => rfl) rfl dX8_load_64 (fun M1 => ?_)
  refine r_aload_n (pc := 67) C 0 rfl rfl dX8_load_67 ?_
  refine r_cVI (pc := 68) C hRm (okX8_isFine h0 M1 g_0) (Rc.of C rfl rfl g_0) mw_1119 cvX8_isFine rfl ⟨Nat.le_of_ble_eq_true rfl, Nat.le_of_ble_eq_true rfl⟩ rfl (Nat.le_of_ble_eq_true rfl) dX8_load_68 (fun o3 M2 => ?_)
  refine r_if_ne (pc := 71) C dX8_load_71 (tgt := 89) rfl ?_ ?_
  refine r_aload_n (pc := 89) C 0 rfl rfl dX8_load_89 ?_
  refine r_getR (pc := 90) C FX8_state mw_1012 g_0 rfl dX8_load_90 (fun g4 => ?_)
  refine r_iconst (pc := 93) C dX8_load_93 kc_2 ?_
  refine r_iald (pc := 94) C rfl g4 (fun _ => rfl) (fun _ => rfl) dX8_load_94 ?_
  exact r_iret (pc := 95) C rfl dX8_load_95
  refine r_aload_n (pc := 74) C 0 rfl rfl dX8_load_74 ?_
  refine r_getR (pc := 75) C FX8_backup mw_1013 g_0 rfl dX8_load_75 (fun g5 => ?_)
  refine r_iconst (pc := 78) C dX8_load_78 kc_0 ?_
  refine r_aload_n (pc := 79) C 0 rfl rfl dX8_load_79 ?_
  refine r_getR (pc := 80) C FX8_state mw_1012 g_0 rfl dX8_load_80 (fun g6 => ?_)
  refine r_iconst (pc := 83) C dX8_load_83 kc_0 ?_
  refine r_cSV (pc := 84) C hRm (okX8_copy_21_20 h0 (0 : Int32) (0 : Int32) M2 g5 g6) mw_1099 cvX8_copy rfl ⟨Nat.le_of_ble_eq_true rfl, Nat.le_of_ble_eq_true rfl⟩ rfl (Nat.le_of_ble_eq_true rfl) dX8_load_84 (fun o8 M7 => ?_)
  refine r_iconst (pc := 87) C dX8_load_87 kc_m1 ?_
  exact r_iret (pc := 88) C rfl dX8_load_88
def pX8_load_41 : Nat → Mem → Option (Int32 × Mem)
  | 0, _ => none
  | n + 1, M =>
    bnd (pX8_isFine M) fun o2 M1 => if o2 = 0 then (pX8_load_62    M1)
    else if (M1.1 19 0 0 12) = 0 then (pX8_load_62    M1)
    else bnd (pX8_parseStatement M1) fun o4 M3 => pX8_load_41   n M3
theorem lX8_load_41 {K : KT} {G : WT} (C : Cx K G "PermitParkModel" cX8_load 1 (some FieldType.int)) (hRm : K.2.2.2.1.frames = 10 ∧ K.2.2.2.1.locals = 214) (h0 : W0 G) : ∀ (n : Nat) (M : Mem), G.2.2.2.1 19 0 0 → Run K G 1 0 0 (FinM K G voI 0 0) 41 [(0, .ref (G.1 19 0 0))] [] M (pX8_load_41   n  M) := by
  intro n
  induction n with
  | zero =>
    intro  M g_0
    exact r_none
  | succ n ih =>
    intro  M g_0
    rw [pX8_load_41]
    refine r_aload_n (pc := 41) C 0 rfl rfl dX8_load_41 ?_
    refine r_cVI (pc := 42) C hRm (okX8_isFine h0 M g_0) (Rc.of C rfl rfl g_0) mw_1119 cvX8_isFine rfl ⟨Nat.le_of_ble_eq_true rfl, Nat.le_of_ble_eq_true rfl⟩ rfl (Nat.le_of_ble_eq_true rfl) dX8_load_42 (fun o2 M1 => ?_)
    refine r_if_eq (pc := 45) C dX8_load_45 (tgt := 62) rfl ?_ ?_
    exact lX8_load_62   C hRm h0   M1 g_0
    refine r_aload_n (pc := 48) C 0 rfl rfl dX8_load_48 ?_
    refine r_getI (pc := 49) C FX8_token mw_1024 g_0 rfl rfl dX8_load_49 ?_
    refine r_if_eq (pc := 52) C dX8_load_52 (tgt := 62) rfl ?_ ?_
    exact lX8_load_62   C hRm h0   M1 g_0
    refine r_aload_n (pc := 55) C 0 rfl rfl dX8_load_55 ?_
    refine r_cVV (pc := 56) C hRm (okX8_parseStatement h0 M1 g_0) (Rc.of C rfl rfl g_0) mw_1123 cvX8_parseStatement rfl ⟨Nat.le_of_ble_eq_true rfl, Nat.le_of_ble_eq_true rfl⟩ rfl (Nat.le_of_ble_eq_true rfl) dX8_load_56 (fun o4 M3 => ?_)
    refine r_goto (pc := 59) C dX8_load_59 (tgt := 41) rfl ?_
    exact ih M3 g_0
def pX8_load (M : Mem) : Option (Int32 × Mem) :=
    nm (wI M 19 0 0 7 (0 : Int32)) fun M1 => bnd (pX8_copy_20_21 (0 : Int32) (0 : Int32) M1) fun o5 M4 => bnd (pX8_clear M4) fun o7 M6 => nm (wI M6 19 0 0 15 (0 : Int32)) fun M8 => nm (wI M8 19 0 0 16 (-1 : Int32)) fun M9 => nm (wI M9 19 0 0 10 (0 : Int32)) fun M10 => bnd (pX8_nextToken M10) fun o12 M11 => pX8_load_41   fu M11
theorem lX8_load_0 {K : KT} {G : WT} (C : Cx K G "PermitParkModel" cX8_load 1 (some FieldType.int)) (hRm : K.2.2.2.1.frames = 10 ∧ K.2.2.2.1.locals = 214) (h0 : W0 G) (M : Mem) (h_0 : G.2.2.2.1 19 0 0) : Run K G 1 0 0 (FinM K G voI 0 0) 0 [(0, .ref (G.1 19 0 0))] [] M (pX8_load    M) := by
  rw [pX8_load]
  refine r_aload_n (pc := 0) C 0 rfl rfl dX8_load_0 ?_
  refine r_iconst (pc := 1) C dX8_load_1 kc_0 ?_
  refine r_putI (pc := 2) C FX8_thrown mw_1019 h_0 tyX8 tyX8_ok nmX8 (fun _ _ => rfl) rfl dX8_load_2 (fun M1 => ?_)
  refine r_aload_n (pc := 5) C 0 rfl rfl dX8_load_5 ?_
  refine r_getR (pc := 6) C FX8_state mw_1012 h_0 rfl dX8_load_6 (fun g2 => ?_)
  refine r_iconst (pc := 9) C dX8_load_9 kc_0 ?_
  refine r_aload_n (pc := 10) C 0 rfl rfl dX8_load_10 ?_
  refine r_getR (pc := 11) C FX8_backup mw_1013 h_0 rfl dX8_load_11 (fun g3 => ?_)
  refine r_iconst (pc := 14) C dX8_load_14 kc_0 ?_
  refine r_cSV (pc := 15) C hRm (okX8_copy_20_21 h0 (0 : Int32) (0 : Int32) M1 g2 g3) mw_1099 cvX8_copy rfl ⟨Nat.le_of_ble_eq_true rfl, Nat.le_of_ble_eq_true rfl⟩ rfl (Nat.le_of_ble_eq_true rfl) dX8_load_15 (fun o5 M4 => ?_)
  refine r_aload_n (pc := 18) C 0 rfl rfl dX8_load_18 ?_
  refine r_cVV (pc := 19) C hRm (okX8_clear h0 M4 h_0) (Rc.of C rfl rfl h_0) mw_1008 cvX8_clear rfl ⟨Nat.le_of_ble_eq_true rfl, Nat.le_of_ble_eq_true rfl⟩ rfl (Nat.le_of_ble_eq_true rfl) dX8_load_19 (fun o7 M6 => ?_)
  refine r_aload_n (pc := 22) C 0 rfl rfl dX8_load_22 ?_
  refine r_iconst (pc := 23) C dX8_load_23 kc_0 ?_
  refine r_putI (pc := 24) C FX8_errorCode mw_1027 h_0 tyX8 tyX8_ok nmX8 (fun _ _ => rfl) rfl dX8_load_24 (fun M8 => ?_)
  refine r_aload_n (pc := 27) C 0 rfl rfl dX8_load_27 ?_
  refine r_iconst (pc := 28) C dX8_load_28 kc_m1 ?_
  refine r_putI (pc := 29) C FX8_errorPosition mw_1028 h_0 tyX8 tyX8_ok nmX8 (fun _ _ => rfl) rfl dX8_load_29 (fun M9 => ?_)
  refine r_aload_n (pc := 32) C 0 rfl rfl dX8_load_32 ?_
  refine r_iconst (pc := 33) C dX8_load_33 kc_0 ?_
  refine r_putI (pc := 34) C FX8_position mw_1022 h_0 tyX8 tyX8_ok nmX8 (fun _ _ => rfl) rfl dX8_load_34 (fun M10 => ?_)
  refine r_aload_n (pc := 37) C 0 rfl rfl dX8_load_37 ?_
  refine r_cVV (pc := 38) C hRm (okX8_nextToken h0 M10 h_0) (Rc.of C rfl rfl h_0) mw_1102 cvX8_nextToken rfl ⟨Nat.le_of_ble_eq_true rfl, Nat.le_of_ble_eq_true rfl⟩ rfl (Nat.le_of_ble_eq_true rfl) dX8_load_38 (fun o12 M11 => ?_)
  exact lX8_load_41   C hRm h0  fu M11 h_0
theorem okX8_load {l : Launch} {G : WT} (h0 : W0 G) (M : Mem) (h_0 : G.2.2.2.1 19 0 0) : Okm l G yX8_load cX8_load 1 (some FieldType.int) 10 214 [.ref (G.1 19 0 0)] voI M (pX8_load   M) :=
  Okm.of "PermitParkModel" rfl (by decide) (Nat.le_of_ble_eq_true rfl) (L := [(0, .ref (G.1 19 0 0))]) rfl (fun K _ hr C => lX8_load_0 C (by rw [hr]; exact ⟨rfl, rfl⟩) h0  M h_0)
end
