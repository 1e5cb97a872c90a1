/-! ===== pictures: setup text ===== -/
section
set_option maxRecDepth 4000
def pX7_settingMost (v0 : Int32) (M : Mem) : Option (Int32 × Mem) :=
    if ¬ v0 = 0 then (some ((1 : Int32), M))
    else some ((1000 : Int32), M)
theorem lX7_settingMost_0 {K : KT} {G : WT} (C : Cx K G "PermitPark" cX7_settingMost 1 (some FieldType.int)) (hRm : K.2.2.2.1.frames = 0 ∧ K.2.2.2.1.locals = 0) (h0 : W0 G) (v0 : Int32) (M : Mem) : Run K G 1 0 0 (FinM K G voI 0 0) 0 [(0, .int v0)] [] M (pX7_settingMost   v0 M) := by
  rw [pX7_settingMost]
  refine r_iload_n (pc := 0) C 0 rfl rfl dX7_settingMost_0 ?_
  refine r_if_ne (pc := 1) C dX7_settingMost_1 (tgt := 10) rfl ?_ ?_
  refine r_iconst (pc := 10) C dX7_settingMost_10 kc_1 ?_
  exact r_iret (pc := 11) C rfl dX7_settingMost_11
  refine r_sipush (pc := 4) C dX7_settingMost_4 ks_1000 ?_
  refine r_goto (pc := 7) C dX7_settingMost_7 (tgt := 11) rfl ?_
  exact r_iret (pc := 11) C rfl dX7_settingMost_11
theorem okX7_settingMost {l : Launch} {G : WT} (h0 : W0 G) (v0 : Int32) (M : Mem) : Okm l G yX7_settingMost cX7_settingMost 1 (some FieldType.int) 0 0 [.int v0] voI M (pX7_settingMost  v0 M) :=
  Okm.of "PermitPark" rfl (by decide) (Nat.le_of_ble_eq_true rfl) (L := [(0, .int v0)]) rfl (fun K _ hr C => lX7_settingMost_0 C (by rw [hr]; exact ⟨rfl, rfl⟩) h0 v0 M )
def pX5_append_3 : Nat → Int32 → Int32 → Mem → Option (Unit × Mem)
  | 0, _, _, _ => none
  | n + 1, v1, v2, M =>
    if v2 < 0 then (some ((), M))
    else if (800 : Int32) ≤ (M.1 1 0 0 1) then (pX5_append_3   n v1 (v2 + (-8 : Int32)) M)
    else chk (inB (M.1 1 0 0 1) 800) <| nm (wI M 2 0 0 (M.1 1 0 0 1).toNatClampNeg ((v1 >>> (v2 &&& 31)).toInt8.toInt32).toInt8.toInt32) fun M2 => nm (wI M2 1 0 0 1 ((M2.1 1 0 0 1) + (1 : Int32))) fun M3 => pX5_append_3   n v1 (v2 + (-8 : Int32)) M3
theorem lX5_append_3 {K : KT} {G : WT} (C : Cx K G "PermitPark$SetupText" cX5_append 3 none) (hRm : K.2.2.2.1.frames = 0 ∧ K.2.2.2.1.locals = 0) (h0 : W0 G) : ∀ (n : Nat) (v1 : Int32) (v2 : Int32) (M : Mem), G.2.2.2.1 1 0 0 → Run K G 3 0 0 (FinM K G voV 0 0) 3 [(0, .ref (G.1 1 0 0)), (1, .int v1), (2, .int v2)] [] M (pX5_append_3   n v1 v2 M) := by
  intro n
  induction n with
  | zero =>
    intro v1 v2 M g_0
    exact r_none
  | succ n ih =>
    intro v1 v2 M g_0
    rw [pX5_append_3]
    refine r_iload_n (pc := 3) C 2 rfl rfl dX5_append_3 ?_
    refine r_if_lt (pc := 4) C dX5_append_4 (tgt := 46) rfl ?_ ?_
    exact r_vret (pc := 46) C dX5_append_46
    refine r_aload_n (pc := 7) C 0 rfl rfl dX5_append_7 ?_
    refine r_getI (pc := 8) C FX5_length mw_39 g_0 rfl rfl dX5_append_8 ?_
    refine r_sipush (pc := 11) C dX5_append_11 ks_800 ?_
    refine r_icmp_ge (pc := 14) C dX5_append_14 (tgt := 40) rfl ?_ ?_
    refine r_iinc (pc := 40) C [(2, .int (v2 + (-8 : Int32))), (0, .ref (G.1 1 0 0)), (1, .int v1)] dX5_append_40 (p := 2) rfl (ki_m8 _) (by decide) rfl ?_
    refine r_goto (pc := 43) C dX5_append_43 (tgt := 3) rfl ?_
    refine r_sub [1, 2, 0] rfl ?_
    exact ih v1 (v2 + (-8 : Int32)) M g_0
    refine r_aload_n (pc := 17) C 0 rfl rfl dX5_append_17 ?_
    refine r_getR (pc := 18) C FX5_bytes mw_37 g_0 rfl dX5_append_18 (fun g1 => ?_)
    refine r_aload_n (pc := 21) C 0 rfl rfl dX5_append_21 ?_
    refine r_getI (pc := 22) C FX5_length mw_39 g_0 rfl rfl dX5_append_22 ?_
    refine r_iload_n (pc := 25) C 1 rfl rfl dX5_append_25 ?_
    refine r_iload_n (pc := 26) C 2 rfl rfl dX5_append_26 ?_
    refine r_ishr (pc := 27) C dX5_append_27 ?_
    refine r_i2b (pc := 28) C dX5_append_28 ?_
    refine r_bast (pc := 29) C rfl g1 (fun _ => rfl) (fun _ => rfl) dX5_append_29 (fun M2 => ?_)
    refine r_aload_n (pc := 30) C 0 rfl rfl dX5_append_30 ?_
    refine r_dup (pc := 31) C dX5_append_31 rfl ?_
    refine r_getI (pc := 32) C FX5_length mw_39 g_0 rfl rfl dX5_append_32 ?_
    refine r_iconst (pc := 35) C dX5_append_35 kc_1 ?_
    refine r_iadd (pc := 36) C dX5_append_36 ?_
    refine r_putI (pc := 37) C FX5_length mw_39 g_0 tyX5 tyX5_ok nmX5 (fun _ _ => rfl) rfl dX5_append_37 (fun M3 => ?_)
    refine r_iinc (pc := 40) C [(2, .int (v2 + (-8 : Int32))), (0, .ref (G.1 1 0 0)), (1, .int v1)] dX5_append_40 (p := 2) rfl (ki_m8 _) (by decide) rfl ?_
    refine r_goto (pc := 43) C dX5_append_43 (tgt := 3) rfl ?_
    refine r_sub [1, 2, 0] rfl ?_
    exact ih v1 (v2 + (-8 : Int32)) M3 g_0
def pX5_append (v1 : Int32) (M : Mem) : Option (Unit × Mem) :=
    pX5_append_3   fu v1 (24 : Int32) M
theorem lX5_append_0 {K : KT} {G : WT} (C : Cx K G "PermitPark$SetupText" cX5_append 3 none) (hRm : K.2.2.2.1.frames = 0 ∧ K.2.2.2.1.locals = 0) (h0 : W0 G) (v1 : Int32) (M : Mem) (h_0 : G.2.2.2.1 1 0 0) : Run K G 3 0 0 (FinM K G voV 0 0) 0 [(0, .ref (G.1 1 0 0)), (1, .int v1)] [] M (pX5_append   v1 M) := by
  rw [pX5_append]
  refine r_bipush (pc := 0) C dX5_append_0 kb_24 ?_
  refine r_istore_n (pc := 2) C [(2, .int (24 : Int32)), (0, .ref (G.1 1 0 0)), (1, .int v1)] dX5_append_2 rfl (by decide) rfl ?_
  refine r_sub [1, 2, 0] rfl ?_
  exact lX5_append_3   C hRm h0  fu v1 (24 : Int32) M h_0
theorem okX5_append {l : Launch} {G : WT} (h0 : W0 G) (v1 : Int32) (M : Mem) (h_0 : G.2.2.2.1 1 0 0) : Okm l G yX5_append cX5_append 3 none 0 0 [.ref (G.1 1 0 0), .int v1] voV M (pX5_append  v1 M) :=
  Okm.of "PermitPark$SetupText" rfl (by decide) (Nat.le_of_ble_eq_true rfl) (L := [(0, .ref (G.1 1 0 0)), (1, .int v1)]) rfl (fun K _ hr C => lX5_append_0 C (by rw [hr]; exact ⟨rfl, rfl⟩) h0 v1 M h_0)
def pX5_kindOf_28 (v0 : Int32) (M : Mem) : Option (Int32 × Mem) :=
    if v0 = (59 : Int32) then (some (v0, M))
    else if v0 = (44 : Int32) then (some (v0, M))
    else if ¬ v0 = (58 : Int32) then (some ((3 : Int32), M))
    else some (v0, M)
theorem lX5_kindOf_28 {K : KT} {G : WT} (C : Cx K G "PermitPark$SetupText" cX5_kindOf 1 (some FieldType.int)) (hRm : K.2.2.2.1.frames = 0 ∧ K.2.2.2.1.locals = 0) (h0 : W0 G) (v0 : Int32) (M : Mem) : Run K G 1 0 0 (FinM K G voI 0 0) 28 [(0, .int v0)] [] M (pX5_kindOf_28   v0 M) := by
  rw [pX5_kindOf_28]
  refine r_iload_n (pc := 28) C 0 rfl rfl dX5_kindOf_28 ?_
  refine r_bipush (pc := 29) C dX5_kindOf_29 kb_59 ?_
  refine r_icmp_eq (pc := 31) C dX5_kindOf_31 (tgt := 46) rfl ?_ ?_
  refine r_iload_n (pc := 46) C 0 rfl rfl dX5_kindOf_46 ?_
  refine r_goto (pc := 47) C dX5_kindOf_47 (tgt := 51) rfl ?_
  exact r_iret (pc := 51) C rfl dX5_kindOf_51
  refine r_iload_n (pc := 34) C 0 rfl rfl dX5_kindOf_34 ?_
  refine r_bipush (pc := 35) C dX5_kindOf_35 kb_44 ?_
  refine r_icmp_eq (pc := 37) C dX5_kindOf_37 (tgt := 46) rfl ?_ ?_
  refine r_iload_n (pc := 46) C 0 rfl rfl dX5_kindOf_46 ?_
  refine r_goto (pc := 47) C dX5_kindOf_47 (tgt := 51) rfl ?_
  exact r_iret (pc := 51) C rfl dX5_kindOf_51
  refine r_iload_n (pc := 40) C 0 rfl rfl dX5_kindOf_40 ?_
  refine r_bipush (pc := 41) C dX5_kindOf_41 kb_58 ?_
  refine r_icmp_ne (pc := 43) C dX5_kindOf_43 (tgt := 50) rfl ?_ ?_
  refine r_iconst (pc := 50) C dX5_kindOf_50 kc_3 ?_
  exact r_iret (pc := 51) C rfl dX5_kindOf_51
  refine r_iload_n (pc := 46) C 0 rfl rfl dX5_kindOf_46 ?_
  refine r_goto (pc := 47) C dX5_kindOf_47 (tgt := 51) rfl ?_
  exact r_iret (pc := 51) C rfl dX5_kindOf_51
def pX5_kindOf_14 (v0 : Int32) (M : Mem) : Option (Int32 × Mem) :=
    if v0 < (48 : Int32) then (pX5_kindOf_28    v0 M)
    else if (57 : Int32) < v0 then (pX5_kindOf_28    v0 M)
    else some ((2 : Int32), M)
theorem lX5_kindOf_14 {K : KT} {G : WT} (C : Cx K G "PermitPark$SetupText" cX5_kindOf 1 (some FieldType.int)) (hRm : K.2.2.2.1.frames = 0 ∧ K.2.2.2.1.locals = 0) (h0 : W0 G) (v0 : Int32) (M : Mem) : Run K G 1 0 0 (FinM K G voI 0 0) 14 [(0, .int v0)] [] M (pX5_kindOf_14   v0 M) := by
  rw [pX5_kindOf_14]
  refine r_iload_n (pc := 14) C 0 rfl rfl dX5_kindOf_14 ?_
  refine r_bipush (pc := 15) C dX5_kindOf_15 kb_48 ?_
  refine r_icmp_lt (pc := 17) C dX5_kindOf_17 (tgt := 28) rfl ?_ ?_
  exact lX5_kindOf_28   C hRm h0   v0 M 
  refine r_iload_n (pc := 20) C 0 rfl rfl dX5_kindOf_20 ?_
  refine r_bipush (pc := 21) C dX5_kindOf_21 kb_57 ?_
  refine r_icmp_gt (pc := 23) C dX5_kindOf_23 (tgt := 28) rfl ?_ ?_
  exact lX5_kindOf_28   C hRm h0   v0 M 
  refine r_iconst (pc := 26) C dX5_kindOf_26 kc_2 ?_
  exact r_iret (pc := 27) C rfl dX5_kindOf_27
def pX5_kindOf (v0 : Int32) (M : Mem) : Option (Int32 × Mem) :=
    if v0 < (97 : Int32) then (pX5_kindOf_14    v0 M)
    else if (122 : Int32) < v0 then (pX5_kindOf_14    v0 M)
    else some ((1 : Int32), M)
theorem lX5_kindOf_0 {K : KT} {G : WT} (C : Cx K G "PermitPark$SetupText" cX5_kindOf 1 (some FieldType.int)) (hRm : K.2.2.2.1.frames = 0 ∧ K.2.2.2.1.locals = 0) (h0 : W0 G) (v0 : Int32) (M : Mem) : Run K G 1 0 0 (FinM K G voI 0 0) 0 [(0, .int v0)] [] M (pX5_kindOf   v0 M) := by
  rw [pX5_kindOf]
  refine r_iload_n (pc := 0) C 0 rfl rfl dX5_kindOf_0 ?_
  refine r_bipush (pc := 1) C dX5_kindOf_1 kb_97 ?_
  refine r_icmp_lt (pc := 3) C dX5_kindOf_3 (tgt := 14) rfl ?_ ?_
  exact lX5_kindOf_14   C hRm h0   v0 M 
  refine r_iload_n (pc := 6) C 0 rfl rfl dX5_kindOf_6 ?_
  refine r_bipush (pc := 7) C dX5_kindOf_7 kb_122 ?_
  refine r_icmp_gt (pc := 9) C dX5_kindOf_9 (tgt := 14) rfl ?_ ?_
  exact lX5_kindOf_14   C hRm h0   v0 M 
  refine r_iconst (pc := 12) C dX5_kindOf_12 kc_1 ?_
  exact r_iret (pc := 13) C rfl dX5_kindOf_13
theorem okX5_kindOf {l : Launch} {G : WT} (h0 : W0 G) (v0 : Int32) (M : Mem) : Okm l G yX5_kindOf cX5_kindOf 1 (some FieldType.int) 0 0 [.int v0] voI M (pX5_kindOf  v0 M) :=
  Okm.of "PermitPark$SetupText" rfl (by decide) (Nat.le_of_ble_eq_true rfl) (L := [(0, .int v0)]) rfl (fun K _ hr C => lX5_kindOf_0 C (by rw [hr]; exact ⟨rfl, rfl⟩) h0 v0 M )
def pX5_valueOfToken_7 : Nat → Int32 → Int32 → Mem → Option (Int32 × Mem)
  | 0, _, _, _ => none
  | n + 1, v1, v2, M =>
    if (M.1 1 0 0 7) ≤ v2 then (some (v1, M))
    else if (1000003 : Int32) ≤ v1 then (some (v1, M))
    else chk (inB v2 800) <| nm (((v1 * (10 : Int32)) + (M.1 2 0 0 v2.toNatClampNeg)) - (48 : Int32)) fun x2 => pX5_valueOfToken_7   n x2 (v2 + (1 : Int32)) M
theorem lX5_valueOfToken_7 {K : KT} {G : WT} (C : Cx K G "PermitPark$SetupText" cX5_valueOfToken 3 (some FieldType.int)) (hRm : K.2.2.2.1.frames = 0 ∧ K.2.2.2.1.locals = 0) (h0 : W0 G) : ∀ (n : Nat) (v1 : Int32) (v2 : Int32) (M : Mem), G.2.2.2.1 1 0 0 → Run K G 3 0 0 (FinM K G voI 0 0) 7 [(0, .ref (G.1 1 0 0)), (1, .int v1), (2, .int v2)] [] M (pX5_valueOfToken_7   n v1 v2 M) := by
  intro n
  induction n with
  | zero =>
    intro v1 v2 M g_0
    exact r_none
  | succ n ih =>
    intro v1 v2 M g_0
    rw [pX5_valueOfToken_7]
    refine r_iload_n (pc := 7) C 2 rfl rfl dX5_valueOfToken_7 ?_
    refine r_aload_n (pc := 8) C 0 rfl rfl dX5_valueOfToken_8 ?_
    refine r_getI (pc := 9) C FX5_behind mw_47 g_0 rfl rfl dX5_valueOfToken_9 ?_
    refine r_icmp_ge (pc := 12) C dX5_valueOfToken_12 (tgt := 42) rfl ?_ ?_
    refine r_iload_n (pc := 42) C 1 rfl rfl dX5_valueOfToken_42 ?_
    exact r_iret (pc := 43) C rfl dX5_valueOfToken_43
    refine r_iload_n (pc := 15) C 1 rfl rfl dX5_valueOfToken_15 ?_
    refine r_ldc (pc := 16) C mw_308 dX5_valueOfToken_16 ?_
    refine r_icmp_ge (pc := 18) C dX5_valueOfToken_18 (tgt := 42) rfl ?_ ?_
    refine r_iload_n (pc := 42) C 1 rfl rfl dX5_valueOfToken_42 ?_
    exact r_iret (pc := 43) C rfl dX5_valueOfToken_43
    refine r_iload_n (pc := 21) C 1 rfl rfl dX5_valueOfToken_21 ?_
    refine r_bipush (pc := 22) C dX5_valueOfToken_22 kb_10 ?_
    refine r_imul (pc := 24) C dX5_valueOfToken_24 ?_
    refine r_aload_n (pc := 25) C 0 rfl rfl dX5_valueOfToken_25 ?_
    refine r_getR (pc := 26) C FX5_bytes mw_37 g_0 rfl dX5_valueOfToken_26 (fun g1 => ?_)
    refine r_iload_n (pc := 29) C 2 rfl rfl dX5_valueOfToken_29 ?_
    refine r_bald (pc := 30) C rfl g1 (fun _ => rfl) (fun _ => rfl) dX5_valueOfToken_30 ?_
    refine r_iadd (pc := 31) C dX5_valueOfToken_31 ?_
    refine r_bipush (pc := 32) C dX5_valueOfToken_32 kb_48 ?_
    refine r_isub (pc := 34) C dX5_valueOfToken_34 ?_
    refine r_nmi (fun x2 => ?_)
    refine r_istore_n (pc := 35) C [(1, .int x2), (0, .ref (G.1 1 0 0)), (2, .int v2)] dX5_valueOfToken_35 rfl (by decide) rfl ?_
    refine r_iinc (pc := 36) C [(2, .int (v2 + (1 : Int32))), (1, .int x2), (0, .ref (G.1 1 0 0))] dX5_valueOfToken_36 (p := 2) rfl (ki_1 _) (by decide) rfl ?_
    refine r_goto (pc := 39) C dX5_valueOfToken_39 (tgt := 7) rfl ?_
    refine r_sub [2, 1, 0] rfl ?_
    exact ih x2 (v2 + (1 : Int32)) M g_0
def pX5_valueOfToken (M : Mem) : Option (Int32 × Mem) :=
    nm (M.1 1 0 0 6) fun x1 => pX5_valueOfToken_7   fu (0 : Int32) x1 M
theorem lX5_valueOfToken_0 {K : KT} {G : WT} (C : Cx K G "PermitPark$SetupText" cX5_valueOfToken 3 (some FieldType.int)) (hRm : K.2.2.2.1.frames = 0 ∧ K.2.2.2.1.locals = 0) (h0 : W0 G) (M : Mem) (h_0 : G.2.2.2.1 1 0 0) : Run K G 3 0 0 (FinM K G voI 0 0) 0 [(0, .ref (G.1 1 0 0))] [] M (pX5_valueOfToken    M) := by
  rw [pX5_valueOfToken]
  refine r_iconst (pc := 0) C dX5_valueOfToken_0 kc_0 ?_
  refine r_istore_n (pc := 1) C [(1, .int (0 : Int32)), (0, .ref (G.1 1 0 0))] dX5_valueOfToken_1 rfl (by decide) rfl ?_
  refine r_aload_n (pc := 2) C 1 rfl rfl dX5_valueOfToken_2 ?_
  refine r_getI (pc := 3) C FX5_first mw_46 h_0 rfl rfl dX5_valueOfToken_3 ?_
  refine r_nmi (fun x1 => ?_)
  refine r_istore_n (pc := 6) C [(2, .int x1), (1, .int (0 : Int32)), (0, .ref (G.1 1 0 0))] dX5_valueOfToken_6 rfl (by decide) rfl ?_
  refine r_sub [2, 1, 0] rfl ?_
  exact lX5_valueOfToken_7   C hRm h0  fu (0 : Int32) x1 M h_0
theorem okX5_valueOfToken {l : Launch} {G : WT} (h0 : W0 G) (M : Mem) (h_0 : G.2.2.2.1 1 0 0) : Okm l G yX5_valueOfToken cX5_valueOfToken 3 (some FieldType.int) 0 0 [.ref (G.1 1 0 0)] voI M (pX5_valueOfToken   M) :=
  Okm.of "PermitPark$SetupText" rfl (by decide) (Nat.le_of_ble_eq_true rfl) (L := [(0, .ref (G.1 1 0 0))]) rfl (fun K _ hr C => lX5_valueOfToken_0 C (by rw [hr]; exact ⟨rfl, rfl⟩) h0  M h_0)
def pX5_readToken_172 (M : Mem) : Option (Unit × Mem) :=
    if ¬ (M.1 1 0 0 4) = (2 : Int32) then (nm (wI M 1 0 0 5 (0 : Int32)) fun M1 => some ((), M1))
    else bnd (pX5_valueOfToken M) fun o3 M2 => nm (wI M2 1 0 0 5 o3) fun M4 => some ((), M4)
theorem lX5_readToken_172 {K : KT} {G : WT} (C : Cx K G "PermitPark$SetupText" cX5_readToken 2 none) (hRm : K.2.2.2.1.frames = 1 ∧ K.2.2.2.1.locals = 22) (h0 : W0 G) (M : Mem) (g_0 : G.2.2.2.1 1 0 0) : Run K G 2 0 0 (FinM K G voV 0 0) 172 [(0, .ref (G.1 1 0 0))] [] M (pX5_readToken_172    M) := by
  rw [pX5_readToken_172]
  refine r_aload_n (pc := 172) C 0 rfl rfl dX5_readToken_172 ?_
  refine r_aload_n (pc := 173) C 0 rfl rfl dX5_readToken_173 ?_
  refine r_getI (pc := 174) C FX5_kind mw_44 g_0 rfl rfl dX5_readToken_174 ?_
  refine r_iconst (pc := 177) C dX5_readToken_177 kc_2 ?_
  refine r_icmp_ne (pc := 178) C dX5_readToken_178 (tgt := 188) rfl ?_ ?_
  refine r_iconst (pc := 188) C dX5_readToken_188 kc_0 ?_
  refine r_putI (pc := 189) C FX5_value mw_45 g_0 tyX5 tyX5_ok nmX5 (fun _ _ => rfl) rfl dX5_readToken_189 (fun M1 => ?_)
  exact r_vret (pc := 192) C dX5_readToken_192
  refine r_aload_n (pc := 181) C 0 rfl rfl dX5_readToken_181 ?_
  refine r_cVI (pc := 182) C hRm (okX5_valueOfToken h0 M g_0) (Rc.of C rfl rfl g_0) mw_304 cvX5_valueOfToken rfl ⟨Nat.le_of_ble_eq_true rfl, Nat.le_of_ble_eq_true rfl⟩ rfl (Nat.le_of_ble_eq_true rfl) dX5_readToken_182 (fun o3 M2 => ?_)
  refine r_goto (pc := 185) C dX5_readToken_185 (tgt := 189) rfl ?_
  refine r_putI (pc := 189) C FX5_value mw_45 g_0 tyX5 tyX5_ok nmX5 (fun _ _ => rfl) rfl dX5_readToken_189 (fun M4 => ?_)
  exact r_vret (pc := 192) C dX5_readToken_192
def pX5_readToken_125 : Nat → Int32 → Mem → Option (Unit × Mem)
  | 0, _, _ => none
  | n + 1, v1, M =>
    if v1 = 0 then (pX5_readToken_172    M)
    else if (M.1 1 0 0 1) ≤ (M.1 1 0 0 7) then (pX5_readToken_172    M)
    else chk (inB (M.1 1 0 0 7) 800) <| bnd (pX5_kindOf (M.1 2 0 0 (M.1 1 0 0 7).toNatClampNeg) M) fun o3 M2 => if ¬ o3 = (M2.1 1 0 0 4) then (pX5_readToken_172    M2)
    else nm (wI M2 1 0 0 7 ((M2.1 1 0 0 7) + (1 : Int32))) fun M4 => pX5_readToken_125   n v1 M4
theorem lX5_readToken_125 {K : KT} {G : WT} (C : Cx K G "PermitPark$SetupText" cX5_readToken 2 none) (hRm : K.2.2.2.1.frames = 1 ∧ K.2.2.2.1.locals = 22) (h0 : W0 G) : ∀ (n : Nat) (v1 : Int32) (M : Mem), G.2.2.2.1 1 0 0 → Run K G 2 0 0 (FinM K G voV 0 0) 125 [(0, .ref (G.1 1 0 0)), (1, .int v1)] [] M (pX5_readToken_125   n v1 M) := by
  intro n
  induction n with
  | zero =>
    intro v1 M g_0
    exact r_none
  | succ n ih =>
    intro v1 M g_0
    rw [pX5_readToken_125]
    refine r_iload_n (pc := 125) C 1 rfl rfl dX5_readToken_125 ?_
    refine r_if_eq (pc := 126) C dX5_readToken_126 (tgt := 172) rfl ?_ ?_
    refine r_sub [0] rfl ?_
    exact lX5_readToken_172   C hRm h0   M g_0
    refine r_aload_n (pc := 129) C 0 rfl rfl dX5_readToken_129 ?_
    refine r_getI (pc := 130) C FX5_behind mw_47 g_0 rfl rfl dX5_readToken_130 ?_
    refine r_aload_n (pc := 133) C 0 rfl rfl dX5_readToken_133 ?_
    refine r_getI (pc := 134) C FX5_length mw_39 g_0 rfl rfl dX5_readToken_134 ?_
    refine r_icmp_ge (pc := 137) C dX5_readToken_137 (tgt := 172) rfl ?_ ?_
    refine r_sub [0] rfl ?_
    exact lX5_readToken_172   C hRm h0   M g_0
    refine r_aload_n (pc := 140) C 0 rfl rfl dX5_readToken_140 ?_
    refine r_getR (pc := 141) C FX5_bytes mw_37 g_0 rfl dX5_readToken_141 (fun g1 => ?_)
    refine r_aload_n (pc := 144) C 0 rfl rfl dX5_readToken_144 ?_
    refine r_getI (pc := 145) C FX5_behind mw_47 g_0 rfl rfl dX5_readToken_145 ?_
    refine r_bald (pc := 148) C rfl g1 (fun _ => rfl) (fun _ => rfl) dX5_readToken_148 ?_
    refine r_cSI (pc := 149) C hRm (okX5_kindOf h0 (M.1 2 0 0 (M.1 1 0 0 7).toNatClampNeg) M ) mw_301 cvX5_kindOf rfl ⟨Nat.le_of_ble_eq_true rfl, Nat.le_of_ble_eq_true rfl⟩ rfl (Nat.le_of_ble_eq_true rfl) dX5_readToken_149 (fun o3 M2 => ?_)
    refine r_aload_n (pc := 152) C 0 rfl rfl dX5_readToken_152 ?_
    refine r_getI (pc := 153) C FX5_kind mw_44 g_0 rfl rfl dX5_readToken_153 ?_
    refine r_icmp_ne (pc := 156) C dX5_readToken_156 (tgt := 172) rfl ?_ ?_
    refine r_sub [0] rfl ?_
    exact lX5_readToken_172   C hRm h0   M2 g_0
    refine r_aload_n (pc := 159) C 0 rfl rfl dX5_readToken_159 ?_
    refine r_dup (pc := 160) C dX5_readToken_160 rfl ?_
    refine r_getI (pc := 161) C FX5_behind mw_47 g_0 rfl rfl dX5_readToken_161 ?_
    refine r_iconst (pc := 164) C dX5_readToken_164 kc_1 ?_
    refine r_iadd (pc := 165) C dX5_readToken_165 ?_
    refine r_putI (pc := 166) C FX5_behind mw_47 g_0 tyX5 tyX5_ok nmX5 (fun _ _ => rfl) rfl dX5_readToken_166 (fun M4 => ?_)
    refine r_goto (pc := 169) C dX5_readToken_169 (tgt := 125) rfl ?_
    exact ih v1 M4 g_0
def pX5_readToken_52 (M : Mem) : Option (Unit × Mem) :=
    nm (wI M 1 0 0 6 (M.1 1 0 0 7)) fun M1 => if (M1.1 1 0 0 7) < (M1.1 1 0 0 1) then (chk (inB (M1.1 1 0 0 7) 800) <| bnd (pX5_kindOf (M1.1 2 0 0 (M1.1 1 0 0 7).toNatClampNeg) M1) fun o4 M3 => nm (wI M3 1 0 0 4 o4) fun M5 => nm (wI M5 1 0 0 7 ((M5.1 1 0 0 7) + (1 : Int32))) fun M6 => if (M6.1 1 0 0 4) = (1 : Int32) then (pX5_readToken_125   fu (1 : Int32) M6)
    else if ¬ (M6.1 1 0 0 4) = (2 : Int32) then (pX5_readToken_125   fu (0 : Int32) M6)
    else pX5_readToken_125   fu (1 : Int32) M6)
    else nm (wI M1 1 0 0 4 (0 : Int32)) fun M7 => some ((), M7)
theorem lX5_readToken_52 {K : KT} {G : WT} (C : Cx K G "PermitPark$SetupText" cX5_readToken 2 none) (hRm : K.2.2.2.1.frames = 1 ∧ K.2.2.2.1.locals = 22) (h0 : W0 G) (M : Mem) (g_0 : G.2.2.2.1 1 0 0) : Run K G 2 0 0 (FinM K G voV 0 0) 52 [(0, .ref (G.1 1 0 0))] [] M (pX5_readToken_52    M) := by
  rw [pX5_readToken_52]
  refine r_aload_n (pc := 52) C 0 rfl rfl dX5_readToken_52 ?_
  refine r_aload_n (pc := 53) C 0 rfl rfl dX5_readToken_53 ?_
  refine r_getI (pc := 54) C FX5_behind mw_47 g_0 rfl rfl dX5_readToken_54 ?_
  refine r_putI (pc := 57) C FX5_first mw_46 g_0 tyX5 tyX5_ok nmX5 (fun _ _ => rfl) rfl dX5_readToken_57 (fun M1 => ?_)
  refine r_aload_n (pc := 60) C 0 rfl rfl dX5_readToken_60 ?_
  refine r_getI (pc := 61) C FX5_behind mw_47 g_0 rfl rfl dX5_readToken_61 ?_
  refine r_aload_n (pc := 64) C 0 rfl rfl dX5_readToken_64 ?_
  refine r_getI (pc := 65) C FX5_length mw_39 g_0 rfl rfl dX5_readToken_65 ?_
  refine r_icmp_lt (pc := 68) C dX5_readToken_68 (tgt := 77) rfl ?_ ?_
  refine r_aload_n (pc := 77) C 0 rfl rfl dX5_readToken_77 ?_
  refine r_aload_n (pc := 78) C 0 rfl rfl dX5_readToken_78 ?_
  refine r_getR (pc := 79) C FX5_bytes mw_37 g_0 rfl dX5_readToken_79 (fun g2 => ?_)
  refine r_aload_n (pc := 82) C 0 rfl rfl dX5_readToken_82 ?_
  refine r_getI (pc := 83) C FX5_behind mw_47 g_0 rfl rfl dX5_readToken_83 ?_
  refine r_bald (pc := 86) C rfl g2 (fun _ => rfl) (fun _ => rfl) dX5_readToken_86 ?_
  refine r_cSI (pc := 87) C hRm (okX5_kindOf h0 (M1.1 2 0 0 (M1.1 1 0 0 7).toNatClampNeg) M1 ) mw_301 cvX5_kindOf rfl ⟨Nat.le_of_ble_eq_true rfl, Nat.le_of_ble_eq_true rfl⟩ rfl (Nat.le_of_ble_eq_true rfl) dX5_readToken_87 (fun o4 M3 => ?_)
  refine r_putI (pc := 90) C FX5_kind mw_44 g_0 tyX5 tyX5_ok nmX5 (fun _ _ => rfl) rfl dX5_readToken_90 (fun M5 => ?_)
  refine r_aload_n (pc := 93) C 0 rfl rfl dX5_readToken_93 ?_
  refine r_dup (pc := 94) C dX5_readToken_94 rfl ?_
  refine r_getI (pc := 95) C FX5_behind mw_47 g_0 rfl rfl dX5_readToken_95 ?_
  refine r_iconst (pc := 98) C dX5_readToken_98 kc_1 ?_
  refine r_iadd (pc := 99) C dX5_readToken_99 ?_
  refine r_putI (pc := 100) C FX5_behind mw_47 g_0 tyX5 tyX5_ok nmX5 (fun _ _ => rfl) rfl dX5_readToken_100 (fun M6 => ?_)
  refine r_aload_n (pc := 103) C 0 rfl rfl dX5_readToken_103 ?_
  refine r_getI (pc := 104) C FX5_kind mw_44 g_0 rfl rfl dX5_readToken_104 ?_
  refine r_iconst (pc := 107) C dX5_readToken_107 kc_1 ?_
  refine r_icmp_eq (pc := 108) C dX5_readToken_108 (tgt := 119) rfl ?_ ?_
  refine r_iconst (pc := 119) C dX5_readToken_119 kc_1 ?_
  refine r_goto (pc := 120) C dX5_readToken_120 (tgt := 124) rfl ?_
  refine r_istore_n (pc := 124) C [(1, .int (1 : Int32)), (0, .ref (G.1 1 0 0))] dX5_readToken_124 rfl (by decide) rfl ?_
  refine r_sub [1, 0] rfl ?_
  exact lX5_readToken_125   C hRm h0  fu (1 : Int32) M6 g_0
  refine r_aload_n (pc := 111) C 0 rfl rfl dX5_readToken_111 ?_
  refine r_getI (pc := 112) C FX5_kind mw_44 g_0 rfl rfl dX5_readToken_112 ?_
  refine r_iconst (pc := 115) C dX5_readToken_115 kc_2 ?_
  refine r_icmp_ne (pc := 116) C dX5_readToken_116 (tgt := 123) rfl ?_ ?_
  refine r_iconst (pc := 123) C dX5_readToken_123 kc_0 ?_
  refine r_istore_n (pc := 124) C [(1, .int (0 : Int32)), (0, .ref (G.1 1 0 0))] dX5_readToken_124 rfl (by decide) rfl ?_
  refine r_sub [1, 0] rfl ?_
  exact lX5_readToken_125   C hRm h0  fu (0 : Int32) M6 g_0
  refine r_iconst (pc := 119) C dX5_readToken_119 kc_1 ?_
  refine r_goto (pc := 120) C dX5_readToken_120 (tgt := 124) rfl ?_
  refine r_istore_n (pc := 124) C [(1, .int (1 : Int32)), (0, .ref (G.1 1 0 0))] dX5_readToken_124 rfl (by decide) rfl ?_
  refine r_sub [1, 0] rfl ?_
  exact lX5_readToken_125   C hRm h0  fu (1 : Int32) M6 g_0
  refine r_aload_n (pc := 71) C 0 rfl rfl dX5_readToken_71 ?_
  refine r_iconst (pc := 72) C dX5_readToken_72 kc_0 ?_
  refine r_putI (pc := 73) C FX5_kind mw_44 g_0 tyX5 tyX5_ok nmX5 (fun _ _ => rfl) rfl dX5_readToken_73 (fun M7 => ?_)
  exact r_vret (pc := 76) C dX5_readToken_76
def pX5_readToken_0 : Nat → Mem → Option (Unit × Mem)
  | 0, _ => none
  | n + 1, M =>
    if (M.1 1 0 0 1) ≤ (M.1 1 0 0 7) then (pX5_readToken_52    M)
    else chk (inB (M.1 1 0 0 7) 800) <| if (M.1 2 0 0 (M.1 1 0 0 7).toNatClampNeg) = (32 : Int32) then (nm (wI M 1 0 0 7 ((M.1 1 0 0 7) + (1 : Int32))) fun M2 => pX5_readToken_0   n M2)
    else chk (inB (M.1 1 0 0 7) 800) <| if ¬ (M.1 2 0 0 (M.1 1 0 0 7).toNatClampNeg) = (10 : Int32) then (pX5_readToken_52    M)
    else nm (wI M 1 0 0 7 ((M.1 1 0 0 7) + (1 : Int32))) fun M4 => pX5_readToken_0   n M4
theorem lX5_readToken_0 {K : KT} {G : WT} (C : Cx K G "PermitPark$SetupText" cX5_readToken 2 none) (hRm : K.2.2.2.1.frames = 1 ∧ K.2.2.2.1.locals = 22) (h0 : W0 G) : ∀ (n : Nat) (M : Mem), G.2.2.2.1 1 0 0 → Run K G 2 0 0 (FinM K G voV 0 0) 0 [(0, .ref (G.1 1 0 0))] [] M (pX5_readToken_0   n  M) := by
  intro n
  induction n with
  | zero =>
    intro  M g_0
    exact r_none
  | succ n ih =>
    intro  M g_0
    rw [pX5_readToken_0]
    refine r_aload_n (pc := 0) C 0 rfl rfl dX5_readToken_0 ?_
    refine r_getI (pc := 1) C FX5_behind mw_47 g_0 rfl rfl dX5_readToken_1 ?_
    refine r_aload_n (pc := 4) C 0 rfl rfl dX5_readToken_4 ?_
    refine r_getI (pc := 5) C FX5_length mw_39 g_0 rfl rfl dX5_readToken_5 ?_
    refine r_icmp_ge (pc := 8) C dX5_readToken_8 (tgt := 52) rfl ?_ ?_
    exact lX5_readToken_52   C hRm h0   M g_0
    refine r_aload_n (pc := 11) C 0 rfl rfl dX5_readToken_11 ?_
    refine r_getR (pc := 12) C FX5_bytes mw_37 g_0 rfl dX5_readToken_12 (fun g1 => ?_)
    refine r_aload_n (pc := 15) C 0 rfl rfl dX5_readToken_15 ?_
    refine r_getI (pc := 16) C FX5_behind mw_47 g_0 rfl rfl dX5_readToken_16 ?_
    refine r_bald (pc := 19) C rfl g1 (fun _ => rfl) (fun _ => rfl) dX5_readToken_19 ?_
    refine r_bipush (pc := 20) C dX5_readToken_20 kb_32 ?_
    refine r_icmp_eq (pc := 22) C dX5_readToken_22 (tgt := 39) rfl ?_ ?_
    refine r_aload_n (pc := 39) C 0 rfl rfl dX5_readToken_39 ?_
    refine r_dup (pc := 40) C dX5_readToken_40 rfl ?_
    refine r_getI (pc := 41) C FX5_behind mw_47 g_0 rfl rfl dX5_readToken_41 ?_
    refine r_iconst (pc := 44) C dX5_readToken_44 kc_1 ?_
    refine r_iadd (pc := 45) C dX5_readToken_45 ?_
    refine r_putI (pc := 46) C FX5_behind mw_47 g_0 tyX5 tyX5_ok nmX5 (fun _ _ => rfl) rfl dX5_readToken_46 (fun M2 => ?_)
    refine r_goto (pc := 49) C dX5_readToken_49 (tgt := 0) rfl ?_
    exact ih M2 g_0
    refine r_aload_n (pc := 25) C 0 rfl rfl dX5_readToken_25 ?_
    refine r_getR (pc := 26) C FX5_bytes mw_37 g_0 rfl dX5_readToken_26 (fun g3 => ?_)
    refine r_aload_n (pc := 29) C 0 rfl rfl dX5_readToken_29 ?_
    refine r_getI (pc := 30) C FX5_behind mw_47 g_0 rfl rfl dX5_readToken_30 ?_
    refine r_bald (pc := 33) C rfl g1 (fun _ => rfl) (fun _ => rfl) dX5_readToken_33 ?_
    refine r_bipush (pc := 34) C dX5_readToken_34 kb_10 ?_
    refine r_icmp_ne (pc := 36) C dX5_readToken_36 (tgt := 52) rfl ?_ ?_
    exact lX5_readToken_52   C hRm h0   M g_0
    refine r_aload_n (pc := 39) C 0 rfl rfl dX5_readToken_39 ?_
    refine r_dup (pc := 40) C dX5_readToken_40 rfl ?_
    refine r_getI (pc := 41) C FX5_behind mw_47 g_0 rfl rfl dX5_readToken_41 ?_
    refine r_iconst (pc := 44) C dX5_readToken_44 kc_1 ?_
    refine r_iadd (pc := 45) C dX5_readToken_45 ?_
    refine r_putI (pc := 46) C FX5_behind mw_47 g_0 tyX5 tyX5_ok nmX5 (fun _ _ => rfl) rfl dX5_readToken_46 (fun M4 => ?_)
    refine r_goto (pc := 49) C dX5_readToken_49 (tgt := 0) rfl ?_
    exact ih M4 g_0
def pX5_readToken (M : Mem) : Option (Unit × Mem) :=
    pX5_readToken_0   fu M
theorem lX5_readToken_E {K : KT} {G : WT} (C : Cx K G "PermitPark$SetupText" cX5_readToken 2 none) (hRm : K.2.2.2.1.frames = 1 ∧ K.2.2.2.1.locals = 22) (h0 : W0 G) (M : Mem) (h_0 : G.2.2.2.1 1 0 0) : Run K G 2 0 0 (FinM K G voV 0 0) 0 [(0, .ref (G.1 1 0 0))] [] M (pX5_readToken    M) := by
  rw [pX5_readToken]
  exact lX5_readToken_0   C hRm h0  fu M h_0
theorem okX5_readToken {l : Launch} {G : WT} (h0 : W0 G) (M : Mem) (h_0 : G.2.2.2.1 1 0 0) : Okm l G yX5_readToken cX5_readToken 2 none 1 22 [.ref (G.1 1 0 0)] voV M (pX5_readToken   M) :=
  Okm.of "PermitPark$SetupText" rfl (by decide) (Nat.le_of_ble_eq_true rfl) (L := [(0, .ref (G.1 1 0 0))]) rfl (fun K _ hr C => lX5_readToken_E C (by rw [hr]; exact ⟨rfl, rfl⟩) h0  M h_0)
def pX5_startReading (M : Mem) : Option (Unit × Mem) :=
    nm (wI M 1 0 0 2 (0 : Int32)) fun M1 => nm (wI M1 1 0 0 3 (-1 : Int32)) fun M2 => nm (wI M2 1 0 0 7 (0 : Int32)) fun M3 => bnd (pX5_readToken M3) fun o5 M4 => some ((), M4)
theorem lX5_startReading_0 {K : KT} {G : WT} (C : Cx K G "PermitPark$SetupText" cX5_startReading 1 none) (hRm : K.2.2.2.1.frames = 2 ∧ K.2.2.2.1.locals = 43) (h0 : W0 G) (M : Mem) (h_0 : G.2.2.2.1 1 0 0) : Run K G 1 0 0 (FinM K G voV 0 0) 0 [(0, .ref (G.1 1 0 0))] [] M (pX5_startReading    M) := by
  rw [pX5_startReading]
  refine r_aload_n (pc := 0) C 0 rfl rfl dX5_startReading_0 ?_
  refine r_iconst (pc := 1) C dX5_startReading_1 kc_0 ?_
  refine r_putI (pc := 2) C FX5_errorCode mw_40 h_0 tyX5 tyX5_ok nmX5 (fun _ _ => rfl) rfl dX5_startReading_2 (fun M1 => ?_)
  refine r_aload_n (pc := 5) C 0 rfl rfl dX5_startReading_5 ?_
  refine r_iconst (pc := 6) C dX5_startReading_6 kc_m1 ?_
  refine r_putI (pc := 7) C FX5_errorPosition mw_42 h_0 tyX5 tyX5_ok nmX5 (fun _ _ => rfl) rfl dX5_startReading_7 (fun M2 => ?_)
  refine r_aload_n (pc := 10) C 0 rfl rfl dX5_startReading_10 ?_
  refine r_iconst (pc := 11) C dX5_startReading_11 kc_0 ?_
  refine r_putI (pc := 12) C FX5_behind mw_47 h_0 tyX5 tyX5_ok nmX5 (fun _ _ => rfl) rfl dX5_startReading_12 (fun M3 => ?_)
  refine r_aload_n (pc := 15) C 0 rfl rfl dX5_startReading_15 ?_
  refine r_cVV (pc := 16) C hRm (okX5_readToken h0 M3 h_0) (Rc.of C rfl rfl h_0) mw_297 cvX5_readToken rfl ⟨Nat.le_of_ble_eq_true rfl, Nat.le_of_ble_eq_true rfl⟩ rfl (Nat.le_of_ble_eq_true rfl) dX5_startReading_16 (fun o5 M4 => ?_)
  exact r_vret (pc := 19) C dX5_startReading_19
theorem okX5_startReading {l : Launch} {G : WT} (h0 : W0 G) (M : Mem) (h_0 : G.2.2.2.1 1 0 0) : Okm l G yX5_startReading cX5_startReading 1 none 2 43 [.ref (G.1 1 0 0)] voV M (pX5_startReading   M) :=
  Okm.of "PermitPark$SetupText" rfl (by decide) (Nat.le_of_ble_eq_true rfl) (L := [(0, .ref (G.1 1 0 0))]) rfl (fun K _ hr C => lX5_startReading_0 C (by rw [hr]; exact ⟨rfl, rfl⟩) h0  M h_0)
def pX5_hasStatement (M : Mem) : Option (Int32 × Mem) :=
    if ¬ (M.1 1 0 0 2) = 0 then (chk (decide ((0 : Int32) = 0 ∨ (0 : Int32) = 1)) (some ((0 : Int32), M)))
    else if (M.1 1 0 0 4) = 0 then (chk (decide ((0 : Int32) = 0 ∨ (0 : Int32) = 1)) (some ((0 : Int32), M)))
    else chk (decide ((1 : Int32) = 0 ∨ (1 : Int32) = 1)) (some ((1 : Int32), M))
theorem lX5_hasStatement_0 {K : KT} {G : WT} (C : Cx K G "PermitPark$SetupText" cX5_hasStatement 1 (some FieldType.boolean)) (hRm : K.2.2.2.1.frames = 0 ∧ K.2.2.2.1.locals = 0) (h0 : W0 G) (M : Mem) (h_0 : G.2.2.2.1 1 0 0) : Run K G 1 0 0 (FinM K G voI 0 0) 0 [(0, .ref (G.1 1 0 0))] [] M (pX5_hasStatement    M) := by
  rw [pX5_hasStatement]
  refine r_aload_n (pc := 0) C 0 rfl rfl dX5_hasStatement_0 ?_
  refine r_getI (pc := 1) C FX5_errorCode mw_40 h_0 rfl rfl dX5_hasStatement_1 ?_
  refine r_if_ne (pc := 4) C dX5_hasStatement_4 (tgt := 18) rfl ?_ ?_
  refine r_iconst (pc := 18) C dX5_hasStatement_18 kc_0 ?_
  exact r_zret (pc := 19) C dX5_hasStatement_19
  refine r_aload_n (pc := 7) C 0 rfl rfl dX5_hasStatement_7 ?_
  refine r_getI (pc := 8) C FX5_kind mw_44 h_0 rfl rfl dX5_hasStatement_8 ?_
  refine r_if_eq (pc := 11) C dX5_hasStatement_11 (tgt := 18) rfl ?_ ?_
  refine r_iconst (pc := 18) C dX5_hasStatement_18 kc_0 ?_
  exact r_zret (pc := 19) C dX5_hasStatement_19
  refine r_iconst (pc := 14) C dX5_hasStatement_14 kc_1 ?_
  refine r_goto (pc := 15) C dX5_hasStatement_15 (tgt := 19) rfl ?_
  exact r_zret (pc := 19) C dX5_hasStatement_19
theorem okX5_hasStatement {l : Launch} {G : WT} (h0 : W0 G) (M : Mem) (h_0 : G.2.2.2.1 1 0 0) : Okm l G yX5_hasStatement cX5_hasStatement 1 (some FieldType.boolean) 0 0 [.ref (G.1 1 0 0)] voI M (pX5_hasStatement   M) :=
  Okm.of "PermitPark$SetupText" rfl (by decide) (Nat.le_of_ble_eq_true rfl) (L := [(0, .ref (G.1 1 0 0))]) rfl (fun K _ hr C => lX5_hasStatement_0 C (by rw [hr]; exact ⟨rfl, rfl⟩) h0  M h_0)
def pX5_isWord_28 (e1 : Nat) : Nat → Nat → Int32 → Mem → Option (Int32 × Mem)
  | 0, _, _, _ => none
  | n + 1, n1e, v2, M =>
    bnd (pJ0_length_8abf5 n1e M) fun o2 M1 => if o2 ≤ v2 then (chk (decide ((1 : Int32) = 0 ∨ (1 : Int32) = 1)) (some ((1 : Int32), M1)))
    else chk (inB ((M1.1 1 0 0 6) + v2) 800) <| bnd (pJ0_charAt_5068e n1e v2 M1) fun o5 M4 => if (M1.1 2 0 0 ((M1.1 1 0 0 6) + v2).toNatClampNeg) = o5 then (pX5_isWord_28 e1  n n1e (v2 + (1 : Int32)) M4)
    else chk (decide ((0 : Int32) = 0 ∨ (0 : Int32) = 1)) (some ((0 : Int32), M4))
theorem lX5_isWord_28 {K : KT} {G : WT} {e1 : Nat} (C : Cx K G "PermitPark$SetupText" cX5_isWord 3 (some FieldType.boolean)) (hRm : K.2.2.2.1.frames = 4 ∧ K.2.2.2.1.locals = 85) (h0 : W0 G) : ∀ (n : Nat) (n1e : Nat) (v2 : Int32) (M : Mem), G.2.2.2.1 1 0 0 → n1e < 14 → Run K G 3 0 0 (FinM K G voI 0 0) 28 [(0, .ref (G.1 1 0 0)), (1, .ref (G.2.2.2.2.2.2.1 n1e)), (2, .int v2)] [] M (pX5_isWord_28 e1  n n1e v2 M) := by
  intro n
  induction n with
  | zero =>
    intro n1e v2 M g_0 g_1
    exact r_none
  | succ n ih =>
    intro n1e v2 M g_0 g_1
    rw [pX5_isWord_28]
    refine r_iload_n (pc := 28) C 2 rfl rfl dX5_isWord_28 ?_
    refine r_aload_n (pc := 29) C 1 rfl rfl dX5_isWord_29 ?_
    refine r_cVI (pc := 30) C hRm (okJ0_length_8abf5 h0 n1e M g_1) (Rc.str C g_1) mw_322 cvJ0_length_8abf5 rfl ⟨Nat.le_of_ble_eq_true rfl, Nat.le_of_ble_eq_true rfl⟩ rfl (Nat.le_of_ble_eq_true rfl) dX5_isWord_30 (fun o2 M1 => ?_)
    refine r_icmp_ge (pc := 33) C dX5_isWord_33 (tgt := 63) rfl ?_ ?_
    refine r_iconst (pc := 63) C dX5_isWord_63 kc_1 ?_
    exact r_zret (pc := 64) C dX5_isWord_64
    refine r_aload_n (pc := 36) C 0 rfl rfl dX5_isWord_36 ?_
    refine r_getR (pc := 37) C FX5_bytes mw_37 g_0 rfl dX5_isWord_37 (fun g3 => ?_)
    refine r_aload_n (pc := 40) C 0 rfl rfl dX5_isWord_40 ?_
    refine r_getI (pc := 41) C FX5_first mw_46 g_0 rfl rfl dX5_isWord_41 ?_
    refine r_iload_n (pc := 44) C 2 rfl rfl dX5_isWord_44 ?_
    refine r_iadd (pc := 45) C dX5_isWord_45 ?_
    refine r_bald (pc := 46) C rfl g3 (fun _ => rfl) (fun _ => rfl) dX5_isWord_46 ?_
    refine r_aload_n (pc := 47) C 1 rfl rfl dX5_isWord_47 ?_
    refine r_iload_n (pc := 48) C 2 rfl rfl dX5_isWord_48 ?_
    refine r_cVI (pc := 49) C hRm (okJ0_charAt_5068e h0 n1e v2 M1 g_1) (Rc.str C g_1) mw_332 cvJ0_charAt_5068e rfl ⟨Nat.le_of_ble_eq_true rfl, Nat.le_of_ble_eq_true rfl⟩ rfl (Nat.le_of_ble_eq_true rfl) dX5_isWord_49 (fun o5 M4 => ?_)
    refine r_icmp_eq (pc := 52) C dX5_isWord_52 (tgt := 57) rfl ?_ ?_
    refine r_iinc (pc := 57) C [(2, .int (v2 + (1 : Int32))), (0, .ref (G.1 1 0 0)), (1, .ref (G.2.2.2.2.2.2.1 n1e))] dX5_isWord_57 (p := 2) rfl (ki_1 _) (by decide) rfl ?_
    refine r_goto (pc := 60) C dX5_isWord_60 (tgt := 28) rfl ?_
    refine r_sub [1, 2, 0] rfl ?_
    exact ih n1e (v2 + (1 : Int32)) M4 g_0 g_1
    refine r_iconst (pc := 55) C dX5_isWord_55 kc_0 ?_
    exact r_zret (pc := 56) C dX5_isWord_56
def pX5_isWord (e1 : Nat) (M : Mem) : Option (Int32 × Mem) :=
    if ¬ (M.1 1 0 0 4) = (1 : Int32) then (chk (decide ((0 : Int32) = 0 ∨ (0 : Int32) = 1)) (some ((0 : Int32), M)))
    else bnd (pJ0_length_8abf5 e1 M) fun o2 M1 => if ((M.1 1 0 0 7) - (M.1 1 0 0 6)) = o2 then (pX5_isWord_28 e1  fu e1 (0 : Int32) M1)
    else chk (decide ((0 : Int32) = 0 ∨ (0 : Int32) = 1)) (some ((0 : Int32), M1))
theorem lX5_isWord_0 {K : KT} {G : WT} {e1 : Nat} (C : Cx K G "PermitPark$SetupText" cX5_isWord 3 (some FieldType.boolean)) (hRm : K.2.2.2.1.frames = 4 ∧ K.2.2.2.1.locals = 85) (h0 : W0 G) (M : Mem) (h_0 : G.2.2.2.1 1 0 0) (h_1 : e1 < 14) : Run K G 3 0 0 (FinM K G voI 0 0) 0 [(0, .ref (G.1 1 0 0)), (1, .ref (G.2.2.2.2.2.2.1 e1))] [] M (pX5_isWord e1   M) := by
  rw [pX5_isWord]
  refine r_aload_n (pc := 0) C 0 rfl rfl dX5_isWord_0 ?_
  refine r_getI (pc := 1) C FX5_kind mw_44 h_0 rfl rfl dX5_isWord_1 ?_
  refine r_iconst (pc := 4) C dX5_isWord_4 kc_1 ?_
  refine r_icmp_ne (pc := 5) C dX5_isWord_5 (tgt := 24) rfl ?_ ?_
  refine r_iconst (pc := 24) C dX5_isWord_24 kc_0 ?_
  exact r_zret (pc := 25) C dX5_isWord_25
  refine r_aload_n (pc := 8) C 0 rfl rfl dX5_isWord_8 ?_
  refine r_getI (pc := 9) C FX5_behind mw_47 h_0 rfl rfl dX5_isWord_9 ?_
  refine r_aload_n (pc := 12) C 0 rfl rfl dX5_isWord_12 ?_
  refine r_getI (pc := 13) C FX5_first mw_46 h_0 rfl rfl dX5_isWord_13 ?_
  refine r_isub (pc := 16) C dX5_isWord_16 ?_
  refine r_aload_n (pc := 17) C 1 rfl rfl dX5_isWord_17 ?_
  refine r_cVI (pc := 18) C hRm (okJ0_length_8abf5 h0 e1 M h_1) (Rc.str C h_1) mw_322 cvJ0_length_8abf5 rfl ⟨Nat.le_of_ble_eq_true rfl, Nat.le_of_ble_eq_true rfl⟩ rfl (Nat.le_of_ble_eq_true rfl) dX5_isWord_18 (fun o2 M1 => ?_)
  refine r_icmp_eq (pc := 21) C dX5_isWord_21 (tgt := 26) rfl ?_ ?_
  refine r_iconst (pc := 26) C dX5_isWord_26 kc_0 ?_
  refine r_istore_n (pc := 27) C [(2, .int (0 : Int32)), (0, .ref (G.1 1 0 0)), (1, .ref (G.2.2.2.2.2.2.1 e1))] dX5_isWord_27 rfl (by decide) rfl ?_
  refine r_sub [1, 2, 0] rfl ?_
  exact lX5_isWord_28 (e1 := e1)  C hRm h0  fu e1 (0 : Int32) M1 h_0 h_1
  refine r_iconst (pc := 24) C dX5_isWord_24 kc_0 ?_
  exact r_zret (pc := 25) C dX5_isWord_25
theorem okX5_isWord {l : Launch} {G : WT} (h0 : W0 G) (e1 : Nat) (M : Mem) (h_0 : G.2.2.2.1 1 0 0) (h_1 : e1 < 14) : Okm l G yX5_isWord cX5_isWord 3 (some FieldType.boolean) 4 85 [.ref (G.1 1 0 0), .ref (G.2.2.2.2.2.2.1 e1)] voI M (pX5_isWord e1  M) :=
  Okm.of "PermitPark$SetupText" rfl (by decide) (Nat.le_of_ble_eq_true rfl) (L := [(0, .ref (G.1 1 0 0)), (1, .ref (G.2.2.2.2.2.2.1 e1))]) rfl (fun K _ hr C => lX5_isWord_0 C (by rw [hr]; exact ⟨rfl, rfl⟩) h0  M h_0 h_1)
def pX5_refuse (v1 : Int32) (M : Mem) : Option (Int32 × Mem) :=
    nm (wI M 1 0 0 2 v1) fun M1 => nm (wI M1 1 0 0 3 (M1.1 1 0 0 6)) fun M2 => chk (decide ((0 : Int32) = 0 ∨ (0 : Int32) = 1)) (some ((0 : Int32), M2))
theorem lX5_refuse_0 {K : KT} {G : WT} (C : Cx K G "PermitPark$SetupText" cX5_refuse 2 (some FieldType.boolean)) (hRm : K.2.2.2.1.frames = 0 ∧ K.2.2.2.1.locals = 0) (h0 : W0 G) (v1 : Int32) (M : Mem) (h_0 : G.2.2.2.1 1 0 0) : Run K G 2 0 0 (FinM K G voI 0 0) 0 [(0, .ref (G.1 1 0 0)), (1, .int v1)] [] M (pX5_refuse   v1 M) := by
  rw [pX5_refuse]
  refine r_aload_n (pc := 0) C 0 rfl rfl dX5_refuse_0 ?_
  refine r_iload_n (pc := 1) C 1 rfl rfl dX5_refuse_1 ?_
  refine r_putI (pc := 2) C FX5_errorCode mw_40 h_0 tyX5 tyX5_ok nmX5 (fun _ _ => rfl) rfl dX5_refuse_2 (fun M1 => ?_)
  refine r_aload_n (pc := 5) C 0 rfl rfl dX5_refuse_5 ?_
  refine r_aload_n (pc := 6) C 0 rfl rfl dX5_refuse_6 ?_
  refine r_getI (pc := 7) C FX5_first mw_46 h_0 rfl rfl dX5_refuse_7 ?_
  refine r_putI (pc := 10) C FX5_errorPosition mw_42 h_0 tyX5 tyX5_ok nmX5 (fun _ _ => rfl) rfl dX5_refuse_10 (fun M2 => ?_)
  refine r_iconst (pc := 13) C dX5_refuse_13 kc_0 ?_
  exact r_zret (pc := 14) C dX5_refuse_14
theorem okX5_refuse {l : Launch} {G : WT} (h0 : W0 G) (v1 : Int32) (M : Mem) (h_0 : G.2.2.2.1 1 0 0) : Okm l G yX5_refuse cX5_refuse 2 (some FieldType.boolean) 0 0 [.ref (G.1 1 0 0), .int v1] voI M (pX5_refuse  v1 M) :=
  Okm.of "PermitPark$SetupText" rfl (by decide) (Nat.le_of_ble_eq_true rfl) (L := [(0, .ref (G.1 1 0 0)), (1, .int v1)]) rfl (fun K _ hr C => lX5_refuse_0 C (by rw [hr]; exact ⟨rfl, rfl⟩) h0 v1 M h_0)
def pX5_needNumber_30 (M : Mem) : Option (Int32 × Mem) :=
    bnd (pX5_refuse (2 : Int32) M) fun o2 M1 => if o2 = 0 then (chk (decide ((0 : Int32) = 0 ∨ (0 : Int32) = 1)) (some ((0 : Int32), M1)))
    else chk (decide ((1 : Int32) = 0 ∨ (1 : Int32) = 1)) (some ((1 : Int32), M1))
theorem lX5_needNumber_30 {K : KT} {G : WT} (C : Cx K G "PermitPark$SetupText" cX5_needNumber 3 (some FieldType.boolean)) (hRm : K.2.2.2.1.frames = 1 ∧ K.2.2.2.1.locals = 21) (h0 : W0 G) (M : Mem) (g_0 : G.2.2.2.1 1 0 0) : Run K G 3 0 0 (FinM K G voI 0 0) 30 [(0, .ref (G.1 1 0 0))] [] M (pX5_needNumber_30    M) := by
  rw [pX5_needNumber_30]
  refine r_aload_n (pc := 30) C 0 rfl rfl dX5_needNumber_30 ?_
  refine r_iconst (pc := 31) C dX5_needNumber_31 kc_2 ?_
  refine r_cVI (pc := 32) C hRm (okX5_refuse h0 (2 : Int32) M g_0) (Rc.of C rfl rfl g_0) mw_378 cvX5_refuse rfl ⟨Nat.le_of_ble_eq_true rfl, Nat.le_of_ble_eq_true rfl⟩ rfl (Nat.le_of_ble_eq_true rfl) dX5_needNumber_32 (fun o2 M1 => ?_)
  refine r_if_eq (pc := 35) C dX5_needNumber_35 (tgt := 42) rfl ?_ ?_
  refine r_iconst (pc := 42) C dX5_needNumber_42 kc_0 ?_
  exact r_zret (pc := 43) C dX5_needNumber_43
  refine r_iconst (pc := 38) C dX5_needNumber_38 kc_1 ?_
  refine r_goto (pc := 39) C dX5_needNumber_39 (tgt := 43) rfl ?_
  exact r_zret (pc := 43) C dX5_needNumber_43
def pX5_needNumber (v1 : Int32) (v2 : Int32) (M : Mem) : Option (Int32 × Mem) :=
    if (M.1 1 0 0 4) = (2 : Int32) then (if (M.1 1 0 0 5) < v1 then (pX5_needNumber_30    M)
    else if (M.1 1 0 0 5) ≤ v2 then (chk (decide ((1 : Int32) = 0 ∨ (1 : Int32) = 1)) (some ((1 : Int32), M)))
    else pX5_needNumber_30    M)
    else bnd (pX5_refuse (1 : Int32) M) fun o2 M1 => chk (decide (o2 = 0 ∨ o2 = 1)) (some (o2, M1))
theorem lX5_needNumber_0 {K : KT} {G : WT} (C : Cx K G "PermitPark$SetupText" cX5_needNumber 3 (some FieldType.boolean)) (hRm : K.2.2.2.1.frames = 1 ∧ K.2.2.2.1.locals = 21) (h0 : W0 G) (v1 : Int32) (v2 : Int32) (M : Mem) (h_0 : G.2.2.2.1 1 0 0) : Run K G 3 0 0 (FinM K G voI 0 0) 0 [(0, .ref (G.1 1 0 0)), (1, .int v1), (2, .int v2)] [] M (pX5_needNumber   v1 v2 M) := by
  rw [pX5_needNumber]
  refine r_aload_n (pc := 0) C 0 rfl rfl dX5_needNumber_0 ?_
  refine r_getI (pc := 1) C FX5_kind mw_44 h_0 rfl rfl dX5_needNumber_1 ?_
  refine r_iconst (pc := 4) C dX5_needNumber_4 kc_2 ?_
  refine r_icmp_eq (pc := 5) C dX5_needNumber_5 (tgt := 14) rfl ?_ ?_
  refine r_aload_n (pc := 14) C 0 rfl rfl dX5_needNumber_14 ?_
  refine r_getI (pc := 15) C FX5_value mw_45 h_0 rfl rfl dX5_needNumber_15 ?_
  refine r_iload_n (pc := 18) C 1 rfl rfl dX5_needNumber_18 ?_
  refine r_icmp_lt (pc := 19) C dX5_needNumber_19 (tgt := 30) rfl ?_ ?_
  refine r_sub [0] rfl ?_
  exact lX5_needNumber_30   C hRm h0   M h_0
  refine r_aload_n (pc := 22) C 0 rfl rfl dX5_needNumber_22 ?_
  refine r_getI (pc := 23) C FX5_value mw_45 h_0 rfl rfl dX5_needNumber_23 ?_
  refine r_iload_n (pc := 26) C 2 rfl rfl dX5_needNumber_26 ?_
  refine r_icmp_le (pc := 27) C dX5_needNumber_27 (tgt := 38) rfl ?_ ?_
  refine r_iconst (pc := 38) C dX5_needNumber_38 kc_1 ?_
  refine r_goto (pc := 39) C dX5_needNumber_39 (tgt := 43) rfl ?_
  exact r_zret (pc := 43) C dX5_needNumber_43
  refine r_sub [0] rfl ?_
  exact lX5_needNumber_30   C hRm h0   M h_0
  refine r_aload_n (pc := 8) C 0 rfl rfl dX5_needNumber_8 ?_
  refine r_iconst (pc := 9) C dX5_needNumber_9 kc_1 ?_
  refine r_cVI (pc := 10) C hRm (okX5_refuse h0 (1 : Int32) M h_0) (Rc.of C rfl rfl h_0) mw_378 cvX5_refuse rfl ⟨Nat.le_of_ble_eq_true rfl, Nat.le_of_ble_eq_true rfl⟩ rfl (Nat.le_of_ble_eq_true rfl) dX5_needNumber_10 (fun o2 M1 => ?_)
  exact r_zret (pc := 13) C dX5_needNumber_13
theorem okX5_needNumber {l : Launch} {G : WT} (h0 : W0 G) (v1 : Int32) (v2 : Int32) (M : Mem) (h_0 : G.2.2.2.1 1 0 0) : Okm l G yX5_needNumber cX5_needNumber 3 (some FieldType.boolean) 1 21 [.ref (G.1 1 0 0), .int v1, .int v2] voI M (pX5_needNumber  v1 v2 M) :=
  Okm.of "PermitPark$SetupText" rfl (by decide) (Nat.le_of_ble_eq_true rfl) (L := [(0, .ref (G.1 1 0 0)), (1, .int v1), (2, .int v2)]) rfl (fun K _ hr C => lX5_needNumber_0 C (by rw [hr]; exact ⟨rfl, rfl⟩) h0 v1 v2 M h_0)
def pX5_readNumber (v1 : Int32) (v2 : Int32) (M : Mem) : Option (Int32 × Mem) :=
    bnd (pX5_needNumber v1 v2 M) fun o2 M1 => if ¬ o2 = 0 then (bnd (pX5_readToken M1) fun o4 M3 => chk (decide ((1 : Int32) = 0 ∨ (1 : Int32) = 1)) (some ((1 : Int32), M3)))
    else chk (decide ((0 : Int32) = 0 ∨ (0 : Int32) = 1)) (some ((0 : Int32), M1))
theorem lX5_readNumber_0 {K : KT} {G : WT} (C : Cx K G "PermitPark$SetupText" cX5_readNumber 3 (some FieldType.boolean)) (hRm : K.2.2.2.1.frames = 2 ∧ K.2.2.2.1.locals = 43) (h0 : W0 G) (v1 : Int32) (v2 : Int32) (M : Mem) (h_0 : G.2.2.2.1 1 0 0) : Run K G 3 0 0 (FinM K G voI 0 0) 0 [(0, .ref (G.1 1 0 0)), (1, .int v1), (2, .int v2)] [] M (pX5_readNumber   v1 v2 M) := by
  rw [pX5_readNumber]
  refine r_aload_n (pc := 0) C 0 rfl rfl dX5_readNumber_0 ?_
  refine r_iload_n (pc := 1) C 1 rfl rfl dX5_readNumber_1 ?_
  refine r_iload_n (pc := 2) C 2 rfl rfl dX5_readNumber_2 ?_
  refine r_cVI (pc := 3) C hRm (okX5_needNumber h0 v1 v2 M h_0) (Rc.of C rfl rfl h_0) mw_386 cvX5_needNumber rfl ⟨Nat.le_of_ble_eq_true rfl, Nat.le_of_ble_eq_true rfl⟩ rfl (Nat.le_of_ble_eq_true rfl) dX5_readNumber_3 (fun o2 M1 => ?_)
  refine r_if_ne (pc := 6) C dX5_readNumber_6 (tgt := 11) rfl ?_ ?_
  refine r_aload_n (pc := 11) C 0 rfl rfl dX5_readNumber_11 ?_
  refine r_cVV (pc := 12) C hRm (okX5_readToken h0 M1 h_0) (Rc.of C rfl rfl h_0) mw_297 cvX5_readToken rfl ⟨Nat.le_of_ble_eq_true rfl, Nat.le_of_ble_eq_true rfl⟩ rfl (Nat.le_of_ble_eq_true rfl) dX5_readNumber_12 (fun o4 M3 => ?_)
  refine r_iconst (pc := 15) C dX5_readNumber_15 kc_1 ?_
  exact r_zret (pc := 16) C dX5_readNumber_16
  refine r_iconst (pc := 9) C dX5_readNumber_9 kc_0 ?_
  exact r_zret (pc := 10) C dX5_readNumber_10
theorem okX5_readNumber {l : Launch} {G : WT} (h0 : W0 G) (v1 : Int32) (v2 : Int32) (M : Mem) (h_0 : G.2.2.2.1 1 0 0) : Okm l G yX5_readNumber cX5_readNumber 3 (some FieldType.boolean) 2 43 [.ref (G.1 1 0 0), .int v1, .int v2] voI M (pX5_readNumber  v1 v2 M) :=
  Okm.of "PermitPark$SetupText" rfl (by decide) (Nat.le_of_ble_eq_true rfl) (L := [(0, .ref (G.1 1 0 0)), (1, .int v1), (2, .int v2)]) rfl (fun K _ hr C => lX5_readNumber_0 C (by rw [hr]; exact ⟨rfl, rfl⟩) h0 v1 v2 M h_0)
def pX5_readSeed (k1 : Nat) (M : Mem) : Option (Int32 × Mem) :=
    bnd (pX5_readToken M) fun o2 M1 => nm (M1.1 1 0 0 5) fun x3 => bnd (pX5_readNumber (0 : Int32) (1000002 : Int32) M1) fun o5 M4 => if ¬ o5 = 0 then (nm (wI M4 3 k1 0 6 x3) fun M6 => chk (decide ((1 : Int32) = 0 ∨ (1 : Int32) = 1)) (some ((1 : Int32), M6)))
    else chk (decide ((0 : Int32) = 0 ∨ (0 : Int32) = 1)) (some ((0 : Int32), M4))
theorem lX5_readSeed_0 {K : KT} {G : WT} {k1 : Nat} (C : Cx K G "PermitPark$SetupText" cX5_readSeed 3 (some FieldType.boolean)) (hRm : K.2.2.2.1.frames = 3 ∧ K.2.2.2.1.locals = 65) (h0 : W0 G) (M : Mem) (h_0 : G.2.2.2.1 1 0 0) (h_1 : G.2.2.2.1 3 k1 0) : Run K G 3 0 0 (FinM K G voI 0 0) 0 [(0, .ref (G.1 1 0 0)), (1, .ref (G.1 3 k1 0))] [] M (pX5_readSeed k1   M) := by
  rw [pX5_readSeed]
  refine r_aload_n (pc := 0) C 0 rfl rfl dX5_readSeed_0 ?_
  refine r_cVV (pc := 1) C hRm (okX5_readToken h0 M h_0) (Rc.of C rfl rfl h_0) mw_297 cvX5_readToken rfl ⟨Nat.le_of_ble_eq_true rfl, Nat.le_of_ble_eq_true rfl⟩ rfl (Nat.le_of_ble_eq_true rfl) dX5_readSeed_1 (fun o2 M1 => ?_)
  refine r_aload_n (pc := 4) C 0 rfl rfl dX5_readSeed_4 ?_
  refine r_getI (pc := 5) C FX5_value mw_45 h_0 rfl rfl dX5_readSeed_5 ?_
  refine r_nmi (fun x3 => ?_)
  refine r_istore_n (pc := 8) C [(2, .int x3), (0, .ref (G.1 1 0 0)), (1, .ref (G.1 3 k1 0))] dX5_readSeed_8 rfl (by decide) rfl ?_
  refine r_aload_n (pc := 9) C 1 rfl rfl dX5_readSeed_9 ?_
  refine r_iconst (pc := 10) C dX5_readSeed_10 kc_0 ?_
  refine r_ldc (pc := 11) C mw_448 dX5_readSeed_11 ?_
  refine r_cVI (pc := 13) C hRm (okX5_readNumber h0 (0 : Int32) (1000002 : Int32) M1 h_0) (Rc.of C rfl rfl h_0) mw_382 cvX5_readNumber rfl ⟨Nat.le_of_ble_eq_true rfl, Nat.le_of_ble_eq_true rfl⟩ rfl (Nat.le_of_ble_eq_true rfl) dX5_readSeed_13 (fun o5 M4 => ?_)
  refine r_if_ne (pc := 16) C dX5_readSeed_16 (tgt := 21) rfl ?_ ?_
  refine r_aload_n (pc := 21) C 2 rfl rfl dX5_readSeed_21 ?_
  refine r_iload_n (pc := 22) C 0 rfl rfl dX5_readSeed_22 ?_
  refine r_putI (pc := 23) C FX3_x mw_225 h_1 tyX3 tyX3_ok nmX3 (fun _ _ => rfl) rfl dX5_readSeed_23 (fun M6 => ?_)
  refine r_iconst (pc := 26) C dX5_readSeed_26 kc_1 ?_
  exact r_zret (pc := 27) C dX5_readSeed_27
  refine r_iconst (pc := 19) C dX5_readSeed_19 kc_0 ?_
  exact r_zret (pc := 20) C dX5_readSeed_20
theorem okX5_readSeed {l : Launch} {G : WT} (h0 : W0 G) (k1 : Nat) (M : Mem) (h_0 : G.2.2.2.1 1 0 0) (h_1 : G.2.2.2.1 3 k1 0) : Okm l G yX5_readSeed cX5_readSeed 3 (some FieldType.boolean) 3 65 [.ref (G.1 1 0 0), .ref (G.1 3 k1 0)] voI M (pX5_readSeed k1  M) :=
  Okm.of "PermitPark$SetupText" rfl (by decide) (Nat.le_of_ble_eq_true rfl) (L := [(0, .ref (G.1 1 0 0)), (1, .ref (G.1 3 k1 0))]) rfl (fun K _ hr C => lX5_readSeed_0 C (by rw [hr]; exact ⟨rfl, rfl⟩) h0  M h_0 h_1)
def pX5_readSetting (k1 : Nat) (M : Mem) : Option (Int32 × Mem) :=
    bnd (pX5_readToken M) fun o2 M1 => nm (M1.1 1 0 0 5) fun x3 => bnd (pX5_readNumber (0 : Int32) (1 : Int32) M1) fun o5 M4 => if ¬ o5 = 0 then (nm (M4.1 1 0 0 5) fun x6 => bnd (pX7_settingMost x3 M4) fun o8 M7 => bnd (pX5_readNumber (0 : Int32) o8 M7) fun o10 M9 => if ¬ o10 = 0 then (bnd (pX3_changeSetting k1 x3 x6 M9) fun o12 M11 => chk (decide ((1 : Int32) = 0 ∨ (1 : Int32) = 1)) (some ((1 : Int32), M11)))
    else chk (decide ((0 : Int32) = 0 ∨ (0 : Int32) = 1)) (some ((0 : Int32), M9)))
    else chk (decide ((0 : Int32) = 0 ∨ (0 : Int32) = 1)) (some ((0 : Int32), M4))
theorem lX5_readSetting_0 {K : KT} {G : WT} {k1 : Nat} (C : Cx K G "PermitPark$SetupText" cX5_readSetting 4 (some FieldType.boolean)) (hRm : K.2.2.2.1.frames = 3 ∧ K.2.2.2.1.locals = 65) (h0 : W0 G) (M : Mem) (h_0 : G.2.2.2.1 1 0 0) (h_1 : G.2.2.2.1 3 k1 0) : Run K G 4 0 0 (FinM K G voI 0 0) 0 [(0, .ref (G.1 1 0 0)), (1, .ref (G.1 3 k1 0))] [] M (pX5_readSetting k1   M) := by
  rw [pX5_readSetting]
  refine r_aload_n (pc := 0) C 0 rfl rfl dX5_readSetting_0 ?_
  refine r_cVV (pc := 1) C hRm (okX5_readToken h0 M h_0) (Rc.of C rfl rfl h_0) mw_297 cvX5_readToken rfl ⟨Nat.le_of_ble_eq_true rfl, Nat.le_of_ble_eq_true rfl⟩ rfl (Nat.le_of_ble_eq_true rfl) dX5_readSetting_1 (fun o2 M1 => ?_)
  refine r_aload_n (pc := 4) C 0 rfl rfl dX5_readSetting_4 ?_
  refine r_getI (pc := 5) C FX5_value mw_45 h_0 rfl rfl dX5_readSetting_5 ?_
  refine r_nmi (fun x3 => ?_)
  refine r_istore_n (pc := 8) C [(2, .int x3), (0, .ref (G.1 1 0 0)), (1, .ref (G.1 3 k1 0))] dX5_readSetting_8 rfl (by decide) rfl ?_
  refine r_aload_n (pc := 9) C 1 rfl rfl dX5_readSetting_9 ?_
  refine r_iconst (pc := 10) C dX5_readSetting_10 kc_0 ?_
  refine r_iconst (pc := 11) C dX5_readSetting_11 kc_1 ?_
  refine r_cVI (pc := 12) C hRm (okX5_readNumber h0 (0 : Int32) (1 : Int32) M1 h_0) (Rc.of C rfl rfl h_0) mw_382 cvX5_readNumber rfl ⟨Nat.le_of_ble_eq_true rfl, Nat.le_of_ble_eq_true rfl⟩ rfl (Nat.le_of_ble_eq_true rfl) dX5_readSetting_12 (fun o5 M4 => ?_)
  refine r_if_ne (pc := 15) C dX5_readSetting_15 (tgt := 20) rfl ?_ ?_
  refine r_aload_n (pc := 20) C 1 rfl rfl dX5_readSetting_20 ?_
  refine r_getI (pc := 21) C FX5_value mw_45 h_0 rfl rfl dX5_readSetting_21 ?_
  refine r_nmi (fun x6 => ?_)
  refine r_istore_n (pc := 24) C [(3, .int x6), (2, .int x3), (0, .ref (G.1 1 0 0)), (1, .ref (G.1 3 k1 0))] dX5_readSetting_24 rfl (by decide) rfl ?_
  refine r_aload_n (pc := 25) C 2 rfl rfl dX5_readSetting_25 ?_
  refine r_iconst (pc := 26) C dX5_readSetting_26 kc_0 ?_
  refine r_iload_n (pc := 27) C 1 rfl rfl dX5_readSetting_27 ?_
  refine r_cNI (pc := 28) (host := "PermitPark") C hRm (okX7_settingMost h0 x3 M4 ) (by decide +kernel) cvX7_settingMost rfl ⟨Nat.le_of_ble_eq_true rfl, Nat.le_of_ble_eq_true rfl⟩ rfl (Nat.le_of_ble_eq_true rfl) dX5_readSetting_28 (fun o8 M7 => ?_)
  refine r_cVI (pc := 31) C hRm (okX5_readNumber h0 (0 : Int32) o8 M7 h_0) (Rc.of C rfl rfl h_0) mw_382 cvX5_readNumber rfl ⟨Nat.le_of_ble_eq_true rfl, Nat.le_of_ble_eq_true rfl⟩ rfl (Nat.le_of_ble_eq_true rfl) dX5_readSetting_31 (fun o10 M9 => ?_)
  refine r_if_ne (pc := 34) C dX5_readSetting_34 (tgt := 39) rfl ?_ ?_
  refine r_aload_n (pc := 39) C 3 rfl rfl dX5_readSetting_39 ?_
  refine r_iload_n (pc := 40) C 1 rfl rfl dX5_readSetting_40 ?_
  refine r_iload_n (pc := 41) C 0 rfl rfl dX5_readSetting_41 ?_
  refine r_cVV (pc := 42) C hRm (okX3_changeSetting h0 k1 x3 x6 M9 h_1) (Rc.of C rfl rfl h_1) mw_439 cvX3_changeSetting rfl ⟨Nat.le_of_ble_eq_true rfl, Nat.le_of_ble_eq_true rfl⟩ rfl (Nat.le_of_ble_eq_true rfl) dX5_readSetting_42 (fun o12 M11 => ?_)
  refine r_iconst (pc := 45) C dX5_readSetting_45 kc_1 ?_
  exact r_zret (pc := 46) C dX5_readSetting_46
  refine r_iconst (pc := 37) C dX5_readSetting_37 kc_0 ?_
  exact r_zret (pc := 38) C dX5_readSetting_38
  refine r_iconst (pc := 18) C dX5_readSetting_18 kc_0 ?_
  exact r_zret (pc := 19) C dX5_readSetting_19
theorem okX5_readSetting {l : Launch} {G : WT} (h0 : W0 G) (k1 : Nat) (M : Mem) (h_0 : G.2.2.2.1 1 0 0) (h_1 : G.2.2.2.1 3 k1 0) : Okm l G yX5_readSetting cX5_readSetting 4 (some FieldType.boolean) 3 65 [.ref (G.1 1 0 0), .ref (G.1 3 k1 0)] voI M (pX5_readSetting k1  M) :=
  Okm.of "PermitPark$SetupText" rfl (by decide) (Nat.le_of_ble_eq_true rfl) (L := [(0, .ref (G.1 1 0 0)), (1, .ref (G.1 3 k1 0))]) rfl (fun K _ hr C => lX5_readSetting_0 C (by rw [hr]; exact ⟨rfl, rfl⟩) h0  M h_0 h_1)
def pX5_readFlag (k1 : Nat) (M : Mem) : Option (Int32 × Mem) :=
    bnd (pX5_readToken M) fun o2 M1 => nm (M1.1 1 0 0 5) fun x3 => bnd (pX5_needNumber (0 : Int32) (7 : Int32) M1) fun o5 M4 => if ¬ o5 = 0 then (bnd (pX3_isFlagOn k1 x3 M4) fun o7 M6 => if o7 = 0 then (bnd (pX3_turnFlag k1 x3 (1 : Int32) M6) fun o9 M8 => bnd (pX5_readToken M8) fun o11 M10 => chk (decide ((1 : Int32) = 0 ∨ (1 : Int32) = 1)) (some ((1 : Int32), M10)))
    else bnd (pX5_refuse (4 : Int32) M6) fun o13 M12 => chk (decide (o13 = 0 ∨ o13 = 1)) (some (o13, M12)))
    else chk (decide ((0 : Int32) = 0 ∨ (0 : Int32) = 1)) (some ((0 : Int32), M4))
theorem lX5_readFlag_0 {K : KT} {G : WT} {k1 : Nat} (C : Cx K G "PermitPark$SetupText" cX5_readFlag 3 (some FieldType.boolean)) (hRm : K.2.2.2.1.frames = 2 ∧ K.2.2.2.1.locals = 43) (h0 : W0 G) (M : Mem) (h_0 : G.2.2.2.1 1 0 0) (h_1 : G.2.2.2.1 3 k1 0) : Run K G 3 0 0 (FinM K G voI 0 0) 0 [(0, .ref (G.1 1 0 0)), (1, .ref (G.1 3 k1 0))] [] M (pX5_readFlag k1   M) := by
  rw [pX5_readFlag]
  refine r_aload_n (pc := 0) C 0 rfl rfl dX5_readFlag_0 ?_
  refine r_cVV (pc := 1) C hRm (okX5_readToken h0 M h_0) (Rc.of C rfl rfl h_0) mw_297 cvX5_readToken rfl ⟨Nat.le_of_ble_eq_true rfl, Nat.le_of_ble_eq_true rfl⟩ rfl (Nat.le_of_ble_eq_true rfl) dX5_readFlag_1 (fun o2 M1 => ?_)
  refine r_aload_n (pc := 4) C 0 rfl rfl dX5_readFlag_4 ?_
  refine r_getI (pc := 5) C FX5_value mw_45 h_0 rfl rfl dX5_readFlag_5 ?_
  refine r_nmi (fun x3 => ?_)
  refine r_istore_n (pc := 8) C [(2, .int x3), (0, .ref (G.1 1 0 0)), (1, .ref (G.1 3 k1 0))] dX5_readFlag_8 rfl (by decide) rfl ?_
  refine r_aload_n (pc := 9) C 1 rfl rfl dX5_readFlag_9 ?_
  refine r_iconst (pc := 10) C dX5_readFlag_10 kc_0 ?_
  refine r_bipush (pc := 11) C dX5_readFlag_11 kb_7 ?_
  refine r_cVI (pc := 13) C hRm (okX5_needNumber h0 (0 : Int32) (7 : Int32) M1 h_0) (Rc.of C rfl rfl h_0) mw_386 cvX5_needNumber rfl ⟨Nat.le_of_ble_eq_true rfl, Nat.le_of_ble_eq_true rfl⟩ rfl (Nat.le_of_ble_eq_true rfl) dX5_readFlag_13 (fun o5 M4 => ?_)
  refine r_if_ne (pc := 16) C dX5_readFlag_16 (tgt := 21) rfl ?_ ?_
  refine r_aload_n (pc := 21) C 2 rfl rfl dX5_readFlag_21 ?_
  refine r_iload_n (pc := 22) C 0 rfl rfl dX5_readFlag_22 ?_
  refine r_cVI (pc := 23) C hRm (okX3_isFlagOn h0 k1 x3 M4 h_1) (Rc.of C rfl rfl h_1) mw_423 cvX3_isFlagOn rfl ⟨Nat.le_of_ble_eq_true rfl, Nat.le_of_ble_eq_true rfl⟩ rfl (Nat.le_of_ble_eq_true rfl) dX5_readFlag_23 (fun o7 M6 => ?_)
  refine r_if_eq (pc := 26) C dX5_readFlag_26 (tgt := 35) rfl ?_ ?_
  refine r_aload_n (pc := 35) C 2 rfl rfl dX5_readFlag_35 ?_
  refine r_iload_n (pc := 36) C 0 rfl rfl dX5_readFlag_36 ?_
  refine r_iconst (pc := 37) C dX5_readFlag_37 kc_1 ?_
  refine r_cVV (pc := 38) C hRm (okX3_turnFlag h0 k1 x3 (1 : Int32) M6 h_1) (Rc.of C rfl rfl h_1) mw_427 cvX3_turnFlag rfl ⟨Nat.le_of_ble_eq_true rfl, Nat.le_of_ble_eq_true rfl⟩ rfl (Nat.le_of_ble_eq_true rfl) dX5_readFlag_38 (fun o9 M8 => ?_)
  refine r_aload_n (pc := 41) C 1 rfl rfl dX5_readFlag_41 ?_
  refine r_cVV (pc := 42) C hRm (okX5_readToken h0 M8 h_0) (Rc.of C rfl rfl h_0) mw_297 cvX5_readToken rfl ⟨Nat.le_of_ble_eq_true rfl, Nat.le_of_ble_eq_true rfl⟩ rfl (Nat.le_of_ble_eq_true rfl) dX5_readFlag_42 (fun o11 M10 => ?_)
  refine r_iconst (pc := 45) C dX5_readFlag_45 kc_1 ?_
  exact r_zret (pc := 46) C dX5_readFlag_46
  refine r_aload_n (pc := 29) C 1 rfl rfl dX5_readFlag_29 ?_
  refine r_iconst (pc := 30) C dX5_readFlag_30 kc_4 ?_
  refine r_cVI (pc := 31) C hRm (okX5_refuse h0 (4 : Int32) M6 h_0) (Rc.of C rfl rfl h_0) mw_378 cvX5_refuse rfl ⟨Nat.le_of_ble_eq_true rfl, Nat.le_of_ble_eq_true rfl⟩ rfl (Nat.le_of_ble_eq_true rfl) dX5_readFlag_31 (fun o13 M12 => ?_)
  exact r_zret (pc := 34) C dX5_readFlag_34
  refine r_iconst (pc := 19) C dX5_readFlag_19 kc_0 ?_
  exact r_zret (pc := 20) C dX5_readFlag_20
theorem okX5_readFlag {l : Launch} {G : WT} (h0 : W0 G) (k1 : Nat) (M : Mem) (h_0 : G.2.2.2.1 1 0 0) (h_1 : G.2.2.2.1 3 k1 0) : Okm l G yX5_readFlag cX5_readFlag 3 (some FieldType.boolean) 2 43 [.ref (G.1 1 0 0), .ref (G.1 3 k1 0)] voI M (pX5_readFlag k1  M) :=
  Okm.of "PermitPark$SetupText" rfl (by decide) (Nat.le_of_ble_eq_true rfl) (L := [(0, .ref (G.1 1 0 0)), (1, .ref (G.1 3 k1 0))]) rfl (fun K _ hr C => lX5_readFlag_0 C (by rw [hr]; exact ⟨rfl, rfl⟩) h0  M h_0 h_1)
def pX5_readSymbol (v1 : Int32) (M : Mem) : Option (Int32 × Mem) :=
    if (M.1 1 0 0 4) = v1 then (bnd (pX5_readToken M) fun o2 M1 => chk (decide ((1 : Int32) = 0 ∨ (1 : Int32) = 1)) (some ((1 : Int32), M1)))
    else bnd (pX5_refuse (1 : Int32) M) fun o4 M3 => chk (decide (o4 = 0 ∨ o4 = 1)) (some (o4, M3))
theorem lX5_readSymbol_0 {K : KT} {G : WT} (C : Cx K G "PermitPark$SetupText" cX5_readSymbol 2 (some FieldType.boolean)) (hRm : K.2.2.2.1.frames = 2 ∧ K.2.2.2.1.locals = 43) (h0 : W0 G) (v1 : Int32) (M : Mem) (h_0 : G.2.2.2.1 1 0 0) : Run K G 2 0 0 (FinM K G voI 0 0) 0 [(0, .ref (G.1 1 0 0)), (1, .int v1)] [] M (pX5_readSymbol   v1 M) := by
  rw [pX5_readSymbol]
  refine r_aload_n (pc := 0) C 0 rfl rfl dX5_readSymbol_0 ?_
  refine r_getI (pc := 1) C FX5_kind mw_44 h_0 rfl rfl dX5_readSymbol_1 ?_
  refine r_iload_n (pc := 4) C 1 rfl rfl dX5_readSymbol_4 ?_
  refine r_icmp_eq (pc := 5) C dX5_readSymbol_5 (tgt := 14) rfl ?_ ?_
  refine r_aload_n (pc := 14) C 0 rfl rfl dX5_readSymbol_14 ?_
  refine r_cVV (pc := 15) C hRm (okX5_readToken h0 M h_0) (Rc.of C rfl rfl h_0) mw_297 cvX5_readToken rfl ⟨Nat.le_of_ble_eq_true rfl, Nat.le_of_ble_eq_true rfl⟩ rfl (Nat.le_of_ble_eq_true rfl) dX5_readSymbol_15 (fun o2 M1 => ?_)
  refine r_iconst (pc := 18) C dX5_readSymbol_18 kc_1 ?_
  exact r_zret (pc := 19) C dX5_readSymbol_19
  refine r_aload_n (pc := 8) C 0 rfl rfl dX5_readSymbol_8 ?_
  refine r_iconst (pc := 9) C dX5_readSymbol_9 kc_1 ?_
  refine r_cVI (pc := 10) C hRm (okX5_refuse h0 (1 : Int32) M h_0) (Rc.of C rfl rfl h_0) mw_378 cvX5_refuse rfl ⟨Nat.le_of_ble_eq_true rfl, Nat.le_of_ble_eq_true rfl⟩ rfl (Nat.le_of_ble_eq_true rfl) dX5_readSymbol_10 (fun o4 M3 => ?_)
  exact r_zret (pc := 13) C dX5_readSymbol_13
theorem okX5_readSymbol {l : Launch} {G : WT} (h0 : W0 G) (v1 : Int32) (M : Mem) (h_0 : G.2.2.2.1 1 0 0) : Okm l G yX5_readSymbol cX5_readSymbol 2 (some FieldType.boolean) 2 43 [.ref (G.1 1 0 0), .int v1] voI M (pX5_readSymbol  v1 M) :=
  Okm.of "PermitPark$SetupText" rfl (by decide) (Nat.le_of_ble_eq_true rfl) (L := [(0, .ref (G.1 1 0 0)), (1, .int v1)]) rfl (fun K _ hr C => lX5_readSymbol_0 C (by rw [hr]; exact ⟨rfl, rfl⟩) h0 v1 M h_0)
def pX5_instructionCode_2 : Nat → Int32 → Mem → Option (Int32 × Mem)
  | 0, _, _ => none
  | n + 1, v1, M =>
    if (11 : Int32) ≤ v1 then (some ((-1 : Int32), M))
    else chk (inB v1 11) <| bnd (pX5_isWord (v1.toNatClampNeg) M) fun o3 M2 => if o3 = 0 then (pX5_instructionCode_2   n (v1 + (1 : Int32)) M2)
    else some (v1, M2)
theorem lX5_instructionCode_2 {K : KT} {G : WT} (C : Cx K G "PermitPark$SetupText" cX5_instructionCode 2 (some FieldType.int)) (hRm : K.2.2.2.1.frames = 5 ∧ K.2.2.2.1.locals = 107) (h0 : W0 G) : ∀ (n : Nat) (v1 : Int32) (M : Mem), G.2.2.2.1 1 0 0 → Run K G 2 0 0 (FinM K G voI 0 0) 2 [(0, .ref (G.1 1 0 0)), (1, .int v1)] [] M (pX5_instructionCode_2   n v1 M) := by
  intro n
  induction n with
  | zero =>
    intro v1 M g_0
    exact r_none
  | succ n ih =>
    intro v1 M g_0
    rw [pX5_instructionCode_2]
    refine r_iload_n (pc := 2) C 1 rfl rfl dX5_instructionCode_2 ?_
    refine r_gOpsN (pc := 3) (host := "PermitPark") C (by decide +kernel) dX5_instructionCode_3 ?_
    refine r_opsN (pc := 6) C dX5_instructionCode_6 ?_
    refine r_icmp_ge (pc := 7) C dX5_instructionCode_7 (tgt := 33) rfl ?_ ?_
    refine r_iconst (pc := 33) C dX5_instructionCode_33 kc_m1 ?_
    exact r_iret (pc := 34) C rfl dX5_instructionCode_34
    refine r_aload_n (pc := 10) C 0 rfl rfl dX5_instructionCode_10 ?_
    refine r_gOpsN (pc := 11) (host := "PermitPark") C (by decide +kernel) dX5_instructionCode_11 ?_
    refine r_iload_n (pc := 14) C 1 rfl rfl dX5_instructionCode_14 ?_
    refine r_opsL (pc := 15) C dX5_instructionCode_15 (fun g1 => ?_)
    refine r_opWord (pc := 16) C g1 mw_1512 dX5_instructionCode_16 ?_
    refine r_cVI (pc := 19) C hRm (okX5_isWord h0 (v1.toNatClampNeg) M g_0 (Nat.lt_trans g1 (by decide))) (Rc.of C rfl rfl g_0) mw_318 cvX5_isWord rfl ⟨Nat.le_of_ble_eq_true rfl, Nat.le_of_ble_eq_true rfl⟩ rfl (Nat.le_of_ble_eq_true rfl) dX5_instructionCode_19 (fun o3 M2 => ?_)
    refine r_if_eq (pc := 22) C dX5_instructionCode_22 (tgt := 27) rfl ?_ ?_
    refine r_iinc (pc := 27) C [(1, .int (v1 + (1 : Int32))), (0, .ref (G.1 1 0 0))] dX5_instructionCode_27 (p := 1) rfl (ki_1 _) (by decide) rfl ?_
    refine r_goto (pc := 30) C dX5_instructionCode_30 (tgt := 2) rfl ?_
    refine r_sub [1, 0] rfl ?_
    exact ih (v1 + (1 : Int32)) M2 g_0
    refine r_iload_n (pc := 25) C 1 rfl rfl dX5_instructionCode_25 ?_
    exact r_iret (pc := 26) C rfl dX5_instructionCode_26
def pX5_instructionCode (M : Mem) : Option (Int32 × Mem) :=
    pX5_instructionCode_2   fu (0 : Int32) M
theorem lX5_instructionCode_0 {K : KT} {G : WT} (C : Cx K G "PermitPark$SetupText" cX5_instructionCode 2 (some FieldType.int)) (hRm : K.2.2.2.1.frames = 5 ∧ K.2.2.2.1.locals = 107) (h0 : W0 G) (M : Mem) (h_0 : G.2.2.2.1 1 0 0) : Run K G 2 0 0 (FinM K G voI 0 0) 0 [(0, .ref (G.1 1 0 0))] [] M (pX5_instructionCode    M) := by
  rw [pX5_instructionCode]
  refine r_iconst (pc := 0) C dX5_instructionCode_0 kc_0 ?_
  refine r_istore_n (pc := 1) C [(1, .int (0 : Int32)), (0, .ref (G.1 1 0 0))] dX5_instructionCode_1 rfl (by decide) rfl ?_
  refine r_sub [1, 0] rfl ?_
  exact lX5_instructionCode_2   C hRm h0  fu (0 : Int32) M h_0
theorem okX5_instructionCode {l : Launch} {G : WT} (h0 : W0 G) (M : Mem) (h_0 : G.2.2.2.1 1 0 0) : Okm l G yX5_instructionCode cX5_instructionCode 2 (some FieldType.int) 5 107 [.ref (G.1 1 0 0)] voI M (pX5_instructionCode   M) :=
  Okm.of "PermitPark$SetupText" rfl (by decide) (Nat.le_of_ble_eq_true rfl) (L := [(0, .ref (G.1 1 0 0))]) rfl (fun K _ hr C => lX5_instructionCode_0 C (by rw [hr]; exact ⟨rfl, rfl⟩) h0  M h_0)
def pX5_readInstruction_78 (k1 : Nat) (i1 : Nat) (v2 : Int32) (v3 : Int32) (M : Mem) : Option (Int32 × Mem) :=
    bnd (pX6_addStep k1 i1 v2 v3 M) fun o2 M1 => chk (decide ((1 : Int32) = 0 ∨ (1 : Int32) = 1)) (some ((1 : Int32), M1))
theorem lX5_readInstruction_78 {K : KT} {G : WT} {k1 : Nat} {i1 : Nat} (C : Cx K G "PermitPark$SetupText" cX5_readInstruction 4 (some FieldType.boolean)) (hRm : K.2.2.2.1.frames = 6 ∧ K.2.2.2.1.locals = 128) (h0 : W0 G) (v2 : Int32) (v3 : Int32) (M : Mem) (g_1 : G.2.2.2.1 5 k1 i1) : Run K G 4 0 0 (FinM K G voI 0 0) 78 [(1, .ref (G.1 5 k1 i1)), (2, .int v2), (3, .int v3)] [] M (pX5_readInstruction_78 k1 i1  v2 v3 M) := by
  rw [pX5_readInstruction_78]
  refine r_aload_n (pc := 78) C 0 rfl rfl dX5_readInstruction_78 ?_
  refine r_iload_n (pc := 79) C 1 rfl rfl dX5_readInstruction_79 ?_
  refine r_iload_n (pc := 80) C 2 rfl rfl dX5_readInstruction_80 ?_
  refine r_cVV (pc := 81) C hRm (okX6_addStep h0 k1 i1 v2 v3 M g_1) (Rc.of C rfl rfl g_1) mw_414 cvX6_addStep rfl ⟨Nat.le_of_ble_eq_true rfl, Nat.le_of_ble_eq_true rfl⟩ rfl (Nat.le_of_ble_eq_true rfl) dX5_readInstruction_81 (fun o2 M1 => ?_)
  refine r_iconst (pc := 84) C dX5_readInstruction_84 kc_1 ?_
  exact r_zret (pc := 85) C dX5_readInstruction_85
def pX5_readInstruction (k1 : Nat) (i1 : Nat) (M : Mem) : Option (Int32 × Mem) :=
    bnd (pX5_instructionCode M) fun o2 M1 => if ¬ o2 = (-1 : Int32) then (if (M1.1 5 k1 i1 3) < (16 : Int32) then (bnd (pX5_readToken M1) fun o4 M3 => chk (inB o2 11) <| if o2.toNatClampNeg = 1 then (pX5_readInstruction_78 k1 i1   o2 (0 : Int32) M3)
    else nm (M3.1 1 0 0 5) fun x6 => chk (inB o2 11) <| chk (inB o2 11) <| bnd (pX5_readNumber (xLeast.getD o2.toNatClampNeg 0) (xMost.getD o2.toNatClampNeg 0) M3) fun o10 M9 => if ¬ o10 = 0 then (pX5_readInstruction_78 k1 i1   o2 x6 M9)
    else chk (decide ((0 : Int32) = 0 ∨ (0 : Int32) = 1)) (some ((0 : Int32), M9)))
    else bnd (pX5_refuse (3 : Int32) M1) fun o12 M11 => chk (decide (o12 = 0 ∨ o12 = 1)) (some (o12, M11)))
    else bnd (pX5_refuse (1 : Int32) M1) fun o14 M13 => chk (decide (o14 = 0 ∨ o14 = 1)) (some (o14, M13))
theorem lX5_readInstruction_0 {K : KT} {G : WT} {k1 : Nat} {i1 : Nat} (C : Cx K G "PermitPark$SetupText" cX5_readInstruction 4 (some FieldType.boolean)) (hRm : K.2.2.2.1.frames = 6 ∧ K.2.2.2.1.locals = 128) (h0 : W0 G) (M : Mem) (h_0 : G.2.2.2.1 1 0 0) (h_1 : G.2.2.2.1 5 k1 i1) : Run K G 4 0 0 (FinM K G voI 0 0) 0 [(0, .ref (G.1 1 0 0)), (1, .ref (G.1 5 k1 i1))] [] M (pX5_readInstruction k1 i1   M) := by
  rw [pX5_readInstruction]
  refine r_aload_n (pc := 0) C 0 rfl rfl dX5_readInstruction_0 ?_
  refine r_cVI (pc := 1) C hRm (okX5_instructionCode h0 M h_0) (Rc.of C rfl rfl h_0) mw_406 cvX5_instructionCode rfl ⟨Nat.le_of_ble_eq_true rfl, Nat.le_of_ble_eq_true rfl⟩ rfl (Nat.le_of_ble_eq_true rfl) dX5_readInstruction_1 (fun o2 M1 => ?_)
  refine r_istore_n (pc := 4) C [(2, .int o2), (0, .ref (G.1 1 0 0)), (1, .ref (G.1 5 k1 i1))] dX5_readInstruction_4 rfl (by decide) rfl ?_
  refine r_iload_n (pc := 5) C 0 rfl rfl dX5_readInstruction_5 ?_
  refine r_iconst (pc := 6) C dX5_readInstruction_6 kc_m1 ?_
  refine r_icmp_ne (pc := 7) C dX5_readInstruction_7 (tgt := 16) rfl ?_ ?_
  refine r_aload_n (pc := 16) C 2 rfl rfl dX5_readInstruction_16 ?_
  refine r_getI (pc := 17) C FX6_length mw_129 h_1 rfl rfl dX5_readInstruction_17 ?_
  refine r_bipush (pc := 20) C dX5_readInstruction_20 kb_16 ?_
  refine r_icmp_lt (pc := 22) C dX5_readInstruction_22 (tgt := 31) rfl ?_ ?_
  refine r_aload_n (pc := 31) C 1 rfl rfl dX5_readInstruction_31 ?_
  refine r_cVV (pc := 32) C hRm (okX5_readToken h0 M1 h_0) (Rc.of C rfl rfl h_0) mw_297 cvX5_readToken rfl ⟨Nat.le_of_ble_eq_true rfl, Nat.le_of_ble_eq_true rfl⟩ rfl (Nat.le_of_ble_eq_true rfl) dX5_readInstruction_32 (fun o4 M3 => ?_)
  refine r_iconst (pc := 35) C dX5_readInstruction_35 kc_0 ?_
  refine r_istore_n (pc := 36) C [(3, .int (0 : Int32)), (2, .int o2), (0, .ref (G.1 1 0 0)), (1, .ref (G.1 5 k1 i1))] dX5_readInstruction_36 rfl (by decide) rfl ?_
  refine r_gOpsN (pc := 37) (host := "PermitPark") C (by decide +kernel) dX5_readInstruction_37 ?_
  refine r_iload_n (pc := 40) C 1 rfl rfl dX5_readInstruction_40 ?_
  refine r_opsL (pc := 41) C dX5_readInstruction_41 (fun g5 => ?_)
  refine r_gPark (pc := 42) C mw_412 dX5_readInstruction_42 ?_
  refine r_acmpE (pc := 45) C g5 (by decide) dX5_readInstruction_45 (tgt := 78) rfl ?_ ?_
  refine r_sub [3, 1, 0] rfl ?_
  exact lX5_readInstruction_78 (k1 := k1) (i1 := i1)  C hRm h0   o2 (0 : Int32) M3 h_1
  refine r_aload_n (pc := 48) C 2 rfl rfl dX5_readInstruction_48 ?_
  refine r_getI (pc := 49) C FX5_value mw_45 h_0 rfl rfl dX5_readInstruction_49 ?_
  refine r_nmi (fun x6 => ?_)
  refine r_istore_n (pc := 52) C [(3, .int x6), (2, .int o2), (0, .ref (G.1 1 0 0)), (1, .ref (G.1 5 k1 i1))] dX5_readInstruction_52 rfl (by decide) rfl ?_
  refine r_aload_n (pc := 53) C 2 rfl rfl dX5_readInstruction_53 ?_
  refine r_gOpsN (pc := 54) (host := "PermitPark") C (by decide +kernel) dX5_readInstruction_54 ?_
  refine r_iload_n (pc := 57) C 1 rfl rfl dX5_readInstruction_57 ?_
  refine r_opsL (pc := 58) C dX5_readInstruction_58 (fun g7 => ?_)
  refine r_opLeast (pc := 59) C g5 mw_1513 dX5_readInstruction_59 ?_
  refine r_gOpsN (pc := 62) (host := "PermitPark") C (by decide +kernel) dX5_readInstruction_62 ?_
  refine r_iload_n (pc := 65) C 1 rfl rfl dX5_readInstruction_65 ?_
  refine r_opsL (pc := 66) C dX5_readInstruction_66 (fun g8 => ?_)
  refine r_opMost (pc := 67) C g5 mw_1514 dX5_readInstruction_67 ?_
  refine r_cVI (pc := 70) C hRm (okX5_readNumber h0 (xLeast.getD o2.toNatClampNeg 0) (xMost.getD o2.toNatClampNeg 0) M3 h_0) (Rc.of C rfl rfl h_0) mw_382 cvX5_readNumber rfl ⟨Nat.le_of_ble_eq_true rfl, Nat.le_of_ble_eq_true rfl⟩ rfl (Nat.le_of_ble_eq_true rfl) dX5_readInstruction_70 (fun o10 M9 => ?_)
  refine r_if_ne (pc := 73) C dX5_readInstruction_73 (tgt := 78) rfl ?_ ?_
  refine r_sub [3, 1, 0] rfl ?_
  exact lX5_readInstruction_78 (k1 := k1) (i1 := i1)  C hRm h0   o2 x6 M9 h_1
  refine r_iconst (pc := 76) C dX5_readInstruction_76 kc_0 ?_
  exact r_zret (pc := 77) C dX5_readInstruction_77
  refine r_aload_n (pc := 25) C 1 rfl rfl dX5_readInstruction_25 ?_
  refine r_iconst (pc := 26) C dX5_readInstruction_26 kc_3 ?_
  refine r_cVI (pc := 27) C hRm (okX5_refuse h0 (3 : Int32) M1 h_0) (Rc.of C rfl rfl h_0) mw_378 cvX5_refuse rfl ⟨Nat.le_of_ble_eq_true rfl, Nat.le_of_ble_eq_true rfl⟩ rfl (Nat.le_of_ble_eq_true rfl) dX5_readInstruction_27 (fun o12 M11 => ?_)
  exact r_zret (pc := 30) C dX5_readInstruction_30
  refine r_aload_n (pc := 10) C 1 rfl rfl dX5_readInstruction_10 ?_
  refine r_iconst (pc := 11) C dX5_readInstruction_11 kc_1 ?_
  refine r_cVI (pc := 12) C hRm (okX5_refuse h0 (1 : Int32) M1 h_0) (Rc.of C rfl rfl h_0) mw_378 cvX5_refuse rfl ⟨Nat.le_of_ble_eq_true rfl, Nat.le_of_ble_eq_true rfl⟩ rfl (Nat.le_of_ble_eq_true rfl) dX5_readInstruction_12 (fun o14 M13 => ?_)
  exact r_zret (pc := 15) C dX5_readInstruction_15
theorem okX5_readInstruction {l : Launch} {G : WT} (h0 : W0 G) (k1 : Nat) (i1 : Nat) (M : Mem) (h_0 : G.2.2.2.1 1 0 0) (h_1 : G.2.2.2.1 5 k1 i1) : Okm l G yX5_readInstruction cX5_readInstruction 4 (some FieldType.boolean) 6 128 [.ref (G.1 1 0 0), .ref (G.1 5 k1 i1)] voI M (pX5_readInstruction k1 i1  M) :=
  Okm.of "PermitPark$SetupText" rfl (by decide) (Nat.le_of_ble_eq_true rfl) (L := [(0, .ref (G.1 1 0 0)), (1, .ref (G.1 5 k1 i1))]) rfl (fun K _ hr C => lX5_readInstruction_0 C (by rw [hr]; exact ⟨rfl, rfl⟩) h0  M h_0 h_1)
def pX5_readThread_59 (k1 : Nat) : Nat → Nat → Nat → Int32 → Int32 → Mem → Option (Int32 × Mem)
  | 0, _, _, _, _, _ => none
  | n + 1, n3k, n3i, v4, v5, M =>
    if (16 : Int32) < v5 then (chk (decide (v4 = 0 ∨ v4 = 1)) (some (v4, M)))
    else if v4 = 0 then (chk (decide (v4 = 0 ∨ v4 = 1)) (some (v4, M)))
    else if ¬ (M.1 1 0 0 4) = (44 : Int32) then (chk (decide (v4 = 0 ∨ v4 = 1)) (some (v4, M)))
    else bnd (pX5_readToken M) fun o2 M1 => bnd (pX5_readInstruction n3k n3i M1) fun o4 M3 => pX5_readThread_59 k1  n n3k n3i o4 (v5 + (1 : Int32)) M3
theorem lX5_readThread_59 {K : KT} {G : WT} {k1 : Nat} (C : Cx K G "PermitPark$SetupText" cX5_readThread 6 (some FieldType.boolean)) (hRm : K.2.2.2.1.frames = 7 ∧ K.2.2.2.1.locals = 151) (h0 : W0 G) : ∀ (n : Nat) (n3k : Nat) (n3i : Nat) (v4 : Int32) (v5 : Int32) (M : Mem), G.2.2.2.1 1 0 0 → G.2.2.2.1 5 n3k n3i → Run K G 6 0 0 (FinM K G voI 0 0) 59 [(0, .ref (G.1 1 0 0)), (3, .ref (G.1 5 n3k n3i)), (4, .int v4), (5, .int v5)] [] M (pX5_readThread_59 k1  n n3k n3i v4 v5 M) := by
  intro n
  induction n with
  | zero =>
    intro n3k n3i v4 v5 M g_0 g_3
    exact r_none
  | succ n ih =>
    intro n3k n3i v4 v5 M g_0 g_3
    rw [pX5_readThread_59]
    refine r_iload (pc := 59) C 3 rfl dX5_readThread_59 ?_
    refine r_bipush (pc := 61) C dX5_readThread_61 kb_16 ?_
    refine r_icmp_gt (pc := 63) C dX5_readThread_63 (tgt := 97) rfl ?_ ?_
    refine r_iload (pc := 97) C 2 rfl dX5_readThread_97 ?_
    exact r_zret (pc := 99) C dX5_readThread_99
    refine r_iload (pc := 66) C 2 rfl dX5_readThread_66 ?_
    refine r_if_eq (pc := 68) C dX5_readThread_68 (tgt := 97) rfl ?_ ?_
    refine r_iload (pc := 97) C 2 rfl dX5_readThread_97 ?_
    exact r_zret (pc := 99) C dX5_readThread_99
    refine r_aload_n (pc := 71) C 0 rfl rfl dX5_readThread_71 ?_
    refine r_getI (pc := 72) C FX5_kind mw_44 g_0 rfl rfl dX5_readThread_72 ?_
    refine r_bipush (pc := 75) C dX5_readThread_75 kb_44 ?_
    refine r_icmp_ne (pc := 77) C dX5_readThread_77 (tgt := 97) rfl ?_ ?_
    refine r_iload (pc := 97) C 2 rfl dX5_readThread_97 ?_
    exact r_zret (pc := 99) C dX5_readThread_99
    refine r_aload_n (pc := 80) C 0 rfl rfl dX5_readThread_80 ?_
    refine r_cVV (pc := 81) C hRm (okX5_readToken h0 M g_0) (Rc.of C rfl rfl g_0) mw_297 cvX5_readToken rfl ⟨Nat.le_of_ble_eq_true rfl, Nat.le_of_ble_eq_true rfl⟩ rfl (Nat.le_of_ble_eq_true rfl) dX5_readThread_81 (fun o2 M1 => ?_)
    refine r_aload_n (pc := 84) C 0 rfl rfl dX5_readThread_84 ?_
    refine r_aload_n (pc := 85) C 1 rfl rfl dX5_readThread_85 ?_
    refine r_cVI (pc := 86) C hRm (okX5_readInstruction h0 n3k n3i M1 g_0 g_3) (Rc.of C rfl rfl g_0) mw_402 cvX5_readInstruction rfl ⟨Nat.le_of_ble_eq_true rfl, Nat.le_of_ble_eq_true rfl⟩ rfl (Nat.le_of_ble_eq_true rfl) dX5_readThread_86 (fun o4 M3 => ?_)
    refine r_istore (pc := 89) C [(4, .int o4), (0, .ref (G.1 1 0 0)), (3, .ref (G.1 5 n3k n3i)), (5, .int v5)] dX5_readThread_89 (by decide) rfl ?_
    refine r_iinc (pc := 91) C [(5, .int (v5 + (1 : Int32))), (4, .int o4), (0, .ref (G.1 1 0 0)), (3, .ref (G.1 5 n3k n3i))] dX5_readThread_91 (p := 3) rfl (ki_1 _) (by decide) rfl ?_
    refine r_goto (pc := 94) C dX5_readThread_94 (tgt := 59) rfl ?_
    refine r_sub [2, 3, 1, 0] rfl ?_
    exact ih n3k n3i o4 (v5 + (1 : Int32)) M3 g_0 g_3
def pX5_readThread (k1 : Nat) (M : Mem) : Option (Int32 × Mem) :=
    bnd (pX3_isFull k1 M) fun o2 M1 => if o2 = 0 then (bnd (pX5_readToken M1) fun o4 M3 => nm (M3.1 1 0 0 5) fun x5 => bnd (pX5_readNumber (1 : Int32) (9 : Int32) M3) fun o7 M6 => if o7 = 0 then (chk (decide ((0 : Int32) = 0 ∨ (0 : Int32) = 1)) (some ((0 : Int32), M6)))
    else bnd (pX5_readSymbol (58 : Int32) M6) fun o9 M8 => if ¬ o9 = 0 then (bnd (pX3_newThread k1 x5 M8) fun o11 M10 => chk (decide (o11.1 = k1 ∧ o11.2 < 10)) <| bnd (pX5_readInstruction (o11.1) (o11.2) M10) fun o14 M13 => pX5_readThread_59 k1  fu (o11.1) (o11.2) o14 (0 : Int32) M13)
    else chk (decide ((0 : Int32) = 0 ∨ (0 : Int32) = 1)) (some ((0 : Int32), M8)))
    else bnd (pX5_refuse (3 : Int32) M1) fun o16 M15 => chk (decide (o16 = 0 ∨ o16 = 1)) (some (o16, M15))
theorem lX5_readThread_0 {K : KT} {G : WT} {k1 : Nat} (C : Cx K G "PermitPark$SetupText" cX5_readThread 6 (some FieldType.boolean)) (hRm : K.2.2.2.1.frames = 7 ∧ K.2.2.2.1.locals = 151) (h0 : W0 G) (M : Mem) (h_0 : G.2.2.2.1 1 0 0) (h_1 : G.2.2.2.1 3 k1 0) : Run K G 6 0 0 (FinM K G voI 0 0) 0 [(0, .ref (G.1 1 0 0)), (1, .ref (G.1 3 k1 0))] [] M (pX5_readThread k1   M) := by
  rw [pX5_readThread]
  refine r_aload_n (pc := 0) C 1 rfl rfl dX5_readThread_0 ?_
  refine r_cVI (pc := 1) C hRm (okX3_isFull h0 k1 M h_1) (Rc.of C rfl rfl h_1) mw_374 cvX3_isFull rfl ⟨Nat.le_of_ble_eq_true rfl, Nat.le_of_ble_eq_true rfl⟩ rfl (Nat.le_of_ble_eq_true rfl) dX5_readThread_1 (fun o2 M1 => ?_)
  refine r_if_eq (pc := 4) C dX5_readThread_4 (tgt := 13) rfl ?_ ?_
  refine r_aload_n (pc := 13) C 0 rfl rfl dX5_readThread_13 ?_
  refine r_cVV (pc := 14) C hRm (okX5_readToken h0 M1 h_0) (Rc.of C rfl rfl h_0) mw_297 cvX5_readToken rfl ⟨Nat.le_of_ble_eq_true rfl, Nat.le_of_ble_eq_true rfl⟩ rfl (Nat.le_of_ble_eq_true rfl) dX5_readThread_14 (fun o4 M3 => ?_)
  refine r_aload_n (pc := 17) C 0 rfl rfl dX5_readThread_17 ?_
  refine r_getI (pc := 18) C FX5_value mw_45 h_0 rfl rfl dX5_readThread_18 ?_
  refine r_nmi (fun x5 => ?_)
  refine r_istore_n (pc := 21) C [(2, .int x5), (0, .ref (G.1 1 0 0)), (1, .ref (G.1 3 k1 0))] dX5_readThread_21 rfl (by decide) rfl ?_
  refine r_aload_n (pc := 22) C 1 rfl rfl dX5_readThread_22 ?_
  refine r_iconst (pc := 23) C dX5_readThread_23 kc_1 ?_
  refine r_bipush (pc := 24) C dX5_readThread_24 kb_9 ?_
  refine r_cVI (pc := 26) C hRm (okX5_readNumber h0 (1 : Int32) (9 : Int32) M3 h_0) (Rc.of C rfl rfl h_0) mw_382 cvX5_readNumber rfl ⟨Nat.le_of_ble_eq_true rfl, Nat.le_of_ble_eq_true rfl⟩ rfl (Nat.le_of_ble_eq_true rfl) dX5_readThread_26 (fun o7 M6 => ?_)
  refine r_if_eq (pc := 29) C dX5_readThread_29 (tgt := 41) rfl ?_ ?_
  refine r_iconst (pc := 41) C dX5_readThread_41 kc_0 ?_
  exact r_zret (pc := 42) C dX5_readThread_42
  refine r_aload_n (pc := 32) C 1 rfl rfl dX5_readThread_32 ?_
  refine r_bipush (pc := 33) C dX5_readThread_33 kb_58 ?_
  refine r_cVI (pc := 35) C hRm (okX5_readSymbol h0 (58 : Int32) M6 h_0) (Rc.of C rfl rfl h_0) mw_390 cvX5_readSymbol rfl ⟨Nat.le_of_ble_eq_true rfl, Nat.le_of_ble_eq_true rfl⟩ rfl (Nat.le_of_ble_eq_true rfl) dX5_readThread_35 (fun o9 M8 => ?_)
  refine r_if_ne (pc := 38) C dX5_readThread_38 (tgt := 43) rfl ?_ ?_
  refine r_aload_n (pc := 43) C 2 rfl rfl dX5_readThread_43 ?_
  refine r_iload_n (pc := 44) C 0 rfl rfl dX5_readThread_44 ?_
  refine r_cVR (pc := 45) C hRm (okX3_newThread h0 k1 x5 M8 h_1) (Rc.of C rfl rfl h_1) mw_394 cvX3_newThread rfl ⟨Nat.le_of_ble_eq_true rfl, Nat.le_of_ble_eq_true rfl⟩ rfl (Nat.le_of_ble_eq_true rfl) dX5_readThread_45 (fun o11 M10 => ?_)
  refine r_chk (fun g12 => ?_)
  refine r_astore_n (pc := 48) C [(3, .ref (G.1 5 o11.1 o11.2)), (2, .int x5), (0, .ref (G.1 1 0 0)), (1, .ref (G.1 3 k1 0))] dX5_readThread_48 rfl (by decide) rfl ?_
  refine r_aload_n (pc := 49) C 2 rfl rfl dX5_readThread_49 ?_
  refine r_aload_n (pc := 50) C 0 rfl rfl dX5_readThread_50 ?_
  refine r_cVI (pc := 51) C hRm (okX5_readInstruction h0 (o11.1) (o11.2) M10 h_0 (dm5 C h_1 g12)) (Rc.of C rfl rfl h_0) mw_402 cvX5_readInstruction rfl ⟨Nat.le_of_ble_eq_true rfl, Nat.le_of_ble_eq_true rfl⟩ rfl (Nat.le_of_ble_eq_true rfl) dX5_readThread_51 (fun o14 M13 => ?_)
  refine r_istore (pc := 54) C [(4, .int o14), (3, .ref (G.1 5 o11.1 o11.2)), (2, .int x5), (0, .ref (G.1 1 0 0)), (1, .ref (G.1 3 k1 0))] dX5_readThread_54 (by decide) rfl ?_
  refine r_iconst (pc := 56) C dX5_readThread_56 kc_0 ?_
  refine r_istore (pc := 57) C [(5, .int (0 : Int32)), (4, .int o14), (3, .ref (G.1 5 o11.1 o11.2)), (2, .int x5), (0, .ref (G.1 1 0 0)), (1, .ref (G.1 3 k1 0))] dX5_readThread_57 (by decide) rfl ?_
  refine r_sub [4, 2, 1, 0] rfl ?_
  exact lX5_readThread_59 (k1 := k1)  C hRm h0  fu (o11.1) (o11.2) o14 (0 : Int32) M13 h_0 (dm5 C h_1 g12)
  refine r_iconst (pc := 41) C dX5_readThread_41 kc_0 ?_
  exact r_zret (pc := 42) C dX5_readThread_42
  refine r_aload_n (pc := 7) C 0 rfl rfl dX5_readThread_7 ?_
  refine r_iconst (pc := 8) C dX5_readThread_8 kc_3 ?_
  refine r_cVI (pc := 9) C hRm (okX5_refuse h0 (3 : Int32) M1 h_0) (Rc.of C rfl rfl h_0) mw_378 cvX5_refuse rfl ⟨Nat.le_of_ble_eq_true rfl, Nat.le_of_ble_eq_true rfl⟩ rfl (Nat.le_of_ble_eq_true rfl) dX5_readThread_9 (fun o16 M15 => ?_)
  exact r_zret (pc := 12) C dX5_readThread_12
theorem okX5_readThread {l : Launch} {G : WT} (h0 : W0 G) (k1 : Nat) (M : Mem) (h_0 : G.2.2.2.1 1 0 0) (h_1 : G.2.2.2.1 3 k1 0) : Okm l G yX5_readThread cX5_readThread 6 (some FieldType.boolean) 7 151 [.ref (G.1 1 0 0), .ref (G.1 3 k1 0)] voI M (pX5_readThread k1  M) :=
  Okm.of "PermitPark$SetupText" rfl (by decide) (Nat.le_of_ble_eq_true rfl) (L := [(0, .ref (G.1 1 0 0)), (1, .ref (G.1 3 k1 0))]) rfl (fun K _ hr C => lX5_readThread_0 C (by rw [hr]; exact ⟨rfl, rfl⟩) h0  M h_0 h_1)
def pX5_readStatement_78 (k1 : Nat) (v2 : Int32) (M : Mem) : Option (Unit × Mem) :=
    if v2 = 0 then (some ((), M))
    else bnd (pX5_readSymbol (59 : Int32) M) fun o2 M1 => some ((), M1)
theorem lX5_readStatement_78 {K : KT} {G : WT} {k1 : Nat} (C : Cx K G "PermitPark$SetupText" cX5_readStatement 3 none) (hRm : K.2.2.2.1.frames = 8 ∧ K.2.2.2.1.locals = 176) (h0 : W0 G) (v2 : Int32) (M : Mem) (g_0 : G.2.2.2.1 1 0 0) : Run K G 3 0 0 (FinM K G voV 0 0) 78 [(0, .ref (G.1 1 0 0)), (2, .int v2)] [] M (pX5_readStatement_78 k1  v2 M) := by
  rw [pX5_readStatement_78]
  refine r_iload_n (pc := 78) C 1 rfl rfl dX5_readStatement_78 ?_
  refine r_if_eq (pc := 79) C dX5_readStatement_79 (tgt := 89) rfl ?_ ?_
  exact r_vret (pc := 89) C dX5_readStatement_89
  refine r_aload_n (pc := 82) C 0 rfl rfl dX5_readStatement_82 ?_
  refine r_bipush (pc := 83) C dX5_readStatement_83 kb_59 ?_
  refine r_cVI (pc := 85) C hRm (okX5_readSymbol h0 (59 : Int32) M g_0) (Rc.of C rfl rfl g_0) mw_390 cvX5_readSymbol rfl ⟨Nat.le_of_ble_eq_true rfl, Nat.le_of_ble_eq_true rfl⟩ rfl (Nat.le_of_ble_eq_true rfl) dX5_readStatement_85 (fun o2 M1 => ?_)
  refine r_pop (pc := 88) C dX5_readStatement_88 rfl ?_
  exact r_vret (pc := 89) C dX5_readStatement_89
def pX5_readStatement (k1 : Nat) (M : Mem) : Option (Unit × Mem) :=
    bnd (pX5_isWord 11 M) fun o2 M1 => if o2 = 0 then (bnd (pX5_isWord 12 M1) fun o4 M3 => if o4 = 0 then (bnd (pX5_isWord 4 M3) fun o6 M5 => if o6 = 0 then (bnd (pX5_isWord 13 M5) fun o8 M7 => if o8 = 0 then (bnd (pX5_refuse (1 : Int32) M7) fun o10 M9 => pX5_readStatement_78 k1   o10 M9)
    else bnd (pX5_readSeed k1 M7) fun o12 M11 => pX5_readStatement_78 k1   o12 M11)
    else bnd (pX5_readSetting k1 M5) fun o14 M13 => pX5_readStatement_78 k1   o14 M13)
    else bnd (pX5_readFlag k1 M3) fun o16 M15 => pX5_readStatement_78 k1   o16 M15)
    else bnd (pX5_readThread k1 M1) fun o18 M17 => pX5_readStatement_78 k1   o18 M17
theorem lX5_readStatement_0 {K : KT} {G : WT} {k1 : Nat} (C : Cx K G "PermitPark$SetupText" cX5_readStatement 3 none) (hRm : K.2.2.2.1.frames = 8 ∧ K.2.2.2.1.locals = 176) (h0 : W0 G) (M : Mem) (h_0 : G.2.2.2.1 1 0 0) (h_1 : G.2.2.2.1 3 k1 0) : Run K G 3 0 0 (FinM K G voV 0 0) 0 [(0, .ref (G.1 1 0 0)), (1, .ref (G.1 3 k1 0))] [] M (pX5_readStatement k1   M) := by
  rw [pX5_readStatement]
  refine r_aload_n (pc := 0) C 0 rfl rfl dX5_readStatement_0 ?_
  refine r_ldcS (pc := 1) C (q := ("PermitPark$SetupText", 34, "thread", 11)) (by decide +kernel) rfl dX5_readStatement_1 ?_
  refine r_cVI (pc := 3) C hRm (okX5_isWord h0 11 M h_0 (by decide)) (Rc.of C rfl rfl h_0) mw_318 cvX5_isWord rfl ⟨Nat.le_of_ble_eq_true rfl, Nat.le_of_ble_eq_true rfl⟩ rfl (Nat.le_of_ble_eq_true rfl) dX5_readStatement_3 (fun o2 M1 => ?_)
  refine r_if_eq (pc := 6) C dX5_readStatement_6 (tgt := 18) rfl ?_ ?_
  refine r_aload_n (pc := 18) C 0 rfl rfl dX5_readStatement_18 ?_
  refine r_ldcS (pc := 19) C (q := ("PermitPark$SetupText", 44, "flag", 12)) (by decide +kernel) rfl dX5_readStatement_19 ?_
  refine r_cVI (pc := 21) C hRm (okX5_isWord h0 12 M1 h_0 (by decide)) (Rc.of C rfl rfl h_0) mw_318 cvX5_isWord rfl ⟨Nat.le_of_ble_eq_true rfl, Nat.le_of_ble_eq_true rfl⟩ rfl (Nat.le_of_ble_eq_true rfl) dX5_readStatement_21 (fun o4 M3 => ?_)
  refine r_if_eq (pc := 24) C dX5_readStatement_24 (tgt := 36) rfl ?_ ?_
  refine r_aload_n (pc := 36) C 0 rfl rfl dX5_readStatement_36 ?_
  refine r_ldcS (pc := 37) C (q := ("PermitPark$SetupText", 49, "set", 4)) (by decide +kernel) rfl dX5_readStatement_37 ?_
  refine r_cVI (pc := 39) C hRm (okX5_isWord h0 4 M3 h_0 (by decide)) (Rc.of C rfl rfl h_0) mw_318 cvX5_isWord rfl ⟨Nat.le_of_ble_eq_true rfl, Nat.le_of_ble_eq_true rfl⟩ rfl (Nat.le_of_ble_eq_true rfl) dX5_readStatement_39 (fun o6 M5 => ?_)
  refine r_if_eq (pc := 42) C dX5_readStatement_42 (tgt := 54) rfl ?_ ?_
  refine r_aload_n (pc := 54) C 0 rfl rfl dX5_readStatement_54 ?_
  refine r_ldcS (pc := 55) C (q := ("PermitPark$SetupText", 54, "seed", 13)) (by decide +kernel) rfl dX5_readStatement_55 ?_
  refine r_cVI (pc := 57) C hRm (okX5_isWord h0 13 M5 h_0 (by decide)) (Rc.of C rfl rfl h_0) mw_318 cvX5_isWord rfl ⟨Nat.le_of_ble_eq_true rfl, Nat.le_of_ble_eq_true rfl⟩ rfl (Nat.le_of_ble_eq_true rfl) dX5_readStatement_57 (fun o8 M7 => ?_)
  refine r_if_eq (pc := 60) C dX5_readStatement_60 (tgt := 72) rfl ?_ ?_
  refine r_aload_n (pc := 72) C 0 rfl rfl dX5_readStatement_72 ?_
  refine r_iconst (pc := 73) C dX5_readStatement_73 kc_1 ?_
  refine r_cVI (pc := 74) C hRm (okX5_refuse h0 (1 : Int32) M7 h_0) (Rc.of C rfl rfl h_0) mw_378 cvX5_refuse rfl ⟨Nat.le_of_ble_eq_true rfl, Nat.le_of_ble_eq_true rfl⟩ rfl (Nat.le_of_ble_eq_true rfl) dX5_readStatement_74 (fun o10 M9 => ?_)
  refine r_istore_n (pc := 77) C [(2, .int o10), (0, .ref (G.1 1 0 0)), (1, .ref (G.1 3 k1 0))] dX5_readStatement_77 rfl (by decide) rfl ?_
  refine r_sub [1, 0] rfl ?_
  exact lX5_readStatement_78 (k1 := k1)  C hRm h0   o10 M9 h_0
  refine r_aload_n (pc := 63) C 0 rfl rfl dX5_readStatement_63 ?_
  refine r_aload_n (pc := 64) C 1 rfl rfl dX5_readStatement_64 ?_
  refine r_cVI (pc := 65) C hRm (okX5_readSeed h0 k1 M7 h_0 h_1) (Rc.of C rfl rfl h_0) mw_444 cvX5_readSeed rfl ⟨Nat.le_of_ble_eq_true rfl, Nat.le_of_ble_eq_true rfl⟩ rfl (Nat.le_of_ble_eq_true rfl) dX5_readStatement_65 (fun o12 M11 => ?_)
  refine r_istore_n (pc := 68) C [(2, .int o12), (0, .ref (G.1 1 0 0)), (1, .ref (G.1 3 k1 0))] dX5_readStatement_68 rfl (by decide) rfl ?_
  refine r_goto (pc := 69) C dX5_readStatement_69 (tgt := 78) rfl ?_
  refine r_sub [1, 0] rfl ?_
  exact lX5_readStatement_78 (k1 := k1)  C hRm h0   o12 M11 h_0
  refine r_aload_n (pc := 45) C 0 rfl rfl dX5_readStatement_45 ?_
  refine r_aload_n (pc := 46) C 1 rfl rfl dX5_readStatement_46 ?_
  refine r_cVI (pc := 47) C hRm (okX5_readSetting h0 k1 M5 h_0 h_1) (Rc.of C rfl rfl h_0) mw_432 cvX5_readSetting rfl ⟨Nat.le_of_ble_eq_true rfl, Nat.le_of_ble_eq_true rfl⟩ rfl (Nat.le_of_ble_eq_true rfl) dX5_readStatement_47 (fun o14 M13 => ?_)
  refine r_istore_n (pc := 50) C [(2, .int o14), (0, .ref (G.1 1 0 0)), (1, .ref (G.1 3 k1 0))] dX5_readStatement_50 rfl (by decide) rfl ?_
  refine r_goto (pc := 51) C dX5_readStatement_51 (tgt := 78) rfl ?_
  refine r_sub [1, 0] rfl ?_
  exact lX5_readStatement_78 (k1 := k1)  C hRm h0   o14 M13 h_0
  refine r_aload_n (pc := 27) C 0 rfl rfl dX5_readStatement_27 ?_
  refine r_aload_n (pc := 28) C 1 rfl rfl dX5_readStatement_28 ?_
  refine r_cVI (pc := 29) C hRm (okX5_readFlag h0 k1 M3 h_0 h_1) (Rc.of C rfl rfl h_0) mw_419 cvX5_readFlag rfl ⟨Nat.le_of_ble_eq_true rfl, Nat.le_of_ble_eq_true rfl⟩ rfl (Nat.le_of_ble_eq_true rfl) dX5_readStatement_29 (fun o16 M15 => ?_)
  refine r_istore_n (pc := 32) C [(2, .int o16), (0, .ref (G.1 1 0 0)), (1, .ref (G.1 3 k1 0))] dX5_readStatement_32 rfl (by decide) rfl ?_
  refine r_goto (pc := 33) C dX5_readStatement_33 (tgt := 78) rfl ?_
  refine r_sub [1, 0] rfl ?_
  exact lX5_readStatement_78 (k1 := k1)  C hRm h0   o16 M15 h_0
  refine r_aload_n (pc := 9) C 0 rfl rfl dX5_readStatement_9 ?_
  refine r_aload_n (pc := 10) C 1 rfl rfl dX5_readStatement_10 ?_
  refine r_cVI (pc := 11) C hRm (okX5_readThread h0 k1 M1 h_0 h_1) (Rc.of C rfl rfl h_0) mw_370 cvX5_readThread rfl ⟨Nat.le_of_ble_eq_true rfl, Nat.le_of_ble_eq_true rfl⟩ rfl (Nat.le_of_ble_eq_true rfl) dX5_readStatement_11 (fun o18 M17 => ?_)
  refine r_istore_n (pc := 14) C [(2, .int o18), (0, .ref (G.1 1 0 0)), (1, .ref (G.1 3 k1 0))] dX5_readStatement_14 rfl (by decide) rfl ?_
  refine r_goto (pc := 15) C dX5_readStatement_15 (tgt := 78) rfl ?_
  refine r_sub [1, 0] rfl ?_
  exact lX5_readStatement_78 (k1 := k1)  C hRm h0   o18 M17 h_0
theorem okX5_readStatement {l : Launch} {G : WT} (h0 : W0 G) (k1 : Nat) (M : Mem) (h_0 : G.2.2.2.1 1 0 0) (h_1 : G.2.2.2.1 3 k1 0) : Okm l G yX5_readStatement cX5_readStatement 3 none 8 176 [.ref (G.1 1 0 0), .ref (G.1 3 k1 0)] voV M (pX5_readStatement k1  M) :=
  Okm.of "PermitPark$SetupText" rfl (by decide) (Nat.le_of_ble_eq_true rfl) (L := [(0, .ref (G.1 1 0 0)), (1, .ref (G.1 3 k1 0))]) rfl (fun K _ hr C => lX5_readStatement_0 C (by rw [hr]; exact ⟨rfl, rfl⟩) h0  M h_0 h_1)
end
