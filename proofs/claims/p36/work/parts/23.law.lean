/-! ===== pictures: the law ===== -/
section
set_option maxRecDepth 4000
def pL_at_13 (Z : Nat × (Nat → Int32)) (v1 : Int32) (s0 : Int32) (M : Mem) : Option (Int32 × Mem) :=
    if s0 ≤ 0 then (some (s0, M))
    else if (512 : Int32) ≤ s0 then (some (s0, M))
    else some (((s0 * (-1640531535 : Int32)) ^^^ (v1 * (-2048144789 : Int32))), M)
theorem lL_at_13 {K : KT} {G : WT} (C : Cx K G "PermitParkLaw" cL_at 3 (some FieldType.int)) (hRm : K.2.2.2.1.frames = 0 ∧ K.2.2.2.1.locals = 0) (h0 : W0 G) (v1 : Int32) (s0 : Int32) (M : Mem) : Run K G 3 0 0 (FinM K G voI 0 0) 13 [(1, .int v1)] [.int s0] M (pL_at_13 (scr G)  v1 s0 M) := by
  rw [pL_at_13]
  refine r_istore_n (pc := 13) C [(2, .int s0), (1, .int v1)] dL_at_13 rfl (by decide) rfl ?_
  refine r_iload_n (pc := 14) C 0 rfl rfl dL_at_14 ?_
  refine r_if_le (pc := 15) C dL_at_15 (tgt := 37) rfl ?_ ?_
  refine r_iload_n (pc := 37) C 0 rfl rfl dL_at_37 ?_
  exact r_iret (pc := 38) C rfl dL_at_38
  refine r_iload_n (pc := 18) C 0 rfl rfl dL_at_18 ?_
  refine r_sipush (pc := 19) C dL_at_19 ks_512 ?_
  refine r_icmp_ge (pc := 22) C dL_at_22 (tgt := 37) rfl ?_ ?_
  refine r_iload_n (pc := 37) C 0 rfl rfl dL_at_37 ?_
  exact r_iret (pc := 38) C rfl dL_at_38
  refine r_iload_n (pc := 25) C 0 rfl rfl dL_at_25 ?_
  refine r_ldc (pc := 26) C mw_301 dL_at_26 ?_
  refine r_imul (pc := 28) C dL_at_28 ?_
  refine r_iload_n (pc := 29) C 1 rfl rfl dL_at_29 ?_
  refine r_ldc (pc := 30) C mw_302 dL_at_30 ?_
  refine r_imul (pc := 32) C dL_at_32 ?_
  refine r_ixor (pc := 33) C dL_at_33 ?_
  refine r_goto (pc := 34) C dL_at_34 (tgt := 38) rfl ?_
  exact r_iret (pc := 38) C rfl dL_at_38
def pL_at (Z : Nat × (Nat → Int32)) (v1 : Int32) (M : Mem) : Option (Int32 × Mem) :=
    if (Int32.ofNat Z.1) ≤ v1 then (pL_at_13 Z   v1 (0 : Int32) M)
    else chk (inB v1 Z.1) <| pL_at_13 Z   v1 (Z.2 v1.toNatClampNeg) M
theorem lL_at_0 {K : KT} {G : WT} (C : Cx K G "PermitParkLaw" cL_at 3 (some FieldType.int)) (hRm : K.2.2.2.1.frames = 0 ∧ K.2.2.2.1.locals = 0) (h0 : W0 G) (v1 : Int32) (M : Mem) : Run K G 3 0 0 (FinM K G voI 0 0) 0 [(0, .ref (G.2.2.2.2.2.1 102)), (1, .int v1)] [] M (pL_at (scr G)  v1 M) := by
  rw [pL_at]
  refine r_iload_n (pc := 0) C 1 rfl rfl dL_at_0 ?_
  refine r_aload_n (pc := 1) C 0 rfl rfl dL_at_1 ?_
  refine r_xsN (pc := 2) C dL_at_2 ?_
  refine r_icmp_ge (pc := 3) C dL_at_3 (tgt := 12) rfl ?_ ?_
  refine r_iconst (pc := 12) C dL_at_12 kc_0 ?_
  refine r_sub [1] rfl ?_
  exact lL_at_13   C hRm h0   v1 (0 : Int32) M 
  refine r_aload_n (pc := 6) C 0 rfl rfl dL_at_6 ?_
  refine r_iload_n (pc := 7) C 1 rfl rfl dL_at_7 ?_
  refine r_xsL (pc := 8) C dL_at_8 ?_
  refine r_goto (pc := 9) C dL_at_9 (tgt := 13) rfl ?_
  refine r_sub [1] rfl ?_
  exact lL_at_13   C hRm h0   v1 ((scr G).2 v1.toNatClampNeg) M 
theorem okL_at {l : Launch} {G : WT} (h0 : W0 G) (v1 : Int32) (M : Mem) : Okm l G yL_at cL_at 3 (some FieldType.int) 0 0 [.ref (G.2.2.2.2.2.1 102), .int v1] voI M (pL_at (scr G)  v1 M) :=
  Okm.of "PermitParkLaw" rfl (by decide) (Nat.le_of_ble_eq_true rfl) (L := [(0, .ref (G.2.2.2.2.2.1 102)), (1, .int v1)]) rfl (fun K _ hr C => lL_at_0 C (by rw [hr]; exact ⟨rfl, rfl⟩) h0 v1 M )
def pL_draw (Z : Nat × (Nat → Int32)) (v1 : Int32) (M : Mem) : Option (Int32 × Mem) :=
    chk (decide (¬ M.1 19 0 0 1 = 0)) <| chk (decide (¬ M.1 19 0 0 1 = 0)) <| chk (decide (¬ (if (1 : Int32) < (Int32.ofNat Z.1) then (Int32.ofNat Z.1) else (1 : Int32)) = 0)) <| bnd (pL_at Z ((M.1 19 0 0 2) - (M.1 19 0 0 2) / (if (1 : Int32) < (Int32.ofNat Z.1) then (Int32.ofNat Z.1) else (1 : Int32)) * (if (1 : Int32) < (Int32.ofNat Z.1) then (Int32.ofNat Z.1) else (1 : Int32))) M) fun o3 M2 => nm (o3 + ((M2.1 19 0 0 2) * (668265263 : Int32))) fun x4 => nm (wI M2 19 0 0 2 ((M2.1 19 0 0 2) + (1 : Int32))) fun M5 => nm (x4 ^^^ ((x4.toUInt32 >>> ((15 : Int32).toUInt32 &&& Int32.toUInt32 31)).toInt32)) fun x6 => nm (x6 * (739982445 : Int32)) fun x7 => nm (x7 ^^^ ((x7.toUInt32 >>> ((13 : Int32).toUInt32 &&& Int32.toUInt32 31)).toInt32)) fun x8 => chk (decide (¬ v1 = 0)) <| some (((x8 &&& (2147483647 : Int32)) - (x8 &&& (2147483647 : Int32)) / v1 * v1), M5)
theorem lL_draw_0 {K : KT} {G : WT} (C : Cx K G "PermitParkLaw" cL_draw 3 (some FieldType.int)) (hRm : K.2.2.2.1.frames = 1 ∧ K.2.2.2.1.locals = 22) (h0 : W0 G) (v1 : Int32) (M : Mem) (h_0 : G.2.2.2.1 19 0 0) : Run K G 3 0 0 (FinM K G voI 0 0) 0 [(0, .ref (G.1 19 0 0)), (1, .int v1)] [] M (pL_draw (scr G)  v1 M) := by
  rw [pL_draw]
  refine r_aload_n (pc := 0) C 0 rfl rfl dL_draw_0 ?_
  refine r_getInts (pc := 1) C FL_ints mw_274 h_0 dL_draw_1 ?_
  refine r_aload_n (pc := 4) C 0 rfl rfl dL_draw_4 ?_
  refine r_getI (pc := 5) C FL_next mw_275 h_0 rfl rfl dL_draw_5 ?_
  refine r_iconst (pc := 8) C dL_draw_8 kc_1 ?_
  refine r_aload_n (pc := 9) C 0 rfl rfl dL_draw_9 ?_
  refine r_getInts (pc := 10) C FL_ints mw_274 h_0 dL_draw_10 ?_
  refine r_xsN (pc := 13) C dL_draw_13 ?_
  refine r_max (pc := 14) C mw_295 mw_296 mw_7 mw_297 hRm ⟨Nat.le_of_ble_eq_true rfl, Nat.le_of_ble_eq_true rfl⟩ dL_draw_14 ?_
  refine r_chk (fun z1 => ?_)
  refine r_irem (pc := 17) C dL_draw_17 (of_decide_eq_true z1) ?_
  refine r_cSI (pc := 18) C hRm (okL_at h0 ((M.1 19 0 0 2) - (M.1 19 0 0 2) / (if (1 : Int32) < (Int32.ofNat (scr G).1) then (Int32.ofNat (scr G).1) else (1 : Int32)) * (if (1 : Int32) < (Int32.ofNat (scr G).1) then (Int32.ofNat (scr G).1) else (1 : Int32))) M ) mw_298 cvL_at rfl ⟨Nat.le_of_ble_eq_true rfl, Nat.le_of_ble_eq_true rfl⟩ rfl (Nat.le_of_ble_eq_true rfl) dL_draw_18 (fun o3 M2 => ?_)
  refine r_aload_n (pc := 21) C 0 rfl rfl dL_draw_21 ?_
  refine r_getI (pc := 22) C FL_next mw_275 h_0 rfl rfl dL_draw_22 ?_
  refine r_ldc (pc := 25) C mw_303 dL_draw_25 ?_
  refine r_imul (pc := 27) C dL_draw_27 ?_
  refine r_iadd (pc := 28) C dL_draw_28 ?_
  refine r_nmi (fun x4 => ?_)
  refine r_istore_n (pc := 29) C [(2, .int x4), (0, .ref (G.1 19 0 0)), (1, .int v1)] dL_draw_29 rfl (by decide) rfl ?_
  refine r_aload_n (pc := 30) C 1 rfl rfl dL_draw_30 ?_
  refine r_dup (pc := 31) C dL_draw_31 rfl ?_
  refine r_getI (pc := 32) C FL_next mw_275 h_0 rfl rfl dL_draw_32 ?_
  refine r_iconst (pc := 35) C dL_draw_35 kc_1 ?_
  refine r_iadd (pc := 36) C dL_draw_36 ?_
  refine r_putI (pc := 37) C FL_next mw_275 h_0 tyX9 tyX9_ok nmX9 (fun _ _ => rfl) rfl dL_draw_37 (fun M5 => ?_)
  refine r_iload_n (pc := 40) C 0 rfl rfl dL_draw_40 ?_
  refine r_iload_n (pc := 41) C 0 rfl rfl dL_draw_41 ?_
  refine r_bipush (pc := 42) C dL_draw_42 kb_15 ?_
  refine r_iushr (pc := 44) C dL_draw_44 ?_
  refine r_ixor (pc := 45) C dL_draw_45 ?_
  refine r_nmi (fun x6 => ?_)
  refine r_istore_n (pc := 46) C [(2, .int x6), (0, .ref (G.1 19 0 0)), (1, .int v1)] dL_draw_46 rfl (by decide) rfl ?_
  refine r_iload_n (pc := 47) C 0 rfl rfl dL_draw_47 ?_
  refine r_ldc (pc := 48) C mw_304 dL_draw_48 ?_
  refine r_imul (pc := 50) C dL_draw_50 ?_
  refine r_nmi (fun x7 => ?_)
  refine r_istore_n (pc := 51) C [(2, .int x7), (0, .ref (G.1 19 0 0)), (1, .int v1)] dL_draw_51 rfl (by decide) rfl ?_
  refine r_iload_n (pc := 52) C 0 rfl rfl dL_draw_52 ?_
  refine r_iload_n (pc := 53) C 0 rfl rfl dL_draw_53 ?_
  refine r_bipush (pc := 54) C dL_draw_54 kb_13 ?_
  refine r_iushr (pc := 56) C dL_draw_56 ?_
  refine r_ixor (pc := 57) C dL_draw_57 ?_
  refine r_nmi (fun x8 => ?_)
  refine r_istore_n (pc := 58) C [(2, .int x8), (0, .ref (G.1 19 0 0)), (1, .int v1)] dL_draw_58 rfl (by decide) rfl ?_
  refine r_iload_n (pc := 59) C 0 rfl rfl dL_draw_59 ?_
  refine r_ldc (pc := 60) C mw_305 dL_draw_60 ?_
  refine r_iand (pc := 62) C dL_draw_62 ?_
  refine r_iload_n (pc := 63) C 2 rfl rfl dL_draw_63 ?_
  refine r_chk (fun z9 => ?_)
  refine r_irem (pc := 64) C dL_draw_64 (of_decide_eq_true z9) ?_
  exact r_iret (pc := 65) C rfl dL_draw_65
theorem okL_draw {l : Launch} {G : WT} (h0 : W0 G) (v1 : Int32) (M : Mem) (h_0 : G.2.2.2.1 19 0 0) : Okm l G yL_draw cL_draw 3 (some FieldType.int) 1 22 [.ref (G.1 19 0 0), .int v1] voI M (pL_draw (scr G)  v1 M) :=
  Okm.of "PermitParkLaw" rfl (by decide) (Nat.le_of_ble_eq_true rfl) (L := [(0, .ref (G.1 19 0 0)), (1, .int v1)]) rfl (fun K _ hr C => lL_draw_0 C (by rw [hr]; exact ⟨rfl, rfl⟩) h0 v1 M h_0)
def pL_builds_156 (Z : Nat × (Nat → Int32)) (k11 : Int32 → Int32 → Mem → Option (Int32 × Mem)) (k67 : Int32 → Int32 → Int32 → Mem → Option (Int32 × Mem)) (v1 : Int32) (v2 : Int32) (v3 : Int32) (v4 : Int32) (s0 : Int32) (M : Mem) : Option (Int32 × Mem) :=
    bnd (pL_addInstruction v2 v4 s0 M) fun o3 M2 => if (2 : Int32) ≤ o3 then (k67 v1 v2 (v3 + (-1 : Int32)) M2)
    else chk (decide ((0 : Int32) = 0 ∨ (0 : Int32) = 1)) (some ((0 : Int32), M2))
theorem lL_builds_156 {K : KT} {G : WT} {k11 : Int32 → Int32 → Mem → Option (Int32 × Mem)} {k67 : Int32 → Int32 → Int32 → Mem → Option (Int32 × Mem)} (C : Cx K G "PermitParkLaw" cL_builds 6 (some FieldType.boolean)) (hRm : K.2.2.2.1 = rmX 4 91 0) (Y : Cy0 K) (h0 : W0 G)
    (hk11 : ∀ (v1 : Int32) (v2 : Int32) (M : Mem), G.2.2.2.1 19 0 0 → Run K G 6 0 (6 * 0) (FinN K G voI 0) 11 [(0, .ref (G.1 19 0 0)), (1, .int v1), (2, .int v2)] [] M (k11 v1 v2 M))
    (hk67 : ∀ (v1 : Int32) (v2 : Int32) (v3 : Int32) (M : Mem), G.2.2.2.1 19 0 0 → Run K G 6 0 (6 * 0) (FinN K G voI 0) 67 [(0, .ref (G.1 19 0 0)), (1, .int v1), (2, .int v2), (3, .int v3)] [] M (k67 v1 v2 v3 M)) (v1 : Int32) (v2 : Int32) (v3 : Int32) (v4 : Int32) (s0 : Int32) (M : Mem) (g_0 : G.2.2.2.1 19 0 0) : Run K G 6 0 (6 * 0) (FinN K G voI 0) 156 [(0, .ref (G.1 19 0 0)), (1, .int v1), (2, .int v2), (3, .int v3), (4, .int v4)] [.int s0] M (pL_builds_156 (scr G) k11 k67 v1 v2 v3 v4 s0 M) := by
  rw [pL_builds_156]
  refine r_istore (pc := 156) C [(5, .int s0), (0, .ref (G.1 19 0 0)), (1, .int v1), (2, .int v2), (3, .int v3), (4, .int v4)] dL_builds_156 (by decide) rfl ?_
  refine r_aload_n (pc := 158) C 1 rfl rfl dL_builds_158 ?_
  refine r_getR (pc := 159) C FL_x mw_273 g_0 rfl dL_builds_159 (fun g1 => ?_)
  refine r_iload_n (pc := 162) C 3 rfl rfl dL_builds_162 ?_
  refine r_iload (pc := 163) C 5 rfl dL_builds_163 ?_
  refine r_iload (pc := 165) C 0 rfl dL_builds_165 ?_
  refine r_n0hI (pc := 167) C Y (Rx.of hRm rfl rfl rfl rfl) (okL_addInstruction h0 Y.1 v2 v4 s0 M g1) mw_422 cvL_addInstruction rfl rfl (Nat.le_of_ble_eq_true rfl) dL_builds_167 (fun o3 M2 => ?_)
  refine r_iconst (pc := 170) C dL_builds_170 kc_2 ?_
  refine r_icmp_ge (pc := 171) C dL_builds_171 (tgt := 176) rfl ?_ ?_
  refine r_iinc (pc := 176) C [(3, .int (v3 + (-1 : Int32))), (5, .int s0), (0, .ref (G.1 19 0 0)), (1, .int v1), (2, .int v2), (4, .int v4)] dL_builds_176 (p := 4) rfl (ki_m1 _) (by decide) rfl ?_
  refine r_goto (pc := 179) C dL_builds_179 (tgt := 67) rfl ?_
  refine r_sub [2, 3, 4, 0] rfl ?_
  exact hk67 v1 v2 (v3 + (-1 : Int32)) M2 g_0
  refine r_iconst (pc := 174) C dL_builds_174 kc_0 ?_
  refine r_wid (cs' := 0) (sl' := 6 * 0) (Nat.le_of_ble_eq_true rfl) (Nat.le_of_ble_eq_true rfl) (r_nok ?_)
  exact r_zret (pc := 175) C dL_builds_175
def pL_builds_67 (Z : Nat × (Nat → Int32)) (k11 : Int32 → Int32 → Mem → Option (Int32 × Mem)) : Nat → Int32 → Int32 → Int32 → Mem → Option (Int32 × Mem)
  | 0, _, _, _, _ => none
  | n + 1, v1, v2, v3, M =>
    if v3 ≤ 0 then (k11 v1 (v2 + (1 : Int32)) M)
    else bnd (pL_draw Z (11 : Int32) M) fun o2 M1 => if ¬ o2 = 0 then (if ¬ o2 = (1 : Int32) then (if ¬ o2 = (2 : Int32) then (if (6 : Int32) ≤ o2 then (if (9 : Int32) ≤ o2 then (bnd (pL_draw Z (4 : Int32) M1) fun o4 M3 => pL_builds_156 Z k11 (fun v1 v2 v3 M => pL_builds_67 Z k11 n v1 v2 v3 M)  v1 v2 v3 o2 o4 M3)
    else bnd (pL_draw Z v1 M1) fun o6 M5 => pL_builds_156 Z k11 (fun v1 v2 v3 M => pL_builds_67 Z k11 n v1 v2 v3 M)  v1 v2 v3 o2 o6 M5)
    else bnd (pL_draw Z (3 : Int32) M1) fun o8 M7 => pL_builds_156 Z k11 (fun v1 v2 v3 M => pL_builds_67 Z k11 n v1 v2 v3 M)  v1 v2 v3 o2 o8 M7)
    else bnd (pL_draw Z (20 : Int32) M1) fun o10 M9 => pL_builds_156 Z k11 (fun v1 v2 v3 M => pL_builds_67 Z k11 n v1 v2 v3 M)  v1 v2 v3 o2 ((1 : Int32) + o10) M9)
    else pL_builds_156 Z k11 (fun v1 v2 v3 M => pL_builds_67 Z k11 n v1 v2 v3 M)  v1 v2 v3 o2 (0 : Int32) M1)
    else bnd (pL_draw Z (5 : Int32) M1) fun o12 M11 => pL_builds_156 Z k11 (fun v1 v2 v3 M => pL_builds_67 Z k11 n v1 v2 v3 M)  v1 v2 v3 o2 ((1 : Int32) + o12) M11
theorem lL_builds_67 {K : KT} {G : WT} {k11 : Int32 → Int32 → Mem → Option (Int32 × Mem)} (C : Cx K G "PermitParkLaw" cL_builds 6 (some FieldType.boolean)) (hRm : K.2.2.2.1 = rmX 4 91 0) (Y : Cy0 K) (h0 : W0 G)
    (hk11 : ∀ (v1 : Int32) (v2 : Int32) (M : Mem), G.2.2.2.1 19 0 0 → Run K G 6 0 (6 * 0) (FinN K G voI 0) 11 [(0, .ref (G.1 19 0 0)), (1, .int v1), (2, .int v2)] [] M (k11 v1 v2 M)) : ∀ (n : Nat) (v1 : Int32) (v2 : Int32) (v3 : Int32) (M : Mem), G.2.2.2.1 19 0 0 → Run K G 6 0 (6 * 0) (FinN K G voI 0) 67 [(0, .ref (G.1 19 0 0)), (1, .int v1), (2, .int v2), (3, .int v3)] [] M (pL_builds_67 (scr G) k11 n v1 v2 v3 M) := by
  intro n
  induction n with
  | zero =>
    intro v1 v2 v3 M g_0
    exact r_none
  | succ n ih =>
    intro v1 v2 v3 M g_0
    rw [pL_builds_67]
    refine r_iload_n (pc := 67) C 3 rfl rfl dL_builds_67 ?_
    refine r_if_le (pc := 68) C dL_builds_68 (tgt := 182) rfl ?_ ?_
    refine r_iinc (pc := 182) C [(2, .int (v2 + (1 : Int32))), (0, .ref (G.1 19 0 0)), (1, .int v1), (3, .int v3)] dL_builds_182 (p := 2) rfl (ki_1 _) (by decide) rfl ?_
    refine r_goto (pc := 185) C dL_builds_185 (tgt := 11) rfl ?_
    refine r_sub [1, 2, 0] rfl ?_
    exact hk11 v1 (v2 + (1 : Int32)) M g_0
    refine r_aload_n (pc := 71) C 0 rfl rfl dL_builds_71 ?_
    refine r_bipush (pc := 72) C dL_builds_72 kb_11 ?_
    refine r_wVI (pc := 74) C (Rx.of hRm rfl rfl rfl rfl) (okL_draw h0 (11 : Int32) M g_0) (Rc.of C rfl rfl g_0) mw_291 cvL_draw rfl rfl (Nat.le_of_ble_eq_true rfl) dL_builds_74 (fun o2 M1 => ?_)
    refine r_istore (pc := 77) C [(4, .int o2), (0, .ref (G.1 19 0 0)), (1, .int v1), (2, .int v2), (3, .int v3)] dL_builds_77 (by decide) rfl ?_
    refine r_iload (pc := 79) C 0 rfl dL_builds_79 ?_
    refine r_if_ne (pc := 81) C dL_builds_81 (tgt := 94) rfl ?_ ?_
    refine r_iload (pc := 94) C 0 rfl dL_builds_94 ?_
    refine r_iconst (pc := 96) C dL_builds_96 kc_1 ?_
    refine r_icmp_ne (pc := 97) C dL_builds_97 (tgt := 104) rfl ?_ ?_
    refine r_iload (pc := 104) C 0 rfl dL_builds_104 ?_
    refine r_iconst (pc := 106) C dL_builds_106 kc_2 ?_
    refine r_icmp_ne (pc := 107) C dL_builds_107 (tgt := 121) rfl ?_ ?_
    refine r_iload (pc := 121) C 0 rfl dL_builds_121 ?_
    refine r_bipush (pc := 123) C dL_builds_123 kb_6 ?_
    refine r_icmp_ge (pc := 125) C dL_builds_125 (tgt := 136) rfl ?_ ?_
    refine r_iload (pc := 136) C 0 rfl dL_builds_136 ?_
    refine r_bipush (pc := 138) C dL_builds_138 kb_9 ?_
    refine r_icmp_ge (pc := 140) C dL_builds_140 (tgt := 151) rfl ?_ ?_
    refine r_aload_n (pc := 151) C 1 rfl rfl dL_builds_151 ?_
    refine r_iconst (pc := 152) C dL_builds_152 kc_4 ?_
    refine r_wVI (pc := 153) C (Rx.of hRm rfl rfl rfl rfl) (okL_draw h0 (4 : Int32) M1 g_0) (Rc.of C rfl rfl g_0) mw_291 cvL_draw rfl rfl (Nat.le_of_ble_eq_true rfl) dL_builds_153 (fun o4 M3 => ?_)
    refine r_sub [1, 2, 3, 4, 0] rfl ?_
    exact lL_builds_156  (k11 := k11) (k67 := (fun v1 v2 v3 M => pL_builds_67 (scr G) k11 n v1 v2 v3 M)) C hRm Y h0 hk11 ih  v1 v2 v3 o2 o4 M3 g_0
    refine r_aload_n (pc := 143) C 1 rfl rfl dL_builds_143 ?_
    refine r_iload_n (pc := 144) C 2 rfl rfl dL_builds_144 ?_
    refine r_wVI (pc := 145) C (Rx.of hRm rfl rfl rfl rfl) (okL_draw h0 v1 M1 g_0) (Rc.of C rfl rfl g_0) mw_291 cvL_draw rfl rfl (Nat.le_of_ble_eq_true rfl) dL_builds_145 (fun o6 M5 => ?_)
    refine r_goto (pc := 148) C dL_builds_148 (tgt := 156) rfl ?_
    refine r_sub [1, 2, 3, 4, 0] rfl ?_
    exact lL_builds_156  (k11 := k11) (k67 := (fun v1 v2 v3 M => pL_builds_67 (scr G) k11 n v1 v2 v3 M)) C hRm Y h0 hk11 ih  v1 v2 v3 o2 o6 M5 g_0
    refine r_aload_n (pc := 128) C 1 rfl rfl dL_builds_128 ?_
    refine r_iconst (pc := 129) C dL_builds_129 kc_3 ?_
    refine r_wVI (pc := 130) C (Rx.of hRm rfl rfl rfl rfl) (okL_draw h0 (3 : Int32) M1 g_0) (Rc.of C rfl rfl g_0) mw_291 cvL_draw rfl rfl (Nat.le_of_ble_eq_true rfl) dL_builds_130 (fun o8 M7 => ?_)
    refine r_goto (pc := 133) C dL_builds_133 (tgt := 156) rfl ?_
    refine r_sub [1, 2, 3, 4, 0] rfl ?_
    exact lL_builds_156  (k11 := k11) (k67 := (fun v1 v2 v3 M => pL_builds_67 (scr G) k11 n v1 v2 v3 M)) C hRm Y h0 hk11 ih  v1 v2 v3 o2 o8 M7 g_0
    refine r_iconst (pc := 110) C dL_builds_110 kc_1 ?_
    refine r_aload_n (pc := 111) C 1 rfl rfl dL_builds_111 ?_
    refine r_bipush (pc := 112) C dL_builds_112 kb_20 ?_
    refine r_wVI (pc := 114) C (Rx.of hRm rfl rfl rfl rfl) (okL_draw h0 (20 : Int32) M1 g_0) (Rc.of C rfl rfl g_0) mw_291 cvL_draw rfl rfl (Nat.le_of_ble_eq_true rfl) dL_builds_114 (fun o10 M9 => ?_)
    refine r_iadd (pc := 117) C dL_builds_117 ?_
    refine r_goto (pc := 118) C dL_builds_118 (tgt := 156) rfl ?_
    refine r_sub [1, 2, 3, 4, 0] rfl ?_
    exact lL_builds_156  (k11 := k11) (k67 := (fun v1 v2 v3 M => pL_builds_67 (scr G) k11 n v1 v2 v3 M)) C hRm Y h0 hk11 ih  v1 v2 v3 o2 ((1 : Int32) + o10) M9 g_0
    refine r_iconst (pc := 100) C dL_builds_100 kc_0 ?_
    refine r_goto (pc := 101) C dL_builds_101 (tgt := 156) rfl ?_
    refine r_sub [1, 2, 3, 4, 0] rfl ?_
    exact lL_builds_156  (k11 := k11) (k67 := (fun v1 v2 v3 M => pL_builds_67 (scr G) k11 n v1 v2 v3 M)) C hRm Y h0 hk11 ih  v1 v2 v3 o2 (0 : Int32) M1 g_0
    refine r_iconst (pc := 84) C dL_builds_84 kc_1 ?_
    refine r_aload_n (pc := 85) C 1 rfl rfl dL_builds_85 ?_
    refine r_iconst (pc := 86) C dL_builds_86 kc_5 ?_
    refine r_wVI (pc := 87) C (Rx.of hRm rfl rfl rfl rfl) (okL_draw h0 (5 : Int32) M1 g_0) (Rc.of C rfl rfl g_0) mw_291 cvL_draw rfl rfl (Nat.le_of_ble_eq_true rfl) dL_builds_87 (fun o12 M11 => ?_)
    refine r_iadd (pc := 90) C dL_builds_90 ?_
    refine r_goto (pc := 91) C dL_builds_91 (tgt := 156) rfl ?_
    refine r_sub [1, 2, 3, 4, 0] rfl ?_
    exact lL_builds_156  (k11 := k11) (k67 := (fun v1 v2 v3 M => pL_builds_67 (scr G) k11 n v1 v2 v3 M)) C hRm Y h0 hk11 ih  v1 v2 v3 o2 ((1 : Int32) + o12) M11 g_0
def pL_builds_42 (Z : Nat × (Nat → Int32)) (k11 : Int32 → Int32 → Mem → Option (Int32 × Mem)) (v1 : Int32) (v2 : Int32) (s0 : Int32) (s1 : Int32) (M : Mem) : Option (Int32 × Mem) :=
    bnd (pL_draw Z (3 : Int32) M) fun o2 M1 => bnd (pL_addThread s1 s0 ((1 : Int32) + o2) M1) fun o4 M3 => if o4 = v2 then (bnd (pL_draw Z (8 : Int32) M3) fun o6 M5 => nm ((1 : Int32) + o6) fun x7 => pL_builds_67 Z k11 fu v1 v2 x7 M5)
    else chk (decide ((0 : Int32) = 0 ∨ (0 : Int32) = 1)) (some ((0 : Int32), M3))
theorem lL_builds_42 {K : KT} {G : WT} {k11 : Int32 → Int32 → Mem → Option (Int32 × Mem)} (C : Cx K G "PermitParkLaw" cL_builds 6 (some FieldType.boolean)) (hRm : K.2.2.2.1 = rmX 4 91 0) (Y : Cy0 K) (h0 : W0 G)
    (hk11 : ∀ (v1 : Int32) (v2 : Int32) (M : Mem), G.2.2.2.1 19 0 0 → Run K G 6 0 (6 * 0) (FinN K G voI 0) 11 [(0, .ref (G.1 19 0 0)), (1, .int v1), (2, .int v2)] [] M (k11 v1 v2 M)) (v1 : Int32) (v2 : Int32) (s0 : Int32) (s1 : Int32) (M : Mem) (g_0 : G.2.2.2.1 19 0 0) (g_s2 : G.2.2.2.1 0 0 0) : Run K G 6 0 (6 * 0) (FinN K G voI 0) 42 [(0, .ref (G.1 19 0 0)), (1, .int v1), (2, .int v2)] [.int s0, .int s1, .ref (G.1 0 0 0)] M (pL_builds_42 (scr G) k11 v1 v2 s0 s1 M) := by
  rw [pL_builds_42]
  refine r_iconst (pc := 42) C dL_builds_42 kc_1 ?_
  refine r_aload_n (pc := 43) C 0 rfl rfl dL_builds_43 ?_
  refine r_iconst (pc := 44) C dL_builds_44 kc_3 ?_
  refine r_wVI (pc := 45) C (Rx.of hRm rfl rfl rfl rfl) (okL_draw h0 (3 : Int32) M g_0) (Rc.of C rfl rfl g_0) mw_291 cvL_draw rfl rfl (Nat.le_of_ble_eq_true rfl) dL_builds_45 (fun o2 M1 => ?_)
  refine r_iadd (pc := 48) C dL_builds_48 ?_
  refine r_n0hI (pc := 49) C Y (Rx.of hRm rfl rfl rfl rfl) (okL_addThread h0 Y.1 s1 s0 ((1 : Int32) + o2) M1 g_s2) mw_306 cvL_addThread rfl rfl (Nat.le_of_ble_eq_true rfl) dL_builds_49 (fun o4 M3 => ?_)
  refine r_iload_n (pc := 52) C 2 rfl rfl dL_builds_52 ?_
  refine r_icmp_eq (pc := 53) C dL_builds_53 (tgt := 58) rfl ?_ ?_
  refine r_iconst (pc := 58) C dL_builds_58 kc_1 ?_
  refine r_aload_n (pc := 59) C 0 rfl rfl dL_builds_59 ?_
  refine r_bipush (pc := 60) C dL_builds_60 kb_8 ?_
  refine r_wVI (pc := 62) C (Rx.of hRm rfl rfl rfl rfl) (okL_draw h0 (8 : Int32) M3 g_0) (Rc.of C rfl rfl g_0) mw_291 cvL_draw rfl rfl (Nat.le_of_ble_eq_true rfl) dL_builds_62 (fun o6 M5 => ?_)
  refine r_iadd (pc := 65) C dL_builds_65 ?_
  refine r_nmi (fun x7 => ?_)
  refine r_istore_n (pc := 66) C [(3, .int x7), (0, .ref (G.1 19 0 0)), (1, .int v1), (2, .int v2)] dL_builds_66 rfl (by decide) rfl ?_
  refine r_sub [1, 2, 3, 0] rfl ?_
  exact lL_builds_67  (k11 := k11) C hRm Y h0 hk11 fu v1 v2 x7 M5 g_0
  refine r_iconst (pc := 56) C dL_builds_56 kc_0 ?_
  refine r_wid (cs' := 0) (sl' := 6 * 0) (Nat.le_of_ble_eq_true rfl) (Nat.le_of_ble_eq_true rfl) (r_nok ?_)
  exact r_zret (pc := 57) C dL_builds_57
def pL_builds_235 (Z : Nat × (Nat → Int32)) (s0 : Int32) (s1 : Int32) (M : Mem) : Option (Int32 × Mem) :=
    bnd (pL_set s1 s0 M) fun o2 M1 => if ¬ o2 = (1 : Int32) then (chk (decide ((0 : Int32) = 0 ∨ (0 : Int32) = 1)) (some ((0 : Int32), M1)))
    else bnd (pL_draw Z (1000003 : Int32) M1) fun o5 M4 => bnd (pL_seed o5 M4) fun o7 M6 => if ¬ o7 = 0 then (chk (decide ((0 : Int32) = 0 ∨ (0 : Int32) = 1)) (some ((0 : Int32), M6)))
    else chk (decide ((1 : Int32) = 0 ∨ (1 : Int32) = 1)) (some ((1 : Int32), M6))
theorem lL_builds_235 {K : KT} {G : WT} (C : Cx K G "PermitParkLaw" cL_builds 6 (some FieldType.boolean)) (hRm : K.2.2.2.1 = rmX 4 91 0) (Y : Cy0 K) (h0 : W0 G) (s0 : Int32) (s1 : Int32) (M : Mem) (g_0 : G.2.2.2.1 19 0 0) (g_s2 : G.2.2.2.1 0 0 0) : Run K G 6 0 (6 * 0) (FinN K G voI 0) 235 [(0, .ref (G.1 19 0 0))] [.int s0, .int s1, .ref (G.1 0 0 0)] M (pL_builds_235 (scr G)  s0 s1 M) := by
  rw [pL_builds_235]
  refine r_n0hI (pc := 235) C Y (Rx.of hRm rfl rfl rfl rfl) (okL_set h0 Y.1 s1 s0 M g_s2) mw_458 cvL_set rfl rfl (Nat.le_of_ble_eq_true rfl) dL_builds_235 (fun o2 M1 => ?_)
  refine r_iconst (pc := 238) C dL_builds_238 kc_1 ?_
  refine r_icmp_ne (pc := 239) C dL_builds_239 (tgt := 262) rfl ?_ ?_
  refine r_iconst (pc := 262) C dL_builds_262 kc_0 ?_
  refine r_wid (cs' := 0) (sl' := 6 * 0) (Nat.le_of_ble_eq_true rfl) (Nat.le_of_ble_eq_true rfl) (r_nok ?_)
  exact r_zret (pc := 263) C dL_builds_263
  refine r_aload_n (pc := 242) C 0 rfl rfl dL_builds_242 ?_
  refine r_getR (pc := 243) C FL_x mw_273 g_0 rfl dL_builds_243 (fun g3 => ?_)
  refine r_aload_n (pc := 246) C 0 rfl rfl dL_builds_246 ?_
  refine r_ldc (pc := 247) C mw_472 dL_builds_247 ?_
  refine r_wVI (pc := 249) C (Rx.of hRm rfl rfl rfl rfl) (okL_draw h0 (1000003 : Int32) M1 g_0) (Rc.of C rfl rfl g_0) mw_291 cvL_draw rfl rfl (Nat.le_of_ble_eq_true rfl) dL_builds_249 (fun o5 M4 => ?_)
  refine r_n0hI (pc := 252) C Y (Rx.of hRm rfl rfl rfl rfl) (okL_seed h0 Y.1 o5 M4 g_s2) mw_473 cvL_seed rfl rfl (Nat.le_of_ble_eq_true rfl) dL_builds_252 (fun o7 M6 => ?_)
  refine r_if_ne (pc := 255) C dL_builds_255 (tgt := 262) rfl ?_ ?_
  refine r_iconst (pc := 262) C dL_builds_262 kc_0 ?_
  refine r_wid (cs' := 0) (sl' := 6 * 0) (Nat.le_of_ble_eq_true rfl) (Nat.le_of_ble_eq_true rfl) (r_nok ?_)
  exact r_zret (pc := 263) C dL_builds_263
  refine r_iconst (pc := 258) C dL_builds_258 kc_1 ?_
  refine r_goto (pc := 259) C dL_builds_259 (tgt := 263) rfl ?_
  refine r_wid (cs' := 0) (sl' := 6 * 0) (Nat.le_of_ble_eq_true rfl) (Nat.le_of_ble_eq_true rfl) (r_nok ?_)
  exact r_zret (pc := 263) C dL_builds_263
def pL_builds_211 (Z : Nat × (Nat → Int32)) (s0 : Int32) (s1 : Int32) (M : Mem) : Option (Int32 × Mem) :=
    bnd (pL_set s1 s0 M) fun o2 M1 => if ¬ o2 = 0 then (chk (decide ((0 : Int32) = 0 ∨ (0 : Int32) = 1)) (some ((0 : Int32), M1)))
    else bnd (pL_draw Z (3 : Int32) M1) fun o5 M4 => if ¬ o5 = 0 then (pL_builds_235 Z   (1 : Int32) (1 : Int32) M4)
    else pL_builds_235 Z   (0 : Int32) (1 : Int32) M4
theorem lL_builds_211 {K : KT} {G : WT} (C : Cx K G "PermitParkLaw" cL_builds 6 (some FieldType.boolean)) (hRm : K.2.2.2.1 = rmX 4 91 0) (Y : Cy0 K) (h0 : W0 G) (s0 : Int32) (s1 : Int32) (M : Mem) (g_0 : G.2.2.2.1 19 0 0) (g_s2 : G.2.2.2.1 0 0 0) : Run K G 6 0 (6 * 0) (FinN K G voI 0) 211 [(0, .ref (G.1 19 0 0))] [.int s0, .int s1, .ref (G.1 0 0 0)] M (pL_builds_211 (scr G)  s0 s1 M) := by
  rw [pL_builds_211]
  refine r_n0hI (pc := 211) C Y (Rx.of hRm rfl rfl rfl rfl) (okL_set h0 Y.1 s1 s0 M g_s2) mw_458 cvL_set rfl rfl (Nat.le_of_ble_eq_true rfl) dL_builds_211 (fun o2 M1 => ?_)
  refine r_if_ne (pc := 214) C dL_builds_214 (tgt := 262) rfl ?_ ?_
  refine r_iconst (pc := 262) C dL_builds_262 kc_0 ?_
  refine r_wid (cs' := 0) (sl' := 6 * 0) (Nat.le_of_ble_eq_true rfl) (Nat.le_of_ble_eq_true rfl) (r_nok ?_)
  exact r_zret (pc := 263) C dL_builds_263
  refine r_aload_n (pc := 217) C 0 rfl rfl dL_builds_217 ?_
  refine r_getR (pc := 218) C FL_x mw_273 g_0 rfl dL_builds_218 (fun g3 => ?_)
  refine r_iconst (pc := 221) C dL_builds_221 kc_1 ?_
  refine r_aload_n (pc := 222) C 0 rfl rfl dL_builds_222 ?_
  refine r_iconst (pc := 223) C dL_builds_223 kc_3 ?_
  refine r_wVI (pc := 224) C (Rx.of hRm rfl rfl rfl rfl) (okL_draw h0 (3 : Int32) M1 g_0) (Rc.of C rfl rfl g_0) mw_291 cvL_draw rfl rfl (Nat.le_of_ble_eq_true rfl) dL_builds_224 (fun o5 M4 => ?_)
  refine r_if_ne (pc := 227) C dL_builds_227 (tgt := 234) rfl ?_ ?_
  refine r_iconst (pc := 234) C dL_builds_234 kc_1 ?_
  exact lL_builds_235   C hRm Y h0   (1 : Int32) (1 : Int32) M4 g_0 g_s2
  refine r_iconst (pc := 230) C dL_builds_230 kc_0 ?_
  refine r_goto (pc := 231) C dL_builds_231 (tgt := 235) rfl ?_
  exact lL_builds_235   C hRm Y h0   (0 : Int32) (1 : Int32) M4 g_0 g_s2
def pL_builds_11 (Z : Nat × (Nat → Int32)) : Nat → Int32 → Int32 → Mem → Option (Int32 × Mem)
  | 0, _, _, _ => none
  | n + 1, v1, v2, M =>
    if v1 ≤ v2 then (bnd (pL_draw Z (2 : Int32) M) fun o3 M2 => if ¬ o3 = 0 then (bnd (pL_draw Z (80 : Int32) M2) fun o5 M4 => pL_builds_211 Z   o5 (0 : Int32) M4)
    else pL_builds_211 Z   (0 : Int32) (0 : Int32) M2)
    else bnd (pL_draw Z (9 : Int32) M) fun o8 M7 => bnd (pL_draw Z (2 : Int32) M7) fun o10 M9 => if ¬ o10 = 0 then (pL_builds_42 Z (fun v1 v2 M => pL_builds_11 Z  n v1 v2 M)  v1 v2 (0 : Int32) ((1 : Int32) + o8) M9)
    else pL_builds_42 Z (fun v1 v2 M => pL_builds_11 Z  n v1 v2 M)  v1 v2 (9 : Int32) ((1 : Int32) + o8) M9
theorem lL_builds_11 {K : KT} {G : WT} (C : Cx K G "PermitParkLaw" cL_builds 6 (some FieldType.boolean)) (hRm : K.2.2.2.1 = rmX 4 91 0) (Y : Cy0 K) (h0 : W0 G) : ∀ (n : Nat) (v1 : Int32) (v2 : Int32) (M : Mem), G.2.2.2.1 19 0 0 → Run K G 6 0 (6 * 0) (FinN K G voI 0) 11 [(0, .ref (G.1 19 0 0)), (1, .int v1), (2, .int v2)] [] M (pL_builds_11 (scr G)  n v1 v2 M) := by
  intro n
  induction n with
  | zero =>
    intro v1 v2 M g_0
    exact r_none
  | succ n ih =>
    intro v1 v2 M g_0
    rw [pL_builds_11]
    refine r_iload_n (pc := 11) C 2 rfl rfl dL_builds_11 ?_
    refine r_iload_n (pc := 12) C 1 rfl rfl dL_builds_12 ?_
    refine r_icmp_ge (pc := 13) C dL_builds_13 (tgt := 188) rfl ?_ ?_
    refine r_aload_n (pc := 188) C 0 rfl rfl dL_builds_188 ?_
    refine r_getR (pc := 189) C FL_x mw_273 g_0 rfl dL_builds_189 (fun g1 => ?_)
    refine r_iconst (pc := 192) C dL_builds_192 kc_0 ?_
    refine r_aload_n (pc := 193) C 0 rfl rfl dL_builds_193 ?_
    refine r_iconst (pc := 194) C dL_builds_194 kc_2 ?_
    refine r_wVI (pc := 195) C (Rx.of hRm rfl rfl rfl rfl) (okL_draw h0 (2 : Int32) M g_0) (Rc.of C rfl rfl g_0) mw_291 cvL_draw rfl rfl (Nat.le_of_ble_eq_true rfl) dL_builds_195 (fun o3 M2 => ?_)
    refine r_if_ne (pc := 198) C dL_builds_198 (tgt := 205) rfl ?_ ?_
    refine r_aload_n (pc := 205) C 0 rfl rfl dL_builds_205 ?_
    refine r_bipush (pc := 206) C dL_builds_206 kb_80 ?_
    refine r_wVI (pc := 208) C (Rx.of hRm rfl rfl rfl rfl) (okL_draw h0 (80 : Int32) M2 g_0) (Rc.of C rfl rfl g_0) mw_291 cvL_draw rfl rfl (Nat.le_of_ble_eq_true rfl) dL_builds_208 (fun o5 M4 => ?_)
    refine r_sub [0] rfl ?_
    exact lL_builds_211   C hRm Y h0   o5 (0 : Int32) M4 g_0 g1
    refine r_iconst (pc := 201) C dL_builds_201 kc_0 ?_
    refine r_goto (pc := 202) C dL_builds_202 (tgt := 211) rfl ?_
    refine r_sub [0] rfl ?_
    exact lL_builds_211   C hRm Y h0   (0 : Int32) (0 : Int32) M2 g_0 g1
    refine r_aload_n (pc := 16) C 0 rfl rfl dL_builds_16 ?_
    refine r_getR (pc := 17) C FL_x mw_273 g_0 rfl dL_builds_17 (fun g6 => ?_)
    refine r_iconst (pc := 20) C dL_builds_20 kc_1 ?_
    refine r_aload_n (pc := 21) C 0 rfl rfl dL_builds_21 ?_
    refine r_bipush (pc := 22) C dL_builds_22 kb_9 ?_
    refine r_wVI (pc := 24) C (Rx.of hRm rfl rfl rfl rfl) (okL_draw h0 (9 : Int32) M g_0) (Rc.of C rfl rfl g_0) mw_291 cvL_draw rfl rfl (Nat.le_of_ble_eq_true rfl) dL_builds_24 (fun o8 M7 => ?_)
    refine r_iadd (pc := 27) C dL_builds_27 ?_
    refine r_aload_n (pc := 28) C 0 rfl rfl dL_builds_28 ?_
    refine r_iconst (pc := 29) C dL_builds_29 kc_2 ?_
    refine r_wVI (pc := 30) C (Rx.of hRm rfl rfl rfl rfl) (okL_draw h0 (2 : Int32) M7 g_0) (Rc.of C rfl rfl g_0) mw_291 cvL_draw rfl rfl (Nat.le_of_ble_eq_true rfl) dL_builds_30 (fun o10 M9 => ?_)
    refine r_if_ne (pc := 33) C dL_builds_33 (tgt := 41) rfl ?_ ?_
    refine r_iconst (pc := 41) C dL_builds_41 kc_0 ?_
    exact lL_builds_42  (k11 := (fun v1 v2 M => pL_builds_11 (scr G)  n v1 v2 M)) C hRm Y h0 ih  v1 v2 (0 : Int32) ((1 : Int32) + o8) M9 g_0 g6
    refine r_bipush (pc := 36) C dL_builds_36 kb_9 ?_
    refine r_goto (pc := 38) C dL_builds_38 (tgt := 42) rfl ?_
    exact lL_builds_42  (k11 := (fun v1 v2 M => pL_builds_11 (scr G)  n v1 v2 M)) C hRm Y h0 ih  v1 v2 (9 : Int32) ((1 : Int32) + o8) M9 g_0 g6
def pL_builds (Z : Nat × (Nat → Int32)) (M : Mem) : Option (Int32 × Mem) :=
    bnd (pL_draw Z (9 : Int32) M) fun o2 M1 => nm ((2 : Int32) + o2) fun x3 => pL_builds_11 Z  fu x3 (0 : Int32) M1
theorem lL_builds_0 {K : KT} {G : WT} (C : Cx K G "PermitParkLaw" cL_builds 6 (some FieldType.boolean)) (hRm : K.2.2.2.1 = rmX 4 91 0) (Y : Cy0 K) (h0 : W0 G) (M : Mem) (h_0 : G.2.2.2.1 19 0 0) : Run K G 6 0 (6 * 0) (FinN K G voI 0) 0 [(0, .ref (G.1 19 0 0))] [] M (pL_builds (scr G)   M) := by
  rw [pL_builds]
  refine r_iconst (pc := 0) C dL_builds_0 kc_2 ?_
  refine r_aload_n (pc := 1) C 0 rfl rfl dL_builds_1 ?_
  refine r_bipush (pc := 2) C dL_builds_2 kb_9 ?_
  refine r_wVI (pc := 4) C (Rx.of hRm rfl rfl rfl rfl) (okL_draw h0 (9 : Int32) M h_0) (Rc.of C rfl rfl h_0) mw_291 cvL_draw rfl rfl (Nat.le_of_ble_eq_true rfl) dL_builds_4 (fun o2 M1 => ?_)
  refine r_iadd (pc := 7) C dL_builds_7 ?_
  refine r_nmi (fun x3 => ?_)
  refine r_istore_n (pc := 8) C [(1, .int x3), (0, .ref (G.1 19 0 0))] dL_builds_8 rfl (by decide) rfl ?_
  refine r_iconst (pc := 9) C dL_builds_9 kc_0 ?_
  refine r_istore_n (pc := 10) C [(2, .int (0 : Int32)), (1, .int x3), (0, .ref (G.1 19 0 0))] dL_builds_10 rfl (by decide) rfl ?_
  refine r_sub [2, 1, 0] rfl ?_
  exact lL_builds_11   C hRm Y h0  fu x3 (0 : Int32) M1 h_0
theorem okL_builds {l : Launch} {G : WT} (h0 : W0 G) (hT : l.stackTraces = false) (M : Mem) (h_0 : G.2.2.2.1 19 0 0) : OkX l G yL_builds cL_builds 6 (some FieldType.boolean) 4 91 0 [.ref (G.1 19 0 0)] voI M (xok (pL_builds (scr G)   M)) :=
  OkX.of "PermitParkLaw" rfl (by decide) (Nat.le_of_ble_eq_true rfl) (L := [(0, .ref (G.1 19 0 0))]) rfl hT (fun K _ hr Y C => r_ofN (lL_builds_0 C hr Y.1 h0  M h_0))
def pL_statesAreSo_129 (k47 : Int32 → Int32 → Int32 → Int32 → Int32 → Mem → Option (Int32 × Mem)) : Nat → Int32 → Int32 → Int32 → Int32 → Int32 → Int32 → Int32 → Mem → Option (Int32 × Mem)
  | 0, _, _, _, _, _, _, _, _ => none
  | n + 1, v1, v2, v3, v4, v5, v6, v7, M =>
    bnd (pL_lock v5 v7 M) fun o3 M2 => if o3 < 0 then (k47 v1 v2 v3 v4 (v5 + (1 : Int32)) M2)
    else bnd (pL_lock v5 v7 M2) fun o6 M5 => bnd (pL_thread o6 (2 : Int32) M5) fun o9 M8 => if ¬ o9 = (2 : Int32) then (chk (decide ((0 : Int32) = 0 ∨ (0 : Int32) = 1)) (some ((0 : Int32), M8)))
    else bnd (pL_thread o6 (8 : Int32) M8) fun o12 M11 => if ¬ o12 = v5 then (chk (decide ((0 : Int32) = 0 ∨ (0 : Int32) = 1)) (some ((0 : Int32), M11)))
    else bnd (pL_chain o6 (0 : Int32) M11) fun o15 M14 => if o15 = v6 then (bnd (pL_count (1 : Int32) M14) fun o18 M17 => if ¬ o18 = (1 : Int32) then (pL_statesAreSo_129  k47 n v1 v2 v3 (v4 + (1 : Int32)) v5 v6 (v7 + (1 : Int32)) M17)
    else bnd (pL_thread v6 (1 : Int32) M17) fun o21 M20 => bnd (pL_thread o6 (1 : Int32) M20) fun o24 M23 => if o24 ≤ o21 then (pL_statesAreSo_129  k47 n v1 v2 v3 (v4 + (1 : Int32)) v5 v6 (v7 + (1 : Int32)) M23)
    else chk (decide ((0 : Int32) = 0 ∨ (0 : Int32) = 1)) (some ((0 : Int32), M23)))
    else chk (decide ((0 : Int32) = 0 ∨ (0 : Int32) = 1)) (some ((0 : Int32), M14))
theorem lL_statesAreSo_129 {K : KT} {G : WT} {k47 : Int32 → Int32 → Int32 → Int32 → Int32 → Mem → Option (Int32 × Mem)} (C : Cx K G "PermitParkLaw" cL_statesAreSo 10 (some FieldType.boolean)) (hRm : K.2.2.2.1 = rmX 4 92 0) (Y : Cy0 K) (h0 : W0 G)
    (hk47 : ∀ (v1 : Int32) (v2 : Int32) (v3 : Int32) (v4 : Int32) (v5 : Int32) (M : Mem), G.2.2.2.1 19 0 0 → Run K G 10 0 (6 * 0) (FinN K G voI 0) 47 [(0, .ref (G.1 19 0 0)), (1, .int v1), (2, .int v2), (3, .int v3), (4, .int v4), (5, .int v5)] [] M (k47 v1 v2 v3 v4 v5 M)) : ∀ (n : Nat) (v1 : Int32) (v2 : Int32) (v3 : Int32) (v4 : Int32) (v5 : Int32) (v6 : Int32) (v7 : Int32) (M : Mem), G.2.2.2.1 19 0 0 → Run K G 10 0 (6 * 0) (FinN K G voI 0) 129 [(0, .ref (G.1 19 0 0)), (1, .int v1), (2, .int v2), (3, .int v3), (4, .int v4), (5, .int v5), (6, .int v6), (7, .int v7)] [] M (pL_statesAreSo_129  k47 n v1 v2 v3 v4 v5 v6 v7 M) := by
  intro n
  induction n with
  | zero =>
    intro v1 v2 v3 v4 v5 v6 v7 M g_0
    exact r_none
  | succ n ih =>
    intro v1 v2 v3 v4 v5 v6 v7 M g_0
    rw [pL_statesAreSo_129]
    refine r_aload_n (pc := 129) C 0 rfl rfl dL_statesAreSo_129 ?_
    refine r_getR (pc := 130) C FL_x mw_273 g_0 rfl dL_statesAreSo_130 (fun g1 => ?_)
    refine r_iload (pc := 133) C 5 rfl dL_statesAreSo_133 ?_
    refine r_iload (pc := 135) C 7 rfl dL_statesAreSo_135 ?_
    refine r_n0hI (pc := 137) C Y (Rx.of hRm rfl rfl rfl rfl) (okL_lock h0 Y.1 v5 v7 M g1) mw_763 cvL_lock rfl rfl (Nat.le_of_ble_eq_true rfl) dL_statesAreSo_137 (fun o3 M2 => ?_)
    refine r_if_lt (pc := 140) C dL_statesAreSo_140 (tgt := 249) rfl ?_ ?_
    refine r_iinc (pc := 249) C [(5, .int (v5 + (1 : Int32))), (0, .ref (G.1 19 0 0)), (1, .int v1), (2, .int v2), (3, .int v3), (4, .int v4), (6, .int v6), (7, .int v7)] dL_statesAreSo_249 (p := 5) rfl (ki_1 _) (by decide) rfl ?_
    refine r_goto (pc := 252) C dL_statesAreSo_252 (tgt := 47) rfl ?_
    refine r_sub [1, 2, 3, 4, 5, 0] rfl ?_
    exact hk47 v1 v2 v3 v4 (v5 + (1 : Int32)) M2 g_0
    refine r_aload_n (pc := 143) C 0 rfl rfl dL_statesAreSo_143 ?_
    refine r_getR (pc := 144) C FL_x mw_273 g_0 rfl dL_statesAreSo_144 (fun g4 => ?_)
    refine r_iload (pc := 147) C 5 rfl dL_statesAreSo_147 ?_
    refine r_iload (pc := 149) C 7 rfl dL_statesAreSo_149 ?_
    refine r_n0hI (pc := 151) C Y (Rx.of hRm rfl rfl rfl rfl) (okL_lock h0 Y.1 v5 v7 M2 g1) mw_763 cvL_lock rfl rfl (Nat.le_of_ble_eq_true rfl) dL_statesAreSo_151 (fun o6 M5 => ?_)
    refine r_istore (pc := 154) C [(8, .int o6), (0, .ref (G.1 19 0 0)), (1, .int v1), (2, .int v2), (3, .int v3), (4, .int v4), (5, .int v5), (6, .int v6), (7, .int v7)] dL_statesAreSo_154 (by decide) rfl ?_
    refine r_iinc (pc := 156) C [(4, .int (v4 + (1 : Int32))), (8, .int o6), (0, .ref (G.1 19 0 0)), (1, .int v1), (2, .int v2), (3, .int v3), (5, .int v5), (6, .int v6), (7, .int v7)] dL_statesAreSo_156 (p := 5) rfl (ki_1 _) (by decide) rfl ?_
    refine r_aload_n (pc := 159) C 2 rfl rfl dL_statesAreSo_159 ?_
    refine r_getR (pc := 160) C FL_x mw_273 g_0 rfl dL_statesAreSo_160 (fun g7 => ?_)
    refine r_iload (pc := 163) C 1 rfl dL_statesAreSo_163 ?_
    refine r_iconst (pc := 165) C dL_statesAreSo_165 kc_2 ?_
    refine r_n0hI (pc := 166) C Y (Rx.of hRm rfl rfl rfl rfl) (okL_thread h0 Y.1 o6 (2 : Int32) M5 g1) mw_657 cvL_thread rfl rfl (Nat.le_of_ble_eq_true rfl) dL_statesAreSo_166 (fun o9 M8 => ?_)
    refine r_iconst (pc := 169) C dL_statesAreSo_169 kc_2 ?_
    refine r_icmp_ne (pc := 170) C dL_statesAreSo_170 (tgt := 204) rfl ?_ ?_
    refine r_iconst (pc := 204) C dL_statesAreSo_204 kc_0 ?_
    refine r_wid (cs' := 0) (sl' := 6 * 0) (Nat.le_of_ble_eq_true rfl) (Nat.le_of_ble_eq_true rfl) (r_nok ?_)
    exact r_zret (pc := 205) C dL_statesAreSo_205
    refine r_aload_n (pc := 173) C 2 rfl rfl dL_statesAreSo_173 ?_
    refine r_getR (pc := 174) C FL_x mw_273 g_0 rfl dL_statesAreSo_174 (fun g10 => ?_)
    refine r_iload (pc := 177) C 1 rfl dL_statesAreSo_177 ?_
    refine r_bipush (pc := 179) C dL_statesAreSo_179 kb_8 ?_
    refine r_n0hI (pc := 181) C Y (Rx.of hRm rfl rfl rfl rfl) (okL_thread h0 Y.1 o6 (8 : Int32) M8 g1) mw_657 cvL_thread rfl rfl (Nat.le_of_ble_eq_true rfl) dL_statesAreSo_181 (fun o12 M11 => ?_)
    refine r_iload (pc := 184) C 6 rfl dL_statesAreSo_184 ?_
    refine r_icmp_ne (pc := 186) C dL_statesAreSo_186 (tgt := 204) rfl ?_ ?_
    refine r_iconst (pc := 204) C dL_statesAreSo_204 kc_0 ?_
    refine r_wid (cs' := 0) (sl' := 6 * 0) (Nat.le_of_ble_eq_true rfl) (Nat.le_of_ble_eq_true rfl) (r_nok ?_)
    exact r_zret (pc := 205) C dL_statesAreSo_205
    refine r_aload_n (pc := 189) C 2 rfl rfl dL_statesAreSo_189 ?_
    refine r_getR (pc := 190) C FL_x mw_273 g_0 rfl dL_statesAreSo_190 (fun g13 => ?_)
    refine r_iload (pc := 193) C 1 rfl dL_statesAreSo_193 ?_
    refine r_iconst (pc := 195) C dL_statesAreSo_195 kc_0 ?_
    refine r_n0hI (pc := 196) C Y (Rx.of hRm rfl rfl rfl rfl) (okL_chain h0 Y.1 o6 (0 : Int32) M11 g1) mw_775 cvL_chain rfl rfl (Nat.le_of_ble_eq_true rfl) dL_statesAreSo_196 (fun o15 M14 => ?_)
    refine r_iload (pc := 199) C 7 rfl dL_statesAreSo_199 ?_
    refine r_icmp_eq (pc := 201) C dL_statesAreSo_201 (tgt := 206) rfl ?_ ?_
    refine r_aload_n (pc := 206) C 2 rfl rfl dL_statesAreSo_206 ?_
    refine r_getR (pc := 207) C FL_x mw_273 g_0 rfl dL_statesAreSo_207 (fun g16 => ?_)
    refine r_iconst (pc := 210) C dL_statesAreSo_210 kc_1 ?_
    refine r_n0hI (pc := 211) C Y (Rx.of hRm rfl rfl rfl rfl) (okL_count h0 Y.1 (1 : Int32) M14 g1) mw_638 cvL_count rfl rfl (Nat.le_of_ble_eq_true rfl) dL_statesAreSo_211 (fun o18 M17 => ?_)
    refine r_iconst (pc := 214) C dL_statesAreSo_214 kc_1 ?_
    refine r_icmp_ne (pc := 215) C dL_statesAreSo_215 (tgt := 243) rfl ?_ ?_
    refine r_iinc (pc := 243) C [(7, .int (v7 + (1 : Int32))), (4, .int (v4 + (1 : Int32))), (8, .int o6), (0, .ref (G.1 19 0 0)), (1, .int v1), (2, .int v2), (3, .int v3), (5, .int v5), (6, .int v6)] dL_statesAreSo_243 (p := 8) rfl (ki_1 _) (by decide) rfl ?_
    refine r_goto (pc := 246) C dL_statesAreSo_246 (tgt := 129) rfl ?_
    refine r_sub [3, 4, 5, 6, 1, 7, 8, 0] rfl ?_
    exact ih v1 v2 v3 (v4 + (1 : Int32)) v5 v6 (v7 + (1 : Int32)) M17 g_0
    refine r_aload_n (pc := 218) C 2 rfl rfl dL_statesAreSo_218 ?_
    refine r_getR (pc := 219) C FL_x mw_273 g_0 rfl dL_statesAreSo_219 (fun g19 => ?_)
    refine r_iload (pc := 222) C 7 rfl dL_statesAreSo_222 ?_
    refine r_iconst (pc := 224) C dL_statesAreSo_224 kc_1 ?_
    refine r_n0hI (pc := 225) C Y (Rx.of hRm rfl rfl rfl rfl) (okL_thread h0 Y.1 v6 (1 : Int32) M17 g1) mw_657 cvL_thread rfl rfl (Nat.le_of_ble_eq_true rfl) dL_statesAreSo_225 (fun o21 M20 => ?_)
    refine r_aload_n (pc := 228) C 2 rfl rfl dL_statesAreSo_228 ?_
    refine r_getR (pc := 229) C FL_x mw_273 g_0 rfl dL_statesAreSo_229 (fun g22 => ?_)
    refine r_iload (pc := 232) C 1 rfl dL_statesAreSo_232 ?_
    refine r_iconst (pc := 234) C dL_statesAreSo_234 kc_1 ?_
    refine r_n0hI (pc := 235) C Y (Rx.of hRm rfl rfl rfl rfl) (okL_thread h0 Y.1 o6 (1 : Int32) M20 g1) mw_657 cvL_thread rfl rfl (Nat.le_of_ble_eq_true rfl) dL_statesAreSo_235 (fun o24 M23 => ?_)
    refine r_icmp_ge (pc := 238) C dL_statesAreSo_238 (tgt := 243) rfl ?_ ?_
    refine r_iinc (pc := 243) C [(7, .int (v7 + (1 : Int32))), (4, .int (v4 + (1 : Int32))), (8, .int o6), (0, .ref (G.1 19 0 0)), (1, .int v1), (2, .int v2), (3, .int v3), (5, .int v5), (6, .int v6)] dL_statesAreSo_243 (p := 8) rfl (ki_1 _) (by decide) rfl ?_
    refine r_goto (pc := 246) C dL_statesAreSo_246 (tgt := 129) rfl ?_
    refine r_sub [3, 4, 5, 6, 1, 7, 8, 0] rfl ?_
    exact ih v1 v2 v3 (v4 + (1 : Int32)) v5 v6 (v7 + (1 : Int32)) M23 g_0
    refine r_iconst (pc := 241) C dL_statesAreSo_241 kc_0 ?_
    refine r_wid (cs' := 0) (sl' := 6 * 0) (Nat.le_of_ble_eq_true rfl) (Nat.le_of_ble_eq_true rfl) (r_nok ?_)
    exact r_zret (pc := 242) C dL_statesAreSo_242
    refine r_iconst (pc := 204) C dL_statesAreSo_204 kc_0 ?_
    refine r_wid (cs' := 0) (sl' := 6 * 0) (Nat.le_of_ble_eq_true rfl) (Nat.le_of_ble_eq_true rfl) (r_nok ?_)
    exact r_zret (pc := 205) C dL_statesAreSo_205
def pL_statesAreSo_106 (k47 : Int32 → Int32 → Int32 → Int32 → Int32 → Mem → Option (Int32 × Mem)) (v1 : Int32) (v2 : Int32) (v3 : Int32) (v4 : Int32) (v5 : Int32) (v6 : Int32) (M : Mem) : Option (Int32 × Mem) :=
    if 0 ≤ v6 then (pL_statesAreSo_129  k47 fu v1 v2 v3 v4 v5 v6 (1 : Int32) M)
    else bnd (pL_lock v5 (1 : Int32) M) fun o3 M2 => if o3 < 0 then (pL_statesAreSo_129  k47 fu v1 v2 v3 v4 v5 v6 (1 : Int32) M2)
    else chk (decide ((0 : Int32) = 0 ∨ (0 : Int32) = 1)) (some ((0 : Int32), M2))
theorem lL_statesAreSo_106 {K : KT} {G : WT} {k47 : Int32 → Int32 → Int32 → Int32 → Int32 → Mem → Option (Int32 × Mem)} (C : Cx K G "PermitParkLaw" cL_statesAreSo 10 (some FieldType.boolean)) (hRm : K.2.2.2.1 = rmX 4 92 0) (Y : Cy0 K) (h0 : W0 G)
    (hk47 : ∀ (v1 : Int32) (v2 : Int32) (v3 : Int32) (v4 : Int32) (v5 : Int32) (M : Mem), G.2.2.2.1 19 0 0 → Run K G 10 0 (6 * 0) (FinN K G voI 0) 47 [(0, .ref (G.1 19 0 0)), (1, .int v1), (2, .int v2), (3, .int v3), (4, .int v4), (5, .int v5)] [] M (k47 v1 v2 v3 v4 v5 M)) (v1 : Int32) (v2 : Int32) (v3 : Int32) (v4 : Int32) (v5 : Int32) (v6 : Int32) (M : Mem) (g_0 : G.2.2.2.1 19 0 0) : Run K G 10 0 (6 * 0) (FinN K G voI 0) 106 [(0, .ref (G.1 19 0 0)), (1, .int v1), (2, .int v2), (3, .int v3), (4, .int v4), (5, .int v5), (6, .int v6)] [] M (pL_statesAreSo_106  k47 v1 v2 v3 v4 v5 v6 M) := by
  rw [pL_statesAreSo_106]
  refine r_iload (pc := 106) C 6 rfl dL_statesAreSo_106 ?_
  refine r_if_ge (pc := 108) C dL_statesAreSo_108 (tgt := 126) rfl ?_ ?_
  refine r_iconst (pc := 126) C dL_statesAreSo_126 kc_1 ?_
  refine r_istore (pc := 127) C [(7, .int (1 : Int32)), (0, .ref (G.1 19 0 0)), (1, .int v1), (2, .int v2), (3, .int v3), (4, .int v4), (5, .int v5), (6, .int v6)] dL_statesAreSo_127 (by decide) rfl ?_
  refine r_sub [1, 2, 3, 4, 5, 6, 7, 0] rfl ?_
  exact lL_statesAreSo_129  (k47 := k47) C hRm Y h0 hk47 fu v1 v2 v3 v4 v5 v6 (1 : Int32) M g_0
  refine r_aload_n (pc := 111) C 0 rfl rfl dL_statesAreSo_111 ?_
  refine r_getR (pc := 112) C FL_x mw_273 g_0 rfl dL_statesAreSo_112 (fun g1 => ?_)
  refine r_iload (pc := 115) C 5 rfl dL_statesAreSo_115 ?_
  refine r_iconst (pc := 117) C dL_statesAreSo_117 kc_1 ?_
  refine r_n0hI (pc := 118) C Y (Rx.of hRm rfl rfl rfl rfl) (okL_lock h0 Y.1 v5 (1 : Int32) M g1) mw_763 cvL_lock rfl rfl (Nat.le_of_ble_eq_true rfl) dL_statesAreSo_118 (fun o3 M2 => ?_)
  refine r_if_lt (pc := 121) C dL_statesAreSo_121 (tgt := 126) rfl ?_ ?_
  refine r_iconst (pc := 126) C dL_statesAreSo_126 kc_1 ?_
  refine r_istore (pc := 127) C [(7, .int (1 : Int32)), (0, .ref (G.1 19 0 0)), (1, .int v1), (2, .int v2), (3, .int v3), (4, .int v4), (5, .int v5), (6, .int v6)] dL_statesAreSo_127 (by decide) rfl ?_
  refine r_sub [1, 2, 3, 4, 5, 6, 7, 0] rfl ?_
  exact lL_statesAreSo_129  (k47 := k47) C hRm Y h0 hk47 fu v1 v2 v3 v4 v5 v6 (1 : Int32) M2 g_0
  refine r_iconst (pc := 124) C dL_statesAreSo_124 kc_0 ?_
  refine r_wid (cs' := 0) (sl' := 6 * 0) (Nat.le_of_ble_eq_true rfl) (Nat.le_of_ble_eq_true rfl) (r_nok ?_)
  exact r_zret (pc := 125) C dL_statesAreSo_125
def pL_statesAreSo_80 (k47 : Int32 → Int32 → Int32 → Int32 → Int32 → Mem → Option (Int32 × Mem)) (v1 : Int32) (v2 : Int32) (v4 : Int32) (v5 : Int32) (v6 : Int32) (s0 : Int32) (s1 : Int32) (M : Mem) : Option (Int32 × Mem) :=
    nm (s1 ||| s0) fun x1 => if v6 < 0 then (pL_statesAreSo_106  k47  v1 v2 x1 v4 v5 v6 M)
    else bnd (pL_thread v6 (9 : Int32) M) fun o4 M3 => if ((o4 >>> (v5 &&& 31)) &&& (1 : Int32)) = 0 then (chk (decide ((0 : Int32) = 0 ∨ (0 : Int32) = 1)) (some ((0 : Int32), M3)))
    else pL_statesAreSo_106  k47  v1 v2 x1 v4 v5 v6 M3
theorem lL_statesAreSo_80 {K : KT} {G : WT} {k47 : Int32 → Int32 → Int32 → Int32 → Int32 → Mem → Option (Int32 × Mem)} (C : Cx K G "PermitParkLaw" cL_statesAreSo 10 (some FieldType.boolean)) (hRm : K.2.2.2.1 = rmX 4 92 0) (Y : Cy0 K) (h0 : W0 G)
    (hk47 : ∀ (v1 : Int32) (v2 : Int32) (v3 : Int32) (v4 : Int32) (v5 : Int32) (M : Mem), G.2.2.2.1 19 0 0 → Run K G 10 0 (6 * 0) (FinN K G voI 0) 47 [(0, .ref (G.1 19 0 0)), (1, .int v1), (2, .int v2), (3, .int v3), (4, .int v4), (5, .int v5)] [] M (k47 v1 v2 v3 v4 v5 M)) (v1 : Int32) (v2 : Int32) (v4 : Int32) (v5 : Int32) (v6 : Int32) (s0 : Int32) (s1 : Int32) (M : Mem) (g_0 : G.2.2.2.1 19 0 0) : Run K G 10 0 (6 * 0) (FinN K G voI 0) 80 [(0, .ref (G.1 19 0 0)), (1, .int v1), (2, .int v2), (4, .int v4), (5, .int v5), (6, .int v6)] [.int s0, .int s1] M (pL_statesAreSo_80  k47 v1 v2 v4 v5 v6 s0 s1 M) := by
  rw [pL_statesAreSo_80]
  refine r_ior (pc := 80) C dL_statesAreSo_80 ?_
  refine r_nmi (fun x1 => ?_)
  refine r_istore_n (pc := 81) C [(3, .int x1), (0, .ref (G.1 19 0 0)), (1, .int v1), (2, .int v2), (4, .int v4), (5, .int v5), (6, .int v6)] dL_statesAreSo_81 rfl (by decide) rfl ?_
  refine r_iload (pc := 82) C 6 rfl dL_statesAreSo_82 ?_
  refine r_if_lt (pc := 84) C dL_statesAreSo_84 (tgt := 106) rfl ?_ ?_
  refine r_sub [1, 2, 3, 0, 4, 5, 6] rfl ?_
  exact lL_statesAreSo_106  (k47 := k47) C hRm Y h0 hk47  v1 v2 x1 v4 v5 v6 M g_0
  refine r_aload_n (pc := 87) C 1 rfl rfl dL_statesAreSo_87 ?_
  refine r_getR (pc := 88) C FL_x mw_273 g_0 rfl dL_statesAreSo_88 (fun g2 => ?_)
  refine r_iload (pc := 91) C 6 rfl dL_statesAreSo_91 ?_
  refine r_bipush (pc := 93) C dL_statesAreSo_93 kb_9 ?_
  refine r_n0hI (pc := 95) C Y (Rx.of hRm rfl rfl rfl rfl) (okL_thread h0 Y.1 v6 (9 : Int32) M g2) mw_657 cvL_thread rfl rfl (Nat.le_of_ble_eq_true rfl) dL_statesAreSo_95 (fun o4 M3 => ?_)
  refine r_iload (pc := 98) C 5 rfl dL_statesAreSo_98 ?_
  refine r_ishr (pc := 100) C dL_statesAreSo_100 ?_
  refine r_iconst (pc := 101) C dL_statesAreSo_101 kc_1 ?_
  refine r_iand (pc := 102) C dL_statesAreSo_102 ?_
  refine r_if_eq (pc := 103) C dL_statesAreSo_103 (tgt := 124) rfl ?_ ?_
  refine r_iconst (pc := 124) C dL_statesAreSo_124 kc_0 ?_
  refine r_wid (cs' := 0) (sl' := 6 * 0) (Nat.le_of_ble_eq_true rfl) (Nat.le_of_ble_eq_true rfl) (r_nok ?_)
  exact r_zret (pc := 125) C dL_statesAreSo_125
  refine r_sub [1, 2, 3, 0, 4, 5, 6] rfl ?_
  exact lL_statesAreSo_106  (k47 := k47) C hRm Y h0 hk47  v1 v2 x1 v4 v5 v6 M3 g_0
def pL_statesAreSo_628 (k258 : Int32 → Int32 → Int32 → Int32 → Int32 → Mem → Option (Int32 × Mem)) (v1 : Int32) (v2 : Int32) (v3 : Int32) (v4 : Int32) (v5 : Int32) (v6 : Int32) (s0 : Int32) (s1 : Int32) (M : Mem) : Option (Int32 × Mem) :=
    if s1 = s0 then (bnd (pX7_stuck M) fun o3 M2 => if ¬ ((o3 >>> (v5 &&& 31)) &&& (1 : Int32)) = (1 : Int32) then (k258 v1 v2 v3 v4 (v5 + (1 : Int32)) M2)
    else if (2 : Int32) ≤ v6 then (k258 v1 v2 v3 v4 (v5 + (1 : Int32)) M2)
    else chk (decide ((0 : Int32) = 0 ∨ (0 : Int32) = 1)) (some ((0 : Int32), M2)))
    else chk (decide ((0 : Int32) = 0 ∨ (0 : Int32) = 1)) (some ((0 : Int32), M))
theorem lL_statesAreSo_628 {K : KT} {G : WT} {k258 : Int32 → Int32 → Int32 → Int32 → Int32 → Mem → Option (Int32 × Mem)} (C : Cx K G "PermitParkLaw" cL_statesAreSo 10 (some FieldType.boolean)) (hRm : K.2.2.2.1 = rmX 4 92 0) (Y : Cy0 K) (h0 : W0 G)
    (hk258 : ∀ (v1 : Int32) (v2 : Int32) (v3 : Int32) (v4 : Int32) (v5 : Int32) (M : Mem), G.2.2.2.1 19 0 0 → Run K G 10 0 (6 * 0) (FinN K G voI 0) 258 [(0, .ref (G.1 19 0 0)), (1, .int v1), (2, .int v2), (3, .int v3), (4, .int v4), (5, .int v5)] [] M (k258 v1 v2 v3 v4 v5 M)) (v1 : Int32) (v2 : Int32) (v3 : Int32) (v4 : Int32) (v5 : Int32) (v6 : Int32) (s0 : Int32) (s1 : Int32) (M : Mem) (g_0 : G.2.2.2.1 19 0 0) : Run K G 10 0 (6 * 0) (FinN K G voI 0) 628 [(0, .ref (G.1 19 0 0)), (1, .int v1), (2, .int v2), (3, .int v3), (4, .int v4), (5, .int v5), (6, .int v6)] [.int s0, .int s1] M (pL_statesAreSo_628  k258 v1 v2 v3 v4 v5 v6 s0 s1 M) := by
  rw [pL_statesAreSo_628]
  refine r_icmp_eq (pc := 628) C dL_statesAreSo_628 (tgt := 633) rfl ?_ ?_
  refine r_aload_n (pc := 633) C 0 rfl rfl dL_statesAreSo_633 ?_
  refine r_getR (pc := 634) C FL_x mw_273 g_0 rfl dL_statesAreSo_634 (fun g1 => ?_)
  refine r_wVI (pc := 637) C (Rx.of hRm rfl rfl rfl rfl) (okX7_stuck h0 M g1) (Rc.of C rfl rfl g1) mw_794 cvX7_stuck rfl rfl (Nat.le_of_ble_eq_true rfl) dL_statesAreSo_637 (fun o3 M2 => ?_)
  refine r_iload (pc := 640) C 5 rfl dL_statesAreSo_640 ?_
  refine r_ishr (pc := 642) C dL_statesAreSo_642 ?_
  refine r_iconst (pc := 643) C dL_statesAreSo_643 kc_1 ?_
  refine r_iand (pc := 644) C dL_statesAreSo_644 ?_
  refine r_iconst (pc := 645) C dL_statesAreSo_645 kc_1 ?_
  refine r_icmp_ne (pc := 646) C dL_statesAreSo_646 (tgt := 657) rfl ?_ ?_
  refine r_iinc (pc := 657) C [(5, .int (v5 + (1 : Int32))), (0, .ref (G.1 19 0 0)), (1, .int v1), (2, .int v2), (3, .int v3), (4, .int v4), (6, .int v6)] dL_statesAreSo_657 (p := 5) rfl (ki_1 _) (by decide) rfl ?_
  refine r_goto (pc := 660) C dL_statesAreSo_660 (tgt := 258) rfl ?_
  refine r_sub [1, 2, 3, 4, 5, 0] rfl ?_
  exact hk258 v1 v2 v3 v4 (v5 + (1 : Int32)) M2 g_0
  refine r_iload (pc := 649) C 6 rfl dL_statesAreSo_649 ?_
  refine r_iconst (pc := 651) C dL_statesAreSo_651 kc_2 ?_
  refine r_icmp_ge (pc := 652) C dL_statesAreSo_652 (tgt := 657) rfl ?_ ?_
  refine r_iinc (pc := 657) C [(5, .int (v5 + (1 : Int32))), (0, .ref (G.1 19 0 0)), (1, .int v1), (2, .int v2), (3, .int v3), (4, .int v4), (6, .int v6)] dL_statesAreSo_657 (p := 5) rfl (ki_1 _) (by decide) rfl ?_
  refine r_goto (pc := 660) C dL_statesAreSo_660 (tgt := 258) rfl ?_
  refine r_sub [1, 2, 3, 4, 5, 0] rfl ?_
  exact hk258 v1 v2 v3 v4 (v5 + (1 : Int32)) M2 g_0
  refine r_iconst (pc := 655) C dL_statesAreSo_655 kc_0 ?_
  refine r_wid (cs' := 0) (sl' := 6 * 0) (Nat.le_of_ble_eq_true rfl) (Nat.le_of_ble_eq_true rfl) (r_nok ?_)
  exact r_zret (pc := 656) C dL_statesAreSo_656
  refine r_iconst (pc := 631) C dL_statesAreSo_631 kc_0 ?_
  refine r_wid (cs' := 0) (sl' := 6 * 0) (Nat.le_of_ble_eq_true rfl) (Nat.le_of_ble_eq_true rfl) (r_nok ?_)
  exact r_zret (pc := 632) C dL_statesAreSo_632
def pL_statesAreSo_609 (k258 : Int32 → Int32 → Int32 → Int32 → Int32 → Mem → Option (Int32 × Mem)) (v1 : Int32) (v2 : Int32) (v3 : Int32) (v4 : Int32) (v5 : Int32) (v6 : Int32) (s0 : Int32) (M : Mem) : Option (Int32 × Mem) :=
    bnd (pL_thread v5 (11 : Int32) M) fun o3 M2 => if 0 ≤ o3 then (pL_statesAreSo_628  k258  v1 v2 v3 v4 v5 v6 (0 : Int32) s0 M2)
    else pL_statesAreSo_628  k258  v1 v2 v3 v4 v5 v6 (1 : Int32) s0 M2
theorem lL_statesAreSo_609 {K : KT} {G : WT} {k258 : Int32 → Int32 → Int32 → Int32 → Int32 → Mem → Option (Int32 × Mem)} (C : Cx K G "PermitParkLaw" cL_statesAreSo 10 (some FieldType.boolean)) (hRm : K.2.2.2.1 = rmX 4 92 0) (Y : Cy0 K) (h0 : W0 G)
    (hk258 : ∀ (v1 : Int32) (v2 : Int32) (v3 : Int32) (v4 : Int32) (v5 : Int32) (M : Mem), G.2.2.2.1 19 0 0 → Run K G 10 0 (6 * 0) (FinN K G voI 0) 258 [(0, .ref (G.1 19 0 0)), (1, .int v1), (2, .int v2), (3, .int v3), (4, .int v4), (5, .int v5)] [] M (k258 v1 v2 v3 v4 v5 M)) (v1 : Int32) (v2 : Int32) (v3 : Int32) (v4 : Int32) (v5 : Int32) (v6 : Int32) (s0 : Int32) (M : Mem) (g_0 : G.2.2.2.1 19 0 0) : Run K G 10 0 (6 * 0) (FinN K G voI 0) 609 [(0, .ref (G.1 19 0 0)), (1, .int v1), (2, .int v2), (3, .int v3), (4, .int v4), (5, .int v5), (6, .int v6)] [.int s0] M (pL_statesAreSo_609  k258 v1 v2 v3 v4 v5 v6 s0 M) := by
  rw [pL_statesAreSo_609]
  refine r_aload_n (pc := 609) C 0 rfl rfl dL_statesAreSo_609 ?_
  refine r_getR (pc := 610) C FL_x mw_273 g_0 rfl dL_statesAreSo_610 (fun g1 => ?_)
  refine r_iload (pc := 613) C 5 rfl dL_statesAreSo_613 ?_
  refine r_bipush (pc := 615) C dL_statesAreSo_615 kb_11 ?_
  refine r_n0hI (pc := 617) C Y (Rx.of hRm rfl rfl rfl rfl) (okL_thread h0 Y.1 v5 (11 : Int32) M g1) mw_657 cvL_thread rfl rfl (Nat.le_of_ble_eq_true rfl) dL_statesAreSo_617 (fun o3 M2 => ?_)
  refine r_if_ge (pc := 620) C dL_statesAreSo_620 (tgt := 627) rfl ?_ ?_
  refine r_iconst (pc := 627) C dL_statesAreSo_627 kc_0 ?_
  exact lL_statesAreSo_628  (k258 := k258) C hRm Y h0 hk258  v1 v2 v3 v4 v5 v6 (0 : Int32) s0 M2 g_0
  refine r_iconst (pc := 623) C dL_statesAreSo_623 kc_1 ?_
  refine r_goto (pc := 624) C dL_statesAreSo_624 (tgt := 628) rfl ?_
  exact lL_statesAreSo_628  (k258 := k258) C hRm Y h0 hk258  v1 v2 v3 v4 v5 v6 (1 : Int32) s0 M2 g_0
def pL_statesAreSo_564 (k258 : Int32 → Int32 → Int32 → Int32 → Int32 → Mem → Option (Int32 × Mem)) (v1 : Int32) (v2 : Int32) (v3 : Int32) (v4 : Int32) (v5 : Int32) (v6 : Int32) (s0 : Int32) (s1 : Int32) (s2 : Int32) (M : Mem) : Option (Int32 × Mem) :=
    if ¬ s2 = (s1 + s0) then (chk (decide ((0 : Int32) = 0 ∨ (0 : Int32) = 1)) (some ((0 : Int32), M)))
    else bnd (pL_thread v5 (11 : Int32) M) fun o3 M2 => bnd (pL_count (3 : Int32) M2) fun o6 M5 => if o6 ≤ o3 then (chk (decide ((0 : Int32) = 0 ∨ (0 : Int32) = 1)) (some ((0 : Int32), M5)))
    else bnd (pL_thread v5 (10 : Int32) M5) fun o9 M8 => if ¬ o9 = 0 then (pL_statesAreSo_609  k258  v1 v2 v3 v4 v5 v6 (0 : Int32) M8)
    else pL_statesAreSo_609  k258  v1 v2 v3 v4 v5 v6 (1 : Int32) M8
theorem lL_statesAreSo_564 {K : KT} {G : WT} {k258 : Int32 → Int32 → Int32 → Int32 → Int32 → Mem → Option (Int32 × Mem)} (C : Cx K G "PermitParkLaw" cL_statesAreSo 10 (some FieldType.boolean)) (hRm : K.2.2.2.1 = rmX 4 92 0) (Y : Cy0 K) (h0 : W0 G)
    (hk258 : ∀ (v1 : Int32) (v2 : Int32) (v3 : Int32) (v4 : Int32) (v5 : Int32) (M : Mem), G.2.2.2.1 19 0 0 → Run K G 10 0 (6 * 0) (FinN K G voI 0) 258 [(0, .ref (G.1 19 0 0)), (1, .int v1), (2, .int v2), (3, .int v3), (4, .int v4), (5, .int v5)] [] M (k258 v1 v2 v3 v4 v5 M)) (v1 : Int32) (v2 : Int32) (v3 : Int32) (v4 : Int32) (v5 : Int32) (v6 : Int32) (s0 : Int32) (s1 : Int32) (s2 : Int32) (M : Mem) (g_0 : G.2.2.2.1 19 0 0) : Run K G 10 0 (6 * 0) (FinN K G voI 0) 564 [(0, .ref (G.1 19 0 0)), (1, .int v1), (2, .int v2), (3, .int v3), (4, .int v4), (5, .int v5), (6, .int v6)] [.int s0, .int s1, .int s2] M (pL_statesAreSo_564  k258 v1 v2 v3 v4 v5 v6 s0 s1 s2 M) := by
  rw [pL_statesAreSo_564]
  refine r_iadd (pc := 564) C dL_statesAreSo_564 ?_
  refine r_icmp_ne (pc := 565) C dL_statesAreSo_565 (tgt := 631) rfl ?_ ?_
  refine r_iconst (pc := 631) C dL_statesAreSo_631 kc_0 ?_
  refine r_wid (cs' := 0) (sl' := 6 * 0) (Nat.le_of_ble_eq_true rfl) (Nat.le_of_ble_eq_true rfl) (r_nok ?_)
  exact r_zret (pc := 632) C dL_statesAreSo_632
  refine r_aload_n (pc := 568) C 0 rfl rfl dL_statesAreSo_568 ?_
  refine r_getR (pc := 569) C FL_x mw_273 g_0 rfl dL_statesAreSo_569 (fun g1 => ?_)
  refine r_iload (pc := 572) C 5 rfl dL_statesAreSo_572 ?_
  refine r_bipush (pc := 574) C dL_statesAreSo_574 kb_11 ?_
  refine r_n0hI (pc := 576) C Y (Rx.of hRm rfl rfl rfl rfl) (okL_thread h0 Y.1 v5 (11 : Int32) M g1) mw_657 cvL_thread rfl rfl (Nat.le_of_ble_eq_true rfl) dL_statesAreSo_576 (fun o3 M2 => ?_)
  refine r_aload_n (pc := 579) C 0 rfl rfl dL_statesAreSo_579 ?_
  refine r_getR (pc := 580) C FL_x mw_273 g_0 rfl dL_statesAreSo_580 (fun g4 => ?_)
  refine r_iconst (pc := 583) C dL_statesAreSo_583 kc_3 ?_
  refine r_n0hI (pc := 584) C Y (Rx.of hRm rfl rfl rfl rfl) (okL_count h0 Y.1 (3 : Int32) M2 g1) mw_638 cvL_count rfl rfl (Nat.le_of_ble_eq_true rfl) dL_statesAreSo_584 (fun o6 M5 => ?_)
  refine r_icmp_ge (pc := 587) C dL_statesAreSo_587 (tgt := 631) rfl ?_ ?_
  refine r_iconst (pc := 631) C dL_statesAreSo_631 kc_0 ?_
  refine r_wid (cs' := 0) (sl' := 6 * 0) (Nat.le_of_ble_eq_true rfl) (Nat.le_of_ble_eq_true rfl) (r_nok ?_)
  exact r_zret (pc := 632) C dL_statesAreSo_632
  refine r_aload_n (pc := 590) C 0 rfl rfl dL_statesAreSo_590 ?_
  refine r_getR (pc := 591) C FL_x mw_273 g_0 rfl dL_statesAreSo_591 (fun g7 => ?_)
  refine r_iload (pc := 594) C 5 rfl dL_statesAreSo_594 ?_
  refine r_bipush (pc := 596) C dL_statesAreSo_596 kb_10 ?_
  refine r_n0hI (pc := 598) C Y (Rx.of hRm rfl rfl rfl rfl) (okL_thread h0 Y.1 v5 (10 : Int32) M5 g1) mw_657 cvL_thread rfl rfl (Nat.le_of_ble_eq_true rfl) dL_statesAreSo_598 (fun o9 M8 => ?_)
  refine r_if_ne (pc := 601) C dL_statesAreSo_601 (tgt := 608) rfl ?_ ?_
  refine r_iconst (pc := 608) C dL_statesAreSo_608 kc_0 ?_
  exact lL_statesAreSo_609  (k258 := k258) C hRm Y h0 hk258  v1 v2 v3 v4 v5 v6 (0 : Int32) M8 g_0
  refine r_iconst (pc := 604) C dL_statesAreSo_604 kc_1 ?_
  refine r_goto (pc := 605) C dL_statesAreSo_605 (tgt := 609) rfl ?_
  exact lL_statesAreSo_609  (k258 := k258) C hRm Y h0 hk258  v1 v2 v3 v4 v5 v6 (1 : Int32) M8 g_0
def pL_statesAreSo_491 (k258 : Int32 → Int32 → Int32 → Int32 → Int32 → Mem → Option (Int32 × Mem)) (v1 : Int32) (v2 : Int32) (v3 : Int32) (v4 : Int32) (v5 : Int32) (v6 : Int32) (M : Mem) : Option (Int32 × Mem) :=
    bnd (pL_thread v5 (13 : Int32) M) fun o3 M2 => bnd (pL_thread v5 (14 : Int32) M2) fun o6 M5 => bnd (pL_thread v5 (15 : Int32) M5) fun o9 M8 => bnd (pL_thread v5 (16 : Int32) M8) fun o12 M11 => nm (((o3 + o6) + o9) + o12) fun x13 => bnd (pL_thread v5 (12 : Int32) M11) fun o16 M15 => if ¬ v6 = (1 : Int32) then (pL_statesAreSo_564  k258  v1 v2 v3 v4 v5 v6 (0 : Int32) x13 o16 M15)
    else pL_statesAreSo_564  k258  v1 v2 v3 v4 v5 v6 (1 : Int32) x13 o16 M15
theorem lL_statesAreSo_491 {K : KT} {G : WT} {k258 : Int32 → Int32 → Int32 → Int32 → Int32 → Mem → Option (Int32 × Mem)} (C : Cx K G "PermitParkLaw" cL_statesAreSo 10 (some FieldType.boolean)) (hRm : K.2.2.2.1 = rmX 4 92 0) (Y : Cy0 K) (h0 : W0 G)
    (hk258 : ∀ (v1 : Int32) (v2 : Int32) (v3 : Int32) (v4 : Int32) (v5 : Int32) (M : Mem), G.2.2.2.1 19 0 0 → Run K G 10 0 (6 * 0) (FinN K G voI 0) 258 [(0, .ref (G.1 19 0 0)), (1, .int v1), (2, .int v2), (3, .int v3), (4, .int v4), (5, .int v5)] [] M (k258 v1 v2 v3 v4 v5 M)) (v1 : Int32) (v2 : Int32) (v3 : Int32) (v4 : Int32) (v5 : Int32) (v6 : Int32) (M : Mem) (g_0 : G.2.2.2.1 19 0 0) : Run K G 10 0 (6 * 0) (FinN K G voI 0) 491 [(0, .ref (G.1 19 0 0)), (1, .int v1), (2, .int v2), (3, .int v3), (4, .int v4), (5, .int v5), (6, .int v6)] [] M (pL_statesAreSo_491  k258 v1 v2 v3 v4 v5 v6 M) := by
  rw [pL_statesAreSo_491]
  refine r_aload_n (pc := 491) C 0 rfl rfl dL_statesAreSo_491 ?_
  refine r_getR (pc := 492) C FL_x mw_273 g_0 rfl dL_statesAreSo_492 (fun g1 => ?_)
  refine r_iload (pc := 495) C 5 rfl dL_statesAreSo_495 ?_
  refine r_bipush (pc := 497) C dL_statesAreSo_497 kb_13 ?_
  refine r_n0hI (pc := 499) C Y (Rx.of hRm rfl rfl rfl rfl) (okL_thread h0 Y.1 v5 (13 : Int32) M g1) mw_657 cvL_thread rfl rfl (Nat.le_of_ble_eq_true rfl) dL_statesAreSo_499 (fun o3 M2 => ?_)
  refine r_aload_n (pc := 502) C 0 rfl rfl dL_statesAreSo_502 ?_
  refine r_getR (pc := 503) C FL_x mw_273 g_0 rfl dL_statesAreSo_503 (fun g4 => ?_)
  refine r_iload (pc := 506) C 5 rfl dL_statesAreSo_506 ?_
  refine r_bipush (pc := 508) C dL_statesAreSo_508 kb_14 ?_
  refine r_n0hI (pc := 510) C Y (Rx.of hRm rfl rfl rfl rfl) (okL_thread h0 Y.1 v5 (14 : Int32) M2 g1) mw_657 cvL_thread rfl rfl (Nat.le_of_ble_eq_true rfl) dL_statesAreSo_510 (fun o6 M5 => ?_)
  refine r_iadd (pc := 513) C dL_statesAreSo_513 ?_
  refine r_aload_n (pc := 514) C 0 rfl rfl dL_statesAreSo_514 ?_
  refine r_getR (pc := 515) C FL_x mw_273 g_0 rfl dL_statesAreSo_515 (fun g7 => ?_)
  refine r_iload (pc := 518) C 5 rfl dL_statesAreSo_518 ?_
  refine r_bipush (pc := 520) C dL_statesAreSo_520 kb_15 ?_
  refine r_n0hI (pc := 522) C Y (Rx.of hRm rfl rfl rfl rfl) (okL_thread h0 Y.1 v5 (15 : Int32) M5 g1) mw_657 cvL_thread rfl rfl (Nat.le_of_ble_eq_true rfl) dL_statesAreSo_522 (fun o9 M8 => ?_)
  refine r_iadd (pc := 525) C dL_statesAreSo_525 ?_
  refine r_aload_n (pc := 526) C 0 rfl rfl dL_statesAreSo_526 ?_
  refine r_getR (pc := 527) C FL_x mw_273 g_0 rfl dL_statesAreSo_527 (fun g10 => ?_)
  refine r_iload (pc := 530) C 5 rfl dL_statesAreSo_530 ?_
  refine r_bipush (pc := 532) C dL_statesAreSo_532 kb_16 ?_
  refine r_n0hI (pc := 534) C Y (Rx.of hRm rfl rfl rfl rfl) (okL_thread h0 Y.1 v5 (16 : Int32) M8 g1) mw_657 cvL_thread rfl rfl (Nat.le_of_ble_eq_true rfl) dL_statesAreSo_534 (fun o12 M11 => ?_)
  refine r_iadd (pc := 537) C dL_statesAreSo_537 ?_
  refine r_nmi (fun x13 => ?_)
  refine r_istore (pc := 538) C [(9, .int x13), (0, .ref (G.1 19 0 0)), (1, .int v1), (2, .int v2), (3, .int v3), (4, .int v4), (5, .int v5), (6, .int v6)] dL_statesAreSo_538 (by decide) rfl ?_
  refine r_aload_n (pc := 540) C 1 rfl rfl dL_statesAreSo_540 ?_
  refine r_getR (pc := 541) C FL_x mw_273 g_0 rfl dL_statesAreSo_541 (fun g14 => ?_)
  refine r_iload (pc := 544) C 6 rfl dL_statesAreSo_544 ?_
  refine r_bipush (pc := 546) C dL_statesAreSo_546 kb_12 ?_
  refine r_n0hI (pc := 548) C Y (Rx.of hRm rfl rfl rfl rfl) (okL_thread h0 Y.1 v5 (12 : Int32) M11 g1) mw_657 cvL_thread rfl rfl (Nat.le_of_ble_eq_true rfl) dL_statesAreSo_548 (fun o16 M15 => ?_)
  refine r_iload (pc := 551) C 0 rfl dL_statesAreSo_551 ?_
  refine r_iload (pc := 553) C 7 rfl dL_statesAreSo_553 ?_
  refine r_iconst (pc := 555) C dL_statesAreSo_555 kc_1 ?_
  refine r_icmp_ne (pc := 556) C dL_statesAreSo_556 (tgt := 563) rfl ?_ ?_
  refine r_iconst (pc := 563) C dL_statesAreSo_563 kc_0 ?_
  refine r_sub [1, 2, 3, 4, 5, 6, 7] rfl ?_
  exact lL_statesAreSo_564  (k258 := k258) C hRm Y h0 hk258  v1 v2 v3 v4 v5 v6 (0 : Int32) x13 o16 M15 g_0
  refine r_iconst (pc := 559) C dL_statesAreSo_559 kc_1 ?_
  refine r_goto (pc := 560) C dL_statesAreSo_560 (tgt := 564) rfl ?_
  refine r_sub [1, 2, 3, 4, 5, 6, 7] rfl ?_
  exact lL_statesAreSo_564  (k258 := k258) C hRm Y h0 hk258  v1 v2 v3 v4 v5 v6 (1 : Int32) x13 o16 M15 g_0
def pL_statesAreSo_459 (k258 : Int32 → Int32 → Int32 → Int32 → Int32 → Mem → Option (Int32 × Mem)) (v1 : Int32) (v2 : Int32) (v3 : Int32) (v4 : Int32) (v5 : Int32) (v6 : Int32) (M : Mem) : Option (Int32 × Mem) :=
    if ¬ v6 = (3 : Int32) then (pL_statesAreSo_491  k258  v1 v2 v3 v4 v5 v6 M)
    else bnd (pL_thread v5 (3 : Int32) M) fun o3 M2 => bnd (pL_thread v5 (18 : Int32) M2) fun o6 M5 => if o3 = o6 then (pL_statesAreSo_491  k258  v1 v2 v3 v4 v5 v6 M5)
    else chk (decide ((0 : Int32) = 0 ∨ (0 : Int32) = 1)) (some ((0 : Int32), M5))
theorem lL_statesAreSo_459 {K : KT} {G : WT} {k258 : Int32 → Int32 → Int32 → Int32 → Int32 → Mem → Option (Int32 × Mem)} (C : Cx K G "PermitParkLaw" cL_statesAreSo 10 (some FieldType.boolean)) (hRm : K.2.2.2.1 = rmX 4 92 0) (Y : Cy0 K) (h0 : W0 G)
    (hk258 : ∀ (v1 : Int32) (v2 : Int32) (v3 : Int32) (v4 : Int32) (v5 : Int32) (M : Mem), G.2.2.2.1 19 0 0 → Run K G 10 0 (6 * 0) (FinN K G voI 0) 258 [(0, .ref (G.1 19 0 0)), (1, .int v1), (2, .int v2), (3, .int v3), (4, .int v4), (5, .int v5)] [] M (k258 v1 v2 v3 v4 v5 M)) (v1 : Int32) (v2 : Int32) (v3 : Int32) (v4 : Int32) (v5 : Int32) (v6 : Int32) (M : Mem) (g_0 : G.2.2.2.1 19 0 0) : Run K G 10 0 (6 * 0) (FinN K G voI 0) 459 [(0, .ref (G.1 19 0 0)), (1, .int v1), (2, .int v2), (3, .int v3), (4, .int v4), (5, .int v5), (6, .int v6)] [] M (pL_statesAreSo_459  k258 v1 v2 v3 v4 v5 v6 M) := by
  rw [pL_statesAreSo_459]
  refine r_iload (pc := 459) C 6 rfl dL_statesAreSo_459 ?_
  refine r_iconst (pc := 461) C dL_statesAreSo_461 kc_3 ?_
  refine r_icmp_ne (pc := 462) C dL_statesAreSo_462 (tgt := 491) rfl ?_ ?_
  exact lL_statesAreSo_491  (k258 := k258) C hRm Y h0 hk258  v1 v2 v3 v4 v5 v6 M g_0
  refine r_aload_n (pc := 465) C 0 rfl rfl dL_statesAreSo_465 ?_
  refine r_getR (pc := 466) C FL_x mw_273 g_0 rfl dL_statesAreSo_466 (fun g1 => ?_)
  refine r_iload (pc := 469) C 5 rfl dL_statesAreSo_469 ?_
  refine r_iconst (pc := 471) C dL_statesAreSo_471 kc_3 ?_
  refine r_n0hI (pc := 472) C Y (Rx.of hRm rfl rfl rfl rfl) (okL_thread h0 Y.1 v5 (3 : Int32) M g1) mw_657 cvL_thread rfl rfl (Nat.le_of_ble_eq_true rfl) dL_statesAreSo_472 (fun o3 M2 => ?_)
  refine r_aload_n (pc := 475) C 0 rfl rfl dL_statesAreSo_475 ?_
  refine r_getR (pc := 476) C FL_x mw_273 g_0 rfl dL_statesAreSo_476 (fun g4 => ?_)
  refine r_iload (pc := 479) C 5 rfl dL_statesAreSo_479 ?_
  refine r_bipush (pc := 481) C dL_statesAreSo_481 kb_18 ?_
  refine r_n0hI (pc := 483) C Y (Rx.of hRm rfl rfl rfl rfl) (okL_thread h0 Y.1 v5 (18 : Int32) M2 g1) mw_657 cvL_thread rfl rfl (Nat.le_of_ble_eq_true rfl) dL_statesAreSo_483 (fun o6 M5 => ?_)
  refine r_icmp_eq (pc := 486) C dL_statesAreSo_486 (tgt := 491) rfl ?_ ?_
  exact lL_statesAreSo_491  (k258 := k258) C hRm Y h0 hk258  v1 v2 v3 v4 v5 v6 M5 g_0
  refine r_iconst (pc := 489) C dL_statesAreSo_489 kc_0 ?_
  refine r_wid (cs' := 0) (sl' := 6 * 0) (Nat.le_of_ble_eq_true rfl) (Nat.le_of_ble_eq_true rfl) (r_nok ?_)
  exact r_zret (pc := 490) C dL_statesAreSo_490
def pL_statesAreSo_423 (k258 : Int32 → Int32 → Int32 → Int32 → Int32 → Mem → Option (Int32 × Mem)) (v1 : Int32) (v2 : Int32) (v3 : Int32) (v4 : Int32) (v5 : Int32) (v6 : Int32) (M : Mem) : Option (Int32 × Mem) :=
    if v6 = (3 : Int32) then (pL_statesAreSo_459  k258  v1 v2 v3 v4 v5 v6 M)
    else if v6 = (1 : Int32) then (pL_statesAreSo_459  k258  v1 v2 v3 v4 v5 v6 M)
    else bnd (pL_thread v5 (3 : Int32) M) fun o3 M2 => bnd (pL_thread v5 (18 : Int32) M2) fun o6 M5 => if o6 ≤ o3 then (chk (decide ((0 : Int32) = 0 ∨ (0 : Int32) = 1)) (some ((0 : Int32), M5)))
    else pL_statesAreSo_459  k258  v1 v2 v3 v4 v5 v6 M5
theorem lL_statesAreSo_423 {K : KT} {G : WT} {k258 : Int32 → Int32 → Int32 → Int32 → Int32 → Mem → Option (Int32 × Mem)} (C : Cx K G "PermitParkLaw" cL_statesAreSo 10 (some FieldType.boolean)) (hRm : K.2.2.2.1 = rmX 4 92 0) (Y : Cy0 K) (h0 : W0 G)
    (hk258 : ∀ (v1 : Int32) (v2 : Int32) (v3 : Int32) (v4 : Int32) (v5 : Int32) (M : Mem), G.2.2.2.1 19 0 0 → Run K G 10 0 (6 * 0) (FinN K G voI 0) 258 [(0, .ref (G.1 19 0 0)), (1, .int v1), (2, .int v2), (3, .int v3), (4, .int v4), (5, .int v5)] [] M (k258 v1 v2 v3 v4 v5 M)) (v1 : Int32) (v2 : Int32) (v3 : Int32) (v4 : Int32) (v5 : Int32) (v6 : Int32) (M : Mem) (g_0 : G.2.2.2.1 19 0 0) : Run K G 10 0 (6 * 0) (FinN K G voI 0) 423 [(0, .ref (G.1 19 0 0)), (1, .int v1), (2, .int v2), (3, .int v3), (4, .int v4), (5, .int v5), (6, .int v6)] [] M (pL_statesAreSo_423  k258 v1 v2 v3 v4 v5 v6 M) := by
  rw [pL_statesAreSo_423]
  refine r_iload (pc := 423) C 6 rfl dL_statesAreSo_423 ?_
  refine r_iconst (pc := 425) C dL_statesAreSo_425 kc_3 ?_
  refine r_icmp_eq (pc := 426) C dL_statesAreSo_426 (tgt := 459) rfl ?_ ?_
  exact lL_statesAreSo_459  (k258 := k258) C hRm Y h0 hk258  v1 v2 v3 v4 v5 v6 M g_0
  refine r_iload (pc := 429) C 6 rfl dL_statesAreSo_429 ?_
  refine r_iconst (pc := 431) C dL_statesAreSo_431 kc_1 ?_
  refine r_icmp_eq (pc := 432) C dL_statesAreSo_432 (tgt := 459) rfl ?_ ?_
  exact lL_statesAreSo_459  (k258 := k258) C hRm Y h0 hk258  v1 v2 v3 v4 v5 v6 M g_0
  refine r_aload_n (pc := 435) C 0 rfl rfl dL_statesAreSo_435 ?_
  refine r_getR (pc := 436) C FL_x mw_273 g_0 rfl dL_statesAreSo_436 (fun g1 => ?_)
  refine r_iload (pc := 439) C 5 rfl dL_statesAreSo_439 ?_
  refine r_iconst (pc := 441) C dL_statesAreSo_441 kc_3 ?_
  refine r_n0hI (pc := 442) C Y (Rx.of hRm rfl rfl rfl rfl) (okL_thread h0 Y.1 v5 (3 : Int32) M g1) mw_657 cvL_thread rfl rfl (Nat.le_of_ble_eq_true rfl) dL_statesAreSo_442 (fun o3 M2 => ?_)
  refine r_aload_n (pc := 445) C 0 rfl rfl dL_statesAreSo_445 ?_
  refine r_getR (pc := 446) C FL_x mw_273 g_0 rfl dL_statesAreSo_446 (fun g4 => ?_)
  refine r_iload (pc := 449) C 5 rfl dL_statesAreSo_449 ?_
  refine r_bipush (pc := 451) C dL_statesAreSo_451 kb_18 ?_
  refine r_n0hI (pc := 453) C Y (Rx.of hRm rfl rfl rfl rfl) (okL_thread h0 Y.1 v5 (18 : Int32) M2 g1) mw_657 cvL_thread rfl rfl (Nat.le_of_ble_eq_true rfl) dL_statesAreSo_453 (fun o6 M5 => ?_)
  refine r_icmp_ge (pc := 456) C dL_statesAreSo_456 (tgt := 489) rfl ?_ ?_
  refine r_iconst (pc := 489) C dL_statesAreSo_489 kc_0 ?_
  refine r_wid (cs' := 0) (sl' := 6 * 0) (Nat.le_of_ble_eq_true rfl) (Nat.le_of_ble_eq_true rfl) (r_nok ?_)
  exact r_zret (pc := 490) C dL_statesAreSo_490
  exact lL_statesAreSo_459  (k258 := k258) C hRm Y h0 hk258  v1 v2 v3 v4 v5 v6 M5 g_0
def pL_statesAreSo_401 (k258 : Int32 → Int32 → Int32 → Int32 → Int32 → Mem → Option (Int32 × Mem)) (v1 : Int32) (v2 : Int32) (v3 : Int32) (v4 : Int32) (v5 : Int32) (v6 : Int32) (M : Mem) : Option (Int32 × Mem) :=
    if ¬ v6 = (3 : Int32) then (pL_statesAreSo_423  k258  v1 v2 v3 v4 v5 v6 M)
    else bnd (pL_thread v5 (9 : Int32) M) fun o3 M2 => if o3 = 0 then (pL_statesAreSo_423  k258  v1 v2 v3 v4 v5 v6 M2)
    else chk (decide ((0 : Int32) = 0 ∨ (0 : Int32) = 1)) (some ((0 : Int32), M2))
theorem lL_statesAreSo_401 {K : KT} {G : WT} {k258 : Int32 → Int32 → Int32 → Int32 → Int32 → Mem → Option (Int32 × Mem)} (C : Cx K G "PermitParkLaw" cL_statesAreSo 10 (some FieldType.boolean)) (hRm : K.2.2.2.1 = rmX 4 92 0) (Y : Cy0 K) (h0 : W0 G)
    (hk258 : ∀ (v1 : Int32) (v2 : Int32) (v3 : Int32) (v4 : Int32) (v5 : Int32) (M : Mem), G.2.2.2.1 19 0 0 → Run K G 10 0 (6 * 0) (FinN K G voI 0) 258 [(0, .ref (G.1 19 0 0)), (1, .int v1), (2, .int v2), (3, .int v3), (4, .int v4), (5, .int v5)] [] M (k258 v1 v2 v3 v4 v5 M)) (v1 : Int32) (v2 : Int32) (v3 : Int32) (v4 : Int32) (v5 : Int32) (v6 : Int32) (M : Mem) (g_0 : G.2.2.2.1 19 0 0) : Run K G 10 0 (6 * 0) (FinN K G voI 0) 401 [(0, .ref (G.1 19 0 0)), (1, .int v1), (2, .int v2), (3, .int v3), (4, .int v4), (5, .int v5), (6, .int v6)] [] M (pL_statesAreSo_401  k258 v1 v2 v3 v4 v5 v6 M) := by
  rw [pL_statesAreSo_401]
  refine r_iload (pc := 401) C 6 rfl dL_statesAreSo_401 ?_
  refine r_iconst (pc := 403) C dL_statesAreSo_403 kc_3 ?_
  refine r_icmp_ne (pc := 404) C dL_statesAreSo_404 (tgt := 423) rfl ?_ ?_
  exact lL_statesAreSo_423  (k258 := k258) C hRm Y h0 hk258  v1 v2 v3 v4 v5 v6 M g_0
  refine r_aload_n (pc := 407) C 0 rfl rfl dL_statesAreSo_407 ?_
  refine r_getR (pc := 408) C FL_x mw_273 g_0 rfl dL_statesAreSo_408 (fun g1 => ?_)
  refine r_iload (pc := 411) C 5 rfl dL_statesAreSo_411 ?_
  refine r_bipush (pc := 413) C dL_statesAreSo_413 kb_9 ?_
  refine r_n0hI (pc := 415) C Y (Rx.of hRm rfl rfl rfl rfl) (okL_thread h0 Y.1 v5 (9 : Int32) M g1) mw_657 cvL_thread rfl rfl (Nat.le_of_ble_eq_true rfl) dL_statesAreSo_415 (fun o3 M2 => ?_)
  refine r_if_eq (pc := 418) C dL_statesAreSo_418 (tgt := 423) rfl ?_ ?_
  exact lL_statesAreSo_423  (k258 := k258) C hRm Y h0 hk258  v1 v2 v3 v4 v5 v6 M2 g_0
  refine r_iconst (pc := 421) C dL_statesAreSo_421 kc_0 ?_
  refine r_wid (cs' := 0) (sl' := 6 * 0) (Nat.le_of_ble_eq_true rfl) (Nat.le_of_ble_eq_true rfl) (r_nok ?_)
  exact r_zret (pc := 422) C dL_statesAreSo_422
def pL_statesAreSo_378 (k258 : Int32 → Int32 → Int32 → Int32 → Int32 → Mem → Option (Int32 × Mem)) (v1 : Int32) (v2 : Int32) (v3 : Int32) (v4 : Int32) (v5 : Int32) (v6 : Int32) (s0 : Int32) (s1 : Int32) (M : Mem) : Option (Int32 × Mem) :=
    if ¬ s1 = s0 then (chk (decide ((0 : Int32) = 0 ∨ (0 : Int32) = 1)) (some ((0 : Int32), M)))
    else if v6 = (1 : Int32) then (pL_statesAreSo_401  k258  v1 v2 v3 v4 v5 v6 M)
    else bnd (pL_thread v5 (7 : Int32) M) fun o3 M2 => if 0 ≤ o3 then (chk (decide ((0 : Int32) = 0 ∨ (0 : Int32) = 1)) (some ((0 : Int32), M2)))
    else pL_statesAreSo_401  k258  v1 v2 v3 v4 v5 v6 M2
theorem lL_statesAreSo_378 {K : KT} {G : WT} {k258 : Int32 → Int32 → Int32 → Int32 → Int32 → Mem → Option (Int32 × Mem)} (C : Cx K G "PermitParkLaw" cL_statesAreSo 10 (some FieldType.boolean)) (hRm : K.2.2.2.1 = rmX 4 92 0) (Y : Cy0 K) (h0 : W0 G)
    (hk258 : ∀ (v1 : Int32) (v2 : Int32) (v3 : Int32) (v4 : Int32) (v5 : Int32) (M : Mem), G.2.2.2.1 19 0 0 → Run K G 10 0 (6 * 0) (FinN K G voI 0) 258 [(0, .ref (G.1 19 0 0)), (1, .int v1), (2, .int v2), (3, .int v3), (4, .int v4), (5, .int v5)] [] M (k258 v1 v2 v3 v4 v5 M)) (v1 : Int32) (v2 : Int32) (v3 : Int32) (v4 : Int32) (v5 : Int32) (v6 : Int32) (s0 : Int32) (s1 : Int32) (M : Mem) (g_0 : G.2.2.2.1 19 0 0) : Run K G 10 0 (6 * 0) (FinN K G voI 0) 378 [(0, .ref (G.1 19 0 0)), (1, .int v1), (2, .int v2), (3, .int v3), (4, .int v4), (5, .int v5), (6, .int v6)] [.int s0, .int s1] M (pL_statesAreSo_378  k258 v1 v2 v3 v4 v5 v6 s0 s1 M) := by
  rw [pL_statesAreSo_378]
  refine r_icmp_ne (pc := 378) C dL_statesAreSo_378 (tgt := 421) rfl ?_ ?_
  refine r_iconst (pc := 421) C dL_statesAreSo_421 kc_0 ?_
  refine r_wid (cs' := 0) (sl' := 6 * 0) (Nat.le_of_ble_eq_true rfl) (Nat.le_of_ble_eq_true rfl) (r_nok ?_)
  exact r_zret (pc := 422) C dL_statesAreSo_422
  refine r_iload (pc := 381) C 6 rfl dL_statesAreSo_381 ?_
  refine r_iconst (pc := 383) C dL_statesAreSo_383 kc_1 ?_
  refine r_icmp_eq (pc := 384) C dL_statesAreSo_384 (tgt := 401) rfl ?_ ?_
  exact lL_statesAreSo_401  (k258 := k258) C hRm Y h0 hk258  v1 v2 v3 v4 v5 v6 M g_0
  refine r_aload_n (pc := 387) C 0 rfl rfl dL_statesAreSo_387 ?_
  refine r_getR (pc := 388) C FL_x mw_273 g_0 rfl dL_statesAreSo_388 (fun g1 => ?_)
  refine r_iload (pc := 391) C 5 rfl dL_statesAreSo_391 ?_
  refine r_bipush (pc := 393) C dL_statesAreSo_393 kb_7 ?_
  refine r_n0hI (pc := 395) C Y (Rx.of hRm rfl rfl rfl rfl) (okL_thread h0 Y.1 v5 (7 : Int32) M g1) mw_657 cvL_thread rfl rfl (Nat.le_of_ble_eq_true rfl) dL_statesAreSo_395 (fun o3 M2 => ?_)
  refine r_if_ge (pc := 398) C dL_statesAreSo_398 (tgt := 421) rfl ?_ ?_
  refine r_iconst (pc := 421) C dL_statesAreSo_421 kc_0 ?_
  refine r_wid (cs' := 0) (sl' := 6 * 0) (Nat.le_of_ble_eq_true rfl) (Nat.le_of_ble_eq_true rfl) (r_nok ?_)
  exact r_zret (pc := 422) C dL_statesAreSo_422
  exact lL_statesAreSo_401  (k258 := k258) C hRm Y h0 hk258  v1 v2 v3 v4 v5 v6 M2 g_0
def pL_statesAreSo_359 (k258 : Int32 → Int32 → Int32 → Int32 → Int32 → Mem → Option (Int32 × Mem)) (v1 : Int32) (v2 : Int32) (v3 : Int32) (v4 : Int32) (v5 : Int32) (v6 : Int32) (s0 : Int32) (M : Mem) : Option (Int32 × Mem) :=
    bnd (pL_thread v5 (8 : Int32) M) fun o3 M2 => if o3 < 0 then (pL_statesAreSo_378  k258  v1 v2 v3 v4 v5 v6 (0 : Int32) s0 M2)
    else pL_statesAreSo_378  k258  v1 v2 v3 v4 v5 v6 (1 : Int32) s0 M2
theorem lL_statesAreSo_359 {K : KT} {G : WT} {k258 : Int32 → Int32 → Int32 → Int32 → Int32 → Mem → Option (Int32 × Mem)} (C : Cx K G "PermitParkLaw" cL_statesAreSo 10 (some FieldType.boolean)) (hRm : K.2.2.2.1 = rmX 4 92 0) (Y : Cy0 K) (h0 : W0 G)
    (hk258 : ∀ (v1 : Int32) (v2 : Int32) (v3 : Int32) (v4 : Int32) (v5 : Int32) (M : Mem), G.2.2.2.1 19 0 0 → Run K G 10 0 (6 * 0) (FinN K G voI 0) 258 [(0, .ref (G.1 19 0 0)), (1, .int v1), (2, .int v2), (3, .int v3), (4, .int v4), (5, .int v5)] [] M (k258 v1 v2 v3 v4 v5 M)) (v1 : Int32) (v2 : Int32) (v3 : Int32) (v4 : Int32) (v5 : Int32) (v6 : Int32) (s0 : Int32) (M : Mem) (g_0 : G.2.2.2.1 19 0 0) : Run K G 10 0 (6 * 0) (FinN K G voI 0) 359 [(0, .ref (G.1 19 0 0)), (1, .int v1), (2, .int v2), (3, .int v3), (4, .int v4), (5, .int v5), (6, .int v6)] [.int s0] M (pL_statesAreSo_359  k258 v1 v2 v3 v4 v5 v6 s0 M) := by
  rw [pL_statesAreSo_359]
  refine r_aload_n (pc := 359) C 0 rfl rfl dL_statesAreSo_359 ?_
  refine r_getR (pc := 360) C FL_x mw_273 g_0 rfl dL_statesAreSo_360 (fun g1 => ?_)
  refine r_iload (pc := 363) C 5 rfl dL_statesAreSo_363 ?_
  refine r_bipush (pc := 365) C dL_statesAreSo_365 kb_8 ?_
  refine r_n0hI (pc := 367) C Y (Rx.of hRm rfl rfl rfl rfl) (okL_thread h0 Y.1 v5 (8 : Int32) M g1) mw_657 cvL_thread rfl rfl (Nat.le_of_ble_eq_true rfl) dL_statesAreSo_367 (fun o3 M2 => ?_)
  refine r_if_lt (pc := 370) C dL_statesAreSo_370 (tgt := 377) rfl ?_ ?_
  refine r_iconst (pc := 377) C dL_statesAreSo_377 kc_0 ?_
  exact lL_statesAreSo_378  (k258 := k258) C hRm Y h0 hk258  v1 v2 v3 v4 v5 v6 (0 : Int32) s0 M2 g_0
  refine r_iconst (pc := 373) C dL_statesAreSo_373 kc_1 ?_
  refine r_goto (pc := 374) C dL_statesAreSo_374 (tgt := 378) rfl ?_
  exact lL_statesAreSo_378  (k258 := k258) C hRm Y h0 hk258  v1 v2 v3 v4 v5 v6 (1 : Int32) s0 M2 g_0
def pL_statesAreSo_332 (k258 : Int32 → Int32 → Int32 → Int32 → Int32 → Mem → Option (Int32 × Mem)) (v1 : Int32) (v2 : Int32) (v3 : Int32) (v4 : Int32) (v5 : Int32) (v6 : Int32) (M : Mem) : Option (Int32 × Mem) :=
    bnd (pL_lent v5 M) fun o3 M2 => if 0 ≤ (Op.cmpValue (FP.fcmp o3 FP.fconst1) .g) then (if ¬ v6 = (2 : Int32) then (pL_statesAreSo_359  k258  v1 v2 v3 v4 v5 v6 (0 : Int32) M2)
    else pL_statesAreSo_359  k258  v1 v2 v3 v4 v5 v6 (1 : Int32) M2)
    else chk (decide ((0 : Int32) = 0 ∨ (0 : Int32) = 1)) (some ((0 : Int32), M2))
theorem lL_statesAreSo_332 {K : KT} {G : WT} {k258 : Int32 → Int32 → Int32 → Int32 → Int32 → Mem → Option (Int32 × Mem)} (C : Cx K G "PermitParkLaw" cL_statesAreSo 10 (some FieldType.boolean)) (hRm : K.2.2.2.1 = rmX 4 92 0) (Y : Cy0 K) (h0 : W0 G)
    (hk258 : ∀ (v1 : Int32) (v2 : Int32) (v3 : Int32) (v4 : Int32) (v5 : Int32) (M : Mem), G.2.2.2.1 19 0 0 → Run K G 10 0 (6 * 0) (FinN K G voI 0) 258 [(0, .ref (G.1 19 0 0)), (1, .int v1), (2, .int v2), (3, .int v3), (4, .int v4), (5, .int v5)] [] M (k258 v1 v2 v3 v4 v5 M)) (v1 : Int32) (v2 : Int32) (v3 : Int32) (v4 : Int32) (v5 : Int32) (v6 : Int32) (M : Mem) (g_0 : G.2.2.2.1 19 0 0) : Run K G 10 0 (6 * 0) (FinN K G voI 0) 332 [(0, .ref (G.1 19 0 0)), (1, .int v1), (2, .int v2), (3, .int v3), (4, .int v4), (5, .int v5), (6, .int v6)] [] M (pL_statesAreSo_332  k258 v1 v2 v3 v4 v5 v6 M) := by
  rw [pL_statesAreSo_332]
  refine r_aload_n (pc := 332) C 0 rfl rfl dL_statesAreSo_332 ?_
  refine r_getR (pc := 333) C FL_x mw_273 g_0 rfl dL_statesAreSo_333 (fun g1 => ?_)
  refine r_iload (pc := 336) C 5 rfl dL_statesAreSo_336 ?_
  refine r_n0hF (pc := 338) C Y (Rx.of hRm rfl rfl rfl rfl) (okL_lent h0 Y.1 v5 M g1) mw_786 cvL_lent rfl rfl (Nat.le_of_ble_eq_true rfl) dL_statesAreSo_338 (fun o3 M2 => ?_)
  refine r_fconst1 (pc := 341) C dL_statesAreSo_341 ?_
  refine r_fcmp (pc := 342) C dL_statesAreSo_342 ?_
  refine r_if_ge (pc := 343) C dL_statesAreSo_343 (tgt := 348) rfl ?_ ?_
  refine r_iload (pc := 348) C 6 rfl dL_statesAreSo_348 ?_
  refine r_iconst (pc := 350) C dL_statesAreSo_350 kc_2 ?_
  refine r_icmp_ne (pc := 351) C dL_statesAreSo_351 (tgt := 358) rfl ?_ ?_
  refine r_iconst (pc := 358) C dL_statesAreSo_358 kc_0 ?_
  exact lL_statesAreSo_359  (k258 := k258) C hRm Y h0 hk258  v1 v2 v3 v4 v5 v6 (0 : Int32) M2 g_0
  refine r_iconst (pc := 354) C dL_statesAreSo_354 kc_1 ?_
  refine r_goto (pc := 355) C dL_statesAreSo_355 (tgt := 359) rfl ?_
  exact lL_statesAreSo_359  (k258 := k258) C hRm Y h0 hk258  v1 v2 v3 v4 v5 v6 (1 : Int32) M2 g_0
  refine r_iconst (pc := 346) C dL_statesAreSo_346 kc_0 ?_
  refine r_wid (cs' := 0) (sl' := 6 * 0) (Nat.le_of_ble_eq_true rfl) (Nat.le_of_ble_eq_true rfl) (r_nok ?_)
  exact r_zret (pc := 347) C dL_statesAreSo_347
def pL_statesAreSo_258 : Nat → Int32 → Int32 → Int32 → Int32 → Int32 → Mem → Option (Int32 × Mem)
  | 0, _, _, _, _, _, _ => none
  | n + 1, v1, v2, v3, v4, v5, M =>
    if v1 ≤ v5 then (if ¬ v2 = v1 then (chk (decide ((0 : Int32) = 0 ∨ (0 : Int32) = 1)) (some ((0 : Int32), M)))
    else bnd (pL_count (11 : Int32) M) fun o3 M2 => if ¬ v3 = o3 then (chk (decide ((0 : Int32) = 0 ∨ (0 : Int32) = 1)) (some ((0 : Int32), M2)))
    else bnd (pL_count (7 : Int32) M2) fun o6 M5 => if ¬ v4 = o6 then (chk (decide ((0 : Int32) = 0 ∨ (0 : Int32) = 1)) (some ((0 : Int32), M5)))
    else chk (decide ((1 : Int32) = 0 ∨ (1 : Int32) = 1)) (some ((1 : Int32), M5)))
    else bnd (pL_thread v5 (2 : Int32) M) fun o9 M8 => bnd (pL_thread v5 (0 : Int32) M8) fun o12 M11 => bnd (pL_thread v5 (1 : Int32) M11) fun o15 M14 => if o15 < o12 then (chk (decide ((0 : Int32) = 0 ∨ (0 : Int32) = 1)) (some ((0 : Int32), M14)))
    else if (9 : Int32) < o15 then (chk (decide ((0 : Int32) = 0 ∨ (0 : Int32) = 1)) (some ((0 : Int32), M14)))
    else bnd (pL_count (1 : Int32) M14) fun o18 M17 => if ¬ o18 = 0 then (pL_statesAreSo_332  (fun v1 v2 v3 v4 v5 M => pL_statesAreSo_258   n v1 v2 v3 v4 v5 M)  v1 v2 v3 v4 v5 o9 M17)
    else if ¬ o15 = o12 then (chk (decide ((0 : Int32) = 0 ∨ (0 : Int32) = 1)) (some ((0 : Int32), M17)))
    else pL_statesAreSo_332  (fun v1 v2 v3 v4 v5 M => pL_statesAreSo_258   n v1 v2 v3 v4 v5 M)  v1 v2 v3 v4 v5 o9 M17
theorem lL_statesAreSo_258 {K : KT} {G : WT} (C : Cx K G "PermitParkLaw" cL_statesAreSo 10 (some FieldType.boolean)) (hRm : K.2.2.2.1 = rmX 4 92 0) (Y : Cy0 K) (h0 : W0 G) : ∀ (n : Nat) (v1 : Int32) (v2 : Int32) (v3 : Int32) (v4 : Int32) (v5 : Int32) (M : Mem), G.2.2.2.1 19 0 0 → Run K G 10 0 (6 * 0) (FinN K G voI 0) 258 [(0, .ref (G.1 19 0 0)), (1, .int v1), (2, .int v2), (3, .int v3), (4, .int v4), (5, .int v5)] [] M (pL_statesAreSo_258   n v1 v2 v3 v4 v5 M) := by
  intro n
  induction n with
  | zero =>
    intro v1 v2 v3 v4 v5 M g_0
    exact r_none
  | succ n ih =>
    intro v1 v2 v3 v4 v5 M g_0
    rw [pL_statesAreSo_258]
    refine r_iload (pc := 258) C 5 rfl dL_statesAreSo_258 ?_
    refine r_iload_n (pc := 260) C 1 rfl rfl dL_statesAreSo_260 ?_
    refine r_icmp_ge (pc := 261) C dL_statesAreSo_261 (tgt := 663) rfl ?_ ?_
    refine r_iload_n (pc := 663) C 2 rfl rfl dL_statesAreSo_663 ?_
    refine r_iload_n (pc := 664) C 1 rfl rfl dL_statesAreSo_664 ?_
    refine r_icmp_ne (pc := 665) C dL_statesAreSo_665 (tgt := 699) rfl ?_ ?_
    refine r_iconst (pc := 699) C dL_statesAreSo_699 kc_0 ?_
    refine r_wid (cs' := 0) (sl' := 6 * 0) (Nat.le_of_ble_eq_true rfl) (Nat.le_of_ble_eq_true rfl) (r_nok ?_)
    exact r_zret (pc := 700) C dL_statesAreSo_700
    refine r_iload_n (pc := 668) C 3 rfl rfl dL_statesAreSo_668 ?_
    refine r_aload_n (pc := 669) C 0 rfl rfl dL_statesAreSo_669 ?_
    refine r_getR (pc := 670) C FL_x mw_273 g_0 rfl dL_statesAreSo_670 (fun g1 => ?_)
    refine r_bipush (pc := 673) C dL_statesAreSo_673 kb_11 ?_
    refine r_n0hI (pc := 675) C Y (Rx.of hRm rfl rfl rfl rfl) (okL_count h0 Y.1 (11 : Int32) M g1) mw_638 cvL_count rfl rfl (Nat.le_of_ble_eq_true rfl) dL_statesAreSo_675 (fun o3 M2 => ?_)
    refine r_icmp_ne (pc := 678) C dL_statesAreSo_678 (tgt := 699) rfl ?_ ?_
    refine r_iconst (pc := 699) C dL_statesAreSo_699 kc_0 ?_
    refine r_wid (cs' := 0) (sl' := 6 * 0) (Nat.le_of_ble_eq_true rfl) (Nat.le_of_ble_eq_true rfl) (r_nok ?_)
    exact r_zret (pc := 700) C dL_statesAreSo_700
    refine r_iload (pc := 681) C 4 rfl dL_statesAreSo_681 ?_
    refine r_aload_n (pc := 683) C 0 rfl rfl dL_statesAreSo_683 ?_
    refine r_getR (pc := 684) C FL_x mw_273 g_0 rfl dL_statesAreSo_684 (fun g4 => ?_)
    refine r_bipush (pc := 687) C dL_statesAreSo_687 kb_7 ?_
    refine r_n0hI (pc := 689) C Y (Rx.of hRm rfl rfl rfl rfl) (okL_count h0 Y.1 (7 : Int32) M2 g1) mw_638 cvL_count rfl rfl (Nat.le_of_ble_eq_true rfl) dL_statesAreSo_689 (fun o6 M5 => ?_)
    refine r_icmp_ne (pc := 692) C dL_statesAreSo_692 (tgt := 699) rfl ?_ ?_
    refine r_iconst (pc := 699) C dL_statesAreSo_699 kc_0 ?_
    refine r_wid (cs' := 0) (sl' := 6 * 0) (Nat.le_of_ble_eq_true rfl) (Nat.le_of_ble_eq_true rfl) (r_nok ?_)
    exact r_zret (pc := 700) C dL_statesAreSo_700
    refine r_iconst (pc := 695) C dL_statesAreSo_695 kc_1 ?_
    refine r_goto (pc := 696) C dL_statesAreSo_696 (tgt := 700) rfl ?_
    refine r_wid (cs' := 0) (sl' := 6 * 0) (Nat.le_of_ble_eq_true rfl) (Nat.le_of_ble_eq_true rfl) (r_nok ?_)
    exact r_zret (pc := 700) C dL_statesAreSo_700
    refine r_aload_n (pc := 264) C 0 rfl rfl dL_statesAreSo_264 ?_
    refine r_getR (pc := 265) C FL_x mw_273 g_0 rfl dL_statesAreSo_265 (fun g7 => ?_)
    refine r_iload (pc := 268) C 5 rfl dL_statesAreSo_268 ?_
    refine r_iconst (pc := 270) C dL_statesAreSo_270 kc_2 ?_
    refine r_n0hI (pc := 271) C Y (Rx.of hRm rfl rfl rfl rfl) (okL_thread h0 Y.1 v5 (2 : Int32) M g7) mw_657 cvL_thread rfl rfl (Nat.le_of_ble_eq_true rfl) dL_statesAreSo_271 (fun o9 M8 => ?_)
    refine r_istore (pc := 274) C [(6, .int o9), (0, .ref (G.1 19 0 0)), (1, .int v1), (2, .int v2), (3, .int v3), (4, .int v4), (5, .int v5)] dL_statesAreSo_274 (by decide) rfl ?_
    refine r_aload_n (pc := 276) C 1 rfl rfl dL_statesAreSo_276 ?_
    refine r_getR (pc := 277) C FL_x mw_273 g_0 rfl dL_statesAreSo_277 (fun g10 => ?_)
    refine r_iload (pc := 280) C 6 rfl dL_statesAreSo_280 ?_
    refine r_iconst (pc := 282) C dL_statesAreSo_282 kc_0 ?_
    refine r_n0hI (pc := 283) C Y (Rx.of hRm rfl rfl rfl rfl) (okL_thread h0 Y.1 v5 (0 : Int32) M8 g7) mw_657 cvL_thread rfl rfl (Nat.le_of_ble_eq_true rfl) dL_statesAreSo_283 (fun o12 M11 => ?_)
    refine r_istore (pc := 286) C [(7, .int o12), (6, .int o9), (0, .ref (G.1 19 0 0)), (1, .int v1), (2, .int v2), (3, .int v3), (4, .int v4), (5, .int v5)] dL_statesAreSo_286 (by decide) rfl ?_
    refine r_aload_n (pc := 288) C 2 rfl rfl dL_statesAreSo_288 ?_
    refine r_getR (pc := 289) C FL_x mw_273 g_0 rfl dL_statesAreSo_289 (fun g13 => ?_)
    refine r_iload (pc := 292) C 7 rfl dL_statesAreSo_292 ?_
    refine r_iconst (pc := 294) C dL_statesAreSo_294 kc_1 ?_
    refine r_n0hI (pc := 295) C Y (Rx.of hRm rfl rfl rfl rfl) (okL_thread h0 Y.1 v5 (1 : Int32) M11 g7) mw_657 cvL_thread rfl rfl (Nat.le_of_ble_eq_true rfl) dL_statesAreSo_295 (fun o15 M14 => ?_)
    refine r_istore (pc := 298) C [(8, .int o15), (7, .int o12), (6, .int o9), (0, .ref (G.1 19 0 0)), (1, .int v1), (2, .int v2), (3, .int v3), (4, .int v4), (5, .int v5)] dL_statesAreSo_298 (by decide) rfl ?_
    refine r_iload (pc := 300) C 0 rfl dL_statesAreSo_300 ?_
    refine r_iload (pc := 302) C 1 rfl dL_statesAreSo_302 ?_
    refine r_icmp_lt (pc := 304) C dL_statesAreSo_304 (tgt := 346) rfl ?_ ?_
    refine r_iconst (pc := 346) C dL_statesAreSo_346 kc_0 ?_
    refine r_wid (cs' := 0) (sl' := 6 * 0) (Nat.le_of_ble_eq_true rfl) (Nat.le_of_ble_eq_true rfl) (r_nok ?_)
    exact r_zret (pc := 347) C dL_statesAreSo_347
    refine r_iload (pc := 307) C 0 rfl dL_statesAreSo_307 ?_
    refine r_bipush (pc := 309) C dL_statesAreSo_309 kb_9 ?_
    refine r_icmp_gt (pc := 311) C dL_statesAreSo_311 (tgt := 346) rfl ?_ ?_
    refine r_iconst (pc := 346) C dL_statesAreSo_346 kc_0 ?_
    refine r_wid (cs' := 0) (sl' := 6 * 0) (Nat.le_of_ble_eq_true rfl) (Nat.le_of_ble_eq_true rfl) (r_nok ?_)
    exact r_zret (pc := 347) C dL_statesAreSo_347
    refine r_aload_n (pc := 314) C 3 rfl rfl dL_statesAreSo_314 ?_
    refine r_getR (pc := 315) C FL_x mw_273 g_0 rfl dL_statesAreSo_315 (fun g16 => ?_)
    refine r_iconst (pc := 318) C dL_statesAreSo_318 kc_1 ?_
    refine r_n0hI (pc := 319) C Y (Rx.of hRm rfl rfl rfl rfl) (okL_count h0 Y.1 (1 : Int32) M14 g7) mw_638 cvL_count rfl rfl (Nat.le_of_ble_eq_true rfl) dL_statesAreSo_319 (fun o18 M17 => ?_)
    refine r_if_ne (pc := 322) C dL_statesAreSo_322 (tgt := 332) rfl ?_ ?_
    refine r_sub [3, 4, 5, 6, 7, 8, 2] rfl ?_
    exact lL_statesAreSo_332  (k258 := (fun v1 v2 v3 v4 v5 M => pL_statesAreSo_258   n v1 v2 v3 v4 v5 M)) C hRm Y h0 ih  v1 v2 v3 v4 v5 o9 M17 g_0
    refine r_iload (pc := 325) C 0 rfl dL_statesAreSo_325 ?_
    refine r_iload (pc := 327) C 1 rfl dL_statesAreSo_327 ?_
    refine r_icmp_ne (pc := 329) C dL_statesAreSo_329 (tgt := 346) rfl ?_ ?_
    refine r_iconst (pc := 346) C dL_statesAreSo_346 kc_0 ?_
    refine r_wid (cs' := 0) (sl' := 6 * 0) (Nat.le_of_ble_eq_true rfl) (Nat.le_of_ble_eq_true rfl) (r_nok ?_)
    exact r_zret (pc := 347) C dL_statesAreSo_347
    refine r_sub [3, 4, 5, 6, 7, 8, 2] rfl ?_
    exact lL_statesAreSo_332  (k258 := (fun v1 v2 v3 v4 v5 M => pL_statesAreSo_258   n v1 v2 v3 v4 v5 M)) C hRm Y h0 ih  v1 v2 v3 v4 v5 o9 M17 g_0
def pL_statesAreSo_47 : Nat → Int32 → Int32 → Int32 → Int32 → Int32 → Mem → Option (Int32 × Mem)
  | 0, _, _, _, _, _, _ => none
  | n + 1, v1, v2, v3, v4, v5, M =>
    if (6 : Int32) ≤ v5 then (pL_statesAreSo_258   fu v1 v2 v3 v4 (0 : Int32) M)
    else bnd (pL_lock v5 (0 : Int32) M) fun o3 M2 => if 0 ≤ o3 then (pL_statesAreSo_80  (fun v1 v2 v3 v4 v5 M => pL_statesAreSo_47   n v1 v2 v3 v4 v5 M)  v1 v2 v4 v5 o3 ((1 : Int32) <<< (v5 &&& 31)) v3 M2)
    else pL_statesAreSo_80  (fun v1 v2 v3 v4 v5 M => pL_statesAreSo_47   n v1 v2 v3 v4 v5 M)  v1 v2 v4 v5 o3 (0 : Int32) v3 M2
theorem lL_statesAreSo_47 {K : KT} {G : WT} (C : Cx K G "PermitParkLaw" cL_statesAreSo 10 (some FieldType.boolean)) (hRm : K.2.2.2.1 = rmX 4 92 0) (Y : Cy0 K) (h0 : W0 G) : ∀ (n : Nat) (v1 : Int32) (v2 : Int32) (v3 : Int32) (v4 : Int32) (v5 : Int32) (M : Mem), G.2.2.2.1 19 0 0 → Run K G 10 0 (6 * 0) (FinN K G voI 0) 47 [(0, .ref (G.1 19 0 0)), (1, .int v1), (2, .int v2), (3, .int v3), (4, .int v4), (5, .int v5)] [] M (pL_statesAreSo_47   n v1 v2 v3 v4 v5 M) := by
  intro n
  induction n with
  | zero =>
    intro v1 v2 v3 v4 v5 M g_0
    exact r_none
  | succ n ih =>
    intro v1 v2 v3 v4 v5 M g_0
    rw [pL_statesAreSo_47]
    refine r_iload (pc := 47) C 5 rfl dL_statesAreSo_47 ?_
    refine r_bipush (pc := 49) C dL_statesAreSo_49 kb_6 ?_
    refine r_icmp_ge (pc := 51) C dL_statesAreSo_51 (tgt := 255) rfl ?_ ?_
    refine r_iconst (pc := 255) C dL_statesAreSo_255 kc_0 ?_
    refine r_istore (pc := 256) C [(5, .int (0 : Int32)), (0, .ref (G.1 19 0 0)), (1, .int v1), (2, .int v2), (3, .int v3), (4, .int v4)] dL_statesAreSo_256 (by decide) rfl ?_
    refine r_sub [1, 2, 3, 4, 5, 0] rfl ?_
    exact lL_statesAreSo_258   C hRm Y h0  fu v1 v2 v3 v4 (0 : Int32) M g_0
    refine r_aload_n (pc := 54) C 0 rfl rfl dL_statesAreSo_54 ?_
    refine r_getR (pc := 55) C FL_x mw_273 g_0 rfl dL_statesAreSo_55 (fun g1 => ?_)
    refine r_iload (pc := 58) C 5 rfl dL_statesAreSo_58 ?_
    refine r_iconst (pc := 60) C dL_statesAreSo_60 kc_0 ?_
    refine r_n0hI (pc := 61) C Y (Rx.of hRm rfl rfl rfl rfl) (okL_lock h0 Y.1 v5 (0 : Int32) M g1) mw_763 cvL_lock rfl rfl (Nat.le_of_ble_eq_true rfl) dL_statesAreSo_61 (fun o3 M2 => ?_)
    refine r_istore (pc := 64) C [(6, .int o3), (0, .ref (G.1 19 0 0)), (1, .int v1), (2, .int v2), (3, .int v3), (4, .int v4), (5, .int v5)] dL_statesAreSo_64 (by decide) rfl ?_
    refine r_iload_n (pc := 66) C 4 rfl rfl dL_statesAreSo_66 ?_
    refine r_iload (pc := 67) C 0 rfl dL_statesAreSo_67 ?_
    refine r_if_ge (pc := 69) C dL_statesAreSo_69 (tgt := 76) rfl ?_ ?_
    refine r_iconst (pc := 76) C dL_statesAreSo_76 kc_1 ?_
    refine r_iload (pc := 77) C 6 rfl dL_statesAreSo_77 ?_
    refine r_ishl (pc := 79) C dL_statesAreSo_79 ?_
    refine r_sub [1, 2, 3, 5, 6, 0] rfl ?_
    exact lL_statesAreSo_80  (k47 := (fun v1 v2 v3 v4 v5 M => pL_statesAreSo_47   n v1 v2 v3 v4 v5 M)) C hRm Y h0 ih  v1 v2 v4 v5 o3 ((1 : Int32) <<< (v5 &&& 31)) v3 M2 g_0
    refine r_iconst (pc := 72) C dL_statesAreSo_72 kc_0 ?_
    refine r_goto (pc := 73) C dL_statesAreSo_73 (tgt := 80) rfl ?_
    refine r_sub [1, 2, 3, 5, 6, 0] rfl ?_
    exact lL_statesAreSo_80  (k47 := (fun v1 v2 v3 v4 v5 M => pL_statesAreSo_47   n v1 v2 v3 v4 v5 M)) C hRm Y h0 ih  v1 v2 v4 v5 o3 (0 : Int32) v3 M2 g_0
def pL_statesAreSo_19 : Nat → Int32 → Int32 → Int32 → Int32 → Int32 → Mem → Option (Int32 × Mem)
  | 0, _, _, _, _, _, _ => none
  | n + 1, v1, v2, v3, v4, v5, M =>
    if (10 : Int32) ≤ v5 then (pL_statesAreSo_47   fu v1 v2 v3 v4 (0 : Int32) M)
    else bnd (pL_count v5 M) fun o3 M2 => nm (v2 + o3) fun x4 => pL_statesAreSo_19   n v1 x4 v3 v4 (v5 + (1 : Int32)) M2
theorem lL_statesAreSo_19 {K : KT} {G : WT} (C : Cx K G "PermitParkLaw" cL_statesAreSo 10 (some FieldType.boolean)) (hRm : K.2.2.2.1 = rmX 4 92 0) (Y : Cy0 K) (h0 : W0 G) : ∀ (n : Nat) (v1 : Int32) (v2 : Int32) (v3 : Int32) (v4 : Int32) (v5 : Int32) (M : Mem), G.2.2.2.1 19 0 0 → Run K G 10 0 (6 * 0) (FinN K G voI 0) 19 [(0, .ref (G.1 19 0 0)), (1, .int v1), (2, .int v2), (3, .int v3), (4, .int v4), (5, .int v5)] [] M (pL_statesAreSo_19   n v1 v2 v3 v4 v5 M) := by
  intro n
  induction n with
  | zero =>
    intro v1 v2 v3 v4 v5 M g_0
    exact r_none
  | succ n ih =>
    intro v1 v2 v3 v4 v5 M g_0
    rw [pL_statesAreSo_19]
    refine r_iload (pc := 19) C 5 rfl dL_statesAreSo_19 ?_
    refine r_bipush (pc := 21) C dL_statesAreSo_21 kb_10 ?_
    refine r_icmp_ge (pc := 23) C dL_statesAreSo_23 (tgt := 44) rfl ?_ ?_
    refine r_iconst (pc := 44) C dL_statesAreSo_44 kc_0 ?_
    refine r_istore (pc := 45) C [(5, .int (0 : Int32)), (0, .ref (G.1 19 0 0)), (1, .int v1), (2, .int v2), (3, .int v3), (4, .int v4)] dL_statesAreSo_45 (by decide) rfl ?_
    refine r_sub [1, 2, 3, 4, 5, 0] rfl ?_
    exact lL_statesAreSo_47   C hRm Y h0  fu v1 v2 v3 v4 (0 : Int32) M g_0
    refine r_iload_n (pc := 26) C 2 rfl rfl dL_statesAreSo_26 ?_
    refine r_aload_n (pc := 27) C 0 rfl rfl dL_statesAreSo_27 ?_
    refine r_getR (pc := 28) C FL_x mw_273 g_0 rfl dL_statesAreSo_28 (fun g1 => ?_)
    refine r_iload (pc := 31) C 5 rfl dL_statesAreSo_31 ?_
    refine r_n0hI (pc := 33) C Y (Rx.of hRm rfl rfl rfl rfl) (okL_count h0 Y.1 v5 M g1) mw_638 cvL_count rfl rfl (Nat.le_of_ble_eq_true rfl) dL_statesAreSo_33 (fun o3 M2 => ?_)
    refine r_iadd (pc := 36) C dL_statesAreSo_36 ?_
    refine r_nmi (fun x4 => ?_)
    refine r_istore_n (pc := 37) C [(2, .int x4), (0, .ref (G.1 19 0 0)), (1, .int v1), (3, .int v3), (4, .int v4), (5, .int v5)] dL_statesAreSo_37 rfl (by decide) rfl ?_
    refine r_iinc (pc := 38) C [(5, .int (v5 + (1 : Int32))), (2, .int x4), (0, .ref (G.1 19 0 0)), (1, .int v1), (3, .int v3), (4, .int v4)] dL_statesAreSo_38 (p := 5) rfl (ki_1 _) (by decide) rfl ?_
    refine r_goto (pc := 41) C dL_statesAreSo_41 (tgt := 19) rfl ?_
    refine r_sub [2, 3, 1, 4, 5, 0] rfl ?_
    exact ih v1 x4 v3 v4 (v5 + (1 : Int32)) M2 g_0
def pL_statesAreSo (M : Mem) : Option (Int32 × Mem) :=
    bnd (pL_count (2 : Int32) M) fun o3 M2 => pL_statesAreSo_19   fu o3 (0 : Int32) (0 : Int32) (0 : Int32) (5 : Int32) M2
theorem lL_statesAreSo_0 {K : KT} {G : WT} (C : Cx K G "PermitParkLaw" cL_statesAreSo 10 (some FieldType.boolean)) (hRm : K.2.2.2.1 = rmX 4 92 0) (Y : Cy0 K) (h0 : W0 G) (M : Mem) (h_0 : G.2.2.2.1 19 0 0) : Run K G 10 0 (6 * 0) (FinN K G voI 0) 0 [(0, .ref (G.1 19 0 0))] [] M (pL_statesAreSo    M) := by
  rw [pL_statesAreSo]
  refine r_aload_n (pc := 0) C 0 rfl rfl dL_statesAreSo_0 ?_
  refine r_getR (pc := 1) C FL_x mw_273 h_0 rfl dL_statesAreSo_1 (fun g1 => ?_)
  refine r_iconst (pc := 4) C dL_statesAreSo_4 kc_2 ?_
  refine r_n0hI (pc := 5) C Y (Rx.of hRm rfl rfl rfl rfl) (okL_count h0 Y.1 (2 : Int32) M g1) mw_638 cvL_count rfl rfl (Nat.le_of_ble_eq_true rfl) dL_statesAreSo_5 (fun o3 M2 => ?_)
  refine r_istore_n (pc := 8) C [(1, .int o3), (0, .ref (G.1 19 0 0))] dL_statesAreSo_8 rfl (by decide) rfl ?_
  refine r_iconst (pc := 9) C dL_statesAreSo_9 kc_0 ?_
  refine r_istore_n (pc := 10) C [(2, .int (0 : Int32)), (1, .int o3), (0, .ref (G.1 19 0 0))] dL_statesAreSo_10 rfl (by decide) rfl ?_
  refine r_iconst (pc := 11) C dL_statesAreSo_11 kc_0 ?_
  refine r_istore_n (pc := 12) C [(3, .int (0 : Int32)), (2, .int (0 : Int32)), (1, .int o3), (0, .ref (G.1 19 0 0))] dL_statesAreSo_12 rfl (by decide) rfl ?_
  refine r_iconst (pc := 13) C dL_statesAreSo_13 kc_0 ?_
  refine r_istore (pc := 14) C [(4, .int (0 : Int32)), (3, .int (0 : Int32)), (2, .int (0 : Int32)), (1, .int o3), (0, .ref (G.1 19 0 0))] dL_statesAreSo_14 (by decide) rfl ?_
  refine r_iconst (pc := 16) C dL_statesAreSo_16 kc_5 ?_
  refine r_istore (pc := 17) C [(5, .int (5 : Int32)), (4, .int (0 : Int32)), (3, .int (0 : Int32)), (2, .int (0 : Int32)), (1, .int o3), (0, .ref (G.1 19 0 0))] dL_statesAreSo_17 (by decide) rfl ?_
  refine r_sub [5, 4, 3, 2, 1, 0] rfl ?_
  exact lL_statesAreSo_19   C hRm Y h0  fu o3 (0 : Int32) (0 : Int32) (0 : Int32) (5 : Int32) M2 h_0
theorem okL_statesAreSo {l : Launch} {G : WT} (h0 : W0 G) (hT : l.stackTraces = false) (M : Mem) (h_0 : G.2.2.2.1 19 0 0) : OkX l G yL_statesAreSo cL_statesAreSo 10 (some FieldType.boolean) 4 92 0 [.ref (G.1 19 0 0)] voI M (xok (pL_statesAreSo   M)) :=
  OkX.of "PermitParkLaw" rfl (by decide) (Nat.le_of_ble_eq_true rfl) (L := [(0, .ref (G.1 19 0 0))]) rfl hT (fun K _ hr Y C => r_ofN (lL_statesAreSo_0 C hr Y.1 h0  M h_0))
def pL_ticks_113 : Nat → Int32 → Int32 → Int32 → Int32 → Int32 → Int32 → Int32 → Int32 → Int32 → Mem → Option (Int32 × Mem)
  | 0, _, _, _, _, _, _, _, _, _, _ => none
  | n + 1, v1, v2, v3, v4, v5, v6, v7, v8, v9, M =>
    if v1 ≤ v9 then (bnd (pL_count (3 : Int32) M) fun o3 M2 => if ¬ o3 = (v4 + (1 : Int32)) then (chk (decide ((0 : Int32) = 0 ∨ (0 : Int32) = 1)) (some ((0 : Int32), M2)))
    else bnd (pL_count (8 : Int32) M2) fun o6 M5 => if v8 = (o6 - v6) then (if 0 ≤ v3 then (if ¬ v2 = (-1 : Int32) then (chk (decide ((0 : Int32) = 0 ∨ (0 : Int32) = 1)) (some ((0 : Int32), M5)))
    else bnd (pL_count (12 : Int32) M5) fun o9 M8 => if ¬ o9 = v5 then (chk (decide ((0 : Int32) = 0 ∨ (0 : Int32) = 1)) (some ((0 : Int32), M8)))
    else bnd (pL_thread v3 (10 : Int32) M8) fun o12 M11 => if ¬ o12 = (v7 + (1 : Int32)) then (chk (decide ((0 : Int32) = 0 ∨ (0 : Int32) = 1)) (some ((0 : Int32), M11)))
    else bnd (pL_thread v3 (11 : Int32) M11) fun o15 M14 => if ¬ o15 = v4 then (chk (decide ((0 : Int32) = 0 ∨ (0 : Int32) = 1)) (some ((0 : Int32), M14)))
    else chk (decide ((1 : Int32) = 0 ∨ (1 : Int32) = 1)) (some ((1 : Int32), M14)))
    else if ¬ v2 = 0 then (chk (decide ((0 : Int32) = 0 ∨ (0 : Int32) = 1)) (some ((0 : Int32), M5)))
    else bnd (pL_count (12 : Int32) M5) fun o18 M17 => if ¬ o18 = (v5 + (1 : Int32)) then (chk (decide ((0 : Int32) = 0 ∨ (0 : Int32) = 1)) (some ((0 : Int32), M17)))
    else chk (decide ((1 : Int32) = 0 ∨ (1 : Int32) = 1)) (some ((1 : Int32), M17)))
    else chk (decide ((0 : Int32) = 0 ∨ (0 : Int32) = 1)) (some ((0 : Int32), M5)))
    else bnd (pL_thread v9 (10 : Int32) M) fun o21 M20 => nm (v2 - o21) fun x22 => pL_ticks_113   n v1 x22 v3 v4 v5 v6 v7 v8 (v9 + (1 : Int32)) M20
theorem lL_ticks_113 {K : KT} {G : WT} (C : Cx K G "PermitParkLaw" cL_ticks 10 (some FieldType.boolean)) (hRm : K.2.2.2.1 = rmX 8 184 0) (Y : Cy0 K) (h0 : W0 G) : ∀ (n : Nat) (v1 : Int32) (v2 : Int32) (v3 : Int32) (v4 : Int32) (v5 : Int32) (v6 : Int32) (v7 : Int32) (v8 : Int32) (v9 : Int32) (M : Mem), G.2.2.2.1 19 0 0 → Run K G 10 0 (6 * 0) (FinN K G voI 0) 113 [(0, .ref (G.1 19 0 0)), (1, .int v1), (2, .int v2), (3, .int v3), (4, .int v4), (5, .int v5), (6, .int v6), (7, .int v7), (8, .int v8), (9, .int v9)] [] M (pL_ticks_113   n v1 v2 v3 v4 v5 v6 v7 v8 v9 M) := by
  intro n
  induction n with
  | zero =>
    intro v1 v2 v3 v4 v5 v6 v7 v8 v9 M g_0
    exact r_none
  | succ n ih =>
    intro v1 v2 v3 v4 v5 v6 v7 v8 v9 M g_0
    rw [pL_ticks_113]
    refine r_iload (pc := 113) C 9 rfl dL_ticks_113 ?_
    refine r_iload_n (pc := 115) C 1 rfl rfl dL_ticks_115 ?_
    refine r_icmp_ge (pc := 116) C dL_ticks_116 (tgt := 139) rfl ?_ ?_
    refine r_aload_n (pc := 139) C 0 rfl rfl dL_ticks_139 ?_
    refine r_getR (pc := 140) C FL_x mw_273 g_0 rfl dL_ticks_140 (fun g1 => ?_)
    refine r_iconst (pc := 143) C dL_ticks_143 kc_3 ?_
    refine r_n0hI (pc := 144) C Y (Rx.of hRm rfl rfl rfl rfl) (okL_count h0 Y.1 (3 : Int32) M g1) mw_638 cvL_count rfl rfl (Nat.le_of_ble_eq_true rfl) dL_ticks_144 (fun o3 M2 => ?_)
    refine r_iload (pc := 147) C 4 rfl dL_ticks_147 ?_
    refine r_iconst (pc := 149) C dL_ticks_149 kc_1 ?_
    refine r_iadd (pc := 150) C dL_ticks_150 ?_
    refine r_icmp_ne (pc := 151) C dL_ticks_151 (tgt := 171) rfl ?_ ?_
    refine r_iconst (pc := 171) C dL_ticks_171 kc_0 ?_
    refine r_wid (cs' := 0) (sl' := 6 * 0) (Nat.le_of_ble_eq_true rfl) (Nat.le_of_ble_eq_true rfl) (r_nok ?_)
    exact r_zret (pc := 172) C dL_ticks_172
    refine r_iload (pc := 154) C 8 rfl dL_ticks_154 ?_
    refine r_aload_n (pc := 156) C 0 rfl rfl dL_ticks_156 ?_
    refine r_getR (pc := 157) C FL_x mw_273 g_0 rfl dL_ticks_157 (fun g4 => ?_)
    refine r_bipush (pc := 160) C dL_ticks_160 kb_8 ?_
    refine r_n0hI (pc := 162) C Y (Rx.of hRm rfl rfl rfl rfl) (okL_count h0 Y.1 (8 : Int32) M2 g1) mw_638 cvL_count rfl rfl (Nat.le_of_ble_eq_true rfl) dL_ticks_162 (fun o6 M5 => ?_)
    refine r_iload (pc := 165) C 6 rfl dL_ticks_165 ?_
    refine r_isub (pc := 167) C dL_ticks_167 ?_
    refine r_icmp_eq (pc := 168) C dL_ticks_168 (tgt := 173) rfl ?_ ?_
    refine r_iload_n (pc := 173) C 3 rfl rfl dL_ticks_173 ?_
    refine r_if_ge (pc := 174) C dL_ticks_174 (tgt := 205) rfl ?_ ?_
    refine r_iload_n (pc := 205) C 2 rfl rfl dL_ticks_205 ?_
    refine r_iconst (pc := 206) C dL_ticks_206 kc_m1 ?_
    refine r_icmp_ne (pc := 207) C dL_ticks_207 (tgt := 260) rfl ?_ ?_
    refine r_iconst (pc := 260) C dL_ticks_260 kc_0 ?_
    refine r_wid (cs' := 0) (sl' := 6 * 0) (Nat.le_of_ble_eq_true rfl) (Nat.le_of_ble_eq_true rfl) (r_nok ?_)
    exact r_zret (pc := 261) C dL_ticks_261
    refine r_aload_n (pc := 210) C 0 rfl rfl dL_ticks_210 ?_
    refine r_getR (pc := 211) C FL_x mw_273 g_0 rfl dL_ticks_211 (fun g7 => ?_)
    refine r_bipush (pc := 214) C dL_ticks_214 kb_12 ?_
    refine r_n0hI (pc := 216) C Y (Rx.of hRm rfl rfl rfl rfl) (okL_count h0 Y.1 (12 : Int32) M5 g1) mw_638 cvL_count rfl rfl (Nat.le_of_ble_eq_true rfl) dL_ticks_216 (fun o9 M8 => ?_)
    refine r_iload (pc := 219) C 5 rfl dL_ticks_219 ?_
    refine r_icmp_ne (pc := 221) C dL_ticks_221 (tgt := 260) rfl ?_ ?_
    refine r_iconst (pc := 260) C dL_ticks_260 kc_0 ?_
    refine r_wid (cs' := 0) (sl' := 6 * 0) (Nat.le_of_ble_eq_true rfl) (Nat.le_of_ble_eq_true rfl) (r_nok ?_)
    exact r_zret (pc := 261) C dL_ticks_261
    refine r_aload_n (pc := 224) C 0 rfl rfl dL_ticks_224 ?_
    refine r_getR (pc := 225) C FL_x mw_273 g_0 rfl dL_ticks_225 (fun g10 => ?_)
    refine r_iload_n (pc := 228) C 3 rfl rfl dL_ticks_228 ?_
    refine r_bipush (pc := 229) C dL_ticks_229 kb_10 ?_
    refine r_n0hI (pc := 231) C Y (Rx.of hRm rfl rfl rfl rfl) (okL_thread h0 Y.1 v3 (10 : Int32) M8 g1) mw_657 cvL_thread rfl rfl (Nat.le_of_ble_eq_true rfl) dL_ticks_231 (fun o12 M11 => ?_)
    refine r_iload (pc := 234) C 7 rfl dL_ticks_234 ?_
    refine r_iconst (pc := 236) C dL_ticks_236 kc_1 ?_
    refine r_iadd (pc := 237) C dL_ticks_237 ?_
    refine r_icmp_ne (pc := 238) C dL_ticks_238 (tgt := 260) rfl ?_ ?_
    refine r_iconst (pc := 260) C dL_ticks_260 kc_0 ?_
    refine r_wid (cs' := 0) (sl' := 6 * 0) (Nat.le_of_ble_eq_true rfl) (Nat.le_of_ble_eq_true rfl) (r_nok ?_)
    exact r_zret (pc := 261) C dL_ticks_261
    refine r_aload_n (pc := 241) C 0 rfl rfl dL_ticks_241 ?_
    refine r_getR (pc := 242) C FL_x mw_273 g_0 rfl dL_ticks_242 (fun g13 => ?_)
    refine r_iload_n (pc := 245) C 3 rfl rfl dL_ticks_245 ?_
    refine r_bipush (pc := 246) C dL_ticks_246 kb_11 ?_
    refine r_n0hI (pc := 248) C Y (Rx.of hRm rfl rfl rfl rfl) (okL_thread h0 Y.1 v3 (11 : Int32) M11 g1) mw_657 cvL_thread rfl rfl (Nat.le_of_ble_eq_true rfl) dL_ticks_248 (fun o15 M14 => ?_)
    refine r_iload (pc := 251) C 4 rfl dL_ticks_251 ?_
    refine r_icmp_ne (pc := 253) C dL_ticks_253 (tgt := 260) rfl ?_ ?_
    refine r_iconst (pc := 260) C dL_ticks_260 kc_0 ?_
    refine r_wid (cs' := 0) (sl' := 6 * 0) (Nat.le_of_ble_eq_true rfl) (Nat.le_of_ble_eq_true rfl) (r_nok ?_)
    exact r_zret (pc := 261) C dL_ticks_261
    refine r_iconst (pc := 256) C dL_ticks_256 kc_1 ?_
    refine r_goto (pc := 257) C dL_ticks_257 (tgt := 261) rfl ?_
    refine r_wid (cs' := 0) (sl' := 6 * 0) (Nat.le_of_ble_eq_true rfl) (Nat.le_of_ble_eq_true rfl) (r_nok ?_)
    exact r_zret (pc := 261) C dL_ticks_261
    refine r_iload_n (pc := 177) C 2 rfl rfl dL_ticks_177 ?_
    refine r_if_ne (pc := 178) C dL_ticks_178 (tgt := 201) rfl ?_ ?_
    refine r_iconst (pc := 201) C dL_ticks_201 kc_0 ?_
    refine r_goto (pc := 202) C dL_ticks_202 (tgt := 261) rfl ?_
    refine r_wid (cs' := 0) (sl' := 6 * 0) (Nat.le_of_ble_eq_true rfl) (Nat.le_of_ble_eq_true rfl) (r_nok ?_)
    exact r_zret (pc := 261) C dL_ticks_261
    refine r_aload_n (pc := 181) C 0 rfl rfl dL_ticks_181 ?_
    refine r_getR (pc := 182) C FL_x mw_273 g_0 rfl dL_ticks_182 (fun g16 => ?_)
    refine r_bipush (pc := 185) C dL_ticks_185 kb_12 ?_
    refine r_n0hI (pc := 187) C Y (Rx.of hRm rfl rfl rfl rfl) (okL_count h0 Y.1 (12 : Int32) M5 g1) mw_638 cvL_count rfl rfl (Nat.le_of_ble_eq_true rfl) dL_ticks_187 (fun o18 M17 => ?_)
    refine r_iload (pc := 190) C 5 rfl dL_ticks_190 ?_
    refine r_iconst (pc := 192) C dL_ticks_192 kc_1 ?_
    refine r_iadd (pc := 193) C dL_ticks_193 ?_
    refine r_icmp_ne (pc := 194) C dL_ticks_194 (tgt := 201) rfl ?_ ?_
    refine r_iconst (pc := 201) C dL_ticks_201 kc_0 ?_
    refine r_goto (pc := 202) C dL_ticks_202 (tgt := 261) rfl ?_
    refine r_wid (cs' := 0) (sl' := 6 * 0) (Nat.le_of_ble_eq_true rfl) (Nat.le_of_ble_eq_true rfl) (r_nok ?_)
    exact r_zret (pc := 261) C dL_ticks_261
    refine r_iconst (pc := 197) C dL_ticks_197 kc_1 ?_
    refine r_goto (pc := 198) C dL_ticks_198 (tgt := 261) rfl ?_
    refine r_wid (cs' := 0) (sl' := 6 * 0) (Nat.le_of_ble_eq_true rfl) (Nat.le_of_ble_eq_true rfl) (r_nok ?_)
    exact r_zret (pc := 261) C dL_ticks_261
    refine r_iconst (pc := 171) C dL_ticks_171 kc_0 ?_
    refine r_wid (cs' := 0) (sl' := 6 * 0) (Nat.le_of_ble_eq_true rfl) (Nat.le_of_ble_eq_true rfl) (r_nok ?_)
    exact r_zret (pc := 172) C dL_ticks_172
    refine r_iload_n (pc := 119) C 2 rfl rfl dL_ticks_119 ?_
    refine r_aload_n (pc := 120) C 0 rfl rfl dL_ticks_120 ?_
    refine r_getR (pc := 121) C FL_x mw_273 g_0 rfl dL_ticks_121 (fun g19 => ?_)
    refine r_iload (pc := 124) C 9 rfl dL_ticks_124 ?_
    refine r_bipush (pc := 126) C dL_ticks_126 kb_10 ?_
    refine r_n0hI (pc := 128) C Y (Rx.of hRm rfl rfl rfl rfl) (okL_thread h0 Y.1 v9 (10 : Int32) M g19) mw_657 cvL_thread rfl rfl (Nat.le_of_ble_eq_true rfl) dL_ticks_128 (fun o21 M20 => ?_)
    refine r_isub (pc := 131) C dL_ticks_131 ?_
    refine r_nmi (fun x22 => ?_)
    refine r_istore_n (pc := 132) C [(2, .int x22), (0, .ref (G.1 19 0 0)), (1, .int v1), (3, .int v3), (4, .int v4), (5, .int v5), (6, .int v6), (7, .int v7), (8, .int v8), (9, .int v9)] dL_ticks_132 rfl (by decide) rfl ?_
    refine r_iinc (pc := 133) C [(9, .int (v9 + (1 : Int32))), (2, .int x22), (0, .ref (G.1 19 0 0)), (1, .int v1), (3, .int v3), (4, .int v4), (5, .int v5), (6, .int v6), (7, .int v7), (8, .int v8)] dL_ticks_133 (p := 9) rfl (ki_1 _) (by decide) rfl ?_
    refine r_goto (pc := 136) C dL_ticks_136 (tgt := 113) rfl ?_
    refine r_sub [2, 3, 1, 4, 5, 6, 7, 8, 9, 0] rfl ?_
    exact ih v1 x22 v3 v4 v5 v6 v7 v8 (v9 + (1 : Int32)) M20 g_0
def pL_ticks_74 : Nat → Int32 → Int32 → Int32 → Int32 → Int32 → Int32 → Int32 → Int32 → Mem → Option (Int32 × Mem)
  | 0, _, _, _, _, _, _, _, _, _ => none
  | n + 1, v1, v2, v3, v4, v5, v6, v7, v8, M =>
    if v1 ≤ v8 then (bnd (pL_run (1 : Int32) M) fun o3 M2 => pL_ticks_113   fu v1 v2 v3 v4 v5 v6 v7 o3 (0 : Int32) M2)
    else bnd (pL_thread v8 (10 : Int32) M) fun o6 M5 => nm (v2 + o6) fun x7 => pL_ticks_74   n v1 x7 v3 v4 v5 v6 v7 (v8 + (1 : Int32)) M5
theorem lL_ticks_74 {K : KT} {G : WT} (C : Cx K G "PermitParkLaw" cL_ticks 10 (some FieldType.boolean)) (hRm : K.2.2.2.1 = rmX 8 184 0) (Y : Cy0 K) (h0 : W0 G) : ∀ (n : Nat) (v1 : Int32) (v2 : Int32) (v3 : Int32) (v4 : Int32) (v5 : Int32) (v6 : Int32) (v7 : Int32) (v8 : Int32) (M : Mem), G.2.2.2.1 19 0 0 → Run K G 10 0 (6 * 0) (FinN K G voI 0) 74 [(0, .ref (G.1 19 0 0)), (1, .int v1), (2, .int v2), (3, .int v3), (4, .int v4), (5, .int v5), (6, .int v6), (7, .int v7), (8, .int v8)] [] M (pL_ticks_74   n v1 v2 v3 v4 v5 v6 v7 v8 M) := by
  intro n
  induction n with
  | zero =>
    intro v1 v2 v3 v4 v5 v6 v7 v8 M g_0
    exact r_none
  | succ n ih =>
    intro v1 v2 v3 v4 v5 v6 v7 v8 M g_0
    rw [pL_ticks_74]
    refine r_iload (pc := 74) C 8 rfl dL_ticks_74 ?_
    refine r_iload_n (pc := 76) C 1 rfl rfl dL_ticks_76 ?_
    refine r_icmp_ge (pc := 77) C dL_ticks_77 (tgt := 100) rfl ?_ ?_
    refine r_aload_n (pc := 100) C 0 rfl rfl dL_ticks_100 ?_
    refine r_getR (pc := 101) C FL_x mw_273 g_0 rfl dL_ticks_101 (fun g1 => ?_)
    refine r_iconst (pc := 104) C dL_ticks_104 kc_1 ?_
    refine r_n0hI (pc := 105) C Y (Rx.of hRm rfl rfl rfl rfl) (okL_run h0 Y.1 (1 : Int32) M g1) mw_677 cvL_run rfl rfl (Nat.le_of_ble_eq_true rfl) dL_ticks_105 (fun o3 M2 => ?_)
    refine r_istore (pc := 108) C [(8, .int o3), (0, .ref (G.1 19 0 0)), (1, .int v1), (2, .int v2), (3, .int v3), (4, .int v4), (5, .int v5), (6, .int v6), (7, .int v7)] dL_ticks_108 (by decide) rfl ?_
    refine r_iconst (pc := 110) C dL_ticks_110 kc_0 ?_
    refine r_istore (pc := 111) C [(9, .int (0 : Int32)), (8, .int o3), (0, .ref (G.1 19 0 0)), (1, .int v1), (2, .int v2), (3, .int v3), (4, .int v4), (5, .int v5), (6, .int v6), (7, .int v7)] dL_ticks_111 (by decide) rfl ?_
    refine r_sub [2, 3, 4, 5, 6, 7, 8, 9, 1, 0] rfl ?_
    exact lL_ticks_113   C hRm Y h0  fu v1 v2 v3 v4 v5 v6 v7 o3 (0 : Int32) M2 g_0
    refine r_iload_n (pc := 80) C 2 rfl rfl dL_ticks_80 ?_
    refine r_aload_n (pc := 81) C 0 rfl rfl dL_ticks_81 ?_
    refine r_getR (pc := 82) C FL_x mw_273 g_0 rfl dL_ticks_82 (fun g4 => ?_)
    refine r_iload (pc := 85) C 8 rfl dL_ticks_85 ?_
    refine r_bipush (pc := 87) C dL_ticks_87 kb_10 ?_
    refine r_n0hI (pc := 89) C Y (Rx.of hRm rfl rfl rfl rfl) (okL_thread h0 Y.1 v8 (10 : Int32) M g4) mw_657 cvL_thread rfl rfl (Nat.le_of_ble_eq_true rfl) dL_ticks_89 (fun o6 M5 => ?_)
    refine r_iadd (pc := 92) C dL_ticks_92 ?_
    refine r_nmi (fun x7 => ?_)
    refine r_istore_n (pc := 93) C [(2, .int x7), (0, .ref (G.1 19 0 0)), (1, .int v1), (3, .int v3), (4, .int v4), (5, .int v5), (6, .int v6), (7, .int v7), (8, .int v8)] dL_ticks_93 rfl (by decide) rfl ?_
    refine r_iinc (pc := 94) C [(8, .int (v8 + (1 : Int32))), (2, .int x7), (0, .ref (G.1 19 0 0)), (1, .int v1), (3, .int v3), (4, .int v4), (5, .int v5), (6, .int v6), (7, .int v7)] dL_ticks_94 (p := 8) rfl (ki_1 _) (by decide) rfl ?_
    refine r_goto (pc := 97) C dL_ticks_97 (tgt := 74) rfl ?_
    refine r_sub [2, 3, 1, 4, 5, 6, 7, 8, 0] rfl ?_
    exact ih v1 x7 v3 v4 v5 v6 v7 (v8 + (1 : Int32)) M5 g_0
def pL_ticks (M : Mem) : Option (Int32 × Mem) :=
    bnd (pL_count (2 : Int32) M) fun o3 M2 => bnd (pX7_next M2) fun o6 M5 => bnd (pL_count (3 : Int32) M5) fun o9 M8 => bnd (pL_count (12 : Int32) M8) fun o12 M11 => bnd (pL_count (8 : Int32) M11) fun o15 M14 => if 0 ≤ o6 then (bnd (pL_thread o6 (10 : Int32) M14) fun o18 M17 => pL_ticks_74   fu o3 (0 : Int32) o6 o9 o12 o15 o18 (0 : Int32) M17)
    else pL_ticks_74   fu o3 (0 : Int32) o6 o9 o12 o15 (0 : Int32) (0 : Int32) M14
theorem lL_ticks_0 {K : KT} {G : WT} (C : Cx K G "PermitParkLaw" cL_ticks 10 (some FieldType.boolean)) (hRm : K.2.2.2.1 = rmX 8 184 0) (Y : Cy0 K) (h0 : W0 G) (M : Mem) (h_0 : G.2.2.2.1 19 0 0) : Run K G 10 0 (6 * 0) (FinN K G voI 0) 0 [(0, .ref (G.1 19 0 0))] [] M (pL_ticks    M) := by
  rw [pL_ticks]
  refine r_aload_n (pc := 0) C 0 rfl rfl dL_ticks_0 ?_
  refine r_getR (pc := 1) C FL_x mw_273 h_0 rfl dL_ticks_1 (fun g1 => ?_)
  refine r_iconst (pc := 4) C dL_ticks_4 kc_2 ?_
  refine r_n0hI (pc := 5) C Y (Rx.of hRm rfl rfl rfl rfl) (okL_count h0 Y.1 (2 : Int32) M g1) mw_638 cvL_count rfl rfl (Nat.le_of_ble_eq_true rfl) dL_ticks_5 (fun o3 M2 => ?_)
  refine r_istore_n (pc := 8) C [(1, .int o3), (0, .ref (G.1 19 0 0))] dL_ticks_8 rfl (by decide) rfl ?_
  refine r_iconst (pc := 9) C dL_ticks_9 kc_0 ?_
  refine r_istore_n (pc := 10) C [(2, .int (0 : Int32)), (1, .int o3), (0, .ref (G.1 19 0 0))] dL_ticks_10 rfl (by decide) rfl ?_
  refine r_aload_n (pc := 11) C 2 rfl rfl dL_ticks_11 ?_
  refine r_getR (pc := 12) C FL_x mw_273 h_0 rfl dL_ticks_12 (fun g4 => ?_)
  refine r_wVI (pc := 15) C (Rx.of hRm rfl rfl rfl rfl) (okX7_next h0 M2 g1) (Rc.of C rfl rfl g1) mw_485 cvX7_next rfl rfl (Nat.le_of_ble_eq_true rfl) dL_ticks_15 (fun o6 M5 => ?_)
  refine r_istore_n (pc := 18) C [(3, .int o6), (2, .int (0 : Int32)), (1, .int o3), (0, .ref (G.1 19 0 0))] dL_ticks_18 rfl (by decide) rfl ?_
  refine r_aload_n (pc := 19) C 3 rfl rfl dL_ticks_19 ?_
  refine r_getR (pc := 20) C FL_x mw_273 h_0 rfl dL_ticks_20 (fun g7 => ?_)
  refine r_iconst (pc := 23) C dL_ticks_23 kc_3 ?_
  refine r_n0hI (pc := 24) C Y (Rx.of hRm rfl rfl rfl rfl) (okL_count h0 Y.1 (3 : Int32) M5 g1) mw_638 cvL_count rfl rfl (Nat.le_of_ble_eq_true rfl) dL_ticks_24 (fun o9 M8 => ?_)
  refine r_istore (pc := 27) C [(4, .int o9), (3, .int o6), (2, .int (0 : Int32)), (1, .int o3), (0, .ref (G.1 19 0 0))] dL_ticks_27 (by decide) rfl ?_
  refine r_aload_n (pc := 29) C 4 rfl rfl dL_ticks_29 ?_
  refine r_getR (pc := 30) C FL_x mw_273 h_0 rfl dL_ticks_30 (fun g10 => ?_)
  refine r_bipush (pc := 33) C dL_ticks_33 kb_12 ?_
  refine r_n0hI (pc := 35) C Y (Rx.of hRm rfl rfl rfl rfl) (okL_count h0 Y.1 (12 : Int32) M8 g1) mw_638 cvL_count rfl rfl (Nat.le_of_ble_eq_true rfl) dL_ticks_35 (fun o12 M11 => ?_)
  refine r_istore (pc := 38) C [(5, .int o12), (4, .int o9), (3, .int o6), (2, .int (0 : Int32)), (1, .int o3), (0, .ref (G.1 19 0 0))] dL_ticks_38 (by decide) rfl ?_
  refine r_aload_n (pc := 40) C 5 rfl rfl dL_ticks_40 ?_
  refine r_getR (pc := 41) C FL_x mw_273 h_0 rfl dL_ticks_41 (fun g13 => ?_)
  refine r_bipush (pc := 44) C dL_ticks_44 kb_8 ?_
  refine r_n0hI (pc := 46) C Y (Rx.of hRm rfl rfl rfl rfl) (okL_count h0 Y.1 (8 : Int32) M11 g1) mw_638 cvL_count rfl rfl (Nat.le_of_ble_eq_true rfl) dL_ticks_46 (fun o15 M14 => ?_)
  refine r_istore (pc := 49) C [(6, .int o15), (5, .int o12), (4, .int o9), (3, .int o6), (2, .int (0 : Int32)), (1, .int o3), (0, .ref (G.1 19 0 0))] dL_ticks_49 (by decide) rfl ?_
  refine r_iload_n (pc := 51) C 3 rfl rfl dL_ticks_51 ?_
  refine r_if_ge (pc := 52) C dL_ticks_52 (tgt := 59) rfl ?_ ?_
  refine r_aload_n (pc := 59) C 6 rfl rfl dL_ticks_59 ?_
  refine r_getR (pc := 60) C FL_x mw_273 h_0 rfl dL_ticks_60 (fun g16 => ?_)
  refine r_iload_n (pc := 63) C 3 rfl rfl dL_ticks_63 ?_
  refine r_bipush (pc := 64) C dL_ticks_64 kb_10 ?_
  refine r_n0hI (pc := 66) C Y (Rx.of hRm rfl rfl rfl rfl) (okL_thread h0 Y.1 o6 (10 : Int32) M14 g1) mw_657 cvL_thread rfl rfl (Nat.le_of_ble_eq_true rfl) dL_ticks_66 (fun o18 M17 => ?_)
  refine r_istore (pc := 69) C [(7, .int o18), (6, .int o15), (5, .int o12), (4, .int o9), (3, .int o6), (2, .int (0 : Int32)), (1, .int o3), (0, .ref (G.1 19 0 0))] dL_ticks_69 (by decide) rfl ?_
  refine r_iconst (pc := 71) C dL_ticks_71 kc_0 ?_
  refine r_istore (pc := 72) C [(8, .int (0 : Int32)), (7, .int o18), (6, .int o15), (5, .int o12), (4, .int o9), (3, .int o6), (2, .int (0 : Int32)), (1, .int o3), (0, .ref (G.1 19 0 0))] dL_ticks_72 (by decide) rfl ?_
  refine r_sub [8, 7, 6, 5, 4, 3, 2, 1, 0] rfl ?_
  exact lL_ticks_74   C hRm Y h0  fu o3 (0 : Int32) o6 o9 o12 o15 o18 (0 : Int32) M17 h_0
  refine r_iconst (pc := 55) C dL_ticks_55 kc_0 ?_
  refine r_goto (pc := 56) C dL_ticks_56 (tgt := 69) rfl ?_
  refine r_istore (pc := 69) C [(7, .int (0 : Int32)), (6, .int o15), (5, .int o12), (4, .int o9), (3, .int o6), (2, .int (0 : Int32)), (1, .int o3), (0, .ref (G.1 19 0 0))] dL_ticks_69 (by decide) rfl ?_
  refine r_iconst (pc := 71) C dL_ticks_71 kc_0 ?_
  refine r_istore (pc := 72) C [(8, .int (0 : Int32)), (7, .int (0 : Int32)), (6, .int o15), (5, .int o12), (4, .int o9), (3, .int o6), (2, .int (0 : Int32)), (1, .int o3), (0, .ref (G.1 19 0 0))] dL_ticks_72 (by decide) rfl ?_
  refine r_sub [8, 7, 6, 5, 4, 3, 2, 1, 0] rfl ?_
  exact lL_ticks_74   C hRm Y h0  fu o3 (0 : Int32) o6 o9 o12 o15 (0 : Int32) (0 : Int32) M14 h_0
theorem okL_ticks {l : Launch} {G : WT} (h0 : W0 G) (hT : l.stackTraces = false) (M : Mem) (h_0 : G.2.2.2.1 19 0 0) : OkX l G yL_ticks cL_ticks 10 (some FieldType.boolean) 8 184 0 [.ref (G.1 19 0 0)] voI M (xok (pL_ticks   M)) :=
  OkX.of "PermitParkLaw" rfl (by decide) (Nat.le_of_ble_eq_true rfl) (L := [(0, .ref (G.1 19 0 0))]) rfl hT (fun K _ hr Y C => r_ofN (lL_ticks_0 C hr Y.1 h0  M h_0))
def pL_nobodyAhead_39 : Nat → Int32 → Int32 → Mem → Option (Int32 × Mem)
  | 0, _, _, _ => none
  | n + 1, v1, v2, M =>
    bnd (pL_count (2 : Int32) M) fun o3 M2 => if o3 ≤ v2 then (chk (decide ((1 : Int32) = 0 ∨ (1 : Int32) = 1)) (some ((1 : Int32), M2)))
    else bnd (pL_thread v2 (2 : Int32) M2) fun o6 M5 => if ¬ o6 = 0 then (pL_nobodyAhead_39   n v1 (v2 + (1 : Int32)) M5)
    else if v1 < 0 then (chk (decide ((0 : Int32) = 0 ∨ (0 : Int32) = 1)) (some ((0 : Int32), M5)))
    else bnd (pL_thread v2 (1 : Int32) M5) fun o9 M8 => bnd (pL_thread v1 (1 : Int32) M8) fun o12 M11 => if o9 ≤ o12 then (pL_nobodyAhead_39   n v1 (v2 + (1 : Int32)) M11)
    else chk (decide ((0 : Int32) = 0 ∨ (0 : Int32) = 1)) (some ((0 : Int32), M11))
theorem lL_nobodyAhead_39 {K : KT} {G : WT} (C : Cx K G "PermitParkLaw" cL_nobodyAhead 3 (some FieldType.boolean)) (hRm : K.2.2.2.1 = rmX 7 163 0) (Y : Cy0 K) (h0 : W0 G) : ∀ (n : Nat) (v1 : Int32) (v2 : Int32) (M : Mem), G.2.2.2.1 19 0 0 → Run K G 3 0 (6 * 0) (FinN K G voI 0) 39 [(0, .ref (G.1 19 0 0)), (1, .int v1), (2, .int v2)] [] M (pL_nobodyAhead_39   n v1 v2 M) := by
  intro n
  induction n with
  | zero =>
    intro v1 v2 M g_0
    exact r_none
  | succ n ih =>
    intro v1 v2 M g_0
    rw [pL_nobodyAhead_39]
    refine r_iload_n (pc := 39) C 2 rfl rfl dL_nobodyAhead_39 ?_
    refine r_aload_n (pc := 40) C 0 rfl rfl dL_nobodyAhead_40 ?_
    refine r_getR (pc := 41) C FL_x mw_273 g_0 rfl dL_nobodyAhead_41 (fun g1 => ?_)
    refine r_iconst (pc := 44) C dL_nobodyAhead_44 kc_2 ?_
    refine r_n0hI (pc := 45) C Y (Rx.of hRm rfl rfl rfl rfl) (okL_count h0 Y.1 (2 : Int32) M g1) mw_638 cvL_count rfl rfl (Nat.le_of_ble_eq_true rfl) dL_nobodyAhead_45 (fun o3 M2 => ?_)
    refine r_icmp_ge (pc := 48) C dL_nobodyAhead_48 (tgt := 96) rfl ?_ ?_
    refine r_iconst (pc := 96) C dL_nobodyAhead_96 kc_1 ?_
    refine r_wid (cs' := 0) (sl' := 6 * 0) (Nat.le_of_ble_eq_true rfl) (Nat.le_of_ble_eq_true rfl) (r_nok ?_)
    exact r_zret (pc := 97) C dL_nobodyAhead_97
    refine r_aload_n (pc := 51) C 0 rfl rfl dL_nobodyAhead_51 ?_
    refine r_getR (pc := 52) C FL_x mw_273 g_0 rfl dL_nobodyAhead_52 (fun g4 => ?_)
    refine r_iload_n (pc := 55) C 2 rfl rfl dL_nobodyAhead_55 ?_
    refine r_iconst (pc := 56) C dL_nobodyAhead_56 kc_2 ?_
    refine r_n0hI (pc := 57) C Y (Rx.of hRm rfl rfl rfl rfl) (okL_thread h0 Y.1 v2 (2 : Int32) M2 g1) mw_657 cvL_thread rfl rfl (Nat.le_of_ble_eq_true rfl) dL_nobodyAhead_57 (fun o6 M5 => ?_)
    refine r_if_ne (pc := 60) C dL_nobodyAhead_60 (tgt := 90) rfl ?_ ?_
    refine r_iinc (pc := 90) C [(2, .int (v2 + (1 : Int32))), (0, .ref (G.1 19 0 0)), (1, .int v1)] dL_nobodyAhead_90 (p := 2) rfl (ki_1 _) (by decide) rfl ?_
    refine r_goto (pc := 93) C dL_nobodyAhead_93 (tgt := 39) rfl ?_
    refine r_sub [1, 2, 0] rfl ?_
    exact ih v1 (v2 + (1 : Int32)) M5 g_0
    refine r_iload_n (pc := 63) C 1 rfl rfl dL_nobodyAhead_63 ?_
    refine r_if_lt (pc := 64) C dL_nobodyAhead_64 (tgt := 88) rfl ?_ ?_
    refine r_iconst (pc := 88) C dL_nobodyAhead_88 kc_0 ?_
    refine r_wid (cs' := 0) (sl' := 6 * 0) (Nat.le_of_ble_eq_true rfl) (Nat.le_of_ble_eq_true rfl) (r_nok ?_)
    exact r_zret (pc := 89) C dL_nobodyAhead_89
    refine r_aload_n (pc := 67) C 0 rfl rfl dL_nobodyAhead_67 ?_
    refine r_getR (pc := 68) C FL_x mw_273 g_0 rfl dL_nobodyAhead_68 (fun g7 => ?_)
    refine r_iload_n (pc := 71) C 2 rfl rfl dL_nobodyAhead_71 ?_
    refine r_iconst (pc := 72) C dL_nobodyAhead_72 kc_1 ?_
    refine r_n0hI (pc := 73) C Y (Rx.of hRm rfl rfl rfl rfl) (okL_thread h0 Y.1 v2 (1 : Int32) M5 g1) mw_657 cvL_thread rfl rfl (Nat.le_of_ble_eq_true rfl) dL_nobodyAhead_73 (fun o9 M8 => ?_)
    refine r_aload_n (pc := 76) C 0 rfl rfl dL_nobodyAhead_76 ?_
    refine r_getR (pc := 77) C FL_x mw_273 g_0 rfl dL_nobodyAhead_77 (fun g10 => ?_)
    refine r_iload_n (pc := 80) C 1 rfl rfl dL_nobodyAhead_80 ?_
    refine r_iconst (pc := 81) C dL_nobodyAhead_81 kc_1 ?_
    refine r_n0hI (pc := 82) C Y (Rx.of hRm rfl rfl rfl rfl) (okL_thread h0 Y.1 v1 (1 : Int32) M8 g1) mw_657 cvL_thread rfl rfl (Nat.le_of_ble_eq_true rfl) dL_nobodyAhead_82 (fun o12 M11 => ?_)
    refine r_icmp_le (pc := 85) C dL_nobodyAhead_85 (tgt := 90) rfl ?_ ?_
    refine r_iinc (pc := 90) C [(2, .int (v2 + (1 : Int32))), (0, .ref (G.1 19 0 0)), (1, .int v1)] dL_nobodyAhead_90 (p := 2) rfl (ki_1 _) (by decide) rfl ?_
    refine r_goto (pc := 93) C dL_nobodyAhead_93 (tgt := 39) rfl ?_
    refine r_sub [1, 2, 0] rfl ?_
    exact ih v1 (v2 + (1 : Int32)) M11 g_0
    refine r_iconst (pc := 88) C dL_nobodyAhead_88 kc_0 ?_
    refine r_wid (cs' := 0) (sl' := 6 * 0) (Nat.le_of_ble_eq_true rfl) (Nat.le_of_ble_eq_true rfl) (r_nok ?_)
    exact r_zret (pc := 89) C dL_nobodyAhead_89
def pL_nobodyAhead (M : Mem) : Option (Int32 × Mem) :=
    bnd (pX7_next M) fun o3 M2 => bnd (pL_count (0 : Int32) M2) fun o6 M5 => if 0 < o6 then (chk (decide ((1 : Int32) = 0 ∨ (1 : Int32) = 1)) (some ((1 : Int32), M5)))
    else if o3 < 0 then (pL_nobodyAhead_39   fu o3 (0 : Int32) M5)
    else bnd (pL_thread o3 (2 : Int32) M5) fun o9 M8 => if o9 = 0 then (pL_nobodyAhead_39   fu o3 (0 : Int32) M8)
    else chk (decide ((1 : Int32) = 0 ∨ (1 : Int32) = 1)) (some ((1 : Int32), M8))
theorem lL_nobodyAhead_0 {K : KT} {G : WT} (C : Cx K G "PermitParkLaw" cL_nobodyAhead 3 (some FieldType.boolean)) (hRm : K.2.2.2.1 = rmX 7 163 0) (Y : Cy0 K) (h0 : W0 G) (M : Mem) (h_0 : G.2.2.2.1 19 0 0) : Run K G 3 0 (6 * 0) (FinN K G voI 0) 0 [(0, .ref (G.1 19 0 0))] [] M (pL_nobodyAhead    M) := by
  rw [pL_nobodyAhead]
  refine r_aload_n (pc := 0) C 0 rfl rfl dL_nobodyAhead_0 ?_
  refine r_getR (pc := 1) C FL_x mw_273 h_0 rfl dL_nobodyAhead_1 (fun g1 => ?_)
  refine r_wVI (pc := 4) C (Rx.of hRm rfl rfl rfl rfl) (okX7_next h0 M g1) (Rc.of C rfl rfl g1) mw_485 cvX7_next rfl rfl (Nat.le_of_ble_eq_true rfl) dL_nobodyAhead_4 (fun o3 M2 => ?_)
  refine r_istore_n (pc := 7) C [(1, .int o3), (0, .ref (G.1 19 0 0))] dL_nobodyAhead_7 rfl (by decide) rfl ?_
  refine r_aload_n (pc := 8) C 1 rfl rfl dL_nobodyAhead_8 ?_
  refine r_getR (pc := 9) C FL_x mw_273 h_0 rfl dL_nobodyAhead_9 (fun g4 => ?_)
  refine r_iconst (pc := 12) C dL_nobodyAhead_12 kc_0 ?_
  refine r_n0hI (pc := 13) C Y (Rx.of hRm rfl rfl rfl rfl) (okL_count h0 Y.1 (0 : Int32) M2 g1) mw_638 cvL_count rfl rfl (Nat.le_of_ble_eq_true rfl) dL_nobodyAhead_13 (fun o6 M5 => ?_)
  refine r_if_gt (pc := 16) C dL_nobodyAhead_16 (tgt := 35) rfl ?_ ?_
  refine r_iconst (pc := 35) C dL_nobodyAhead_35 kc_1 ?_
  refine r_wid (cs' := 0) (sl' := 6 * 0) (Nat.le_of_ble_eq_true rfl) (Nat.le_of_ble_eq_true rfl) (r_nok ?_)
  exact r_zret (pc := 36) C dL_nobodyAhead_36
  refine r_iload_n (pc := 19) C 0 rfl rfl dL_nobodyAhead_19 ?_
  refine r_if_lt (pc := 20) C dL_nobodyAhead_20 (tgt := 37) rfl ?_ ?_
  refine r_iconst (pc := 37) C dL_nobodyAhead_37 kc_0 ?_
  refine r_istore_n (pc := 38) C [(2, .int (0 : Int32)), (1, .int o3), (0, .ref (G.1 19 0 0))] dL_nobodyAhead_38 rfl (by decide) rfl ?_
  refine r_sub [2, 1, 0] rfl ?_
  exact lL_nobodyAhead_39   C hRm Y h0  fu o3 (0 : Int32) M5 h_0
  refine r_aload_n (pc := 23) C 1 rfl rfl dL_nobodyAhead_23 ?_
  refine r_getR (pc := 24) C FL_x mw_273 h_0 rfl dL_nobodyAhead_24 (fun g7 => ?_)
  refine r_iload_n (pc := 27) C 0 rfl rfl dL_nobodyAhead_27 ?_
  refine r_iconst (pc := 28) C dL_nobodyAhead_28 kc_2 ?_
  refine r_n0hI (pc := 29) C Y (Rx.of hRm rfl rfl rfl rfl) (okL_thread h0 Y.1 o3 (2 : Int32) M5 g1) mw_657 cvL_thread rfl rfl (Nat.le_of_ble_eq_true rfl) dL_nobodyAhead_29 (fun o9 M8 => ?_)
  refine r_if_eq (pc := 32) C dL_nobodyAhead_32 (tgt := 37) rfl ?_ ?_
  refine r_iconst (pc := 37) C dL_nobodyAhead_37 kc_0 ?_
  refine r_istore_n (pc := 38) C [(2, .int (0 : Int32)), (1, .int o3), (0, .ref (G.1 19 0 0))] dL_nobodyAhead_38 rfl (by decide) rfl ?_
  refine r_sub [2, 1, 0] rfl ?_
  exact lL_nobodyAhead_39   C hRm Y h0  fu o3 (0 : Int32) M8 h_0
  refine r_iconst (pc := 35) C dL_nobodyAhead_35 kc_1 ?_
  refine r_wid (cs' := 0) (sl' := 6 * 0) (Nat.le_of_ble_eq_true rfl) (Nat.le_of_ble_eq_true rfl) (r_nok ?_)
  exact r_zret (pc := 36) C dL_nobodyAhead_36
theorem okL_nobodyAhead {l : Launch} {G : WT} (h0 : W0 G) (hT : l.stackTraces = false) (M : Mem) (h_0 : G.2.2.2.1 19 0 0) : OkX l G yL_nobodyAhead cL_nobodyAhead 3 (some FieldType.boolean) 7 163 0 [.ref (G.1 19 0 0)] voI M (xok (pL_nobodyAhead   M)) :=
  OkX.of "PermitParkLaw" rfl (by decide) (Nat.le_of_ble_eq_true rfl) (L := [(0, .ref (G.1 19 0 0))]) rfl hT (fun K _ hr Y C => r_ofN (lL_nobodyAhead_0 C hr Y.1 h0  M h_0))
def pL_calls_221 (Z : Nat × (Nat → Int32)) (s0 : Int32) (s1 : Int32) (M : Mem) : Option (Int32 × Mem) :=
    if ¬ s1 = s0 then (chk (decide ((0 : Int32) = 0 ∨ (0 : Int32) = 1)) (some ((0 : Int32), M)))
    else chk (decide ((1 : Int32) = 0 ∨ (1 : Int32) = 1)) (some ((1 : Int32), M))
theorem lL_calls_221 {K : KT} {G : WT} (C : Cx K G "PermitParkLaw" cL_calls 12 (some FieldType.boolean)) (hRm : K.2.2.2.1 = rmX 6 135 0) (Y : Cy0 K) (h0 : W0 G) (s0 : Int32) (s1 : Int32) (M : Mem) : Run K G 12 0 (6 * 0) (FinN K G voI 0) 221 [] [.int s0, .int s1] M (pL_calls_221 (scr G)  s0 s1 M) := by
  rw [pL_calls_221]
  refine r_icmp_ne (pc := 221) C dL_calls_221 (tgt := 228) rfl ?_ ?_
  refine r_iconst (pc := 228) C dL_calls_228 kc_0 ?_
  refine r_wid (cs' := 0) (sl' := 6 * 0) (Nat.le_of_ble_eq_true rfl) (Nat.le_of_ble_eq_true rfl) (r_nok ?_)
  exact r_zret (pc := 229) C dL_calls_229
  refine r_iconst (pc := 224) C dL_calls_224 kc_1 ?_
  refine r_goto (pc := 225) C dL_calls_225 (tgt := 229) rfl ?_
  refine r_wid (cs' := 0) (sl' := 6 * 0) (Nat.le_of_ble_eq_true rfl) (Nat.le_of_ble_eq_true rfl) (r_nok ?_)
  exact r_zret (pc := 229) C dL_calls_229
def pL_calls_301 (Z : Nat × (Nat → Int32)) (v9 : Int32) (s0 : Int32) (s1 : Int32) (s2 : Int32) (M : Mem) : Option (Int32 × Mem) :=
    if ¬ s2 = (s1 + s0) then (chk (decide ((0 : Int32) = 0 ∨ (0 : Int32) = 1)) (some ((0 : Int32), M)))
    else bnd (pL_events (1 : Int32) (-1 : Int32) M) fun o3 M2 => if v9 < o3 then (chk (decide ((0 : Int32) = 0 ∨ (0 : Int32) = 1)) (some ((0 : Int32), M2)))
    else chk (decide ((1 : Int32) = 0 ∨ (1 : Int32) = 1)) (some ((1 : Int32), M2))
theorem lL_calls_301 {K : KT} {G : WT} (C : Cx K G "PermitParkLaw" cL_calls 12 (some FieldType.boolean)) (hRm : K.2.2.2.1 = rmX 6 135 0) (Y : Cy0 K) (h0 : W0 G) (v9 : Int32) (s0 : Int32) (s1 : Int32) (s2 : Int32) (M : Mem) (g_0 : G.2.2.2.1 19 0 0) : Run K G 12 0 (6 * 0) (FinN K G voI 0) 301 [(0, .ref (G.1 19 0 0)), (9, .int v9)] [.int s0, .int s1, .int s2] M (pL_calls_301 (scr G)  v9 s0 s1 s2 M) := by
  rw [pL_calls_301]
  refine r_iadd (pc := 301) C dL_calls_301 ?_
  refine r_icmp_ne (pc := 302) C dL_calls_302 (tgt := 323) rfl ?_ ?_
  refine r_iconst (pc := 323) C dL_calls_323 kc_0 ?_
  refine r_wid (cs' := 0) (sl' := 6 * 0) (Nat.le_of_ble_eq_true rfl) (Nat.le_of_ble_eq_true rfl) (r_nok ?_)
  exact r_zret (pc := 324) C dL_calls_324
  refine r_aload_n (pc := 305) C 0 rfl rfl dL_calls_305 ?_
  refine r_getR (pc := 306) C FL_x mw_273 g_0 rfl dL_calls_306 (fun g1 => ?_)
  refine r_iconst (pc := 309) C dL_calls_309 kc_1 ?_
  refine r_iconst (pc := 310) C dL_calls_310 kc_m1 ?_
  refine r_n0hI (pc := 311) C Y (Rx.of hRm rfl rfl rfl rfl) (okL_events h0 Y.1 (1 : Int32) (-1 : Int32) M g1) mw_689 cvL_events rfl rfl (Nat.le_of_ble_eq_true rfl) dL_calls_311 (fun o3 M2 => ?_)
  refine r_iload (pc := 314) C 1 rfl dL_calls_314 ?_
  refine r_icmp_gt (pc := 316) C dL_calls_316 (tgt := 323) rfl ?_ ?_
  refine r_iconst (pc := 323) C dL_calls_323 kc_0 ?_
  refine r_wid (cs' := 0) (sl' := 6 * 0) (Nat.le_of_ble_eq_true rfl) (Nat.le_of_ble_eq_true rfl) (r_nok ?_)
  exact r_zret (pc := 324) C dL_calls_324
  refine r_iconst (pc := 319) C dL_calls_319 kc_1 ?_
  refine r_goto (pc := 320) C dL_calls_320 (tgt := 324) rfl ?_
  refine r_wid (cs' := 0) (sl' := 6 * 0) (Nat.le_of_ble_eq_true rfl) (Nat.le_of_ble_eq_true rfl) (r_nok ?_)
  exact r_zret (pc := 324) C dL_calls_324
def pL_calls_275 (Z : Nat × (Nat → Int32)) (v8 : Int32) (v9 : Int32) (v10 : Int32) (s0 : Int32) (s1 : Int32) (s2 : Int32) (M : Mem) : Option (Int32 × Mem) :=
    if ¬ s2 = (s1 + s0) then (chk (decide ((0 : Int32) = 0 ∨ (0 : Int32) = 1)) (some ((0 : Int32), M)))
    else bnd (pL_count (15 : Int32) M) fun o3 M2 => if ¬ v10 = (3 : Int32) then (pL_calls_301 Z   v9 (0 : Int32) v8 o3 M2)
    else pL_calls_301 Z   v9 (1 : Int32) v8 o3 M2
theorem lL_calls_275 {K : KT} {G : WT} (C : Cx K G "PermitParkLaw" cL_calls 12 (some FieldType.boolean)) (hRm : K.2.2.2.1 = rmX 6 135 0) (Y : Cy0 K) (h0 : W0 G) (v8 : Int32) (v9 : Int32) (v10 : Int32) (s0 : Int32) (s1 : Int32) (s2 : Int32) (M : Mem) (g_0 : G.2.2.2.1 19 0 0) : Run K G 12 0 (6 * 0) (FinN K G voI 0) 275 [(0, .ref (G.1 19 0 0)), (8, .int v8), (9, .int v9), (10, .int v10)] [.int s0, .int s1, .int s2] M (pL_calls_275 (scr G)  v8 v9 v10 s0 s1 s2 M) := by
  rw [pL_calls_275]
  refine r_iadd (pc := 275) C dL_calls_275 ?_
  refine r_icmp_ne (pc := 276) C dL_calls_276 (tgt := 323) rfl ?_ ?_
  refine r_iconst (pc := 323) C dL_calls_323 kc_0 ?_
  refine r_wid (cs' := 0) (sl' := 6 * 0) (Nat.le_of_ble_eq_true rfl) (Nat.le_of_ble_eq_true rfl) (r_nok ?_)
  exact r_zret (pc := 324) C dL_calls_324
  refine r_aload_n (pc := 279) C 0 rfl rfl dL_calls_279 ?_
  refine r_getR (pc := 280) C FL_x mw_273 g_0 rfl dL_calls_280 (fun g1 => ?_)
  refine r_bipush (pc := 283) C dL_calls_283 kb_15 ?_
  refine r_n0hI (pc := 285) C Y (Rx.of hRm rfl rfl rfl rfl) (okL_count h0 Y.1 (15 : Int32) M g1) mw_638 cvL_count rfl rfl (Nat.le_of_ble_eq_true rfl) dL_calls_285 (fun o3 M2 => ?_)
  refine r_iload (pc := 288) C 1 rfl dL_calls_288 ?_
  refine r_iload (pc := 290) C 3 rfl dL_calls_290 ?_
  refine r_iconst (pc := 292) C dL_calls_292 kc_3 ?_
  refine r_icmp_ne (pc := 293) C dL_calls_293 (tgt := 300) rfl ?_ ?_
  refine r_iconst (pc := 300) C dL_calls_300 kc_0 ?_
  refine r_sub [0, 2] rfl ?_
  exact lL_calls_301   C hRm Y h0   v9 (0 : Int32) v8 o3 M2 g_0
  refine r_iconst (pc := 296) C dL_calls_296 kc_1 ?_
  refine r_goto (pc := 297) C dL_calls_297 (tgt := 301) rfl ?_
  refine r_sub [0, 2] rfl ?_
  exact lL_calls_301   C hRm Y h0   v9 (1 : Int32) v8 o3 M2 g_0
def pL_calls_250 (Z : Nat × (Nat → Int32)) (v7 : Int32) (v8 : Int32) (v9 : Int32) (v10 : Int32) (s0 : Int32) (s1 : Int32) (M : Mem) : Option (Int32 × Mem) :=
    if ¬ s1 = s0 then (chk (decide ((0 : Int32) = 0 ∨ (0 : Int32) = 1)) (some ((0 : Int32), M)))
    else bnd (pL_count (14 : Int32) M) fun o3 M2 => if ¬ v10 = (2 : Int32) then (pL_calls_275 Z   v8 v9 v10 (0 : Int32) v7 o3 M2)
    else pL_calls_275 Z   v8 v9 v10 (1 : Int32) v7 o3 M2
theorem lL_calls_250 {K : KT} {G : WT} (C : Cx K G "PermitParkLaw" cL_calls 12 (some FieldType.boolean)) (hRm : K.2.2.2.1 = rmX 6 135 0) (Y : Cy0 K) (h0 : W0 G) (v7 : Int32) (v8 : Int32) (v9 : Int32) (v10 : Int32) (s0 : Int32) (s1 : Int32) (M : Mem) (g_0 : G.2.2.2.1 19 0 0) : Run K G 12 0 (6 * 0) (FinN K G voI 0) 250 [(0, .ref (G.1 19 0 0)), (7, .int v7), (8, .int v8), (9, .int v9), (10, .int v10)] [.int s0, .int s1] M (pL_calls_250 (scr G)  v7 v8 v9 v10 s0 s1 M) := by
  rw [pL_calls_250]
  refine r_icmp_ne (pc := 250) C dL_calls_250 (tgt := 323) rfl ?_ ?_
  refine r_iconst (pc := 323) C dL_calls_323 kc_0 ?_
  refine r_wid (cs' := 0) (sl' := 6 * 0) (Nat.le_of_ble_eq_true rfl) (Nat.le_of_ble_eq_true rfl) (r_nok ?_)
  exact r_zret (pc := 324) C dL_calls_324
  refine r_aload_n (pc := 253) C 0 rfl rfl dL_calls_253 ?_
  refine r_getR (pc := 254) C FL_x mw_273 g_0 rfl dL_calls_254 (fun g1 => ?_)
  refine r_bipush (pc := 257) C dL_calls_257 kb_14 ?_
  refine r_n0hI (pc := 259) C Y (Rx.of hRm rfl rfl rfl rfl) (okL_count h0 Y.1 (14 : Int32) M g1) mw_638 cvL_count rfl rfl (Nat.le_of_ble_eq_true rfl) dL_calls_259 (fun o3 M2 => ?_)
  refine r_iload (pc := 262) C 1 rfl dL_calls_262 ?_
  refine r_iload (pc := 264) C 4 rfl dL_calls_264 ?_
  refine r_iconst (pc := 266) C dL_calls_266 kc_2 ?_
  refine r_icmp_ne (pc := 267) C dL_calls_267 (tgt := 274) rfl ?_ ?_
  refine r_iconst (pc := 274) C dL_calls_274 kc_0 ?_
  refine r_sub [0, 2, 3, 4] rfl ?_
  exact lL_calls_275   C hRm Y h0   v8 v9 v10 (0 : Int32) v7 o3 M2 g_0
  refine r_iconst (pc := 270) C dL_calls_270 kc_1 ?_
  refine r_goto (pc := 271) C dL_calls_271 (tgt := 275) rfl ?_
  refine r_sub [0, 2, 3, 4] rfl ?_
  exact lL_calls_275   C hRm Y h0   v8 v9 v10 (1 : Int32) v7 o3 M2 g_0
def pL_calls_176 (Z : Nat × (Nat → Int32)) (v1 : Int32) (v3 : Int32) (v5 : Int32) (v6 : Int32) (v7 : Int32) (v8 : Int32) (v9 : Int32) (v10 : Int32) (s0 : Int32) (s1 : Int32) (M : Mem) : Option (Int32 × Mem) :=
    if s1 = s0 then (if ¬ v10 = 0 then (bnd (pL_thread v1 (4 : Int32) M) fun o3 M2 => if ¬ v10 = (1 : Int32) then (pL_calls_250 Z   v7 v8 v9 v10 v3 o3 M2)
    else pL_calls_250 Z   v7 v8 v9 v10 (1 : Int32) o3 M2)
    else bnd (pL_thread v1 (6 : Int32) M) fun o6 M5 => if ¬ o6 = (1 : Int32) then (chk (decide ((0 : Int32) = 0 ∨ (0 : Int32) = 1)) (some ((0 : Int32), M5)))
    else bnd (pL_thread v1 (2 : Int32) M5) fun o9 M8 => if ¬ v6 = v5 then (pL_calls_221 Z   (0 : Int32) o9 M8)
    else pL_calls_221 Z   (3 : Int32) o9 M8)
    else chk (decide ((0 : Int32) = 0 ∨ (0 : Int32) = 1)) (some ((0 : Int32), M))
theorem lL_calls_176 {K : KT} {G : WT} (C : Cx K G "PermitParkLaw" cL_calls 12 (some FieldType.boolean)) (hRm : K.2.2.2.1 = rmX 6 135 0) (Y : Cy0 K) (h0 : W0 G) (v1 : Int32) (v3 : Int32) (v5 : Int32) (v6 : Int32) (v7 : Int32) (v8 : Int32) (v9 : Int32) (v10 : Int32) (s0 : Int32) (s1 : Int32) (M : Mem) (g_0 : G.2.2.2.1 19 0 0) : Run K G 12 0 (6 * 0) (FinN K G voI 0) 176 [(0, .ref (G.1 19 0 0)), (1, .int v1), (3, .int v3), (5, .int v5), (6, .int v6), (7, .int v7), (8, .int v8), (9, .int v9), (10, .int v10)] [.int s0, .int s1] M (pL_calls_176 (scr G)  v1 v3 v5 v6 v7 v8 v9 v10 s0 s1 M) := by
  rw [pL_calls_176]
  refine r_icmp_eq (pc := 176) C dL_calls_176 (tgt := 181) rfl ?_ ?_
  refine r_iload (pc := 181) C 8 rfl dL_calls_181 ?_
  refine r_if_ne (pc := 183) C dL_calls_183 (tgt := 230) rfl ?_ ?_
  refine r_aload_n (pc := 230) C 0 rfl rfl dL_calls_230 ?_
  refine r_getR (pc := 231) C FL_x mw_273 g_0 rfl dL_calls_231 (fun g1 => ?_)
  refine r_iload_n (pc := 234) C 1 rfl rfl dL_calls_234 ?_
  refine r_iconst (pc := 235) C dL_calls_235 kc_4 ?_
  refine r_n0hI (pc := 236) C Y (Rx.of hRm rfl rfl rfl rfl) (okL_thread h0 Y.1 v1 (4 : Int32) M g1) mw_657 cvL_thread rfl rfl (Nat.le_of_ble_eq_true rfl) dL_calls_236 (fun o3 M2 => ?_)
  refine r_iload (pc := 239) C 8 rfl dL_calls_239 ?_
  refine r_iconst (pc := 241) C dL_calls_241 kc_1 ?_
  refine r_icmp_ne (pc := 242) C dL_calls_242 (tgt := 249) rfl ?_ ?_
  refine r_iload_n (pc := 249) C 2 rfl rfl dL_calls_249 ?_
  refine r_sub [0, 5, 6, 7, 8] rfl ?_
  exact lL_calls_250   C hRm Y h0   v7 v8 v9 v10 v3 o3 M2 g_0
  refine r_iconst (pc := 245) C dL_calls_245 kc_1 ?_
  refine r_goto (pc := 246) C dL_calls_246 (tgt := 250) rfl ?_
  refine r_sub [0, 5, 6, 7, 8] rfl ?_
  exact lL_calls_250   C hRm Y h0   v7 v8 v9 v10 (1 : Int32) o3 M2 g_0
  refine r_aload_n (pc := 186) C 0 rfl rfl dL_calls_186 ?_
  refine r_getR (pc := 187) C FL_x mw_273 g_0 rfl dL_calls_187 (fun g4 => ?_)
  refine r_iload_n (pc := 190) C 1 rfl rfl dL_calls_190 ?_
  refine r_bipush (pc := 191) C dL_calls_191 kb_6 ?_
  refine r_n0hI (pc := 193) C Y (Rx.of hRm rfl rfl rfl rfl) (okL_thread h0 Y.1 v1 (6 : Int32) M g4) mw_657 cvL_thread rfl rfl (Nat.le_of_ble_eq_true rfl) dL_calls_193 (fun o6 M5 => ?_)
  refine r_iconst (pc := 196) C dL_calls_196 kc_1 ?_
  refine r_icmp_ne (pc := 197) C dL_calls_197 (tgt := 228) rfl ?_ ?_
  refine r_iconst (pc := 228) C dL_calls_228 kc_0 ?_
  refine r_wid (cs' := 0) (sl' := 6 * 0) (Nat.le_of_ble_eq_true rfl) (Nat.le_of_ble_eq_true rfl) (r_nok ?_)
  exact r_zret (pc := 229) C dL_calls_229
  refine r_aload_n (pc := 200) C 0 rfl rfl dL_calls_200 ?_
  refine r_getR (pc := 201) C FL_x mw_273 g_0 rfl dL_calls_201 (fun g7 => ?_)
  refine r_iload_n (pc := 204) C 1 rfl rfl dL_calls_204 ?_
  refine r_iconst (pc := 205) C dL_calls_205 kc_2 ?_
  refine r_n0hI (pc := 206) C Y (Rx.of hRm rfl rfl rfl rfl) (okL_thread h0 Y.1 v1 (2 : Int32) M5 g4) mw_657 cvL_thread rfl rfl (Nat.le_of_ble_eq_true rfl) dL_calls_206 (fun o9 M8 => ?_)
  refine r_iload (pc := 209) C 4 rfl dL_calls_209 ?_
  refine r_iload (pc := 211) C 3 rfl dL_calls_211 ?_
  refine r_icmp_ne (pc := 213) C dL_calls_213 (tgt := 220) rfl ?_ ?_
  refine r_iconst (pc := 220) C dL_calls_220 kc_0 ?_
  refine r_sub [] rfl ?_
  exact lL_calls_221   C hRm Y h0   (0 : Int32) o9 M8 
  refine r_iconst (pc := 216) C dL_calls_216 kc_3 ?_
  refine r_goto (pc := 217) C dL_calls_217 (tgt := 221) rfl ?_
  refine r_sub [] rfl ?_
  exact lL_calls_221   C hRm Y h0   (3 : Int32) o9 M8 
  refine r_iconst (pc := 179) C dL_calls_179 kc_0 ?_
  refine r_wid (cs' := 0) (sl' := 6 * 0) (Nat.le_of_ble_eq_true rfl) (Nat.le_of_ble_eq_true rfl) (r_nok ?_)
  exact r_zret (pc := 180) C dL_calls_180
def pL_calls_432 (Z : Nat × (Nat → Int32)) (s0 : Int32) (s1 : Int32) (M : Mem) : Option (Int32 × Mem) :=
    if ¬ s1 = s0 then (chk (decide ((0 : Int32) = 0 ∨ (0 : Int32) = 1)) (some ((0 : Int32), M)))
    else chk (decide ((1 : Int32) = 0 ∨ (1 : Int32) = 1)) (some ((1 : Int32), M))
theorem lL_calls_432 {K : KT} {G : WT} (C : Cx K G "PermitParkLaw" cL_calls 12 (some FieldType.boolean)) (hRm : K.2.2.2.1 = rmX 6 135 0) (Y : Cy0 K) (h0 : W0 G) (s0 : Int32) (s1 : Int32) (M : Mem) : Run K G 12 0 (6 * 0) (FinN K G voI 0) 432 [] [.int s0, .int s1] M (pL_calls_432 (scr G)  s0 s1 M) := by
  rw [pL_calls_432]
  refine r_icmp_ne (pc := 432) C dL_calls_432 (tgt := 439) rfl ?_ ?_
  refine r_iconst (pc := 439) C dL_calls_439 kc_0 ?_
  refine r_wid (cs' := 0) (sl' := 6 * 0) (Nat.le_of_ble_eq_true rfl) (Nat.le_of_ble_eq_true rfl) (r_nok ?_)
  exact r_zret (pc := 440) C dL_calls_440
  refine r_iconst (pc := 435) C dL_calls_435 kc_1 ?_
  refine r_goto (pc := 436) C dL_calls_436 (tgt := 440) rfl ?_
  refine r_wid (cs' := 0) (sl' := 6 * 0) (Nat.le_of_ble_eq_true rfl) (Nat.le_of_ble_eq_true rfl) (r_nok ?_)
  exact r_zret (pc := 440) C dL_calls_440
def pL_calls_366 (Z : Nat × (Nat → Int32)) (v1 : Int32) (v2 : Int32) (v4 : Int32) (v10 : Int32) (s0 : Int32) (s1 : Int32) (M : Mem) : Option (Int32 × Mem) :=
    if s1 = s0 then (if ¬ v10 = 0 then (bnd (pL_thread v1 (2 : Int32) M) fun o3 M2 => if ¬ o3 = v2 then (chk (decide ((0 : Int32) = 0 ∨ (0 : Int32) = 1)) (some ((0 : Int32), M2)))
    else bnd (pL_thread v1 (5 : Int32) M2) fun o6 M5 => if ¬ v10 = (3 : Int32) then (pL_calls_432 Z   (1 : Int32) o6 M5)
    else pL_calls_432 Z   v4 o6 M5)
    else bnd (pL_thread v1 (6 : Int32) M) fun o9 M8 => if ¬ o9 = (4 : Int32) then (chk (decide ((0 : Int32) = 0 ∨ (0 : Int32) = 1)) (some ((0 : Int32), M8)))
    else chk (decide ((1 : Int32) = 0 ∨ (1 : Int32) = 1)) (some ((1 : Int32), M8)))
    else chk (decide ((0 : Int32) = 0 ∨ (0 : Int32) = 1)) (some ((0 : Int32), M))
theorem lL_calls_366 {K : KT} {G : WT} (C : Cx K G "PermitParkLaw" cL_calls 12 (some FieldType.boolean)) (hRm : K.2.2.2.1 = rmX 6 135 0) (Y : Cy0 K) (h0 : W0 G) (v1 : Int32) (v2 : Int32) (v4 : Int32) (v10 : Int32) (s0 : Int32) (s1 : Int32) (M : Mem) (g_0 : G.2.2.2.1 19 0 0) : Run K G 12 0 (6 * 0) (FinN K G voI 0) 366 [(0, .ref (G.1 19 0 0)), (1, .int v1), (2, .int v2), (4, .int v4), (10, .int v10)] [.int s0, .int s1] M (pL_calls_366 (scr G)  v1 v2 v4 v10 s0 s1 M) := by
  rw [pL_calls_366]
  refine r_icmp_eq (pc := 366) C dL_calls_366 (tgt := 371) rfl ?_ ?_
  refine r_iload (pc := 371) C 4 rfl dL_calls_371 ?_
  refine r_if_ne (pc := 373) C dL_calls_373 (tgt := 398) rfl ?_ ?_
  refine r_aload_n (pc := 398) C 0 rfl rfl dL_calls_398 ?_
  refine r_getR (pc := 399) C FL_x mw_273 g_0 rfl dL_calls_399 (fun g1 => ?_)
  refine r_iload_n (pc := 402) C 1 rfl rfl dL_calls_402 ?_
  refine r_iconst (pc := 403) C dL_calls_403 kc_2 ?_
  refine r_n0hI (pc := 404) C Y (Rx.of hRm rfl rfl rfl rfl) (okL_thread h0 Y.1 v1 (2 : Int32) M g1) mw_657 cvL_thread rfl rfl (Nat.le_of_ble_eq_true rfl) dL_calls_404 (fun o3 M2 => ?_)
  refine r_iload_n (pc := 407) C 2 rfl rfl dL_calls_407 ?_
  refine r_icmp_ne (pc := 408) C dL_calls_408 (tgt := 439) rfl ?_ ?_
  refine r_iconst (pc := 439) C dL_calls_439 kc_0 ?_
  refine r_wid (cs' := 0) (sl' := 6 * 0) (Nat.le_of_ble_eq_true rfl) (Nat.le_of_ble_eq_true rfl) (r_nok ?_)
  exact r_zret (pc := 440) C dL_calls_440
  refine r_aload_n (pc := 411) C 0 rfl rfl dL_calls_411 ?_
  refine r_getR (pc := 412) C FL_x mw_273 g_0 rfl dL_calls_412 (fun g4 => ?_)
  refine r_iload_n (pc := 415) C 1 rfl rfl dL_calls_415 ?_
  refine r_iconst (pc := 416) C dL_calls_416 kc_5 ?_
  refine r_n0hI (pc := 417) C Y (Rx.of hRm rfl rfl rfl rfl) (okL_thread h0 Y.1 v1 (5 : Int32) M2 g1) mw_657 cvL_thread rfl rfl (Nat.le_of_ble_eq_true rfl) dL_calls_417 (fun o6 M5 => ?_)
  refine r_iload (pc := 420) C 4 rfl dL_calls_420 ?_
  refine r_iconst (pc := 422) C dL_calls_422 kc_3 ?_
  refine r_icmp_ne (pc := 423) C dL_calls_423 (tgt := 431) rfl ?_ ?_
  refine r_iconst (pc := 431) C dL_calls_431 kc_1 ?_
  refine r_sub [] rfl ?_
  exact lL_calls_432   C hRm Y h0   (1 : Int32) o6 M5 
  refine r_iload (pc := 426) C 3 rfl dL_calls_426 ?_
  refine r_goto (pc := 428) C dL_calls_428 (tgt := 432) rfl ?_
  refine r_sub [] rfl ?_
  exact lL_calls_432   C hRm Y h0   v4 o6 M5 
  refine r_aload_n (pc := 376) C 0 rfl rfl dL_calls_376 ?_
  refine r_getR (pc := 377) C FL_x mw_273 g_0 rfl dL_calls_377 (fun g7 => ?_)
  refine r_iload_n (pc := 380) C 1 rfl rfl dL_calls_380 ?_
  refine r_bipush (pc := 381) C dL_calls_381 kb_6 ?_
  refine r_n0hI (pc := 383) C Y (Rx.of hRm rfl rfl rfl rfl) (okL_thread h0 Y.1 v1 (6 : Int32) M g7) mw_657 cvL_thread rfl rfl (Nat.le_of_ble_eq_true rfl) dL_calls_383 (fun o9 M8 => ?_)
  refine r_iconst (pc := 386) C dL_calls_386 kc_4 ?_
  refine r_icmp_ne (pc := 387) C dL_calls_387 (tgt := 394) rfl ?_ ?_
  refine r_iconst (pc := 394) C dL_calls_394 kc_0 ?_
  refine r_goto (pc := 395) C dL_calls_395 (tgt := 440) rfl ?_
  refine r_wid (cs' := 0) (sl' := 6 * 0) (Nat.le_of_ble_eq_true rfl) (Nat.le_of_ble_eq_true rfl) (r_nok ?_)
  exact r_zret (pc := 440) C dL_calls_440
  refine r_iconst (pc := 390) C dL_calls_390 kc_1 ?_
  refine r_goto (pc := 391) C dL_calls_391 (tgt := 440) rfl ?_
  refine r_wid (cs' := 0) (sl' := 6 * 0) (Nat.le_of_ble_eq_true rfl) (Nat.le_of_ble_eq_true rfl) (r_nok ?_)
  exact r_zret (pc := 440) C dL_calls_440
  refine r_iconst (pc := 369) C dL_calls_369 kc_0 ?_
  refine r_wid (cs' := 0) (sl' := 6 * 0) (Nat.le_of_ble_eq_true rfl) (Nat.le_of_ble_eq_true rfl) (r_nok ?_)
  exact r_zret (pc := 370) C dL_calls_370
def pL_calls_459 (Z : Nat × (Nat → Int32)) (v1 : Int32) (v2 : Int32) (s0 : Int32) (s1 : Int32) (M : Mem) : Option (Int32 × Mem) :=
    if ¬ s1 = s0 then (chk (decide ((0 : Int32) = 0 ∨ (0 : Int32) = 1)) (some ((0 : Int32), M)))
    else if ¬ v2 = (1 : Int32) then (chk (decide ((1 : Int32) = 0 ∨ (1 : Int32) = 1)) (some ((1 : Int32), M)))
    else bnd (pL_thread v1 (6 : Int32) M) fun o3 M2 => if ¬ o3 = (3 : Int32) then (chk (decide ((0 : Int32) = 0 ∨ (0 : Int32) = 1)) (some ((0 : Int32), M2)))
    else chk (decide ((1 : Int32) = 0 ∨ (1 : Int32) = 1)) (some ((1 : Int32), M2))
theorem lL_calls_459 {K : KT} {G : WT} (C : Cx K G "PermitParkLaw" cL_calls 12 (some FieldType.boolean)) (hRm : K.2.2.2.1 = rmX 6 135 0) (Y : Cy0 K) (h0 : W0 G) (v1 : Int32) (v2 : Int32) (s0 : Int32) (s1 : Int32) (M : Mem) (g_0 : G.2.2.2.1 19 0 0) : Run K G 12 0 (6 * 0) (FinN K G voI 0) 459 [(0, .ref (G.1 19 0 0)), (1, .int v1), (2, .int v2)] [.int s0, .int s1] M (pL_calls_459 (scr G)  v1 v2 s0 s1 M) := by
  rw [pL_calls_459]
  refine r_icmp_ne (pc := 459) C dL_calls_459 (tgt := 485) rfl ?_ ?_
  refine r_iconst (pc := 485) C dL_calls_485 kc_0 ?_
  refine r_wid (cs' := 0) (sl' := 6 * 0) (Nat.le_of_ble_eq_true rfl) (Nat.le_of_ble_eq_true rfl) (r_nok ?_)
  exact r_zret (pc := 486) C dL_calls_486
  refine r_iload_n (pc := 462) C 2 rfl rfl dL_calls_462 ?_
  refine r_iconst (pc := 463) C dL_calls_463 kc_1 ?_
  refine r_icmp_ne (pc := 464) C dL_calls_464 (tgt := 481) rfl ?_ ?_
  refine r_iconst (pc := 481) C dL_calls_481 kc_1 ?_
  refine r_goto (pc := 482) C dL_calls_482 (tgt := 486) rfl ?_
  refine r_wid (cs' := 0) (sl' := 6 * 0) (Nat.le_of_ble_eq_true rfl) (Nat.le_of_ble_eq_true rfl) (r_nok ?_)
  exact r_zret (pc := 486) C dL_calls_486
  refine r_aload_n (pc := 467) C 0 rfl rfl dL_calls_467 ?_
  refine r_getR (pc := 468) C FL_x mw_273 g_0 rfl dL_calls_468 (fun g1 => ?_)
  refine r_iload_n (pc := 471) C 1 rfl rfl dL_calls_471 ?_
  refine r_bipush (pc := 472) C dL_calls_472 kb_6 ?_
  refine r_n0hI (pc := 474) C Y (Rx.of hRm rfl rfl rfl rfl) (okL_thread h0 Y.1 v1 (6 : Int32) M g1) mw_657 cvL_thread rfl rfl (Nat.le_of_ble_eq_true rfl) dL_calls_474 (fun o3 M2 => ?_)
  refine r_iconst (pc := 477) C dL_calls_477 kc_3 ?_
  refine r_icmp_ne (pc := 478) C dL_calls_478 (tgt := 485) rfl ?_ ?_
  refine r_iconst (pc := 485) C dL_calls_485 kc_0 ?_
  refine r_wid (cs' := 0) (sl' := 6 * 0) (Nat.le_of_ble_eq_true rfl) (Nat.le_of_ble_eq_true rfl) (r_nok ?_)
  exact r_zret (pc := 486) C dL_calls_486
  refine r_iconst (pc := 481) C dL_calls_481 kc_1 ?_
  refine r_goto (pc := 482) C dL_calls_482 (tgt := 486) rfl ?_
  refine r_wid (cs' := 0) (sl' := 6 * 0) (Nat.le_of_ble_eq_true rfl) (Nat.le_of_ble_eq_true rfl) (r_nok ?_)
  exact r_zret (pc := 486) C dL_calls_486
def pL_calls_522 (Z : Nat × (Nat → Int32)) (v1 : Int32) (v2 : Int32) (v10 : Int32) (v11 : Int32) (s0 : Int32) (s1 : Int32) (M : Mem) : Option (Int32 × Mem) :=
    bnd (pL_setFlag s1 s0 M) fun o2 M1 => if ¬ o2 = v11 then (chk (decide ((0 : Int32) = 0 ∨ (0 : Int32) = 1)) (some ((0 : Int32), M1)))
    else bnd (pL_flag v10 M1) fun o5 M4 => if ¬ o5 = ((1 : Int32) - v11) then (chk (decide ((0 : Int32) = 0 ∨ (0 : Int32) = 1)) (some ((0 : Int32), M4)))
    else bnd (pL_thread v1 (2 : Int32) M4) fun o8 M7 => if ¬ o8 = v2 then (chk (decide ((0 : Int32) = 0 ∨ (0 : Int32) = 1)) (some ((0 : Int32), M7)))
    else chk (decide ((1 : Int32) = 0 ∨ (1 : Int32) = 1)) (some ((1 : Int32), M7))
theorem lL_calls_522 {K : KT} {G : WT} (C : Cx K G "PermitParkLaw" cL_calls 12 (some FieldType.boolean)) (hRm : K.2.2.2.1 = rmX 6 135 0) (Y : Cy0 K) (h0 : W0 G) (v1 : Int32) (v2 : Int32) (v10 : Int32) (v11 : Int32) (s0 : Int32) (s1 : Int32) (M : Mem) (g_0 : G.2.2.2.1 19 0 0) (g_s2 : G.2.2.2.1 0 0 0) : Run K G 12 0 (6 * 0) (FinN K G voI 0) 522 [(0, .ref (G.1 19 0 0)), (1, .int v1), (2, .int v2), (10, .int v10), (11, .int v11)] [.int s0, .int s1, .ref (G.1 0 0 0)] M (pL_calls_522 (scr G)  v1 v2 v10 v11 s0 s1 M) := by
  rw [pL_calls_522]
  refine r_n0hI (pc := 522) C Y (Rx.of hRm rfl rfl rfl rfl) (okL_setFlag h0 Y.1 s1 s0 M g_s2) mw_740 cvL_setFlag rfl rfl (Nat.le_of_ble_eq_true rfl) dL_calls_522 (fun o2 M1 => ?_)
  refine r_iload (pc := 525) C 4 rfl dL_calls_525 ?_
  refine r_icmp_ne (pc := 527) C dL_calls_527 (tgt := 563) rfl ?_ ?_
  refine r_iconst (pc := 563) C dL_calls_563 kc_0 ?_
  refine r_wid (cs' := 0) (sl' := 6 * 0) (Nat.le_of_ble_eq_true rfl) (Nat.le_of_ble_eq_true rfl) (r_nok ?_)
  exact r_zret (pc := 564) C dL_calls_564
  refine r_aload_n (pc := 530) C 0 rfl rfl dL_calls_530 ?_
  refine r_getR (pc := 531) C FL_x mw_273 g_0 rfl dL_calls_531 (fun g3 => ?_)
  refine r_iload (pc := 534) C 3 rfl dL_calls_534 ?_
  refine r_n0hI (pc := 536) C Y (Rx.of hRm rfl rfl rfl rfl) (okL_flag h0 Y.1 v10 M1 g_s2) mw_732 cvL_flag rfl rfl (Nat.le_of_ble_eq_true rfl) dL_calls_536 (fun o5 M4 => ?_)
  refine r_iconst (pc := 539) C dL_calls_539 kc_1 ?_
  refine r_iload (pc := 540) C 4 rfl dL_calls_540 ?_
  refine r_isub (pc := 542) C dL_calls_542 ?_
  refine r_icmp_ne (pc := 543) C dL_calls_543 (tgt := 563) rfl ?_ ?_
  refine r_iconst (pc := 563) C dL_calls_563 kc_0 ?_
  refine r_wid (cs' := 0) (sl' := 6 * 0) (Nat.le_of_ble_eq_true rfl) (Nat.le_of_ble_eq_true rfl) (r_nok ?_)
  exact r_zret (pc := 564) C dL_calls_564
  refine r_aload_n (pc := 546) C 0 rfl rfl dL_calls_546 ?_
  refine r_getR (pc := 547) C FL_x mw_273 g_0 rfl dL_calls_547 (fun g6 => ?_)
  refine r_iload_n (pc := 550) C 1 rfl rfl dL_calls_550 ?_
  refine r_iconst (pc := 551) C dL_calls_551 kc_2 ?_
  refine r_n0hI (pc := 552) C Y (Rx.of hRm rfl rfl rfl rfl) (okL_thread h0 Y.1 v1 (2 : Int32) M4 g_s2) mw_657 cvL_thread rfl rfl (Nat.le_of_ble_eq_true rfl) dL_calls_552 (fun o8 M7 => ?_)
  refine r_iload_n (pc := 555) C 2 rfl rfl dL_calls_555 ?_
  refine r_icmp_ne (pc := 556) C dL_calls_556 (tgt := 563) rfl ?_ ?_
  refine r_iconst (pc := 563) C dL_calls_563 kc_0 ?_
  refine r_wid (cs' := 0) (sl' := 6 * 0) (Nat.le_of_ble_eq_true rfl) (Nat.le_of_ble_eq_true rfl) (r_nok ?_)
  exact r_zret (pc := 564) C dL_calls_564
  refine r_iconst (pc := 559) C dL_calls_559 kc_1 ?_
  refine r_goto (pc := 560) C dL_calls_560 (tgt := 564) rfl ?_
  refine r_wid (cs' := 0) (sl' := 6 * 0) (Nat.le_of_ble_eq_true rfl) (Nat.le_of_ble_eq_true rfl) (r_nok ?_)
  exact r_zret (pc := 564) C dL_calls_564
def pL_calls (Z : Nat × (Nat → Int32)) (M : Mem) : Option (Int32 × Mem) :=
    bnd (pL_count (2 : Int32) M) fun o3 M2 => bnd (pL_draw Z o3 M2) fun o5 M4 => bnd (pL_thread o5 (2 : Int32) M4) fun o8 M7 => bnd (pL_thread o5 (4 : Int32) M7) fun o11 M10 => bnd (pL_thread o5 (5 : Int32) M10) fun o14 M13 => bnd (pL_thread o5 (18 : Int32) M13) fun o17 M16 => bnd (pL_thread o5 (3 : Int32) M16) fun o20 M19 => bnd (pL_count (14 : Int32) M19) fun o23 M22 => bnd (pL_count (15 : Int32) M22) fun o26 M25 => bnd (pL_events (1 : Int32) (-1 : Int32) M25) fun o29 M28 => bnd (pL_draw Z (5 : Int32) M28) fun o31 M30 => if o31 = (0 : Int32) then (bnd (pL_wake o5 M30) fun o35 M34 => if ¬ o8 = (1 : Int32) then (if o8 ≤ (2 : Int32) then (if ¬ o11 = (1 : Int32) then (pL_calls_176 Z   o5 o11 o17 o20 o23 o26 o29 o35 (1 : Int32) o35 M34)
    else pL_calls_176 Z   o5 o11 o17 o20 o23 o26 o29 o35 (2 : Int32) o35 M34)
    else pL_calls_176 Z   o5 o11 o17 o20 o23 o26 o29 o35 (3 : Int32) o35 M34)
    else pL_calls_176 Z   o5 o11 o17 o20 o23 o26 o29 o35 (0 : Int32) o35 M34)
    else if o31 = (1 : Int32) then (bnd (pL_interrupt o5 M30) fun o39 M38 => if ¬ o8 = (1 : Int32) then (if o8 ≤ (2 : Int32) then (if ¬ o14 = (1 : Int32) then (pL_calls_366 Z   o5 o8 o14 o39 (1 : Int32) o39 M38)
    else pL_calls_366 Z   o5 o8 o14 o39 (2 : Int32) o39 M38)
    else pL_calls_366 Z   o5 o8 o14 o39 (3 : Int32) o39 M38)
    else pL_calls_366 Z   o5 o8 o14 o39 (0 : Int32) o39 M38)
    else if o31 = (2 : Int32) then (bnd (pL_rouse o5 M30) fun o43 M42 => if ¬ o8 = (1 : Int32) then (pL_calls_459 Z   o5 o8 (0 : Int32) o43 M42)
    else pL_calls_459 Z   o5 o8 (1 : Int32) o43 M42)
    else if o31 = (3 : Int32) then (bnd (pL_draw Z (8 : Int32) M30) fun o46 M45 => bnd (pL_flag o46 M45) fun o49 M48 => if ¬ o49 = 0 then (pL_calls_522 Z   o5 o8 o46 o49 (0 : Int32) o46 M48)
    else pL_calls_522 Z   o5 o8 o46 o49 (1 : Int32) o46 M48)
    else bnd (pL_draw Z (9 : Int32) M30) fun o52 M51 => nm ((1 : Int32) + o52) fun x53 => bnd (pL_thread o5 (0 : Int32) M51) fun o56 M55 => bnd (pL_setBase o5 x53 M55) fun o59 M58 => if ¬ o59 = o56 then (chk (decide ((0 : Int32) = 0 ∨ (0 : Int32) = 1)) (some ((0 : Int32), M58)))
    else bnd (pL_thread o5 (0 : Int32) M58) fun o62 M61 => if ¬ o62 = x53 then (chk (decide ((0 : Int32) = 0 ∨ (0 : Int32) = 1)) (some ((0 : Int32), M61)))
    else chk (decide ((1 : Int32) = 0 ∨ (1 : Int32) = 1)) (some ((1 : Int32), M61))
theorem lL_calls_0 {K : KT} {G : WT} (C : Cx K G "PermitParkLaw" cL_calls 12 (some FieldType.boolean)) (hRm : K.2.2.2.1 = rmX 6 135 0) (Y : Cy0 K) (h0 : W0 G) (M : Mem) (h_0 : G.2.2.2.1 19 0 0) : Run K G 12 0 (6 * 0) (FinN K G voI 0) 0 [(0, .ref (G.1 19 0 0))] [] M (pL_calls (scr G)   M) := by
  rw [pL_calls]
  refine r_aload_n (pc := 0) C 0 rfl rfl dL_calls_0 ?_
  refine r_aload_n (pc := 1) C 0 rfl rfl dL_calls_1 ?_
  refine r_getR (pc := 2) C FL_x mw_273 h_0 rfl dL_calls_2 (fun g1 => ?_)
  refine r_iconst (pc := 5) C dL_calls_5 kc_2 ?_
  refine r_n0hI (pc := 6) C Y (Rx.of hRm rfl rfl rfl rfl) (okL_count h0 Y.1 (2 : Int32) M g1) mw_638 cvL_count rfl rfl (Nat.le_of_ble_eq_true rfl) dL_calls_6 (fun o3 M2 => ?_)
  refine r_wVI (pc := 9) C (Rx.of hRm rfl rfl rfl rfl) (okL_draw h0 o3 M2 h_0) (Rc.of C rfl rfl h_0) mw_291 cvL_draw rfl rfl (Nat.le_of_ble_eq_true rfl) dL_calls_9 (fun o5 M4 => ?_)
  refine r_istore_n (pc := 12) C [(1, .int o5), (0, .ref (G.1 19 0 0))] dL_calls_12 rfl (by decide) rfl ?_
  refine r_aload_n (pc := 13) C 1 rfl rfl dL_calls_13 ?_
  refine r_getR (pc := 14) C FL_x mw_273 h_0 rfl dL_calls_14 (fun g6 => ?_)
  refine r_iload_n (pc := 17) C 0 rfl rfl dL_calls_17 ?_
  refine r_iconst (pc := 18) C dL_calls_18 kc_2 ?_
  refine r_n0hI (pc := 19) C Y (Rx.of hRm rfl rfl rfl rfl) (okL_thread h0 Y.1 o5 (2 : Int32) M4 g1) mw_657 cvL_thread rfl rfl (Nat.le_of_ble_eq_true rfl) dL_calls_19 (fun o8 M7 => ?_)
  refine r_istore_n (pc := 22) C [(2, .int o8), (1, .int o5), (0, .ref (G.1 19 0 0))] dL_calls_22 rfl (by decide) rfl ?_
  refine r_aload_n (pc := 23) C 2 rfl rfl dL_calls_23 ?_
  refine r_getR (pc := 24) C FL_x mw_273 h_0 rfl dL_calls_24 (fun g9 => ?_)
  refine r_iload_n (pc := 27) C 1 rfl rfl dL_calls_27 ?_
  refine r_iconst (pc := 28) C dL_calls_28 kc_4 ?_
  refine r_n0hI (pc := 29) C Y (Rx.of hRm rfl rfl rfl rfl) (okL_thread h0 Y.1 o5 (4 : Int32) M7 g1) mw_657 cvL_thread rfl rfl (Nat.le_of_ble_eq_true rfl) dL_calls_29 (fun o11 M10 => ?_)
  refine r_istore_n (pc := 32) C [(3, .int o11), (2, .int o8), (1, .int o5), (0, .ref (G.1 19 0 0))] dL_calls_32 rfl (by decide) rfl ?_
  refine r_aload_n (pc := 33) C 3 rfl rfl dL_calls_33 ?_
  refine r_getR (pc := 34) C FL_x mw_273 h_0 rfl dL_calls_34 (fun g12 => ?_)
  refine r_iload_n (pc := 37) C 2 rfl rfl dL_calls_37 ?_
  refine r_iconst (pc := 38) C dL_calls_38 kc_5 ?_
  refine r_n0hI (pc := 39) C Y (Rx.of hRm rfl rfl rfl rfl) (okL_thread h0 Y.1 o5 (5 : Int32) M10 g1) mw_657 cvL_thread rfl rfl (Nat.le_of_ble_eq_true rfl) dL_calls_39 (fun o14 M13 => ?_)
  refine r_istore (pc := 42) C [(4, .int o14), (3, .int o11), (2, .int o8), (1, .int o5), (0, .ref (G.1 19 0 0))] dL_calls_42 (by decide) rfl ?_
  refine r_aload_n (pc := 44) C 4 rfl rfl dL_calls_44 ?_
  refine r_getR (pc := 45) C FL_x mw_273 h_0 rfl dL_calls_45 (fun g15 => ?_)
  refine r_iload_n (pc := 48) C 3 rfl rfl dL_calls_48 ?_
  refine r_bipush (pc := 49) C dL_calls_49 kb_18 ?_
  refine r_n0hI (pc := 51) C Y (Rx.of hRm rfl rfl rfl rfl) (okL_thread h0 Y.1 o5 (18 : Int32) M13 g1) mw_657 cvL_thread rfl rfl (Nat.le_of_ble_eq_true rfl) dL_calls_51 (fun o17 M16 => ?_)
  refine r_istore (pc := 54) C [(5, .int o17), (4, .int o14), (3, .int o11), (2, .int o8), (1, .int o5), (0, .ref (G.1 19 0 0))] dL_calls_54 (by decide) rfl ?_
  refine r_aload_n (pc := 56) C 5 rfl rfl dL_calls_56 ?_
  refine r_getR (pc := 57) C FL_x mw_273 h_0 rfl dL_calls_57 (fun g18 => ?_)
  refine r_iload_n (pc := 60) C 4 rfl rfl dL_calls_60 ?_
  refine r_iconst (pc := 61) C dL_calls_61 kc_3 ?_
  refine r_n0hI (pc := 62) C Y (Rx.of hRm rfl rfl rfl rfl) (okL_thread h0 Y.1 o5 (3 : Int32) M16 g1) mw_657 cvL_thread rfl rfl (Nat.le_of_ble_eq_true rfl) dL_calls_62 (fun o20 M19 => ?_)
  refine r_istore (pc := 65) C [(6, .int o20), (5, .int o17), (4, .int o14), (3, .int o11), (2, .int o8), (1, .int o5), (0, .ref (G.1 19 0 0))] dL_calls_65 (by decide) rfl ?_
  refine r_aload_n (pc := 67) C 6 rfl rfl dL_calls_67 ?_
  refine r_getR (pc := 68) C FL_x mw_273 h_0 rfl dL_calls_68 (fun g21 => ?_)
  refine r_bipush (pc := 71) C dL_calls_71 kb_14 ?_
  refine r_n0hI (pc := 73) C Y (Rx.of hRm rfl rfl rfl rfl) (okL_count h0 Y.1 (14 : Int32) M19 g1) mw_638 cvL_count rfl rfl (Nat.le_of_ble_eq_true rfl) dL_calls_73 (fun o23 M22 => ?_)
  refine r_istore (pc := 76) C [(7, .int o23), (6, .int o20), (5, .int o17), (4, .int o14), (3, .int o11), (2, .int o8), (1, .int o5), (0, .ref (G.1 19 0 0))] dL_calls_76 (by decide) rfl ?_
  refine r_aload_n (pc := 78) C 7 rfl rfl dL_calls_78 ?_
  refine r_getR (pc := 79) C FL_x mw_273 h_0 rfl dL_calls_79 (fun g24 => ?_)
  refine r_bipush (pc := 82) C dL_calls_82 kb_15 ?_
  refine r_n0hI (pc := 84) C Y (Rx.of hRm rfl rfl rfl rfl) (okL_count h0 Y.1 (15 : Int32) M22 g1) mw_638 cvL_count rfl rfl (Nat.le_of_ble_eq_true rfl) dL_calls_84 (fun o26 M25 => ?_)
  refine r_istore (pc := 87) C [(8, .int o26), (7, .int o23), (6, .int o20), (5, .int o17), (4, .int o14), (3, .int o11), (2, .int o8), (1, .int o5), (0, .ref (G.1 19 0 0))] dL_calls_87 (by decide) rfl ?_
  refine r_aload_n (pc := 89) C 8 rfl rfl dL_calls_89 ?_
  refine r_getR (pc := 90) C FL_x mw_273 h_0 rfl dL_calls_90 (fun g27 => ?_)
  refine r_iconst (pc := 93) C dL_calls_93 kc_1 ?_
  refine r_iconst (pc := 94) C dL_calls_94 kc_m1 ?_
  refine r_n0hI (pc := 95) C Y (Rx.of hRm rfl rfl rfl rfl) (okL_events h0 Y.1 (1 : Int32) (-1 : Int32) M25 g1) mw_689 cvL_events rfl rfl (Nat.le_of_ble_eq_true rfl) dL_calls_95 (fun o29 M28 => ?_)
  refine r_istore (pc := 98) C [(9, .int o29), (8, .int o26), (7, .int o23), (6, .int o20), (5, .int o17), (4, .int o14), (3, .int o11), (2, .int o8), (1, .int o5), (0, .ref (G.1 19 0 0))] dL_calls_98 (by decide) rfl ?_
  refine r_aload_n (pc := 100) C 9 rfl rfl dL_calls_100 ?_
  refine r_iconst (pc := 101) C dL_calls_101 kc_5 ?_
  refine r_wVI (pc := 102) C (Rx.of hRm rfl rfl rfl rfl) (okL_draw h0 (5 : Int32) M28 h_0) (Rc.of C rfl rfl h_0) mw_291 cvL_draw rfl rfl (Nat.le_of_ble_eq_true rfl) dL_calls_102 (fun o31 M30 => ?_)
  refine r_ite (fun e32 => ?_) (fun e32n => ?_)
  refine r_tabE (pc := 105) C e32 dL_calls_105 (by decide) (by decide) (off := 31) rfl (tgt := 136) rfl ?_
  refine r_aload_n (pc := 136) C 9 rfl rfl dL_calls_136 ?_
  refine r_getR (pc := 137) C FL_x mw_273 h_0 rfl dL_calls_137 (fun g33 => ?_)
  refine r_iload_n (pc := 140) C 8 rfl rfl dL_calls_140 ?_
  refine r_n0hI (pc := 141) C Y (Rx.of hRm rfl rfl rfl rfl) (okL_wake h0 Y.1 o5 M30 g1) mw_704 cvL_wake rfl rfl (Nat.le_of_ble_eq_true rfl) dL_calls_141 (fun o35 M34 => ?_)
  refine r_istore (pc := 144) C [(10, .int o35), (9, .int o29), (8, .int o26), (7, .int o23), (6, .int o20), (5, .int o17), (4, .int o14), (3, .int o11), (2, .int o8), (1, .int o5), (0, .ref (G.1 19 0 0))] dL_calls_144 (by decide) rfl ?_
  refine r_iload (pc := 146) C 0 rfl dL_calls_146 ?_
  refine r_iload_n (pc := 148) C 8 rfl rfl dL_calls_148 ?_
  refine r_iconst (pc := 149) C dL_calls_149 kc_1 ?_
  refine r_icmp_ne (pc := 150) C dL_calls_150 (tgt := 157) rfl ?_ ?_
  refine r_iload_n (pc := 157) C 8 rfl rfl dL_calls_157 ?_
  refine r_iconst (pc := 158) C dL_calls_158 kc_2 ?_
  refine r_icmp_le (pc := 159) C dL_calls_159 (tgt := 166) rfl ?_ ?_
  refine r_iload_n (pc := 166) C 7 rfl rfl dL_calls_166 ?_
  refine r_iconst (pc := 167) C dL_calls_167 kc_1 ?_
  refine r_icmp_ne (pc := 168) C dL_calls_168 (tgt := 175) rfl ?_ ?_
  refine r_iconst (pc := 175) C dL_calls_175 kc_1 ?_
  refine r_sub [10, 9, 7, 5, 4, 3, 2, 1, 0] rfl ?_
  exact lL_calls_176   C hRm Y h0   o5 o11 o17 o20 o23 o26 o29 o35 (1 : Int32) o35 M34 h_0
  refine r_iconst (pc := 171) C dL_calls_171 kc_2 ?_
  refine r_goto (pc := 172) C dL_calls_172 (tgt := 176) rfl ?_
  refine r_sub [10, 9, 7, 5, 4, 3, 2, 1, 0] rfl ?_
  exact lL_calls_176   C hRm Y h0   o5 o11 o17 o20 o23 o26 o29 o35 (2 : Int32) o35 M34 h_0
  refine r_iconst (pc := 162) C dL_calls_162 kc_3 ?_
  refine r_goto (pc := 163) C dL_calls_163 (tgt := 176) rfl ?_
  refine r_sub [10, 9, 7, 5, 4, 3, 2, 1, 0] rfl ?_
  exact lL_calls_176   C hRm Y h0   o5 o11 o17 o20 o23 o26 o29 o35 (3 : Int32) o35 M34 h_0
  refine r_iconst (pc := 153) C dL_calls_153 kc_0 ?_
  refine r_goto (pc := 154) C dL_calls_154 (tgt := 176) rfl ?_
  refine r_sub [10, 9, 7, 5, 4, 3, 2, 1, 0] rfl ?_
  exact lL_calls_176   C hRm Y h0   o5 o11 o17 o20 o23 o26 o29 o35 (0 : Int32) o35 M34 h_0
  refine r_ite (fun e36 => ?_) (fun e36n => ?_)
  refine r_tabE (pc := 105) C e36 dL_calls_105 (by decide) (by decide) (off := 220) rfl (tgt := 325) rfl ?_
  refine r_aload_n (pc := 325) C 9 rfl rfl dL_calls_325 ?_
  refine r_getR (pc := 326) C FL_x mw_273 h_0 rfl dL_calls_326 (fun g37 => ?_)
  refine r_iload_n (pc := 329) C 8 rfl rfl dL_calls_329 ?_
  refine r_n0hI (pc := 330) C Y (Rx.of hRm rfl rfl rfl rfl) (okL_interrupt h0 Y.1 o5 M30 g1) mw_713 cvL_interrupt rfl rfl (Nat.le_of_ble_eq_true rfl) dL_calls_330 (fun o39 M38 => ?_)
  refine r_istore (pc := 333) C [(10, .int o39), (9, .int o29), (8, .int o26), (7, .int o23), (6, .int o20), (5, .int o17), (4, .int o14), (3, .int o11), (2, .int o8), (1, .int o5), (0, .ref (G.1 19 0 0))] dL_calls_333 (by decide) rfl ?_
  refine r_iload (pc := 335) C 0 rfl dL_calls_335 ?_
  refine r_iload_n (pc := 337) C 8 rfl rfl dL_calls_337 ?_
  refine r_iconst (pc := 338) C dL_calls_338 kc_1 ?_
  refine r_icmp_ne (pc := 339) C dL_calls_339 (tgt := 346) rfl ?_ ?_
  refine r_iload_n (pc := 346) C 8 rfl rfl dL_calls_346 ?_
  refine r_iconst (pc := 347) C dL_calls_347 kc_2 ?_
  refine r_icmp_le (pc := 348) C dL_calls_348 (tgt := 355) rfl ?_ ?_
  refine r_iload (pc := 355) C 6 rfl dL_calls_355 ?_
  refine r_iconst (pc := 357) C dL_calls_357 kc_1 ?_
  refine r_icmp_ne (pc := 358) C dL_calls_358 (tgt := 365) rfl ?_ ?_
  refine r_iconst (pc := 365) C dL_calls_365 kc_1 ?_
  refine r_sub [10, 9, 8, 6, 0] rfl ?_
  exact lL_calls_366   C hRm Y h0   o5 o8 o14 o39 (1 : Int32) o39 M38 h_0
  refine r_iconst (pc := 361) C dL_calls_361 kc_2 ?_
  refine r_goto (pc := 362) C dL_calls_362 (tgt := 366) rfl ?_
  refine r_sub [10, 9, 8, 6, 0] rfl ?_
  exact lL_calls_366   C hRm Y h0   o5 o8 o14 o39 (2 : Int32) o39 M38 h_0
  refine r_iconst (pc := 351) C dL_calls_351 kc_3 ?_
  refine r_goto (pc := 352) C dL_calls_352 (tgt := 366) rfl ?_
  refine r_sub [10, 9, 8, 6, 0] rfl ?_
  exact lL_calls_366   C hRm Y h0   o5 o8 o14 o39 (3 : Int32) o39 M38 h_0
  refine r_iconst (pc := 342) C dL_calls_342 kc_0 ?_
  refine r_goto (pc := 343) C dL_calls_343 (tgt := 366) rfl ?_
  refine r_sub [10, 9, 8, 6, 0] rfl ?_
  exact lL_calls_366   C hRm Y h0   o5 o8 o14 o39 (0 : Int32) o39 M38 h_0
  refine r_ite (fun e40 => ?_) (fun e40n => ?_)
  refine r_tabE (pc := 105) C e40 dL_calls_105 (by decide) (by decide) (off := 336) rfl (tgt := 441) rfl ?_
  refine r_aload_n (pc := 441) C 9 rfl rfl dL_calls_441 ?_
  refine r_getR (pc := 442) C FL_x mw_273 h_0 rfl dL_calls_442 (fun g41 => ?_)
  refine r_iload_n (pc := 445) C 8 rfl rfl dL_calls_445 ?_
  refine r_n0hI (pc := 446) C Y (Rx.of hRm rfl rfl rfl rfl) (okL_rouse h0 Y.1 o5 M30 g1) mw_724 cvL_rouse rfl rfl (Nat.le_of_ble_eq_true rfl) dL_calls_446 (fun o43 M42 => ?_)
  refine r_iload_n (pc := 449) C 7 rfl rfl dL_calls_449 ?_
  refine r_iconst (pc := 450) C dL_calls_450 kc_1 ?_
  refine r_icmp_ne (pc := 451) C dL_calls_451 (tgt := 458) rfl ?_ ?_
  refine r_iconst (pc := 458) C dL_calls_458 kc_0 ?_
  refine r_sub [9, 8, 7] rfl ?_
  exact lL_calls_459   C hRm Y h0   o5 o8 (0 : Int32) o43 M42 h_0
  refine r_iconst (pc := 454) C dL_calls_454 kc_1 ?_
  refine r_goto (pc := 455) C dL_calls_455 (tgt := 459) rfl ?_
  refine r_sub [9, 8, 7] rfl ?_
  exact lL_calls_459   C hRm Y h0   o5 o8 (1 : Int32) o43 M42 h_0
  refine r_ite (fun e44 => ?_) (fun e44n => ?_)
  refine r_tabE (pc := 105) C e44 dL_calls_105 (by decide) (by decide) (off := 382) rfl (tgt := 487) rfl ?_
  refine r_aload_n (pc := 487) C 9 rfl rfl dL_calls_487 ?_
  refine r_bipush (pc := 488) C dL_calls_488 kb_8 ?_
  refine r_wVI (pc := 490) C (Rx.of hRm rfl rfl rfl rfl) (okL_draw h0 (8 : Int32) M30 h_0) (Rc.of C rfl rfl h_0) mw_291 cvL_draw rfl rfl (Nat.le_of_ble_eq_true rfl) dL_calls_490 (fun o46 M45 => ?_)
  refine r_istore (pc := 493) C [(10, .int o46), (9, .int o29), (8, .int o26), (7, .int o23), (6, .int o20), (5, .int o17), (4, .int o14), (3, .int o11), (2, .int o8), (1, .int o5), (0, .ref (G.1 19 0 0))] dL_calls_493 (by decide) rfl ?_
  refine r_aload_n (pc := 495) C 10 rfl rfl dL_calls_495 ?_
  refine r_getR (pc := 496) C FL_x mw_273 h_0 rfl dL_calls_496 (fun g47 => ?_)
  refine r_iload (pc := 499) C 0 rfl dL_calls_499 ?_
  refine r_n0hI (pc := 501) C Y (Rx.of hRm rfl rfl rfl rfl) (okL_flag h0 Y.1 o46 M45 g1) mw_732 cvL_flag rfl rfl (Nat.le_of_ble_eq_true rfl) dL_calls_501 (fun o49 M48 => ?_)
  refine r_istore (pc := 504) C [(11, .int o49), (10, .int o46), (9, .int o29), (8, .int o26), (7, .int o23), (6, .int o20), (5, .int o17), (4, .int o14), (3, .int o11), (2, .int o8), (1, .int o5), (0, .ref (G.1 19 0 0))] dL_calls_504 (by decide) rfl ?_
  refine r_aload_n (pc := 506) C 11 rfl rfl dL_calls_506 ?_
  refine r_getR (pc := 507) C FL_x mw_273 h_0 rfl dL_calls_507 (fun g50 => ?_)
  refine r_iload (pc := 510) C 1 rfl dL_calls_510 ?_
  refine r_iload (pc := 512) C 0 rfl dL_calls_512 ?_
  refine r_if_ne (pc := 514) C dL_calls_514 (tgt := 521) rfl ?_ ?_
  refine r_iconst (pc := 521) C dL_calls_521 kc_0 ?_
  refine r_sub [11, 10, 9, 1, 0] rfl ?_
  exact lL_calls_522   C hRm Y h0   o5 o8 o46 o49 (0 : Int32) o46 M48 h_0 g1
  refine r_iconst (pc := 517) C dL_calls_517 kc_1 ?_
  refine r_goto (pc := 518) C dL_calls_518 (tgt := 522) rfl ?_
  refine r_sub [11, 10, 9, 1, 0] rfl ?_
  exact lL_calls_522   C hRm Y h0   o5 o8 o46 o49 (1 : Int32) o46 M48 h_0 g1
  refine r_tabD (pc := 105) C (cz := [0, 1, 2, 3]) (tabN_cons e32n (tabN_cons e36n (tabN_cons e40n (tabN_cons e44n tabN_nil)))) dL_calls_105 (by decide) (tgt := 565) rfl ?_
  refine r_iconst (pc := 565) C dL_calls_565 kc_1 ?_
  refine r_aload_n (pc := 566) C 9 rfl rfl dL_calls_566 ?_
  refine r_bipush (pc := 567) C dL_calls_567 kb_9 ?_
  refine r_wVI (pc := 569) C (Rx.of hRm rfl rfl rfl rfl) (okL_draw h0 (9 : Int32) M30 h_0) (Rc.of C rfl rfl h_0) mw_291 cvL_draw rfl rfl (Nat.le_of_ble_eq_true rfl) dL_calls_569 (fun o52 M51 => ?_)
  refine r_iadd (pc := 572) C dL_calls_572 ?_
  refine r_nmi (fun x53 => ?_)
  refine r_istore (pc := 573) C [(10, .int x53), (9, .int o29), (8, .int o26), (7, .int o23), (6, .int o20), (5, .int o17), (4, .int o14), (3, .int o11), (2, .int o8), (1, .int o5), (0, .ref (G.1 19 0 0))] dL_calls_573 (by decide) rfl ?_
  refine r_aload_n (pc := 575) C 10 rfl rfl dL_calls_575 ?_
  refine r_getR (pc := 576) C FL_x mw_273 h_0 rfl dL_calls_576 (fun g54 => ?_)
  refine r_iload_n (pc := 579) C 9 rfl rfl dL_calls_579 ?_
  refine r_iconst (pc := 580) C dL_calls_580 kc_0 ?_
  refine r_n0hI (pc := 581) C Y (Rx.of hRm rfl rfl rfl rfl) (okL_thread h0 Y.1 o5 (0 : Int32) M51 g1) mw_657 cvL_thread rfl rfl (Nat.le_of_ble_eq_true rfl) dL_calls_581 (fun o56 M55 => ?_)
  refine r_istore (pc := 584) C [(11, .int o56), (10, .int x53), (9, .int o29), (8, .int o26), (7, .int o23), (6, .int o20), (5, .int o17), (4, .int o14), (3, .int o11), (2, .int o8), (1, .int o5), (0, .ref (G.1 19 0 0))] dL_calls_584 (by decide) rfl ?_
  refine r_aload_n (pc := 586) C 11 rfl rfl dL_calls_586 ?_
  refine r_getR (pc := 587) C FL_x mw_273 h_0 rfl dL_calls_587 (fun g57 => ?_)
  refine r_iload_n (pc := 590) C 10 rfl rfl dL_calls_590 ?_
  refine r_iload (pc := 591) C 1 rfl dL_calls_591 ?_
  refine r_n0hI (pc := 593) C Y (Rx.of hRm rfl rfl rfl rfl) (okL_setBase h0 Y.1 o5 x53 M55 g1) mw_748 cvL_setBase rfl rfl (Nat.le_of_ble_eq_true rfl) dL_calls_593 (fun o59 M58 => ?_)
  refine r_iload (pc := 596) C 0 rfl dL_calls_596 ?_
  refine r_icmp_ne (pc := 598) C dL_calls_598 (tgt := 619) rfl ?_ ?_
  refine r_iconst (pc := 619) C dL_calls_619 kc_0 ?_
  refine r_wid (cs' := 0) (sl' := 6 * 0) (Nat.le_of_ble_eq_true rfl) (Nat.le_of_ble_eq_true rfl) (r_nok ?_)
  exact r_zret (pc := 620) C dL_calls_620
  refine r_aload_n (pc := 601) C 11 rfl rfl dL_calls_601 ?_
  refine r_getR (pc := 602) C FL_x mw_273 h_0 rfl dL_calls_602 (fun g60 => ?_)
  refine r_iload_n (pc := 605) C 10 rfl rfl dL_calls_605 ?_
  refine r_iconst (pc := 606) C dL_calls_606 kc_0 ?_
  refine r_n0hI (pc := 607) C Y (Rx.of hRm rfl rfl rfl rfl) (okL_thread h0 Y.1 o5 (0 : Int32) M58 g1) mw_657 cvL_thread rfl rfl (Nat.le_of_ble_eq_true rfl) dL_calls_607 (fun o62 M61 => ?_)
  refine r_iload (pc := 610) C 1 rfl dL_calls_610 ?_
  refine r_icmp_ne (pc := 612) C dL_calls_612 (tgt := 619) rfl ?_ ?_
  refine r_iconst (pc := 619) C dL_calls_619 kc_0 ?_
  refine r_wid (cs' := 0) (sl' := 6 * 0) (Nat.le_of_ble_eq_true rfl) (Nat.le_of_ble_eq_true rfl) (r_nok ?_)
  exact r_zret (pc := 620) C dL_calls_620
  refine r_iconst (pc := 615) C dL_calls_615 kc_1 ?_
  refine r_goto (pc := 616) C dL_calls_616 (tgt := 620) rfl ?_
  refine r_wid (cs' := 0) (sl' := 6 * 0) (Nat.le_of_ble_eq_true rfl) (Nat.le_of_ble_eq_true rfl) (r_nok ?_)
  exact r_zret (pc := 620) C dL_calls_620
theorem okL_calls {l : Launch} {G : WT} (h0 : W0 G) (hT : l.stackTraces = false) (M : Mem) (h_0 : G.2.2.2.1 19 0 0) : OkX l G yL_calls cL_calls 12 (some FieldType.boolean) 6 135 0 [.ref (G.1 19 0 0)] voI M (xok (pL_calls (scr G)   M)) :=
  OkX.of "PermitParkLaw" rfl (by decide) (Nat.le_of_ble_eq_true rfl) (L := [(0, .ref (G.1 19 0 0))]) rfl hT (fun K _ hr Y C => r_ofN (lL_calls_0 C hr Y.1 h0  M h_0))
def pL_eventsAreSo_26 (k14 : Int32 → Int32 → Int32 → Mem → Option (Int32 × Mem)) : Nat → Int32 → Int32 → Int32 → Int32 → Int32 → Mem → Option (Int32 × Mem)
  | 0, _, _, _, _, _, _ => none
  | n + 1, v1, v2, v3, v4, v5, M =>
    bnd (pL_count (2 : Int32) M) fun o3 M2 => if o3 ≤ v5 then (bnd (pL_events v3 (-1 : Int32) M2) fun o6 M5 => if v4 = o6 then (nm (v2 + v4) fun x7 => k14 v1 x7 (v3 + (1 : Int32)) M5)
    else chk (decide ((0 : Int32) = 0 ∨ (0 : Int32) = 1)) (some ((0 : Int32), M5)))
    else bnd (pL_events v3 v5 M2) fun o10 M9 => nm (v4 + o10) fun x11 => pL_eventsAreSo_26  k14 n v1 v2 v3 x11 (v5 + (1 : Int32)) M9
theorem lL_eventsAreSo_26 {K : KT} {G : WT} {k14 : Int32 → Int32 → Int32 → Mem → Option (Int32 × Mem)} (C : Cx K G "PermitParkLaw" cL_eventsAreSo 7 (some FieldType.boolean)) (hRm : K.2.2.2.1 = rmX 4 91 0) (Y : Cy0 K) (h0 : W0 G)
    (hk14 : ∀ (v1 : Int32) (v2 : Int32) (v3 : Int32) (M : Mem), G.2.2.2.1 19 0 0 → Run K G 7 0 (6 * 0) (FinN K G voI 0) 14 [(0, .ref (G.1 19 0 0)), (1, .int v1), (2, .int v2), (3, .int v3)] [] M (k14 v1 v2 v3 M)) : ∀ (n : Nat) (v1 : Int32) (v2 : Int32) (v3 : Int32) (v4 : Int32) (v5 : Int32) (M : Mem), G.2.2.2.1 19 0 0 → Run K G 7 0 (6 * 0) (FinN K G voI 0) 26 [(0, .ref (G.1 19 0 0)), (1, .int v1), (2, .int v2), (3, .int v3), (4, .int v4), (5, .int v5)] [] M (pL_eventsAreSo_26  k14 n v1 v2 v3 v4 v5 M) := by
  intro n
  induction n with
  | zero =>
    intro v1 v2 v3 v4 v5 M g_0
    exact r_none
  | succ n ih =>
    intro v1 v2 v3 v4 v5 M g_0
    rw [pL_eventsAreSo_26]
    refine r_iload (pc := 26) C 5 rfl dL_eventsAreSo_26 ?_
    refine r_aload_n (pc := 28) C 0 rfl rfl dL_eventsAreSo_28 ?_
    refine r_getR (pc := 29) C FL_x mw_273 g_0 rfl dL_eventsAreSo_29 (fun g1 => ?_)
    refine r_iconst (pc := 32) C dL_eventsAreSo_32 kc_2 ?_
    refine r_n0hI (pc := 33) C Y (Rx.of hRm rfl rfl rfl rfl) (okL_count h0 Y.1 (2 : Int32) M g1) mw_638 cvL_count rfl rfl (Nat.le_of_ble_eq_true rfl) dL_eventsAreSo_33 (fun o3 M2 => ?_)
    refine r_icmp_ge (pc := 36) C dL_eventsAreSo_36 (tgt := 60) rfl ?_ ?_
    refine r_iload (pc := 60) C 4 rfl dL_eventsAreSo_60 ?_
    refine r_aload_n (pc := 62) C 0 rfl rfl dL_eventsAreSo_62 ?_
    refine r_getR (pc := 63) C FL_x mw_273 g_0 rfl dL_eventsAreSo_63 (fun g4 => ?_)
    refine r_iload_n (pc := 66) C 3 rfl rfl dL_eventsAreSo_66 ?_
    refine r_iconst (pc := 67) C dL_eventsAreSo_67 kc_m1 ?_
    refine r_n0hI (pc := 68) C Y (Rx.of hRm rfl rfl rfl rfl) (okL_events h0 Y.1 v3 (-1 : Int32) M2 g1) mw_689 cvL_events rfl rfl (Nat.le_of_ble_eq_true rfl) dL_eventsAreSo_68 (fun o6 M5 => ?_)
    refine r_icmp_eq (pc := 71) C dL_eventsAreSo_71 (tgt := 76) rfl ?_ ?_
    refine r_iload_n (pc := 76) C 2 rfl rfl dL_eventsAreSo_76 ?_
    refine r_iload (pc := 77) C 4 rfl dL_eventsAreSo_77 ?_
    refine r_iadd (pc := 79) C dL_eventsAreSo_79 ?_
    refine r_nmi (fun x7 => ?_)
    refine r_istore_n (pc := 80) C [(2, .int x7), (0, .ref (G.1 19 0 0)), (1, .int v1), (3, .int v3), (4, .int v4), (5, .int v5)] dL_eventsAreSo_80 rfl (by decide) rfl ?_
    refine r_iinc (pc := 81) C [(3, .int (v3 + (1 : Int32))), (2, .int x7), (0, .ref (G.1 19 0 0)), (1, .int v1), (4, .int v4), (5, .int v5)] dL_eventsAreSo_81 (p := 3) rfl (ki_1 _) (by decide) rfl ?_
    refine r_goto (pc := 84) C dL_eventsAreSo_84 (tgt := 14) rfl ?_
    refine r_sub [2, 3, 1, 0] rfl ?_
    exact hk14 v1 x7 (v3 + (1 : Int32)) M5 g_0
    refine r_iconst (pc := 74) C dL_eventsAreSo_74 kc_0 ?_
    refine r_wid (cs' := 0) (sl' := 6 * 0) (Nat.le_of_ble_eq_true rfl) (Nat.le_of_ble_eq_true rfl) (r_nok ?_)
    exact r_zret (pc := 75) C dL_eventsAreSo_75
    refine r_iload (pc := 39) C 4 rfl dL_eventsAreSo_39 ?_
    refine r_aload_n (pc := 41) C 0 rfl rfl dL_eventsAreSo_41 ?_
    refine r_getR (pc := 42) C FL_x mw_273 g_0 rfl dL_eventsAreSo_42 (fun g8 => ?_)
    refine r_iload_n (pc := 45) C 3 rfl rfl dL_eventsAreSo_45 ?_
    refine r_iload (pc := 46) C 5 rfl dL_eventsAreSo_46 ?_
    refine r_n0hI (pc := 48) C Y (Rx.of hRm rfl rfl rfl rfl) (okL_events h0 Y.1 v3 v5 M2 g1) mw_689 cvL_events rfl rfl (Nat.le_of_ble_eq_true rfl) dL_eventsAreSo_48 (fun o10 M9 => ?_)
    refine r_iadd (pc := 51) C dL_eventsAreSo_51 ?_
    refine r_nmi (fun x11 => ?_)
    refine r_istore (pc := 52) C [(4, .int x11), (0, .ref (G.1 19 0 0)), (1, .int v1), (2, .int v2), (3, .int v3), (5, .int v5)] dL_eventsAreSo_52 (by decide) rfl ?_
    refine r_iinc (pc := 54) C [(5, .int (v5 + (1 : Int32))), (4, .int x11), (0, .ref (G.1 19 0 0)), (1, .int v1), (2, .int v2), (3, .int v3)] dL_eventsAreSo_54 (p := 5) rfl (ki_1 _) (by decide) rfl ?_
    refine r_goto (pc := 57) C dL_eventsAreSo_57 (tgt := 26) rfl ?_
    refine r_sub [2, 3, 4, 5, 1, 0] rfl ?_
    exact ih v1 v2 v3 x11 (v5 + (1 : Int32)) M9 g_0
def pL_eventsAreSo_228 (k89 : Int32 → Int32 → Int32 → Mem → Option (Int32 × Mem)) (v1 : Int32) (v2 : Int32) (v3 : Int32) (v4 : Int32) (v5 : Int32) (M : Mem) : Option (Int32 × Mem) :=
    if ¬ v4 = (6 : Int32) then (k89 v1 v2 (v3 + (1 : Int32)) M)
    else bnd (pL_thread v5 (2 : Int32) M) fun o3 M2 => if o3 = (4 : Int32) then (k89 v1 v2 (v3 + (1 : Int32)) M2)
    else chk (decide ((0 : Int32) = 0 ∨ (0 : Int32) = 1)) (some ((0 : Int32), M2))
theorem lL_eventsAreSo_228 {K : KT} {G : WT} {k89 : Int32 → Int32 → Int32 → Mem → Option (Int32 × Mem)} (C : Cx K G "PermitParkLaw" cL_eventsAreSo 7 (some FieldType.boolean)) (hRm : K.2.2.2.1 = rmX 4 91 0) (Y : Cy0 K) (h0 : W0 G)
    (hk89 : ∀ (v1 : Int32) (v2 : Int32) (v3 : Int32) (M : Mem), G.2.2.2.1 19 0 0 → Run K G 7 0 (6 * 0) (FinN K G voI 0) 89 [(0, .ref (G.1 19 0 0)), (1, .int v1), (2, .int v2), (3, .int v3)] [] M (k89 v1 v2 v3 M)) (v1 : Int32) (v2 : Int32) (v3 : Int32) (v4 : Int32) (v5 : Int32) (M : Mem) (g_0 : G.2.2.2.1 19 0 0) : Run K G 7 0 (6 * 0) (FinN K G voI 0) 228 [(0, .ref (G.1 19 0 0)), (1, .int v1), (2, .int v2), (3, .int v3), (4, .int v4), (5, .int v5)] [] M (pL_eventsAreSo_228  k89 v1 v2 v3 v4 v5 M) := by
  rw [pL_eventsAreSo_228]
  refine r_iload (pc := 228) C 4 rfl dL_eventsAreSo_228 ?_
  refine r_bipush (pc := 230) C dL_eventsAreSo_230 kb_6 ?_
  refine r_icmp_ne (pc := 232) C dL_eventsAreSo_232 (tgt := 251) rfl ?_ ?_
  refine r_iinc (pc := 251) C [(3, .int (v3 + (1 : Int32))), (0, .ref (G.1 19 0 0)), (1, .int v1), (2, .int v2), (4, .int v4), (5, .int v5)] dL_eventsAreSo_251 (p := 3) rfl (ki_1 _) (by decide) rfl ?_
  refine r_goto (pc := 254) C dL_eventsAreSo_254 (tgt := 89) rfl ?_
  refine r_sub [1, 2, 3, 0] rfl ?_
  exact hk89 v1 v2 (v3 + (1 : Int32)) M g_0
  refine r_aload_n (pc := 235) C 0 rfl rfl dL_eventsAreSo_235 ?_
  refine r_getR (pc := 236) C FL_x mw_273 g_0 rfl dL_eventsAreSo_236 (fun g1 => ?_)
  refine r_iload (pc := 239) C 5 rfl dL_eventsAreSo_239 ?_
  refine r_iconst (pc := 241) C dL_eventsAreSo_241 kc_2 ?_
  refine r_n0hI (pc := 242) C Y (Rx.of hRm rfl rfl rfl rfl) (okL_thread h0 Y.1 v5 (2 : Int32) M g1) mw_657 cvL_thread rfl rfl (Nat.le_of_ble_eq_true rfl) dL_eventsAreSo_242 (fun o3 M2 => ?_)
  refine r_iconst (pc := 245) C dL_eventsAreSo_245 kc_4 ?_
  refine r_icmp_eq (pc := 246) C dL_eventsAreSo_246 (tgt := 251) rfl ?_ ?_
  refine r_iinc (pc := 251) C [(3, .int (v3 + (1 : Int32))), (0, .ref (G.1 19 0 0)), (1, .int v1), (2, .int v2), (4, .int v4), (5, .int v5)] dL_eventsAreSo_251 (p := 3) rfl (ki_1 _) (by decide) rfl ?_
  refine r_goto (pc := 254) C dL_eventsAreSo_254 (tgt := 89) rfl ?_
  refine r_sub [1, 2, 3, 0] rfl ?_
  exact hk89 v1 v2 (v3 + (1 : Int32)) M2 g_0
  refine r_iconst (pc := 249) C dL_eventsAreSo_249 kc_0 ?_
  refine r_wid (cs' := 0) (sl' := 6 * 0) (Nat.le_of_ble_eq_true rfl) (Nat.le_of_ble_eq_true rfl) (r_nok ?_)
  exact r_zret (pc := 250) C dL_eventsAreSo_250
def pL_eventsAreSo_208 (k89 : Int32 → Int32 → Int32 → Mem → Option (Int32 × Mem)) (v1 : Int32) (v2 : Int32) (v3 : Int32) (v4 : Int32) (v5 : Int32) (M : Mem) : Option (Int32 × Mem) :=
    if ¬ v4 = (5 : Int32) then (pL_eventsAreSo_228  k89  v1 v2 v3 v4 v5 M)
    else bnd (pL_thread v5 (2 : Int32) M) fun o3 M2 => if ¬ o3 = (3 : Int32) then (chk (decide ((0 : Int32) = 0 ∨ (0 : Int32) = 1)) (some ((0 : Int32), M2)))
    else pL_eventsAreSo_228  k89  v1 v2 v3 v4 v5 M2
theorem lL_eventsAreSo_208 {K : KT} {G : WT} {k89 : Int32 → Int32 → Int32 → Mem → Option (Int32 × Mem)} (C : Cx K G "PermitParkLaw" cL_eventsAreSo 7 (some FieldType.boolean)) (hRm : K.2.2.2.1 = rmX 4 91 0) (Y : Cy0 K) (h0 : W0 G)
    (hk89 : ∀ (v1 : Int32) (v2 : Int32) (v3 : Int32) (M : Mem), G.2.2.2.1 19 0 0 → Run K G 7 0 (6 * 0) (FinN K G voI 0) 89 [(0, .ref (G.1 19 0 0)), (1, .int v1), (2, .int v2), (3, .int v3)] [] M (k89 v1 v2 v3 M)) (v1 : Int32) (v2 : Int32) (v3 : Int32) (v4 : Int32) (v5 : Int32) (M : Mem) (g_0 : G.2.2.2.1 19 0 0) : Run K G 7 0 (6 * 0) (FinN K G voI 0) 208 [(0, .ref (G.1 19 0 0)), (1, .int v1), (2, .int v2), (3, .int v3), (4, .int v4), (5, .int v5)] [] M (pL_eventsAreSo_208  k89 v1 v2 v3 v4 v5 M) := by
  rw [pL_eventsAreSo_208]
  refine r_iload (pc := 208) C 4 rfl dL_eventsAreSo_208 ?_
  refine r_iconst (pc := 210) C dL_eventsAreSo_210 kc_5 ?_
  refine r_icmp_ne (pc := 211) C dL_eventsAreSo_211 (tgt := 228) rfl ?_ ?_
  exact lL_eventsAreSo_228  (k89 := k89) C hRm Y h0 hk89  v1 v2 v3 v4 v5 M g_0
  refine r_aload_n (pc := 214) C 0 rfl rfl dL_eventsAreSo_214 ?_
  refine r_getR (pc := 215) C FL_x mw_273 g_0 rfl dL_eventsAreSo_215 (fun g1 => ?_)
  refine r_iload (pc := 218) C 5 rfl dL_eventsAreSo_218 ?_
  refine r_iconst (pc := 220) C dL_eventsAreSo_220 kc_2 ?_
  refine r_n0hI (pc := 221) C Y (Rx.of hRm rfl rfl rfl rfl) (okL_thread h0 Y.1 v5 (2 : Int32) M g1) mw_657 cvL_thread rfl rfl (Nat.le_of_ble_eq_true rfl) dL_eventsAreSo_221 (fun o3 M2 => ?_)
  refine r_iconst (pc := 224) C dL_eventsAreSo_224 kc_3 ?_
  refine r_icmp_ne (pc := 225) C dL_eventsAreSo_225 (tgt := 249) rfl ?_ ?_
  refine r_iconst (pc := 249) C dL_eventsAreSo_249 kc_0 ?_
  refine r_wid (cs' := 0) (sl' := 6 * 0) (Nat.le_of_ble_eq_true rfl) (Nat.le_of_ble_eq_true rfl) (r_nok ?_)
  exact r_zret (pc := 250) C dL_eventsAreSo_250
  exact lL_eventsAreSo_228  (k89 := k89) C hRm Y h0 hk89  v1 v2 v3 v4 v5 M2 g_0
def pL_eventsAreSo_194 (k89 : Int32 → Int32 → Int32 → Mem → Option (Int32 × Mem)) (v1 : Int32) (v2 : Int32) (v3 : Int32) (v4 : Int32) (v5 : Int32) (v6 : Int32) (M : Mem) : Option (Int32 × Mem) :=
    if ¬ v4 = (7 : Int32) then (pL_eventsAreSo_208  k89  v1 v2 v3 v4 v5 M)
    else if v6 = (-2 : Int32) then (chk (decide ((0 : Int32) = 0 ∨ (0 : Int32) = 1)) (some ((0 : Int32), M)))
    else pL_eventsAreSo_208  k89  v1 v2 v3 v4 v5 M
theorem lL_eventsAreSo_194 {K : KT} {G : WT} {k89 : Int32 → Int32 → Int32 → Mem → Option (Int32 × Mem)} (C : Cx K G "PermitParkLaw" cL_eventsAreSo 7 (some FieldType.boolean)) (hRm : K.2.2.2.1 = rmX 4 91 0) (Y : Cy0 K) (h0 : W0 G)
    (hk89 : ∀ (v1 : Int32) (v2 : Int32) (v3 : Int32) (M : Mem), G.2.2.2.1 19 0 0 → Run K G 7 0 (6 * 0) (FinN K G voI 0) 89 [(0, .ref (G.1 19 0 0)), (1, .int v1), (2, .int v2), (3, .int v3)] [] M (k89 v1 v2 v3 M)) (v1 : Int32) (v2 : Int32) (v3 : Int32) (v4 : Int32) (v5 : Int32) (v6 : Int32) (M : Mem) (g_0 : G.2.2.2.1 19 0 0) : Run K G 7 0 (6 * 0) (FinN K G voI 0) 194 [(0, .ref (G.1 19 0 0)), (1, .int v1), (2, .int v2), (3, .int v3), (4, .int v4), (5, .int v5), (6, .int v6)] [] M (pL_eventsAreSo_194  k89 v1 v2 v3 v4 v5 v6 M) := by
  rw [pL_eventsAreSo_194]
  refine r_iload (pc := 194) C 4 rfl dL_eventsAreSo_194 ?_
  refine r_bipush (pc := 196) C dL_eventsAreSo_196 kb_7 ?_
  refine r_icmp_ne (pc := 198) C dL_eventsAreSo_198 (tgt := 208) rfl ?_ ?_
  refine r_sub [0, 1, 2, 3, 4, 5] rfl ?_
  exact lL_eventsAreSo_208  (k89 := k89) C hRm Y h0 hk89  v1 v2 v3 v4 v5 M g_0
  refine r_iload (pc := 201) C 6 rfl dL_eventsAreSo_201 ?_
  refine r_bipush (pc := 203) C dL_eventsAreSo_203 kb_m2 ?_
  refine r_icmp_eq (pc := 205) C dL_eventsAreSo_205 (tgt := 249) rfl ?_ ?_
  refine r_iconst (pc := 249) C dL_eventsAreSo_249 kc_0 ?_
  refine r_wid (cs' := 0) (sl' := 6 * 0) (Nat.le_of_ble_eq_true rfl) (Nat.le_of_ble_eq_true rfl) (r_nok ?_)
  exact r_zret (pc := 250) C dL_eventsAreSo_250
  refine r_sub [0, 1, 2, 3, 4, 5] rfl ?_
  exact lL_eventsAreSo_208  (k89 := k89) C hRm Y h0 hk89  v1 v2 v3 v4 v5 M g_0
def pL_eventsAreSo_176 (k89 : Int32 → Int32 → Int32 → Mem → Option (Int32 × Mem)) (v1 : Int32) (v2 : Int32) (v3 : Int32) (v4 : Int32) (v5 : Int32) (v6 : Int32) (M : Mem) : Option (Int32 × Mem) :=
    if ¬ v4 = (1 : Int32) then (pL_eventsAreSo_194  k89  v1 v2 v3 v4 v5 v6 M)
    else if v6 < (1 : Int32) then (chk (decide ((0 : Int32) = 0 ∨ (0 : Int32) = 1)) (some ((0 : Int32), M)))
    else if (4 : Int32) < v6 then (chk (decide ((0 : Int32) = 0 ∨ (0 : Int32) = 1)) (some ((0 : Int32), M)))
    else pL_eventsAreSo_194  k89  v1 v2 v3 v4 v5 v6 M
theorem lL_eventsAreSo_176 {K : KT} {G : WT} {k89 : Int32 → Int32 → Int32 → Mem → Option (Int32 × Mem)} (C : Cx K G "PermitParkLaw" cL_eventsAreSo 7 (some FieldType.boolean)) (hRm : K.2.2.2.1 = rmX 4 91 0) (Y : Cy0 K) (h0 : W0 G)
    (hk89 : ∀ (v1 : Int32) (v2 : Int32) (v3 : Int32) (M : Mem), G.2.2.2.1 19 0 0 → Run K G 7 0 (6 * 0) (FinN K G voI 0) 89 [(0, .ref (G.1 19 0 0)), (1, .int v1), (2, .int v2), (3, .int v3)] [] M (k89 v1 v2 v3 M)) (v1 : Int32) (v2 : Int32) (v3 : Int32) (v4 : Int32) (v5 : Int32) (v6 : Int32) (M : Mem) (g_0 : G.2.2.2.1 19 0 0) : Run K G 7 0 (6 * 0) (FinN K G voI 0) 176 [(0, .ref (G.1 19 0 0)), (1, .int v1), (2, .int v2), (3, .int v3), (4, .int v4), (5, .int v5), (6, .int v6)] [] M (pL_eventsAreSo_176  k89 v1 v2 v3 v4 v5 v6 M) := by
  rw [pL_eventsAreSo_176]
  refine r_iload (pc := 176) C 4 rfl dL_eventsAreSo_176 ?_
  refine r_iconst (pc := 178) C dL_eventsAreSo_178 kc_1 ?_
  refine r_icmp_ne (pc := 179) C dL_eventsAreSo_179 (tgt := 194) rfl ?_ ?_
  exact lL_eventsAreSo_194  (k89 := k89) C hRm Y h0 hk89  v1 v2 v3 v4 v5 v6 M g_0
  refine r_iload (pc := 182) C 6 rfl dL_eventsAreSo_182 ?_
  refine r_iconst (pc := 184) C dL_eventsAreSo_184 kc_1 ?_
  refine r_icmp_lt (pc := 185) C dL_eventsAreSo_185 (tgt := 249) rfl ?_ ?_
  refine r_iconst (pc := 249) C dL_eventsAreSo_249 kc_0 ?_
  refine r_wid (cs' := 0) (sl' := 6 * 0) (Nat.le_of_ble_eq_true rfl) (Nat.le_of_ble_eq_true rfl) (r_nok ?_)
  exact r_zret (pc := 250) C dL_eventsAreSo_250
  refine r_iload (pc := 188) C 6 rfl dL_eventsAreSo_188 ?_
  refine r_iconst (pc := 190) C dL_eventsAreSo_190 kc_4 ?_
  refine r_icmp_gt (pc := 191) C dL_eventsAreSo_191 (tgt := 249) rfl ?_ ?_
  refine r_iconst (pc := 249) C dL_eventsAreSo_249 kc_0 ?_
  refine r_wid (cs' := 0) (sl' := 6 * 0) (Nat.le_of_ble_eq_true rfl) (Nat.le_of_ble_eq_true rfl) (r_nok ?_)
  exact r_zret (pc := 250) C dL_eventsAreSo_250
  exact lL_eventsAreSo_194  (k89 := k89) C hRm Y h0 hk89  v1 v2 v3 v4 v5 v6 M g_0
def pL_eventsAreSo_89 : Nat → Int32 → Int32 → Int32 → Mem → Option (Int32 × Mem)
  | 0, _, _, _, _ => none
  | n + 1, v1, v2, v3, M =>
    if v1 ≤ v3 then (if ¬ v2 = v1 then (chk (decide ((0 : Int32) = 0 ∨ (0 : Int32) = 1)) (some ((0 : Int32), M)))
    else chk (decide ((1 : Int32) = 0 ∨ (1 : Int32) = 1)) (some ((1 : Int32), M)))
    else bnd (pL_event v3 (1 : Int32) M) fun o3 M2 => bnd (pL_event v3 (2 : Int32) M2) fun o6 M5 => bnd (pL_event v3 (3 : Int32) M5) fun o9 M8 => bnd (pL_event v3 (0 : Int32) M8) fun o12 M11 => bnd (pL_count (3 : Int32) M11) fun o15 M14 => if o15 < o12 then (chk (decide ((0 : Int32) = 0 ∨ (0 : Int32) = 1)) (some ((0 : Int32), M14)))
    else if v3 ≤ 0 then (pL_eventsAreSo_176  (fun v1 v2 v3 M => pL_eventsAreSo_89   n v1 v2 v3 M)  v1 v2 v3 o3 o6 o9 M14)
    else bnd (pL_event v3 (0 : Int32) M14) fun o18 M17 => bnd (pL_event (v3 - (1 : Int32)) (0 : Int32) M17) fun o21 M20 => if o21 ≤ o18 then (pL_eventsAreSo_176  (fun v1 v2 v3 M => pL_eventsAreSo_89   n v1 v2 v3 M)  v1 v2 v3 o3 o6 o9 M20)
    else chk (decide ((0 : Int32) = 0 ∨ (0 : Int32) = 1)) (some ((0 : Int32), M20))
theorem lL_eventsAreSo_89 {K : KT} {G : WT} (C : Cx K G "PermitParkLaw" cL_eventsAreSo 7 (some FieldType.boolean)) (hRm : K.2.2.2.1 = rmX 4 91 0) (Y : Cy0 K) (h0 : W0 G) : ∀ (n : Nat) (v1 : Int32) (v2 : Int32) (v3 : Int32) (M : Mem), G.2.2.2.1 19 0 0 → Run K G 7 0 (6 * 0) (FinN K G voI 0) 89 [(0, .ref (G.1 19 0 0)), (1, .int v1), (2, .int v2), (3, .int v3)] [] M (pL_eventsAreSo_89   n v1 v2 v3 M) := by
  intro n
  induction n with
  | zero =>
    intro v1 v2 v3 M g_0
    exact r_none
  | succ n ih =>
    intro v1 v2 v3 M g_0
    rw [pL_eventsAreSo_89]
    refine r_iload_n (pc := 89) C 3 rfl rfl dL_eventsAreSo_89 ?_
    refine r_iload_n (pc := 90) C 1 rfl rfl dL_eventsAreSo_90 ?_
    refine r_icmp_ge (pc := 91) C dL_eventsAreSo_91 (tgt := 257) rfl ?_ ?_
    refine r_iload_n (pc := 257) C 2 rfl rfl dL_eventsAreSo_257 ?_
    refine r_iload_n (pc := 258) C 1 rfl rfl dL_eventsAreSo_258 ?_
    refine r_icmp_ne (pc := 259) C dL_eventsAreSo_259 (tgt := 266) rfl ?_ ?_
    refine r_iconst (pc := 266) C dL_eventsAreSo_266 kc_0 ?_
    refine r_wid (cs' := 0) (sl' := 6 * 0) (Nat.le_of_ble_eq_true rfl) (Nat.le_of_ble_eq_true rfl) (r_nok ?_)
    exact r_zret (pc := 267) C dL_eventsAreSo_267
    refine r_iconst (pc := 262) C dL_eventsAreSo_262 kc_1 ?_
    refine r_goto (pc := 263) C dL_eventsAreSo_263 (tgt := 267) rfl ?_
    refine r_wid (cs' := 0) (sl' := 6 * 0) (Nat.le_of_ble_eq_true rfl) (Nat.le_of_ble_eq_true rfl) (r_nok ?_)
    exact r_zret (pc := 267) C dL_eventsAreSo_267
    refine r_aload_n (pc := 94) C 0 rfl rfl dL_eventsAreSo_94 ?_
    refine r_getR (pc := 95) C FL_x mw_273 g_0 rfl dL_eventsAreSo_95 (fun g1 => ?_)
    refine r_iload_n (pc := 98) C 3 rfl rfl dL_eventsAreSo_98 ?_
    refine r_iconst (pc := 99) C dL_eventsAreSo_99 kc_1 ?_
    refine r_n0hI (pc := 100) C Y (Rx.of hRm rfl rfl rfl rfl) (okL_event h0 Y.1 v3 (1 : Int32) M g1) mw_806 cvL_event rfl rfl (Nat.le_of_ble_eq_true rfl) dL_eventsAreSo_100 (fun o3 M2 => ?_)
    refine r_istore (pc := 103) C [(4, .int o3), (0, .ref (G.1 19 0 0)), (1, .int v1), (2, .int v2), (3, .int v3)] dL_eventsAreSo_103 (by decide) rfl ?_
    refine r_aload_n (pc := 105) C 1 rfl rfl dL_eventsAreSo_105 ?_
    refine r_getR (pc := 106) C FL_x mw_273 g_0 rfl dL_eventsAreSo_106 (fun g4 => ?_)
    refine r_iload_n (pc := 109) C 4 rfl rfl dL_eventsAreSo_109 ?_
    refine r_iconst (pc := 110) C dL_eventsAreSo_110 kc_2 ?_
    refine r_n0hI (pc := 111) C Y (Rx.of hRm rfl rfl rfl rfl) (okL_event h0 Y.1 v3 (2 : Int32) M2 g1) mw_806 cvL_event rfl rfl (Nat.le_of_ble_eq_true rfl) dL_eventsAreSo_111 (fun o6 M5 => ?_)
    refine r_istore (pc := 114) C [(5, .int o6), (4, .int o3), (0, .ref (G.1 19 0 0)), (1, .int v1), (2, .int v2), (3, .int v3)] dL_eventsAreSo_114 (by decide) rfl ?_
    refine r_aload_n (pc := 116) C 2 rfl rfl dL_eventsAreSo_116 ?_
    refine r_getR (pc := 117) C FL_x mw_273 g_0 rfl dL_eventsAreSo_117 (fun g7 => ?_)
    refine r_iload_n (pc := 120) C 5 rfl rfl dL_eventsAreSo_120 ?_
    refine r_iconst (pc := 121) C dL_eventsAreSo_121 kc_3 ?_
    refine r_n0hI (pc := 122) C Y (Rx.of hRm rfl rfl rfl rfl) (okL_event h0 Y.1 v3 (3 : Int32) M5 g1) mw_806 cvL_event rfl rfl (Nat.le_of_ble_eq_true rfl) dL_eventsAreSo_122 (fun o9 M8 => ?_)
    refine r_istore (pc := 125) C [(6, .int o9), (5, .int o6), (4, .int o3), (0, .ref (G.1 19 0 0)), (1, .int v1), (2, .int v2), (3, .int v3)] dL_eventsAreSo_125 (by decide) rfl ?_
    refine r_aload_n (pc := 127) C 3 rfl rfl dL_eventsAreSo_127 ?_
    refine r_getR (pc := 128) C FL_x mw_273 g_0 rfl dL_eventsAreSo_128 (fun g10 => ?_)
    refine r_iload_n (pc := 131) C 6 rfl rfl dL_eventsAreSo_131 ?_
    refine r_iconst (pc := 132) C dL_eventsAreSo_132 kc_0 ?_
    refine r_n0hI (pc := 133) C Y (Rx.of hRm rfl rfl rfl rfl) (okL_event h0 Y.1 v3 (0 : Int32) M8 g1) mw_806 cvL_event rfl rfl (Nat.le_of_ble_eq_true rfl) dL_eventsAreSo_133 (fun o12 M11 => ?_)
    refine r_aload_n (pc := 136) C 3 rfl rfl dL_eventsAreSo_136 ?_
    refine r_getR (pc := 137) C FL_x mw_273 g_0 rfl dL_eventsAreSo_137 (fun g13 => ?_)
    refine r_iconst (pc := 140) C dL_eventsAreSo_140 kc_3 ?_
    refine r_n0hI (pc := 141) C Y (Rx.of hRm rfl rfl rfl rfl) (okL_count h0 Y.1 (3 : Int32) M11 g1) mw_638 cvL_count rfl rfl (Nat.le_of_ble_eq_true rfl) dL_eventsAreSo_141 (fun o15 M14 => ?_)
    refine r_icmp_gt (pc := 144) C dL_eventsAreSo_144 (tgt := 174) rfl ?_ ?_
    refine r_iconst (pc := 174) C dL_eventsAreSo_174 kc_0 ?_
    refine r_wid (cs' := 0) (sl' := 6 * 0) (Nat.le_of_ble_eq_true rfl) (Nat.le_of_ble_eq_true rfl) (r_nok ?_)
    exact r_zret (pc := 175) C dL_eventsAreSo_175
    refine r_iload_n (pc := 147) C 6 rfl rfl dL_eventsAreSo_147 ?_
    refine r_if_le (pc := 148) C dL_eventsAreSo_148 (tgt := 176) rfl ?_ ?_
    refine r_sub [3, 4, 5, 6, 2, 1, 0] rfl ?_
    exact lL_eventsAreSo_176  (k89 := (fun v1 v2 v3 M => pL_eventsAreSo_89   n v1 v2 v3 M)) C hRm Y h0 ih  v1 v2 v3 o3 o6 o9 M14 g_0
    refine r_aload_n (pc := 151) C 3 rfl rfl dL_eventsAreSo_151 ?_
    refine r_getR (pc := 152) C FL_x mw_273 g_0 rfl dL_eventsAreSo_152 (fun g16 => ?_)
    refine r_iload_n (pc := 155) C 6 rfl rfl dL_eventsAreSo_155 ?_
    refine r_iconst (pc := 156) C dL_eventsAreSo_156 kc_0 ?_
    refine r_n0hI (pc := 157) C Y (Rx.of hRm rfl rfl rfl rfl) (okL_event h0 Y.1 v3 (0 : Int32) M14 g1) mw_806 cvL_event rfl rfl (Nat.le_of_ble_eq_true rfl) dL_eventsAreSo_157 (fun o18 M17 => ?_)
    refine r_aload_n (pc := 160) C 3 rfl rfl dL_eventsAreSo_160 ?_
    refine r_getR (pc := 161) C FL_x mw_273 g_0 rfl dL_eventsAreSo_161 (fun g19 => ?_)
    refine r_iload_n (pc := 164) C 6 rfl rfl dL_eventsAreSo_164 ?_
    refine r_iconst (pc := 165) C dL_eventsAreSo_165 kc_1 ?_
    refine r_isub (pc := 166) C dL_eventsAreSo_166 ?_
    refine r_iconst (pc := 167) C dL_eventsAreSo_167 kc_0 ?_
    refine r_n0hI (pc := 168) C Y (Rx.of hRm rfl rfl rfl rfl) (okL_event h0 Y.1 (v3 - (1 : Int32)) (0 : Int32) M17 g1) mw_806 cvL_event rfl rfl (Nat.le_of_ble_eq_true rfl) dL_eventsAreSo_168 (fun o21 M20 => ?_)
    refine r_icmp_ge (pc := 171) C dL_eventsAreSo_171 (tgt := 176) rfl ?_ ?_
    refine r_sub [3, 4, 5, 6, 2, 1, 0] rfl ?_
    exact lL_eventsAreSo_176  (k89 := (fun v1 v2 v3 M => pL_eventsAreSo_89   n v1 v2 v3 M)) C hRm Y h0 ih  v1 v2 v3 o3 o6 o9 M20 g_0
    refine r_iconst (pc := 174) C dL_eventsAreSo_174 kc_0 ?_
    refine r_wid (cs' := 0) (sl' := 6 * 0) (Nat.le_of_ble_eq_true rfl) (Nat.le_of_ble_eq_true rfl) (r_nok ?_)
    exact r_zret (pc := 175) C dL_eventsAreSo_175
def pL_eventsAreSo_14 : Nat → Int32 → Int32 → Int32 → Mem → Option (Int32 × Mem)
  | 0, _, _, _, _ => none
  | n + 1, v1, v2, v3, M =>
    if (10 : Int32) ≤ v3 then (pL_eventsAreSo_89   fu v1 v2 (0 : Int32) M)
    else pL_eventsAreSo_26  (fun v1 v2 v3 M => pL_eventsAreSo_14   n v1 v2 v3 M) fu v1 v2 v3 (0 : Int32) (0 : Int32) M
theorem lL_eventsAreSo_14 {K : KT} {G : WT} (C : Cx K G "PermitParkLaw" cL_eventsAreSo 7 (some FieldType.boolean)) (hRm : K.2.2.2.1 = rmX 4 91 0) (Y : Cy0 K) (h0 : W0 G) : ∀ (n : Nat) (v1 : Int32) (v2 : Int32) (v3 : Int32) (M : Mem), G.2.2.2.1 19 0 0 → Run K G 7 0 (6 * 0) (FinN K G voI 0) 14 [(0, .ref (G.1 19 0 0)), (1, .int v1), (2, .int v2), (3, .int v3)] [] M (pL_eventsAreSo_14   n v1 v2 v3 M) := by
  intro n
  induction n with
  | zero =>
    intro v1 v2 v3 M g_0
    exact r_none
  | succ n ih =>
    intro v1 v2 v3 M g_0
    rw [pL_eventsAreSo_14]
    refine r_iload_n (pc := 14) C 3 rfl rfl dL_eventsAreSo_14 ?_
    refine r_bipush (pc := 15) C dL_eventsAreSo_15 kb_10 ?_
    refine r_icmp_ge (pc := 17) C dL_eventsAreSo_17 (tgt := 87) rfl ?_ ?_
    refine r_iconst (pc := 87) C dL_eventsAreSo_87 kc_0 ?_
    refine r_istore_n (pc := 88) C [(3, .int (0 : Int32)), (0, .ref (G.1 19 0 0)), (1, .int v1), (2, .int v2)] dL_eventsAreSo_88 rfl (by decide) rfl ?_
    refine r_sub [1, 2, 3, 0] rfl ?_
    exact lL_eventsAreSo_89   C hRm Y h0  fu v1 v2 (0 : Int32) M g_0
    refine r_iconst (pc := 20) C dL_eventsAreSo_20 kc_0 ?_
    refine r_istore (pc := 21) C [(4, .int (0 : Int32)), (0, .ref (G.1 19 0 0)), (1, .int v1), (2, .int v2), (3, .int v3)] dL_eventsAreSo_21 (by decide) rfl ?_
    refine r_iconst (pc := 23) C dL_eventsAreSo_23 kc_0 ?_
    refine r_istore (pc := 24) C [(5, .int (0 : Int32)), (4, .int (0 : Int32)), (0, .ref (G.1 19 0 0)), (1, .int v1), (2, .int v2), (3, .int v3)] dL_eventsAreSo_24 (by decide) rfl ?_
    refine r_sub [2, 3, 4, 5, 1, 0] rfl ?_
    exact lL_eventsAreSo_26  (k14 := (fun v1 v2 v3 M => pL_eventsAreSo_14   n v1 v2 v3 M)) C hRm Y h0 ih fu v1 v2 v3 (0 : Int32) (0 : Int32) M g_0
def pL_eventsAreSo (M : Mem) : Option (Int32 × Mem) :=
    bnd (pL_count (13 : Int32) M) fun o3 M2 => pL_eventsAreSo_14   fu o3 (0 : Int32) (0 : Int32) M2
theorem lL_eventsAreSo_0 {K : KT} {G : WT} (C : Cx K G "PermitParkLaw" cL_eventsAreSo 7 (some FieldType.boolean)) (hRm : K.2.2.2.1 = rmX 4 91 0) (Y : Cy0 K) (h0 : W0 G) (M : Mem) (h_0 : G.2.2.2.1 19 0 0) : Run K G 7 0 (6 * 0) (FinN K G voI 0) 0 [(0, .ref (G.1 19 0 0))] [] M (pL_eventsAreSo    M) := by
  rw [pL_eventsAreSo]
  refine r_aload_n (pc := 0) C 0 rfl rfl dL_eventsAreSo_0 ?_
  refine r_getR (pc := 1) C FL_x mw_273 h_0 rfl dL_eventsAreSo_1 (fun g1 => ?_)
  refine r_bipush (pc := 4) C dL_eventsAreSo_4 kb_13 ?_
  refine r_n0hI (pc := 6) C Y (Rx.of hRm rfl rfl rfl rfl) (okL_count h0 Y.1 (13 : Int32) M g1) mw_638 cvL_count rfl rfl (Nat.le_of_ble_eq_true rfl) dL_eventsAreSo_6 (fun o3 M2 => ?_)
  refine r_istore_n (pc := 9) C [(1, .int o3), (0, .ref (G.1 19 0 0))] dL_eventsAreSo_9 rfl (by decide) rfl ?_
  refine r_iconst (pc := 10) C dL_eventsAreSo_10 kc_0 ?_
  refine r_istore_n (pc := 11) C [(2, .int (0 : Int32)), (1, .int o3), (0, .ref (G.1 19 0 0))] dL_eventsAreSo_11 rfl (by decide) rfl ?_
  refine r_iconst (pc := 12) C dL_eventsAreSo_12 kc_0 ?_
  refine r_istore_n (pc := 13) C [(3, .int (0 : Int32)), (2, .int (0 : Int32)), (1, .int o3), (0, .ref (G.1 19 0 0))] dL_eventsAreSo_13 rfl (by decide) rfl ?_
  refine r_sub [3, 2, 1, 0] rfl ?_
  exact lL_eventsAreSo_14   C hRm Y h0  fu o3 (0 : Int32) (0 : Int32) M2 h_0
theorem okL_eventsAreSo {l : Launch} {G : WT} (h0 : W0 G) (hT : l.stackTraces = false) (M : Mem) (h_0 : G.2.2.2.1 19 0 0) : OkX l G yL_eventsAreSo cL_eventsAreSo 7 (some FieldType.boolean) 4 91 0 [.ref (G.1 19 0 0)] voI M (xok (pL_eventsAreSo   M)) :=
  OkX.of "PermitParkLaw" rfl (by decide) (Nat.le_of_ble_eq_true rfl) (L := [(0, .ref (G.1 19 0 0))]) rfl hT (fun K _ hr Y C => r_ofN (lL_eventsAreSo_0 C hr Y.1 h0  M h_0))
def pL_mine (v1 : Int32) (M : Mem) : Option (Int32 × Mem) :=
    bnd (pL_thread v1 (13 : Int32) M) fun o3 M2 => bnd (pL_thread v1 (14 : Int32) M2) fun o6 M5 => bnd (pL_thread v1 (15 : Int32) M5) fun o9 M8 => bnd (pL_thread v1 (16 : Int32) M8) fun o12 M11 => some ((((o3 + o6) + o9) + o12), M11)
theorem lL_mine_0 {K : KT} {G : WT} (C : Cx K G "PermitParkLaw" cL_mine 2 (some FieldType.int)) (hRm : K.2.2.2.1 = rmX 4 90 0) (Y : Cy0 K) (h0 : W0 G) (v1 : Int32) (M : Mem) (h_0 : G.2.2.2.1 19 0 0) : Run K G 2 0 (6 * 0) (FinN K G voI 0) 0 [(0, .ref (G.1 19 0 0)), (1, .int v1)] [] M (pL_mine   v1 M) := by
  rw [pL_mine]
  refine r_aload_n (pc := 0) C 0 rfl rfl dL_mine_0 ?_
  refine r_getR (pc := 1) C FL_x mw_273 h_0 rfl dL_mine_1 (fun g1 => ?_)
  refine r_iload_n (pc := 4) C 1 rfl rfl dL_mine_4 ?_
  refine r_bipush (pc := 5) C dL_mine_5 kb_13 ?_
  refine r_n0hI (pc := 7) C Y (Rx.of hRm rfl rfl rfl rfl) (okL_thread h0 Y.1 v1 (13 : Int32) M g1) mw_657 cvL_thread rfl rfl (Nat.le_of_ble_eq_true rfl) dL_mine_7 (fun o3 M2 => ?_)
  refine r_aload_n (pc := 10) C 0 rfl rfl dL_mine_10 ?_
  refine r_getR (pc := 11) C FL_x mw_273 h_0 rfl dL_mine_11 (fun g4 => ?_)
  refine r_iload_n (pc := 14) C 1 rfl rfl dL_mine_14 ?_
  refine r_bipush (pc := 15) C dL_mine_15 kb_14 ?_
  refine r_n0hI (pc := 17) C Y (Rx.of hRm rfl rfl rfl rfl) (okL_thread h0 Y.1 v1 (14 : Int32) M2 g1) mw_657 cvL_thread rfl rfl (Nat.le_of_ble_eq_true rfl) dL_mine_17 (fun o6 M5 => ?_)
  refine r_iadd (pc := 20) C dL_mine_20 ?_
  refine r_aload_n (pc := 21) C 0 rfl rfl dL_mine_21 ?_
  refine r_getR (pc := 22) C FL_x mw_273 h_0 rfl dL_mine_22 (fun g7 => ?_)
  refine r_iload_n (pc := 25) C 1 rfl rfl dL_mine_25 ?_
  refine r_bipush (pc := 26) C dL_mine_26 kb_15 ?_
  refine r_n0hI (pc := 28) C Y (Rx.of hRm rfl rfl rfl rfl) (okL_thread h0 Y.1 v1 (15 : Int32) M5 g1) mw_657 cvL_thread rfl rfl (Nat.le_of_ble_eq_true rfl) dL_mine_28 (fun o9 M8 => ?_)
  refine r_iadd (pc := 31) C dL_mine_31 ?_
  refine r_aload_n (pc := 32) C 0 rfl rfl dL_mine_32 ?_
  refine r_getR (pc := 33) C FL_x mw_273 h_0 rfl dL_mine_33 (fun g10 => ?_)
  refine r_iload_n (pc := 36) C 1 rfl rfl dL_mine_36 ?_
  refine r_bipush (pc := 37) C dL_mine_37 kb_16 ?_
  refine r_n0hI (pc := 39) C Y (Rx.of hRm rfl rfl rfl rfl) (okL_thread h0 Y.1 v1 (16 : Int32) M8 g1) mw_657 cvL_thread rfl rfl (Nat.le_of_ble_eq_true rfl) dL_mine_39 (fun o12 M11 => ?_)
  refine r_iadd (pc := 42) C dL_mine_42 ?_
  refine r_wid (cs' := 0) (sl' := 6 * 0) (Nat.le_of_ble_eq_true rfl) (Nat.le_of_ble_eq_true rfl) (r_nok ?_)
  exact r_iret (pc := 43) C rfl dL_mine_43
theorem okL_mine {l : Launch} {G : WT} (h0 : W0 G) (hT : l.stackTraces = false) (v1 : Int32) (M : Mem) (h_0 : G.2.2.2.1 19 0 0) : OkX l G yL_mine cL_mine 2 (some FieldType.int) 4 90 0 [.ref (G.1 19 0 0), .int v1] voI M (xok (pL_mine  v1 M)) :=
  OkX.of "PermitParkLaw" rfl (by decide) (Nat.le_of_ble_eq_true rfl) (L := [(0, .ref (G.1 19 0 0)), (1, .int v1)]) rfl hT (fun K _ hr Y C => r_ofN (lL_mine_0 C hr Y.1 h0 v1 M h_0))
def pL_returns_4 : Nat → Int32 → Int32 → Mem → Option (Int32 × Mem)
  | 0, _, _, _ => none
  | n + 1, v1, v2, M =>
    bnd (pL_count (2 : Int32) M) fun o3 M2 => if o3 ≤ v2 then (some (v1, M2))
    else bnd (pL_mine v2 M2) fun o5 M4 => nm (v1 + o5) fun x6 => pL_returns_4   n x6 (v2 + (1 : Int32)) M4
theorem lL_returns_4 {K : KT} {G : WT} (C : Cx K G "PermitParkLaw" cL_returns 3 (some FieldType.int)) (hRm : K.2.2.2.1 = rmX 5 111 0) (Y : Cy0 K) (h0 : W0 G) : ∀ (n : Nat) (v1 : Int32) (v2 : Int32) (M : Mem), G.2.2.2.1 19 0 0 → Run K G 3 0 (6 * 0) (FinN K G voI 0) 4 [(0, .ref (G.1 19 0 0)), (1, .int v1), (2, .int v2)] [] M (pL_returns_4   n v1 v2 M) := by
  intro n
  induction n with
  | zero =>
    intro v1 v2 M g_0
    exact r_none
  | succ n ih =>
    intro v1 v2 M g_0
    rw [pL_returns_4]
    refine r_iload_n (pc := 4) C 2 rfl rfl dL_returns_4 ?_
    refine r_aload_n (pc := 5) C 0 rfl rfl dL_returns_5 ?_
    refine r_getR (pc := 6) C FL_x mw_273 g_0 rfl dL_returns_6 (fun g1 => ?_)
    refine r_iconst (pc := 9) C dL_returns_9 kc_2 ?_
    refine r_n0hI (pc := 10) C Y (Rx.of hRm rfl rfl rfl rfl) (okL_count h0 Y.1 (2 : Int32) M g1) mw_638 cvL_count rfl rfl (Nat.le_of_ble_eq_true rfl) dL_returns_10 (fun o3 M2 => ?_)
    refine r_icmp_ge (pc := 13) C dL_returns_13 (tgt := 30) rfl ?_ ?_
    refine r_iload_n (pc := 30) C 1 rfl rfl dL_returns_30 ?_
    refine r_wid (cs' := 0) (sl' := 6 * 0) (Nat.le_of_ble_eq_true rfl) (Nat.le_of_ble_eq_true rfl) (r_nok ?_)
    exact r_iret (pc := 31) C rfl dL_returns_31
    refine r_iload_n (pc := 16) C 1 rfl rfl dL_returns_16 ?_
    refine r_aload_n (pc := 17) C 0 rfl rfl dL_returns_17 ?_
    refine r_iload_n (pc := 18) C 2 rfl rfl dL_returns_18 ?_
    refine r_n0vI (pc := 19) C Y (Rx.of hRm rfl rfl rfl rfl) (okL_mine h0 Y.1 v2 M2 g_0) (Rc.of C rfl rfl g_0) mw_859 cvL_mine rfl rfl (Nat.le_of_ble_eq_true rfl) dL_returns_19 (fun o5 M4 => ?_)
    refine r_iadd (pc := 22) C dL_returns_22 ?_
    refine r_nmi (fun x6 => ?_)
    refine r_istore_n (pc := 23) C [(1, .int x6), (0, .ref (G.1 19 0 0)), (2, .int v2)] dL_returns_23 rfl (by decide) rfl ?_
    refine r_iinc (pc := 24) C [(2, .int (v2 + (1 : Int32))), (1, .int x6), (0, .ref (G.1 19 0 0))] dL_returns_24 (p := 2) rfl (ki_1 _) (by decide) rfl ?_
    refine r_goto (pc := 27) C dL_returns_27 (tgt := 4) rfl ?_
    refine r_sub [2, 1, 0] rfl ?_
    exact ih x6 (v2 + (1 : Int32)) M4 g_0
def pL_returns (M : Mem) : Option (Int32 × Mem) :=
    pL_returns_4   fu (0 : Int32) (0 : Int32) M
theorem lL_returns_0 {K : KT} {G : WT} (C : Cx K G "PermitParkLaw" cL_returns 3 (some FieldType.int)) (hRm : K.2.2.2.1 = rmX 5 111 0) (Y : Cy0 K) (h0 : W0 G) (M : Mem) (h_0 : G.2.2.2.1 19 0 0) : Run K G 3 0 (6 * 0) (FinN K G voI 0) 0 [(0, .ref (G.1 19 0 0))] [] M (pL_returns    M) := by
  rw [pL_returns]
  refine r_iconst (pc := 0) C dL_returns_0 kc_0 ?_
  refine r_istore_n (pc := 1) C [(1, .int (0 : Int32)), (0, .ref (G.1 19 0 0))] dL_returns_1 rfl (by decide) rfl ?_
  refine r_iconst (pc := 2) C dL_returns_2 kc_0 ?_
  refine r_istore_n (pc := 3) C [(2, .int (0 : Int32)), (1, .int (0 : Int32)), (0, .ref (G.1 19 0 0))] dL_returns_3 rfl (by decide) rfl ?_
  refine r_sub [2, 1, 0] rfl ?_
  exact lL_returns_4   C hRm Y h0  fu (0 : Int32) (0 : Int32) M h_0
theorem okL_returns {l : Launch} {G : WT} (h0 : W0 G) (hT : l.stackTraces = false) (M : Mem) (h_0 : G.2.2.2.1 19 0 0) : OkX l G yL_returns cL_returns 3 (some FieldType.int) 5 111 0 [.ref (G.1 19 0 0)] voI M (xok (pL_returns   M)) :=
  OkX.of "PermitParkLaw" rfl (by decide) (Nat.le_of_ble_eq_true rfl) (L := [(0, .ref (G.1 19 0 0))]) rfl hT (fun K _ hr Y C => r_ofN (lL_returns_0 C hr Y.1 h0  M h_0))
def pL_foretells_201 (Z : Nat × (Nat → Int32)) (k160 : Int32 → Int32 → Int32 → Int32 → Int32 → Int32 → Int32 → Int32 → Int32 → Int32 → Int32 → Int32 → Int32 → Int32 → Int32 → Mem → Option (Int32 × Mem)) (v1 : Int32) (v2 : Int32) (v3 : Int32) (v4 : Int32) (v5 : Int32) (v6 : Int32) (v7 : Int32) (v8 : Int32) (v9 : Int32) (v10 : Int32) (v11 : Int32) (v12 : Int32) (v13 : Int32) (v14 : Int32) (v15 : Int32) (M : Mem) : Option (Int32 × Mem) :=
    if 0 ≤ v14 then (k160 v1 v2 v3 v4 v5 v6 v7 v8 v9 v10 v11 v12 v13 v14 (v15 + (1 : Int32)) M)
    else bnd (pL_mine v2 M) fun o2 M1 => if o2 ≤ v10 then (k160 v1 v2 v3 v4 v5 v6 v7 v8 v9 v10 v11 v12 v13 v14 (v15 + (1 : Int32)) M1)
    else k160 v1 v2 v3 v4 v5 v6 v7 v8 v9 v10 v11 v12 v13 v15 (v15 + (1 : Int32)) M1
theorem lL_foretells_201 {K : KT} {G : WT} {k160 : Int32 → Int32 → Int32 → Int32 → Int32 → Int32 → Int32 → Int32 → Int32 → Int32 → Int32 → Int32 → Int32 → Int32 → Int32 → Mem → Option (Int32 × Mem)} (C : Cx K G "PermitParkLaw" cL_foretells 21 (some FieldType.boolean)) (hRm : K.2.2.2.1 = rmX 8 193 0) (Y : Cy0 K) (h0 : W0 G)
    (hk160 : ∀ (v1 : Int32) (v2 : Int32) (v3 : Int32) (v4 : Int32) (v5 : Int32) (v6 : Int32) (v7 : Int32) (v8 : Int32) (v9 : Int32) (v10 : Int32) (v11 : Int32) (v12 : Int32) (v13 : Int32) (v14 : Int32) (v15 : Int32) (M : Mem), G.2.2.2.1 19 0 0 → Run K G 21 0 (6 * 0) (FinN K G voI 0) 160 [(0, .ref (G.1 19 0 0)), (1, .int v1), (2, .int v2), (3, .int v3), (4, .int v4), (5, .int v5), (6, .int v6), (7, .int v7), (8, .int v8), (9, .int v9), (10, .int v10), (11, .int v11), (12, .int v12), (13, .int v13), (14, .int v14), (15, .int v15)] [] M (k160 v1 v2 v3 v4 v5 v6 v7 v8 v9 v10 v11 v12 v13 v14 v15 M)) (v1 : Int32) (v2 : Int32) (v3 : Int32) (v4 : Int32) (v5 : Int32) (v6 : Int32) (v7 : Int32) (v8 : Int32) (v9 : Int32) (v10 : Int32) (v11 : Int32) (v12 : Int32) (v13 : Int32) (v14 : Int32) (v15 : Int32) (M : Mem) (g_0 : G.2.2.2.1 19 0 0) : Run K G 21 0 (6 * 0) (FinN K G voI 0) 201 [(0, .ref (G.1 19 0 0)), (1, .int v1), (2, .int v2), (3, .int v3), (4, .int v4), (5, .int v5), (6, .int v6), (7, .int v7), (8, .int v8), (9, .int v9), (10, .int v10), (11, .int v11), (12, .int v12), (13, .int v13), (14, .int v14), (15, .int v15)] [] M (pL_foretells_201 (scr G) k160 v1 v2 v3 v4 v5 v6 v7 v8 v9 v10 v11 v12 v13 v14 v15 M) := by
  rw [pL_foretells_201]
  refine r_iload (pc := 201) C 14 rfl dL_foretells_201 ?_
  refine r_if_ge (pc := 203) C dL_foretells_203 (tgt := 220) rfl ?_ ?_
  refine r_iinc (pc := 220) C [(15, .int (v15 + (1 : Int32))), (0, .ref (G.1 19 0 0)), (1, .int v1), (2, .int v2), (3, .int v3), (4, .int v4), (5, .int v5), (6, .int v6), (7, .int v7), (8, .int v8), (9, .int v9), (10, .int v10), (11, .int v11), (12, .int v12), (13, .int v13), (14, .int v14)] dL_foretells_220 (p := 15) rfl (ki_1 _) (by decide) rfl ?_
  refine r_goto (pc := 223) C dL_foretells_223 (tgt := 160) rfl ?_
  refine r_sub [1, 2, 3, 4, 5, 6, 7, 8, 9, 10, 11, 12, 13, 14, 15, 0] rfl ?_
  exact hk160 v1 v2 v3 v4 v5 v6 v7 v8 v9 v10 v11 v12 v13 v14 (v15 + (1 : Int32)) M g_0
  refine r_aload_n (pc := 206) C 0 rfl rfl dL_foretells_206 ?_
  refine r_iload_n (pc := 207) C 2 rfl rfl dL_foretells_207 ?_
  refine r_n0vI (pc := 208) C Y (Rx.of hRm rfl rfl rfl rfl) (okL_mine h0 Y.1 v2 M g_0) (Rc.of C rfl rfl g_0) mw_859 cvL_mine rfl rfl (Nat.le_of_ble_eq_true rfl) dL_foretells_208 (fun o2 M1 => ?_)
  refine r_iload (pc := 211) C 10 rfl dL_foretells_211 ?_
  refine r_icmp_le (pc := 213) C dL_foretells_213 (tgt := 220) rfl ?_ ?_
  refine r_iinc (pc := 220) C [(15, .int (v15 + (1 : Int32))), (0, .ref (G.1 19 0 0)), (1, .int v1), (2, .int v2), (3, .int v3), (4, .int v4), (5, .int v5), (6, .int v6), (7, .int v7), (8, .int v8), (9, .int v9), (10, .int v10), (11, .int v11), (12, .int v12), (13, .int v13), (14, .int v14)] dL_foretells_220 (p := 15) rfl (ki_1 _) (by decide) rfl ?_
  refine r_goto (pc := 223) C dL_foretells_223 (tgt := 160) rfl ?_
  refine r_sub [1, 2, 3, 4, 5, 6, 7, 8, 9, 10, 11, 12, 13, 14, 15, 0] rfl ?_
  exact hk160 v1 v2 v3 v4 v5 v6 v7 v8 v9 v10 v11 v12 v13 v14 (v15 + (1 : Int32)) M1 g_0
  refine r_iload (pc := 216) C 15 rfl dL_foretells_216 ?_
  refine r_istore (pc := 218) C [(14, .int v15), (0, .ref (G.1 19 0 0)), (1, .int v1), (2, .int v2), (3, .int v3), (4, .int v4), (5, .int v5), (6, .int v6), (7, .int v7), (8, .int v8), (9, .int v9), (10, .int v10), (11, .int v11), (12, .int v12), (13, .int v13), (15, .int v15)] dL_foretells_218 (by decide) rfl ?_
  refine r_iinc (pc := 220) C [(15, .int (v15 + (1 : Int32))), (14, .int v15), (0, .ref (G.1 19 0 0)), (1, .int v1), (2, .int v2), (3, .int v3), (4, .int v4), (5, .int v5), (6, .int v6), (7, .int v7), (8, .int v8), (9, .int v9), (10, .int v10), (11, .int v11), (12, .int v12), (13, .int v13)] dL_foretells_220 (p := 15) rfl (ki_1 _) (by decide) rfl ?_
  refine r_goto (pc := 223) C dL_foretells_223 (tgt := 160) rfl ?_
  refine r_sub [2, 3, 4, 5, 6, 7, 8, 9, 10, 11, 12, 13, 14, 15, 1, 0] rfl ?_
  exact hk160 v1 v2 v3 v4 v5 v6 v7 v8 v9 v10 v11 v12 v13 v15 (v15 + (1 : Int32)) M1 g_0
def pL_foretells_328 (Z : Nat × (Nat → Int32)) : Nat → Int32 → Int32 → Int32 → Int32 → Int32 → Int32 → Int32 → Mem → Option (Int32 × Mem)
  | 0, _, _, _, _, _, _, _, _ => none
  | n + 1, v1, v2, v8, v15, v16, v17, v18, M =>
    if (10 : Int32) ≤ v18 then (if ¬ v15 = v8 then (chk (decide ((0 : Int32) = 0 ∨ (0 : Int32) = 1)) (some ((0 : Int32), M)))
    else bnd (pL_setBase v2 v17 M) fun o3 M2 => if ¬ o3 = (9 : Int32) then (chk (decide ((0 : Int32) = 0 ∨ (0 : Int32) = 1)) (some ((0 : Int32), M2)))
    else chk (decide ((1 : Int32) = 0 ∨ (1 : Int32) = 1)) (some ((1 : Int32), M2)))
    else bnd (pL_setBase v2 v18 M) fun o6 M5 => bnd (pL_doneIn v2 v1 M5) fun o9 M8 => if o6 < (1 : Int32) then (pL_foretells_328 Z  n v1 v2 v8 v15 v16 v17 (v18 + (1 : Int32)) M8)
    else if o9 < 0 then (pL_foretells_328 Z  n v1 v2 v8 v15 v16 v17 (v18 + (1 : Int32)) M8)
    else if v15 ≤ 0 then (pL_foretells_328 Z  n v1 v2 v8 v18 o9 v17 (v18 + (1 : Int32)) M8)
    else if o9 < v16 then (pL_foretells_328 Z  n v1 v2 v8 v18 o9 v17 (v18 + (1 : Int32)) M8)
    else pL_foretells_328 Z  n v1 v2 v8 v15 v16 v17 (v18 + (1 : Int32)) M8
theorem lL_foretells_328 {K : KT} {G : WT} (C : Cx K G "PermitParkLaw" cL_foretells 21 (some FieldType.boolean)) (hRm : K.2.2.2.1 = rmX 8 193 0) (Y : Cy0 K) (h0 : W0 G) : ∀ (n : Nat) (v1 : Int32) (v2 : Int32) (v8 : Int32) (v15 : Int32) (v16 : Int32) (v17 : Int32) (v18 : Int32) (M : Mem), G.2.2.2.1 19 0 0 → Run K G 21 0 (6 * 0) (FinN K G voI 0) 328 [(0, .ref (G.1 19 0 0)), (1, .int v1), (2, .int v2), (8, .int v8), (15, .int v15), (16, .int v16), (17, .int v17), (18, .int v18)] [] M (pL_foretells_328 (scr G)  n v1 v2 v8 v15 v16 v17 v18 M) := by
  intro n
  induction n with
  | zero =>
    intro v1 v2 v8 v15 v16 v17 v18 M g_0
    exact r_none
  | succ n ih =>
    intro v1 v2 v8 v15 v16 v17 v18 M g_0
    rw [pL_foretells_328]
    refine r_iload (pc := 328) C 7 rfl dL_foretells_328 ?_
    refine r_bipush (pc := 330) C dL_foretells_330 kb_10 ?_
    refine r_icmp_ge (pc := 332) C dL_foretells_332 (tgt := 398) rfl ?_ ?_
    refine r_iload (pc := 398) C 4 rfl dL_foretells_398 ?_
    refine r_iload (pc := 400) C 3 rfl dL_foretells_400 ?_
    refine r_icmp_ne (pc := 402) C dL_foretells_402 (tgt := 424) rfl ?_ ?_
    refine r_iconst (pc := 424) C dL_foretells_424 kc_0 ?_
    refine r_wid (cs' := 0) (sl' := 6 * 0) (Nat.le_of_ble_eq_true rfl) (Nat.le_of_ble_eq_true rfl) (r_nok ?_)
    exact r_zret (pc := 425) C dL_foretells_425
    refine r_aload_n (pc := 405) C 0 rfl rfl dL_foretells_405 ?_
    refine r_getR (pc := 406) C FL_x mw_273 g_0 rfl dL_foretells_406 (fun g1 => ?_)
    refine r_iload_n (pc := 409) C 2 rfl rfl dL_foretells_409 ?_
    refine r_iload (pc := 410) C 6 rfl dL_foretells_410 ?_
    refine r_n0hI (pc := 412) C Y (Rx.of hRm rfl rfl rfl rfl) (okL_setBase h0 Y.1 v2 v17 M g1) mw_748 cvL_setBase rfl rfl (Nat.le_of_ble_eq_true rfl) dL_foretells_412 (fun o3 M2 => ?_)
    refine r_bipush (pc := 415) C dL_foretells_415 kb_9 ?_
    refine r_icmp_ne (pc := 417) C dL_foretells_417 (tgt := 424) rfl ?_ ?_
    refine r_iconst (pc := 424) C dL_foretells_424 kc_0 ?_
    refine r_wid (cs' := 0) (sl' := 6 * 0) (Nat.le_of_ble_eq_true rfl) (Nat.le_of_ble_eq_true rfl) (r_nok ?_)
    exact r_zret (pc := 425) C dL_foretells_425
    refine r_iconst (pc := 420) C dL_foretells_420 kc_1 ?_
    refine r_goto (pc := 421) C dL_foretells_421 (tgt := 425) rfl ?_
    refine r_wid (cs' := 0) (sl' := 6 * 0) (Nat.le_of_ble_eq_true rfl) (Nat.le_of_ble_eq_true rfl) (r_nok ?_)
    exact r_zret (pc := 425) C dL_foretells_425
    refine r_aload_n (pc := 335) C 0 rfl rfl dL_foretells_335 ?_
    refine r_getR (pc := 336) C FL_x mw_273 g_0 rfl dL_foretells_336 (fun g4 => ?_)
    refine r_iload_n (pc := 339) C 2 rfl rfl dL_foretells_339 ?_
    refine r_iload (pc := 340) C 7 rfl dL_foretells_340 ?_
    refine r_n0hI (pc := 342) C Y (Rx.of hRm rfl rfl rfl rfl) (okL_setBase h0 Y.1 v2 v18 M g4) mw_748 cvL_setBase rfl rfl (Nat.le_of_ble_eq_true rfl) dL_foretells_342 (fun o6 M5 => ?_)
    refine r_istore (pc := 345) C [(19, .int o6), (0, .ref (G.1 19 0 0)), (1, .int v1), (2, .int v2), (8, .int v8), (15, .int v15), (16, .int v16), (17, .int v17), (18, .int v18)] dL_foretells_345 (by decide) rfl ?_
    refine r_aload_n (pc := 347) C 1 rfl rfl dL_foretells_347 ?_
    refine r_getR (pc := 348) C FL_x mw_273 g_0 rfl dL_foretells_348 (fun g7 => ?_)
    refine r_iload_n (pc := 351) C 3 rfl rfl dL_foretells_351 ?_
    refine r_iload_n (pc := 352) C 2 rfl rfl dL_foretells_352 ?_
    refine r_n0hI (pc := 353) C Y (Rx.of hRm rfl rfl rfl rfl) (okL_doneIn h0 Y.1 v2 v1 M5 g4) mw_818 cvL_doneIn rfl rfl (Nat.le_of_ble_eq_true rfl) dL_foretells_353 (fun o9 M8 => ?_)
    refine r_istore (pc := 356) C [(20, .int o9), (19, .int o6), (0, .ref (G.1 19 0 0)), (1, .int v1), (2, .int v2), (8, .int v8), (15, .int v15), (16, .int v16), (17, .int v17), (18, .int v18)] dL_foretells_356 (by decide) rfl ?_
    refine r_iload (pc := 358) C 1 rfl dL_foretells_358 ?_
    refine r_iconst (pc := 360) C dL_foretells_360 kc_1 ?_
    refine r_icmp_lt (pc := 361) C dL_foretells_361 (tgt := 392) rfl ?_ ?_
    refine r_iinc (pc := 392) C [(18, .int (v18 + (1 : Int32))), (20, .int o9), (19, .int o6), (0, .ref (G.1 19 0 0)), (1, .int v1), (2, .int v2), (8, .int v8), (15, .int v15), (16, .int v16), (17, .int v17)] dL_foretells_392 (p := 9) rfl (ki_1 _) (by decide) rfl ?_
    refine r_goto (pc := 395) C dL_foretells_395 (tgt := 328) rfl ?_
    refine r_sub [3, 4, 5, 6, 7, 8, 9, 0] rfl ?_
    exact ih v1 v2 v8 v15 v16 v17 (v18 + (1 : Int32)) M8 g_0
    refine r_iload (pc := 364) C 0 rfl dL_foretells_364 ?_
    refine r_if_lt (pc := 366) C dL_foretells_366 (tgt := 392) rfl ?_ ?_
    refine r_iinc (pc := 392) C [(18, .int (v18 + (1 : Int32))), (20, .int o9), (19, .int o6), (0, .ref (G.1 19 0 0)), (1, .int v1), (2, .int v2), (8, .int v8), (15, .int v15), (16, .int v16), (17, .int v17)] dL_foretells_392 (p := 9) rfl (ki_1 _) (by decide) rfl ?_
    refine r_goto (pc := 395) C dL_foretells_395 (tgt := 328) rfl ?_
    refine r_sub [3, 4, 5, 6, 7, 8, 9, 0] rfl ?_
    exact ih v1 v2 v8 v15 v16 v17 (v18 + (1 : Int32)) M8 g_0
    refine r_iload (pc := 369) C 6 rfl dL_foretells_369 ?_
    refine r_if_le (pc := 371) C dL_foretells_371 (tgt := 384) rfl ?_ ?_
    refine r_iload (pc := 384) C 9 rfl dL_foretells_384 ?_
    refine r_istore (pc := 386) C [(15, .int v18), (20, .int o9), (19, .int o6), (0, .ref (G.1 19 0 0)), (1, .int v1), (2, .int v2), (8, .int v8), (16, .int v16), (17, .int v17), (18, .int v18)] dL_foretells_386 (by decide) rfl ?_
    refine r_iload (pc := 388) C 1 rfl dL_foretells_388 ?_
    refine r_istore (pc := 390) C [(16, .int o9), (15, .int v18), (20, .int o9), (19, .int o6), (0, .ref (G.1 19 0 0)), (1, .int v1), (2, .int v2), (8, .int v8), (17, .int v17), (18, .int v18)] dL_foretells_390 (by decide) rfl ?_
    refine r_iinc (pc := 392) C [(18, .int (v18 + (1 : Int32))), (16, .int o9), (15, .int v18), (20, .int o9), (19, .int o6), (0, .ref (G.1 19 0 0)), (1, .int v1), (2, .int v2), (8, .int v8), (17, .int v17)] dL_foretells_392 (p := 9) rfl (ki_1 _) (by decide) rfl ?_
    refine r_goto (pc := 395) C dL_foretells_395 (tgt := 328) rfl ?_
    refine r_sub [5, 6, 7, 8, 2, 1, 9, 0] rfl ?_
    exact ih v1 v2 v8 v18 o9 v17 (v18 + (1 : Int32)) M8 g_0
    refine r_iload (pc := 374) C 0 rfl dL_foretells_374 ?_
    refine r_iload (pc := 376) C 7 rfl dL_foretells_376 ?_
    refine r_icmp_lt (pc := 378) C dL_foretells_378 (tgt := 384) rfl ?_ ?_
    refine r_iload (pc := 384) C 9 rfl dL_foretells_384 ?_
    refine r_istore (pc := 386) C [(15, .int v18), (20, .int o9), (19, .int o6), (0, .ref (G.1 19 0 0)), (1, .int v1), (2, .int v2), (8, .int v8), (16, .int v16), (17, .int v17), (18, .int v18)] dL_foretells_386 (by decide) rfl ?_
    refine r_iload (pc := 388) C 1 rfl dL_foretells_388 ?_
    refine r_istore (pc := 390) C [(16, .int o9), (15, .int v18), (20, .int o9), (19, .int o6), (0, .ref (G.1 19 0 0)), (1, .int v1), (2, .int v2), (8, .int v8), (17, .int v17), (18, .int v18)] dL_foretells_390 (by decide) rfl ?_
    refine r_iinc (pc := 392) C [(18, .int (v18 + (1 : Int32))), (16, .int o9), (15, .int v18), (20, .int o9), (19, .int o6), (0, .ref (G.1 19 0 0)), (1, .int v1), (2, .int v2), (8, .int v8), (17, .int v17)] dL_foretells_392 (p := 9) rfl (ki_1 _) (by decide) rfl ?_
    refine r_goto (pc := 395) C dL_foretells_395 (tgt := 328) rfl ?_
    refine r_sub [5, 6, 7, 8, 2, 1, 9, 0] rfl ?_
    exact ih v1 v2 v8 v18 o9 v17 (v18 + (1 : Int32)) M8 g_0
    refine r_goto (pc := 381) C dL_foretells_381 (tgt := 392) rfl ?_
    refine r_iinc (pc := 392) C [(18, .int (v18 + (1 : Int32))), (20, .int o9), (19, .int o6), (0, .ref (G.1 19 0 0)), (1, .int v1), (2, .int v2), (8, .int v8), (15, .int v15), (16, .int v16), (17, .int v17)] dL_foretells_392 (p := 9) rfl (ki_1 _) (by decide) rfl ?_
    refine r_goto (pc := 395) C dL_foretells_395 (tgt := 328) rfl ?_
    refine r_sub [3, 4, 5, 6, 7, 8, 9, 0] rfl ?_
    exact ih v1 v2 v8 v15 v16 v17 (v18 + (1 : Int32)) M8 g_0
def pL_foretells_160 (Z : Nat × (Nat → Int32)) : Nat → Int32 → Int32 → Int32 → Int32 → Int32 → Int32 → Int32 → Int32 → Int32 → Int32 → Int32 → Int32 → Int32 → Int32 → Int32 → Mem → Option (Int32 × Mem)
  | 0, _, _, _, _, _, _, _, _, _, _, _, _, _, _, _, _ => none
  | n + 1, v1, v2, v3, v4, v5, v6, v7, v8, v9, v10, v11, v12, v13, v14, v15, M =>
    if v1 < v15 then (if ¬ v13 = v3 then (chk (decide ((0 : Int32) = 0 ∨ (0 : Int32) = 1)) (some ((0 : Int32), M)))
    else if ¬ v14 = v4 then (chk (decide ((0 : Int32) = 0 ∨ (0 : Int32) = 1)) (some ((0 : Int32), M)))
    else bnd (pL_count (8 : Int32) M) fun o3 M2 => if ¬ o3 = v5 then (chk (decide ((0 : Int32) = 0 ∨ (0 : Int32) = 1)) (some ((0 : Int32), M2)))
    else bnd (pL_count (12 : Int32) M2) fun o6 M5 => if ¬ o6 = (v11 + v6) then (chk (decide ((0 : Int32) = 0 ∨ (0 : Int32) = 1)) (some ((0 : Int32), M5)))
    else bnd (pL_returns M5) fun o8 M7 => if ¬ o8 = (v9 + v7) then (chk (decide ((0 : Int32) = 0 ∨ (0 : Int32) = 1)) (some ((0 : Int32), M7)))
    else bnd (pL_restore (1 : Int32) M7) fun o11 M10 => if ¬ o11 = 0 then (chk (decide ((0 : Int32) = 0 ∨ (0 : Int32) = 1)) (some ((0 : Int32), M10)))
    else bnd (pL_count (4 : Int32) M10) fun o14 M13 => if o14 = v12 then (bnd (pL_thread v2 (0 : Int32) M13) fun o17 M16 => pL_foretells_328 Z  fu v1 v2 v8 (-1 : Int32) (0 : Int32) o17 (1 : Int32) M16)
    else chk (decide ((0 : Int32) = 0 ∨ (0 : Int32) = 1)) (some ((0 : Int32), M13)))
    else bnd (pL_run (1 : Int32) M) fun o20 M19 => if 0 ≤ o20 then (if 0 ≤ v13 then (pL_foretells_201 Z (fun v1 v2 v3 v4 v5 v6 v7 v8 v9 v10 v11 v12 v13 v14 v15 M => pL_foretells_160 Z  n v1 v2 v3 v4 v5 v6 v7 v8 v9 v10 v11 v12 v13 v14 v15 M)  v1 v2 v3 v4 v5 v6 v7 v8 v9 v10 v11 v12 v13 v14 v15 M19)
    else bnd (pL_thread v2 (2 : Int32) M19) fun o23 M22 => if ¬ o23 = (3 : Int32) then (pL_foretells_201 Z (fun v1 v2 v3 v4 v5 v6 v7 v8 v9 v10 v11 v12 v13 v14 v15 M => pL_foretells_160 Z  n v1 v2 v3 v4 v5 v6 v7 v8 v9 v10 v11 v12 v13 v14 v15 M)  v1 v2 v3 v4 v5 v6 v7 v8 v9 v10 v11 v12 v13 v14 v15 M22)
    else pL_foretells_201 Z (fun v1 v2 v3 v4 v5 v6 v7 v8 v9 v10 v11 v12 v13 v14 v15 M => pL_foretells_160 Z  n v1 v2 v3 v4 v5 v6 v7 v8 v9 v10 v11 v12 v13 v14 v15 M)  v1 v2 v3 v4 v5 v6 v7 v8 v9 v10 v11 v12 v15 v14 v15 M22)
    else chk (decide ((0 : Int32) = 0 ∨ (0 : Int32) = 1)) (some ((0 : Int32), M19))
theorem lL_foretells_160 {K : KT} {G : WT} (C : Cx K G "PermitParkLaw" cL_foretells 21 (some FieldType.boolean)) (hRm : K.2.2.2.1 = rmX 8 193 0) (Y : Cy0 K) (h0 : W0 G) : ∀ (n : Nat) (v1 : Int32) (v2 : Int32) (v3 : Int32) (v4 : Int32) (v5 : Int32) (v6 : Int32) (v7 : Int32) (v8 : Int32) (v9 : Int32) (v10 : Int32) (v11 : Int32) (v12 : Int32) (v13 : Int32) (v14 : Int32) (v15 : Int32) (M : Mem), G.2.2.2.1 19 0 0 → Run K G 21 0 (6 * 0) (FinN K G voI 0) 160 [(0, .ref (G.1 19 0 0)), (1, .int v1), (2, .int v2), (3, .int v3), (4, .int v4), (5, .int v5), (6, .int v6), (7, .int v7), (8, .int v8), (9, .int v9), (10, .int v10), (11, .int v11), (12, .int v12), (13, .int v13), (14, .int v14), (15, .int v15)] [] M (pL_foretells_160 (scr G)  n v1 v2 v3 v4 v5 v6 v7 v8 v9 v10 v11 v12 v13 v14 v15 M) := by
  intro n
  induction n with
  | zero =>
    intro v1 v2 v3 v4 v5 v6 v7 v8 v9 v10 v11 v12 v13 v14 v15 M g_0
    exact r_none
  | succ n ih =>
    intro v1 v2 v3 v4 v5 v6 v7 v8 v9 v10 v11 v12 v13 v14 v15 M g_0
    rw [pL_foretells_160]
    refine r_iload (pc := 160) C 15 rfl dL_foretells_160 ?_
    refine r_iload_n (pc := 162) C 1 rfl rfl dL_foretells_162 ?_
    refine r_icmp_gt (pc := 163) C dL_foretells_163 (tgt := 226) rfl ?_ ?_
    refine r_iload (pc := 226) C 13 rfl dL_foretells_226 ?_
    refine r_iload_n (pc := 228) C 3 rfl rfl dL_foretells_228 ?_
    refine r_icmp_ne (pc := 229) C dL_foretells_229 (tgt := 306) rfl ?_ ?_
    refine r_iconst (pc := 306) C dL_foretells_306 kc_0 ?_
    refine r_wid (cs' := 0) (sl' := 6 * 0) (Nat.le_of_ble_eq_true rfl) (Nat.le_of_ble_eq_true rfl) (r_nok ?_)
    exact r_zret (pc := 307) C dL_foretells_307
    refine r_iload (pc := 232) C 14 rfl dL_foretells_232 ?_
    refine r_iload (pc := 234) C 4 rfl dL_foretells_234 ?_
    refine r_icmp_ne (pc := 236) C dL_foretells_236 (tgt := 306) rfl ?_ ?_
    refine r_iconst (pc := 306) C dL_foretells_306 kc_0 ?_
    refine r_wid (cs' := 0) (sl' := 6 * 0) (Nat.le_of_ble_eq_true rfl) (Nat.le_of_ble_eq_true rfl) (r_nok ?_)
    exact r_zret (pc := 307) C dL_foretells_307
    refine r_aload_n (pc := 239) C 0 rfl rfl dL_foretells_239 ?_
    refine r_getR (pc := 240) C FL_x mw_273 g_0 rfl dL_foretells_240 (fun g1 => ?_)
    refine r_bipush (pc := 243) C dL_foretells_243 kb_8 ?_
    refine r_n0hI (pc := 245) C Y (Rx.of hRm rfl rfl rfl rfl) (okL_count h0 Y.1 (8 : Int32) M g1) mw_638 cvL_count rfl rfl (Nat.le_of_ble_eq_true rfl) dL_foretells_245 (fun o3 M2 => ?_)
    refine r_iload (pc := 248) C 5 rfl dL_foretells_248 ?_
    refine r_icmp_ne (pc := 250) C dL_foretells_250 (tgt := 306) rfl ?_ ?_
    refine r_iconst (pc := 306) C dL_foretells_306 kc_0 ?_
    refine r_wid (cs' := 0) (sl' := 6 * 0) (Nat.le_of_ble_eq_true rfl) (Nat.le_of_ble_eq_true rfl) (r_nok ?_)
    exact r_zret (pc := 307) C dL_foretells_307
    refine r_aload_n (pc := 253) C 0 rfl rfl dL_foretells_253 ?_
    refine r_getR (pc := 254) C FL_x mw_273 g_0 rfl dL_foretells_254 (fun g4 => ?_)
    refine r_bipush (pc := 257) C dL_foretells_257 kb_12 ?_
    refine r_n0hI (pc := 259) C Y (Rx.of hRm rfl rfl rfl rfl) (okL_count h0 Y.1 (12 : Int32) M2 g1) mw_638 cvL_count rfl rfl (Nat.le_of_ble_eq_true rfl) dL_foretells_259 (fun o6 M5 => ?_)
    refine r_iload (pc := 262) C 11 rfl dL_foretells_262 ?_
    refine r_iload (pc := 264) C 6 rfl dL_foretells_264 ?_
    refine r_iadd (pc := 266) C dL_foretells_266 ?_
    refine r_icmp_ne (pc := 267) C dL_foretells_267 (tgt := 306) rfl ?_ ?_
    refine r_iconst (pc := 306) C dL_foretells_306 kc_0 ?_
    refine r_wid (cs' := 0) (sl' := 6 * 0) (Nat.le_of_ble_eq_true rfl) (Nat.le_of_ble_eq_true rfl) (r_nok ?_)
    exact r_zret (pc := 307) C dL_foretells_307
    refine r_aload_n (pc := 270) C 0 rfl rfl dL_foretells_270 ?_
    refine r_n0vI (pc := 271) C Y (Rx.of hRm rfl rfl rfl rfl) (okL_returns h0 Y.1 M5 g_0) (Rc.of C rfl rfl g_0) mw_855 cvL_returns rfl rfl (Nat.le_of_ble_eq_true rfl) dL_foretells_271 (fun o8 M7 => ?_)
    refine r_iload (pc := 274) C 9 rfl dL_foretells_274 ?_
    refine r_iload (pc := 276) C 7 rfl dL_foretells_276 ?_
    refine r_iadd (pc := 278) C dL_foretells_278 ?_
    refine r_icmp_ne (pc := 279) C dL_foretells_279 (tgt := 306) rfl ?_ ?_
    refine r_iconst (pc := 306) C dL_foretells_306 kc_0 ?_
    refine r_wid (cs' := 0) (sl' := 6 * 0) (Nat.le_of_ble_eq_true rfl) (Nat.le_of_ble_eq_true rfl) (r_nok ?_)
    exact r_zret (pc := 307) C dL_foretells_307
    refine r_aload_n (pc := 282) C 0 rfl rfl dL_foretells_282 ?_
    refine r_getR (pc := 283) C FL_x mw_273 g_0 rfl dL_foretells_283 (fun g9 => ?_)
    refine r_iconst (pc := 286) C dL_foretells_286 kc_1 ?_
    refine r_n0hI (pc := 287) C Y (Rx.of hRm rfl rfl rfl rfl) (okL_restore h0 Y.1 (1 : Int32) M7 g1) mw_870 cvL_restore rfl rfl (Nat.le_of_ble_eq_true rfl) dL_foretells_287 (fun o11 M10 => ?_)
    refine r_if_ne (pc := 290) C dL_foretells_290 (tgt := 306) rfl ?_ ?_
    refine r_iconst (pc := 306) C dL_foretells_306 kc_0 ?_
    refine r_wid (cs' := 0) (sl' := 6 * 0) (Nat.le_of_ble_eq_true rfl) (Nat.le_of_ble_eq_true rfl) (r_nok ?_)
    exact r_zret (pc := 307) C dL_foretells_307
    refine r_aload_n (pc := 293) C 0 rfl rfl dL_foretells_293 ?_
    refine r_getR (pc := 294) C FL_x mw_273 g_0 rfl dL_foretells_294 (fun g12 => ?_)
    refine r_iconst (pc := 297) C dL_foretells_297 kc_4 ?_
    refine r_n0hI (pc := 298) C Y (Rx.of hRm rfl rfl rfl rfl) (okL_count h0 Y.1 (4 : Int32) M10 g1) mw_638 cvL_count rfl rfl (Nat.le_of_ble_eq_true rfl) dL_foretells_298 (fun o14 M13 => ?_)
    refine r_iload (pc := 301) C 12 rfl dL_foretells_301 ?_
    refine r_icmp_eq (pc := 303) C dL_foretells_303 (tgt := 308) rfl ?_ ?_
    refine r_iconst (pc := 308) C dL_foretells_308 kc_m1 ?_
    refine r_istore (pc := 309) C [(15, .int (-1 : Int32)), (0, .ref (G.1 19 0 0)), (1, .int v1), (2, .int v2), (3, .int v3), (4, .int v4), (5, .int v5), (6, .int v6), (7, .int v7), (8, .int v8), (9, .int v9), (10, .int v10), (11, .int v11), (12, .int v12), (13, .int v13), (14, .int v14)] dL_foretells_309 (by decide) rfl ?_
    refine r_iconst (pc := 311) C dL_foretells_311 kc_0 ?_
    refine r_istore (pc := 312) C [(16, .int (0 : Int32)), (15, .int (-1 : Int32)), (0, .ref (G.1 19 0 0)), (1, .int v1), (2, .int v2), (3, .int v3), (4, .int v4), (5, .int v5), (6, .int v6), (7, .int v7), (8, .int v8), (9, .int v9), (10, .int v10), (11, .int v11), (12, .int v12), (13, .int v13), (14, .int v14)] dL_foretells_312 (by decide) rfl ?_
    refine r_aload_n (pc := 314) C 2 rfl rfl dL_foretells_314 ?_
    refine r_getR (pc := 315) C FL_x mw_273 g_0 rfl dL_foretells_315 (fun g15 => ?_)
    refine r_iload_n (pc := 318) C 4 rfl rfl dL_foretells_318 ?_
    refine r_iconst (pc := 319) C dL_foretells_319 kc_0 ?_
    refine r_n0hI (pc := 320) C Y (Rx.of hRm rfl rfl rfl rfl) (okL_thread h0 Y.1 v2 (0 : Int32) M13 g1) mw_657 cvL_thread rfl rfl (Nat.le_of_ble_eq_true rfl) dL_foretells_320 (fun o17 M16 => ?_)
    refine r_istore (pc := 323) C [(17, .int o17), (16, .int (0 : Int32)), (15, .int (-1 : Int32)), (0, .ref (G.1 19 0 0)), (1, .int v1), (2, .int v2), (3, .int v3), (4, .int v4), (5, .int v5), (6, .int v6), (7, .int v7), (8, .int v8), (9, .int v9), (10, .int v10), (11, .int v11), (12, .int v12), (13, .int v13), (14, .int v14)] dL_foretells_323 (by decide) rfl ?_
    refine r_iconst (pc := 325) C dL_foretells_325 kc_1 ?_
    refine r_istore (pc := 326) C [(18, .int (1 : Int32)), (17, .int o17), (16, .int (0 : Int32)), (15, .int (-1 : Int32)), (0, .ref (G.1 19 0 0)), (1, .int v1), (2, .int v2), (3, .int v3), (4, .int v4), (5, .int v5), (6, .int v6), (7, .int v7), (8, .int v8), (9, .int v9), (10, .int v10), (11, .int v11), (12, .int v12), (13, .int v13), (14, .int v14)] dL_foretells_326 (by decide) rfl ?_
    refine r_sub [4, 5, 6, 12, 3, 2, 1, 0] rfl ?_
    exact lL_foretells_328   C hRm Y h0  fu v1 v2 v8 (-1 : Int32) (0 : Int32) o17 (1 : Int32) M16 g_0
    refine r_iconst (pc := 306) C dL_foretells_306 kc_0 ?_
    refine r_wid (cs' := 0) (sl' := 6 * 0) (Nat.le_of_ble_eq_true rfl) (Nat.le_of_ble_eq_true rfl) (r_nok ?_)
    exact r_zret (pc := 307) C dL_foretells_307
    refine r_aload_n (pc := 166) C 0 rfl rfl dL_foretells_166 ?_
    refine r_getR (pc := 167) C FL_x mw_273 g_0 rfl dL_foretells_167 (fun g18 => ?_)
    refine r_iconst (pc := 170) C dL_foretells_170 kc_1 ?_
    refine r_n0hI (pc := 171) C Y (Rx.of hRm rfl rfl rfl rfl) (okL_run h0 Y.1 (1 : Int32) M g18) mw_677 cvL_run rfl rfl (Nat.le_of_ble_eq_true rfl) dL_foretells_171 (fun o20 M19 => ?_)
    refine r_if_ge (pc := 174) C dL_foretells_174 (tgt := 179) rfl ?_ ?_
    refine r_iload (pc := 179) C 13 rfl dL_foretells_179 ?_
    refine r_if_ge (pc := 181) C dL_foretells_181 (tgt := 201) rfl ?_ ?_
    exact lL_foretells_201  (k160 := (fun v1 v2 v3 v4 v5 v6 v7 v8 v9 v10 v11 v12 v13 v14 v15 M => pL_foretells_160 (scr G)  n v1 v2 v3 v4 v5 v6 v7 v8 v9 v10 v11 v12 v13 v14 v15 M)) C hRm Y h0 ih  v1 v2 v3 v4 v5 v6 v7 v8 v9 v10 v11 v12 v13 v14 v15 M19 g_0
    refine r_aload_n (pc := 184) C 0 rfl rfl dL_foretells_184 ?_
    refine r_getR (pc := 185) C FL_x mw_273 g_0 rfl dL_foretells_185 (fun g21 => ?_)
    refine r_iload_n (pc := 188) C 2 rfl rfl dL_foretells_188 ?_
    refine r_iconst (pc := 189) C dL_foretells_189 kc_2 ?_
    refine r_n0hI (pc := 190) C Y (Rx.of hRm rfl rfl rfl rfl) (okL_thread h0 Y.1 v2 (2 : Int32) M19 g18) mw_657 cvL_thread rfl rfl (Nat.le_of_ble_eq_true rfl) dL_foretells_190 (fun o23 M22 => ?_)
    refine r_iconst (pc := 193) C dL_foretells_193 kc_3 ?_
    refine r_icmp_ne (pc := 194) C dL_foretells_194 (tgt := 201) rfl ?_ ?_
    exact lL_foretells_201  (k160 := (fun v1 v2 v3 v4 v5 v6 v7 v8 v9 v10 v11 v12 v13 v14 v15 M => pL_foretells_160 (scr G)  n v1 v2 v3 v4 v5 v6 v7 v8 v9 v10 v11 v12 v13 v14 v15 M)) C hRm Y h0 ih  v1 v2 v3 v4 v5 v6 v7 v8 v9 v10 v11 v12 v13 v14 v15 M22 g_0
    refine r_iload (pc := 197) C 15 rfl dL_foretells_197 ?_
    refine r_istore (pc := 199) C [(13, .int v15), (0, .ref (G.1 19 0 0)), (1, .int v1), (2, .int v2), (3, .int v3), (4, .int v4), (5, .int v5), (6, .int v6), (7, .int v7), (8, .int v8), (9, .int v9), (10, .int v10), (11, .int v11), (12, .int v12), (14, .int v14), (15, .int v15)] dL_foretells_199 (by decide) rfl ?_
    refine r_sub [1, 2, 3, 4, 5, 6, 7, 8, 9, 10, 11, 12, 13, 0, 14, 15] rfl ?_
    exact lL_foretells_201  (k160 := (fun v1 v2 v3 v4 v5 v6 v7 v8 v9 v10 v11 v12 v13 v14 v15 M => pL_foretells_160 (scr G)  n v1 v2 v3 v4 v5 v6 v7 v8 v9 v10 v11 v12 v13 v14 v15 M)) C hRm Y h0 ih  v1 v2 v3 v4 v5 v6 v7 v8 v9 v10 v11 v12 v15 v14 v15 M22 g_0
    refine r_iconst (pc := 177) C dL_foretells_177 kc_0 ?_
    refine r_wid (cs' := 0) (sl' := 6 * 0) (Nat.le_of_ble_eq_true rfl) (Nat.le_of_ble_eq_true rfl) (r_nok ?_)
    exact r_zret (pc := 178) C dL_foretells_178
def pL_foretells (Z : Nat × (Nat → Int32)) (M : Mem) : Option (Int32 × Mem) :=
    bnd (pL_draw Z (50 : Int32) M) fun o2 M1 => nm ((1 : Int32) + o2) fun x3 => bnd (pL_count (2 : Int32) M1) fun o6 M5 => bnd (pL_draw Z o6 M5) fun o8 M7 => bnd (pL_doneIn o8 x3 M7) fun o11 M10 => bnd (pL_returnsIn o8 x3 M10) fun o14 M13 => bnd (pL_ahead x3 (0 : Int32) M13) fun o17 M16 => bnd (pL_ahead x3 (1 : Int32) M16) fun o20 M19 => bnd (pL_ahead x3 (2 : Int32) M19) fun o23 M22 => bnd (pL_bestBase o8 x3 M22) fun o26 M25 => bnd (pL_returns M25) fun o28 M27 => bnd (pL_mine o8 M27) fun o30 M29 => bnd (pL_count (12 : Int32) M29) fun o33 M32 => bnd (pL_count (4 : Int32) M32) fun o36 M35 => bnd (pL_save (1 : Int32) M35) fun o39 M38 => if o39 = 0 then (bnd (pL_thread o8 (2 : Int32) M38) fun o42 M41 => if ¬ o42 = (3 : Int32) then (pL_foretells_160 Z  fu x3 o8 o11 o14 o17 o20 o23 o26 o28 o30 o33 o36 (-1 : Int32) (-1 : Int32) (1 : Int32) M41)
    else pL_foretells_160 Z  fu x3 o8 o11 o14 o17 o20 o23 o26 o28 o30 o33 o36 (0 : Int32) (-1 : Int32) (1 : Int32) M41)
    else chk (decide ((0 : Int32) = 0 ∨ (0 : Int32) = 1)) (some ((0 : Int32), M38))
theorem lL_foretells_0 {K : KT} {G : WT} (C : Cx K G "PermitParkLaw" cL_foretells 21 (some FieldType.boolean)) (hRm : K.2.2.2.1 = rmX 8 193 0) (Y : Cy0 K) (h0 : W0 G) (M : Mem) (h_0 : G.2.2.2.1 19 0 0) : Run K G 21 0 (6 * 0) (FinN K G voI 0) 0 [(0, .ref (G.1 19 0 0))] [] M (pL_foretells (scr G)   M) := by
  rw [pL_foretells]
  refine r_iconst (pc := 0) C dL_foretells_0 kc_1 ?_
  refine r_aload_n (pc := 1) C 0 rfl rfl dL_foretells_1 ?_
  refine r_bipush (pc := 2) C dL_foretells_2 kb_50 ?_
  refine r_wVI (pc := 4) C (Rx.of hRm rfl rfl rfl rfl) (okL_draw h0 (50 : Int32) M h_0) (Rc.of C rfl rfl h_0) mw_291 cvL_draw rfl rfl (Nat.le_of_ble_eq_true rfl) dL_foretells_4 (fun o2 M1 => ?_)
  refine r_iadd (pc := 7) C dL_foretells_7 ?_
  refine r_nmi (fun x3 => ?_)
  refine r_istore_n (pc := 8) C [(1, .int x3), (0, .ref (G.1 19 0 0))] dL_foretells_8 rfl (by decide) rfl ?_
  refine r_aload_n (pc := 9) C 1 rfl rfl dL_foretells_9 ?_
  refine r_aload_n (pc := 10) C 1 rfl rfl dL_foretells_10 ?_
  refine r_getR (pc := 11) C FL_x mw_273 h_0 rfl dL_foretells_11 (fun g4 => ?_)
  refine r_iconst (pc := 14) C dL_foretells_14 kc_2 ?_
  refine r_n0hI (pc := 15) C Y (Rx.of hRm rfl rfl rfl rfl) (okL_count h0 Y.1 (2 : Int32) M1 g4) mw_638 cvL_count rfl rfl (Nat.le_of_ble_eq_true rfl) dL_foretells_15 (fun o6 M5 => ?_)
  refine r_wVI (pc := 18) C (Rx.of hRm rfl rfl rfl rfl) (okL_draw h0 o6 M5 h_0) (Rc.of C rfl rfl h_0) mw_291 cvL_draw rfl rfl (Nat.le_of_ble_eq_true rfl) dL_foretells_18 (fun o8 M7 => ?_)
  refine r_istore_n (pc := 21) C [(2, .int o8), (1, .int x3), (0, .ref (G.1 19 0 0))] dL_foretells_21 rfl (by decide) rfl ?_
  refine r_aload_n (pc := 22) C 2 rfl rfl dL_foretells_22 ?_
  refine r_getR (pc := 23) C FL_x mw_273 h_0 rfl dL_foretells_23 (fun g9 => ?_)
  refine r_iload_n (pc := 26) C 0 rfl rfl dL_foretells_26 ?_
  refine r_iload_n (pc := 27) C 1 rfl rfl dL_foretells_27 ?_
  refine r_n0hI (pc := 28) C Y (Rx.of hRm rfl rfl rfl rfl) (okL_doneIn h0 Y.1 o8 x3 M7 g4) mw_818 cvL_doneIn rfl rfl (Nat.le_of_ble_eq_true rfl) dL_foretells_28 (fun o11 M10 => ?_)
  refine r_istore_n (pc := 31) C [(3, .int o11), (2, .int o8), (1, .int x3), (0, .ref (G.1 19 0 0))] dL_foretells_31 rfl (by decide) rfl ?_
  refine r_aload_n (pc := 32) C 3 rfl rfl dL_foretells_32 ?_
  refine r_getR (pc := 33) C FL_x mw_273 h_0 rfl dL_foretells_33 (fun g12 => ?_)
  refine r_iload_n (pc := 36) C 1 rfl rfl dL_foretells_36 ?_
  refine r_iload_n (pc := 37) C 2 rfl rfl dL_foretells_37 ?_
  refine r_n0hI (pc := 38) C Y (Rx.of hRm rfl rfl rfl rfl) (okL_returnsIn h0 Y.1 o8 x3 M10 g4) mw_825 cvL_returnsIn rfl rfl (Nat.le_of_ble_eq_true rfl) dL_foretells_38 (fun o14 M13 => ?_)
  refine r_istore (pc := 41) C [(4, .int o14), (3, .int o11), (2, .int o8), (1, .int x3), (0, .ref (G.1 19 0 0))] dL_foretells_41 (by decide) rfl ?_
  refine r_aload_n (pc := 43) C 4 rfl rfl dL_foretells_43 ?_
  refine r_getR (pc := 44) C FL_x mw_273 h_0 rfl dL_foretells_44 (fun g15 => ?_)
  refine r_iload_n (pc := 47) C 3 rfl rfl dL_foretells_47 ?_
  refine r_iconst (pc := 48) C dL_foretells_48 kc_0 ?_
  refine r_n0hI (pc := 49) C Y (Rx.of hRm rfl rfl rfl rfl) (okL_ahead h0 Y.1 x3 (0 : Int32) M13 g4) mw_836 cvL_ahead rfl rfl (Nat.le_of_ble_eq_true rfl) dL_foretells_49 (fun o17 M16 => ?_)
  refine r_istore (pc := 52) C [(5, .int o17), (4, .int o14), (3, .int o11), (2, .int o8), (1, .int x3), (0, .ref (G.1 19 0 0))] dL_foretells_52 (by decide) rfl ?_
  refine r_aload_n (pc := 54) C 5 rfl rfl dL_foretells_54 ?_
  refine r_getR (pc := 55) C FL_x mw_273 h_0 rfl dL_foretells_55 (fun g18 => ?_)
  refine r_iload_n (pc := 58) C 4 rfl rfl dL_foretells_58 ?_
  refine r_iconst (pc := 59) C dL_foretells_59 kc_1 ?_
  refine r_n0hI (pc := 60) C Y (Rx.of hRm rfl rfl rfl rfl) (okL_ahead h0 Y.1 x3 (1 : Int32) M16 g4) mw_836 cvL_ahead rfl rfl (Nat.le_of_ble_eq_true rfl) dL_foretells_60 (fun o20 M19 => ?_)
  refine r_istore (pc := 63) C [(6, .int o20), (5, .int o17), (4, .int o14), (3, .int o11), (2, .int o8), (1, .int x3), (0, .ref (G.1 19 0 0))] dL_foretells_63 (by decide) rfl ?_
  refine r_aload_n (pc := 65) C 6 rfl rfl dL_foretells_65 ?_
  refine r_getR (pc := 66) C FL_x mw_273 h_0 rfl dL_foretells_66 (fun g21 => ?_)
  refine r_iload_n (pc := 69) C 5 rfl rfl dL_foretells_69 ?_
  refine r_iconst (pc := 70) C dL_foretells_70 kc_2 ?_
  refine r_n0hI (pc := 71) C Y (Rx.of hRm rfl rfl rfl rfl) (okL_ahead h0 Y.1 x3 (2 : Int32) M19 g4) mw_836 cvL_ahead rfl rfl (Nat.le_of_ble_eq_true rfl) dL_foretells_71 (fun o23 M22 => ?_)
  refine r_istore (pc := 74) C [(7, .int o23), (6, .int o20), (5, .int o17), (4, .int o14), (3, .int o11), (2, .int o8), (1, .int x3), (0, .ref (G.1 19 0 0))] dL_foretells_74 (by decide) rfl ?_
  refine r_aload_n (pc := 76) C 7 rfl rfl dL_foretells_76 ?_
  refine r_getR (pc := 77) C FL_x mw_273 h_0 rfl dL_foretells_77 (fun g24 => ?_)
  refine r_iload_n (pc := 80) C 5 rfl rfl dL_foretells_80 ?_
  refine r_iload_n (pc := 81) C 6 rfl rfl dL_foretells_81 ?_
  refine r_n0hI (pc := 82) C Y (Rx.of hRm rfl rfl rfl rfl) (okL_bestBase h0 Y.1 o8 x3 M22 g4) mw_848 cvL_bestBase rfl rfl (Nat.le_of_ble_eq_true rfl) dL_foretells_82 (fun o26 M25 => ?_)
  refine r_istore (pc := 85) C [(8, .int o26), (7, .int o23), (6, .int o20), (5, .int o17), (4, .int o14), (3, .int o11), (2, .int o8), (1, .int x3), (0, .ref (G.1 19 0 0))] dL_foretells_85 (by decide) rfl ?_
  refine r_aload_n (pc := 87) C 8 rfl rfl dL_foretells_87 ?_
  refine r_n0vI (pc := 88) C Y (Rx.of hRm rfl rfl rfl rfl) (okL_returns h0 Y.1 M25 h_0) (Rc.of C rfl rfl h_0) mw_855 cvL_returns rfl rfl (Nat.le_of_ble_eq_true rfl) dL_foretells_88 (fun o28 M27 => ?_)
  refine r_istore (pc := 91) C [(9, .int o28), (8, .int o26), (7, .int o23), (6, .int o20), (5, .int o17), (4, .int o14), (3, .int o11), (2, .int o8), (1, .int x3), (0, .ref (G.1 19 0 0))] dL_foretells_91 (by decide) rfl ?_
  refine r_aload_n (pc := 93) C 9 rfl rfl dL_foretells_93 ?_
  refine r_iload_n (pc := 94) C 7 rfl rfl dL_foretells_94 ?_
  refine r_n0vI (pc := 95) C Y (Rx.of hRm rfl rfl rfl rfl) (okL_mine h0 Y.1 o8 M27 h_0) (Rc.of C rfl rfl h_0) mw_859 cvL_mine rfl rfl (Nat.le_of_ble_eq_true rfl) dL_foretells_95 (fun o30 M29 => ?_)
  refine r_istore (pc := 98) C [(10, .int o30), (9, .int o28), (8, .int o26), (7, .int o23), (6, .int o20), (5, .int o17), (4, .int o14), (3, .int o11), (2, .int o8), (1, .int x3), (0, .ref (G.1 19 0 0))] dL_foretells_98 (by decide) rfl ?_
  refine r_aload_n (pc := 100) C 10 rfl rfl dL_foretells_100 ?_
  refine r_getR (pc := 101) C FL_x mw_273 h_0 rfl dL_foretells_101 (fun g31 => ?_)
  refine r_bipush (pc := 104) C dL_foretells_104 kb_12 ?_
  refine r_n0hI (pc := 106) C Y (Rx.of hRm rfl rfl rfl rfl) (okL_count h0 Y.1 (12 : Int32) M29 g4) mw_638 cvL_count rfl rfl (Nat.le_of_ble_eq_true rfl) dL_foretells_106 (fun o33 M32 => ?_)
  refine r_istore (pc := 109) C [(11, .int o33), (10, .int o30), (9, .int o28), (8, .int o26), (7, .int o23), (6, .int o20), (5, .int o17), (4, .int o14), (3, .int o11), (2, .int o8), (1, .int x3), (0, .ref (G.1 19 0 0))] dL_foretells_109 (by decide) rfl ?_
  refine r_aload_n (pc := 111) C 11 rfl rfl dL_foretells_111 ?_
  refine r_getR (pc := 112) C FL_x mw_273 h_0 rfl dL_foretells_112 (fun g34 => ?_)
  refine r_iconst (pc := 115) C dL_foretells_115 kc_4 ?_
  refine r_n0hI (pc := 116) C Y (Rx.of hRm rfl rfl rfl rfl) (okL_count h0 Y.1 (4 : Int32) M32 g4) mw_638 cvL_count rfl rfl (Nat.le_of_ble_eq_true rfl) dL_foretells_116 (fun o36 M35 => ?_)
  refine r_istore (pc := 119) C [(12, .int o36), (11, .int o33), (10, .int o30), (9, .int o28), (8, .int o26), (7, .int o23), (6, .int o20), (5, .int o17), (4, .int o14), (3, .int o11), (2, .int o8), (1, .int x3), (0, .ref (G.1 19 0 0))] dL_foretells_119 (by decide) rfl ?_
  refine r_aload_n (pc := 121) C 12 rfl rfl dL_foretells_121 ?_
  refine r_getR (pc := 122) C FL_x mw_273 h_0 rfl dL_foretells_122 (fun g37 => ?_)
  refine r_iconst (pc := 125) C dL_foretells_125 kc_1 ?_
  refine r_n0hI (pc := 126) C Y (Rx.of hRm rfl rfl rfl rfl) (okL_save h0 Y.1 (1 : Int32) M35 g4) mw_863 cvL_save rfl rfl (Nat.le_of_ble_eq_true rfl) dL_foretells_126 (fun o39 M38 => ?_)
  refine r_if_eq (pc := 129) C dL_foretells_129 (tgt := 134) rfl ?_ ?_
  refine r_aload_n (pc := 134) C 12 rfl rfl dL_foretells_134 ?_
  refine r_getR (pc := 135) C FL_x mw_273 h_0 rfl dL_foretells_135 (fun g40 => ?_)
  refine r_iload_n (pc := 138) C 10 rfl rfl dL_foretells_138 ?_
  refine r_iconst (pc := 139) C dL_foretells_139 kc_2 ?_
  refine r_n0hI (pc := 140) C Y (Rx.of hRm rfl rfl rfl rfl) (okL_thread h0 Y.1 o8 (2 : Int32) M38 g4) mw_657 cvL_thread rfl rfl (Nat.le_of_ble_eq_true rfl) dL_foretells_140 (fun o42 M41 => ?_)
  refine r_iconst (pc := 143) C dL_foretells_143 kc_3 ?_
  refine r_icmp_ne (pc := 144) C dL_foretells_144 (tgt := 151) rfl ?_ ?_
  refine r_iconst (pc := 151) C dL_foretells_151 kc_m1 ?_
  refine r_istore (pc := 152) C [(13, .int (-1 : Int32)), (12, .int o36), (11, .int o33), (10, .int o30), (9, .int o28), (8, .int o26), (7, .int o23), (6, .int o20), (5, .int o17), (4, .int o14), (3, .int o11), (2, .int o8), (1, .int x3), (0, .ref (G.1 19 0 0))] dL_foretells_152 (by decide) rfl ?_
  refine r_iconst (pc := 154) C dL_foretells_154 kc_m1 ?_
  refine r_istore (pc := 155) C [(14, .int (-1 : Int32)), (13, .int (-1 : Int32)), (12, .int o36), (11, .int o33), (10, .int o30), (9, .int o28), (8, .int o26), (7, .int o23), (6, .int o20), (5, .int o17), (4, .int o14), (3, .int o11), (2, .int o8), (1, .int x3), (0, .ref (G.1 19 0 0))] dL_foretells_155 (by decide) rfl ?_
  refine r_iconst (pc := 157) C dL_foretells_157 kc_1 ?_
  refine r_istore (pc := 158) C [(15, .int (1 : Int32)), (14, .int (-1 : Int32)), (13, .int (-1 : Int32)), (12, .int o36), (11, .int o33), (10, .int o30), (9, .int o28), (8, .int o26), (7, .int o23), (6, .int o20), (5, .int o17), (4, .int o14), (3, .int o11), (2, .int o8), (1, .int x3), (0, .ref (G.1 19 0 0))] dL_foretells_158 (by decide) rfl ?_
  refine r_sub [15, 14, 13, 12, 11, 10, 9, 8, 7, 6, 5, 4, 3, 2, 1, 0] rfl ?_
  exact lL_foretells_160   C hRm Y h0  fu x3 o8 o11 o14 o17 o20 o23 o26 o28 o30 o33 o36 (-1 : Int32) (-1 : Int32) (1 : Int32) M41 h_0
  refine r_iconst (pc := 147) C dL_foretells_147 kc_0 ?_
  refine r_goto (pc := 148) C dL_foretells_148 (tgt := 152) rfl ?_
  refine r_istore (pc := 152) C [(13, .int (0 : Int32)), (12, .int o36), (11, .int o33), (10, .int o30), (9, .int o28), (8, .int o26), (7, .int o23), (6, .int o20), (5, .int o17), (4, .int o14), (3, .int o11), (2, .int o8), (1, .int x3), (0, .ref (G.1 19 0 0))] dL_foretells_152 (by decide) rfl ?_
  refine r_iconst (pc := 154) C dL_foretells_154 kc_m1 ?_
  refine r_istore (pc := 155) C [(14, .int (-1 : Int32)), (13, .int (0 : Int32)), (12, .int o36), (11, .int o33), (10, .int o30), (9, .int o28), (8, .int o26), (7, .int o23), (6, .int o20), (5, .int o17), (4, .int o14), (3, .int o11), (2, .int o8), (1, .int x3), (0, .ref (G.1 19 0 0))] dL_foretells_155 (by decide) rfl ?_
  refine r_iconst (pc := 157) C dL_foretells_157 kc_1 ?_
  refine r_istore (pc := 158) C [(15, .int (1 : Int32)), (14, .int (-1 : Int32)), (13, .int (0 : Int32)), (12, .int o36), (11, .int o33), (10, .int o30), (9, .int o28), (8, .int o26), (7, .int o23), (6, .int o20), (5, .int o17), (4, .int o14), (3, .int o11), (2, .int o8), (1, .int x3), (0, .ref (G.1 19 0 0))] dL_foretells_158 (by decide) rfl ?_
  refine r_sub [15, 14, 13, 12, 11, 10, 9, 8, 7, 6, 5, 4, 3, 2, 1, 0] rfl ?_
  exact lL_foretells_160   C hRm Y h0  fu x3 o8 o11 o14 o17 o20 o23 o26 o28 o30 o33 o36 (0 : Int32) (-1 : Int32) (1 : Int32) M41 h_0
  refine r_iconst (pc := 132) C dL_foretells_132 kc_0 ?_
  refine r_wid (cs' := 0) (sl' := 6 * 0) (Nat.le_of_ble_eq_true rfl) (Nat.le_of_ble_eq_true rfl) (r_nok ?_)
  exact r_zret (pc := 133) C dL_foretells_133
theorem okL_foretells {l : Launch} {G : WT} (h0 : W0 G) (hT : l.stackTraces = false) (M : Mem) (h_0 : G.2.2.2.1 19 0 0) : OkX l G yL_foretells cL_foretells 21 (some FieldType.boolean) 8 193 0 [.ref (G.1 19 0 0)] voI M (xok (pL_foretells (scr G)   M)) :=
  OkX.of "PermitParkLaw" rfl (by decide) (Nat.le_of_ble_eq_true rfl) (L := [(0, .ref (G.1 19 0 0))]) rfl hT (fun K _ hr Y C => r_ofN (lL_foretells_0 C hr Y.1 h0  M h_0))
def pL_holds_82 (Z : Nat × (Nat → Int32)) (k16 : Int32 → Mem → Option (Int32 × Mem)) (v2 : Int32) (M : Mem) : Option (Int32 × Mem) :=
    if ¬ (v2 - v2 / (17 : Int32) * (17 : Int32)) = (12 : Int32) then (k16 (v2 + (1 : Int32)) M)
    else bnd (pL_foretells Z M) fun o2 M1 => if ¬ o2 = 0 then (k16 (v2 + (1 : Int32)) M1)
    else chk (decide ((0 : Int32) = 0 ∨ (0 : Int32) = 1)) (some ((0 : Int32), M1))
theorem lL_holds_82 {K : KT} {G : WT} {k16 : Int32 → Mem → Option (Int32 × Mem)} (C : Cx K G "PermitParkLaw" cL_holds 3 (some FieldType.boolean)) (hRm : K.2.2.2.1 = rmX 9 233 1) (Y : Cy0 K) (h0 : W0 G)
    (hk16 : ∀ (v2 : Int32) (M : Mem), G.2.2.2.1 19 0 0 → Run K G 3 0 (6 * 0) (FinN K G voI 1) 16 [(0, .ref (G.1 19 0 0)), (2, .int v2)] [] M (k16 v2 M)) (v2 : Int32) (M : Mem) (g_0 : G.2.2.2.1 19 0 0) : Run K G 3 0 (6 * 0) (FinN K G voI 1) 82 [(0, .ref (G.1 19 0 0)), (2, .int v2)] [] M (pL_holds_82 (scr G) k16 v2 M) := by
  rw [pL_holds_82]
  refine r_iload_n (pc := 82) C 1 rfl rfl dL_holds_82 ?_
  refine r_bipush (pc := 83) C dL_holds_83 kb_17 ?_
  refine r_irem (pc := 85) C dL_holds_85 (by decide) ?_
  refine r_bipush (pc := 86) C dL_holds_86 kb_12 ?_
  refine r_icmp_ne (pc := 88) C dL_holds_88 (tgt := 100) rfl ?_ ?_
  refine r_iinc (pc := 100) C [(2, .int (v2 + (1 : Int32))), (0, .ref (G.1 19 0 0))] dL_holds_100 (p := 1) rfl (ki_1 _) (by decide) rfl ?_
  refine r_goto (pc := 103) C dL_holds_103 (tgt := 16) rfl ?_
  refine r_sub [1, 0] rfl ?_
  exact hk16 (v2 + (1 : Int32)) M g_0
  refine r_aload_n (pc := 91) C 0 rfl rfl dL_holds_91 ?_
  refine r_n0vI (pc := 92) C Y (Rx.of hRm rfl rfl rfl rfl) (okL_foretells h0 Y.1 M g_0) (Rc.of C rfl rfl g_0) mw_814 cvL_foretells rfl rfl (Nat.le_of_ble_eq_true rfl) dL_holds_92 (fun o2 M1 => ?_)
  refine r_if_ne (pc := 95) C dL_holds_95 (tgt := 100) rfl ?_ ?_
  refine r_iinc (pc := 100) C [(2, .int (v2 + (1 : Int32))), (0, .ref (G.1 19 0 0))] dL_holds_100 (p := 1) rfl (ki_1 _) (by decide) rfl ?_
  refine r_goto (pc := 103) C dL_holds_103 (tgt := 16) rfl ?_
  refine r_sub [1, 0] rfl ?_
  exact hk16 (v2 + (1 : Int32)) M1 g_0
  refine r_iconst (pc := 98) C dL_holds_98 kc_0 ?_
  refine r_wid (cs' := 1) (sl' := 6 * 1) (Nat.le_of_ble_eq_true rfl) (Nat.le_of_ble_eq_true rfl) (r_nok ?_)
  exact r_zret (pc := 99) C dL_holds_99
def pL_holds_66 (Z : Nat × (Nat → Int32)) (k16 : Int32 → Mem → Option (Int32 × Mem)) (v2 : Int32) (M : Mem) : Option (Int32 × Mem) :=
    if ¬ (v2 - v2 / (13 : Int32) * (13 : Int32)) = (9 : Int32) then (pL_holds_82 Z k16  v2 M)
    else bnd (pL_eventsAreSo M) fun o2 M1 => if o2 = 0 then (chk (decide ((0 : Int32) = 0 ∨ (0 : Int32) = 1)) (some ((0 : Int32), M1)))
    else pL_holds_82 Z k16  v2 M1
theorem lL_holds_66 {K : KT} {G : WT} {k16 : Int32 → Mem → Option (Int32 × Mem)} (C : Cx K G "PermitParkLaw" cL_holds 3 (some FieldType.boolean)) (hRm : K.2.2.2.1 = rmX 9 233 1) (Y : Cy0 K) (h0 : W0 G)
    (hk16 : ∀ (v2 : Int32) (M : Mem), G.2.2.2.1 19 0 0 → Run K G 3 0 (6 * 0) (FinN K G voI 1) 16 [(0, .ref (G.1 19 0 0)), (2, .int v2)] [] M (k16 v2 M)) (v2 : Int32) (M : Mem) (g_0 : G.2.2.2.1 19 0 0) : Run K G 3 0 (6 * 0) (FinN K G voI 1) 66 [(0, .ref (G.1 19 0 0)), (2, .int v2)] [] M (pL_holds_66 (scr G) k16 v2 M) := by
  rw [pL_holds_66]
  refine r_iload_n (pc := 66) C 1 rfl rfl dL_holds_66 ?_
  refine r_bipush (pc := 67) C dL_holds_67 kb_13 ?_
  refine r_irem (pc := 69) C dL_holds_69 (by decide) ?_
  refine r_bipush (pc := 70) C dL_holds_70 kb_9 ?_
  refine r_icmp_ne (pc := 72) C dL_holds_72 (tgt := 82) rfl ?_ ?_
  exact lL_holds_82  (k16 := k16) C hRm Y h0 hk16  v2 M g_0
  refine r_aload_n (pc := 75) C 0 rfl rfl dL_holds_75 ?_
  refine r_n0vI (pc := 76) C Y (Rx.of hRm rfl rfl rfl rfl) (okL_eventsAreSo h0 Y.1 M g_0) (Rc.of C rfl rfl g_0) mw_802 cvL_eventsAreSo rfl rfl (Nat.le_of_ble_eq_true rfl) dL_holds_76 (fun o2 M1 => ?_)
  refine r_if_eq (pc := 79) C dL_holds_79 (tgt := 98) rfl ?_ ?_
  refine r_iconst (pc := 98) C dL_holds_98 kc_0 ?_
  refine r_wid (cs' := 1) (sl' := 6 * 1) (Nat.le_of_ble_eq_true rfl) (Nat.le_of_ble_eq_true rfl) (r_nok ?_)
  exact r_zret (pc := 99) C dL_holds_99
  exact lL_holds_82  (k16 := k16) C hRm Y h0 hk16  v2 M1 g_0
def pL_holds_51 (Z : Nat × (Nat → Int32)) (k16 : Int32 → Mem → Option (Int32 × Mem)) (v2 : Int32) (M : Mem) : Option (Int32 × Mem) :=
    if ¬ (v2 - v2 / (6 : Int32) * (6 : Int32)) = (3 : Int32) then (pL_holds_66 Z k16  v2 M)
    else bnd (pL_statesAreSo M) fun o2 M1 => if o2 = 0 then (chk (decide ((0 : Int32) = 0 ∨ (0 : Int32) = 1)) (some ((0 : Int32), M1)))
    else pL_holds_66 Z k16  v2 M1
theorem lL_holds_51 {K : KT} {G : WT} {k16 : Int32 → Mem → Option (Int32 × Mem)} (C : Cx K G "PermitParkLaw" cL_holds 3 (some FieldType.boolean)) (hRm : K.2.2.2.1 = rmX 9 233 1) (Y : Cy0 K) (h0 : W0 G)
    (hk16 : ∀ (v2 : Int32) (M : Mem), G.2.2.2.1 19 0 0 → Run K G 3 0 (6 * 0) (FinN K G voI 1) 16 [(0, .ref (G.1 19 0 0)), (2, .int v2)] [] M (k16 v2 M)) (v2 : Int32) (M : Mem) (g_0 : G.2.2.2.1 19 0 0) : Run K G 3 0 (6 * 0) (FinN K G voI 1) 51 [(0, .ref (G.1 19 0 0)), (2, .int v2)] [] M (pL_holds_51 (scr G) k16 v2 M) := by
  rw [pL_holds_51]
  refine r_iload_n (pc := 51) C 1 rfl rfl dL_holds_51 ?_
  refine r_bipush (pc := 52) C dL_holds_52 kb_6 ?_
  refine r_irem (pc := 54) C dL_holds_54 (by decide) ?_
  refine r_iconst (pc := 55) C dL_holds_55 kc_3 ?_
  refine r_icmp_ne (pc := 56) C dL_holds_56 (tgt := 66) rfl ?_ ?_
  exact lL_holds_66  (k16 := k16) C hRm Y h0 hk16  v2 M g_0
  refine r_aload_n (pc := 59) C 0 rfl rfl dL_holds_59 ?_
  refine r_n0vI (pc := 60) C Y (Rx.of hRm rfl rfl rfl rfl) (okL_statesAreSo h0 Y.1 M g_0) (Rc.of C rfl rfl g_0) mw_759 cvL_statesAreSo rfl rfl (Nat.le_of_ble_eq_true rfl) dL_holds_60 (fun o2 M1 => ?_)
  refine r_if_eq (pc := 63) C dL_holds_63 (tgt := 98) rfl ?_ ?_
  refine r_iconst (pc := 98) C dL_holds_98 kc_0 ?_
  refine r_wid (cs' := 1) (sl' := 6 * 1) (Nat.le_of_ble_eq_true rfl) (Nat.le_of_ble_eq_true rfl) (r_nok ?_)
  exact r_zret (pc := 99) C dL_holds_99
  exact lL_holds_66  (k16 := k16) C hRm Y h0 hk16  v2 M1 g_0
def pL_holds_16 (Z : Nat × (Nat → Int32)) : Nat → Int32 → Mem → Option (Int32 × Mem)
  | 0, _, _ => none
  | n + 1, v2, M =>
    if (70 : Int32) ≤ v2 then (bnd (pL_statesAreSo M) fun o2 M1 => if o2 = 0 then (chk (decide ((0 : Int32) = 0 ∨ (0 : Int32) = 1)) (some ((0 : Int32), M1)))
    else bnd (pL_eventsAreSo M1) fun o4 M3 => if o4 = 0 then (chk (decide ((0 : Int32) = 0 ∨ (0 : Int32) = 1)) (some ((0 : Int32), M3)))
    else bnd (pL_foretells Z M3) fun o6 M5 => if o6 = 0 then (chk (decide ((0 : Int32) = 0 ∨ (0 : Int32) = 1)) (some ((0 : Int32), M5)))
    else bndc (pL_runT (501 : Int32) M5) (g := fun _ _ => none) fun o9 M8 => if ¬ o9 = (-102 : Int32) then (chk (decide ((0 : Int32) = 0 ∨ (0 : Int32) = 1)) (some ((0 : Int32), M8)))
    else chk (decide ((1 : Int32) = 0 ∨ (1 : Int32) = 1)) (some ((1 : Int32), M8)))
    else bnd (pL_nobodyAhead M) fun o11 M10 => if o11 = 0 then (chk (decide ((0 : Int32) = 0 ∨ (0 : Int32) = 1)) (some ((0 : Int32), M10)))
    else bnd (pL_ticks M10) fun o13 M12 => if o13 = 0 then (chk (decide ((0 : Int32) = 0 ∨ (0 : Int32) = 1)) (some ((0 : Int32), M12)))
    else bnd (pL_draw Z (3 : Int32) M12) fun o15 M14 => if ¬ o15 = 0 then (pL_holds_51 Z (fun v2 M => pL_holds_16 Z  n v2 M)  v2 M14)
    else bnd (pL_calls Z M14) fun o17 M16 => if o17 = 0 then (chk (decide ((0 : Int32) = 0 ∨ (0 : Int32) = 1)) (some ((0 : Int32), M16)))
    else pL_holds_51 Z (fun v2 M => pL_holds_16 Z  n v2 M)  v2 M16
theorem lL_holds_16 {K : KT} {G : WT} (C : Cx K G "PermitParkLaw" cL_holds 3 (some FieldType.boolean)) (hRm : K.2.2.2.1 = rmX 9 233 1) (Y : Cy0 K) (h0 : W0 G) : ∀ (n : Nat) (v2 : Int32) (M : Mem), G.2.2.2.1 19 0 0 → Run K G 3 0 (6 * 0) (FinN K G voI 1) 16 [(0, .ref (G.1 19 0 0)), (2, .int v2)] [] M (pL_holds_16 (scr G)  n v2 M) := by
  intro n
  induction n with
  | zero =>
    intro v2 M g_0
    exact r_none
  | succ n ih =>
    intro v2 M g_0
    rw [pL_holds_16]
    refine r_iload_n (pc := 16) C 1 rfl rfl dL_holds_16 ?_
    refine r_bipush (pc := 17) C dL_holds_17 kb_70 ?_
    refine r_icmp_ge (pc := 19) C dL_holds_19 (tgt := 106) rfl ?_ ?_
    refine r_aload_n (pc := 106) C 0 rfl rfl dL_holds_106 ?_
    refine r_n0vI (pc := 107) C Y (Rx.of hRm rfl rfl rfl rfl) (okL_statesAreSo h0 Y.1 M g_0) (Rc.of C rfl rfl g_0) mw_759 cvL_statesAreSo rfl rfl (Nat.le_of_ble_eq_true rfl) dL_holds_107 (fun o2 M1 => ?_)
    refine r_if_eq (pc := 110) C dL_holds_110 (tgt := 146) rfl ?_ ?_
    refine r_iconst (pc := 146) C dL_holds_146 kc_0 ?_
    refine r_wid (cs' := 1) (sl' := 6 * 1) (Nat.le_of_ble_eq_true rfl) (Nat.le_of_ble_eq_true rfl) (r_nok ?_)
    exact r_zret (pc := 147) C dL_holds_147
    refine r_aload_n (pc := 113) C 0 rfl rfl dL_holds_113 ?_
    refine r_n0vI (pc := 114) C Y (Rx.of hRm rfl rfl rfl rfl) (okL_eventsAreSo h0 Y.1 M1 g_0) (Rc.of C rfl rfl g_0) mw_802 cvL_eventsAreSo rfl rfl (Nat.le_of_ble_eq_true rfl) dL_holds_114 (fun o4 M3 => ?_)
    refine r_if_eq (pc := 117) C dL_holds_117 (tgt := 146) rfl ?_ ?_
    refine r_iconst (pc := 146) C dL_holds_146 kc_0 ?_
    refine r_wid (cs' := 1) (sl' := 6 * 1) (Nat.le_of_ble_eq_true rfl) (Nat.le_of_ble_eq_true rfl) (r_nok ?_)
    exact r_zret (pc := 147) C dL_holds_147
    refine r_aload_n (pc := 120) C 0 rfl rfl dL_holds_120 ?_
    refine r_n0vI (pc := 121) C Y (Rx.of hRm rfl rfl rfl rfl) (okL_foretells h0 Y.1 M3 g_0) (Rc.of C rfl rfl g_0) mw_814 cvL_foretells rfl rfl (Nat.le_of_ble_eq_true rfl) dL_holds_121 (fun o6 M5 => ?_)
    refine r_if_eq (pc := 124) C dL_holds_124 (tgt := 146) rfl ?_ ?_
    refine r_iconst (pc := 146) C dL_holds_146 kc_0 ?_
    refine r_wid (cs' := 1) (sl' := 6 * 1) (Nat.le_of_ble_eq_true rfl) (Nat.le_of_ble_eq_true rfl) (r_nok ?_)
    exact r_zret (pc := 147) C dL_holds_147
    refine r_aload_n (pc := 127) C 0 rfl rfl dL_holds_127 ?_
    refine r_getR (pc := 128) C FL_x mw_273 g_0 rfl dL_holds_128 (fun g7 => ?_)
    refine r_sipush (pc := 131) C dL_holds_131 ks_501 ?_
    refine r_hSI (pc := 134) C Y (Rx.of hRm rfl rfl rfl rfl) (okL_runT h0 Y.1 (501 : Int32) M5 g7) mw_677 cvL_run rfl rfl (Nat.le_of_ble_eq_true rfl) dL_holds_134 (fun o9 M8 => ?_)
    refine r_bipush (pc := 137) C dL_holds_137 kb_m102 ?_
    refine r_icmp_ne (pc := 139) C dL_holds_139 (tgt := 146) rfl ?_ ?_
    refine r_iconst (pc := 146) C dL_holds_146 kc_0 ?_
    refine r_wid (cs' := 1) (sl' := 6 * 1) (Nat.le_of_ble_eq_true rfl) (Nat.le_of_ble_eq_true rfl) (r_nok ?_)
    exact r_zret (pc := 147) C dL_holds_147
    refine r_iconst (pc := 142) C dL_holds_142 kc_1 ?_
    refine r_goto (pc := 143) C dL_holds_143 (tgt := 147) rfl ?_
    refine r_wid (cs' := 1) (sl' := 6 * 1) (Nat.le_of_ble_eq_true rfl) (Nat.le_of_ble_eq_true rfl) (r_nok ?_)
    exact r_zret (pc := 147) C dL_holds_147
    refine r_aload_n (pc := 22) C 0 rfl rfl dL_holds_22 ?_
    refine r_n0vI (pc := 23) C Y (Rx.of hRm rfl rfl rfl rfl) (okL_nobodyAhead h0 Y.1 M g_0) (Rc.of C rfl rfl g_0) mw_481 cvL_nobodyAhead rfl rfl (Nat.le_of_ble_eq_true rfl) dL_holds_23 (fun o11 M10 => ?_)
    refine r_if_eq (pc := 26) C dL_holds_26 (tgt := 98) rfl ?_ ?_
    refine r_iconst (pc := 98) C dL_holds_98 kc_0 ?_
    refine r_wid (cs' := 1) (sl' := 6 * 1) (Nat.le_of_ble_eq_true rfl) (Nat.le_of_ble_eq_true rfl) (r_nok ?_)
    exact r_zret (pc := 99) C dL_holds_99
    refine r_aload_n (pc := 29) C 0 rfl rfl dL_holds_29 ?_
    refine r_n0vI (pc := 30) C Y (Rx.of hRm rfl rfl rfl rfl) (okL_ticks h0 Y.1 M10 g_0) (Rc.of C rfl rfl g_0) mw_673 cvL_ticks rfl rfl (Nat.le_of_ble_eq_true rfl) dL_holds_30 (fun o13 M12 => ?_)
    refine r_if_eq (pc := 33) C dL_holds_33 (tgt := 98) rfl ?_ ?_
    refine r_iconst (pc := 98) C dL_holds_98 kc_0 ?_
    refine r_wid (cs' := 1) (sl' := 6 * 1) (Nat.le_of_ble_eq_true rfl) (Nat.le_of_ble_eq_true rfl) (r_nok ?_)
    exact r_zret (pc := 99) C dL_holds_99
    refine r_aload_n (pc := 36) C 0 rfl rfl dL_holds_36 ?_
    refine r_iconst (pc := 37) C dL_holds_37 kc_3 ?_
    refine r_wVI (pc := 38) C (Rx.of hRm rfl rfl rfl rfl) (okL_draw h0 (3 : Int32) M12 g_0) (Rc.of C rfl rfl g_0) mw_291 cvL_draw rfl rfl (Nat.le_of_ble_eq_true rfl) dL_holds_38 (fun o15 M14 => ?_)
    refine r_if_ne (pc := 41) C dL_holds_41 (tgt := 51) rfl ?_ ?_
    exact lL_holds_51  (k16 := (fun v2 M => pL_holds_16 (scr G)  n v2 M)) C hRm Y h0 ih  v2 M14 g_0
    refine r_aload_n (pc := 44) C 0 rfl rfl dL_holds_44 ?_
    refine r_n0vI (pc := 45) C Y (Rx.of hRm rfl rfl rfl rfl) (okL_calls h0 Y.1 M14 g_0) (Rc.of C rfl rfl g_0) mw_685 cvL_calls rfl rfl (Nat.le_of_ble_eq_true rfl) dL_holds_45 (fun o17 M16 => ?_)
    refine r_if_eq (pc := 48) C dL_holds_48 (tgt := 98) rfl ?_ ?_
    refine r_iconst (pc := 98) C dL_holds_98 kc_0 ?_
    refine r_wid (cs' := 1) (sl' := 6 * 1) (Nat.le_of_ble_eq_true rfl) (Nat.le_of_ble_eq_true rfl) (r_nok ?_)
    exact r_zret (pc := 99) C dL_holds_99
    exact lL_holds_51  (k16 := (fun v2 M => pL_holds_16 (scr G)  n v2 M)) C hRm Y h0 ih  v2 M16 g_0
def pL_holds (Z : Nat × (Nat → Int32)) (M : Mem) : Option (Int32 × Mem) :=
    nm (wI M 19 0 0 1 1) fun M1 => bnd (pL_builds Z M1) fun o3 M2 => if ¬ o3 = 0 then (pL_holds_16 Z  fu (0 : Int32) M2)
    else chk (decide ((0 : Int32) = 0 ∨ (0 : Int32) = 1)) (some ((0 : Int32), M2))
theorem lL_holds_0 {K : KT} {G : WT} (C : Cx K G "PermitParkLaw" cL_holds 3 (some FieldType.boolean)) (hRm : K.2.2.2.1 = rmX 9 233 1) (Y : Cy0 K) (h0 : W0 G) (M : Mem) (h_0 : G.2.2.2.1 19 0 0) : Run K G 3 0 (6 * 0) (FinN K G voI 1) 0 [(0, .ref (G.1 19 0 0)), (1, .ref (G.2.2.2.2.2.1 102))] [] M (pL_holds (scr G)   M) := by
  rw [pL_holds]
  refine r_aload_n (pc := 0) C 0 rfl rfl dL_holds_0 ?_
  refine r_aload_n (pc := 1) C 1 rfl rfl dL_holds_1 ?_
  refine r_putInts (pc := 2) C FL_ints mw_274 h_0 tyX9 tyX9_ok nmX9 dL_holds_2 (fun M1 => ?_)
  refine r_aload_n (pc := 5) C 0 rfl rfl dL_holds_5 ?_
  refine r_n0vI (pc := 6) C Y (Rx.of hRm rfl rfl rfl rfl) (okL_builds h0 Y.1 M1 h_0) (Rc.of C rfl rfl h_0) mw_287 cvL_builds rfl rfl (Nat.le_of_ble_eq_true rfl) dL_holds_6 (fun o3 M2 => ?_)
  refine r_if_ne (pc := 9) C dL_holds_9 (tgt := 14) rfl ?_ ?_
  refine r_iconst (pc := 14) C dL_holds_14 kc_0 ?_
  refine r_istore_n (pc := 15) C [(2, .int (0 : Int32)), (0, .ref (G.1 19 0 0)), (1, .ref (G.2.2.2.2.2.1 102))] dL_holds_15 rfl (by decide) rfl ?_
  refine r_sub [1, 0] rfl ?_
  exact lL_holds_16   C hRm Y h0  fu (0 : Int32) M2 h_0
  refine r_iconst (pc := 12) C dL_holds_12 kc_0 ?_
  refine r_wid (cs' := 1) (sl' := 6 * 1) (Nat.le_of_ble_eq_true rfl) (Nat.le_of_ble_eq_true rfl) (r_nok ?_)
  exact r_zret (pc := 13) C dL_holds_13
theorem okL_holds {l : Launch} {G : WT} (h0 : W0 G) (hT : l.stackTraces = false) (M : Mem) (h_0 : G.2.2.2.1 19 0 0) : OkX l G yL_holds cL_holds 3 (some FieldType.boolean) 9 233 1 [.ref (G.1 19 0 0), .ref (G.2.2.2.2.2.1 102)] voI M (xok (pL_holds (scr G)   M)) :=
  OkX.of "PermitParkLaw" rfl (by decide) (Nat.le_of_ble_eq_true rfl) (L := [(0, .ref (G.1 19 0 0)), (1, .ref (G.2.2.2.2.2.1 102))]) rfl hT (fun K _ hr Y C => r_ofN (lL_holds_0 C hr Y.1 h0  M h_0))
end
