/-! ===== pictures: machine ===== -/
section
set_option maxRecDepth 4000
def pX3_clear (k : Nat) (M : Mem) : Option (Unit × Mem) :=
    bnd (pX1_clear k M) fun o3 M2 => bnd (pX2_clear k M2) fun o6 M5 => chk (inB (0 : Int32) 2) <| nm (wI M5 15 k 0 (0 : Int32).toNatClampNeg (0 : Int32)) fun M8 => chk (inB (1 : Int32) 2) <| nm (wI M8 15 k 0 (1 : Int32).toNatClampNeg (1 : Int32)) fun M10 => nm (wI M10 3 k 0 4 (0 : Int32)) fun M11 => nm (wI M11 3 k 0 5 (0 : Int32)) fun M12 => nm (wI M12 3 k 0 6 (1 : Int32)) fun M13 => nm (wI M13 3 k 0 7 (0 : Int32)) fun M14 => nm (wI M14 3 k 0 8 (0 : Int32)) fun M15 => nm (wI M15 3 k 0 9 (0 : Int32)) fun M16 => nm (wI M16 3 k 0 10 (0 : Int32)) fun M17 => nm (wI M17 3 k 0 11 (0 : Int32)) fun M18 => nm (wI M18 3 k 0 12 (0 : Int32)) fun M19 => chk (decide ((1 : Int32) = 0 ∨ (1 : Int32) = 1)) <| nm (wI M19 3 k 0 13 (1 : Int32)) fun M20 => nm (wI M20 3 k 0 15 (0 : Int32)) fun M21 => some ((), M21)
theorem lX3_clear_0 {K : KT} {G : WT} {k : Nat} (C : Cx K G "PermitPark$Machine" cX3_clear 1 none) (hRm : K.2.2.2.1.frames = 1 ∧ K.2.2.2.1.locals = 21) (h0 : W0 G) (M : Mem) (h_0 : G.2.2.2.1 3 k 0) : Run K G 1 0 0 (FinM K G voV 0 0) 0 [(0, .ref (G.1 3 k 0))] [] M (pX3_clear k   M) := by
  rw [pX3_clear]
  refine r_aload_n (pc := 0) C 0 rfl rfl dX3_clear_0 ?_
  refine r_getR (pc := 1) C FX3_locks mw_201 h_0 rfl dX3_clear_1 (fun g1 => ?_)
  refine r_cVV (pc := 4) C hRm (okX1_clear h0 k M g1) (Rc.of C rfl rfl g1) mw_191 cvX1_clear rfl ⟨Nat.le_of_ble_eq_true rfl, Nat.le_of_ble_eq_true rfl⟩ rfl (Nat.le_of_ble_eq_true rfl) dX3_clear_4 (fun o3 M2 => ?_)
  refine r_aload_n (pc := 7) C 0 rfl rfl dX3_clear_7 ?_
  refine r_getR (pc := 8) C FX3_log mw_203 h_0 rfl dX3_clear_8 (fun g4 => ?_)
  refine r_cVV (pc := 11) C hRm (okX2_clear h0 k M2 g4) (Rc.of C rfl rfl g4) mw_195 cvX2_clear rfl ⟨Nat.le_of_ble_eq_true rfl, Nat.le_of_ble_eq_true rfl⟩ rfl (Nat.le_of_ble_eq_true rfl) dX3_clear_11 (fun o6 M5 => ?_)
  refine r_aload_n (pc := 14) C 0 rfl rfl dX3_clear_14 ?_
  refine r_getR (pc := 15) C FX3_settings mw_205 h_0 rfl dX3_clear_15 (fun g7 => ?_)
  refine r_iconst (pc := 18) C dX3_clear_18 kc_0 ?_
  refine r_iconst (pc := 19) C dX3_clear_19 kc_0 ?_
  refine r_iast (pc := 20) C rfl g7 (fun _ => rfl) (fun _ => rfl) dX3_clear_20 (fun M8 => ?_)
  refine r_aload_n (pc := 21) C 0 rfl rfl dX3_clear_21 ?_
  refine r_getR (pc := 22) C FX3_settings mw_205 h_0 rfl dX3_clear_22 (fun g9 => ?_)
  refine r_iconst (pc := 25) C dX3_clear_25 kc_1 ?_
  refine r_iconst (pc := 26) C dX3_clear_26 kc_1 ?_
  refine r_iast (pc := 27) C rfl g7 (fun _ => rfl) (fun _ => rfl) dX3_clear_27 (fun M10 => ?_)
  refine r_aload_n (pc := 28) C 0 rfl rfl dX3_clear_28 ?_
  refine r_iconst (pc := 29) C dX3_clear_29 kc_0 ?_
  refine r_putI (pc := 30) C FX3_threadCount mw_207 h_0 tyX3 tyX3_ok nmX3 (fun _ _ => rfl) rfl dX3_clear_30 (fun M11 => ?_)
  refine r_aload_n (pc := 33) C 0 rfl rfl dX3_clear_33 ?_
  refine r_iconst (pc := 34) C dX3_clear_34 kc_0 ?_
  refine r_putI (pc := 35) C FX3_time mw_209 h_0 tyX3 tyX3_ok nmX3 (fun _ _ => rfl) rfl dX3_clear_35 (fun M12 => ?_)
  refine r_aload_n (pc := 38) C 0 rfl rfl dX3_clear_38 ?_
  refine r_iconst (pc := 39) C dX3_clear_39 kc_1 ?_
  refine r_putI (pc := 40) C FX3_x mw_210 h_0 tyX3 tyX3_ok nmX3 (fun _ _ => rfl) rfl dX3_clear_40 (fun M13 => ?_)
  refine r_aload_n (pc := 43) C 0 rfl rfl dX3_clear_43 ?_
  refine r_iconst (pc := 44) C dX3_clear_44 kc_0 ?_
  refine r_putI (pc := 45) C FX3_idleTicks mw_212 h_0 tyX3 tyX3_ok nmX3 (fun _ _ => rfl) rfl dX3_clear_45 (fun M14 => ?_)
  refine r_aload_n (pc := 48) C 0 rfl rfl dX3_clear_48 ?_
  refine r_iconst (pc := 49) C dX3_clear_49 kc_0 ?_
  refine r_putI (pc := 50) C FX3_flags mw_214 h_0 tyX3 tyX3_ok nmX3 (fun _ _ => rfl) rfl dX3_clear_50 (fun M15 => ?_)
  refine r_aload_n (pc := 53) C 0 rfl rfl dX3_clear_53 ?_
  refine r_iconst (pc := 54) C dX3_clear_54 kc_0 ?_
  refine r_putI (pc := 55) C FX3_merged mw_215 h_0 tyX3 tyX3_ok nmX3 (fun _ _ => rfl) rfl dX3_clear_55 (fun M16 => ?_)
  refine r_aload_n (pc := 58) C 0 rfl rfl dX3_clear_58 ?_
  refine r_iconst (pc := 59) C dX3_clear_59 kc_0 ?_
  refine r_putI (pc := 60) C FX3_wasted mw_216 h_0 tyX3 tyX3_ok nmX3 (fun _ _ => rfl) rfl dX3_clear_60 (fun M17 => ?_)
  refine r_aload_n (pc := 63) C 0 rfl rfl dX3_clear_63 ?_
  refine r_iconst (pc := 64) C dX3_clear_64 kc_0 ?_
  refine r_putI (pc := 65) C FX3_stolen mw_217 h_0 tyX3 tyX3_ok nmX3 (fun _ _ => rfl) rfl dX3_clear_65 (fun M18 => ?_)
  refine r_aload_n (pc := 68) C 0 rfl rfl dX3_clear_68 ?_
  refine r_iconst (pc := 69) C dX3_clear_69 kc_0 ?_
  refine r_putI (pc := 70) C FX3_toldOn mw_218 h_0 tyX3 tyX3_ok nmX3 (fun _ _ => rfl) rfl dX3_clear_70 (fun M19 => ?_)
  refine r_aload_n (pc := 73) C 0 rfl rfl dX3_clear_73 ?_
  refine r_iconst (pc := 74) C dX3_clear_74 kc_1 ?_
  refine r_putZ (pc := 75) C FX3_arePrioritiesOld mw_219 h_0 tyX3 tyX3_ok nmX3 (fun _ _ => rfl) rfl dX3_clear_75 (fun M20 => ?_)
  refine r_aload_n (pc := 78) C 0 rfl rfl dX3_clear_78 ?_
  refine r_iconst (pc := 79) C dX3_clear_79 kc_0 ?_
  refine r_putI (pc := 80) C FX3_endingCount mw_221 h_0 tyX3 tyX3_ok nmX3 (fun _ _ => rfl) rfl dX3_clear_80 (fun M21 => ?_)
  exact r_vret (pc := 83) C dX3_clear_83
theorem okX3_clear {l : Launch} {G : WT} (h0 : W0 G) (k : Nat) (M : Mem) (h_0 : G.2.2.2.1 3 k 0) : Okm l G yX3_clear cX3_clear 1 none 1 21 [.ref (G.1 3 k 0)] voV M (pX3_clear k  M) :=
  Okm.of "PermitPark$Machine" rfl (by decide) (Nat.le_of_ble_eq_true rfl) (L := [(0, .ref (G.1 3 k 0))]) rfl (fun K _ hr C => lX3_clear_0 C (by rw [hr]; exact ⟨rfl, rfl⟩) h0  M h_0)
def pX3_copyFrom_2 (k : Nat) (k1 : Nat) : Nat → Int32 → Mem → Option (Unit × Mem)
  | 0, _, _ => none
  | n + 1, v2, M =>
    if (M.1 3 k1 0 4) ≤ v2 then (bnd (pX1_copyFrom k k1 M) fun o4 M3 => bnd (pX2_copyFrom k k1 M3) fun o8 M7 => nm (cpI M7 15 k1 0 15 k 0) fun M11 => nm (wI M11 3 k 0 4 (M11.1 3 k1 0 4)) fun M12 => nm (wI M12 3 k 0 5 (M12.1 3 k1 0 5)) fun M13 => nm (wI M13 3 k 0 6 (M13.1 3 k1 0 6)) fun M14 => nm (wI M14 3 k 0 7 (M14.1 3 k1 0 7)) fun M15 => nm (wI M15 3 k 0 8 (M15.1 3 k1 0 8)) fun M16 => nm (wI M16 3 k 0 9 (M16.1 3 k1 0 9)) fun M17 => nm (wI M17 3 k 0 10 (M17.1 3 k1 0 10)) fun M18 => nm (wI M18 3 k 0 11 (M18.1 3 k1 0 11)) fun M19 => nm (wI M19 3 k 0 12 (M19.1 3 k1 0 12)) fun M20 => chk (decide ((1 : Int32) = 0 ∨ (1 : Int32) = 1)) <| nm (wI M20 3 k 0 13 (1 : Int32)) fun M21 => nm (wI M21 3 k 0 15 (0 : Int32)) fun M22 => some ((), M22))
    else chk (inB v2 10) <| chk (inB v2 10) <| bnd (pX6_copyFrom k (v2.toNatClampNeg) k1 (v2.toNatClampNeg) M) fun o28 M27 => pX3_copyFrom_2 k k1  n (v2 + (1 : Int32)) M27
theorem lX3_copyFrom_2 {K : KT} {G : WT} {k : Nat} {k1 : Nat} (C : Cx K G "PermitPark$Machine" cX3_copyFrom 3 none) (hRm : K.2.2.2.1.frames = 2 ∧ K.2.2.2.1.locals = 121) (h0 : W0 G) : ∀ (n : Nat) (v2 : Int32) (M : Mem), G.2.2.2.1 3 k 0 → G.2.2.2.1 3 k1 0 → Run K G 3 0 0 (FinM K G voV 0 0) 2 [(0, .ref (G.1 3 k 0)), (1, .ref (G.1 3 k1 0)), (2, .int v2)] [] M (pX3_copyFrom_2 k k1  n v2 M) := by
  intro n
  induction n with
  | zero =>
    intro v2 M g_0 g_1
    exact r_none
  | succ n ih =>
    intro v2 M g_0 g_1
    rw [pX3_copyFrom_2]
    refine r_iload_n (pc := 2) C 2 rfl rfl dX3_copyFrom_2 ?_
    refine r_aload_n (pc := 3) C 1 rfl rfl dX3_copyFrom_3 ?_
    refine r_getI (pc := 4) C FX3_threadCount mw_207 g_1 rfl rfl dX3_copyFrom_4 ?_
    refine r_icmp_ge (pc := 7) C dX3_copyFrom_7 (tgt := 31) rfl ?_ ?_
    refine r_aload_n (pc := 31) C 0 rfl rfl dX3_copyFrom_31 ?_
    refine r_getR (pc := 32) C FX3_locks mw_201 g_0 rfl dX3_copyFrom_32 (fun g1 => ?_)
    refine r_aload_n (pc := 35) C 1 rfl rfl dX3_copyFrom_35 ?_
    refine r_getR (pc := 36) C FX3_locks mw_201 g_1 rfl dX3_copyFrom_36 (fun g2 => ?_)
    refine r_cVV (pc := 39) C hRm (okX1_copyFrom h0 k k1 M g1 g2) (Rc.of C rfl rfl g1) mw_500 cvX1_copyFrom rfl ⟨Nat.le_of_ble_eq_true rfl, Nat.le_of_ble_eq_true rfl⟩ rfl (Nat.le_of_ble_eq_true rfl) dX3_copyFrom_39 (fun o4 M3 => ?_)
    refine r_aload_n (pc := 42) C 0 rfl rfl dX3_copyFrom_42 ?_
    refine r_getR (pc := 43) C FX3_log mw_203 g_0 rfl dX3_copyFrom_43 (fun g5 => ?_)
    refine r_aload_n (pc := 46) C 1 rfl rfl dX3_copyFrom_46 ?_
    refine r_getR (pc := 47) C FX3_log mw_203 g_1 rfl dX3_copyFrom_47 (fun g6 => ?_)
    refine r_cVV (pc := 50) C hRm (okX2_copyFrom h0 k k1 M3 g5 g6) (Rc.of C rfl rfl g5) mw_505 cvX2_copyFrom rfl ⟨Nat.le_of_ble_eq_true rfl, Nat.le_of_ble_eq_true rfl⟩ rfl (Nat.le_of_ble_eq_true rfl) dX3_copyFrom_50 (fun o8 M7 => ?_)
    refine r_aload_n (pc := 53) C 1 rfl rfl dX3_copyFrom_53 ?_
    refine r_getR (pc := 54) C FX3_settings mw_205 g_1 rfl dX3_copyFrom_54 (fun g9 => ?_)
    refine r_iconst (pc := 57) C dX3_copyFrom_57 kc_0 ?_
    refine r_aload_n (pc := 58) C 0 rfl rfl dX3_copyFrom_58 ?_
    refine r_getR (pc := 59) C FX3_settings mw_205 g_0 rfl dX3_copyFrom_59 (fun g10 => ?_)
    refine r_iconst (pc := 62) C dX3_copyFrom_62 kc_0 ?_
    refine r_iconst (pc := 63) C dX3_copyFrom_63 kc_2 ?_
    refine r_copy (pc := 64) C rfl rfl g9 g10 (fun _ => rfl) (fun _ => rfl) (fun _ => rfl) (fun _ => rfl) (by decide) (by decide) mw_510 mw_499 mw_498 mw_14 hRm ⟨Nat.le_of_ble_eq_true rfl, Nat.le_of_ble_eq_true rfl⟩ dX3_copyFrom_64 (fun M11 => ?_)
    refine r_aload_n (pc := 67) C 0 rfl rfl dX3_copyFrom_67 ?_
    refine r_aload_n (pc := 68) C 1 rfl rfl dX3_copyFrom_68 ?_
    refine r_getI (pc := 69) C FX3_threadCount mw_207 g_1 rfl rfl dX3_copyFrom_69 ?_
    refine r_putI (pc := 72) C FX3_threadCount mw_207 g_0 tyX3 tyX3_ok nmX3 (fun _ _ => rfl) rfl dX3_copyFrom_72 (fun M12 => ?_)
    refine r_aload_n (pc := 75) C 0 rfl rfl dX3_copyFrom_75 ?_
    refine r_aload_n (pc := 76) C 1 rfl rfl dX3_copyFrom_76 ?_
    refine r_getI (pc := 77) C FX3_time mw_209 g_1 rfl rfl dX3_copyFrom_77 ?_
    refine r_putI (pc := 80) C FX3_time mw_209 g_0 tyX3 tyX3_ok nmX3 (fun _ _ => rfl) rfl dX3_copyFrom_80 (fun M13 => ?_)
    refine r_aload_n (pc := 83) C 0 rfl rfl dX3_copyFrom_83 ?_
    refine r_aload_n (pc := 84) C 1 rfl rfl dX3_copyFrom_84 ?_
    refine r_getI (pc := 85) C FX3_x mw_210 g_1 rfl rfl dX3_copyFrom_85 ?_
    refine r_putI (pc := 88) C FX3_x mw_210 g_0 tyX3 tyX3_ok nmX3 (fun _ _ => rfl) rfl dX3_copyFrom_88 (fun M14 => ?_)
    refine r_aload_n (pc := 91) C 0 rfl rfl dX3_copyFrom_91 ?_
    refine r_aload_n (pc := 92) C 1 rfl rfl dX3_copyFrom_92 ?_
    refine r_getI (pc := 93) C FX3_idleTicks mw_212 g_1 rfl rfl dX3_copyFrom_93 ?_
    refine r_putI (pc := 96) C FX3_idleTicks mw_212 g_0 tyX3 tyX3_ok nmX3 (fun _ _ => rfl) rfl dX3_copyFrom_96 (fun M15 => ?_)
    refine r_aload_n (pc := 99) C 0 rfl rfl dX3_copyFrom_99 ?_
    refine r_aload_n (pc := 100) C 1 rfl rfl dX3_copyFrom_100 ?_
    refine r_getI (pc := 101) C FX3_flags mw_214 g_1 rfl rfl dX3_copyFrom_101 ?_
    refine r_putI (pc := 104) C FX3_flags mw_214 g_0 tyX3 tyX3_ok nmX3 (fun _ _ => rfl) rfl dX3_copyFrom_104 (fun M16 => ?_)
    refine r_aload_n (pc := 107) C 0 rfl rfl dX3_copyFrom_107 ?_
    refine r_aload_n (pc := 108) C 1 rfl rfl dX3_copyFrom_108 ?_
    refine r_getI (pc := 109) C FX3_merged mw_215 g_1 rfl rfl dX3_copyFrom_109 ?_
    refine r_putI (pc := 112) C FX3_merged mw_215 g_0 tyX3 tyX3_ok nmX3 (fun _ _ => rfl) rfl dX3_copyFrom_112 (fun M17 => ?_)
    refine r_aload_n (pc := 115) C 0 rfl rfl dX3_copyFrom_115 ?_
    refine r_aload_n (pc := 116) C 1 rfl rfl dX3_copyFrom_116 ?_
    refine r_getI (pc := 117) C FX3_wasted mw_216 g_1 rfl rfl dX3_copyFrom_117 ?_
    refine r_putI (pc := 120) C FX3_wasted mw_216 g_0 tyX3 tyX3_ok nmX3 (fun _ _ => rfl) rfl dX3_copyFrom_120 (fun M18 => ?_)
    refine r_aload_n (pc := 123) C 0 rfl rfl dX3_copyFrom_123 ?_
    refine r_aload_n (pc := 124) C 1 rfl rfl dX3_copyFrom_124 ?_
    refine r_getI (pc := 125) C FX3_stolen mw_217 g_1 rfl rfl dX3_copyFrom_125 ?_
    refine r_putI (pc := 128) C FX3_stolen mw_217 g_0 tyX3 tyX3_ok nmX3 (fun _ _ => rfl) rfl dX3_copyFrom_128 (fun M19 => ?_)
    refine r_aload_n (pc := 131) C 0 rfl rfl dX3_copyFrom_131 ?_
    refine r_aload_n (pc := 132) C 1 rfl rfl dX3_copyFrom_132 ?_
    refine r_getI (pc := 133) C FX3_toldOn mw_218 g_1 rfl rfl dX3_copyFrom_133 ?_
    refine r_putI (pc := 136) C FX3_toldOn mw_218 g_0 tyX3 tyX3_ok nmX3 (fun _ _ => rfl) rfl dX3_copyFrom_136 (fun M20 => ?_)
    refine r_aload_n (pc := 139) C 0 rfl rfl dX3_copyFrom_139 ?_
    refine r_iconst (pc := 140) C dX3_copyFrom_140 kc_1 ?_
    refine r_putZ (pc := 141) C FX3_arePrioritiesOld mw_219 g_0 tyX3 tyX3_ok nmX3 (fun _ _ => rfl) rfl dX3_copyFrom_141 (fun M21 => ?_)
    refine r_aload_n (pc := 144) C 0 rfl rfl dX3_copyFrom_144 ?_
    refine r_iconst (pc := 145) C dX3_copyFrom_145 kc_0 ?_
    refine r_putI (pc := 146) C FX3_endingCount mw_221 g_0 tyX3 tyX3_ok nmX3 (fun _ _ => rfl) rfl dX3_copyFrom_146 (fun M22 => ?_)
    exact r_vret (pc := 149) C dX3_copyFrom_149
    refine r_aload_n (pc := 10) C 0 rfl rfl dX3_copyFrom_10 ?_
    refine r_getR (pc := 11) C FX3_threads mw_199 g_0 rfl dX3_copyFrom_11 (fun g23 => ?_)
    refine r_iload_n (pc := 14) C 2 rfl rfl dX3_copyFrom_14 ?_
    refine r_aald (pc := 15) C (kd := 4) rfl rfl g23 rfl dX3_copyFrom_15 (fun g24 => ?_)
    refine r_aload_n (pc := 16) C 1 rfl rfl dX3_copyFrom_16 ?_
    refine r_getR (pc := 17) C FX3_threads mw_199 g_1 rfl dX3_copyFrom_17 (fun g25 => ?_)
    refine r_iload_n (pc := 20) C 2 rfl rfl dX3_copyFrom_20 ?_
    refine r_aald (pc := 21) C (kd := 4) rfl rfl g25 rfl dX3_copyFrom_21 (fun g26 => ?_)
    refine r_cVV (pc := 22) C hRm (okX6_copyFrom h0 k (v2.toNatClampNeg) k1 (v2.toNatClampNeg) M g24 g26) (Rc.of C rfl rfl g24) mw_493 cvX6_copyFrom rfl ⟨Nat.le_of_ble_eq_true rfl, Nat.le_of_ble_eq_true rfl⟩ rfl (Nat.le_of_ble_eq_true rfl) dX3_copyFrom_22 (fun o28 M27 => ?_)
    refine r_iinc (pc := 25) C [(2, .int (v2 + (1 : Int32))), (0, .ref (G.1 3 k 0)), (1, .ref (G.1 3 k1 0))] dX3_copyFrom_25 (p := 2) rfl (ki_1 _) (by decide) rfl ?_
    refine r_goto (pc := 28) C dX3_copyFrom_28 (tgt := 2) rfl ?_
    refine r_sub [1, 2, 0] rfl ?_
    exact ih (v2 + (1 : Int32)) M27 g_0 g_1
def pX3_copyFrom (k : Nat) (k1 : Nat) (M : Mem) : Option (Unit × Mem) :=
    pX3_copyFrom_2 k k1  fu (0 : Int32) M
theorem lX3_copyFrom_0 {K : KT} {G : WT} {k : Nat} {k1 : Nat} (C : Cx K G "PermitPark$Machine" cX3_copyFrom 3 none) (hRm : K.2.2.2.1.frames = 2 ∧ K.2.2.2.1.locals = 121) (h0 : W0 G) (M : Mem) (h_0 : G.2.2.2.1 3 k 0) (h_1 : G.2.2.2.1 3 k1 0) : Run K G 3 0 0 (FinM K G voV 0 0) 0 [(0, .ref (G.1 3 k 0)), (1, .ref (G.1 3 k1 0))] [] M (pX3_copyFrom k k1   M) := by
  rw [pX3_copyFrom]
  refine r_iconst (pc := 0) C dX3_copyFrom_0 kc_0 ?_
  refine r_istore_n (pc := 1) C [(2, .int (0 : Int32)), (0, .ref (G.1 3 k 0)), (1, .ref (G.1 3 k1 0))] dX3_copyFrom_1 rfl (by decide) rfl ?_
  refine r_sub [1, 2, 0] rfl ?_
  exact lX3_copyFrom_2 (k := k) (k1 := k1)  C hRm h0  fu (0 : Int32) M h_0 h_1
theorem okX3_copyFrom {l : Launch} {G : WT} (h0 : W0 G) (k : Nat) (k1 : Nat) (M : Mem) (h_0 : G.2.2.2.1 3 k 0) (h_1 : G.2.2.2.1 3 k1 0) : Okm l G yX3_copyFrom cX3_copyFrom 3 none 2 121 [.ref (G.1 3 k 0), .ref (G.1 3 k1 0)] voV M (pX3_copyFrom k k1  M) :=
  Okm.of "PermitPark$Machine" rfl (by decide) (Nat.le_of_ble_eq_true rfl) (L := [(0, .ref (G.1 3 k 0)), (1, .ref (G.1 3 k1 0))]) rfl (fun K _ hr C => lX3_copyFrom_0 C (by rw [hr]; exact ⟨rfl, rfl⟩) h0  M h_0 h_1)
def pX3_isFull (k : Nat) (M : Mem) : Option (Int32 × Mem) :=
    if (M.1 3 k 0 4) < (10 : Int32) then (chk (decide ((0 : Int32) = 0 ∨ (0 : Int32) = 1)) (some ((0 : Int32), M)))
    else chk (decide ((1 : Int32) = 0 ∨ (1 : Int32) = 1)) (some ((1 : Int32), M))
theorem lX3_isFull_0 {K : KT} {G : WT} {k : Nat} (C : Cx K G "PermitPark$Machine" cX3_isFull 1 (some FieldType.boolean)) (hRm : K.2.2.2.1.frames = 0 ∧ K.2.2.2.1.locals = 0) (h0 : W0 G) (M : Mem) (h_0 : G.2.2.2.1 3 k 0) : Run K G 1 0 0 (FinM K G voI 0 0) 0 [(0, .ref (G.1 3 k 0))] [] M (pX3_isFull k   M) := by
  rw [pX3_isFull]
  refine r_aload_n (pc := 0) C 0 rfl rfl dX3_isFull_0 ?_
  refine r_getI (pc := 1) C FX3_threadCount mw_207 h_0 rfl rfl dX3_isFull_1 ?_
  refine r_bipush (pc := 4) C dX3_isFull_4 kb_10 ?_
  refine r_icmp_lt (pc := 6) C dX3_isFull_6 (tgt := 13) rfl ?_ ?_
  refine r_iconst (pc := 13) C dX3_isFull_13 kc_0 ?_
  exact r_zret (pc := 14) C dX3_isFull_14
  refine r_iconst (pc := 9) C dX3_isFull_9 kc_1 ?_
  refine r_goto (pc := 10) C dX3_isFull_10 (tgt := 14) rfl ?_
  exact r_zret (pc := 14) C dX3_isFull_14
theorem okX3_isFull {l : Launch} {G : WT} (h0 : W0 G) (k : Nat) (M : Mem) (h_0 : G.2.2.2.1 3 k 0) : Okm l G yX3_isFull cX3_isFull 1 (some FieldType.boolean) 0 0 [.ref (G.1 3 k 0)] voI M (pX3_isFull k  M) :=
  Okm.of "PermitPark$Machine" rfl (by decide) (Nat.le_of_ble_eq_true rfl) (L := [(0, .ref (G.1 3 k 0))]) rfl (fun K _ hr C => lX3_isFull_0 C (by rw [hr]; exact ⟨rfl, rfl⟩) h0  M h_0)
def pX3_newThread (k : Nat) (v1 : Int32) (M : Mem) : Option ((Nat × Nat) × Mem) :=
    chk (inB (M.1 3 k 0 4) 10) <| bnd (pX6_start k ((M.1 3 k 0 4).toNatClampNeg) v1 M) fun o4 M3 => nm (wI M3 3 k 0 4 ((M3.1 3 k 0 4) + (1 : Int32))) fun M5 => chk (decide ((1 : Int32) = 0 ∨ (1 : Int32) = 1)) <| nm (wI M5 3 k 0 13 (1 : Int32)) fun M6 => some ((k, ((M.1 3 k 0 4).toNatClampNeg)), M6)
theorem lX3_newThread_0 {K : KT} {G : WT} {k : Nat} (C : Cx K G "PermitPark$Machine" cX3_newThread 3 (some (FieldType.object "PermitPark$Strand"))) (hRm : K.2.2.2.1.frames = 1 ∧ K.2.2.2.1.locals = 22) (h0 : W0 G) (v1 : Int32) (M : Mem) (h_0 : G.2.2.2.1 3 k 0) : Run K G 3 0 0 (FinM K G (voR G 5) 0 0) 0 [(0, .ref (G.1 3 k 0)), (1, .int v1)] [] M (pX3_newThread k  v1 M) := by
  rw [pX3_newThread]
  refine r_aload_n (pc := 0) C 0 rfl rfl dX3_newThread_0 ?_
  refine r_getR (pc := 1) C FX3_threads mw_199 h_0 rfl dX3_newThread_1 (fun g1 => ?_)
  refine r_aload_n (pc := 4) C 0 rfl rfl dX3_newThread_4 ?_
  refine r_getI (pc := 5) C FX3_threadCount mw_207 h_0 rfl rfl dX3_newThread_5 ?_
  refine r_aald (pc := 8) C (kd := 4) rfl rfl g1 rfl dX3_newThread_8 (fun g2 => ?_)
  refine r_astore_n (pc := 9) C [(2, .ref (G.1 5 k ((M.1 3 k 0 4).toNatClampNeg))), (0, .ref (G.1 3 k 0)), (1, .int v1)] dX3_newThread_9 rfl (by decide) rfl ?_
  refine r_aload_n (pc := 10) C 0 rfl rfl dX3_newThread_10 ?_
  refine r_iload_n (pc := 11) C 2 rfl rfl dX3_newThread_11 ?_
  refine r_cVV (pc := 12) C hRm (okX6_start h0 k ((M.1 3 k 0 4).toNatClampNeg) v1 M g2) (Rc.of C rfl rfl g2) mw_414 cvX6_start rfl ⟨Nat.le_of_ble_eq_true rfl, Nat.le_of_ble_eq_true rfl⟩ rfl (Nat.le_of_ble_eq_true rfl) dX3_newThread_12 (fun o4 M3 => ?_)
  refine r_aload_n (pc := 15) C 1 rfl rfl dX3_newThread_15 ?_
  refine r_dup (pc := 16) C dX3_newThread_16 rfl ?_
  refine r_getI (pc := 17) C FX3_threadCount mw_207 h_0 rfl rfl dX3_newThread_17 ?_
  refine r_iconst (pc := 20) C dX3_newThread_20 kc_1 ?_
  refine r_iadd (pc := 21) C dX3_newThread_21 ?_
  refine r_putI (pc := 22) C FX3_threadCount mw_207 h_0 tyX3 tyX3_ok nmX3 (fun _ _ => rfl) rfl dX3_newThread_22 (fun M5 => ?_)
  refine r_aload_n (pc := 25) C 1 rfl rfl dX3_newThread_25 ?_
  refine r_iconst (pc := 26) C dX3_newThread_26 kc_1 ?_
  refine r_putZ (pc := 27) C FX3_arePrioritiesOld mw_219 h_0 tyX3 tyX3_ok nmX3 (fun _ _ => rfl) rfl dX3_newThread_27 (fun M6 => ?_)
  refine r_aload_n (pc := 30) C 0 rfl rfl dX3_newThread_30 ?_
  exact r_aret (pc := 31) C dX3_newThread_31
theorem okX3_newThread {l : Launch} {G : WT} (h0 : W0 G) (k : Nat) (v1 : Int32) (M : Mem) (h_0 : G.2.2.2.1 3 k 0) : Okm l G yX3_newThread cX3_newThread 3 (some (FieldType.object "PermitPark$Strand")) 1 22 [.ref (G.1 3 k 0), .int v1] (voR G 5) M (pX3_newThread k v1 M) :=
  Okm.of "PermitPark$Machine" rfl (by decide) (Nat.le_of_ble_eq_true rfl) (L := [(0, .ref (G.1 3 k 0)), (1, .int v1)]) rfl (fun K _ hr C => lX3_newThread_0 C (by rw [hr]; exact ⟨rfl, rfl⟩) h0 v1 M h_0)
def pX3_changeBase (k : Nat) (v1 : Int32) (v2 : Int32) (M : Mem) : Option (Unit × Mem) :=
    chk (inB v1 10) <| nm (wI M 5 k (v1.toNatClampNeg) 4 v2) fun M3 => chk (decide ((1 : Int32) = 0 ∨ (1 : Int32) = 1)) <| nm (wI M3 3 k 0 13 (1 : Int32)) fun M4 => some ((), M4)
theorem lX3_changeBase_0 {K : KT} {G : WT} {k : Nat} (C : Cx K G "PermitPark$Machine" cX3_changeBase 3 none) (hRm : K.2.2.2.1.frames = 0 ∧ K.2.2.2.1.locals = 0) (h0 : W0 G) (v1 : Int32) (v2 : Int32) (M : Mem) (h_0 : G.2.2.2.1 3 k 0) : Run K G 3 0 0 (FinM K G voV 0 0) 0 [(0, .ref (G.1 3 k 0)), (1, .int v1), (2, .int v2)] [] M (pX3_changeBase k  v1 v2 M) := by
  rw [pX3_changeBase]
  refine r_aload_n (pc := 0) C 0 rfl rfl dX3_changeBase_0 ?_
  refine r_getR (pc := 1) C FX3_threads mw_199 h_0 rfl dX3_changeBase_1 (fun g1 => ?_)
  refine r_iload_n (pc := 4) C 1 rfl rfl dX3_changeBase_4 ?_
  refine r_aald (pc := 5) C (kd := 4) rfl rfl g1 rfl dX3_changeBase_5 (fun g2 => ?_)
  refine r_iload_n (pc := 6) C 2 rfl rfl dX3_changeBase_6 ?_
  refine r_putI (pc := 7) C FX6_base mw_120 g2 tyX6 tyX6_ok nmX6 (fun _ _ => rfl) rfl dX3_changeBase_7 (fun M3 => ?_)
  refine r_aload_n (pc := 10) C 0 rfl rfl dX3_changeBase_10 ?_
  refine r_iconst (pc := 11) C dX3_changeBase_11 kc_1 ?_
  refine r_putZ (pc := 12) C FX3_arePrioritiesOld mw_219 h_0 tyX3 tyX3_ok nmX3 (fun _ _ => rfl) rfl dX3_changeBase_12 (fun M4 => ?_)
  exact r_vret (pc := 15) C dX3_changeBase_15
theorem okX3_changeBase {l : Launch} {G : WT} (h0 : W0 G) (k : Nat) (v1 : Int32) (v2 : Int32) (M : Mem) (h_0 : G.2.2.2.1 3 k 0) : Okm l G yX3_changeBase cX3_changeBase 3 none 0 0 [.ref (G.1 3 k 0), .int v1, .int v2] voV M (pX3_changeBase k v1 v2 M) :=
  Okm.of "PermitPark$Machine" rfl (by decide) (Nat.le_of_ble_eq_true rfl) (L := [(0, .ref (G.1 3 k 0)), (1, .int v1), (2, .int v2)]) rfl (fun K _ hr C => lX3_changeBase_0 C (by rw [hr]; exact ⟨rfl, rfl⟩) h0 v1 v2 M h_0)
def pX3_changeSetting (k : Nat) (v1 : Int32) (v2 : Int32) (M : Mem) : Option (Unit × Mem) :=
    chk (inB v1 2) <| nm (wI M 15 k 0 v1.toNatClampNeg v2) fun M2 => chk (decide ((1 : Int32) = 0 ∨ (1 : Int32) = 1)) <| nm (wI M2 3 k 0 13 (1 : Int32)) fun M3 => some ((), M3)
theorem lX3_changeSetting_0 {K : KT} {G : WT} {k : Nat} (C : Cx K G "PermitPark$Machine" cX3_changeSetting 3 none) (hRm : K.2.2.2.1.frames = 0 ∧ K.2.2.2.1.locals = 0) (h0 : W0 G) (v1 : Int32) (v2 : Int32) (M : Mem) (h_0 : G.2.2.2.1 3 k 0) : Run K G 3 0 0 (FinM K G voV 0 0) 0 [(0, .ref (G.1 3 k 0)), (1, .int v1), (2, .int v2)] [] M (pX3_changeSetting k  v1 v2 M) := by
  rw [pX3_changeSetting]
  refine r_aload_n (pc := 0) C 0 rfl rfl dX3_changeSetting_0 ?_
  refine r_getR (pc := 1) C FX3_settings mw_205 h_0 rfl dX3_changeSetting_1 (fun g1 => ?_)
  refine r_iload_n (pc := 4) C 1 rfl rfl dX3_changeSetting_4 ?_
  refine r_iload_n (pc := 5) C 2 rfl rfl dX3_changeSetting_5 ?_
  refine r_iast (pc := 6) C rfl g1 (fun _ => rfl) (fun _ => rfl) dX3_changeSetting_6 (fun M2 => ?_)
  refine r_aload_n (pc := 7) C 0 rfl rfl dX3_changeSetting_7 ?_
  refine r_iconst (pc := 8) C dX3_changeSetting_8 kc_1 ?_
  refine r_putZ (pc := 9) C FX3_arePrioritiesOld mw_219 h_0 tyX3 tyX3_ok nmX3 (fun _ _ => rfl) rfl dX3_changeSetting_9 (fun M3 => ?_)
  exact r_vret (pc := 12) C dX3_changeSetting_12
theorem okX3_changeSetting {l : Launch} {G : WT} (h0 : W0 G) (k : Nat) (v1 : Int32) (v2 : Int32) (M : Mem) (h_0 : G.2.2.2.1 3 k 0) : Okm l G yX3_changeSetting cX3_changeSetting 3 none 0 0 [.ref (G.1 3 k 0), .int v1, .int v2] voV M (pX3_changeSetting k v1 v2 M) :=
  Okm.of "PermitPark$Machine" rfl (by decide) (Nat.le_of_ble_eq_true rfl) (L := [(0, .ref (G.1 3 k 0)), (1, .int v1), (2, .int v2)]) rfl (fun K _ hr C => lX3_changeSetting_0 C (by rw [hr]; exact ⟨rfl, rfl⟩) h0 v1 v2 M h_0)
def pX3_isFlagOn (k : Nat) (v1 : Int32) (M : Mem) : Option (Int32 × Mem) :=
    if ¬ (((M.1 3 k 0 8) >>> (v1 &&& 31)) &&& (1 : Int32)) = (1 : Int32) then (chk (decide ((0 : Int32) = 0 ∨ (0 : Int32) = 1)) (some ((0 : Int32), M)))
    else chk (decide ((1 : Int32) = 0 ∨ (1 : Int32) = 1)) (some ((1 : Int32), M))
theorem lX3_isFlagOn_0 {K : KT} {G : WT} {k : Nat} (C : Cx K G "PermitPark$Machine" cX3_isFlagOn 2 (some FieldType.boolean)) (hRm : K.2.2.2.1.frames = 0 ∧ K.2.2.2.1.locals = 0) (h0 : W0 G) (v1 : Int32) (M : Mem) (h_0 : G.2.2.2.1 3 k 0) : Run K G 2 0 0 (FinM K G voI 0 0) 0 [(0, .ref (G.1 3 k 0)), (1, .int v1)] [] M (pX3_isFlagOn k  v1 M) := by
  rw [pX3_isFlagOn]
  refine r_aload_n (pc := 0) C 0 rfl rfl dX3_isFlagOn_0 ?_
  refine r_getI (pc := 1) C FX3_flags mw_214 h_0 rfl rfl dX3_isFlagOn_1 ?_
  refine r_iload_n (pc := 4) C 1 rfl rfl dX3_isFlagOn_4 ?_
  refine r_ishr (pc := 5) C dX3_isFlagOn_5 ?_
  refine r_iconst (pc := 6) C dX3_isFlagOn_6 kc_1 ?_
  refine r_iand (pc := 7) C dX3_isFlagOn_7 ?_
  refine r_iconst (pc := 8) C dX3_isFlagOn_8 kc_1 ?_
  refine r_icmp_ne (pc := 9) C dX3_isFlagOn_9 (tgt := 16) rfl ?_ ?_
  refine r_iconst (pc := 16) C dX3_isFlagOn_16 kc_0 ?_
  exact r_zret (pc := 17) C dX3_isFlagOn_17
  refine r_iconst (pc := 12) C dX3_isFlagOn_12 kc_1 ?_
  refine r_goto (pc := 13) C dX3_isFlagOn_13 (tgt := 17) rfl ?_
  exact r_zret (pc := 17) C dX3_isFlagOn_17
theorem okX3_isFlagOn {l : Launch} {G : WT} (h0 : W0 G) (k : Nat) (v1 : Int32) (M : Mem) (h_0 : G.2.2.2.1 3 k 0) : Okm l G yX3_isFlagOn cX3_isFlagOn 2 (some FieldType.boolean) 0 0 [.ref (G.1 3 k 0), .int v1] voI M (pX3_isFlagOn k v1 M) :=
  Okm.of "PermitPark$Machine" rfl (by decide) (Nat.le_of_ble_eq_true rfl) (L := [(0, .ref (G.1 3 k 0)), (1, .int v1)]) rfl (fun K _ hr C => lX3_isFlagOn_0 C (by rw [hr]; exact ⟨rfl, rfl⟩) h0 v1 M h_0)
def pX3_turnFlag (k : Nat) (v1 : Int32) (v2 : Int32) (M : Mem) : Option (Unit × Mem) :=
    if v2 = 0 then (nm (wI M 3 k 0 8 ((M.1 3 k 0 8) &&& (((1 : Int32) <<< (v1 &&& 31)) ^^^ (-1 : Int32)))) fun M1 => some ((), M1))
    else nm (wI M 3 k 0 8 ((M.1 3 k 0 8) ||| ((1 : Int32) <<< (v1 &&& 31)))) fun M2 => some ((), M2)
theorem lX3_turnFlag_0 {K : KT} {G : WT} {k : Nat} (C : Cx K G "PermitPark$Machine" cX3_turnFlag 3 none) (hRm : K.2.2.2.1.frames = 0 ∧ K.2.2.2.1.locals = 0) (h0 : W0 G) (v1 : Int32) (v2 : Int32) (M : Mem) (h_0 : G.2.2.2.1 3 k 0) : Run K G 3 0 0 (FinM K G voV 0 0) 0 [(0, .ref (G.1 3 k 0)), (1, .int v1), (2, .int v2)] [] M (pX3_turnFlag k  v1 v2 M) := by
  rw [pX3_turnFlag]
  refine r_iload_n (pc := 0) C 2 rfl rfl dX3_turnFlag_0 ?_
  refine r_if_eq (pc := 1) C dX3_turnFlag_1 (tgt := 19) rfl ?_ ?_
  refine r_aload_n (pc := 19) C 0 rfl rfl dX3_turnFlag_19 ?_
  refine r_dup (pc := 20) C dX3_turnFlag_20 rfl ?_
  refine r_getI (pc := 21) C FX3_flags mw_214 h_0 rfl rfl dX3_turnFlag_21 ?_
  refine r_iconst (pc := 24) C dX3_turnFlag_24 kc_1 ?_
  refine r_iload_n (pc := 25) C 1 rfl rfl dX3_turnFlag_25 ?_
  refine r_ishl (pc := 26) C dX3_turnFlag_26 ?_
  refine r_iconst (pc := 27) C dX3_turnFlag_27 kc_m1 ?_
  refine r_ixor (pc := 28) C dX3_turnFlag_28 ?_
  refine r_iand (pc := 29) C dX3_turnFlag_29 ?_
  refine r_putI (pc := 30) C FX3_flags mw_214 h_0 tyX3 tyX3_ok nmX3 (fun _ _ => rfl) rfl dX3_turnFlag_30 (fun M1 => ?_)
  exact r_vret (pc := 33) C dX3_turnFlag_33
  refine r_aload_n (pc := 4) C 0 rfl rfl dX3_turnFlag_4 ?_
  refine r_dup (pc := 5) C dX3_turnFlag_5 rfl ?_
  refine r_getI (pc := 6) C FX3_flags mw_214 h_0 rfl rfl dX3_turnFlag_6 ?_
  refine r_iconst (pc := 9) C dX3_turnFlag_9 kc_1 ?_
  refine r_iload_n (pc := 10) C 1 rfl rfl dX3_turnFlag_10 ?_
  refine r_ishl (pc := 11) C dX3_turnFlag_11 ?_
  refine r_ior (pc := 12) C dX3_turnFlag_12 ?_
  refine r_putI (pc := 13) C FX3_flags mw_214 h_0 tyX3 tyX3_ok nmX3 (fun _ _ => rfl) rfl dX3_turnFlag_13 (fun M2 => ?_)
  refine r_goto (pc := 16) C dX3_turnFlag_16 (tgt := 33) rfl ?_
  exact r_vret (pc := 33) C dX3_turnFlag_33
theorem okX3_turnFlag {l : Launch} {G : WT} (h0 : W0 G) (k : Nat) (v1 : Int32) (v2 : Int32) (M : Mem) (h_0 : G.2.2.2.1 3 k 0) : Okm l G yX3_turnFlag cX3_turnFlag 3 none 0 0 [.ref (G.1 3 k 0), .int v1, .int v2] voV M (pX3_turnFlag k v1 v2 M) :=
  Okm.of "PermitPark$Machine" rfl (by decide) (Nat.le_of_ble_eq_true rfl) (L := [(0, .ref (G.1 3 k 0)), (1, .int v1), (2, .int v2)]) rfl (fun K _ hr C => lX3_turnFlag_0 C (by rw [hr]; exact ⟨rfl, rfl⟩) h0 v1 v2 M h_0)
def pX3_threadsIn_4 (k : Nat) : Nat → Int32 → Int32 → Int32 → Mem → Option (Int32 × Mem)
  | 0, _, _, _, _ => none
  | n + 1, v1, v2, v3, M =>
    if (M.1 3 k 0 4) ≤ v3 then (some (v2, M))
    else chk (inB v3 10) <| if ¬ (M.1 5 k (v3.toNatClampNeg) 7) = v1 then (pX3_threadsIn_4 k  n v1 v2 (v3 + (1 : Int32)) M)
    else pX3_threadsIn_4 k  n v1 (v2 + (1 : Int32)) (v3 + (1 : Int32)) M
theorem lX3_threadsIn_4 {K : KT} {G : WT} {k : Nat} (C : Cx K G "PermitPark$Machine" cX3_threadsIn 4 (some FieldType.int)) (hRm : K.2.2.2.1.frames = 0 ∧ K.2.2.2.1.locals = 0) (h0 : W0 G) : ∀ (n : Nat) (v1 : Int32) (v2 : Int32) (v3 : Int32) (M : Mem), G.2.2.2.1 3 k 0 → Run K G 4 0 0 (FinM K G voI 0 0) 4 [(0, .ref (G.1 3 k 0)), (1, .int v1), (2, .int v2), (3, .int v3)] [] M (pX3_threadsIn_4 k  n v1 v2 v3 M) := by
  intro n
  induction n with
  | zero =>
    intro v1 v2 v3 M g_0
    exact r_none
  | succ n ih =>
    intro v1 v2 v3 M g_0
    rw [pX3_threadsIn_4]
    refine r_iload_n (pc := 4) C 3 rfl rfl dX3_threadsIn_4 ?_
    refine r_aload_n (pc := 5) C 0 rfl rfl dX3_threadsIn_5 ?_
    refine r_getI (pc := 6) C FX3_threadCount mw_207 g_0 rfl rfl dX3_threadsIn_6 ?_
    refine r_icmp_ge (pc := 9) C dX3_threadsIn_9 (tgt := 34) rfl ?_ ?_
    refine r_iload_n (pc := 34) C 2 rfl rfl dX3_threadsIn_34 ?_
    exact r_iret (pc := 35) C rfl dX3_threadsIn_35
    refine r_aload_n (pc := 12) C 0 rfl rfl dX3_threadsIn_12 ?_
    refine r_getR (pc := 13) C FX3_threads mw_199 g_0 rfl dX3_threadsIn_13 (fun g1 => ?_)
    refine r_iload_n (pc := 16) C 3 rfl rfl dX3_threadsIn_16 ?_
    refine r_aald (pc := 17) C (kd := 4) rfl rfl g1 rfl dX3_threadsIn_17 (fun g2 => ?_)
    refine r_getI (pc := 18) C FX6_state mw_128 g2 rfl rfl dX3_threadsIn_18 ?_
    refine r_iload_n (pc := 21) C 1 rfl rfl dX3_threadsIn_21 ?_
    refine r_icmp_ne (pc := 22) C dX3_threadsIn_22 (tgt := 28) rfl ?_ ?_
    refine r_iinc (pc := 28) C [(3, .int (v3 + (1 : Int32))), (0, .ref (G.1 3 k 0)), (1, .int v1), (2, .int v2)] dX3_threadsIn_28 (p := 3) rfl (ki_1 _) (by decide) rfl ?_
    refine r_goto (pc := 31) C dX3_threadsIn_31 (tgt := 4) rfl ?_
    refine r_sub [1, 2, 3, 0] rfl ?_
    exact ih v1 v2 (v3 + (1 : Int32)) M g_0
    refine r_iinc (pc := 25) C [(2, .int (v2 + (1 : Int32))), (0, .ref (G.1 3 k 0)), (1, .int v1), (3, .int v3)] dX3_threadsIn_25 (p := 2) rfl (ki_1 _) (by decide) rfl ?_
    refine r_iinc (pc := 28) C [(3, .int (v3 + (1 : Int32))), (2, .int (v2 + (1 : Int32))), (0, .ref (G.1 3 k 0)), (1, .int v1)] dX3_threadsIn_28 (p := 3) rfl (ki_1 _) (by decide) rfl ?_
    refine r_goto (pc := 31) C dX3_threadsIn_31 (tgt := 4) rfl ?_
    refine r_sub [2, 3, 1, 0] rfl ?_
    exact ih v1 (v2 + (1 : Int32)) (v3 + (1 : Int32)) M g_0
def pX3_threadsIn (k : Nat) (v1 : Int32) (M : Mem) : Option (Int32 × Mem) :=
    pX3_threadsIn_4 k  fu v1 (0 : Int32) (0 : Int32) M
theorem lX3_threadsIn_0 {K : KT} {G : WT} {k : Nat} (C : Cx K G "PermitPark$Machine" cX3_threadsIn 4 (some FieldType.int)) (hRm : K.2.2.2.1.frames = 0 ∧ K.2.2.2.1.locals = 0) (h0 : W0 G) (v1 : Int32) (M : Mem) (h_0 : G.2.2.2.1 3 k 0) : Run K G 4 0 0 (FinM K G voI 0 0) 0 [(0, .ref (G.1 3 k 0)), (1, .int v1)] [] M (pX3_threadsIn k  v1 M) := by
  rw [pX3_threadsIn]
  refine r_iconst (pc := 0) C dX3_threadsIn_0 kc_0 ?_
  refine r_istore_n (pc := 1) C [(2, .int (0 : Int32)), (0, .ref (G.1 3 k 0)), (1, .int v1)] dX3_threadsIn_1 rfl (by decide) rfl ?_
  refine r_iconst (pc := 2) C dX3_threadsIn_2 kc_0 ?_
  refine r_istore_n (pc := 3) C [(3, .int (0 : Int32)), (2, .int (0 : Int32)), (0, .ref (G.1 3 k 0)), (1, .int v1)] dX3_threadsIn_3 rfl (by decide) rfl ?_
  refine r_sub [2, 3, 1, 0] rfl ?_
  exact lX3_threadsIn_4 (k := k)  C hRm h0  fu v1 (0 : Int32) (0 : Int32) M h_0
theorem okX3_threadsIn {l : Launch} {G : WT} (h0 : W0 G) (k : Nat) (v1 : Int32) (M : Mem) (h_0 : G.2.2.2.1 3 k 0) : Okm l G yX3_threadsIn cX3_threadsIn 4 (some FieldType.int) 0 0 [.ref (G.1 3 k 0), .int v1] voI M (pX3_threadsIn k v1 M) :=
  Okm.of "PermitPark$Machine" rfl (by decide) (Nat.le_of_ble_eq_true rfl) (L := [(0, .ref (G.1 3 k 0)), (1, .int v1)]) rfl (fun K _ hr C => lX3_threadsIn_0 C (by rw [hr]; exact ⟨rfl, rfl⟩) h0 v1 M h_0)
def pX3_allReturns_4 (k : Nat) : Nat → Int32 → Int32 → Mem → Option (Int32 × Mem)
  | 0, _, _, _ => none
  | n + 1, v1, v2, M =>
    if (M.1 3 k 0 4) ≤ v2 then (some (v1, M))
    else chk (inB v2 10) <| bnd (pX6_allReturns k (v2.toNatClampNeg) M) fun o4 M3 => nm (v1 + o4) fun x5 => pX3_allReturns_4 k  n x5 (v2 + (1 : Int32)) M3
theorem lX3_allReturns_4 {K : KT} {G : WT} {k : Nat} (C : Cx K G "PermitPark$Machine" cX3_allReturns 3 (some FieldType.int)) (hRm : K.2.2.2.1.frames = 1 ∧ K.2.2.2.1.locals = 20) (h0 : W0 G) : ∀ (n : Nat) (v1 : Int32) (v2 : Int32) (M : Mem), G.2.2.2.1 3 k 0 → Run K G 3 0 0 (FinM K G voI 0 0) 4 [(0, .ref (G.1 3 k 0)), (1, .int v1), (2, .int v2)] [] M (pX3_allReturns_4 k  n v1 v2 M) := by
  intro n
  induction n with
  | zero =>
    intro v1 v2 M g_0
    exact r_none
  | succ n ih =>
    intro v1 v2 M g_0
    rw [pX3_allReturns_4]
    refine r_iload_n (pc := 4) C 2 rfl rfl dX3_allReturns_4 ?_
    refine r_aload_n (pc := 5) C 0 rfl rfl dX3_allReturns_5 ?_
    refine r_getI (pc := 6) C FX3_threadCount mw_207 g_0 rfl rfl dX3_allReturns_6 ?_
    refine r_icmp_ge (pc := 9) C dX3_allReturns_9 (tgt := 30) rfl ?_ ?_
    refine r_iload_n (pc := 30) C 1 rfl rfl dX3_allReturns_30 ?_
    exact r_iret (pc := 31) C rfl dX3_allReturns_31
    refine r_iload_n (pc := 12) C 1 rfl rfl dX3_allReturns_12 ?_
    refine r_aload_n (pc := 13) C 0 rfl rfl dX3_allReturns_13 ?_
    refine r_getR (pc := 14) C FX3_threads mw_199 g_0 rfl dX3_allReturns_14 (fun g1 => ?_)
    refine r_iload_n (pc := 17) C 2 rfl rfl dX3_allReturns_17 ?_
    refine r_aald (pc := 18) C (kd := 4) rfl rfl g1 rfl dX3_allReturns_18 (fun g2 => ?_)
    refine r_cVI (pc := 19) C hRm (okX6_allReturns h0 k (v2.toNatClampNeg) M g2) (Rc.of C rfl rfl g2) mw_847 cvX6_allReturns rfl ⟨Nat.le_of_ble_eq_true rfl, Nat.le_of_ble_eq_true rfl⟩ rfl (Nat.le_of_ble_eq_true rfl) dX3_allReturns_19 (fun o4 M3 => ?_)
    refine r_iadd (pc := 22) C dX3_allReturns_22 ?_
    refine r_nmi (fun x5 => ?_)
    refine r_istore_n (pc := 23) C [(1, .int x5), (0, .ref (G.1 3 k 0)), (2, .int v2)] dX3_allReturns_23 rfl (by decide) rfl ?_
    refine r_iinc (pc := 24) C [(2, .int (v2 + (1 : Int32))), (1, .int x5), (0, .ref (G.1 3 k 0))] dX3_allReturns_24 (p := 2) rfl (ki_1 _) (by decide) rfl ?_
    refine r_goto (pc := 27) C dX3_allReturns_27 (tgt := 4) rfl ?_
    refine r_sub [2, 1, 0] rfl ?_
    exact ih x5 (v2 + (1 : Int32)) M3 g_0
def pX3_allReturns (k : Nat) (M : Mem) : Option (Int32 × Mem) :=
    pX3_allReturns_4 k  fu (0 : Int32) (0 : Int32) M
theorem lX3_allReturns_0 {K : KT} {G : WT} {k : Nat} (C : Cx K G "PermitPark$Machine" cX3_allReturns 3 (some FieldType.int)) (hRm : K.2.2.2.1.frames = 1 ∧ K.2.2.2.1.locals = 20) (h0 : W0 G) (M : Mem) (h_0 : G.2.2.2.1 3 k 0) : Run K G 3 0 0 (FinM K G voI 0 0) 0 [(0, .ref (G.1 3 k 0))] [] M (pX3_allReturns k   M) := by
  rw [pX3_allReturns]
  refine r_iconst (pc := 0) C dX3_allReturns_0 kc_0 ?_
  refine r_istore_n (pc := 1) C [(1, .int (0 : Int32)), (0, .ref (G.1 3 k 0))] dX3_allReturns_1 rfl (by decide) rfl ?_
  refine r_iconst (pc := 2) C dX3_allReturns_2 kc_0 ?_
  refine r_istore_n (pc := 3) C [(2, .int (0 : Int32)), (1, .int (0 : Int32)), (0, .ref (G.1 3 k 0))] dX3_allReturns_3 rfl (by decide) rfl ?_
  refine r_sub [2, 1, 0] rfl ?_
  exact lX3_allReturns_4 (k := k)  C hRm h0  fu (0 : Int32) (0 : Int32) M h_0
theorem okX3_allReturns {l : Launch} {G : WT} (h0 : W0 G) (k : Nat) (M : Mem) (h_0 : G.2.2.2.1 3 k 0) : Okm l G yX3_allReturns cX3_allReturns 3 (some FieldType.int) 1 20 [.ref (G.1 3 k 0)] voI M (pX3_allReturns k  M) :=
  Okm.of "PermitPark$Machine" rfl (by decide) (Nat.le_of_ble_eq_true rfl) (L := [(0, .ref (G.1 3 k 0))]) rfl (fun K _ hr C => lX3_allReturns_0 C (by rw [hr]; exact ⟨rfl, rfl⟩) h0  M h_0)
def pX3_number (k : Nat) (v1 : Int32) (M : Mem) : Option (Int32 × Mem) :=
    if v1 = (0 : Int32) then (chk (inB (0 : Int32) 2) <| some ((M.1 15 k 0 (0 : Int32).toNatClampNeg), M))
    else if v1 = (1 : Int32) then (chk (inB (1 : Int32) 2) <| some ((M.1 15 k 0 (1 : Int32).toNatClampNeg), M))
    else if v1 = (2 : Int32) then (some ((M.1 3 k 0 4), M))
    else if v1 = (3 : Int32) then (some ((M.1 3 k 0 5), M))
    else if v1 = (4 : Int32) then (some ((M.1 3 k 0 6), M))
    else if v1 = (5 : Int32) then (bnd (pX3_threadsIn k (0 : Int32) M) fun o10 M9 => some (o10, M9))
    else if v1 = (6 : Int32) then (bnd (pX3_threadsIn k (1 : Int32) M) fun o13 M12 => some (o13, M12))
    else if v1 = (7 : Int32) then (bnd (pX3_threadsIn k (2 : Int32) M) fun o16 M15 => some (o16, M15))
    else if v1 = (8 : Int32) then (bnd (pX3_threadsIn k (3 : Int32) M) fun o19 M18 => some (o19, M18))
    else if v1 = (9 : Int32) then (bnd (pX3_threadsIn k (4 : Int32) M) fun o22 M21 => some (o22, M21))
    else if v1 = (10 : Int32) then (some ((M.1 3 k 0 8), M))
    else if v1 = (11 : Int32) then (bnd (pX1_heldOnes k M) fun o27 M26 => some (o27, M26))
    else if v1 = (12 : Int32) then (some ((M.1 3 k 0 7), M))
    else if v1 = (13 : Int32) then (some ((M.1 13 k 0 2), M))
    else if v1 = (14 : Int32) then (some ((M.1 3 k 0 9), M))
    else if v1 = (15 : Int32) then (some ((M.1 3 k 0 10), M))
    else if v1 = (16 : Int32) then (some ((M.1 3 k 0 11), M))
    else some ((M.1 3 k 0 12), M)
theorem lX3_number_0 {K : KT} {G : WT} {k : Nat} (C : Cx K G "PermitPark$Machine" cX3_number 2 (some FieldType.int)) (hRm : K.2.2.2.1.frames = 1 ∧ K.2.2.2.1.locals = 23) (h0 : W0 G) (v1 : Int32) (M : Mem) (h_0 : G.2.2.2.1 3 k 0) : Run K G 2 0 0 (FinM K G voI 0 0) 0 [(0, .ref (G.1 3 k 0)), (1, .int v1)] [] M (pX3_number k  v1 M) := by
  rw [pX3_number]
  refine r_iload_n (pc := 0) C 1 rfl rfl dX3_number_0 ?_
  refine r_ite (fun e1 => ?_) (fun e1n => ?_)
  refine r_tabE (pc := 1) C e1 dX3_number_1 (by decide) (by decide) (off := 83) rfl (tgt := 84) rfl ?_
  refine r_aload_n (pc := 84) C 0 rfl rfl dX3_number_84 ?_
  refine r_getR (pc := 85) C FX3_settings mw_205 h_0 rfl dX3_number_85 (fun g2 => ?_)
  refine r_iconst (pc := 88) C dX3_number_88 kc_0 ?_
  refine r_iald (pc := 89) C rfl g2 (fun _ => rfl) (fun _ => rfl) dX3_number_89 ?_
  exact r_iret (pc := 90) C rfl dX3_number_90
  refine r_ite (fun e3 => ?_) (fun e3n => ?_)
  refine r_tabE (pc := 1) C e3 dX3_number_1 (by decide) (by decide) (off := 90) rfl (tgt := 91) rfl ?_
  refine r_aload_n (pc := 91) C 0 rfl rfl dX3_number_91 ?_
  refine r_getR (pc := 92) C FX3_settings mw_205 h_0 rfl dX3_number_92 (fun g4 => ?_)
  refine r_iconst (pc := 95) C dX3_number_95 kc_1 ?_
  refine r_iald (pc := 96) C rfl g4 (fun _ => rfl) (fun _ => rfl) dX3_number_96 ?_
  exact r_iret (pc := 97) C rfl dX3_number_97
  refine r_ite (fun e5 => ?_) (fun e5n => ?_)
  refine r_tabE (pc := 1) C e5 dX3_number_1 (by decide) (by decide) (off := 97) rfl (tgt := 98) rfl ?_
  refine r_aload_n (pc := 98) C 0 rfl rfl dX3_number_98 ?_
  refine r_getI (pc := 99) C FX3_threadCount mw_207 h_0 rfl rfl dX3_number_99 ?_
  exact r_iret (pc := 102) C rfl dX3_number_102
  refine r_ite (fun e6 => ?_) (fun e6n => ?_)
  refine r_tabE (pc := 1) C e6 dX3_number_1 (by decide) (by decide) (off := 102) rfl (tgt := 103) rfl ?_
  refine r_aload_n (pc := 103) C 0 rfl rfl dX3_number_103 ?_
  refine r_getI (pc := 104) C FX3_time mw_209 h_0 rfl rfl dX3_number_104 ?_
  exact r_iret (pc := 107) C rfl dX3_number_107
  refine r_ite (fun e7 => ?_) (fun e7n => ?_)
  refine r_tabE (pc := 1) C e7 dX3_number_1 (by decide) (by decide) (off := 107) rfl (tgt := 108) rfl ?_
  refine r_aload_n (pc := 108) C 0 rfl rfl dX3_number_108 ?_
  refine r_getI (pc := 109) C FX3_x mw_210 h_0 rfl rfl dX3_number_109 ?_
  exact r_iret (pc := 112) C rfl dX3_number_112
  refine r_ite (fun e8 => ?_) (fun e8n => ?_)
  refine r_tabE (pc := 1) C e8 dX3_number_1 (by decide) (by decide) (off := 112) rfl (tgt := 113) rfl ?_
  refine r_aload_n (pc := 113) C 0 rfl rfl dX3_number_113 ?_
  refine r_iconst (pc := 114) C dX3_number_114 kc_0 ?_
  refine r_cVI (pc := 115) C hRm (okX3_threadsIn h0 k (0 : Int32) M h_0) (Rc.of C rfl rfl h_0) mw_649 cvX3_threadsIn rfl ⟨Nat.le_of_ble_eq_true rfl, Nat.le_of_ble_eq_true rfl⟩ rfl (Nat.le_of_ble_eq_true rfl) dX3_number_115 (fun o10 M9 => ?_)
  exact r_iret (pc := 118) C rfl dX3_number_118
  refine r_ite (fun e11 => ?_) (fun e11n => ?_)
  refine r_tabE (pc := 1) C e11 dX3_number_1 (by decide) (by decide) (off := 118) rfl (tgt := 119) rfl ?_
  refine r_aload_n (pc := 119) C 0 rfl rfl dX3_number_119 ?_
  refine r_iconst (pc := 120) C dX3_number_120 kc_1 ?_
  refine r_cVI (pc := 121) C hRm (okX3_threadsIn h0 k (1 : Int32) M h_0) (Rc.of C rfl rfl h_0) mw_649 cvX3_threadsIn rfl ⟨Nat.le_of_ble_eq_true rfl, Nat.le_of_ble_eq_true rfl⟩ rfl (Nat.le_of_ble_eq_true rfl) dX3_number_121 (fun o13 M12 => ?_)
  exact r_iret (pc := 124) C rfl dX3_number_124
  refine r_ite (fun e14 => ?_) (fun e14n => ?_)
  refine r_tabE (pc := 1) C e14 dX3_number_1 (by decide) (by decide) (off := 124) rfl (tgt := 125) rfl ?_
  refine r_aload_n (pc := 125) C 0 rfl rfl dX3_number_125 ?_
  refine r_iconst (pc := 126) C dX3_number_126 kc_2 ?_
  refine r_cVI (pc := 127) C hRm (okX3_threadsIn h0 k (2 : Int32) M h_0) (Rc.of C rfl rfl h_0) mw_649 cvX3_threadsIn rfl ⟨Nat.le_of_ble_eq_true rfl, Nat.le_of_ble_eq_true rfl⟩ rfl (Nat.le_of_ble_eq_true rfl) dX3_number_127 (fun o16 M15 => ?_)
  exact r_iret (pc := 130) C rfl dX3_number_130
  refine r_ite (fun e17 => ?_) (fun e17n => ?_)
  refine r_tabE (pc := 1) C e17 dX3_number_1 (by decide) (by decide) (off := 130) rfl (tgt := 131) rfl ?_
  refine r_aload_n (pc := 131) C 0 rfl rfl dX3_number_131 ?_
  refine r_iconst (pc := 132) C dX3_number_132 kc_3 ?_
  refine r_cVI (pc := 133) C hRm (okX3_threadsIn h0 k (3 : Int32) M h_0) (Rc.of C rfl rfl h_0) mw_649 cvX3_threadsIn rfl ⟨Nat.le_of_ble_eq_true rfl, Nat.le_of_ble_eq_true rfl⟩ rfl (Nat.le_of_ble_eq_true rfl) dX3_number_133 (fun o19 M18 => ?_)
  exact r_iret (pc := 136) C rfl dX3_number_136
  refine r_ite (fun e20 => ?_) (fun e20n => ?_)
  refine r_tabE (pc := 1) C e20 dX3_number_1 (by decide) (by decide) (off := 136) rfl (tgt := 137) rfl ?_
  refine r_aload_n (pc := 137) C 0 rfl rfl dX3_number_137 ?_
  refine r_iconst (pc := 138) C dX3_number_138 kc_4 ?_
  refine r_cVI (pc := 139) C hRm (okX3_threadsIn h0 k (4 : Int32) M h_0) (Rc.of C rfl rfl h_0) mw_649 cvX3_threadsIn rfl ⟨Nat.le_of_ble_eq_true rfl, Nat.le_of_ble_eq_true rfl⟩ rfl (Nat.le_of_ble_eq_true rfl) dX3_number_139 (fun o22 M21 => ?_)
  exact r_iret (pc := 142) C rfl dX3_number_142
  refine r_ite (fun e23 => ?_) (fun e23n => ?_)
  refine r_tabE (pc := 1) C e23 dX3_number_1 (by decide) (by decide) (off := 142) rfl (tgt := 143) rfl ?_
  refine r_aload_n (pc := 143) C 0 rfl rfl dX3_number_143 ?_
  refine r_getI (pc := 144) C FX3_flags mw_214 h_0 rfl rfl dX3_number_144 ?_
  exact r_iret (pc := 147) C rfl dX3_number_147
  refine r_ite (fun e24 => ?_) (fun e24n => ?_)
  refine r_tabE (pc := 1) C e24 dX3_number_1 (by decide) (by decide) (off := 147) rfl (tgt := 148) rfl ?_
  refine r_aload_n (pc := 148) C 0 rfl rfl dX3_number_148 ?_
  refine r_getR (pc := 149) C FX3_locks mw_201 h_0 rfl dX3_number_149 (fun g25 => ?_)
  refine r_cVI (pc := 152) C hRm (okX1_heldOnes h0 k M g25) (Rc.of C rfl rfl g25) mw_653 cvX1_heldOnes rfl ⟨Nat.le_of_ble_eq_true rfl, Nat.le_of_ble_eq_true rfl⟩ rfl (Nat.le_of_ble_eq_true rfl) dX3_number_152 (fun o27 M26 => ?_)
  exact r_iret (pc := 155) C rfl dX3_number_155
  refine r_ite (fun e28 => ?_) (fun e28n => ?_)
  refine r_tabE (pc := 1) C e28 dX3_number_1 (by decide) (by decide) (off := 155) rfl (tgt := 156) rfl ?_
  refine r_aload_n (pc := 156) C 0 rfl rfl dX3_number_156 ?_
  refine r_getI (pc := 157) C FX3_idleTicks mw_212 h_0 rfl rfl dX3_number_157 ?_
  exact r_iret (pc := 160) C rfl dX3_number_160
  refine r_ite (fun e29 => ?_) (fun e29n => ?_)
  refine r_tabE (pc := 1) C e29 dX3_number_1 (by decide) (by decide) (off := 160) rfl (tgt := 161) rfl ?_
  refine r_aload_n (pc := 161) C 0 rfl rfl dX3_number_161 ?_
  refine r_getR (pc := 162) C FX3_log mw_203 h_0 rfl dX3_number_162 (fun g30 => ?_)
  refine r_getI (pc := 165) C FX2_kept mw_92 g30 rfl rfl dX3_number_165 ?_
  exact r_iret (pc := 168) C rfl dX3_number_168
  refine r_ite (fun e31 => ?_) (fun e31n => ?_)
  refine r_tabE (pc := 1) C e31 dX3_number_1 (by decide) (by decide) (off := 168) rfl (tgt := 169) rfl ?_
  refine r_aload_n (pc := 169) C 0 rfl rfl dX3_number_169 ?_
  refine r_getI (pc := 170) C FX3_merged mw_215 h_0 rfl rfl dX3_number_170 ?_
  exact r_iret (pc := 173) C rfl dX3_number_173
  refine r_ite (fun e32 => ?_) (fun e32n => ?_)
  refine r_tabE (pc := 1) C e32 dX3_number_1 (by decide) (by decide) (off := 173) rfl (tgt := 174) rfl ?_
  refine r_aload_n (pc := 174) C 0 rfl rfl dX3_number_174 ?_
  refine r_getI (pc := 175) C FX3_wasted mw_216 h_0 rfl rfl dX3_number_175 ?_
  exact r_iret (pc := 178) C rfl dX3_number_178
  refine r_ite (fun e33 => ?_) (fun e33n => ?_)
  refine r_tabE (pc := 1) C e33 dX3_number_1 (by decide) (by decide) (off := 178) rfl (tgt := 179) rfl ?_
  refine r_aload_n (pc := 179) C 0 rfl rfl dX3_number_179 ?_
  refine r_getI (pc := 180) C FX3_stolen mw_217 h_0 rfl rfl dX3_number_180 ?_
  exact r_iret (pc := 183) C rfl dX3_number_183
  refine r_tabD (pc := 1) C (cz := [0, 1, 2, 3, 4, 5, 6, 7, 8, 9, 10, 11, 12, 13, 14, 15, 16]) (tabN_cons e1n (tabN_cons e3n (tabN_cons e5n (tabN_cons e6n (tabN_cons e7n (tabN_cons e8n (tabN_cons e11n (tabN_cons e14n (tabN_cons e17n (tabN_cons e20n (tabN_cons e23n (tabN_cons e24n (tabN_cons e28n (tabN_cons e29n (tabN_cons e31n (tabN_cons e32n (tabN_cons e33n tabN_nil))))))))))))))))) dX3_number_1 (by decide) (tgt := 184) rfl ?_
  refine r_aload_n (pc := 184) C 0 rfl rfl dX3_number_184 ?_
  refine r_getI (pc := 185) C FX3_toldOn mw_218 h_0 rfl rfl dX3_number_185 ?_
  exact r_iret (pc := 188) C rfl dX3_number_188
theorem okX3_number {l : Launch} {G : WT} (h0 : W0 G) (k : Nat) (v1 : Int32) (M : Mem) (h_0 : G.2.2.2.1 3 k 0) : Okm l G yX3_number cX3_number 2 (some FieldType.int) 1 23 [.ref (G.1 3 k 0), .int v1] voI M (pX3_number k v1 M) :=
  Okm.of "PermitPark$Machine" rfl (by decide) (Nat.le_of_ble_eq_true rfl) (L := [(0, .ref (G.1 3 k 0)), (1, .int v1)]) rfl (fun K _ hr C => lX3_number_0 C (by rw [hr]; exact ⟨rfl, rfl⟩) h0 v1 M h_0)
def pX3_blockerOf (k : Nat) (v1 : Int32) (M : Mem) : Option (Int32 × Mem) :=
    chk (inB v1 10) <| nm (M.1 5 k (v1.toNatClampNeg) 14) fun x3 => if ¬ x3 = (-1 : Int32) then (chk (inB x3 6) <| some ((M.1 10 k 0 x3.toNatClampNeg), M))
    else some ((-1 : Int32), M)
theorem lX3_blockerOf_0 {K : KT} {G : WT} {k : Nat} (C : Cx K G "PermitPark$Machine" cX3_blockerOf 3 (some FieldType.int)) (hRm : K.2.2.2.1.frames = 0 ∧ K.2.2.2.1.locals = 0) (h0 : W0 G) (v1 : Int32) (M : Mem) (h_0 : G.2.2.2.1 3 k 0) : Run K G 3 0 0 (FinM K G voI 0 0) 0 [(0, .ref (G.1 3 k 0)), (1, .int v1)] [] M (pX3_blockerOf k  v1 M) := by
  rw [pX3_blockerOf]
  refine r_aload_n (pc := 0) C 0 rfl rfl dX3_blockerOf_0 ?_
  refine r_getR (pc := 1) C FX3_threads mw_199 h_0 rfl dX3_blockerOf_1 (fun g1 => ?_)
  refine r_iload_n (pc := 4) C 1 rfl rfl dX3_blockerOf_4 ?_
  refine r_aald (pc := 5) C (kd := 4) rfl rfl g1 rfl dX3_blockerOf_5 (fun g2 => ?_)
  refine r_getI (pc := 6) C FX6_blockedAt mw_143 g2 rfl rfl dX3_blockerOf_6 ?_
  refine r_nmi (fun x3 => ?_)
  refine r_istore_n (pc := 9) C [(2, .int x3), (0, .ref (G.1 3 k 0)), (1, .int v1)] dX3_blockerOf_9 rfl (by decide) rfl ?_
  refine r_iload_n (pc := 10) C 0 rfl rfl dX3_blockerOf_10 ?_
  refine r_iconst (pc := 11) C dX3_blockerOf_11 kc_m1 ?_
  refine r_icmp_ne (pc := 12) C dX3_blockerOf_12 (tgt := 19) rfl ?_ ?_
  refine r_aload_n (pc := 19) C 1 rfl rfl dX3_blockerOf_19 ?_
  refine r_getR (pc := 20) C FX3_locks mw_201 h_0 rfl dX3_blockerOf_20 (fun g4 => ?_)
  refine r_getR (pc := 23) C FX1_holders mw_71 g4 rfl dX3_blockerOf_23 (fun g5 => ?_)
  refine r_iload_n (pc := 26) C 0 rfl rfl dX3_blockerOf_26 ?_
  refine r_iald (pc := 27) C rfl g5 (fun _ => rfl) (fun _ => rfl) dX3_blockerOf_27 ?_
  exact r_iret (pc := 28) C rfl dX3_blockerOf_28
  refine r_iconst (pc := 15) C dX3_blockerOf_15 kc_m1 ?_
  refine r_goto (pc := 16) C dX3_blockerOf_16 (tgt := 28) rfl ?_
  exact r_iret (pc := 28) C rfl dX3_blockerOf_28
theorem okX3_blockerOf {l : Launch} {G : WT} (h0 : W0 G) (k : Nat) (v1 : Int32) (M : Mem) (h_0 : G.2.2.2.1 3 k 0) : Okm l G yX3_blockerOf cX3_blockerOf 3 (some FieldType.int) 0 0 [.ref (G.1 3 k 0), .int v1] voI M (pX3_blockerOf k v1 M) :=
  Okm.of "PermitPark$Machine" rfl (by decide) (Nat.le_of_ble_eq_true rfl) (L := [(0, .ref (G.1 3 k 0)), (1, .int v1)]) rfl (fun K _ hr C => lX3_blockerOf_0 C (by rw [hr]; exact ⟨rfl, rfl⟩) h0 v1 M h_0)
def pX3_blockerInChain_14 (k : Nat) : Nat → Int32 → Int32 → Int32 → Int32 → Mem → Option (Int32 × Mem)
  | 0, _, _, _, _, _ => none
  | n + 1, v2, v3, v4, v5, M =>
    if (10 : Int32) ≤ v5 then (some ((-1 : Int32), M))
    else if v4 = (-1 : Int32) then (some ((-1 : Int32), M))
    else if ¬ ((v3 >>> (v4 &&& 31)) &&& (1 : Int32)) = 0 then (some ((-1 : Int32), M))
    else if ¬ v5 = v2 then (nm (v3 ||| ((1 : Int32) <<< (v4 &&& 31))) fun x1 => bnd (pX3_blockerOf k v4 M) fun o3 M2 => pX3_blockerInChain_14 k  n v2 x1 o3 (v5 + (1 : Int32)) M2)
    else some (v4, M)
theorem lX3_blockerInChain_14 {K : KT} {G : WT} {k : Nat} (C : Cx K G "PermitPark$Machine" cX3_blockerInChain 6 (some FieldType.int)) (hRm : K.2.2.2.1.frames = 1 ∧ K.2.2.2.1.locals = 22) (h0 : W0 G) : ∀ (n : Nat) (v2 : Int32) (v3 : Int32) (v4 : Int32) (v5 : Int32) (M : Mem), G.2.2.2.1 3 k 0 → Run K G 6 0 0 (FinM K G voI 0 0) 14 [(0, .ref (G.1 3 k 0)), (2, .int v2), (3, .int v3), (4, .int v4), (5, .int v5)] [] M (pX3_blockerInChain_14 k  n v2 v3 v4 v5 M) := by
  intro n
  induction n with
  | zero =>
    intro v2 v3 v4 v5 M g_0
    exact r_none
  | succ n ih =>
    intro v2 v3 v4 v5 M g_0
    rw [pX3_blockerInChain_14]
    refine r_iload (pc := 14) C 4 rfl dX3_blockerInChain_14 ?_
    refine r_bipush (pc := 16) C dX3_blockerInChain_16 kb_10 ?_
    refine r_icmp_ge (pc := 18) C dX3_blockerInChain_18 (tgt := 66) rfl ?_ ?_
    refine r_iconst (pc := 66) C dX3_blockerInChain_66 kc_m1 ?_
    exact r_iret (pc := 67) C rfl dX3_blockerInChain_67
    refine r_iload (pc := 21) C 3 rfl dX3_blockerInChain_21 ?_
    refine r_iconst (pc := 23) C dX3_blockerInChain_23 kc_m1 ?_
    refine r_icmp_eq (pc := 24) C dX3_blockerInChain_24 (tgt := 66) rfl ?_ ?_
    refine r_iconst (pc := 66) C dX3_blockerInChain_66 kc_m1 ?_
    exact r_iret (pc := 67) C rfl dX3_blockerInChain_67
    refine r_iload_n (pc := 27) C 2 rfl rfl dX3_blockerInChain_27 ?_
    refine r_iload (pc := 28) C 3 rfl dX3_blockerInChain_28 ?_
    refine r_ishr (pc := 30) C dX3_blockerInChain_30 ?_
    refine r_iconst (pc := 31) C dX3_blockerInChain_31 kc_1 ?_
    refine r_iand (pc := 32) C dX3_blockerInChain_32 ?_
    refine r_if_ne (pc := 33) C dX3_blockerInChain_33 (tgt := 66) rfl ?_ ?_
    refine r_iconst (pc := 66) C dX3_blockerInChain_66 kc_m1 ?_
    exact r_iret (pc := 67) C rfl dX3_blockerInChain_67
    refine r_iload (pc := 36) C 4 rfl dX3_blockerInChain_36 ?_
    refine r_iload_n (pc := 38) C 1 rfl rfl dX3_blockerInChain_38 ?_
    refine r_icmp_ne (pc := 39) C dX3_blockerInChain_39 (tgt := 45) rfl ?_ ?_
    refine r_iload_n (pc := 45) C 2 rfl rfl dX3_blockerInChain_45 ?_
    refine r_iconst (pc := 46) C dX3_blockerInChain_46 kc_1 ?_
    refine r_iload (pc := 47) C 3 rfl dX3_blockerInChain_47 ?_
    refine r_ishl (pc := 49) C dX3_blockerInChain_49 ?_
    refine r_ior (pc := 50) C dX3_blockerInChain_50 ?_
    refine r_nmi (fun x1 => ?_)
    refine r_istore_n (pc := 51) C [(3, .int x1), (0, .ref (G.1 3 k 0)), (2, .int v2), (4, .int v4), (5, .int v5)] dX3_blockerInChain_51 rfl (by decide) rfl ?_
    refine r_aload_n (pc := 52) C 1 rfl rfl dX3_blockerInChain_52 ?_
    refine r_iload (pc := 53) C 3 rfl dX3_blockerInChain_53 ?_
    refine r_cVI (pc := 55) C hRm (okX3_blockerOf h0 k v4 M g_0) (Rc.of C rfl rfl g_0) mw_523 cvX3_blockerOf rfl ⟨Nat.le_of_ble_eq_true rfl, Nat.le_of_ble_eq_true rfl⟩ rfl (Nat.le_of_ble_eq_true rfl) dX3_blockerInChain_55 (fun o3 M2 => ?_)
    refine r_istore (pc := 58) C [(4, .int o3), (3, .int x1), (0, .ref (G.1 3 k 0)), (2, .int v2), (5, .int v5)] dX3_blockerInChain_58 (by decide) rfl ?_
    refine r_iinc (pc := 60) C [(5, .int (v5 + (1 : Int32))), (4, .int o3), (3, .int x1), (0, .ref (G.1 3 k 0)), (2, .int v2)] dX3_blockerInChain_60 (p := 4) rfl (ki_1 _) (by decide) rfl ?_
    refine r_goto (pc := 63) C dX3_blockerInChain_63 (tgt := 14) rfl ?_
    refine r_sub [3, 4, 2, 1, 0] rfl ?_
    exact ih v2 x1 o3 (v5 + (1 : Int32)) M2 g_0
    refine r_iload (pc := 42) C 3 rfl dX3_blockerInChain_42 ?_
    exact r_iret (pc := 44) C rfl dX3_blockerInChain_44
def pX3_blockerInChain (k : Nat) (v1 : Int32) (v2 : Int32) (M : Mem) : Option (Int32 × Mem) :=
    nm ((1 : Int32) <<< (v1 &&& 31)) fun x1 => bnd (pX3_blockerOf k v1 M) fun o3 M2 => pX3_blockerInChain_14 k  fu v2 x1 o3 (0 : Int32) M2
theorem lX3_blockerInChain_0 {K : KT} {G : WT} {k : Nat} (C : Cx K G "PermitPark$Machine" cX3_blockerInChain 6 (some FieldType.int)) (hRm : K.2.2.2.1.frames = 1 ∧ K.2.2.2.1.locals = 22) (h0 : W0 G) (v1 : Int32) (v2 : Int32) (M : Mem) (h_0 : G.2.2.2.1 3 k 0) : Run K G 6 0 0 (FinM K G voI 0 0) 0 [(0, .ref (G.1 3 k 0)), (1, .int v1), (2, .int v2)] [] M (pX3_blockerInChain k  v1 v2 M) := by
  rw [pX3_blockerInChain]
  refine r_iconst (pc := 0) C dX3_blockerInChain_0 kc_1 ?_
  refine r_iload_n (pc := 1) C 1 rfl rfl dX3_blockerInChain_1 ?_
  refine r_ishl (pc := 2) C dX3_blockerInChain_2 ?_
  refine r_nmi (fun x1 => ?_)
  refine r_istore_n (pc := 3) C [(3, .int x1), (0, .ref (G.1 3 k 0)), (1, .int v1), (2, .int v2)] dX3_blockerInChain_3 rfl (by decide) rfl ?_
  refine r_aload_n (pc := 4) C 1 rfl rfl dX3_blockerInChain_4 ?_
  refine r_iload_n (pc := 5) C 2 rfl rfl dX3_blockerInChain_5 ?_
  refine r_cVI (pc := 6) C hRm (okX3_blockerOf h0 k v1 M h_0) (Rc.of C rfl rfl h_0) mw_523 cvX3_blockerOf rfl ⟨Nat.le_of_ble_eq_true rfl, Nat.le_of_ble_eq_true rfl⟩ rfl (Nat.le_of_ble_eq_true rfl) dX3_blockerInChain_6 (fun o3 M2 => ?_)
  refine r_istore (pc := 9) C [(4, .int o3), (3, .int x1), (0, .ref (G.1 3 k 0)), (1, .int v1), (2, .int v2)] dX3_blockerInChain_9 (by decide) rfl ?_
  refine r_iconst (pc := 11) C dX3_blockerInChain_11 kc_0 ?_
  refine r_istore (pc := 12) C [(5, .int (0 : Int32)), (4, .int o3), (3, .int x1), (0, .ref (G.1 3 k 0)), (1, .int v1), (2, .int v2)] dX3_blockerInChain_12 (by decide) rfl ?_
  refine r_sub [3, 5, 2, 1, 0] rfl ?_
  exact lX3_blockerInChain_14 (k := k)  C hRm h0  fu v2 x1 o3 (0 : Int32) M2 h_0
theorem okX3_blockerInChain {l : Launch} {G : WT} (h0 : W0 G) (k : Nat) (v1 : Int32) (v2 : Int32) (M : Mem) (h_0 : G.2.2.2.1 3 k 0) : Okm l G yX3_blockerInChain cX3_blockerInChain 6 (some FieldType.int) 1 22 [.ref (G.1 3 k 0), .int v1, .int v2] voI M (pX3_blockerInChain k v1 v2 M) :=
  Okm.of "PermitPark$Machine" rfl (by decide) (Nat.le_of_ble_eq_true rfl) (L := [(0, .ref (G.1 3 k 0)), (1, .int v1), (2, .int v2)]) rfl (fun K _ hr C => lX3_blockerInChain_0 C (by rw [hr]; exact ⟨rfl, rfl⟩) h0 v1 v2 M h_0)
def pX3_isStuck_4 (k : Nat) : Nat → Int32 → Int32 → Mem → Option (Int32 × Mem)
  | 0, _, _, _ => none
  | n + 1, v2, v3, M =>
    if (10 : Int32) ≤ v3 then (chk (decide ((1 : Int32) = 0 ∨ (1 : Int32) = 1)) (some ((1 : Int32), M)))
    else bnd (pX3_blockerOf k v2 M) fun o2 M1 => if ¬ o2 = (-1 : Int32) then (pX3_isStuck_4 k  n o2 (v3 + (1 : Int32)) M1)
    else chk (inB v2 10) <| bnd (pX6_isOver k (v2.toNatClampNeg) M1) fun o6 M5 => chk (decide (o6 = 0 ∨ o6 = 1)) (some (o6, M5))
theorem lX3_isStuck_4 {K : KT} {G : WT} {k : Nat} (C : Cx K G "PermitPark$Machine" cX3_isStuck 5 (some FieldType.boolean)) (hRm : K.2.2.2.1.frames = 1 ∧ K.2.2.2.1.locals = 22) (h0 : W0 G) : ∀ (n : Nat) (v2 : Int32) (v3 : Int32) (M : Mem), G.2.2.2.1 3 k 0 → Run K G 5 0 0 (FinM K G voI 0 0) 4 [(0, .ref (G.1 3 k 0)), (2, .int v2), (3, .int v3)] [] M (pX3_isStuck_4 k  n v2 v3 M) := by
  intro n
  induction n with
  | zero =>
    intro v2 v3 M g_0
    exact r_none
  | succ n ih =>
    intro v2 v3 M g_0
    rw [pX3_isStuck_4]
    refine r_iload_n (pc := 4) C 2 rfl rfl dX3_isStuck_4 ?_
    refine r_bipush (pc := 5) C dX3_isStuck_5 kb_10 ?_
    refine r_icmp_ge (pc := 7) C dX3_isStuck_7 (tgt := 42) rfl ?_ ?_
    refine r_iconst (pc := 42) C dX3_isStuck_42 kc_1 ?_
    exact r_zret (pc := 43) C dX3_isStuck_43
    refine r_aload_n (pc := 10) C 0 rfl rfl dX3_isStuck_10 ?_
    refine r_iload_n (pc := 11) C 1 rfl rfl dX3_isStuck_11 ?_
    refine r_cVI (pc := 12) C hRm (okX3_blockerOf h0 k v2 M g_0) (Rc.of C rfl rfl g_0) mw_523 cvX3_blockerOf rfl ⟨Nat.le_of_ble_eq_true rfl, Nat.le_of_ble_eq_true rfl⟩ rfl (Nat.le_of_ble_eq_true rfl) dX3_isStuck_12 (fun o2 M1 => ?_)
    refine r_istore (pc := 15) C [(4, .int o2), (0, .ref (G.1 3 k 0)), (2, .int v2), (3, .int v3)] dX3_isStuck_15 (by decide) rfl ?_
    refine r_iload (pc := 17) C 0 rfl dX3_isStuck_17 ?_
    refine r_iconst (pc := 19) C dX3_isStuck_19 kc_m1 ?_
    refine r_icmp_ne (pc := 20) C dX3_isStuck_20 (tgt := 33) rfl ?_ ?_
    refine r_iload (pc := 33) C 0 rfl dX3_isStuck_33 ?_
    refine r_istore_n (pc := 35) C [(2, .int o2), (4, .int o2), (0, .ref (G.1 3 k 0)), (3, .int v3)] dX3_isStuck_35 rfl (by decide) rfl ?_
    refine r_iinc (pc := 36) C [(3, .int (v3 + (1 : Int32))), (2, .int o2), (4, .int o2), (0, .ref (G.1 3 k 0))] dX3_isStuck_36 (p := 3) rfl (ki_1 _) (by decide) rfl ?_
    refine r_goto (pc := 39) C dX3_isStuck_39 (tgt := 4) rfl ?_
    refine r_sub [3, 1, 0] rfl ?_
    exact ih o2 (v3 + (1 : Int32)) M1 g_0
    refine r_aload_n (pc := 23) C 1 rfl rfl dX3_isStuck_23 ?_
    refine r_getR (pc := 24) C FX3_threads mw_199 g_0 rfl dX3_isStuck_24 (fun g3 => ?_)
    refine r_iload_n (pc := 27) C 2 rfl rfl dX3_isStuck_27 ?_
    refine r_aald (pc := 28) C (kd := 4) rfl rfl g3 rfl dX3_isStuck_28 (fun g4 => ?_)
    refine r_cVI (pc := 29) C hRm (okX6_isOver h0 k (v2.toNatClampNeg) M1 g4) (Rc.of C rfl rfl g4) mw_613 cvX6_isOver rfl ⟨Nat.le_of_ble_eq_true rfl, Nat.le_of_ble_eq_true rfl⟩ rfl (Nat.le_of_ble_eq_true rfl) dX3_isStuck_29 (fun o6 M5 => ?_)
    exact r_zret (pc := 32) C dX3_isStuck_32
def pX3_isStuck (k : Nat) (v1 : Int32) (M : Mem) : Option (Int32 × Mem) :=
    pX3_isStuck_4 k  fu v1 (0 : Int32) M
theorem lX3_isStuck_0 {K : KT} {G : WT} {k : Nat} (C : Cx K G "PermitPark$Machine" cX3_isStuck 5 (some FieldType.boolean)) (hRm : K.2.2.2.1.frames = 1 ∧ K.2.2.2.1.locals = 22) (h0 : W0 G) (v1 : Int32) (M : Mem) (h_0 : G.2.2.2.1 3 k 0) : Run K G 5 0 0 (FinM K G voI 0 0) 0 [(0, .ref (G.1 3 k 0)), (1, .int v1)] [] M (pX3_isStuck k  v1 M) := by
  rw [pX3_isStuck]
  refine r_iload_n (pc := 0) C 1 rfl rfl dX3_isStuck_0 ?_
  refine r_istore_n (pc := 1) C [(2, .int v1), (0, .ref (G.1 3 k 0)), (1, .int v1)] dX3_isStuck_1 rfl (by decide) rfl ?_
  refine r_iconst (pc := 2) C dX3_isStuck_2 kc_0 ?_
  refine r_istore_n (pc := 3) C [(3, .int (0 : Int32)), (2, .int v1), (0, .ref (G.1 3 k 0)), (1, .int v1)] dX3_isStuck_3 rfl (by decide) rfl ?_
  refine r_sub [2, 1, 0] rfl ?_
  exact lX3_isStuck_4 (k := k)  C hRm h0  fu v1 (0 : Int32) M h_0
theorem okX3_isStuck {l : Launch} {G : WT} (h0 : W0 G) (k : Nat) (v1 : Int32) (M : Mem) (h_0 : G.2.2.2.1 3 k 0) : Okm l G yX3_isStuck cX3_isStuck 5 (some FieldType.boolean) 1 22 [.ref (G.1 3 k 0), .int v1] voI M (pX3_isStuck k v1 M) :=
  Okm.of "PermitPark$Machine" rfl (by decide) (Nat.le_of_ble_eq_true rfl) (L := [(0, .ref (G.1 3 k 0)), (1, .int v1)]) rfl (fun K _ hr C => lX3_isStuck_0 C (by rw [hr]; exact ⟨rfl, rfl⟩) h0 v1 M h_0)
def pX3_refreshPriorities_70 (k : Nat) (k54 : Int32 → Mem → Option (Unit × Mem)) : Nat → Int32 → Int32 → Int32 → Mem → Option (Unit × Mem)
  | 0, _, _, _, _ => none
  | n + 1, v1, v2, v3, M =>
    if (10 : Int32) ≤ v3 then (k54 (v1 + (1 : Int32)) M)
    else if v2 = (-1 : Int32) then (k54 (v1 + (1 : Int32)) M)
    else chk (inB v2 10) <| chk (inB v2 10) <| chk (inB v1 10) <| nm (wI M 5 k (v2.toNatClampNeg) 5 (if (M.1 5 k (v2.toNatClampNeg) 5) < (M.1 5 k (v1.toNatClampNeg) 4) then (M.1 5 k (v1.toNatClampNeg) 4) else (M.1 5 k (v2.toNatClampNeg) 5))) fun M7 => bnd (pX3_blockerOf k v2 M7) fun o9 M8 => pX3_refreshPriorities_70 k k54 n v1 o9 (v3 + (1 : Int32)) M8
theorem lX3_refreshPriorities_70 {K : KT} {G : WT} {k : Nat} {k54 : Int32 → Mem → Option (Unit × Mem)} (C : Cx K G "PermitPark$Machine" cX3_refreshPriorities 4 none) (hRm : K.2.2.2.1.frames = 1 ∧ K.2.2.2.1.locals = 22) (h0 : W0 G)
    (hk54 : ∀ (v1 : Int32) (M : Mem), G.2.2.2.1 3 k 0 → Run K G 4 0 0 (FinM K G voV 0 0) 54 [(0, .ref (G.1 3 k 0)), (1, .int v1)] [] M (k54 v1 M)) : ∀ (n : Nat) (v1 : Int32) (v2 : Int32) (v3 : Int32) (M : Mem), G.2.2.2.1 3 k 0 → Run K G 4 0 0 (FinM K G voV 0 0) 70 [(0, .ref (G.1 3 k 0)), (1, .int v1), (2, .int v2), (3, .int v3)] [] M (pX3_refreshPriorities_70 k k54 n v1 v2 v3 M) := by
  intro n
  induction n with
  | zero =>
    intro v1 v2 v3 M g_0
    exact r_none
  | succ n ih =>
    intro v1 v2 v3 M g_0
    rw [pX3_refreshPriorities_70]
    refine r_iload_n (pc := 70) C 3 rfl rfl dX3_refreshPriorities_70 ?_
    refine r_bipush (pc := 71) C dX3_refreshPriorities_71 kb_10 ?_
    refine r_icmp_ge (pc := 73) C dX3_refreshPriorities_73 (tgt := 123) rfl ?_ ?_
    refine r_iinc (pc := 123) C [(1, .int (v1 + (1 : Int32))), (0, .ref (G.1 3 k 0)), (2, .int v2), (3, .int v3)] dX3_refreshPriorities_123 (p := 1) rfl (ki_1 _) (by decide) rfl ?_
    refine r_goto (pc := 126) C dX3_refreshPriorities_126 (tgt := 54) rfl ?_
    refine r_sub [1, 0] rfl ?_
    exact hk54 (v1 + (1 : Int32)) M g_0
    refine r_iload_n (pc := 76) C 2 rfl rfl dX3_refreshPriorities_76 ?_
    refine r_iconst (pc := 77) C dX3_refreshPriorities_77 kc_m1 ?_
    refine r_icmp_eq (pc := 78) C dX3_refreshPriorities_78 (tgt := 123) rfl ?_ ?_
    refine r_iinc (pc := 123) C [(1, .int (v1 + (1 : Int32))), (0, .ref (G.1 3 k 0)), (2, .int v2), (3, .int v3)] dX3_refreshPriorities_123 (p := 1) rfl (ki_1 _) (by decide) rfl ?_
    refine r_goto (pc := 126) C dX3_refreshPriorities_126 (tgt := 54) rfl ?_
    refine r_sub [1, 0] rfl ?_
    exact hk54 (v1 + (1 : Int32)) M g_0
    refine r_aload_n (pc := 81) C 0 rfl rfl dX3_refreshPriorities_81 ?_
    refine r_getR (pc := 82) C FX3_threads mw_199 g_0 rfl dX3_refreshPriorities_82 (fun g1 => ?_)
    refine r_iload_n (pc := 85) C 2 rfl rfl dX3_refreshPriorities_85 ?_
    refine r_aald (pc := 86) C (kd := 4) rfl rfl g1 rfl dX3_refreshPriorities_86 (fun g2 => ?_)
    refine r_aload_n (pc := 87) C 0 rfl rfl dX3_refreshPriorities_87 ?_
    refine r_getR (pc := 88) C FX3_threads mw_199 g_0 rfl dX3_refreshPriorities_88 (fun g3 => ?_)
    refine r_iload_n (pc := 91) C 2 rfl rfl dX3_refreshPriorities_91 ?_
    refine r_aald (pc := 92) C (kd := 4) rfl rfl g1 rfl dX3_refreshPriorities_92 (fun g4 => ?_)
    refine r_getI (pc := 93) C FX6_priority mw_123 g2 rfl rfl dX3_refreshPriorities_93 ?_
    refine r_aload_n (pc := 96) C 0 rfl rfl dX3_refreshPriorities_96 ?_
    refine r_getR (pc := 97) C FX3_threads mw_199 g_0 rfl dX3_refreshPriorities_97 (fun g5 => ?_)
    refine r_iload_n (pc := 100) C 1 rfl rfl dX3_refreshPriorities_100 ?_
    refine r_aald (pc := 101) C (kd := 4) rfl rfl g1 rfl dX3_refreshPriorities_101 (fun g6 => ?_)
    refine r_getI (pc := 102) C FX6_base mw_120 g6 rfl rfl dX3_refreshPriorities_102 ?_
    refine r_max (pc := 105) C mw_527 mw_296 mw_7 mw_297 hRm ⟨Nat.le_of_ble_eq_true rfl, Nat.le_of_ble_eq_true rfl⟩ dX3_refreshPriorities_105 ?_
    refine r_putI (pc := 108) C FX6_priority mw_123 g2 tyX6 tyX6_ok nmX6 (fun _ _ => rfl) rfl dX3_refreshPriorities_108 (fun M7 => ?_)
    refine r_aload_n (pc := 111) C 0 rfl rfl dX3_refreshPriorities_111 ?_
    refine r_iload_n (pc := 112) C 2 rfl rfl dX3_refreshPriorities_112 ?_
    refine r_cVI (pc := 113) C hRm (okX3_blockerOf h0 k v2 M7 g_0) (Rc.of C rfl rfl g_0) mw_523 cvX3_blockerOf rfl ⟨Nat.le_of_ble_eq_true rfl, Nat.le_of_ble_eq_true rfl⟩ rfl (Nat.le_of_ble_eq_true rfl) dX3_refreshPriorities_113 (fun o9 M8 => ?_)
    refine r_istore_n (pc := 116) C [(2, .int o9), (0, .ref (G.1 3 k 0)), (1, .int v1), (3, .int v3)] dX3_refreshPriorities_116 rfl (by decide) rfl ?_
    refine r_iinc (pc := 117) C [(3, .int (v3 + (1 : Int32))), (2, .int o9), (0, .ref (G.1 3 k 0)), (1, .int v1)] dX3_refreshPriorities_117 (p := 3) rfl (ki_1 _) (by decide) rfl ?_
    refine r_goto (pc := 120) C dX3_refreshPriorities_120 (tgt := 70) rfl ?_
    refine r_sub [2, 3, 1, 0] rfl ?_
    exact ih v1 o9 (v3 + (1 : Int32)) M8 g_0
def pX3_refreshPriorities_54 (k : Nat) : Nat → Int32 → Mem → Option (Unit × Mem)
  | 0, _, _ => none
  | n + 1, v1, M =>
    if (M.1 3 k 0 4) ≤ v1 then (chk (decide ((0 : Int32) = 0 ∨ (0 : Int32) = 1)) <| nm (wI M 3 k 0 13 (0 : Int32)) fun M1 => some ((), M1))
    else bnd (pX3_blockerOf k v1 M) fun o3 M2 => pX3_refreshPriorities_70 k (fun v1 M => pX3_refreshPriorities_54 k  n v1 M) fu v1 o3 (0 : Int32) M2
theorem lX3_refreshPriorities_54 {K : KT} {G : WT} {k : Nat} (C : Cx K G "PermitPark$Machine" cX3_refreshPriorities 4 none) (hRm : K.2.2.2.1.frames = 1 ∧ K.2.2.2.1.locals = 22) (h0 : W0 G) : ∀ (n : Nat) (v1 : Int32) (M : Mem), G.2.2.2.1 3 k 0 → Run K G 4 0 0 (FinM K G voV 0 0) 54 [(0, .ref (G.1 3 k 0)), (1, .int v1)] [] M (pX3_refreshPriorities_54 k  n v1 M) := by
  intro n
  induction n with
  | zero =>
    intro v1 M g_0
    exact r_none
  | succ n ih =>
    intro v1 M g_0
    rw [pX3_refreshPriorities_54]
    refine r_iload_n (pc := 54) C 1 rfl rfl dX3_refreshPriorities_54 ?_
    refine r_aload_n (pc := 55) C 0 rfl rfl dX3_refreshPriorities_55 ?_
    refine r_getI (pc := 56) C FX3_threadCount mw_207 g_0 rfl rfl dX3_refreshPriorities_56 ?_
    refine r_icmp_ge (pc := 59) C dX3_refreshPriorities_59 (tgt := 129) rfl ?_ ?_
    refine r_aload_n (pc := 129) C 0 rfl rfl dX3_refreshPriorities_129 ?_
    refine r_iconst (pc := 130) C dX3_refreshPriorities_130 kc_0 ?_
    refine r_putZ (pc := 131) C FX3_arePrioritiesOld mw_219 g_0 tyX3 tyX3_ok nmX3 (fun _ _ => rfl) rfl dX3_refreshPriorities_131 (fun M1 => ?_)
    exact r_vret (pc := 134) C dX3_refreshPriorities_134
    refine r_aload_n (pc := 62) C 0 rfl rfl dX3_refreshPriorities_62 ?_
    refine r_iload_n (pc := 63) C 1 rfl rfl dX3_refreshPriorities_63 ?_
    refine r_cVI (pc := 64) C hRm (okX3_blockerOf h0 k v1 M g_0) (Rc.of C rfl rfl g_0) mw_523 cvX3_blockerOf rfl ⟨Nat.le_of_ble_eq_true rfl, Nat.le_of_ble_eq_true rfl⟩ rfl (Nat.le_of_ble_eq_true rfl) dX3_refreshPriorities_64 (fun o3 M2 => ?_)
    refine r_istore_n (pc := 67) C [(2, .int o3), (0, .ref (G.1 3 k 0)), (1, .int v1)] dX3_refreshPriorities_67 rfl (by decide) rfl ?_
    refine r_iconst (pc := 68) C dX3_refreshPriorities_68 kc_0 ?_
    refine r_istore_n (pc := 69) C [(3, .int (0 : Int32)), (2, .int o3), (0, .ref (G.1 3 k 0)), (1, .int v1)] dX3_refreshPriorities_69 rfl (by decide) rfl ?_
    refine r_sub [2, 3, 1, 0] rfl ?_
    exact lX3_refreshPriorities_70 (k := k) (k54 := (fun v1 M => pX3_refreshPriorities_54 k  n v1 M)) C hRm h0 ih fu v1 o3 (0 : Int32) M2 g_0
def pX3_refreshPriorities_10 (k : Nat) : Nat → Int32 → Mem → Option (Unit × Mem)
  | 0, _, _ => none
  | n + 1, v1, M =>
    if (M.1 3 k 0 4) ≤ v1 then (chk (inB (1 : Int32) 2) <| if ¬ (M.1 15 k 0 (1 : Int32).toNatClampNeg) = (1 : Int32) then (chk (decide ((0 : Int32) = 0 ∨ (0 : Int32) = 1)) <| nm (wI M 3 k 0 13 (0 : Int32)) fun M2 => some ((), M2))
    else pX3_refreshPriorities_54 k  fu (0 : Int32) M)
    else chk (inB v1 10) <| chk (inB v1 10) <| nm (wI M 5 k (v1.toNatClampNeg) 5 (M.1 5 k (v1.toNatClampNeg) 4)) fun M7 => pX3_refreshPriorities_10 k  n (v1 + (1 : Int32)) M7
theorem lX3_refreshPriorities_10 {K : KT} {G : WT} {k : Nat} (C : Cx K G "PermitPark$Machine" cX3_refreshPriorities 4 none) (hRm : K.2.2.2.1.frames = 1 ∧ K.2.2.2.1.locals = 22) (h0 : W0 G) : ∀ (n : Nat) (v1 : Int32) (M : Mem), G.2.2.2.1 3 k 0 → Run K G 4 0 0 (FinM K G voV 0 0) 10 [(0, .ref (G.1 3 k 0)), (1, .int v1)] [] M (pX3_refreshPriorities_10 k  n v1 M) := by
  intro n
  induction n with
  | zero =>
    intro v1 M g_0
    exact r_none
  | succ n ih =>
    intro v1 M g_0
    rw [pX3_refreshPriorities_10]
    refine r_iload_n (pc := 10) C 1 rfl rfl dX3_refreshPriorities_10 ?_
    refine r_aload_n (pc := 11) C 0 rfl rfl dX3_refreshPriorities_11 ?_
    refine r_getI (pc := 12) C FX3_threadCount mw_207 g_0 rfl rfl dX3_refreshPriorities_12 ?_
    refine r_icmp_ge (pc := 15) C dX3_refreshPriorities_15 (tgt := 42) rfl ?_ ?_
    refine r_aload_n (pc := 42) C 0 rfl rfl dX3_refreshPriorities_42 ?_
    refine r_getR (pc := 43) C FX3_settings mw_205 g_0 rfl dX3_refreshPriorities_43 (fun g1 => ?_)
    refine r_iconst (pc := 46) C dX3_refreshPriorities_46 kc_1 ?_
    refine r_iald (pc := 47) C rfl g1 (fun _ => rfl) (fun _ => rfl) dX3_refreshPriorities_47 ?_
    refine r_iconst (pc := 48) C dX3_refreshPriorities_48 kc_1 ?_
    refine r_icmp_ne (pc := 49) C dX3_refreshPriorities_49 (tgt := 129) rfl ?_ ?_
    refine r_aload_n (pc := 129) C 0 rfl rfl dX3_refreshPriorities_129 ?_
    refine r_iconst (pc := 130) C dX3_refreshPriorities_130 kc_0 ?_
    refine r_putZ (pc := 131) C FX3_arePrioritiesOld mw_219 g_0 tyX3 tyX3_ok nmX3 (fun _ _ => rfl) rfl dX3_refreshPriorities_131 (fun M2 => ?_)
    exact r_vret (pc := 134) C dX3_refreshPriorities_134
    refine r_iconst (pc := 52) C dX3_refreshPriorities_52 kc_0 ?_
    refine r_istore_n (pc := 53) C [(1, .int (0 : Int32)), (0, .ref (G.1 3 k 0))] dX3_refreshPriorities_53 rfl (by decide) rfl ?_
    refine r_sub [1, 0] rfl ?_
    exact lX3_refreshPriorities_54 (k := k)  C hRm h0  fu (0 : Int32) M g_0
    refine r_aload_n (pc := 18) C 0 rfl rfl dX3_refreshPriorities_18 ?_
    refine r_getR (pc := 19) C FX3_threads mw_199 g_0 rfl dX3_refreshPriorities_19 (fun g3 => ?_)
    refine r_iload_n (pc := 22) C 1 rfl rfl dX3_refreshPriorities_22 ?_
    refine r_aald (pc := 23) C (kd := 4) rfl rfl g3 rfl dX3_refreshPriorities_23 (fun g4 => ?_)
    refine r_aload_n (pc := 24) C 0 rfl rfl dX3_refreshPriorities_24 ?_
    refine r_getR (pc := 25) C FX3_threads mw_199 g_0 rfl dX3_refreshPriorities_25 (fun g5 => ?_)
    refine r_iload_n (pc := 28) C 1 rfl rfl dX3_refreshPriorities_28 ?_
    refine r_aald (pc := 29) C (kd := 4) rfl rfl g3 rfl dX3_refreshPriorities_29 (fun g6 => ?_)
    refine r_getI (pc := 30) C FX6_base mw_120 g4 rfl rfl dX3_refreshPriorities_30 ?_
    refine r_putI (pc := 33) C FX6_priority mw_123 g4 tyX6 tyX6_ok nmX6 (fun _ _ => rfl) rfl dX3_refreshPriorities_33 (fun M7 => ?_)
    refine r_iinc (pc := 36) C [(1, .int (v1 + (1 : Int32))), (0, .ref (G.1 3 k 0))] dX3_refreshPriorities_36 (p := 1) rfl (ki_1 _) (by decide) rfl ?_
    refine r_goto (pc := 39) C dX3_refreshPriorities_39 (tgt := 10) rfl ?_
    refine r_sub [1, 0] rfl ?_
    exact ih (v1 + (1 : Int32)) M7 g_0
def pX3_refreshPriorities (k : Nat) (M : Mem) : Option (Unit × Mem) :=
    if ¬ (M.1 3 k 0 13) = 0 then (pX3_refreshPriorities_10 k  fu (0 : Int32) M)
    else some ((), M)
theorem lX3_refreshPriorities_0 {K : KT} {G : WT} {k : Nat} (C : Cx K G "PermitPark$Machine" cX3_refreshPriorities 4 none) (hRm : K.2.2.2.1.frames = 1 ∧ K.2.2.2.1.locals = 22) (h0 : W0 G) (M : Mem) (h_0 : G.2.2.2.1 3 k 0) : Run K G 4 0 0 (FinM K G voV 0 0) 0 [(0, .ref (G.1 3 k 0))] [] M (pX3_refreshPriorities k   M) := by
  rw [pX3_refreshPriorities]
  refine r_aload_n (pc := 0) C 0 rfl rfl dX3_refreshPriorities_0 ?_
  refine r_getI (pc := 1) C FX3_arePrioritiesOld mw_219 h_0 rfl rfl dX3_refreshPriorities_1 ?_
  refine r_if_ne (pc := 4) C dX3_refreshPriorities_4 (tgt := 8) rfl ?_ ?_
  refine r_iconst (pc := 8) C dX3_refreshPriorities_8 kc_0 ?_
  refine r_istore_n (pc := 9) C [(1, .int (0 : Int32)), (0, .ref (G.1 3 k 0))] dX3_refreshPriorities_9 rfl (by decide) rfl ?_
  refine r_sub [1, 0] rfl ?_
  exact lX3_refreshPriorities_10 (k := k)  C hRm h0  fu (0 : Int32) M h_0
  exact r_vret (pc := 7) C dX3_refreshPriorities_7
theorem okX3_refreshPriorities {l : Launch} {G : WT} (h0 : W0 G) (k : Nat) (M : Mem) (h_0 : G.2.2.2.1 3 k 0) : Okm l G yX3_refreshPriorities cX3_refreshPriorities 4 none 1 22 [.ref (G.1 3 k 0)] voV M (pX3_refreshPriorities k  M) :=
  Okm.of "PermitPark$Machine" rfl (by decide) (Nat.le_of_ble_eq_true rfl) (L := [(0, .ref (G.1 3 k 0))]) rfl (fun K _ hr C => lX3_refreshPriorities_0 C (by rw [hr]; exact ⟨rfl, rfl⟩) h0  M h_0)
def pX3_noteGreatestPriorities_6 (k : Nat) : Nat → Int32 → Mem → Option (Unit × Mem)
  | 0, _, _ => none
  | n + 1, v1, M =>
    if (M.1 3 k 0 4) ≤ v1 then (some ((), M))
    else chk (inB v1 10) <| nm (wI M 5 k (v1.toNatClampNeg) 6 (if (M.1 5 k (v1.toNatClampNeg) 6) < (M.1 5 k (v1.toNatClampNeg) 5) then (M.1 5 k (v1.toNatClampNeg) 5) else (M.1 5 k (v1.toNatClampNeg) 6))) fun M3 => pX3_noteGreatestPriorities_6 k  n (v1 + (1 : Int32)) M3
theorem lX3_noteGreatestPriorities_6 {K : KT} {G : WT} {k : Nat} (C : Cx K G "PermitPark$Machine" cX3_noteGreatestPriorities 3 none) (hRm : K.2.2.2.1.frames = 2 ∧ K.2.2.2.1.locals = 45) (h0 : W0 G) : ∀ (n : Nat) (v1 : Int32) (M : Mem), G.2.2.2.1 3 k 0 → Run K G 3 0 0 (FinM K G voV 0 0) 6 [(0, .ref (G.1 3 k 0)), (1, .int v1)] [] M (pX3_noteGreatestPriorities_6 k  n v1 M) := by
  intro n
  induction n with
  | zero =>
    intro v1 M g_0
    exact r_none
  | succ n ih =>
    intro v1 M g_0
    rw [pX3_noteGreatestPriorities_6]
    refine r_iload_n (pc := 6) C 1 rfl rfl dX3_noteGreatestPriorities_6 ?_
    refine r_aload_n (pc := 7) C 0 rfl rfl dX3_noteGreatestPriorities_7 ?_
    refine r_getI (pc := 8) C FX3_threadCount mw_207 g_0 rfl rfl dX3_noteGreatestPriorities_8 ?_
    refine r_icmp_ge (pc := 11) C dX3_noteGreatestPriorities_11 (tgt := 42) rfl ?_ ?_
    exact r_vret (pc := 42) C dX3_noteGreatestPriorities_42
    refine r_aload_n (pc := 14) C 0 rfl rfl dX3_noteGreatestPriorities_14 ?_
    refine r_getR (pc := 15) C FX3_threads mw_199 g_0 rfl dX3_noteGreatestPriorities_15 (fun g1 => ?_)
    refine r_iload_n (pc := 18) C 1 rfl rfl dX3_noteGreatestPriorities_18 ?_
    refine r_aald (pc := 19) C (kd := 4) rfl rfl g1 rfl dX3_noteGreatestPriorities_19 (fun g2 => ?_)
    refine r_astore_n (pc := 20) C [(2, .ref (G.1 5 k (v1.toNatClampNeg))), (0, .ref (G.1 3 k 0)), (1, .int v1)] dX3_noteGreatestPriorities_20 rfl (by decide) rfl ?_
    refine r_aload_n (pc := 21) C 0 rfl rfl dX3_noteGreatestPriorities_21 ?_
    refine r_aload_n (pc := 22) C 0 rfl rfl dX3_noteGreatestPriorities_22 ?_
    refine r_getI (pc := 23) C FX6_greatest mw_126 g2 rfl rfl dX3_noteGreatestPriorities_23 ?_
    refine r_aload_n (pc := 26) C 0 rfl rfl dX3_noteGreatestPriorities_26 ?_
    refine r_getI (pc := 27) C FX6_priority mw_123 g2 rfl rfl dX3_noteGreatestPriorities_27 ?_
    refine r_max (pc := 30) C mw_527 mw_296 mw_7 mw_297 hRm ⟨Nat.le_of_ble_eq_true rfl, Nat.le_of_ble_eq_true rfl⟩ dX3_noteGreatestPriorities_30 ?_
    refine r_putI (pc := 33) C FX6_greatest mw_126 g2 tyX6 tyX6_ok nmX6 (fun _ _ => rfl) rfl dX3_noteGreatestPriorities_33 (fun M3 => ?_)
    refine r_iinc (pc := 36) C [(1, .int (v1 + (1 : Int32))), (2, .ref (G.1 5 k (v1.toNatClampNeg))), (0, .ref (G.1 3 k 0))] dX3_noteGreatestPriorities_36 (p := 2) rfl (ki_1 _) (by decide) rfl ?_
    refine r_goto (pc := 39) C dX3_noteGreatestPriorities_39 (tgt := 6) rfl ?_
    refine r_sub [2, 0] rfl ?_
    exact ih (v1 + (1 : Int32)) M3 g_0
def pX3_noteGreatestPriorities (k : Nat) (M : Mem) : Option (Unit × Mem) :=
    bnd (pX3_refreshPriorities k M) fun o2 M1 => pX3_noteGreatestPriorities_6 k  fu (0 : Int32) M1
theorem lX3_noteGreatestPriorities_0 {K : KT} {G : WT} {k : Nat} (C : Cx K G "PermitPark$Machine" cX3_noteGreatestPriorities 3 none) (hRm : K.2.2.2.1.frames = 2 ∧ K.2.2.2.1.locals = 45) (h0 : W0 G) (M : Mem) (h_0 : G.2.2.2.1 3 k 0) : Run K G 3 0 0 (FinM K G voV 0 0) 0 [(0, .ref (G.1 3 k 0))] [] M (pX3_noteGreatestPriorities k   M) := by
  rw [pX3_noteGreatestPriorities]
  refine r_aload_n (pc := 0) C 0 rfl rfl dX3_noteGreatestPriorities_0 ?_
  refine r_cVV (pc := 1) C hRm (okX3_refreshPriorities h0 k M h_0) (Rc.of C rfl rfl h_0) mw_519 cvX3_refreshPriorities rfl ⟨Nat.le_of_ble_eq_true rfl, Nat.le_of_ble_eq_true rfl⟩ rfl (Nat.le_of_ble_eq_true rfl) dX3_noteGreatestPriorities_1 (fun o2 M1 => ?_)
  refine r_iconst (pc := 4) C dX3_noteGreatestPriorities_4 kc_0 ?_
  refine r_istore_n (pc := 5) C [(1, .int (0 : Int32)), (0, .ref (G.1 3 k 0))] dX3_noteGreatestPriorities_5 rfl (by decide) rfl ?_
  refine r_sub [1, 0] rfl ?_
  exact lX3_noteGreatestPriorities_6 (k := k)  C hRm h0  fu (0 : Int32) M1 h_0
theorem okX3_noteGreatestPriorities {l : Launch} {G : WT} (h0 : W0 G) (k : Nat) (M : Mem) (h_0 : G.2.2.2.1 3 k 0) : Okm l G yX3_noteGreatestPriorities cX3_noteGreatestPriorities 3 none 2 45 [.ref (G.1 3 k 0)] voV M (pX3_noteGreatestPriorities k  M) :=
  Okm.of "PermitPark$Machine" rfl (by decide) (Nat.le_of_ble_eq_true rfl) (L := [(0, .ref (G.1 3 k 0))]) rfl (fun K _ hr C => lX3_noteGreatestPriorities_0 C (by rw [hr]; exact ⟨rfl, rfl⟩) h0  M h_0)
def pX3_firstLate_11 (k : Nat) : Nat → Int32 → Int32 → Int32 → Mem → Option (Int32 × Mem)
  | 0, _, _, _, _ => none
  | n + 1, v1, v2, v3, M =>
    if (M.1 3 k 0 4) ≤ v3 then (some (v1, M))
    else chk (inB v3 10) <| if ¬ (M.1 5 k (v3.toNatClampNeg) 7) = (1 : Int32) then (pX3_firstLate_11 k  n v1 v2 (v3 + (1 : Int32)) M)
    else if (M.1 5 k (v3.toNatClampNeg) 13) = (-1 : Int32) then (pX3_firstLate_11 k  n v1 v2 (v3 + (1 : Int32)) M)
    else if v2 ≤ (M.1 5 k (v3.toNatClampNeg) 13) then (pX3_firstLate_11 k  n v1 v2 (v3 + (1 : Int32)) M)
    else nm (M.1 5 k (v3.toNatClampNeg) 13) fun x3 => pX3_firstLate_11 k  n v3 x3 (v3 + (1 : Int32)) M
theorem lX3_firstLate_11 {K : KT} {G : WT} {k : Nat} (C : Cx K G "PermitPark$Machine" cX3_firstLate 5 (some FieldType.int)) (hRm : K.2.2.2.1.frames = 0 ∧ K.2.2.2.1.locals = 0) (h0 : W0 G) : ∀ (n : Nat) (v1 : Int32) (v2 : Int32) (v3 : Int32) (M : Mem), G.2.2.2.1 3 k 0 → Run K G 5 0 0 (FinM K G voI 0 0) 11 [(0, .ref (G.1 3 k 0)), (1, .int v1), (2, .int v2), (3, .int v3)] [] M (pX3_firstLate_11 k  n v1 v2 v3 M) := by
  intro n
  induction n with
  | zero =>
    intro v1 v2 v3 M g_0
    exact r_none
  | succ n ih =>
    intro v1 v2 v3 M g_0
    rw [pX3_firstLate_11]
    refine r_iload_n (pc := 11) C 3 rfl rfl dX3_firstLate_11 ?_
    refine r_aload_n (pc := 12) C 0 rfl rfl dX3_firstLate_12 ?_
    refine r_getI (pc := 13) C FX3_threadCount mw_207 g_0 rfl rfl dX3_firstLate_13 ?_
    refine r_icmp_ge (pc := 16) C dX3_firstLate_16 (tgt := 68) rfl ?_ ?_
    refine r_iload_n (pc := 68) C 1 rfl rfl dX3_firstLate_68 ?_
    exact r_iret (pc := 69) C rfl dX3_firstLate_69
    refine r_aload_n (pc := 19) C 0 rfl rfl dX3_firstLate_19 ?_
    refine r_getR (pc := 20) C FX3_threads mw_199 g_0 rfl dX3_firstLate_20 (fun g1 => ?_)
    refine r_iload_n (pc := 23) C 3 rfl rfl dX3_firstLate_23 ?_
    refine r_aald (pc := 24) C (kd := 4) rfl rfl g1 rfl dX3_firstLate_24 (fun g2 => ?_)
    refine r_astore (pc := 25) C [(4, .ref (G.1 5 k (v3.toNatClampNeg))), (0, .ref (G.1 3 k 0)), (1, .int v1), (2, .int v2), (3, .int v3)] dX3_firstLate_25 (by decide) rfl ?_
    refine r_aload (pc := 27) C 0 rfl dX3_firstLate_27 ?_
    refine r_getI (pc := 29) C FX6_state mw_128 g2 rfl rfl dX3_firstLate_29 ?_
    refine r_iconst (pc := 32) C dX3_firstLate_32 kc_1 ?_
    refine r_icmp_ne (pc := 33) C dX3_firstLate_33 (tgt := 62) rfl ?_ ?_
    refine r_iinc (pc := 62) C [(3, .int (v3 + (1 : Int32))), (4, .ref (G.1 5 k (v3.toNatClampNeg))), (0, .ref (G.1 3 k 0)), (1, .int v1), (2, .int v2)] dX3_firstLate_62 (p := 4) rfl (ki_1 _) (by decide) rfl ?_
    refine r_goto (pc := 65) C dX3_firstLate_65 (tgt := 11) rfl ?_
    refine r_sub [2, 3, 4, 0] rfl ?_
    exact ih v1 v2 (v3 + (1 : Int32)) M g_0
    refine r_aload (pc := 36) C 0 rfl dX3_firstLate_36 ?_
    refine r_getI (pc := 38) C FX6_deadline mw_141 g2 rfl rfl dX3_firstLate_38 ?_
    refine r_iconst (pc := 41) C dX3_firstLate_41 kc_m1 ?_
    refine r_icmp_eq (pc := 42) C dX3_firstLate_42 (tgt := 62) rfl ?_ ?_
    refine r_iinc (pc := 62) C [(3, .int (v3 + (1 : Int32))), (4, .ref (G.1 5 k (v3.toNatClampNeg))), (0, .ref (G.1 3 k 0)), (1, .int v1), (2, .int v2)] dX3_firstLate_62 (p := 4) rfl (ki_1 _) (by decide) rfl ?_
    refine r_goto (pc := 65) C dX3_firstLate_65 (tgt := 11) rfl ?_
    refine r_sub [2, 3, 4, 0] rfl ?_
    exact ih v1 v2 (v3 + (1 : Int32)) M g_0
    refine r_aload (pc := 45) C 0 rfl dX3_firstLate_45 ?_
    refine r_getI (pc := 47) C FX6_deadline mw_141 g2 rfl rfl dX3_firstLate_47 ?_
    refine r_iload_n (pc := 50) C 3 rfl rfl dX3_firstLate_50 ?_
    refine r_icmp_ge (pc := 51) C dX3_firstLate_51 (tgt := 62) rfl ?_ ?_
    refine r_iinc (pc := 62) C [(3, .int (v3 + (1 : Int32))), (4, .ref (G.1 5 k (v3.toNatClampNeg))), (0, .ref (G.1 3 k 0)), (1, .int v1), (2, .int v2)] dX3_firstLate_62 (p := 4) rfl (ki_1 _) (by decide) rfl ?_
    refine r_goto (pc := 65) C dX3_firstLate_65 (tgt := 11) rfl ?_
    refine r_sub [2, 3, 4, 0] rfl ?_
    exact ih v1 v2 (v3 + (1 : Int32)) M g_0
    refine r_iload_n (pc := 54) C 4 rfl rfl dX3_firstLate_54 ?_
    refine r_istore_n (pc := 55) C [(1, .int v3), (4, .ref (G.1 5 k (v3.toNatClampNeg))), (0, .ref (G.1 3 k 0)), (2, .int v2), (3, .int v3)] dX3_firstLate_55 rfl (by decide) rfl ?_
    refine r_aload (pc := 56) C 1 rfl dX3_firstLate_56 ?_
    refine r_getI (pc := 58) C FX6_deadline mw_141 g2 rfl rfl dX3_firstLate_58 ?_
    refine r_nmi (fun x3 => ?_)
    refine r_istore_n (pc := 61) C [(2, .int x3), (1, .int v3), (4, .ref (G.1 5 k (v3.toNatClampNeg))), (0, .ref (G.1 3 k 0)), (3, .int v3)] dX3_firstLate_61 rfl (by decide) rfl ?_
    refine r_iinc (pc := 62) C [(3, .int (v3 + (1 : Int32))), (2, .int x3), (1, .int v3), (4, .ref (G.1 5 k (v3.toNatClampNeg))), (0, .ref (G.1 3 k 0))] dX3_firstLate_62 (p := 4) rfl (ki_1 _) (by decide) rfl ?_
    refine r_goto (pc := 65) C dX3_firstLate_65 (tgt := 11) rfl ?_
    refine r_sub [4, 2, 1, 0] rfl ?_
    exact ih v3 x3 (v3 + (1 : Int32)) M g_0
def pX3_firstLate (k : Nat) (M : Mem) : Option (Int32 × Mem) :=
    nm ((M.1 3 k 0 5) + (1 : Int32)) fun x1 => pX3_firstLate_11 k  fu (-1 : Int32) x1 (0 : Int32) M
theorem lX3_firstLate_0 {K : KT} {G : WT} {k : Nat} (C : Cx K G "PermitPark$Machine" cX3_firstLate 5 (some FieldType.int)) (hRm : K.2.2.2.1.frames = 0 ∧ K.2.2.2.1.locals = 0) (h0 : W0 G) (M : Mem) (h_0 : G.2.2.2.1 3 k 0) : Run K G 5 0 0 (FinM K G voI 0 0) 0 [(0, .ref (G.1 3 k 0))] [] M (pX3_firstLate k   M) := by
  rw [pX3_firstLate]
  refine r_iconst (pc := 0) C dX3_firstLate_0 kc_m1 ?_
  refine r_istore_n (pc := 1) C [(1, .int (-1 : Int32)), (0, .ref (G.1 3 k 0))] dX3_firstLate_1 rfl (by decide) rfl ?_
  refine r_aload_n (pc := 2) C 1 rfl rfl dX3_firstLate_2 ?_
  refine r_getI (pc := 3) C FX3_time mw_209 h_0 rfl rfl dX3_firstLate_3 ?_
  refine r_iconst (pc := 6) C dX3_firstLate_6 kc_1 ?_
  refine r_iadd (pc := 7) C dX3_firstLate_7 ?_
  refine r_nmi (fun x1 => ?_)
  refine r_istore_n (pc := 8) C [(2, .int x1), (1, .int (-1 : Int32)), (0, .ref (G.1 3 k 0))] dX3_firstLate_8 rfl (by decide) rfl ?_
  refine r_iconst (pc := 9) C dX3_firstLate_9 kc_0 ?_
  refine r_istore_n (pc := 10) C [(3, .int (0 : Int32)), (2, .int x1), (1, .int (-1 : Int32)), (0, .ref (G.1 3 k 0))] dX3_firstLate_10 rfl (by decide) rfl ?_
  refine r_sub [3, 2, 1, 0] rfl ?_
  exact lX3_firstLate_11 (k := k)  C hRm h0  fu (-1 : Int32) x1 (0 : Int32) M h_0
theorem okX3_firstLate {l : Launch} {G : WT} (h0 : W0 G) (k : Nat) (M : Mem) (h_0 : G.2.2.2.1 3 k 0) : Okm l G yX3_firstLate cX3_firstLate 5 (some FieldType.int) 0 0 [.ref (G.1 3 k 0)] voI M (pX3_firstLate k  M) :=
  Okm.of "PermitPark$Machine" rfl (by decide) (Nat.le_of_ble_eq_true rfl) (L := [(0, .ref (G.1 3 k 0))]) rfl (fun K _ hr C => lX3_firstLate_0 C (by rw [hr]; exact ⟨rfl, rfl⟩) h0  M h_0)
def pX3_endIfThrough (k : Nat) (v1 : Int32) (M : Mem) : Option (Unit × Mem) :=
    chk (inB v1 10) <| if ¬ (M.1 5 k (v1.toNatClampNeg) 7) = 0 then (some ((), M))
    else if (M.1 5 k (v1.toNatClampNeg) 8) < (M.1 5 k (v1.toNatClampNeg) 3) then (some ((), M))
    else if (10 : Int32) ≤ (M.1 3 k 0 15) then (some ((), M))
    else chk (inB (M.1 3 k 0 15) 10) <| nm (wI M 16 k 0 (M.1 3 k 0 15).toNatClampNeg v1) fun M4 => nm (wI M4 3 k 0 15 ((M4.1 3 k 0 15) + (1 : Int32))) fun M5 => some ((), M5)
theorem lX3_endIfThrough_0 {K : KT} {G : WT} {k : Nat} (C : Cx K G "PermitPark$Machine" cX3_endIfThrough 3 none) (hRm : K.2.2.2.1.frames = 0 ∧ K.2.2.2.1.locals = 0) (h0 : W0 G) (v1 : Int32) (M : Mem) (h_0 : G.2.2.2.1 3 k 0) : Run K G 3 0 0 (FinM K G voV 0 0) 0 [(0, .ref (G.1 3 k 0)), (1, .int v1)] [] M (pX3_endIfThrough k  v1 M) := by
  rw [pX3_endIfThrough]
  refine r_aload_n (pc := 0) C 0 rfl rfl dX3_endIfThrough_0 ?_
  refine r_getR (pc := 1) C FX3_threads mw_199 h_0 rfl dX3_endIfThrough_1 (fun g1 => ?_)
  refine r_iload_n (pc := 4) C 1 rfl rfl dX3_endIfThrough_4 ?_
  refine r_aald (pc := 5) C (kd := 4) rfl rfl g1 rfl dX3_endIfThrough_5 (fun g2 => ?_)
  refine r_astore_n (pc := 6) C [(2, .ref (G.1 5 k (v1.toNatClampNeg))), (0, .ref (G.1 3 k 0)), (1, .int v1)] dX3_endIfThrough_6 rfl (by decide) rfl ?_
  refine r_aload_n (pc := 7) C 0 rfl rfl dX3_endIfThrough_7 ?_
  refine r_getI (pc := 8) C FX6_state mw_128 g2 rfl rfl dX3_endIfThrough_8 ?_
  refine r_if_ne (pc := 11) C dX3_endIfThrough_11 (tgt := 54) rfl ?_ ?_
  exact r_vret (pc := 54) C dX3_endIfThrough_54
  refine r_aload_n (pc := 14) C 0 rfl rfl dX3_endIfThrough_14 ?_
  refine r_getI (pc := 15) C FX6_place mw_131 g2 rfl rfl dX3_endIfThrough_15 ?_
  refine r_aload_n (pc := 18) C 0 rfl rfl dX3_endIfThrough_18 ?_
  refine r_getI (pc := 19) C FX6_length mw_118 g2 rfl rfl dX3_endIfThrough_19 ?_
  refine r_icmp_lt (pc := 22) C dX3_endIfThrough_22 (tgt := 54) rfl ?_ ?_
  exact r_vret (pc := 54) C dX3_endIfThrough_54
  refine r_aload_n (pc := 25) C 1 rfl rfl dX3_endIfThrough_25 ?_
  refine r_getI (pc := 26) C FX3_endingCount mw_221 h_0 rfl rfl dX3_endIfThrough_26 ?_
  refine r_bipush (pc := 29) C dX3_endIfThrough_29 kb_10 ?_
  refine r_icmp_ge (pc := 31) C dX3_endIfThrough_31 (tgt := 54) rfl ?_ ?_
  exact r_vret (pc := 54) C dX3_endIfThrough_54
  refine r_aload_n (pc := 34) C 1 rfl rfl dX3_endIfThrough_34 ?_
  refine r_getR (pc := 35) C FX3_ending mw_220 h_0 rfl dX3_endIfThrough_35 (fun g3 => ?_)
  refine r_aload_n (pc := 38) C 1 rfl rfl dX3_endIfThrough_38 ?_
  refine r_getI (pc := 39) C FX3_endingCount mw_221 h_0 rfl rfl dX3_endIfThrough_39 ?_
  refine r_iload_n (pc := 42) C 2 rfl rfl dX3_endIfThrough_42 ?_
  refine r_iast (pc := 43) C rfl g3 (fun _ => rfl) (fun _ => rfl) dX3_endIfThrough_43 (fun M4 => ?_)
  refine r_aload_n (pc := 44) C 1 rfl rfl dX3_endIfThrough_44 ?_
  refine r_dup (pc := 45) C dX3_endIfThrough_45 rfl ?_
  refine r_getI (pc := 46) C FX3_endingCount mw_221 h_0 rfl rfl dX3_endIfThrough_46 ?_
  refine r_iconst (pc := 49) C dX3_endIfThrough_49 kc_1 ?_
  refine r_iadd (pc := 50) C dX3_endIfThrough_50 ?_
  refine r_putI (pc := 51) C FX3_endingCount mw_221 h_0 tyX3 tyX3_ok nmX3 (fun _ _ => rfl) rfl dX3_endIfThrough_51 (fun M5 => ?_)
  exact r_vret (pc := 54) C dX3_endIfThrough_54
theorem okX3_endIfThrough {l : Launch} {G : WT} (h0 : W0 G) (k : Nat) (v1 : Int32) (M : Mem) (h_0 : G.2.2.2.1 3 k 0) : Okm l G yX3_endIfThrough cX3_endIfThrough 3 none 0 0 [.ref (G.1 3 k 0), .int v1] voV M (pX3_endIfThrough k v1 M) :=
  Okm.of "PermitPark$Machine" rfl (by decide) (Nat.le_of_ble_eq_true rfl) (L := [(0, .ref (G.1 3 k 0)), (1, .int v1)]) rfl (fun K _ hr C => lX3_endIfThrough_0 C (by rw [hr]; exact ⟨rfl, rfl⟩) h0 v1 M h_0)
def pX3_comeBack (k : Nat) (v1 : Int32) (v2 : Int32) (M : Mem) : Option (Unit × Mem) :=
    chk (inB v1 10) <| nm (wI M 5 k (v1.toNatClampNeg) 7 (0 : Int32)) fun M3 => nm (wI M3 5 k (v1.toNatClampNeg) 13 (-1 : Int32)) fun M4 => nm (wI M4 5 k (v1.toNatClampNeg) 12 v2) fun M5 => chk (inB v2 5) <| chk (inB v2 5) <| nm (wI M5 8 k (v1.toNatClampNeg) v2.toNatClampNeg ((M5.1 8 k (v1.toNatClampNeg) v2.toNatClampNeg) + (1 : Int32))) fun M7 => bnd (pX2_add k (M7.1 3 k 0 5) (1 : Int32) v1 v2 M7) fun o10 M9 => bnd (pX3_endIfThrough k v1 M9) fun o12 M11 => some ((), M11)
theorem lX3_comeBack_0 {K : KT} {G : WT} {k : Nat} (C : Cx K G "PermitPark$Machine" cX3_comeBack 4 none) (hRm : K.2.2.2.1.frames = 1 ∧ K.2.2.2.1.locals = 25) (h0 : W0 G) (v1 : Int32) (v2 : Int32) (M : Mem) (h_0 : G.2.2.2.1 3 k 0) : Run K G 4 0 0 (FinM K G voV 0 0) 0 [(0, .ref (G.1 3 k 0)), (1, .int v1), (2, .int v2)] [] M (pX3_comeBack k  v1 v2 M) := by
  rw [pX3_comeBack]
  refine r_aload_n (pc := 0) C 0 rfl rfl dX3_comeBack_0 ?_
  refine r_getR (pc := 1) C FX3_threads mw_199 h_0 rfl dX3_comeBack_1 (fun g1 => ?_)
  refine r_iload_n (pc := 4) C 1 rfl rfl dX3_comeBack_4 ?_
  refine r_aald (pc := 5) C (kd := 4) rfl rfl g1 rfl dX3_comeBack_5 (fun g2 => ?_)
  refine r_astore_n (pc := 6) C [(3, .ref (G.1 5 k (v1.toNatClampNeg))), (0, .ref (G.1 3 k 0)), (1, .int v1), (2, .int v2)] dX3_comeBack_6 rfl (by decide) rfl ?_
  refine r_aload_n (pc := 7) C 0 rfl rfl dX3_comeBack_7 ?_
  refine r_iconst (pc := 8) C dX3_comeBack_8 kc_0 ?_
  refine r_putI (pc := 9) C FX6_state mw_128 g2 tyX6 tyX6_ok nmX6 (fun _ _ => rfl) rfl dX3_comeBack_9 (fun M3 => ?_)
  refine r_aload_n (pc := 12) C 0 rfl rfl dX3_comeBack_12 ?_
  refine r_iconst (pc := 13) C dX3_comeBack_13 kc_m1 ?_
  refine r_putI (pc := 14) C FX6_deadline mw_141 g2 tyX6 tyX6_ok nmX6 (fun _ _ => rfl) rfl dX3_comeBack_14 (fun M4 => ?_)
  refine r_aload_n (pc := 17) C 0 rfl rfl dX3_comeBack_17 ?_
  refine r_iload_n (pc := 18) C 3 rfl rfl dX3_comeBack_18 ?_
  refine r_putI (pc := 19) C FX6_cause mw_139 g2 tyX6 tyX6_ok nmX6 (fun _ _ => rfl) rfl dX3_comeBack_19 (fun M5 => ?_)
  refine r_aload_n (pc := 22) C 0 rfl rfl dX3_comeBack_22 ?_
  refine r_getR (pc := 23) C FX6_returns mw_115 g2 rfl dX3_comeBack_23 (fun g6 => ?_)
  refine r_iload_n (pc := 26) C 3 rfl rfl dX3_comeBack_26 ?_
  refine r_dup2_11 (pc := 27) C dX3_comeBack_27 rfl rfl ?_
  refine r_iald (pc := 28) C rfl g6 (fun _ => rfl) (fun _ => rfl) dX3_comeBack_28 ?_
  refine r_iconst (pc := 29) C dX3_comeBack_29 kc_1 ?_
  refine r_iadd (pc := 30) C dX3_comeBack_30 ?_
  refine r_iast (pc := 31) C rfl g6 (fun _ => rfl) (fun _ => rfl) dX3_comeBack_31 (fun M7 => ?_)
  refine r_aload_n (pc := 32) C 1 rfl rfl dX3_comeBack_32 ?_
  refine r_getR (pc := 33) C FX3_log mw_203 h_0 rfl dX3_comeBack_33 (fun g8 => ?_)
  refine r_aload_n (pc := 36) C 1 rfl rfl dX3_comeBack_36 ?_
  refine r_getI (pc := 37) C FX3_time mw_209 h_0 rfl rfl dX3_comeBack_37 ?_
  refine r_iconst (pc := 40) C dX3_comeBack_40 kc_1 ?_
  refine r_iload_n (pc := 41) C 2 rfl rfl dX3_comeBack_41 ?_
  refine r_iload_n (pc := 42) C 3 rfl rfl dX3_comeBack_42 ?_
  refine r_cVV (pc := 43) C hRm (okX2_add h0 k (M7.1 3 k 0 5) (1 : Int32) v1 v2 M7 g8) (Rc.of C rfl rfl g8) mw_536 cvX2_add rfl ⟨Nat.le_of_ble_eq_true rfl, Nat.le_of_ble_eq_true rfl⟩ rfl (Nat.le_of_ble_eq_true rfl) dX3_comeBack_43 (fun o10 M9 => ?_)
  refine r_aload_n (pc := 46) C 1 rfl rfl dX3_comeBack_46 ?_
  refine r_iload_n (pc := 47) C 2 rfl rfl dX3_comeBack_47 ?_
  refine r_cVV (pc := 48) C hRm (okX3_endIfThrough h0 k v1 M9 h_0) (Rc.of C rfl rfl h_0) mw_540 cvX3_endIfThrough rfl ⟨Nat.le_of_ble_eq_true rfl, Nat.le_of_ble_eq_true rfl⟩ rfl (Nat.le_of_ble_eq_true rfl) dX3_comeBack_48 (fun o12 M11 => ?_)
  exact r_vret (pc := 51) C dX3_comeBack_51
theorem okX3_comeBack {l : Launch} {G : WT} (h0 : W0 G) (k : Nat) (v1 : Int32) (v2 : Int32) (M : Mem) (h_0 : G.2.2.2.1 3 k 0) : Okm l G yX3_comeBack cX3_comeBack 4 none 1 25 [.ref (G.1 3 k 0), .int v1, .int v2] voV M (pX3_comeBack k v1 v2 M) :=
  Okm.of "PermitPark$Machine" rfl (by decide) (Nat.le_of_ble_eq_true rfl) (L := [(0, .ref (G.1 3 k 0)), (1, .int v1), (2, .int v2)]) rfl (fun K _ hr C => lX3_comeBack_0 C (by rw [hr]; exact ⟨rfl, rfl⟩) h0 v1 v2 M h_0)
def pX3_firstWaiter_12 (k : Nat) : Nat → Int32 → Int32 → Int32 → Mem → Option (Int32 × Mem)
  | 0, _, _, _, _ => none
  | n + 1, v1, v2, v3, M =>
    if (10 : Int32) ≤ v3 then (some (v2, M))
    else bnd (pX1_waiter k v1 v3 M) fun o3 M2 => if o3 = (-1 : Int32) then (pX3_firstWaiter_12 k  n v1 v2 (v3 + (1 : Int32)) M2)
    else if v2 = (-1 : Int32) then (pX3_firstWaiter_12 k  n v1 v2 (v3 + (1 : Int32)) M2)
    else chk (inB o3 10) <| chk (inB v2 10) <| if (M2.1 5 k (o3.toNatClampNeg) 5) ≤ (M2.1 5 k (v2.toNatClampNeg) 5) then (pX3_firstWaiter_12 k  n v1 v2 (v3 + (1 : Int32)) M2)
    else pX3_firstWaiter_12 k  n v1 o3 (v3 + (1 : Int32)) M2
theorem lX3_firstWaiter_12 {K : KT} {G : WT} {k : Nat} (C : Cx K G "PermitPark$Machine" cX3_firstWaiter 5 (some FieldType.int)) (hRm : K.2.2.2.1.frames = 1 ∧ K.2.2.2.1.locals = 22) (h0 : W0 G) : ∀ (n : Nat) (v1 : Int32) (v2 : Int32) (v3 : Int32) (M : Mem), G.2.2.2.1 3 k 0 → Run K G 5 0 0 (FinM K G voI 0 0) 12 [(0, .ref (G.1 3 k 0)), (1, .int v1), (2, .int v2), (3, .int v3)] [] M (pX3_firstWaiter_12 k  n v1 v2 v3 M) := by
  intro n
  induction n with
  | zero =>
    intro v1 v2 v3 M g_0
    exact r_none
  | succ n ih =>
    intro v1 v2 v3 M g_0
    rw [pX3_firstWaiter_12]
    refine r_iload_n (pc := 12) C 3 rfl rfl dX3_firstWaiter_12 ?_
    refine r_bipush (pc := 13) C dX3_firstWaiter_13 kb_10 ?_
    refine r_icmp_ge (pc := 15) C dX3_firstWaiter_15 (tgt := 71) rfl ?_ ?_
    refine r_iload_n (pc := 71) C 2 rfl rfl dX3_firstWaiter_71 ?_
    exact r_iret (pc := 72) C rfl dX3_firstWaiter_72
    refine r_aload_n (pc := 18) C 0 rfl rfl dX3_firstWaiter_18 ?_
    refine r_getR (pc := 19) C FX3_locks mw_201 g_0 rfl dX3_firstWaiter_19 (fun g1 => ?_)
    refine r_iload_n (pc := 22) C 1 rfl rfl dX3_firstWaiter_22 ?_
    refine r_iload_n (pc := 23) C 3 rfl rfl dX3_firstWaiter_23 ?_
    refine r_cVI (pc := 24) C hRm (okX1_waiter h0 k v1 v3 M g1) (Rc.of C rfl rfl g1) mw_560 cvX1_waiter rfl ⟨Nat.le_of_ble_eq_true rfl, Nat.le_of_ble_eq_true rfl⟩ rfl (Nat.le_of_ble_eq_true rfl) dX3_firstWaiter_24 (fun o3 M2 => ?_)
    refine r_istore (pc := 27) C [(4, .int o3), (0, .ref (G.1 3 k 0)), (1, .int v1), (2, .int v2), (3, .int v3)] dX3_firstWaiter_27 (by decide) rfl ?_
    refine r_iload (pc := 29) C 0 rfl dX3_firstWaiter_29 ?_
    refine r_iconst (pc := 31) C dX3_firstWaiter_31 kc_m1 ?_
    refine r_icmp_eq (pc := 32) C dX3_firstWaiter_32 (tgt := 65) rfl ?_ ?_
    refine r_iinc (pc := 65) C [(3, .int (v3 + (1 : Int32))), (4, .int o3), (0, .ref (G.1 3 k 0)), (1, .int v1), (2, .int v2)] dX3_firstWaiter_65 (p := 4) rfl (ki_1 _) (by decide) rfl ?_
    refine r_goto (pc := 68) C dX3_firstWaiter_68 (tgt := 12) rfl ?_
    refine r_sub [2, 3, 4, 0] rfl ?_
    exact ih v1 v2 (v3 + (1 : Int32)) M2 g_0
    refine r_iload_n (pc := 35) C 3 rfl rfl dX3_firstWaiter_35 ?_
    refine r_iconst (pc := 36) C dX3_firstWaiter_36 kc_m1 ?_
    refine r_icmp_eq (pc := 37) C dX3_firstWaiter_37 (tgt := 65) rfl ?_ ?_
    refine r_iinc (pc := 65) C [(3, .int (v3 + (1 : Int32))), (4, .int o3), (0, .ref (G.1 3 k 0)), (1, .int v1), (2, .int v2)] dX3_firstWaiter_65 (p := 4) rfl (ki_1 _) (by decide) rfl ?_
    refine r_goto (pc := 68) C dX3_firstWaiter_68 (tgt := 12) rfl ?_
    refine r_sub [2, 3, 4, 0] rfl ?_
    exact ih v1 v2 (v3 + (1 : Int32)) M2 g_0
    refine r_aload_n (pc := 40) C 1 rfl rfl dX3_firstWaiter_40 ?_
    refine r_getR (pc := 41) C FX3_threads mw_199 g_0 rfl dX3_firstWaiter_41 (fun g4 => ?_)
    refine r_iload (pc := 44) C 0 rfl dX3_firstWaiter_44 ?_
    refine r_aald (pc := 46) C (kd := 4) rfl rfl g4 rfl dX3_firstWaiter_46 (fun g5 => ?_)
    refine r_getI (pc := 47) C FX6_priority mw_123 g5 rfl rfl dX3_firstWaiter_47 ?_
    refine r_aload_n (pc := 50) C 1 rfl rfl dX3_firstWaiter_50 ?_
    refine r_getR (pc := 51) C FX3_threads mw_199 g_0 rfl dX3_firstWaiter_51 (fun g6 => ?_)
    refine r_iload_n (pc := 54) C 3 rfl rfl dX3_firstWaiter_54 ?_
    refine r_aald (pc := 55) C (kd := 4) rfl rfl g4 rfl dX3_firstWaiter_55 (fun g7 => ?_)
    refine r_getI (pc := 56) C FX6_priority mw_123 g7 rfl rfl dX3_firstWaiter_56 ?_
    refine r_icmp_le (pc := 59) C dX3_firstWaiter_59 (tgt := 65) rfl ?_ ?_
    refine r_iinc (pc := 65) C [(3, .int (v3 + (1 : Int32))), (4, .int o3), (0, .ref (G.1 3 k 0)), (1, .int v1), (2, .int v2)] dX3_firstWaiter_65 (p := 4) rfl (ki_1 _) (by decide) rfl ?_
    refine r_goto (pc := 68) C dX3_firstWaiter_68 (tgt := 12) rfl ?_
    refine r_sub [2, 3, 4, 0] rfl ?_
    exact ih v1 v2 (v3 + (1 : Int32)) M2 g_0
    refine r_iload (pc := 62) C 0 rfl dX3_firstWaiter_62 ?_
    refine r_istore_n (pc := 64) C [(2, .int o3), (4, .int o3), (0, .ref (G.1 3 k 0)), (1, .int v1), (3, .int v3)] dX3_firstWaiter_64 rfl (by decide) rfl ?_
    refine r_iinc (pc := 65) C [(3, .int (v3 + (1 : Int32))), (2, .int o3), (4, .int o3), (0, .ref (G.1 3 k 0)), (1, .int v1)] dX3_firstWaiter_65 (p := 4) rfl (ki_1 _) (by decide) rfl ?_
    refine r_goto (pc := 68) C dX3_firstWaiter_68 (tgt := 12) rfl ?_
    refine r_sub [3, 4, 1, 0] rfl ?_
    exact ih v1 o3 (v3 + (1 : Int32)) M2 g_0
def pX3_firstWaiter (k : Nat) (v1 : Int32) (M : Mem) : Option (Int32 × Mem) :=
    bnd (pX1_waiter k v1 (0 : Int32) M) fun o3 M2 => pX3_firstWaiter_12 k  fu v1 o3 (1 : Int32) M2
theorem lX3_firstWaiter_0 {K : KT} {G : WT} {k : Nat} (C : Cx K G "PermitPark$Machine" cX3_firstWaiter 5 (some FieldType.int)) (hRm : K.2.2.2.1.frames = 1 ∧ K.2.2.2.1.locals = 22) (h0 : W0 G) (v1 : Int32) (M : Mem) (h_0 : G.2.2.2.1 3 k 0) : Run K G 5 0 0 (FinM K G voI 0 0) 0 [(0, .ref (G.1 3 k 0)), (1, .int v1)] [] M (pX3_firstWaiter k  v1 M) := by
  rw [pX3_firstWaiter]
  refine r_aload_n (pc := 0) C 0 rfl rfl dX3_firstWaiter_0 ?_
  refine r_getR (pc := 1) C FX3_locks mw_201 h_0 rfl dX3_firstWaiter_1 (fun g1 => ?_)
  refine r_iload_n (pc := 4) C 1 rfl rfl dX3_firstWaiter_4 ?_
  refine r_iconst (pc := 5) C dX3_firstWaiter_5 kc_0 ?_
  refine r_cVI (pc := 6) C hRm (okX1_waiter h0 k v1 (0 : Int32) M g1) (Rc.of C rfl rfl g1) mw_560 cvX1_waiter rfl ⟨Nat.le_of_ble_eq_true rfl, Nat.le_of_ble_eq_true rfl⟩ rfl (Nat.le_of_ble_eq_true rfl) dX3_firstWaiter_6 (fun o3 M2 => ?_)
  refine r_istore_n (pc := 9) C [(2, .int o3), (0, .ref (G.1 3 k 0)), (1, .int v1)] dX3_firstWaiter_9 rfl (by decide) rfl ?_
  refine r_iconst (pc := 10) C dX3_firstWaiter_10 kc_1 ?_
  refine r_istore_n (pc := 11) C [(3, .int (1 : Int32)), (2, .int o3), (0, .ref (G.1 3 k 0)), (1, .int v1)] dX3_firstWaiter_11 rfl (by decide) rfl ?_
  refine r_sub [2, 3, 1, 0] rfl ?_
  exact lX3_firstWaiter_12 (k := k)  C hRm h0  fu v1 o3 (1 : Int32) M2 h_0
theorem okX3_firstWaiter {l : Launch} {G : WT} (h0 : W0 G) (k : Nat) (v1 : Int32) (M : Mem) (h_0 : G.2.2.2.1 3 k 0) : Okm l G yX3_firstWaiter cX3_firstWaiter 5 (some FieldType.int) 1 22 [.ref (G.1 3 k 0), .int v1] voI M (pX3_firstWaiter k v1 M) :=
  Okm.of "PermitPark$Machine" rfl (by decide) (Nat.le_of_ble_eq_true rfl) (L := [(0, .ref (G.1 3 k 0)), (1, .int v1)]) rfl (fun K _ hr C => lX3_firstWaiter_0 C (by rw [hr]; exact ⟨rfl, rfl⟩) h0 v1 M h_0)
def pX3_advance (k : Nat) (v1 : Int32) (M : Mem) : Option (Unit × Mem) :=
    chk (inB v1 10) <| nm (wI M 5 k (v1.toNatClampNeg) 8 ((M.1 5 k (v1.toNatClampNeg) 8) + (1 : Int32))) fun M3 => chk (inB v1 10) <| nm (wI M3 5 k (v1.toNatClampNeg) 9 (0 : Int32)) fun M6 => bnd (pX3_endIfThrough k v1 M6) fun o8 M7 => some ((), M7)
theorem lX3_advance_0 {K : KT} {G : WT} {k : Nat} (C : Cx K G "PermitPark$Machine" cX3_advance 2 none) (hRm : K.2.2.2.1.frames = 1 ∧ K.2.2.2.1.locals = 22) (h0 : W0 G) (v1 : Int32) (M : Mem) (h_0 : G.2.2.2.1 3 k 0) : Run K G 2 0 0 (FinM K G voV 0 0) 0 [(0, .ref (G.1 3 k 0)), (1, .int v1)] [] M (pX3_advance k  v1 M) := by
  rw [pX3_advance]
  refine r_aload_n (pc := 0) C 0 rfl rfl dX3_advance_0 ?_
  refine r_getR (pc := 1) C FX3_threads mw_199 h_0 rfl dX3_advance_1 (fun g1 => ?_)
  refine r_iload_n (pc := 4) C 1 rfl rfl dX3_advance_4 ?_
  refine r_aald (pc := 5) C (kd := 4) rfl rfl g1 rfl dX3_advance_5 (fun g2 => ?_)
  refine r_dup (pc := 6) C dX3_advance_6 rfl ?_
  refine r_getI (pc := 7) C FX6_place mw_131 g2 rfl rfl dX3_advance_7 ?_
  refine r_iconst (pc := 10) C dX3_advance_10 kc_1 ?_
  refine r_iadd (pc := 11) C dX3_advance_11 ?_
  refine r_putI (pc := 12) C FX6_place mw_131 g2 tyX6 tyX6_ok nmX6 (fun _ _ => rfl) rfl dX3_advance_12 (fun M3 => ?_)
  refine r_aload_n (pc := 15) C 0 rfl rfl dX3_advance_15 ?_
  refine r_getR (pc := 16) C FX3_threads mw_199 h_0 rfl dX3_advance_16 (fun g4 => ?_)
  refine r_iload_n (pc := 19) C 1 rfl rfl dX3_advance_19 ?_
  refine r_aald (pc := 20) C (kd := 4) rfl rfl g1 rfl dX3_advance_20 (fun g5 => ?_)
  refine r_iconst (pc := 21) C dX3_advance_21 kc_0 ?_
  refine r_putI (pc := 22) C FX6_worked mw_133 g2 tyX6 tyX6_ok nmX6 (fun _ _ => rfl) rfl dX3_advance_22 (fun M6 => ?_)
  refine r_aload_n (pc := 25) C 0 rfl rfl dX3_advance_25 ?_
  refine r_iload_n (pc := 26) C 1 rfl rfl dX3_advance_26 ?_
  refine r_cVV (pc := 27) C hRm (okX3_endIfThrough h0 k v1 M6 h_0) (Rc.of C rfl rfl h_0) mw_540 cvX3_endIfThrough rfl ⟨Nat.le_of_ble_eq_true rfl, Nat.le_of_ble_eq_true rfl⟩ rfl (Nat.le_of_ble_eq_true rfl) dX3_advance_27 (fun o8 M7 => ?_)
  exact r_vret (pc := 30) C dX3_advance_30
theorem okX3_advance {l : Launch} {G : WT} (h0 : W0 G) (k : Nat) (v1 : Int32) (M : Mem) (h_0 : G.2.2.2.1 3 k 0) : Okm l G yX3_advance cX3_advance 2 none 1 22 [.ref (G.1 3 k 0), .int v1] voV M (pX3_advance k v1 M) :=
  Okm.of "PermitPark$Machine" rfl (by decide) (Nat.le_of_ble_eq_true rfl) (L := [(0, .ref (G.1 3 k 0)), (1, .int v1)]) rfl (fun K _ hr C => lX3_advance_0 C (by rw [hr]; exact ⟨rfl, rfl⟩) h0 v1 M h_0)
def pX3_giveUp (k : Nat) (v1 : Int32) (M : Mem) : Option (Unit × Mem) :=
    bnd (pX3_refreshPriorities k M) fun o2 M1 => bnd (pX3_firstWaiter k v1 M1) fun o4 M3 => chk (inB v1 6) <| bnd (pX2_add k (M3.1 3 k 0 5) (4 : Int32) (M3.1 10 k 0 v1.toNatClampNeg) v1 M3) fun o9 M8 => chk (inB v1 6) <| nm (wI M8 10 k 0 v1.toNatClampNeg o4) fun M12 => if ¬ o4 = (-1 : Int32) then (bnd (pX1_removeWaiter k v1 o4 M12) fun o15 M14 => chk (inB o4 10) <| nm (wI M14 5 k (o4.toNatClampNeg) 7 (0 : Int32)) fun M18 => chk (inB o4 10) <| nm (wI M18 5 k (o4.toNatClampNeg) 14 (-1 : Int32)) fun M21 => chk (decide ((1 : Int32) = 0 ∨ (1 : Int32) = 1)) <| nm (wI M21 3 k 0 13 (1 : Int32)) fun M22 => bnd (pX2_add k (M22.1 3 k 0 5) (3 : Int32) o4 v1 M22) fun o25 M24 => bnd (pX3_advance k o4 M24) fun o27 M26 => some ((), M26))
    else some ((), M12)
theorem lX3_giveUp_0 {K : KT} {G : WT} {k : Nat} (C : Cx K G "PermitPark$Machine" cX3_giveUp 3 none) (hRm : K.2.2.2.1.frames = 2 ∧ K.2.2.2.1.locals = 46) (h0 : W0 G) (v1 : Int32) (M : Mem) (h_0 : G.2.2.2.1 3 k 0) : Run K G 3 0 0 (FinM K G voV 0 0) 0 [(0, .ref (G.1 3 k 0)), (1, .int v1)] [] M (pX3_giveUp k  v1 M) := by
  rw [pX3_giveUp]
  refine r_aload_n (pc := 0) C 0 rfl rfl dX3_giveUp_0 ?_
  refine r_cVV (pc := 1) C hRm (okX3_refreshPriorities h0 k M h_0) (Rc.of C rfl rfl h_0) mw_519 cvX3_refreshPriorities rfl ⟨Nat.le_of_ble_eq_true rfl, Nat.le_of_ble_eq_true rfl⟩ rfl (Nat.le_of_ble_eq_true rfl) dX3_giveUp_1 (fun o2 M1 => ?_)
  refine r_aload_n (pc := 4) C 0 rfl rfl dX3_giveUp_4 ?_
  refine r_iload_n (pc := 5) C 1 rfl rfl dX3_giveUp_5 ?_
  refine r_cVI (pc := 6) C hRm (okX3_firstWaiter h0 k v1 M1 h_0) (Rc.of C rfl rfl h_0) mw_556 cvX3_firstWaiter rfl ⟨Nat.le_of_ble_eq_true rfl, Nat.le_of_ble_eq_true rfl⟩ rfl (Nat.le_of_ble_eq_true rfl) dX3_giveUp_6 (fun o4 M3 => ?_)
  refine r_istore_n (pc := 9) C [(2, .int o4), (0, .ref (G.1 3 k 0)), (1, .int v1)] dX3_giveUp_9 rfl (by decide) rfl ?_
  refine r_aload_n (pc := 10) C 1 rfl rfl dX3_giveUp_10 ?_
  refine r_getR (pc := 11) C FX3_log mw_203 h_0 rfl dX3_giveUp_11 (fun g5 => ?_)
  refine r_aload_n (pc := 14) C 1 rfl rfl dX3_giveUp_14 ?_
  refine r_getI (pc := 15) C FX3_time mw_209 h_0 rfl rfl dX3_giveUp_15 ?_
  refine r_iconst (pc := 18) C dX3_giveUp_18 kc_4 ?_
  refine r_aload_n (pc := 19) C 1 rfl rfl dX3_giveUp_19 ?_
  refine r_getR (pc := 20) C FX3_locks mw_201 h_0 rfl dX3_giveUp_20 (fun g6 => ?_)
  refine r_getR (pc := 23) C FX1_holders mw_71 g6 rfl dX3_giveUp_23 (fun g7 => ?_)
  refine r_iload_n (pc := 26) C 2 rfl rfl dX3_giveUp_26 ?_
  refine r_iald (pc := 27) C rfl g7 (fun _ => rfl) (fun _ => rfl) dX3_giveUp_27 ?_
  refine r_iload_n (pc := 28) C 2 rfl rfl dX3_giveUp_28 ?_
  refine r_cVV (pc := 29) C hRm (okX2_add h0 k (M3.1 3 k 0 5) (4 : Int32) (M3.1 10 k 0 v1.toNatClampNeg) v1 M3 g5) (Rc.of C rfl rfl g5) mw_536 cvX2_add rfl ⟨Nat.le_of_ble_eq_true rfl, Nat.le_of_ble_eq_true rfl⟩ rfl (Nat.le_of_ble_eq_true rfl) dX3_giveUp_29 (fun o9 M8 => ?_)
  refine r_aload_n (pc := 32) C 1 rfl rfl dX3_giveUp_32 ?_
  refine r_getR (pc := 33) C FX3_locks mw_201 h_0 rfl dX3_giveUp_33 (fun g10 => ?_)
  refine r_getR (pc := 36) C FX1_holders mw_71 g6 rfl dX3_giveUp_36 (fun g11 => ?_)
  refine r_iload_n (pc := 39) C 2 rfl rfl dX3_giveUp_39 ?_
  refine r_iload_n (pc := 40) C 0 rfl rfl dX3_giveUp_40 ?_
  refine r_iast (pc := 41) C rfl g7 (fun _ => rfl) (fun _ => rfl) dX3_giveUp_41 (fun M12 => ?_)
  refine r_iload_n (pc := 42) C 0 rfl rfl dX3_giveUp_42 ?_
  refine r_iconst (pc := 43) C dX3_giveUp_43 kc_m1 ?_
  refine r_icmp_ne (pc := 44) C dX3_giveUp_44 (tgt := 48) rfl ?_ ?_
  refine r_aload_n (pc := 48) C 1 rfl rfl dX3_giveUp_48 ?_
  refine r_getR (pc := 49) C FX3_locks mw_201 h_0 rfl dX3_giveUp_49 (fun g13 => ?_)
  refine r_iload_n (pc := 52) C 2 rfl rfl dX3_giveUp_52 ?_
  refine r_iload_n (pc := 53) C 0 rfl rfl dX3_giveUp_53 ?_
  refine r_cVV (pc := 54) C hRm (okX1_removeWaiter h0 k v1 o4 M12 g6) (Rc.of C rfl rfl g6) mw_564 cvX1_removeWaiter rfl ⟨Nat.le_of_ble_eq_true rfl, Nat.le_of_ble_eq_true rfl⟩ rfl (Nat.le_of_ble_eq_true rfl) dX3_giveUp_54 (fun o15 M14 => ?_)
  refine r_aload_n (pc := 57) C 1 rfl rfl dX3_giveUp_57 ?_
  refine r_getR (pc := 58) C FX3_threads mw_199 h_0 rfl dX3_giveUp_58 (fun g16 => ?_)
  refine r_iload_n (pc := 61) C 0 rfl rfl dX3_giveUp_61 ?_
  refine r_aald (pc := 62) C (kd := 4) rfl rfl g16 rfl dX3_giveUp_62 (fun g17 => ?_)
  refine r_iconst (pc := 63) C dX3_giveUp_63 kc_0 ?_
  refine r_putI (pc := 64) C FX6_state mw_128 g17 tyX6 tyX6_ok nmX6 (fun _ _ => rfl) rfl dX3_giveUp_64 (fun M18 => ?_)
  refine r_aload_n (pc := 67) C 1 rfl rfl dX3_giveUp_67 ?_
  refine r_getR (pc := 68) C FX3_threads mw_199 h_0 rfl dX3_giveUp_68 (fun g19 => ?_)
  refine r_iload_n (pc := 71) C 0 rfl rfl dX3_giveUp_71 ?_
  refine r_aald (pc := 72) C (kd := 4) rfl rfl g16 rfl dX3_giveUp_72 (fun g20 => ?_)
  refine r_iconst (pc := 73) C dX3_giveUp_73 kc_m1 ?_
  refine r_putI (pc := 74) C FX6_blockedAt mw_143 g17 tyX6 tyX6_ok nmX6 (fun _ _ => rfl) rfl dX3_giveUp_74 (fun M21 => ?_)
  refine r_aload_n (pc := 77) C 1 rfl rfl dX3_giveUp_77 ?_
  refine r_iconst (pc := 78) C dX3_giveUp_78 kc_1 ?_
  refine r_putZ (pc := 79) C FX3_arePrioritiesOld mw_219 h_0 tyX3 tyX3_ok nmX3 (fun _ _ => rfl) rfl dX3_giveUp_79 (fun M22 => ?_)
  refine r_aload_n (pc := 82) C 1 rfl rfl dX3_giveUp_82 ?_
  refine r_getR (pc := 83) C FX3_log mw_203 h_0 rfl dX3_giveUp_83 (fun g23 => ?_)
  refine r_aload_n (pc := 86) C 1 rfl rfl dX3_giveUp_86 ?_
  refine r_getI (pc := 87) C FX3_time mw_209 h_0 rfl rfl dX3_giveUp_87 ?_
  refine r_iconst (pc := 90) C dX3_giveUp_90 kc_3 ?_
  refine r_iload_n (pc := 91) C 0 rfl rfl dX3_giveUp_91 ?_
  refine r_iload_n (pc := 92) C 2 rfl rfl dX3_giveUp_92 ?_
  refine r_cVV (pc := 93) C hRm (okX2_add h0 k (M22.1 3 k 0 5) (3 : Int32) o4 v1 M22 g5) (Rc.of C rfl rfl g5) mw_536 cvX2_add rfl ⟨Nat.le_of_ble_eq_true rfl, Nat.le_of_ble_eq_true rfl⟩ rfl (Nat.le_of_ble_eq_true rfl) dX3_giveUp_93 (fun o25 M24 => ?_)
  refine r_aload_n (pc := 96) C 1 rfl rfl dX3_giveUp_96 ?_
  refine r_iload_n (pc := 97) C 0 rfl rfl dX3_giveUp_97 ?_
  refine r_cVV (pc := 98) C hRm (okX3_advance h0 k o4 M24 h_0) (Rc.of C rfl rfl h_0) mw_568 cvX3_advance rfl ⟨Nat.le_of_ble_eq_true rfl, Nat.le_of_ble_eq_true rfl⟩ rfl (Nat.le_of_ble_eq_true rfl) dX3_giveUp_98 (fun o27 M26 => ?_)
  exact r_vret (pc := 101) C dX3_giveUp_101
  exact r_vret (pc := 47) C dX3_giveUp_47
theorem okX3_giveUp {l : Launch} {G : WT} (h0 : W0 G) (k : Nat) (v1 : Int32) (M : Mem) (h_0 : G.2.2.2.1 3 k 0) : Okm l G yX3_giveUp cX3_giveUp 3 none 2 46 [.ref (G.1 3 k 0), .int v1] voV M (pX3_giveUp k v1 M) :=
  Okm.of "PermitPark$Machine" rfl (by decide) (Nat.le_of_ble_eq_true rfl) (L := [(0, .ref (G.1 3 k 0)), (1, .int v1)]) rfl (fun K _ hr C => lX3_giveUp_0 C (by rw [hr]; exact ⟨rfl, rfl⟩) h0 v1 M h_0)
def pX3_settle_2 (k : Nat) : Nat → Int32 → Mem → Option (Unit × Mem)
  | 0, _, _ => none
  | n + 1, v1, M =>
    if (1000 : Int32) ≤ v1 then (some ((), M))
    else if (M.1 3 k 0 15) ≤ 0 then (some ((), M))
    else chk (inB ((M.1 3 k 0 15) - (1 : Int32)) 10) <| nm (M.1 16 k 0 ((M.1 3 k 0 15) - (1 : Int32)).toNatClampNeg) fun x2 => bnd (pX1_lowestHeldBy k x2 M) fun o5 M4 => chk (inB x2 10) <| if (M4.1 5 k (x2.toNatClampNeg) 7) = (3 : Int32) then (if o5 = (-1 : Int32) then (nm (wI M4 3 k 0 15 ((M4.1 3 k 0 15) - (1 : Int32))) fun M8 => pX3_settle_2 k  n (v1 + (1 : Int32)) M8)
    else bnd (pX3_giveUp k o5 M4) fun o10 M9 => pX3_settle_2 k  n (v1 + (1 : Int32)) M9)
    else chk (inB x2 10) <| nm (wI M4 5 k (x2.toNatClampNeg) 7 (3 : Int32)) fun M13 => bnd (pX2_add k (M13.1 3 k 0 5) (5 : Int32) x2 (0 : Int32) M13) fun o16 M15 => pX3_settle_2 k  n (v1 + (1 : Int32)) M15
theorem lX3_settle_2 {K : KT} {G : WT} {k : Nat} (C : Cx K G "PermitPark$Machine" cX3_settle 4 none) (hRm : K.2.2.2.1.frames = 3 ∧ K.2.2.2.1.locals = 68) (h0 : W0 G) : ∀ (n : Nat) (v1 : Int32) (M : Mem), G.2.2.2.1 3 k 0 → Run K G 4 0 0 (FinM K G voV 0 0) 2 [(0, .ref (G.1 3 k 0)), (1, .int v1)] [] M (pX3_settle_2 k  n v1 M) := by
  intro n
  induction n with
  | zero =>
    intro v1 M g_0
    exact r_none
  | succ n ih =>
    intro v1 M g_0
    rw [pX3_settle_2]
    refine r_iload_n (pc := 2) C 1 rfl rfl dX3_settle_2 ?_
    refine r_sipush (pc := 3) C dX3_settle_3 ks_1000 ?_
    refine r_icmp_ge (pc := 6) C dX3_settle_6 (tgt := 106) rfl ?_ ?_
    exact r_vret (pc := 106) C dX3_settle_106
    refine r_aload_n (pc := 9) C 0 rfl rfl dX3_settle_9 ?_
    refine r_getI (pc := 10) C FX3_endingCount mw_221 g_0 rfl rfl dX3_settle_10 ?_
    refine r_if_le (pc := 13) C dX3_settle_13 (tgt := 106) rfl ?_ ?_
    exact r_vret (pc := 106) C dX3_settle_106
    refine r_aload_n (pc := 16) C 0 rfl rfl dX3_settle_16 ?_
    refine r_getR (pc := 17) C FX3_ending mw_220 g_0 rfl dX3_settle_17 (fun g1 => ?_)
    refine r_aload_n (pc := 20) C 0 rfl rfl dX3_settle_20 ?_
    refine r_getI (pc := 21) C FX3_endingCount mw_221 g_0 rfl rfl dX3_settle_21 ?_
    refine r_iconst (pc := 24) C dX3_settle_24 kc_1 ?_
    refine r_isub (pc := 25) C dX3_settle_25 ?_
    refine r_iald (pc := 26) C rfl g1 (fun _ => rfl) (fun _ => rfl) dX3_settle_26 ?_
    refine r_nmi (fun x2 => ?_)
    refine r_istore_n (pc := 27) C [(2, .int x2), (0, .ref (G.1 3 k 0)), (1, .int v1)] dX3_settle_27 rfl (by decide) rfl ?_
    refine r_aload_n (pc := 28) C 1 rfl rfl dX3_settle_28 ?_
    refine r_getR (pc := 29) C FX3_locks mw_201 g_0 rfl dX3_settle_29 (fun g3 => ?_)
    refine r_iload_n (pc := 32) C 0 rfl rfl dX3_settle_32 ?_
    refine r_cVI (pc := 33) C hRm (okX1_lowestHeldBy h0 k x2 M g3) (Rc.of C rfl rfl g3) mw_548 cvX1_lowestHeldBy rfl ⟨Nat.le_of_ble_eq_true rfl, Nat.le_of_ble_eq_true rfl⟩ rfl (Nat.le_of_ble_eq_true rfl) dX3_settle_33 (fun o5 M4 => ?_)
    refine r_istore_n (pc := 36) C [(3, .int o5), (2, .int x2), (0, .ref (G.1 3 k 0)), (1, .int v1)] dX3_settle_36 rfl (by decide) rfl ?_
    refine r_aload_n (pc := 37) C 2 rfl rfl dX3_settle_37 ?_
    refine r_getR (pc := 38) C FX3_threads mw_199 g_0 rfl dX3_settle_38 (fun g6 => ?_)
    refine r_iload_n (pc := 41) C 1 rfl rfl dX3_settle_41 ?_
    refine r_aald (pc := 42) C (kd := 4) rfl rfl g6 rfl dX3_settle_42 (fun g7 => ?_)
    refine r_getI (pc := 43) C FX6_state mw_128 g7 rfl rfl dX3_settle_43 ?_
    refine r_iconst (pc := 46) C dX3_settle_46 kc_3 ?_
    refine r_icmp_eq (pc := 47) C dX3_settle_47 (tgt := 77) rfl ?_ ?_
    refine r_iload_n (pc := 77) C 0 rfl rfl dX3_settle_77 ?_
    refine r_iconst (pc := 78) C dX3_settle_78 kc_m1 ?_
    refine r_icmp_eq (pc := 79) C dX3_settle_79 (tgt := 90) rfl ?_ ?_
    refine r_aload_n (pc := 90) C 2 rfl rfl dX3_settle_90 ?_
    refine r_dup (pc := 91) C dX3_settle_91 rfl ?_
    refine r_getI (pc := 92) C FX3_endingCount mw_221 g_0 rfl rfl dX3_settle_92 ?_
    refine r_iconst (pc := 95) C dX3_settle_95 kc_1 ?_
    refine r_isub (pc := 96) C dX3_settle_96 ?_
    refine r_putI (pc := 97) C FX3_endingCount mw_221 g_0 tyX3 tyX3_ok nmX3 (fun _ _ => rfl) rfl dX3_settle_97 (fun M8 => ?_)
    refine r_iinc (pc := 100) C [(1, .int (v1 + (1 : Int32))), (3, .int o5), (2, .int x2), (0, .ref (G.1 3 k 0))] dX3_settle_100 (p := 3) rfl (ki_1 _) (by decide) rfl ?_
    refine r_goto (pc := 103) C dX3_settle_103 (tgt := 2) rfl ?_
    refine r_sub [3, 0] rfl ?_
    exact ih (v1 + (1 : Int32)) M8 g_0
    refine r_aload_n (pc := 82) C 2 rfl rfl dX3_settle_82 ?_
    refine r_iload_n (pc := 83) C 0 rfl rfl dX3_settle_83 ?_
    refine r_cVV (pc := 84) C hRm (okX3_giveUp h0 k o5 M4 g_0) (Rc.of C rfl rfl g_0) mw_552 cvX3_giveUp rfl ⟨Nat.le_of_ble_eq_true rfl, Nat.le_of_ble_eq_true rfl⟩ rfl (Nat.le_of_ble_eq_true rfl) dX3_settle_84 (fun o10 M9 => ?_)
    refine r_goto (pc := 87) C dX3_settle_87 (tgt := 100) rfl ?_
    refine r_iinc (pc := 100) C [(1, .int (v1 + (1 : Int32))), (3, .int o5), (2, .int x2), (0, .ref (G.1 3 k 0))] dX3_settle_100 (p := 3) rfl (ki_1 _) (by decide) rfl ?_
    refine r_goto (pc := 103) C dX3_settle_103 (tgt := 2) rfl ?_
    refine r_sub [3, 0] rfl ?_
    exact ih (v1 + (1 : Int32)) M9 g_0
    refine r_aload_n (pc := 50) C 2 rfl rfl dX3_settle_50 ?_
    refine r_getR (pc := 51) C FX3_threads mw_199 g_0 rfl dX3_settle_51 (fun g11 => ?_)
    refine r_iload_n (pc := 54) C 1 rfl rfl dX3_settle_54 ?_
    refine r_aald (pc := 55) C (kd := 4) rfl rfl g6 rfl dX3_settle_55 (fun g12 => ?_)
    refine r_iconst (pc := 56) C dX3_settle_56 kc_3 ?_
    refine r_putI (pc := 57) C FX6_state mw_128 g7 tyX6 tyX6_ok nmX6 (fun _ _ => rfl) rfl dX3_settle_57 (fun M13 => ?_)
    refine r_aload_n (pc := 60) C 2 rfl rfl dX3_settle_60 ?_
    refine r_getR (pc := 61) C FX3_log mw_203 g_0 rfl dX3_settle_61 (fun g14 => ?_)
    refine r_aload_n (pc := 64) C 2 rfl rfl dX3_settle_64 ?_
    refine r_getI (pc := 65) C FX3_time mw_209 g_0 rfl rfl dX3_settle_65 ?_
    refine r_iconst (pc := 68) C dX3_settle_68 kc_5 ?_
    refine r_iload_n (pc := 69) C 1 rfl rfl dX3_settle_69 ?_
    refine r_iconst (pc := 70) C dX3_settle_70 kc_0 ?_
    refine r_cVV (pc := 71) C hRm (okX2_add h0 k (M13.1 3 k 0 5) (5 : Int32) x2 (0 : Int32) M13 g14) (Rc.of C rfl rfl g14) mw_536 cvX2_add rfl ⟨Nat.le_of_ble_eq_true rfl, Nat.le_of_ble_eq_true rfl⟩ rfl (Nat.le_of_ble_eq_true rfl) dX3_settle_71 (fun o16 M15 => ?_)
    refine r_goto (pc := 74) C dX3_settle_74 (tgt := 100) rfl ?_
    refine r_iinc (pc := 100) C [(1, .int (v1 + (1 : Int32))), (3, .int o5), (2, .int x2), (0, .ref (G.1 3 k 0))] dX3_settle_100 (p := 3) rfl (ki_1 _) (by decide) rfl ?_
    refine r_goto (pc := 103) C dX3_settle_103 (tgt := 2) rfl ?_
    refine r_sub [3, 0] rfl ?_
    exact ih (v1 + (1 : Int32)) M15 g_0
def pX3_settle (k : Nat) (M : Mem) : Option (Unit × Mem) :=
    pX3_settle_2 k  fu (0 : Int32) M
theorem lX3_settle_0 {K : KT} {G : WT} {k : Nat} (C : Cx K G "PermitPark$Machine" cX3_settle 4 none) (hRm : K.2.2.2.1.frames = 3 ∧ K.2.2.2.1.locals = 68) (h0 : W0 G) (M : Mem) (h_0 : G.2.2.2.1 3 k 0) : Run K G 4 0 0 (FinM K G voV 0 0) 0 [(0, .ref (G.1 3 k 0))] [] M (pX3_settle k   M) := by
  rw [pX3_settle]
  refine r_iconst (pc := 0) C dX3_settle_0 kc_0 ?_
  refine r_istore_n (pc := 1) C [(1, .int (0 : Int32)), (0, .ref (G.1 3 k 0))] dX3_settle_1 rfl (by decide) rfl ?_
  refine r_sub [1, 0] rfl ?_
  exact lX3_settle_2 (k := k)  C hRm h0  fu (0 : Int32) M h_0
theorem okX3_settle {l : Launch} {G : WT} (h0 : W0 G) (k : Nat) (M : Mem) (h_0 : G.2.2.2.1 3 k 0) : Okm l G yX3_settle cX3_settle 4 none 3 68 [.ref (G.1 3 k 0)] voV M (pX3_settle k  M) :=
  Okm.of "PermitPark$Machine" rfl (by decide) (Nat.le_of_ble_eq_true rfl) (L := [(0, .ref (G.1 3 k 0))]) rfl (fun K _ hr C => lX3_settle_0 C (by rw [hr]; exact ⟨rfl, rfl⟩) h0  M h_0)
def pX3_drawOfThousand (k : Nat) (M : Mem) : Option (Int32 × Mem) :=
    nm (wI M 3 k 0 6 ((((1103 : Int32) * (M.1 3 k 0 6)) + (12345 : Int32)) - (((1103 : Int32) * (M.1 3 k 0 6)) + (12345 : Int32)) / (1000003 : Int32) * (1000003 : Int32))) fun M1 => some (((M1.1 3 k 0 6) - (M1.1 3 k 0 6) / (1000 : Int32) * (1000 : Int32)), M1)
theorem lX3_drawOfThousand_0 {K : KT} {G : WT} {k : Nat} (C : Cx K G "PermitPark$Machine" cX3_drawOfThousand 1 (some FieldType.int)) (hRm : K.2.2.2.1.frames = 0 ∧ K.2.2.2.1.locals = 0) (h0 : W0 G) (M : Mem) (h_0 : G.2.2.2.1 3 k 0) : Run K G 1 0 0 (FinM K G voI 0 0) 0 [(0, .ref (G.1 3 k 0))] [] M (pX3_drawOfThousand k   M) := by
  rw [pX3_drawOfThousand]
  refine r_aload_n (pc := 0) C 0 rfl rfl dX3_drawOfThousand_0 ?_
  refine r_sipush (pc := 1) C dX3_drawOfThousand_1 ks_1103 ?_
  refine r_aload_n (pc := 4) C 0 rfl rfl dX3_drawOfThousand_4 ?_
  refine r_getI (pc := 5) C FX3_x mw_210 h_0 rfl rfl dX3_drawOfThousand_5 ?_
  refine r_imul (pc := 8) C dX3_drawOfThousand_8 ?_
  refine r_sipush (pc := 9) C dX3_drawOfThousand_9 ks_12345 ?_
  refine r_iadd (pc := 12) C dX3_drawOfThousand_12 ?_
  refine r_ldc (pc := 13) C mw_576 dX3_drawOfThousand_13 ?_
  refine r_irem (pc := 15) C dX3_drawOfThousand_15 (by decide) ?_
  refine r_putI (pc := 16) C FX3_x mw_210 h_0 tyX3 tyX3_ok nmX3 (fun _ _ => rfl) rfl dX3_drawOfThousand_16 (fun M1 => ?_)
  refine r_aload_n (pc := 19) C 0 rfl rfl dX3_drawOfThousand_19 ?_
  refine r_getI (pc := 20) C FX3_x mw_210 h_0 rfl rfl dX3_drawOfThousand_20 ?_
  refine r_sipush (pc := 23) C dX3_drawOfThousand_23 ks_1000 ?_
  refine r_irem (pc := 26) C dX3_drawOfThousand_26 (by decide) ?_
  exact r_iret (pc := 27) C rfl dX3_drawOfThousand_27
theorem okX3_drawOfThousand {l : Launch} {G : WT} (h0 : W0 G) (k : Nat) (M : Mem) (h_0 : G.2.2.2.1 3 k 0) : Okm l G yX3_drawOfThousand cX3_drawOfThousand 1 (some FieldType.int) 0 0 [.ref (G.1 3 k 0)] voI M (pX3_drawOfThousand k  M) :=
  Okm.of "PermitPark$Machine" rfl (by decide) (Nat.le_of_ble_eq_true rfl) (L := [(0, .ref (G.1 3 k 0))]) rfl (fun K _ hr C => lX3_drawOfThousand_0 C (by rw [hr]; exact ⟨rfl, rfl⟩) h0  M h_0)
def pX3_isAheadOf (k0 : Nat) (i0 : Nat) (k1 : Nat) (i1 : Nat) (M : Mem) : Option (Int32 × Mem) :=
    if (M.1 5 k0 i0 5) = (M.1 5 k1 i1 5) then (if (M.1 5 k1 i1 16) ≤ (M.1 5 k0 i0 16) then (chk (decide ((0 : Int32) = 0 ∨ (0 : Int32) = 1)) (some ((0 : Int32), M)))
    else chk (decide ((1 : Int32) = 0 ∨ (1 : Int32) = 1)) (some ((1 : Int32), M)))
    else if (M.1 5 k0 i0 5) ≤ (M.1 5 k1 i1 5) then (chk (decide ((0 : Int32) = 0 ∨ (0 : Int32) = 1)) (some ((0 : Int32), M)))
    else chk (decide ((1 : Int32) = 0 ∨ (1 : Int32) = 1)) (some ((1 : Int32), M))
theorem lX3_isAheadOf_0 {K : KT} {G : WT} {k0 : Nat} {i0 : Nat} {k1 : Nat} {i1 : Nat} (C : Cx K G "PermitPark$Machine" cX3_isAheadOf 2 (some FieldType.boolean)) (hRm : K.2.2.2.1.frames = 0 ∧ K.2.2.2.1.locals = 0) (h0 : W0 G) (M : Mem) (h_0 : G.2.2.2.1 5 k0 i0) (h_1 : G.2.2.2.1 5 k1 i1) : Run K G 2 0 0 (FinM K G voI 0 0) 0 [(0, .ref (G.1 5 k0 i0)), (1, .ref (G.1 5 k1 i1))] [] M (pX3_isAheadOf k0 i0 k1 i1   M) := by
  rw [pX3_isAheadOf]
  refine r_aload_n (pc := 0) C 0 rfl rfl dX3_isAheadOf_0 ?_
  refine r_getI (pc := 1) C FX6_priority mw_123 h_0 rfl rfl dX3_isAheadOf_1 ?_
  refine r_aload_n (pc := 4) C 1 rfl rfl dX3_isAheadOf_4 ?_
  refine r_getI (pc := 5) C FX6_priority mw_123 h_1 rfl rfl dX3_isAheadOf_5 ?_
  refine r_icmp_eq (pc := 8) C dX3_isAheadOf_8 (tgt := 28) rfl ?_ ?_
  refine r_aload_n (pc := 28) C 0 rfl rfl dX3_isAheadOf_28 ?_
  refine r_getI (pc := 29) C FX6_lastRun mw_147 h_0 rfl rfl dX3_isAheadOf_29 ?_
  refine r_aload_n (pc := 32) C 1 rfl rfl dX3_isAheadOf_32 ?_
  refine r_getI (pc := 33) C FX6_lastRun mw_147 h_1 rfl rfl dX3_isAheadOf_33 ?_
  refine r_icmp_ge (pc := 36) C dX3_isAheadOf_36 (tgt := 43) rfl ?_ ?_
  refine r_iconst (pc := 43) C dX3_isAheadOf_43 kc_0 ?_
  exact r_zret (pc := 44) C dX3_isAheadOf_44
  refine r_iconst (pc := 39) C dX3_isAheadOf_39 kc_1 ?_
  refine r_goto (pc := 40) C dX3_isAheadOf_40 (tgt := 44) rfl ?_
  exact r_zret (pc := 44) C dX3_isAheadOf_44
  refine r_aload_n (pc := 11) C 0 rfl rfl dX3_isAheadOf_11 ?_
  refine r_getI (pc := 12) C FX6_priority mw_123 h_0 rfl rfl dX3_isAheadOf_12 ?_
  refine r_aload_n (pc := 15) C 1 rfl rfl dX3_isAheadOf_15 ?_
  refine r_getI (pc := 16) C FX6_priority mw_123 h_1 rfl rfl dX3_isAheadOf_16 ?_
  refine r_icmp_le (pc := 19) C dX3_isAheadOf_19 (tgt := 26) rfl ?_ ?_
  refine r_iconst (pc := 26) C dX3_isAheadOf_26 kc_0 ?_
  exact r_zret (pc := 27) C dX3_isAheadOf_27
  refine r_iconst (pc := 22) C dX3_isAheadOf_22 kc_1 ?_
  refine r_goto (pc := 23) C dX3_isAheadOf_23 (tgt := 27) rfl ?_
  exact r_zret (pc := 27) C dX3_isAheadOf_27
theorem okX3_isAheadOf {l : Launch} {G : WT} (h0 : W0 G) (k0 : Nat) (i0 : Nat) (k1 : Nat) (i1 : Nat) (M : Mem) (h_0 : G.2.2.2.1 5 k0 i0) (h_1 : G.2.2.2.1 5 k1 i1) : Okm l G yX3_isAheadOf cX3_isAheadOf 2 (some FieldType.boolean) 0 0 [.ref (G.1 5 k0 i0), .ref (G.1 5 k1 i1)] voI M (pX3_isAheadOf k0 i0 k1 i1  M) :=
  Okm.of "PermitPark$Machine" rfl (by decide) (Nat.le_of_ble_eq_true rfl) (L := [(0, .ref (G.1 5 k0 i0)), (1, .ref (G.1 5 k1 i1))]) rfl (fun K _ hr C => lX3_isAheadOf_0 C (by rw [hr]; exact ⟨rfl, rfl⟩) h0  M h_0 h_1)
def pX3_firstReady_8 (k : Nat) : Nat → Int32 → Int32 → Mem → Option (Int32 × Mem)
  | 0, _, _, _ => none
  | n + 1, v1, v2, M =>
    if (M.1 3 k 0 4) ≤ v2 then (some (v1, M))
    else chk (inB v2 10) <| if ¬ (M.1 5 k (v2.toNatClampNeg) 7) = 0 then (pX3_firstReady_8 k  n v1 (v2 + (1 : Int32)) M)
    else if v1 = (-1 : Int32) then (pX3_firstReady_8 k  n v2 (v2 + (1 : Int32)) M)
    else chk (inB v2 10) <| chk (inB v1 10) <| bnd (pX3_isAheadOf k (v2.toNatClampNeg) k (v1.toNatClampNeg) M) fun o8 M7 => if o8 = 0 then (pX3_firstReady_8 k  n v1 (v2 + (1 : Int32)) M7)
    else pX3_firstReady_8 k  n v2 (v2 + (1 : Int32)) M7
theorem lX3_firstReady_8 {K : KT} {G : WT} {k : Nat} (C : Cx K G "PermitPark$Machine" cX3_firstReady 3 (some FieldType.int)) (hRm : K.2.2.2.1.frames = 2 ∧ K.2.2.2.1.locals = 45) (h0 : W0 G) : ∀ (n : Nat) (v1 : Int32) (v2 : Int32) (M : Mem), G.2.2.2.1 3 k 0 → Run K G 3 0 0 (FinM K G voI 0 0) 8 [(0, .ref (G.1 3 k 0)), (1, .int v1), (2, .int v2)] [] M (pX3_firstReady_8 k  n v1 v2 M) := by
  intro n
  induction n with
  | zero =>
    intro v1 v2 M g_0
    exact r_none
  | succ n ih =>
    intro v1 v2 M g_0
    rw [pX3_firstReady_8]
    refine r_iload_n (pc := 8) C 2 rfl rfl dX3_firstReady_8 ?_
    refine r_aload_n (pc := 9) C 0 rfl rfl dX3_firstReady_9 ?_
    refine r_getI (pc := 10) C FX3_threadCount mw_207 g_0 rfl rfl dX3_firstReady_10 ?_
    refine r_icmp_ge (pc := 13) C dX3_firstReady_13 (tgt := 59) rfl ?_ ?_
    refine r_iload_n (pc := 59) C 1 rfl rfl dX3_firstReady_59 ?_
    exact r_iret (pc := 60) C rfl dX3_firstReady_60
    refine r_aload_n (pc := 16) C 0 rfl rfl dX3_firstReady_16 ?_
    refine r_getR (pc := 17) C FX3_threads mw_199 g_0 rfl dX3_firstReady_17 (fun g1 => ?_)
    refine r_iload_n (pc := 20) C 2 rfl rfl dX3_firstReady_20 ?_
    refine r_aald (pc := 21) C (kd := 4) rfl rfl g1 rfl dX3_firstReady_21 (fun g2 => ?_)
    refine r_getI (pc := 22) C FX6_state mw_128 g2 rfl rfl dX3_firstReady_22 ?_
    refine r_if_ne (pc := 25) C dX3_firstReady_25 (tgt := 53) rfl ?_ ?_
    refine r_iinc (pc := 53) C [(2, .int (v2 + (1 : Int32))), (0, .ref (G.1 3 k 0)), (1, .int v1)] dX3_firstReady_53 (p := 2) rfl (ki_1 _) (by decide) rfl ?_
    refine r_goto (pc := 56) C dX3_firstReady_56 (tgt := 8) rfl ?_
    refine r_sub [1, 2, 0] rfl ?_
    exact ih v1 (v2 + (1 : Int32)) M g_0
    refine r_iload_n (pc := 28) C 1 rfl rfl dX3_firstReady_28 ?_
    refine r_iconst (pc := 29) C dX3_firstReady_29 kc_m1 ?_
    refine r_icmp_eq (pc := 30) C dX3_firstReady_30 (tgt := 51) rfl ?_ ?_
    refine r_iload_n (pc := 51) C 2 rfl rfl dX3_firstReady_51 ?_
    refine r_istore_n (pc := 52) C [(1, .int v2), (0, .ref (G.1 3 k 0)), (2, .int v2)] dX3_firstReady_52 rfl (by decide) rfl ?_
    refine r_iinc (pc := 53) C [(2, .int (v2 + (1 : Int32))), (1, .int v2), (0, .ref (G.1 3 k 0))] dX3_firstReady_53 (p := 2) rfl (ki_1 _) (by decide) rfl ?_
    refine r_goto (pc := 56) C dX3_firstReady_56 (tgt := 8) rfl ?_
    refine r_sub [2, 1, 0] rfl ?_
    exact ih v2 (v2 + (1 : Int32)) M g_0
    refine r_aload_n (pc := 33) C 0 rfl rfl dX3_firstReady_33 ?_
    refine r_getR (pc := 34) C FX3_threads mw_199 g_0 rfl dX3_firstReady_34 (fun g3 => ?_)
    refine r_iload_n (pc := 37) C 2 rfl rfl dX3_firstReady_37 ?_
    refine r_aald (pc := 38) C (kd := 4) rfl rfl g1 rfl dX3_firstReady_38 (fun g4 => ?_)
    refine r_aload_n (pc := 39) C 0 rfl rfl dX3_firstReady_39 ?_
    refine r_getR (pc := 40) C FX3_threads mw_199 g_0 rfl dX3_firstReady_40 (fun g5 => ?_)
    refine r_iload_n (pc := 43) C 1 rfl rfl dX3_firstReady_43 ?_
    refine r_aald (pc := 44) C (kd := 4) rfl rfl g1 rfl dX3_firstReady_44 (fun g6 => ?_)
    refine r_cSI (pc := 45) C hRm (okX3_isAheadOf h0 k (v2.toNatClampNeg) k (v1.toNatClampNeg) M g2 g6) mw_581 cvX3_isAheadOf rfl ⟨Nat.le_of_ble_eq_true rfl, Nat.le_of_ble_eq_true rfl⟩ rfl (Nat.le_of_ble_eq_true rfl) dX3_firstReady_45 (fun o8 M7 => ?_)
    refine r_if_eq (pc := 48) C dX3_firstReady_48 (tgt := 53) rfl ?_ ?_
    refine r_iinc (pc := 53) C [(2, .int (v2 + (1 : Int32))), (0, .ref (G.1 3 k 0)), (1, .int v1)] dX3_firstReady_53 (p := 2) rfl (ki_1 _) (by decide) rfl ?_
    refine r_goto (pc := 56) C dX3_firstReady_56 (tgt := 8) rfl ?_
    refine r_sub [1, 2, 0] rfl ?_
    exact ih v1 (v2 + (1 : Int32)) M7 g_0
    refine r_iload_n (pc := 51) C 2 rfl rfl dX3_firstReady_51 ?_
    refine r_istore_n (pc := 52) C [(1, .int v2), (0, .ref (G.1 3 k 0)), (2, .int v2)] dX3_firstReady_52 rfl (by decide) rfl ?_
    refine r_iinc (pc := 53) C [(2, .int (v2 + (1 : Int32))), (1, .int v2), (0, .ref (G.1 3 k 0))] dX3_firstReady_53 (p := 2) rfl (ki_1 _) (by decide) rfl ?_
    refine r_goto (pc := 56) C dX3_firstReady_56 (tgt := 8) rfl ?_
    refine r_sub [2, 1, 0] rfl ?_
    exact ih v2 (v2 + (1 : Int32)) M7 g_0
def pX3_firstReady (k : Nat) (M : Mem) : Option (Int32 × Mem) :=
    bnd (pX3_refreshPriorities k M) fun o2 M1 => pX3_firstReady_8 k  fu (-1 : Int32) (0 : Int32) M1
theorem lX3_firstReady_0 {K : KT} {G : WT} {k : Nat} (C : Cx K G "PermitPark$Machine" cX3_firstReady 3 (some FieldType.int)) (hRm : K.2.2.2.1.frames = 2 ∧ K.2.2.2.1.locals = 45) (h0 : W0 G) (M : Mem) (h_0 : G.2.2.2.1 3 k 0) : Run K G 3 0 0 (FinM K G voI 0 0) 0 [(0, .ref (G.1 3 k 0))] [] M (pX3_firstReady k   M) := by
  rw [pX3_firstReady]
  refine r_aload_n (pc := 0) C 0 rfl rfl dX3_firstReady_0 ?_
  refine r_cVV (pc := 1) C hRm (okX3_refreshPriorities h0 k M h_0) (Rc.of C rfl rfl h_0) mw_519 cvX3_refreshPriorities rfl ⟨Nat.le_of_ble_eq_true rfl, Nat.le_of_ble_eq_true rfl⟩ rfl (Nat.le_of_ble_eq_true rfl) dX3_firstReady_1 (fun o2 M1 => ?_)
  refine r_iconst (pc := 4) C dX3_firstReady_4 kc_m1 ?_
  refine r_istore_n (pc := 5) C [(1, .int (-1 : Int32)), (0, .ref (G.1 3 k 0))] dX3_firstReady_5 rfl (by decide) rfl ?_
  refine r_iconst (pc := 6) C dX3_firstReady_6 kc_0 ?_
  refine r_istore_n (pc := 7) C [(2, .int (0 : Int32)), (1, .int (-1 : Int32)), (0, .ref (G.1 3 k 0))] dX3_firstReady_7 rfl (by decide) rfl ?_
  refine r_sub [2, 1, 0] rfl ?_
  exact lX3_firstReady_8 (k := k)  C hRm h0  fu (-1 : Int32) (0 : Int32) M1 h_0
theorem okX3_firstReady {l : Launch} {G : WT} (h0 : W0 G) (k : Nat) (M : Mem) (h_0 : G.2.2.2.1 3 k 0) : Okm l G yX3_firstReady cX3_firstReady 3 (some FieldType.int) 2 45 [.ref (G.1 3 k 0)] voI M (pX3_firstReady k  M) :=
  Okm.of "PermitPark$Machine" rfl (by decide) (Nat.le_of_ble_eq_true rfl) (L := [(0, .ref (G.1 3 k 0))]) rfl (fun K _ hr C => lX3_firstReady_0 C (by rw [hr]; exact ⟨rfl, rfl⟩) h0  M h_0)
def pX3_park (k : Nat) (v1 : Int32) (v2 : Int32) (M : Mem) : Option (Unit × Mem) :=
    chk (inB v1 10) <| if (M.1 5 k (v1.toNatClampNeg) 11) = 0 then (if (M.1 5 k (v1.toNatClampNeg) 10) = 0 then (nm (wI M 5 k (v1.toNatClampNeg) 7 (1 : Int32)) fun M3 => nm (wI M3 5 k (v1.toNatClampNeg) 13 v2) fun M4 => nm (wI M4 5 k (v1.toNatClampNeg) 17 ((M4.1 5 k (v1.toNatClampNeg) 17) + (1 : Int32))) fun M5 => bnd (pX2_add k (M5.1 3 k 0 5) (0 : Int32) v1 v2 M5) fun o8 M7 => some ((), M7))
    else chk (decide ((0 : Int32) = 0 ∨ (0 : Int32) = 1)) <| nm (wI M 5 k (v1.toNatClampNeg) 10 (0 : Int32)) fun M9 => nm (wI M9 5 k (v1.toNatClampNeg) 12 (1 : Int32)) fun M10 => some ((), M10))
    else chk (decide ((0 : Int32) = 0 ∨ (0 : Int32) = 1)) <| nm (wI M 5 k (v1.toNatClampNeg) 11 (0 : Int32)) fun M11 => nm (wI M11 5 k (v1.toNatClampNeg) 12 (4 : Int32)) fun M12 => some ((), M12)
theorem lX3_park_0 {K : KT} {G : WT} {k : Nat} (C : Cx K G "PermitPark$Machine" cX3_park 4 none) (hRm : K.2.2.2.1.frames = 1 ∧ K.2.2.2.1.locals = 25) (h0 : W0 G) (v1 : Int32) (v2 : Int32) (M : Mem) (h_0 : G.2.2.2.1 3 k 0) : Run K G 4 0 0 (FinM K G voV 0 0) 0 [(0, .ref (G.1 3 k 0)), (1, .int v1), (2, .int v2)] [] M (pX3_park k  v1 v2 M) := by
  rw [pX3_park]
  refine r_aload_n (pc := 0) C 0 rfl rfl dX3_park_0 ?_
  refine r_getR (pc := 1) C FX3_threads mw_199 h_0 rfl dX3_park_1 (fun g1 => ?_)
  refine r_iload_n (pc := 4) C 1 rfl rfl dX3_park_4 ?_
  refine r_aald (pc := 5) C (kd := 4) rfl rfl g1 rfl dX3_park_5 (fun g2 => ?_)
  refine r_astore_n (pc := 6) C [(3, .ref (G.1 5 k (v1.toNatClampNeg))), (0, .ref (G.1 3 k 0)), (1, .int v1), (2, .int v2)] dX3_park_6 rfl (by decide) rfl ?_
  refine r_aload_n (pc := 7) C 0 rfl rfl dX3_park_7 ?_
  refine r_getI (pc := 8) C FX6_hasInterrupt mw_137 g2 rfl rfl dX3_park_8 ?_
  refine r_if_eq (pc := 11) C dX3_park_11 (tgt := 27) rfl ?_ ?_
  refine r_aload_n (pc := 27) C 0 rfl rfl dX3_park_27 ?_
  refine r_getI (pc := 28) C FX6_hasPermit mw_135 g2 rfl rfl dX3_park_28 ?_
  refine r_if_eq (pc := 31) C dX3_park_31 (tgt := 47) rfl ?_ ?_
  refine r_aload_n (pc := 47) C 0 rfl rfl dX3_park_47 ?_
  refine r_iconst (pc := 48) C dX3_park_48 kc_1 ?_
  refine r_putI (pc := 49) C FX6_state mw_128 g2 tyX6 tyX6_ok nmX6 (fun _ _ => rfl) rfl dX3_park_49 (fun M3 => ?_)
  refine r_aload_n (pc := 52) C 0 rfl rfl dX3_park_52 ?_
  refine r_iload_n (pc := 53) C 3 rfl rfl dX3_park_53 ?_
  refine r_putI (pc := 54) C FX6_deadline mw_141 g2 tyX6 tyX6_ok nmX6 (fun _ _ => rfl) rfl dX3_park_54 (fun M4 => ?_)
  refine r_aload_n (pc := 57) C 0 rfl rfl dX3_park_57 ?_
  refine r_dup (pc := 58) C dX3_park_58 rfl ?_
  refine r_getI (pc := 59) C FX6_parks mw_149 g2 rfl rfl dX3_park_59 ?_
  refine r_iconst (pc := 62) C dX3_park_62 kc_1 ?_
  refine r_iadd (pc := 63) C dX3_park_63 ?_
  refine r_putI (pc := 64) C FX6_parks mw_149 g2 tyX6 tyX6_ok nmX6 (fun _ _ => rfl) rfl dX3_park_64 (fun M5 => ?_)
  refine r_aload_n (pc := 67) C 1 rfl rfl dX3_park_67 ?_
  refine r_getR (pc := 68) C FX3_log mw_203 h_0 rfl dX3_park_68 (fun g6 => ?_)
  refine r_aload_n (pc := 71) C 1 rfl rfl dX3_park_71 ?_
  refine r_getI (pc := 72) C FX3_time mw_209 h_0 rfl rfl dX3_park_72 ?_
  refine r_iconst (pc := 75) C dX3_park_75 kc_0 ?_
  refine r_iload_n (pc := 76) C 2 rfl rfl dX3_park_76 ?_
  refine r_iload_n (pc := 77) C 3 rfl rfl dX3_park_77 ?_
  refine r_cVV (pc := 78) C hRm (okX2_add h0 k (M5.1 3 k 0 5) (0 : Int32) v1 v2 M5 g6) (Rc.of C rfl rfl g6) mw_536 cvX2_add rfl ⟨Nat.le_of_ble_eq_true rfl, Nat.le_of_ble_eq_true rfl⟩ rfl (Nat.le_of_ble_eq_true rfl) dX3_park_78 (fun o8 M7 => ?_)
  exact r_vret (pc := 81) C dX3_park_81
  refine r_aload_n (pc := 34) C 0 rfl rfl dX3_park_34 ?_
  refine r_iconst (pc := 35) C dX3_park_35 kc_0 ?_
  refine r_putZ (pc := 36) C FX6_hasPermit mw_135 g2 tyX6 tyX6_ok nmX6 (fun _ _ => rfl) rfl dX3_park_36 (fun M9 => ?_)
  refine r_aload_n (pc := 39) C 0 rfl rfl dX3_park_39 ?_
  refine r_iconst (pc := 40) C dX3_park_40 kc_1 ?_
  refine r_putI (pc := 41) C FX6_cause mw_139 g2 tyX6 tyX6_ok nmX6 (fun _ _ => rfl) rfl dX3_park_41 (fun M10 => ?_)
  refine r_goto (pc := 44) C dX3_park_44 (tgt := 81) rfl ?_
  exact r_vret (pc := 81) C dX3_park_81
  refine r_aload_n (pc := 14) C 0 rfl rfl dX3_park_14 ?_
  refine r_iconst (pc := 15) C dX3_park_15 kc_0 ?_
  refine r_putZ (pc := 16) C FX6_hasInterrupt mw_137 g2 tyX6 tyX6_ok nmX6 (fun _ _ => rfl) rfl dX3_park_16 (fun M11 => ?_)
  refine r_aload_n (pc := 19) C 0 rfl rfl dX3_park_19 ?_
  refine r_iconst (pc := 20) C dX3_park_20 kc_4 ?_
  refine r_putI (pc := 21) C FX6_cause mw_139 g2 tyX6 tyX6_ok nmX6 (fun _ _ => rfl) rfl dX3_park_21 (fun M12 => ?_)
  refine r_goto (pc := 24) C dX3_park_24 (tgt := 81) rfl ?_
  exact r_vret (pc := 81) C dX3_park_81
theorem okX3_park {l : Launch} {G : WT} (h0 : W0 G) (k : Nat) (v1 : Int32) (v2 : Int32) (M : Mem) (h_0 : G.2.2.2.1 3 k 0) : Okm l G yX3_park cX3_park 4 none 1 25 [.ref (G.1 3 k 0), .int v1, .int v2] voV M (pX3_park k v1 v2 M) :=
  Okm.of "PermitPark$Machine" rfl (by decide) (Nat.le_of_ble_eq_true rfl) (L := [(0, .ref (G.1 3 k 0)), (1, .int v1), (2, .int v2)]) rfl (fun K _ hr C => lX3_park_0 C (by rw [hr]; exact ⟨rfl, rfl⟩) h0 v1 v2 M h_0)
def pX3_wakeUp (k : Nat) (v1 : Int32) (v2 : Int32) (M : Mem) : Option (Int32 × Mem) :=
    chk (inB v1 10) <| if ¬ (M.1 5 k (v1.toNatClampNeg) 7) = (1 : Int32) then (bnd (pX6_isOver k (v1.toNatClampNeg) M) fun o4 M3 => if o4 = 0 then (if (M3.1 5 k (v1.toNatClampNeg) 10) = 0 then (chk (decide ((1 : Int32) = 0 ∨ (1 : Int32) = 1)) <| nm (wI M3 5 k (v1.toNatClampNeg) 10 (1 : Int32)) fun M5 => some ((1 : Int32), M5))
    else nm (wI M3 3 k 0 9 ((M3.1 3 k 0 9) + (1 : Int32))) fun M6 => bnd (pX2_add k (M6.1 3 k 0 5) (7 : Int32) v1 v2 M6) fun o9 M8 => some ((2 : Int32), M8))
    else nm (wI M3 3 k 0 10 ((M3.1 3 k 0 10) + (1 : Int32))) fun M10 => some ((3 : Int32), M10))
    else bnd (pX3_comeBack k v1 (1 : Int32) M) fun o12 M11 => some ((0 : Int32), M11)
theorem lX3_wakeUp_0 {K : KT} {G : WT} {k : Nat} (C : Cx K G "PermitPark$Machine" cX3_wakeUp 4 (some FieldType.int)) (hRm : K.2.2.2.1.frames = 2 ∧ K.2.2.2.1.locals = 48) (h0 : W0 G) (v1 : Int32) (v2 : Int32) (M : Mem) (h_0 : G.2.2.2.1 3 k 0) : Run K G 4 0 0 (FinM K G voI 0 0) 0 [(0, .ref (G.1 3 k 0)), (1, .int v1), (2, .int v2)] [] M (pX3_wakeUp k  v1 v2 M) := by
  rw [pX3_wakeUp]
  refine r_aload_n (pc := 0) C 0 rfl rfl dX3_wakeUp_0 ?_
  refine r_getR (pc := 1) C FX3_threads mw_199 h_0 rfl dX3_wakeUp_1 (fun g1 => ?_)
  refine r_iload_n (pc := 4) C 1 rfl rfl dX3_wakeUp_4 ?_
  refine r_aald (pc := 5) C (kd := 4) rfl rfl g1 rfl dX3_wakeUp_5 (fun g2 => ?_)
  refine r_astore_n (pc := 6) C [(3, .ref (G.1 5 k (v1.toNatClampNeg))), (0, .ref (G.1 3 k 0)), (1, .int v1), (2, .int v2)] dX3_wakeUp_6 rfl (by decide) rfl ?_
  refine r_aload_n (pc := 7) C 0 rfl rfl dX3_wakeUp_7 ?_
  refine r_getI (pc := 8) C FX6_state mw_128 g2 rfl rfl dX3_wakeUp_8 ?_
  refine r_iconst (pc := 11) C dX3_wakeUp_11 kc_1 ?_
  refine r_icmp_ne (pc := 12) C dX3_wakeUp_12 (tgt := 23) rfl ?_ ?_
  refine r_aload_n (pc := 23) C 0 rfl rfl dX3_wakeUp_23 ?_
  refine r_cVI (pc := 24) C hRm (okX6_isOver h0 k (v1.toNatClampNeg) M g2) (Rc.of C rfl rfl g2) mw_613 cvX6_isOver rfl ⟨Nat.le_of_ble_eq_true rfl, Nat.le_of_ble_eq_true rfl⟩ rfl (Nat.le_of_ble_eq_true rfl) dX3_wakeUp_24 (fun o4 M3 => ?_)
  refine r_if_eq (pc := 27) C dX3_wakeUp_27 (tgt := 42) rfl ?_ ?_
  refine r_aload_n (pc := 42) C 0 rfl rfl dX3_wakeUp_42 ?_
  refine r_getI (pc := 43) C FX6_hasPermit mw_135 g2 rfl rfl dX3_wakeUp_43 ?_
  refine r_if_eq (pc := 46) C dX3_wakeUp_46 (tgt := 76) rfl ?_ ?_
  refine r_aload_n (pc := 76) C 0 rfl rfl dX3_wakeUp_76 ?_
  refine r_iconst (pc := 77) C dX3_wakeUp_77 kc_1 ?_
  refine r_putZ (pc := 78) C FX6_hasPermit mw_135 g2 tyX6 tyX6_ok nmX6 (fun _ _ => rfl) rfl dX3_wakeUp_78 (fun M5 => ?_)
  refine r_iconst (pc := 81) C dX3_wakeUp_81 kc_1 ?_
  exact r_iret (pc := 82) C rfl dX3_wakeUp_82
  refine r_aload_n (pc := 49) C 1 rfl rfl dX3_wakeUp_49 ?_
  refine r_dup (pc := 50) C dX3_wakeUp_50 rfl ?_
  refine r_getI (pc := 51) C FX3_merged mw_215 h_0 rfl rfl dX3_wakeUp_51 ?_
  refine r_iconst (pc := 54) C dX3_wakeUp_54 kc_1 ?_
  refine r_iadd (pc := 55) C dX3_wakeUp_55 ?_
  refine r_putI (pc := 56) C FX3_merged mw_215 h_0 tyX3 tyX3_ok nmX3 (fun _ _ => rfl) rfl dX3_wakeUp_56 (fun M6 => ?_)
  refine r_aload_n (pc := 59) C 1 rfl rfl dX3_wakeUp_59 ?_
  refine r_getR (pc := 60) C FX3_log mw_203 h_0 rfl dX3_wakeUp_60 (fun g7 => ?_)
  refine r_aload_n (pc := 63) C 1 rfl rfl dX3_wakeUp_63 ?_
  refine r_getI (pc := 64) C FX3_time mw_209 h_0 rfl rfl dX3_wakeUp_64 ?_
  refine r_bipush (pc := 67) C dX3_wakeUp_67 kb_7 ?_
  refine r_iload_n (pc := 69) C 2 rfl rfl dX3_wakeUp_69 ?_
  refine r_iload_n (pc := 70) C 3 rfl rfl dX3_wakeUp_70 ?_
  refine r_cVV (pc := 71) C hRm (okX2_add h0 k (M6.1 3 k 0 5) (7 : Int32) v1 v2 M6 g7) (Rc.of C rfl rfl g7) mw_536 cvX2_add rfl ⟨Nat.le_of_ble_eq_true rfl, Nat.le_of_ble_eq_true rfl⟩ rfl (Nat.le_of_ble_eq_true rfl) dX3_wakeUp_71 (fun o9 M8 => ?_)
  refine r_iconst (pc := 74) C dX3_wakeUp_74 kc_2 ?_
  exact r_iret (pc := 75) C rfl dX3_wakeUp_75
  refine r_aload_n (pc := 30) C 1 rfl rfl dX3_wakeUp_30 ?_
  refine r_dup (pc := 31) C dX3_wakeUp_31 rfl ?_
  refine r_getI (pc := 32) C FX3_wasted mw_216 h_0 rfl rfl dX3_wakeUp_32 ?_
  refine r_iconst (pc := 35) C dX3_wakeUp_35 kc_1 ?_
  refine r_iadd (pc := 36) C dX3_wakeUp_36 ?_
  refine r_putI (pc := 37) C FX3_wasted mw_216 h_0 tyX3 tyX3_ok nmX3 (fun _ _ => rfl) rfl dX3_wakeUp_37 (fun M10 => ?_)
  refine r_iconst (pc := 40) C dX3_wakeUp_40 kc_3 ?_
  exact r_iret (pc := 41) C rfl dX3_wakeUp_41
  refine r_aload_n (pc := 15) C 1 rfl rfl dX3_wakeUp_15 ?_
  refine r_iload_n (pc := 16) C 2 rfl rfl dX3_wakeUp_16 ?_
  refine r_iconst (pc := 17) C dX3_wakeUp_17 kc_1 ?_
  refine r_cVV (pc := 18) C hRm (okX3_comeBack h0 k v1 (1 : Int32) M h_0) (Rc.of C rfl rfl h_0) mw_532 cvX3_comeBack rfl ⟨Nat.le_of_ble_eq_true rfl, Nat.le_of_ble_eq_true rfl⟩ rfl (Nat.le_of_ble_eq_true rfl) dX3_wakeUp_18 (fun o12 M11 => ?_)
  refine r_iconst (pc := 21) C dX3_wakeUp_21 kc_0 ?_
  exact r_iret (pc := 22) C rfl dX3_wakeUp_22
theorem okX3_wakeUp {l : Launch} {G : WT} (h0 : W0 G) (k : Nat) (v1 : Int32) (v2 : Int32) (M : Mem) (h_0 : G.2.2.2.1 3 k 0) : Okm l G yX3_wakeUp cX3_wakeUp 4 (some FieldType.int) 2 48 [.ref (G.1 3 k 0), .int v1, .int v2] voI M (pX3_wakeUp k v1 v2 M) :=
  Okm.of "PermitPark$Machine" rfl (by decide) (Nat.le_of_ble_eq_true rfl) (L := [(0, .ref (G.1 3 k 0)), (1, .int v1), (2, .int v2)]) rfl (fun K _ hr C => lX3_wakeUp_0 C (by rw [hr]; exact ⟨rfl, rfl⟩) h0 v1 v2 M h_0)
def pX3_tellOn (k : Nat) (v1 : Int32) (v2 : Int32) (M : Mem) : Option (Unit × Mem) :=
    chk (inB v1 10) <| if (M.1 5 k (v1.toNatClampNeg) 12) = (1 : Int32) then (chk (inB v1 10) <| nm (wI M 5 k (v1.toNatClampNeg) 12 (0 : Int32)) fun M5 => if (M5.1 3 k 0 4) ≤ v2 then (some ((), M5))
    else nm (wI M5 3 k 0 12 ((M5.1 3 k 0 12) + (1 : Int32))) fun M6 => bnd (pX2_add k (M6.1 3 k 0 5) (9 : Int32) v1 v2 M6) fun o9 M8 => bnd (pX3_wakeUp k v2 v1 M8) fun o11 M10 => some ((), M10))
    else some ((), M)
theorem lX3_tellOn_0 {K : KT} {G : WT} {k : Nat} (C : Cx K G "PermitPark$Machine" cX3_tellOn 3 none) (hRm : K.2.2.2.1.frames = 3 ∧ K.2.2.2.1.locals = 71) (h0 : W0 G) (v1 : Int32) (v2 : Int32) (M : Mem) (h_0 : G.2.2.2.1 3 k 0) : Run K G 3 0 0 (FinM K G voV 0 0) 0 [(0, .ref (G.1 3 k 0)), (1, .int v1), (2, .int v2)] [] M (pX3_tellOn k  v1 v2 M) := by
  rw [pX3_tellOn]
  refine r_aload_n (pc := 0) C 0 rfl rfl dX3_tellOn_0 ?_
  refine r_getR (pc := 1) C FX3_threads mw_199 h_0 rfl dX3_tellOn_1 (fun g1 => ?_)
  refine r_iload_n (pc := 4) C 1 rfl rfl dX3_tellOn_4 ?_
  refine r_aald (pc := 5) C (kd := 4) rfl rfl g1 rfl dX3_tellOn_5 (fun g2 => ?_)
  refine r_getI (pc := 6) C FX6_cause mw_139 g2 rfl rfl dX3_tellOn_6 ?_
  refine r_iconst (pc := 9) C dX3_tellOn_9 kc_1 ?_
  refine r_icmp_eq (pc := 10) C dX3_tellOn_10 (tgt := 14) rfl ?_ ?_
  refine r_aload_n (pc := 14) C 0 rfl rfl dX3_tellOn_14 ?_
  refine r_getR (pc := 15) C FX3_threads mw_199 h_0 rfl dX3_tellOn_15 (fun g3 => ?_)
  refine r_iload_n (pc := 18) C 1 rfl rfl dX3_tellOn_18 ?_
  refine r_aald (pc := 19) C (kd := 4) rfl rfl g1 rfl dX3_tellOn_19 (fun g4 => ?_)
  refine r_iconst (pc := 20) C dX3_tellOn_20 kc_0 ?_
  refine r_putI (pc := 21) C FX6_cause mw_139 g2 tyX6 tyX6_ok nmX6 (fun _ _ => rfl) rfl dX3_tellOn_21 (fun M5 => ?_)
  refine r_iload_n (pc := 24) C 2 rfl rfl dX3_tellOn_24 ?_
  refine r_aload_n (pc := 25) C 0 rfl rfl dX3_tellOn_25 ?_
  refine r_getI (pc := 26) C FX3_threadCount mw_207 h_0 rfl rfl dX3_tellOn_26 ?_
  refine r_icmp_ge (pc := 29) C dX3_tellOn_29 (tgt := 64) rfl ?_ ?_
  exact r_vret (pc := 64) C dX3_tellOn_64
  refine r_aload_n (pc := 32) C 0 rfl rfl dX3_tellOn_32 ?_
  refine r_dup (pc := 33) C dX3_tellOn_33 rfl ?_
  refine r_getI (pc := 34) C FX3_toldOn mw_218 h_0 rfl rfl dX3_tellOn_34 ?_
  refine r_iconst (pc := 37) C dX3_tellOn_37 kc_1 ?_
  refine r_iadd (pc := 38) C dX3_tellOn_38 ?_
  refine r_putI (pc := 39) C FX3_toldOn mw_218 h_0 tyX3 tyX3_ok nmX3 (fun _ _ => rfl) rfl dX3_tellOn_39 (fun M6 => ?_)
  refine r_aload_n (pc := 42) C 0 rfl rfl dX3_tellOn_42 ?_
  refine r_getR (pc := 43) C FX3_log mw_203 h_0 rfl dX3_tellOn_43 (fun g7 => ?_)
  refine r_aload_n (pc := 46) C 0 rfl rfl dX3_tellOn_46 ?_
  refine r_getI (pc := 47) C FX3_time mw_209 h_0 rfl rfl dX3_tellOn_47 ?_
  refine r_bipush (pc := 50) C dX3_tellOn_50 kb_9 ?_
  refine r_iload_n (pc := 52) C 1 rfl rfl dX3_tellOn_52 ?_
  refine r_iload_n (pc := 53) C 2 rfl rfl dX3_tellOn_53 ?_
  refine r_cVV (pc := 54) C hRm (okX2_add h0 k (M6.1 3 k 0 5) (9 : Int32) v1 v2 M6 g7) (Rc.of C rfl rfl g7) mw_536 cvX2_add rfl ⟨Nat.le_of_ble_eq_true rfl, Nat.le_of_ble_eq_true rfl⟩ rfl (Nat.le_of_ble_eq_true rfl) dX3_tellOn_54 (fun o9 M8 => ?_)
  refine r_aload_n (pc := 57) C 0 rfl rfl dX3_tellOn_57 ?_
  refine r_iload_n (pc := 58) C 2 rfl rfl dX3_tellOn_58 ?_
  refine r_iload_n (pc := 59) C 1 rfl rfl dX3_tellOn_59 ?_
  refine r_cVI (pc := 60) C hRm (okX3_wakeUp h0 k v2 v1 M8 h_0) (Rc.of C rfl rfl h_0) mw_609 cvX3_wakeUp rfl ⟨Nat.le_of_ble_eq_true rfl, Nat.le_of_ble_eq_true rfl⟩ rfl (Nat.le_of_ble_eq_true rfl) dX3_tellOn_60 (fun o11 M10 => ?_)
  refine r_pop (pc := 63) C dX3_tellOn_63 rfl ?_
  exact r_vret (pc := 64) C dX3_tellOn_64
  exact r_vret (pc := 13) C dX3_tellOn_13
theorem okX3_tellOn {l : Launch} {G : WT} (h0 : W0 G) (k : Nat) (v1 : Int32) (v2 : Int32) (M : Mem) (h_0 : G.2.2.2.1 3 k 0) : Okm l G yX3_tellOn cX3_tellOn 3 none 3 71 [.ref (G.1 3 k 0), .int v1, .int v2] voV M (pX3_tellOn k v1 v2 M) :=
  Okm.of "PermitPark$Machine" rfl (by decide) (Nat.le_of_ble_eq_true rfl) (L := [(0, .ref (G.1 3 k 0)), (1, .int v1), (2, .int v2)]) rfl (fun K _ hr C => lX3_tellOn_0 C (by rw [hr]; exact ⟨rfl, rfl⟩) h0 v1 v2 M h_0)
def pX3_stealPermit (k : Nat) (v1 : Int32) (v2 : Int32) (M : Mem) : Option (Unit × Mem) :=
    if (M.1 3 k 0 4) ≤ v2 then (some ((), M))
    else if v2 = v1 then (some ((), M))
    else chk (inB v2 10) <| if ¬ (M.1 5 k (v2.toNatClampNeg) 10) = 0 then (chk (inB v2 10) <| chk (decide ((0 : Int32) = 0 ∨ (0 : Int32) = 1)) <| nm (wI M 5 k (v2.toNatClampNeg) 10 (0 : Int32)) fun M5 => chk (inB v1 10) <| chk (decide ((1 : Int32) = 0 ∨ (1 : Int32) = 1)) <| nm (wI M5 5 k (v1.toNatClampNeg) 10 (1 : Int32)) fun M8 => nm (wI M8 3 k 0 11 ((M8.1 3 k 0 11) + (1 : Int32))) fun M9 => bnd (pX2_add k (M9.1 3 k 0 5) (8 : Int32) v1 v2 M9) fun o12 M11 => some ((), M11))
    else some ((), M)
theorem lX3_stealPermit_0 {K : KT} {G : WT} {k : Nat} (C : Cx K G "PermitPark$Machine" cX3_stealPermit 3 none) (hRm : K.2.2.2.1.frames = 1 ∧ K.2.2.2.1.locals = 25) (h0 : W0 G) (v1 : Int32) (v2 : Int32) (M : Mem) (h_0 : G.2.2.2.1 3 k 0) : Run K G 3 0 0 (FinM K G voV 0 0) 0 [(0, .ref (G.1 3 k 0)), (1, .int v1), (2, .int v2)] [] M (pX3_stealPermit k  v1 v2 M) := by
  rw [pX3_stealPermit]
  refine r_iload_n (pc := 0) C 2 rfl rfl dX3_stealPermit_0 ?_
  refine r_aload_n (pc := 1) C 0 rfl rfl dX3_stealPermit_1 ?_
  refine r_getI (pc := 2) C FX3_threadCount mw_207 h_0 rfl rfl dX3_stealPermit_2 ?_
  refine r_icmp_ge (pc := 5) C dX3_stealPermit_5 (tgt := 25) rfl ?_ ?_
  exact r_vret (pc := 25) C dX3_stealPermit_25
  refine r_iload_n (pc := 8) C 2 rfl rfl dX3_stealPermit_8 ?_
  refine r_iload_n (pc := 9) C 1 rfl rfl dX3_stealPermit_9 ?_
  refine r_icmp_eq (pc := 10) C dX3_stealPermit_10 (tgt := 25) rfl ?_ ?_
  exact r_vret (pc := 25) C dX3_stealPermit_25
  refine r_aload_n (pc := 13) C 0 rfl rfl dX3_stealPermit_13 ?_
  refine r_getR (pc := 14) C FX3_threads mw_199 h_0 rfl dX3_stealPermit_14 (fun g1 => ?_)
  refine r_iload_n (pc := 17) C 2 rfl rfl dX3_stealPermit_17 ?_
  refine r_aald (pc := 18) C (kd := 4) rfl rfl g1 rfl dX3_stealPermit_18 (fun g2 => ?_)
  refine r_getI (pc := 19) C FX6_hasPermit mw_135 g2 rfl rfl dX3_stealPermit_19 ?_
  refine r_if_ne (pc := 22) C dX3_stealPermit_22 (tgt := 26) rfl ?_ ?_
  refine r_aload_n (pc := 26) C 0 rfl rfl dX3_stealPermit_26 ?_
  refine r_getR (pc := 27) C FX3_threads mw_199 h_0 rfl dX3_stealPermit_27 (fun g3 => ?_)
  refine r_iload_n (pc := 30) C 2 rfl rfl dX3_stealPermit_30 ?_
  refine r_aald (pc := 31) C (kd := 4) rfl rfl g1 rfl dX3_stealPermit_31 (fun g4 => ?_)
  refine r_iconst (pc := 32) C dX3_stealPermit_32 kc_0 ?_
  refine r_putZ (pc := 33) C FX6_hasPermit mw_135 g2 tyX6 tyX6_ok nmX6 (fun _ _ => rfl) rfl dX3_stealPermit_33 (fun M5 => ?_)
  refine r_aload_n (pc := 36) C 0 rfl rfl dX3_stealPermit_36 ?_
  refine r_getR (pc := 37) C FX3_threads mw_199 h_0 rfl dX3_stealPermit_37 (fun g6 => ?_)
  refine r_iload_n (pc := 40) C 1 rfl rfl dX3_stealPermit_40 ?_
  refine r_aald (pc := 41) C (kd := 4) rfl rfl g1 rfl dX3_stealPermit_41 (fun g7 => ?_)
  refine r_iconst (pc := 42) C dX3_stealPermit_42 kc_1 ?_
  refine r_putZ (pc := 43) C FX6_hasPermit mw_135 g7 tyX6 tyX6_ok nmX6 (fun _ _ => rfl) rfl dX3_stealPermit_43 (fun M8 => ?_)
  refine r_aload_n (pc := 46) C 0 rfl rfl dX3_stealPermit_46 ?_
  refine r_dup (pc := 47) C dX3_stealPermit_47 rfl ?_
  refine r_getI (pc := 48) C FX3_stolen mw_217 h_0 rfl rfl dX3_stealPermit_48 ?_
  refine r_iconst (pc := 51) C dX3_stealPermit_51 kc_1 ?_
  refine r_iadd (pc := 52) C dX3_stealPermit_52 ?_
  refine r_putI (pc := 53) C FX3_stolen mw_217 h_0 tyX3 tyX3_ok nmX3 (fun _ _ => rfl) rfl dX3_stealPermit_53 (fun M9 => ?_)
  refine r_aload_n (pc := 56) C 0 rfl rfl dX3_stealPermit_56 ?_
  refine r_getR (pc := 57) C FX3_log mw_203 h_0 rfl dX3_stealPermit_57 (fun g10 => ?_)
  refine r_aload_n (pc := 60) C 0 rfl rfl dX3_stealPermit_60 ?_
  refine r_getI (pc := 61) C FX3_time mw_209 h_0 rfl rfl dX3_stealPermit_61 ?_
  refine r_bipush (pc := 64) C dX3_stealPermit_64 kb_8 ?_
  refine r_iload_n (pc := 66) C 1 rfl rfl dX3_stealPermit_66 ?_
  refine r_iload_n (pc := 67) C 2 rfl rfl dX3_stealPermit_67 ?_
  refine r_cVV (pc := 68) C hRm (okX2_add h0 k (M9.1 3 k 0 5) (8 : Int32) v1 v2 M9 g10) (Rc.of C rfl rfl g10) mw_536 cvX2_add rfl ⟨Nat.le_of_ble_eq_true rfl, Nat.le_of_ble_eq_true rfl⟩ rfl (Nat.le_of_ble_eq_true rfl) dX3_stealPermit_68 (fun o12 M11 => ?_)
  exact r_vret (pc := 71) C dX3_stealPermit_71
  exact r_vret (pc := 25) C dX3_stealPermit_25
theorem okX3_stealPermit {l : Launch} {G : WT} (h0 : W0 G) (k : Nat) (v1 : Int32) (v2 : Int32) (M : Mem) (h_0 : G.2.2.2.1 3 k 0) : Okm l G yX3_stealPermit cX3_stealPermit 3 none 1 25 [.ref (G.1 3 k 0), .int v1, .int v2] voV M (pX3_stealPermit k v1 v2 M) :=
  Okm.of "PermitPark$Machine" rfl (by decide) (Nat.le_of_ble_eq_true rfl) (L := [(0, .ref (G.1 3 k 0)), (1, .int v1), (2, .int v2)]) rfl (fun K _ hr C => lX3_stealPermit_0 C (by rw [hr]; exact ⟨rfl, rfl⟩) h0 v1 v2 M h_0)
def pX3_fail (k : Nat) (v1 : Int32) (M : Mem) : Option (Unit × Mem) :=
    chk (inB v1 10) <| nm (wI M 5 k (v1.toNatClampNeg) 7 (4 : Int32)) fun M3 => chk (inB v1 10) <| bnd (pX2_add k (M3.1 3 k 0 5) (6 : Int32) v1 (M3.1 5 k (v1.toNatClampNeg) 8) M3) fun o8 M7 => some ((), M7)
theorem lX3_fail_0 {K : KT} {G : WT} {k : Nat} (C : Cx K G "PermitPark$Machine" cX3_fail 2 none) (hRm : K.2.2.2.1.frames = 1 ∧ K.2.2.2.1.locals = 25) (h0 : W0 G) (v1 : Int32) (M : Mem) (h_0 : G.2.2.2.1 3 k 0) : Run K G 2 0 0 (FinM K G voV 0 0) 0 [(0, .ref (G.1 3 k 0)), (1, .int v1)] [] M (pX3_fail k  v1 M) := by
  rw [pX3_fail]
  refine r_aload_n (pc := 0) C 0 rfl rfl dX3_fail_0 ?_
  refine r_getR (pc := 1) C FX3_threads mw_199 h_0 rfl dX3_fail_1 (fun g1 => ?_)
  refine r_iload_n (pc := 4) C 1 rfl rfl dX3_fail_4 ?_
  refine r_aald (pc := 5) C (kd := 4) rfl rfl g1 rfl dX3_fail_5 (fun g2 => ?_)
  refine r_iconst (pc := 6) C dX3_fail_6 kc_4 ?_
  refine r_putI (pc := 7) C FX6_state mw_128 g2 tyX6 tyX6_ok nmX6 (fun _ _ => rfl) rfl dX3_fail_7 (fun M3 => ?_)
  refine r_aload_n (pc := 10) C 0 rfl rfl dX3_fail_10 ?_
  refine r_getR (pc := 11) C FX3_log mw_203 h_0 rfl dX3_fail_11 (fun g4 => ?_)
  refine r_aload_n (pc := 14) C 0 rfl rfl dX3_fail_14 ?_
  refine r_getI (pc := 15) C FX3_time mw_209 h_0 rfl rfl dX3_fail_15 ?_
  refine r_bipush (pc := 18) C dX3_fail_18 kb_6 ?_
  refine r_iload_n (pc := 20) C 1 rfl rfl dX3_fail_20 ?_
  refine r_aload_n (pc := 21) C 0 rfl rfl dX3_fail_21 ?_
  refine r_getR (pc := 22) C FX3_threads mw_199 h_0 rfl dX3_fail_22 (fun g5 => ?_)
  refine r_iload_n (pc := 25) C 1 rfl rfl dX3_fail_25 ?_
  refine r_aald (pc := 26) C (kd := 4) rfl rfl g1 rfl dX3_fail_26 (fun g6 => ?_)
  refine r_getI (pc := 27) C FX6_place mw_131 g2 rfl rfl dX3_fail_27 ?_
  refine r_cVV (pc := 30) C hRm (okX2_add h0 k (M3.1 3 k 0 5) (6 : Int32) v1 (M3.1 5 k (v1.toNatClampNeg) 8) M3 g4) (Rc.of C rfl rfl g4) mw_536 cvX2_add rfl ⟨Nat.le_of_ble_eq_true rfl, Nat.le_of_ble_eq_true rfl⟩ rfl (Nat.le_of_ble_eq_true rfl) dX3_fail_30 (fun o8 M7 => ?_)
  exact r_vret (pc := 33) C dX3_fail_33
theorem okX3_fail {l : Launch} {G : WT} (h0 : W0 G) (k : Nat) (v1 : Int32) (M : Mem) (h_0 : G.2.2.2.1 3 k 0) : Okm l G yX3_fail cX3_fail 2 none 1 25 [.ref (G.1 3 k 0), .int v1] voV M (pX3_fail k v1 M) :=
  Okm.of "PermitPark$Machine" rfl (by decide) (Nat.le_of_ble_eq_true rfl) (L := [(0, .ref (G.1 3 k 0)), (1, .int v1)]) rfl (fun K _ hr C => lX3_fail_0 C (by rw [hr]; exact ⟨rfl, rfl⟩) h0 v1 M h_0)
def pX3_takeLock (k : Nat) (v1 : Int32) (v2 : Int32) (M : Mem) : Option (Int32 × Mem) :=
    chk (inB v1 10) <| chk (inB v2 6) <| if ¬ (M.1 10 k 0 v2.toNatClampNeg) = (-1 : Int32) then (chk (inB v2 6) <| if ¬ (M.1 10 k 0 v2.toNatClampNeg) = v1 then (nm (wI M 5 k (v1.toNatClampNeg) 7 (2 : Int32)) fun M7 => nm (wI M7 5 k (v1.toNatClampNeg) 14 v2) fun M8 => bnd (pX1_addWaiter k v2 v1 M8) fun o11 M10 => chk (decide ((1 : Int32) = 0 ∨ (1 : Int32) = 1)) <| nm (wI M10 3 k 0 13 (1 : Int32)) fun M12 => bnd (pX2_add k (M12.1 3 k 0 5) (2 : Int32) v1 v2 M12) fun o15 M14 => chk (decide ((0 : Int32) = 0 ∨ (0 : Int32) = 1)) (some ((0 : Int32), M14)))
    else bnd (pX3_fail k v1 M) fun o17 M16 => chk (decide ((0 : Int32) = 0 ∨ (0 : Int32) = 1)) (some ((0 : Int32), M16)))
    else chk (inB v2 6) <| nm (wI M 10 k 0 v2.toNatClampNeg v1) fun M20 => bnd (pX2_add k (M20.1 3 k 0 5) (3 : Int32) v1 v2 M20) fun o23 M22 => chk (decide ((1 : Int32) = 0 ∨ (1 : Int32) = 1)) (some ((1 : Int32), M22))
theorem lX3_takeLock_0 {K : KT} {G : WT} {k : Nat} (C : Cx K G "PermitPark$Machine" cX3_takeLock 4 (some FieldType.boolean)) (hRm : K.2.2.2.1.frames = 2 ∧ K.2.2.2.1.locals = 46) (h0 : W0 G) (v1 : Int32) (v2 : Int32) (M : Mem) (h_0 : G.2.2.2.1 3 k 0) : Run K G 4 0 0 (FinM K G voI 0 0) 0 [(0, .ref (G.1 3 k 0)), (1, .int v1), (2, .int v2)] [] M (pX3_takeLock k  v1 v2 M) := by
  rw [pX3_takeLock]
  refine r_aload_n (pc := 0) C 0 rfl rfl dX3_takeLock_0 ?_
  refine r_getR (pc := 1) C FX3_threads mw_199 h_0 rfl dX3_takeLock_1 (fun g1 => ?_)
  refine r_iload_n (pc := 4) C 1 rfl rfl dX3_takeLock_4 ?_
  refine r_aald (pc := 5) C (kd := 4) rfl rfl g1 rfl dX3_takeLock_5 (fun g2 => ?_)
  refine r_astore_n (pc := 6) C [(3, .ref (G.1 5 k (v1.toNatClampNeg))), (0, .ref (G.1 3 k 0)), (1, .int v1), (2, .int v2)] dX3_takeLock_6 rfl (by decide) rfl ?_
  refine r_aload_n (pc := 7) C 1 rfl rfl dX3_takeLock_7 ?_
  refine r_getR (pc := 8) C FX3_locks mw_201 h_0 rfl dX3_takeLock_8 (fun g3 => ?_)
  refine r_getR (pc := 11) C FX1_holders mw_71 g3 rfl dX3_takeLock_11 (fun g4 => ?_)
  refine r_iload_n (pc := 14) C 3 rfl rfl dX3_takeLock_14 ?_
  refine r_iald (pc := 15) C rfl g4 (fun _ => rfl) (fun _ => rfl) dX3_takeLock_15 ?_
  refine r_iconst (pc := 16) C dX3_takeLock_16 kc_m1 ?_
  refine r_icmp_ne (pc := 17) C dX3_takeLock_17 (tgt := 46) rfl ?_ ?_
  refine r_aload_n (pc := 46) C 1 rfl rfl dX3_takeLock_46 ?_
  refine r_getR (pc := 47) C FX3_locks mw_201 h_0 rfl dX3_takeLock_47 (fun g5 => ?_)
  refine r_getR (pc := 50) C FX1_holders mw_71 g3 rfl dX3_takeLock_50 (fun g6 => ?_)
  refine r_iload_n (pc := 53) C 3 rfl rfl dX3_takeLock_53 ?_
  refine r_iald (pc := 54) C rfl g4 (fun _ => rfl) (fun _ => rfl) dX3_takeLock_54 ?_
  refine r_iload_n (pc := 55) C 2 rfl rfl dX3_takeLock_55 ?_
  refine r_icmp_ne (pc := 56) C dX3_takeLock_56 (tgt := 66) rfl ?_ ?_
  refine r_aload_n (pc := 66) C 0 rfl rfl dX3_takeLock_66 ?_
  refine r_iconst (pc := 67) C dX3_takeLock_67 kc_2 ?_
  refine r_putI (pc := 68) C FX6_state mw_128 g2 tyX6 tyX6_ok nmX6 (fun _ _ => rfl) rfl dX3_takeLock_68 (fun M7 => ?_)
  refine r_aload_n (pc := 71) C 0 rfl rfl dX3_takeLock_71 ?_
  refine r_iload_n (pc := 72) C 3 rfl rfl dX3_takeLock_72 ?_
  refine r_putI (pc := 73) C FX6_blockedAt mw_143 g2 tyX6 tyX6_ok nmX6 (fun _ _ => rfl) rfl dX3_takeLock_73 (fun M8 => ?_)
  refine r_aload_n (pc := 76) C 1 rfl rfl dX3_takeLock_76 ?_
  refine r_getR (pc := 77) C FX3_locks mw_201 h_0 rfl dX3_takeLock_77 (fun g9 => ?_)
  refine r_iload_n (pc := 80) C 3 rfl rfl dX3_takeLock_80 ?_
  refine r_iload_n (pc := 81) C 2 rfl rfl dX3_takeLock_81 ?_
  refine r_cVV (pc := 82) C hRm (okX1_addWaiter h0 k v2 v1 M8 g3) (Rc.of C rfl rfl g3) mw_630 cvX1_addWaiter rfl ⟨Nat.le_of_ble_eq_true rfl, Nat.le_of_ble_eq_true rfl⟩ rfl (Nat.le_of_ble_eq_true rfl) dX3_takeLock_82 (fun o11 M10 => ?_)
  refine r_aload_n (pc := 85) C 1 rfl rfl dX3_takeLock_85 ?_
  refine r_iconst (pc := 86) C dX3_takeLock_86 kc_1 ?_
  refine r_putZ (pc := 87) C FX3_arePrioritiesOld mw_219 h_0 tyX3 tyX3_ok nmX3 (fun _ _ => rfl) rfl dX3_takeLock_87 (fun M12 => ?_)
  refine r_aload_n (pc := 90) C 1 rfl rfl dX3_takeLock_90 ?_
  refine r_getR (pc := 91) C FX3_log mw_203 h_0 rfl dX3_takeLock_91 (fun g13 => ?_)
  refine r_aload_n (pc := 94) C 1 rfl rfl dX3_takeLock_94 ?_
  refine r_getI (pc := 95) C FX3_time mw_209 h_0 rfl rfl dX3_takeLock_95 ?_
  refine r_iconst (pc := 98) C dX3_takeLock_98 kc_2 ?_
  refine r_iload_n (pc := 99) C 2 rfl rfl dX3_takeLock_99 ?_
  refine r_iload_n (pc := 100) C 3 rfl rfl dX3_takeLock_100 ?_
  refine r_cVV (pc := 101) C hRm (okX2_add h0 k (M12.1 3 k 0 5) (2 : Int32) v1 v2 M12 g13) (Rc.of C rfl rfl g13) mw_536 cvX2_add rfl ⟨Nat.le_of_ble_eq_true rfl, Nat.le_of_ble_eq_true rfl⟩ rfl (Nat.le_of_ble_eq_true rfl) dX3_takeLock_101 (fun o15 M14 => ?_)
  refine r_iconst (pc := 104) C dX3_takeLock_104 kc_0 ?_
  exact r_zret (pc := 105) C dX3_takeLock_105
  refine r_aload_n (pc := 59) C 1 rfl rfl dX3_takeLock_59 ?_
  refine r_iload_n (pc := 60) C 2 rfl rfl dX3_takeLock_60 ?_
  refine r_cVV (pc := 61) C hRm (okX3_fail h0 k v1 M h_0) (Rc.of C rfl rfl h_0) mw_626 cvX3_fail rfl ⟨Nat.le_of_ble_eq_true rfl, Nat.le_of_ble_eq_true rfl⟩ rfl (Nat.le_of_ble_eq_true rfl) dX3_takeLock_61 (fun o17 M16 => ?_)
  refine r_iconst (pc := 64) C dX3_takeLock_64 kc_0 ?_
  exact r_zret (pc := 65) C dX3_takeLock_65
  refine r_aload_n (pc := 20) C 1 rfl rfl dX3_takeLock_20 ?_
  refine r_getR (pc := 21) C FX3_locks mw_201 h_0 rfl dX3_takeLock_21 (fun g18 => ?_)
  refine r_getR (pc := 24) C FX1_holders mw_71 g3 rfl dX3_takeLock_24 (fun g19 => ?_)
  refine r_iload_n (pc := 27) C 3 rfl rfl dX3_takeLock_27 ?_
  refine r_iload_n (pc := 28) C 2 rfl rfl dX3_takeLock_28 ?_
  refine r_iast (pc := 29) C rfl g4 (fun _ => rfl) (fun _ => rfl) dX3_takeLock_29 (fun M20 => ?_)
  refine r_aload_n (pc := 30) C 1 rfl rfl dX3_takeLock_30 ?_
  refine r_getR (pc := 31) C FX3_log mw_203 h_0 rfl dX3_takeLock_31 (fun g21 => ?_)
  refine r_aload_n (pc := 34) C 1 rfl rfl dX3_takeLock_34 ?_
  refine r_getI (pc := 35) C FX3_time mw_209 h_0 rfl rfl dX3_takeLock_35 ?_
  refine r_iconst (pc := 38) C dX3_takeLock_38 kc_3 ?_
  refine r_iload_n (pc := 39) C 2 rfl rfl dX3_takeLock_39 ?_
  refine r_iload_n (pc := 40) C 3 rfl rfl dX3_takeLock_40 ?_
  refine r_cVV (pc := 41) C hRm (okX2_add h0 k (M20.1 3 k 0 5) (3 : Int32) v1 v2 M20 g21) (Rc.of C rfl rfl g21) mw_536 cvX2_add rfl ⟨Nat.le_of_ble_eq_true rfl, Nat.le_of_ble_eq_true rfl⟩ rfl (Nat.le_of_ble_eq_true rfl) dX3_takeLock_41 (fun o23 M22 => ?_)
  refine r_iconst (pc := 44) C dX3_takeLock_44 kc_1 ?_
  exact r_zret (pc := 45) C dX3_takeLock_45
theorem okX3_takeLock {l : Launch} {G : WT} (h0 : W0 G) (k : Nat) (v1 : Int32) (v2 : Int32) (M : Mem) (h_0 : G.2.2.2.1 3 k 0) : Okm l G yX3_takeLock cX3_takeLock 4 (some FieldType.boolean) 2 46 [.ref (G.1 3 k 0), .int v1, .int v2] voI M (pX3_takeLock k v1 v2 M) :=
  Okm.of "PermitPark$Machine" rfl (by decide) (Nat.le_of_ble_eq_true rfl) (L := [(0, .ref (G.1 3 k 0)), (1, .int v1), (2, .int v2)]) rfl (fun K _ hr C => lX3_takeLock_0 C (by rw [hr]; exact ⟨rfl, rfl⟩) h0 v1 v2 M h_0)
def pX3_unlock (k : Nat) (v1 : Int32) (v2 : Int32) (M : Mem) : Option (Int32 × Mem) :=
    chk (inB v2 6) <| if (M.1 10 k 0 v2.toNatClampNeg) = v1 then (bnd (pX3_giveUp k v2 M) fun o4 M3 => chk (decide ((1 : Int32) = 0 ∨ (1 : Int32) = 1)) (some ((1 : Int32), M3)))
    else bnd (pX3_fail k v1 M) fun o6 M5 => chk (decide ((0 : Int32) = 0 ∨ (0 : Int32) = 1)) (some ((0 : Int32), M5))
theorem lX3_unlock_0 {K : KT} {G : WT} {k : Nat} (C : Cx K G "PermitPark$Machine" cX3_unlock 3 (some FieldType.boolean)) (hRm : K.2.2.2.1.frames = 3 ∧ K.2.2.2.1.locals = 68) (h0 : W0 G) (v1 : Int32) (v2 : Int32) (M : Mem) (h_0 : G.2.2.2.1 3 k 0) : Run K G 3 0 0 (FinM K G voI 0 0) 0 [(0, .ref (G.1 3 k 0)), (1, .int v1), (2, .int v2)] [] M (pX3_unlock k  v1 v2 M) := by
  rw [pX3_unlock]
  refine r_aload_n (pc := 0) C 0 rfl rfl dX3_unlock_0 ?_
  refine r_getR (pc := 1) C FX3_locks mw_201 h_0 rfl dX3_unlock_1 (fun g1 => ?_)
  refine r_getR (pc := 4) C FX1_holders mw_71 g1 rfl dX3_unlock_4 (fun g2 => ?_)
  refine r_iload_n (pc := 7) C 2 rfl rfl dX3_unlock_7 ?_
  refine r_iald (pc := 8) C rfl g2 (fun _ => rfl) (fun _ => rfl) dX3_unlock_8 ?_
  refine r_iload_n (pc := 9) C 1 rfl rfl dX3_unlock_9 ?_
  refine r_icmp_eq (pc := 10) C dX3_unlock_10 (tgt := 20) rfl ?_ ?_
  refine r_aload_n (pc := 20) C 0 rfl rfl dX3_unlock_20 ?_
  refine r_iload_n (pc := 21) C 2 rfl rfl dX3_unlock_21 ?_
  refine r_cVV (pc := 22) C hRm (okX3_giveUp h0 k v2 M h_0) (Rc.of C rfl rfl h_0) mw_552 cvX3_giveUp rfl ⟨Nat.le_of_ble_eq_true rfl, Nat.le_of_ble_eq_true rfl⟩ rfl (Nat.le_of_ble_eq_true rfl) dX3_unlock_22 (fun o4 M3 => ?_)
  refine r_iconst (pc := 25) C dX3_unlock_25 kc_1 ?_
  exact r_zret (pc := 26) C dX3_unlock_26
  refine r_aload_n (pc := 13) C 0 rfl rfl dX3_unlock_13 ?_
  refine r_iload_n (pc := 14) C 1 rfl rfl dX3_unlock_14 ?_
  refine r_cVV (pc := 15) C hRm (okX3_fail h0 k v1 M h_0) (Rc.of C rfl rfl h_0) mw_626 cvX3_fail rfl ⟨Nat.le_of_ble_eq_true rfl, Nat.le_of_ble_eq_true rfl⟩ rfl (Nat.le_of_ble_eq_true rfl) dX3_unlock_15 (fun o6 M5 => ?_)
  refine r_iconst (pc := 18) C dX3_unlock_18 kc_0 ?_
  exact r_zret (pc := 19) C dX3_unlock_19
theorem okX3_unlock {l : Launch} {G : WT} (h0 : W0 G) (k : Nat) (v1 : Int32) (v2 : Int32) (M : Mem) (h_0 : G.2.2.2.1 3 k 0) : Okm l G yX3_unlock cX3_unlock 3 (some FieldType.boolean) 3 68 [.ref (G.1 3 k 0), .int v1, .int v2] voI M (pX3_unlock k v1 v2 M) :=
  Okm.of "PermitPark$Machine" rfl (by decide) (Nat.le_of_ble_eq_true rfl) (L := [(0, .ref (G.1 3 k 0)), (1, .int v1), (2, .int v2)]) rfl (fun K _ hr C => lX3_unlock_0 C (by rw [hr]; exact ⟨rfl, rfl⟩) h0 v1 v2 M h_0)
def pX3_perform (k : Nat) (v1 : Int32) (M : Mem) : Option (Int32 × Mem) :=
    chk (inB v1 10) <| nm (wI M 5 k (v1.toNatClampNeg) 15 ((M.1 5 k (v1.toNatClampNeg) 15) + (1 : Int32))) fun M3 => nm (wI M3 5 k (v1.toNatClampNeg) 16 (M3.1 3 k 0 5)) fun M4 => if (M4.1 5 k (v1.toNatClampNeg) 8) < (M4.1 5 k (v1.toNatClampNeg) 3) then (chk (inB (M4.1 5 k (v1.toNatClampNeg) 8) 16) <| nm (M4.1 7 k (v1.toNatClampNeg) (M4.1 5 k (v1.toNatClampNeg) 8).toNatClampNeg) fun x6 => chk (inB (M4.1 5 k (v1.toNatClampNeg) 8) 16) <| chk (inB (M4.1 6 k (v1.toNatClampNeg) (M4.1 5 k (v1.toNatClampNeg) 8).toNatClampNeg) 11) <| bnd (pJx29ce0_ordinal_8abf5 ((M4.1 6 k (v1.toNatClampNeg) (M4.1 5 k (v1.toNatClampNeg) 8).toNatClampNeg).toNatClampNeg) M4) fun o10 M9 => chk (inB o10 11) <| nm (swF o10) fun x11 => if x11 = (1 : Int32) then (nm (wI M9 5 k (v1.toNatClampNeg) 9 ((M9.1 5 k (v1.toNatClampNeg) 9) + (1 : Int32))) fun M13 => if (M13.1 5 k (v1.toNatClampNeg) 9) < x6 then (chk (decide ((0 : Int32) = 0 ∨ (0 : Int32) = 1)) (some ((0 : Int32), M13)))
    else chk (decide ((1 : Int32) = 0 ∨ (1 : Int32) = 1)) (some ((1 : Int32), M13)))
    else if x11 = (2 : Int32) then (bnd (pX3_park k v1 (-1 : Int32) M9) fun o16 M15 => chk (decide ((1 : Int32) = 0 ∨ (1 : Int32) = 1)) (some ((1 : Int32), M15)))
    else if x11 = (3 : Int32) then (bnd (pX3_park k v1 ((M9.1 3 k 0 5) + x6) M9) fun o19 M18 => chk (decide ((1 : Int32) = 0 ∨ (1 : Int32) = 1)) (some ((1 : Int32), M18)))
    else if x11 = (4 : Int32) then (bnd (pX3_isFlagOn k x6 M9) fun o22 M21 => if o22 = 0 then (bnd (pX3_park k v1 (-1 : Int32) M21) fun o24 M23 => chk (decide ((0 : Int32) = 0 ∨ (0 : Int32) = 1)) (some ((0 : Int32), M23)))
    else chk (decide ((1 : Int32) = 0 ∨ (1 : Int32) = 1)) (some ((1 : Int32), M21)))
    else if x11 = (5 : Int32) then (bnd (pX3_turnFlag k x6 (1 : Int32) M9) fun o27 M26 => chk (decide ((1 : Int32) = 0 ∨ (1 : Int32) = 1)) (some ((1 : Int32), M26)))
    else if x11 = (6 : Int32) then (bnd (pX3_turnFlag k x6 (0 : Int32) M9) fun o30 M29 => chk (decide ((1 : Int32) = 0 ∨ (1 : Int32) = 1)) (some ((1 : Int32), M29)))
    else if x11 = (7 : Int32) then (if (M9.1 3 k 0 4) ≤ x6 then (chk (decide ((1 : Int32) = 0 ∨ (1 : Int32) = 1)) (some ((1 : Int32), M9)))
    else bnd (pX3_wakeUp k x6 v1 M9) fun o33 M32 => chk (decide ((1 : Int32) = 0 ∨ (1 : Int32) = 1)) (some ((1 : Int32), M32)))
    else if x11 = (8 : Int32) then (bnd (pX3_tellOn k v1 x6 M9) fun o36 M35 => chk (decide ((1 : Int32) = 0 ∨ (1 : Int32) = 1)) (some ((1 : Int32), M35)))
    else if x11 = (9 : Int32) then (bnd (pX3_stealPermit k v1 x6 M9) fun o39 M38 => chk (decide ((1 : Int32) = 0 ∨ (1 : Int32) = 1)) (some ((1 : Int32), M38)))
    else if x11 = (10 : Int32) then (bnd (pX3_takeLock k v1 x6 M9) fun o42 M41 => chk (decide (o42 = 0 ∨ o42 = 1)) (some (o42, M41)))
    else bnd (pX3_unlock k v1 x6 M9) fun o44 M43 => chk (decide (o44 = 0 ∨ o44 = 1)) (some (o44, M43)))
    else chk (decide ((0 : Int32) = 0 ∨ (0 : Int32) = 1)) (some ((0 : Int32), M4))
theorem lX3_perform_0 {K : KT} {G : WT} {k : Nat} (C : Cx K G "PermitPark$Machine" cX3_perform 4 (some FieldType.boolean)) (hRm : K.2.2.2.1.frames = 4 ∧ K.2.2.2.1.locals = 93) (h0 : W0 G) (v1 : Int32) (M : Mem) (h_0 : G.2.2.2.1 3 k 0) : Run K G 4 0 0 (FinM K G voI 0 0) 0 [(0, .ref (G.1 3 k 0)), (1, .int v1)] [] M (pX3_perform k  v1 M) := by
  rw [pX3_perform]
  refine r_aload_n (pc := 0) C 0 rfl rfl dX3_perform_0 ?_
  refine r_getR (pc := 1) C FX3_threads mw_199 h_0 rfl dX3_perform_1 (fun g1 => ?_)
  refine r_iload_n (pc := 4) C 1 rfl rfl dX3_perform_4 ?_
  refine r_aald (pc := 5) C (kd := 4) rfl rfl g1 rfl dX3_perform_5 (fun g2 => ?_)
  refine r_astore_n (pc := 6) C [(2, .ref (G.1 5 k (v1.toNatClampNeg))), (0, .ref (G.1 3 k 0)), (1, .int v1)] dX3_perform_6 rfl (by decide) rfl ?_
  refine r_aload_n (pc := 7) C 0 rfl rfl dX3_perform_7 ?_
  refine r_dup (pc := 8) C dX3_perform_8 rfl ?_
  refine r_getI (pc := 9) C FX6_ticksRun mw_145 g2 rfl rfl dX3_perform_9 ?_
  refine r_iconst (pc := 12) C dX3_perform_12 kc_1 ?_
  refine r_iadd (pc := 13) C dX3_perform_13 ?_
  refine r_putI (pc := 14) C FX6_ticksRun mw_145 g2 tyX6 tyX6_ok nmX6 (fun _ _ => rfl) rfl dX3_perform_14 (fun M3 => ?_)
  refine r_aload_n (pc := 17) C 0 rfl rfl dX3_perform_17 ?_
  refine r_aload_n (pc := 18) C 1 rfl rfl dX3_perform_18 ?_
  refine r_getI (pc := 19) C FX3_time mw_209 h_0 rfl rfl dX3_perform_19 ?_
  refine r_putI (pc := 22) C FX6_lastRun mw_147 g2 tyX6 tyX6_ok nmX6 (fun _ _ => rfl) rfl dX3_perform_22 (fun M4 => ?_)
  refine r_aload_n (pc := 25) C 0 rfl rfl dX3_perform_25 ?_
  refine r_getI (pc := 26) C FX6_place mw_131 g2 rfl rfl dX3_perform_26 ?_
  refine r_aload_n (pc := 29) C 0 rfl rfl dX3_perform_29 ?_
  refine r_getI (pc := 30) C FX6_length mw_118 g2 rfl rfl dX3_perform_30 ?_
  refine r_icmp_lt (pc := 33) C dX3_perform_33 (tgt := 38) rfl ?_ ?_
  refine r_aload_n (pc := 38) C 0 rfl rfl dX3_perform_38 ?_
  refine r_getR (pc := 39) C FX6_numbers mw_113 g2 rfl dX3_perform_39 (fun g5 => ?_)
  refine r_aload_n (pc := 42) C 0 rfl rfl dX3_perform_42 ?_
  refine r_getI (pc := 43) C FX6_place mw_131 g2 rfl rfl dX3_perform_43 ?_
  refine r_iald (pc := 46) C rfl g5 (fun _ => rfl) (fun _ => rfl) dX3_perform_46 ?_
  refine r_nmi (fun x6 => ?_)
  refine r_istore_n (pc := 47) C [(3, .int x6), (2, .ref (G.1 5 k (v1.toNatClampNeg))), (0, .ref (G.1 3 k 0)), (1, .int v1)] dX3_perform_47 rfl (by decide) rfl ?_
  refine r_gSw (pc := 48) C mw_588 dX3_perform_48 ?_
  refine r_gOpsN (pc := 51) (host := "PermitPark") C (by decide +kernel) dX3_perform_51 ?_
  refine r_aload_n (pc := 54) C 1 rfl rfl dX3_perform_54 ?_
  refine r_getR (pc := 55) C FX6_codes mw_111 g2 rfl dX3_perform_55 (fun g7 => ?_)
  refine r_aload_n (pc := 58) C 1 rfl rfl dX3_perform_58 ?_
  refine r_getI (pc := 59) C FX6_place mw_131 g2 rfl rfl dX3_perform_59 ?_
  refine r_iald (pc := 62) C rfl g7 (fun _ => rfl) (fun _ => rfl) dX3_perform_62 ?_
  refine r_opsL (pc := 63) C dX3_perform_63 (fun g8 => ?_)
  refine r_ordinal (pc := 64) C hRm g8 mw_591 ⟨Nat.le_of_ble_eq_true rfl, Nat.le_of_ble_eq_true rfl⟩ (Nat.le_of_ble_eq_true rfl) dX3_perform_64 (fun o10 M9 => ?_)
  refine r_swL (pc := 67) C dX3_perform_67 ?_
  refine r_nmi (fun x11 => ?_)
  refine r_ite (fun e12 => ?_) (fun e12n => ?_)
  refine r_tabE (pc := 68) C e12 dX3_perform_68 (by decide) (by decide) (off := 56) rfl (tgt := 124) rfl ?_
  refine r_aload_n (pc := 124) C 1 rfl rfl dX3_perform_124 ?_
  refine r_dup (pc := 125) C dX3_perform_125 rfl ?_
  refine r_getI (pc := 126) C FX6_worked mw_133 g2 rfl rfl dX3_perform_126 ?_
  refine r_iconst (pc := 129) C dX3_perform_129 kc_1 ?_
  refine r_iadd (pc := 130) C dX3_perform_130 ?_
  refine r_putI (pc := 131) C FX6_worked mw_133 g2 tyX6 tyX6_ok nmX6 (fun _ _ => rfl) rfl dX3_perform_131 (fun M13 => ?_)
  refine r_aload_n (pc := 134) C 1 rfl rfl dX3_perform_134 ?_
  refine r_getI (pc := 135) C FX6_worked mw_133 g2 rfl rfl dX3_perform_135 ?_
  refine r_iload_n (pc := 138) C 0 rfl rfl dX3_perform_138 ?_
  refine r_icmp_lt (pc := 139) C dX3_perform_139 (tgt := 146) rfl ?_ ?_
  refine r_iconst (pc := 146) C dX3_perform_146 kc_0 ?_
  exact r_zret (pc := 147) C dX3_perform_147
  refine r_iconst (pc := 142) C dX3_perform_142 kc_1 ?_
  refine r_goto (pc := 143) C dX3_perform_143 (tgt := 147) rfl ?_
  exact r_zret (pc := 147) C dX3_perform_147
  refine r_ite (fun e14 => ?_) (fun e14n => ?_)
  refine r_tabE (pc := 68) C e14 dX3_perform_68 (by decide) (by decide) (off := 80) rfl (tgt := 148) rfl ?_
  refine r_aload_n (pc := 148) C 2 rfl rfl dX3_perform_148 ?_
  refine r_iload_n (pc := 149) C 3 rfl rfl dX3_perform_149 ?_
  refine r_iconst (pc := 150) C dX3_perform_150 kc_m1 ?_
  refine r_cVV (pc := 151) C hRm (okX3_park h0 k v1 (-1 : Int32) M9 h_0) (Rc.of C rfl rfl h_0) mw_597 cvX3_park rfl ⟨Nat.le_of_ble_eq_true rfl, Nat.le_of_ble_eq_true rfl⟩ rfl (Nat.le_of_ble_eq_true rfl) dX3_perform_151 (fun o16 M15 => ?_)
  refine r_iconst (pc := 154) C dX3_perform_154 kc_1 ?_
  exact r_zret (pc := 155) C dX3_perform_155
  refine r_ite (fun e17 => ?_) (fun e17n => ?_)
  refine r_tabE (pc := 68) C e17 dX3_perform_68 (by decide) (by decide) (off := 88) rfl (tgt := 156) rfl ?_
  refine r_aload_n (pc := 156) C 2 rfl rfl dX3_perform_156 ?_
  refine r_iload_n (pc := 157) C 3 rfl rfl dX3_perform_157 ?_
  refine r_aload_n (pc := 158) C 2 rfl rfl dX3_perform_158 ?_
  refine r_getI (pc := 159) C FX3_time mw_209 h_0 rfl rfl dX3_perform_159 ?_
  refine r_iload_n (pc := 162) C 0 rfl rfl dX3_perform_162 ?_
  refine r_iadd (pc := 163) C dX3_perform_163 ?_
  refine r_cVV (pc := 164) C hRm (okX3_park h0 k v1 ((M9.1 3 k 0 5) + x6) M9 h_0) (Rc.of C rfl rfl h_0) mw_597 cvX3_park rfl ⟨Nat.le_of_ble_eq_true rfl, Nat.le_of_ble_eq_true rfl⟩ rfl (Nat.le_of_ble_eq_true rfl) dX3_perform_164 (fun o19 M18 => ?_)
  refine r_iconst (pc := 167) C dX3_perform_167 kc_1 ?_
  exact r_zret (pc := 168) C dX3_perform_168
  refine r_ite (fun e20 => ?_) (fun e20n => ?_)
  refine r_tabE (pc := 68) C e20 dX3_perform_68 (by decide) (by decide) (off := 101) rfl (tgt := 169) rfl ?_
  refine r_aload_n (pc := 169) C 2 rfl rfl dX3_perform_169 ?_
  refine r_iload_n (pc := 170) C 0 rfl rfl dX3_perform_170 ?_
  refine r_cVI (pc := 171) C hRm (okX3_isFlagOn h0 k x6 M9 h_0) (Rc.of C rfl rfl h_0) mw_601 cvX3_isFlagOn rfl ⟨Nat.le_of_ble_eq_true rfl, Nat.le_of_ble_eq_true rfl⟩ rfl (Nat.le_of_ble_eq_true rfl) dX3_perform_171 (fun o22 M21 => ?_)
  refine r_if_eq (pc := 174) C dX3_perform_174 (tgt := 179) rfl ?_ ?_
  refine r_aload_n (pc := 179) C 2 rfl rfl dX3_perform_179 ?_
  refine r_iload_n (pc := 180) C 3 rfl rfl dX3_perform_180 ?_
  refine r_iconst (pc := 181) C dX3_perform_181 kc_m1 ?_
  refine r_cVV (pc := 182) C hRm (okX3_park h0 k v1 (-1 : Int32) M21 h_0) (Rc.of C rfl rfl h_0) mw_597 cvX3_park rfl ⟨Nat.le_of_ble_eq_true rfl, Nat.le_of_ble_eq_true rfl⟩ rfl (Nat.le_of_ble_eq_true rfl) dX3_perform_182 (fun o24 M23 => ?_)
  refine r_iconst (pc := 185) C dX3_perform_185 kc_0 ?_
  exact r_zret (pc := 186) C dX3_perform_186
  refine r_iconst (pc := 177) C dX3_perform_177 kc_1 ?_
  exact r_zret (pc := 178) C dX3_perform_178
  refine r_ite (fun e25 => ?_) (fun e25n => ?_)
  refine r_tabE (pc := 68) C e25 dX3_perform_68 (by decide) (by decide) (off := 119) rfl (tgt := 187) rfl ?_
  refine r_aload_n (pc := 187) C 2 rfl rfl dX3_perform_187 ?_
  refine r_iload_n (pc := 188) C 0 rfl rfl dX3_perform_188 ?_
  refine r_iconst (pc := 189) C dX3_perform_189 kc_1 ?_
  refine r_cVV (pc := 190) C hRm (okX3_turnFlag h0 k x6 (1 : Int32) M9 h_0) (Rc.of C rfl rfl h_0) mw_605 cvX3_turnFlag rfl ⟨Nat.le_of_ble_eq_true rfl, Nat.le_of_ble_eq_true rfl⟩ rfl (Nat.le_of_ble_eq_true rfl) dX3_perform_190 (fun o27 M26 => ?_)
  refine r_iconst (pc := 193) C dX3_perform_193 kc_1 ?_
  exact r_zret (pc := 194) C dX3_perform_194
  refine r_ite (fun e28 => ?_) (fun e28n => ?_)
  refine r_tabE (pc := 68) C e28 dX3_perform_68 (by decide) (by decide) (off := 127) rfl (tgt := 195) rfl ?_
  refine r_aload_n (pc := 195) C 2 rfl rfl dX3_perform_195 ?_
  refine r_iload_n (pc := 196) C 0 rfl rfl dX3_perform_196 ?_
  refine r_iconst (pc := 197) C dX3_perform_197 kc_0 ?_
  refine r_cVV (pc := 198) C hRm (okX3_turnFlag h0 k x6 (0 : Int32) M9 h_0) (Rc.of C rfl rfl h_0) mw_605 cvX3_turnFlag rfl ⟨Nat.le_of_ble_eq_true rfl, Nat.le_of_ble_eq_true rfl⟩ rfl (Nat.le_of_ble_eq_true rfl) dX3_perform_198 (fun o30 M29 => ?_)
  refine r_iconst (pc := 201) C dX3_perform_201 kc_1 ?_
  exact r_zret (pc := 202) C dX3_perform_202
  refine r_ite (fun e31 => ?_) (fun e31n => ?_)
  refine r_tabE (pc := 68) C e31 dX3_perform_68 (by decide) (by decide) (off := 135) rfl (tgt := 203) rfl ?_
  refine r_iload_n (pc := 203) C 0 rfl rfl dX3_perform_203 ?_
  refine r_aload_n (pc := 204) C 2 rfl rfl dX3_perform_204 ?_
  refine r_getI (pc := 205) C FX3_threadCount mw_207 h_0 rfl rfl dX3_perform_205 ?_
  refine r_icmp_ge (pc := 208) C dX3_perform_208 (tgt := 218) rfl ?_ ?_
  refine r_iconst (pc := 218) C dX3_perform_218 kc_1 ?_
  exact r_zret (pc := 219) C dX3_perform_219
  refine r_aload_n (pc := 211) C 2 rfl rfl dX3_perform_211 ?_
  refine r_iload_n (pc := 212) C 0 rfl rfl dX3_perform_212 ?_
  refine r_iload_n (pc := 213) C 3 rfl rfl dX3_perform_213 ?_
  refine r_cVI (pc := 214) C hRm (okX3_wakeUp h0 k x6 v1 M9 h_0) (Rc.of C rfl rfl h_0) mw_609 cvX3_wakeUp rfl ⟨Nat.le_of_ble_eq_true rfl, Nat.le_of_ble_eq_true rfl⟩ rfl (Nat.le_of_ble_eq_true rfl) dX3_perform_214 (fun o33 M32 => ?_)
  refine r_pop (pc := 217) C dX3_perform_217 rfl ?_
  refine r_iconst (pc := 218) C dX3_perform_218 kc_1 ?_
  exact r_zret (pc := 219) C dX3_perform_219
  refine r_ite (fun e34 => ?_) (fun e34n => ?_)
  refine r_tabE (pc := 68) C e34 dX3_perform_68 (by decide) (by decide) (off := 152) rfl (tgt := 220) rfl ?_
  refine r_aload_n (pc := 220) C 2 rfl rfl dX3_perform_220 ?_
  refine r_iload_n (pc := 221) C 3 rfl rfl dX3_perform_221 ?_
  refine r_iload_n (pc := 222) C 0 rfl rfl dX3_perform_222 ?_
  refine r_cVV (pc := 223) C hRm (okX3_tellOn h0 k v1 x6 M9 h_0) (Rc.of C rfl rfl h_0) mw_614 cvX3_tellOn rfl ⟨Nat.le_of_ble_eq_true rfl, Nat.le_of_ble_eq_true rfl⟩ rfl (Nat.le_of_ble_eq_true rfl) dX3_perform_223 (fun o36 M35 => ?_)
  refine r_iconst (pc := 226) C dX3_perform_226 kc_1 ?_
  exact r_zret (pc := 227) C dX3_perform_227
  refine r_ite (fun e37 => ?_) (fun e37n => ?_)
  refine r_tabE (pc := 68) C e37 dX3_perform_68 (by decide) (by decide) (off := 160) rfl (tgt := 228) rfl ?_
  refine r_aload_n (pc := 228) C 2 rfl rfl dX3_perform_228 ?_
  refine r_iload_n (pc := 229) C 3 rfl rfl dX3_perform_229 ?_
  refine r_iload_n (pc := 230) C 0 rfl rfl dX3_perform_230 ?_
  refine r_cVV (pc := 231) C hRm (okX3_stealPermit h0 k v1 x6 M9 h_0) (Rc.of C rfl rfl h_0) mw_618 cvX3_stealPermit rfl ⟨Nat.le_of_ble_eq_true rfl, Nat.le_of_ble_eq_true rfl⟩ rfl (Nat.le_of_ble_eq_true rfl) dX3_perform_231 (fun o39 M38 => ?_)
  refine r_iconst (pc := 234) C dX3_perform_234 kc_1 ?_
  exact r_zret (pc := 235) C dX3_perform_235
  refine r_ite (fun e40 => ?_) (fun e40n => ?_)
  refine r_tabE (pc := 68) C e40 dX3_perform_68 (by decide) (by decide) (off := 168) rfl (tgt := 236) rfl ?_
  refine r_aload_n (pc := 236) C 2 rfl rfl dX3_perform_236 ?_
  refine r_iload_n (pc := 237) C 3 rfl rfl dX3_perform_237 ?_
  refine r_iload_n (pc := 238) C 0 rfl rfl dX3_perform_238 ?_
  refine r_cVI (pc := 239) C hRm (okX3_takeLock h0 k v1 x6 M9 h_0) (Rc.of C rfl rfl h_0) mw_622 cvX3_takeLock rfl ⟨Nat.le_of_ble_eq_true rfl, Nat.le_of_ble_eq_true rfl⟩ rfl (Nat.le_of_ble_eq_true rfl) dX3_perform_239 (fun o42 M41 => ?_)
  exact r_zret (pc := 242) C dX3_perform_242
  refine r_tabD (pc := 68) C (cz := [1, 2, 3, 4, 5, 6, 7, 8, 9, 10]) (tabN_cons e12n (tabN_cons e14n (tabN_cons e17n (tabN_cons e20n (tabN_cons e25n (tabN_cons e28n (tabN_cons e31n (tabN_cons e34n (tabN_cons e37n (tabN_cons e40n tabN_nil)))))))))) dX3_perform_68 (by decide) (tgt := 243) rfl ?_
  refine r_aload_n (pc := 243) C 2 rfl rfl dX3_perform_243 ?_
  refine r_iload_n (pc := 244) C 3 rfl rfl dX3_perform_244 ?_
  refine r_iload_n (pc := 245) C 0 rfl rfl dX3_perform_245 ?_
  refine r_cVI (pc := 246) C hRm (okX3_unlock h0 k v1 x6 M9 h_0) (Rc.of C rfl rfl h_0) mw_634 cvX3_unlock rfl ⟨Nat.le_of_ble_eq_true rfl, Nat.le_of_ble_eq_true rfl⟩ rfl (Nat.le_of_ble_eq_true rfl) dX3_perform_246 (fun o44 M43 => ?_)
  exact r_zret (pc := 249) C dX3_perform_249
  refine r_iconst (pc := 36) C dX3_perform_36 kc_0 ?_
  exact r_zret (pc := 37) C dX3_perform_37
theorem okX3_perform {l : Launch} {G : WT} (h0 : W0 G) (k : Nat) (v1 : Int32) (M : Mem) (h_0 : G.2.2.2.1 3 k 0) : Okm l G yX3_perform cX3_perform 4 (some FieldType.boolean) 4 93 [.ref (G.1 3 k 0), .int v1] voI M (pX3_perform k v1 M) :=
  Okm.of "PermitPark$Machine" rfl (by decide) (Nat.le_of_ble_eq_true rfl) (L := [(0, .ref (G.1 3 k 0)), (1, .int v1)]) rfl (fun K _ hr C => lX3_perform_0 C (by rw [hr]; exact ⟨rfl, rfl⟩) h0 v1 M h_0)
def pX3_tick_104 (k : Nat) (M : Mem) : Option (Int32 × Mem) :=
    bnd (pX3_firstReady k M) fun o2 M1 => if ¬ o2 = (-1 : Int32) then (bnd (pX3_perform k o2 M1) fun o4 M3 => bnd (pX3_settle k M3) fun o6 M5 => if o4 = 0 then (nm (wI M5 3 k 0 5 ((M5.1 3 k 0 5) + (1 : Int32))) fun M7 => some (o2, M7))
    else bnd (pX3_advance k o2 M5) fun o9 M8 => bnd (pX3_settle k M8) fun o11 M10 => nm (wI M10 3 k 0 5 ((M10.1 3 k 0 5) + (1 : Int32))) fun M12 => some (o2, M12))
    else nm (wI M1 3 k 0 7 ((M1.1 3 k 0 7) + (1 : Int32))) fun M13 => nm (wI M13 3 k 0 5 ((M13.1 3 k 0 5) + (1 : Int32))) fun M14 => some (o2, M14)
theorem lX3_tick_104 {K : KT} {G : WT} {k : Nat} (C : Cx K G "PermitPark$Machine" cX3_tick 4 (some FieldType.int)) (hRm : K.2.2.2.1.frames = 5 ∧ K.2.2.2.1.locals = 116) (h0 : W0 G) (M : Mem) (g_0 : G.2.2.2.1 3 k 0) : Run K G 4 0 0 (FinM K G voI 0 0) 104 [(0, .ref (G.1 3 k 0))] [] M (pX3_tick_104 k   M) := by
  rw [pX3_tick_104]
  refine r_aload_n (pc := 104) C 0 rfl rfl dX3_tick_104 ?_
  refine r_cVI (pc := 105) C hRm (okX3_firstReady h0 k M g_0) (Rc.of C rfl rfl g_0) mw_577 cvX3_firstReady rfl ⟨Nat.le_of_ble_eq_true rfl, Nat.le_of_ble_eq_true rfl⟩ rfl (Nat.le_of_ble_eq_true rfl) dX3_tick_105 (fun o2 M1 => ?_)
  refine r_istore_n (pc := 108) C [(2, .int o2), (0, .ref (G.1 3 k 0))] dX3_tick_108 rfl (by decide) rfl ?_
  refine r_iload_n (pc := 109) C 0 rfl rfl dX3_tick_109 ?_
  refine r_iconst (pc := 110) C dX3_tick_110 kc_m1 ?_
  refine r_icmp_ne (pc := 111) C dX3_tick_111 (tgt := 127) rfl ?_ ?_
  refine r_aload_n (pc := 127) C 1 rfl rfl dX3_tick_127 ?_
  refine r_iload_n (pc := 128) C 0 rfl rfl dX3_tick_128 ?_
  refine r_cVI (pc := 129) C hRm (okX3_perform h0 k o2 M1 g_0) (Rc.of C rfl rfl g_0) mw_584 cvX3_perform rfl ⟨Nat.le_of_ble_eq_true rfl, Nat.le_of_ble_eq_true rfl⟩ rfl (Nat.le_of_ble_eq_true rfl) dX3_tick_129 (fun o4 M3 => ?_)
  refine r_istore_n (pc := 132) C [(3, .int o4), (2, .int o2), (0, .ref (G.1 3 k 0))] dX3_tick_132 rfl (by decide) rfl ?_
  refine r_aload_n (pc := 133) C 2 rfl rfl dX3_tick_133 ?_
  refine r_cVV (pc := 134) C hRm (okX3_settle h0 k M3 g_0) (Rc.of C rfl rfl g_0) mw_544 cvX3_settle rfl ⟨Nat.le_of_ble_eq_true rfl, Nat.le_of_ble_eq_true rfl⟩ rfl (Nat.le_of_ble_eq_true rfl) dX3_tick_134 (fun o6 M5 => ?_)
  refine r_iload_n (pc := 137) C 0 rfl rfl dX3_tick_137 ?_
  refine r_if_eq (pc := 138) C dX3_tick_138 (tgt := 150) rfl ?_ ?_
  refine r_aload_n (pc := 150) C 2 rfl rfl dX3_tick_150 ?_
  refine r_dup (pc := 151) C dX3_tick_151 rfl ?_
  refine r_getI (pc := 152) C FX3_time mw_209 g_0 rfl rfl dX3_tick_152 ?_
  refine r_iconst (pc := 155) C dX3_tick_155 kc_1 ?_
  refine r_iadd (pc := 156) C dX3_tick_156 ?_
  refine r_putI (pc := 157) C FX3_time mw_209 g_0 tyX3 tyX3_ok nmX3 (fun _ _ => rfl) rfl dX3_tick_157 (fun M7 => ?_)
  refine r_iload_n (pc := 160) C 1 rfl rfl dX3_tick_160 ?_
  exact r_iret (pc := 161) C rfl dX3_tick_161
  refine r_aload_n (pc := 141) C 2 rfl rfl dX3_tick_141 ?_
  refine r_iload_n (pc := 142) C 1 rfl rfl dX3_tick_142 ?_
  refine r_cVV (pc := 143) C hRm (okX3_advance h0 k o2 M5 g_0) (Rc.of C rfl rfl g_0) mw_568 cvX3_advance rfl ⟨Nat.le_of_ble_eq_true rfl, Nat.le_of_ble_eq_true rfl⟩ rfl (Nat.le_of_ble_eq_true rfl) dX3_tick_143 (fun o9 M8 => ?_)
  refine r_aload_n (pc := 146) C 2 rfl rfl dX3_tick_146 ?_
  refine r_cVV (pc := 147) C hRm (okX3_settle h0 k M8 g_0) (Rc.of C rfl rfl g_0) mw_544 cvX3_settle rfl ⟨Nat.le_of_ble_eq_true rfl, Nat.le_of_ble_eq_true rfl⟩ rfl (Nat.le_of_ble_eq_true rfl) dX3_tick_147 (fun o11 M10 => ?_)
  refine r_aload_n (pc := 150) C 2 rfl rfl dX3_tick_150 ?_
  refine r_dup (pc := 151) C dX3_tick_151 rfl ?_
  refine r_getI (pc := 152) C FX3_time mw_209 g_0 rfl rfl dX3_tick_152 ?_
  refine r_iconst (pc := 155) C dX3_tick_155 kc_1 ?_
  refine r_iadd (pc := 156) C dX3_tick_156 ?_
  refine r_putI (pc := 157) C FX3_time mw_209 g_0 tyX3 tyX3_ok nmX3 (fun _ _ => rfl) rfl dX3_tick_157 (fun M12 => ?_)
  refine r_iload_n (pc := 160) C 1 rfl rfl dX3_tick_160 ?_
  exact r_iret (pc := 161) C rfl dX3_tick_161
  refine r_aload_n (pc := 114) C 1 rfl rfl dX3_tick_114 ?_
  refine r_dup (pc := 115) C dX3_tick_115 rfl ?_
  refine r_getI (pc := 116) C FX3_idleTicks mw_212 g_0 rfl rfl dX3_tick_116 ?_
  refine r_iconst (pc := 119) C dX3_tick_119 kc_1 ?_
  refine r_iadd (pc := 120) C dX3_tick_120 ?_
  refine r_putI (pc := 121) C FX3_idleTicks mw_212 g_0 tyX3 tyX3_ok nmX3 (fun _ _ => rfl) rfl dX3_tick_121 (fun M13 => ?_)
  refine r_goto (pc := 124) C dX3_tick_124 (tgt := 150) rfl ?_
  refine r_aload_n (pc := 150) C 1 rfl rfl dX3_tick_150 ?_
  refine r_dup (pc := 151) C dX3_tick_151 rfl ?_
  refine r_getI (pc := 152) C FX3_time mw_209 g_0 rfl rfl dX3_tick_152 ?_
  refine r_iconst (pc := 155) C dX3_tick_155 kc_1 ?_
  refine r_iadd (pc := 156) C dX3_tick_156 ?_
  refine r_putI (pc := 157) C FX3_time mw_209 g_0 tyX3 tyX3_ok nmX3 (fun _ _ => rfl) rfl dX3_tick_157 (fun M14 => ?_)
  refine r_iload_n (pc := 160) C 0 rfl rfl dX3_tick_160 ?_
  exact r_iret (pc := 161) C rfl dX3_tick_161
def pX3_tick_54 (k : Nat) : Nat → Int32 → Mem → Option (Int32 × Mem)
  | 0, _, _ => none
  | n + 1, v2, M =>
    if (M.1 3 k 0 4) ≤ v2 then (pX3_tick_104 k   M)
    else chk (inB v2 10) <| if ¬ (M.1 5 k (v2.toNatClampNeg) 7) = (1 : Int32) then (pX3_tick_54 k  n (v2 + (1 : Int32)) M)
    else bnd (pX3_drawOfThousand k M) fun o4 M3 => chk (inB (0 : Int32) 2) <| if (M3.1 15 k 0 (0 : Int32).toNatClampNeg) ≤ o4 then (pX3_tick_54 k  n (v2 + (1 : Int32)) M3)
    else bnd (pX3_comeBack k v2 (3 : Int32) M3) fun o7 M6 => bnd (pX3_settle k M6) fun o9 M8 => pX3_tick_54 k  n (v2 + (1 : Int32)) M8
theorem lX3_tick_54 {K : KT} {G : WT} {k : Nat} (C : Cx K G "PermitPark$Machine" cX3_tick 4 (some FieldType.int)) (hRm : K.2.2.2.1.frames = 5 ∧ K.2.2.2.1.locals = 116) (h0 : W0 G) : ∀ (n : Nat) (v2 : Int32) (M : Mem), G.2.2.2.1 3 k 0 → Run K G 4 0 0 (FinM K G voI 0 0) 54 [(0, .ref (G.1 3 k 0)), (2, .int v2)] [] M (pX3_tick_54 k  n v2 M) := by
  intro n
  induction n with
  | zero =>
    intro v2 M g_0
    exact r_none
  | succ n ih =>
    intro v2 M g_0
    rw [pX3_tick_54]
    refine r_iload_n (pc := 54) C 1 rfl rfl dX3_tick_54 ?_
    refine r_aload_n (pc := 55) C 0 rfl rfl dX3_tick_55 ?_
    refine r_getI (pc := 56) C FX3_threadCount mw_207 g_0 rfl rfl dX3_tick_56 ?_
    refine r_icmp_ge (pc := 59) C dX3_tick_59 (tgt := 104) rfl ?_ ?_
    refine r_sub [0] rfl ?_
    exact lX3_tick_104 (k := k)  C hRm h0   M g_0
    refine r_aload_n (pc := 62) C 0 rfl rfl dX3_tick_62 ?_
    refine r_getR (pc := 63) C FX3_threads mw_199 g_0 rfl dX3_tick_63 (fun g1 => ?_)
    refine r_iload_n (pc := 66) C 1 rfl rfl dX3_tick_66 ?_
    refine r_aald (pc := 67) C (kd := 4) rfl rfl g1 rfl dX3_tick_67 (fun g2 => ?_)
    refine r_getI (pc := 68) C FX6_state mw_128 g2 rfl rfl dX3_tick_68 ?_
    refine r_iconst (pc := 71) C dX3_tick_71 kc_1 ?_
    refine r_icmp_ne (pc := 72) C dX3_tick_72 (tgt := 98) rfl ?_ ?_
    refine r_iinc (pc := 98) C [(2, .int (v2 + (1 : Int32))), (0, .ref (G.1 3 k 0))] dX3_tick_98 (p := 1) rfl (ki_1 _) (by decide) rfl ?_
    refine r_goto (pc := 101) C dX3_tick_101 (tgt := 54) rfl ?_
    refine r_sub [1, 0] rfl ?_
    exact ih (v2 + (1 : Int32)) M g_0
    refine r_aload_n (pc := 75) C 0 rfl rfl dX3_tick_75 ?_
    refine r_cVI (pc := 76) C hRm (okX3_drawOfThousand h0 k M g_0) (Rc.of C rfl rfl g_0) mw_572 cvX3_drawOfThousand rfl ⟨Nat.le_of_ble_eq_true rfl, Nat.le_of_ble_eq_true rfl⟩ rfl (Nat.le_of_ble_eq_true rfl) dX3_tick_76 (fun o4 M3 => ?_)
    refine r_aload_n (pc := 79) C 0 rfl rfl dX3_tick_79 ?_
    refine r_getR (pc := 80) C FX3_settings mw_205 g_0 rfl dX3_tick_80 (fun g5 => ?_)
    refine r_iconst (pc := 83) C dX3_tick_83 kc_0 ?_
    refine r_iald (pc := 84) C rfl g5 (fun _ => rfl) (fun _ => rfl) dX3_tick_84 ?_
    refine r_icmp_ge (pc := 85) C dX3_tick_85 (tgt := 98) rfl ?_ ?_
    refine r_iinc (pc := 98) C [(2, .int (v2 + (1 : Int32))), (0, .ref (G.1 3 k 0))] dX3_tick_98 (p := 1) rfl (ki_1 _) (by decide) rfl ?_
    refine r_goto (pc := 101) C dX3_tick_101 (tgt := 54) rfl ?_
    refine r_sub [1, 0] rfl ?_
    exact ih (v2 + (1 : Int32)) M3 g_0
    refine r_aload_n (pc := 88) C 0 rfl rfl dX3_tick_88 ?_
    refine r_iload_n (pc := 89) C 1 rfl rfl dX3_tick_89 ?_
    refine r_iconst (pc := 90) C dX3_tick_90 kc_3 ?_
    refine r_cVV (pc := 91) C hRm (okX3_comeBack h0 k v2 (3 : Int32) M3 g_0) (Rc.of C rfl rfl g_0) mw_532 cvX3_comeBack rfl ⟨Nat.le_of_ble_eq_true rfl, Nat.le_of_ble_eq_true rfl⟩ rfl (Nat.le_of_ble_eq_true rfl) dX3_tick_91 (fun o7 M6 => ?_)
    refine r_aload_n (pc := 94) C 0 rfl rfl dX3_tick_94 ?_
    refine r_cVV (pc := 95) C hRm (okX3_settle h0 k M6 g_0) (Rc.of C rfl rfl g_0) mw_544 cvX3_settle rfl ⟨Nat.le_of_ble_eq_true rfl, Nat.le_of_ble_eq_true rfl⟩ rfl (Nat.le_of_ble_eq_true rfl) dX3_tick_95 (fun o9 M8 => ?_)
    refine r_iinc (pc := 98) C [(2, .int (v2 + (1 : Int32))), (0, .ref (G.1 3 k 0))] dX3_tick_98 (p := 1) rfl (ki_1 _) (by decide) rfl ?_
    refine r_goto (pc := 101) C dX3_tick_101 (tgt := 54) rfl ?_
    refine r_sub [1, 0] rfl ?_
    exact ih (v2 + (1 : Int32)) M8 g_0
def pX3_tick_43 (k : Nat) (M : Mem) : Option (Int32 × Mem) :=
    chk (inB (0 : Int32) 2) <| if (M.1 15 k 0 (0 : Int32).toNatClampNeg) ≤ 0 then (pX3_tick_104 k   M)
    else pX3_tick_54 k  fu (0 : Int32) M
theorem lX3_tick_43 {K : KT} {G : WT} {k : Nat} (C : Cx K G "PermitPark$Machine" cX3_tick 4 (some FieldType.int)) (hRm : K.2.2.2.1.frames = 5 ∧ K.2.2.2.1.locals = 116) (h0 : W0 G) (M : Mem) (g_0 : G.2.2.2.1 3 k 0) : Run K G 4 0 0 (FinM K G voI 0 0) 43 [(0, .ref (G.1 3 k 0))] [] M (pX3_tick_43 k   M) := by
  rw [pX3_tick_43]
  refine r_aload_n (pc := 43) C 0 rfl rfl dX3_tick_43 ?_
  refine r_getR (pc := 44) C FX3_settings mw_205 g_0 rfl dX3_tick_44 (fun g1 => ?_)
  refine r_iconst (pc := 47) C dX3_tick_47 kc_0 ?_
  refine r_iald (pc := 48) C rfl g1 (fun _ => rfl) (fun _ => rfl) dX3_tick_48 ?_
  refine r_if_le (pc := 49) C dX3_tick_49 (tgt := 104) rfl ?_ ?_
  exact lX3_tick_104 (k := k)  C hRm h0   M g_0
  refine r_iconst (pc := 52) C dX3_tick_52 kc_0 ?_
  refine r_istore_n (pc := 53) C [(2, .int (0 : Int32)), (0, .ref (G.1 3 k 0))] dX3_tick_53 rfl (by decide) rfl ?_
  refine r_sub [1, 0] rfl ?_
  exact lX3_tick_54 (k := k)  C hRm h0  fu (0 : Int32) M g_0
def pX3_tick_11 (k : Nat) : Nat → Int32 → Int32 → Mem → Option (Int32 × Mem)
  | 0, _, _, _ => none
  | n + 1, v1, v2, M =>
    if (10 : Int32) ≤ v2 then (pX3_tick_43 k   M)
    else if v1 = (-1 : Int32) then (pX3_tick_43 k   M)
    else bnd (pX3_comeBack k v1 (2 : Int32) M) fun o2 M1 => bnd (pX3_settle k M1) fun o4 M3 => bnd (pX3_firstLate k M3) fun o6 M5 => pX3_tick_11 k  n o6 (v2 + (1 : Int32)) M5
theorem lX3_tick_11 {K : KT} {G : WT} {k : Nat} (C : Cx K G "PermitPark$Machine" cX3_tick 4 (some FieldType.int)) (hRm : K.2.2.2.1.frames = 5 ∧ K.2.2.2.1.locals = 116) (h0 : W0 G) : ∀ (n : Nat) (v1 : Int32) (v2 : Int32) (M : Mem), G.2.2.2.1 3 k 0 → Run K G 4 0 0 (FinM K G voI 0 0) 11 [(0, .ref (G.1 3 k 0)), (1, .int v1), (2, .int v2)] [] M (pX3_tick_11 k  n v1 v2 M) := by
  intro n
  induction n with
  | zero =>
    intro v1 v2 M g_0
    exact r_none
  | succ n ih =>
    intro v1 v2 M g_0
    rw [pX3_tick_11]
    refine r_iload_n (pc := 11) C 2 rfl rfl dX3_tick_11 ?_
    refine r_bipush (pc := 12) C dX3_tick_12 kb_10 ?_
    refine r_icmp_ge (pc := 14) C dX3_tick_14 (tgt := 43) rfl ?_ ?_
    refine r_sub [0] rfl ?_
    exact lX3_tick_43 (k := k)  C hRm h0   M g_0
    refine r_iload_n (pc := 17) C 1 rfl rfl dX3_tick_17 ?_
    refine r_iconst (pc := 18) C dX3_tick_18 kc_m1 ?_
    refine r_icmp_eq (pc := 19) C dX3_tick_19 (tgt := 43) rfl ?_ ?_
    refine r_sub [0] rfl ?_
    exact lX3_tick_43 (k := k)  C hRm h0   M g_0
    refine r_aload_n (pc := 22) C 0 rfl rfl dX3_tick_22 ?_
    refine r_iload_n (pc := 23) C 1 rfl rfl dX3_tick_23 ?_
    refine r_iconst (pc := 24) C dX3_tick_24 kc_2 ?_
    refine r_cVV (pc := 25) C hRm (okX3_comeBack h0 k v1 (2 : Int32) M g_0) (Rc.of C rfl rfl g_0) mw_532 cvX3_comeBack rfl ⟨Nat.le_of_ble_eq_true rfl, Nat.le_of_ble_eq_true rfl⟩ rfl (Nat.le_of_ble_eq_true rfl) dX3_tick_25 (fun o2 M1 => ?_)
    refine r_aload_n (pc := 28) C 0 rfl rfl dX3_tick_28 ?_
    refine r_cVV (pc := 29) C hRm (okX3_settle h0 k M1 g_0) (Rc.of C rfl rfl g_0) mw_544 cvX3_settle rfl ⟨Nat.le_of_ble_eq_true rfl, Nat.le_of_ble_eq_true rfl⟩ rfl (Nat.le_of_ble_eq_true rfl) dX3_tick_29 (fun o4 M3 => ?_)
    refine r_aload_n (pc := 32) C 0 rfl rfl dX3_tick_32 ?_
    refine r_cVI (pc := 33) C hRm (okX3_firstLate h0 k M3 g_0) (Rc.of C rfl rfl g_0) mw_528 cvX3_firstLate rfl ⟨Nat.le_of_ble_eq_true rfl, Nat.le_of_ble_eq_true rfl⟩ rfl (Nat.le_of_ble_eq_true rfl) dX3_tick_33 (fun o6 M5 => ?_)
    refine r_istore_n (pc := 36) C [(1, .int o6), (0, .ref (G.1 3 k 0)), (2, .int v2)] dX3_tick_36 rfl (by decide) rfl ?_
    refine r_iinc (pc := 37) C [(2, .int (v2 + (1 : Int32))), (1, .int o6), (0, .ref (G.1 3 k 0))] dX3_tick_37 (p := 2) rfl (ki_1 _) (by decide) rfl ?_
    refine r_goto (pc := 40) C dX3_tick_40 (tgt := 11) rfl ?_
    refine r_sub [2, 1, 0] rfl ?_
    exact ih o6 (v2 + (1 : Int32)) M5 g_0
def pX3_tick (k : Nat) (M : Mem) : Option (Int32 × Mem) :=
    bnd (pX3_noteGreatestPriorities k M) fun o2 M1 => bnd (pX3_firstLate k M1) fun o4 M3 => pX3_tick_11 k  fu o4 (0 : Int32) M3
theorem lX3_tick_0 {K : KT} {G : WT} {k : Nat} (C : Cx K G "PermitPark$Machine" cX3_tick 4 (some FieldType.int)) (hRm : K.2.2.2.1.frames = 5 ∧ K.2.2.2.1.locals = 116) (h0 : W0 G) (M : Mem) (h_0 : G.2.2.2.1 3 k 0) : Run K G 4 0 0 (FinM K G voI 0 0) 0 [(0, .ref (G.1 3 k 0))] [] M (pX3_tick k   M) := by
  rw [pX3_tick]
  refine r_aload_n (pc := 0) C 0 rfl rfl dX3_tick_0 ?_
  refine r_cVV (pc := 1) C hRm (okX3_noteGreatestPriorities h0 k M h_0) (Rc.of C rfl rfl h_0) mw_515 cvX3_noteGreatestPriorities rfl ⟨Nat.le_of_ble_eq_true rfl, Nat.le_of_ble_eq_true rfl⟩ rfl (Nat.le_of_ble_eq_true rfl) dX3_tick_1 (fun o2 M1 => ?_)
  refine r_aload_n (pc := 4) C 0 rfl rfl dX3_tick_4 ?_
  refine r_cVI (pc := 5) C hRm (okX3_firstLate h0 k M1 h_0) (Rc.of C rfl rfl h_0) mw_528 cvX3_firstLate rfl ⟨Nat.le_of_ble_eq_true rfl, Nat.le_of_ble_eq_true rfl⟩ rfl (Nat.le_of_ble_eq_true rfl) dX3_tick_5 (fun o4 M3 => ?_)
  refine r_istore_n (pc := 8) C [(1, .int o4), (0, .ref (G.1 3 k 0))] dX3_tick_8 rfl (by decide) rfl ?_
  refine r_iconst (pc := 9) C dX3_tick_9 kc_0 ?_
  refine r_istore_n (pc := 10) C [(2, .int (0 : Int32)), (1, .int o4), (0, .ref (G.1 3 k 0))] dX3_tick_10 rfl (by decide) rfl ?_
  refine r_sub [2, 1, 0] rfl ?_
  exact lX3_tick_11 (k := k)  C hRm h0  fu o4 (0 : Int32) M3 h_0
theorem okX3_tick {l : Launch} {G : WT} (h0 : W0 G) (k : Nat) (M : Mem) (h_0 : G.2.2.2.1 3 k 0) : Okm l G yX3_tick cX3_tick 4 (some FieldType.int) 5 116 [.ref (G.1 3 k 0)] voI M (pX3_tick k  M) :=
  Okm.of "PermitPark$Machine" rfl (by decide) (Nat.le_of_ble_eq_true rfl) (L := [(0, .ref (G.1 3 k 0))]) rfl (fun K _ hr C => lX3_tick_0 C (by rw [hr]; exact ⟨rfl, rfl⟩) h0  M h_0)
def pX3_disturb (k : Nat) (v1 : Int32) (M : Mem) : Option (Int32 × Mem) :=
    chk (inB v1 10) <| if ¬ (M.1 5 k (v1.toNatClampNeg) 7) = (1 : Int32) then (bnd (pX6_isOver k (v1.toNatClampNeg) M) fun o4 M3 => if o4 = 0 then (if (M3.1 5 k (v1.toNatClampNeg) 11) = 0 then (chk (decide ((1 : Int32) = 0 ∨ (1 : Int32) = 1)) <| nm (wI M3 5 k (v1.toNatClampNeg) 11 (1 : Int32)) fun M5 => some ((1 : Int32), M5))
    else some ((2 : Int32), M3))
    else some ((3 : Int32), M3))
    else bnd (pX3_comeBack k v1 (4 : Int32) M) fun o7 M6 => some ((0 : Int32), M6)
theorem lX3_disturb_0 {K : KT} {G : WT} {k : Nat} (C : Cx K G "PermitPark$Machine" cX3_disturb 3 (some FieldType.int)) (hRm : K.2.2.2.1.frames = 2 ∧ K.2.2.2.1.locals = 48) (h0 : W0 G) (v1 : Int32) (M : Mem) (h_0 : G.2.2.2.1 3 k 0) : Run K G 3 0 0 (FinM K G voI 0 0) 0 [(0, .ref (G.1 3 k 0)), (1, .int v1)] [] M (pX3_disturb k  v1 M) := by
  rw [pX3_disturb]
  refine r_aload_n (pc := 0) C 0 rfl rfl dX3_disturb_0 ?_
  refine r_getR (pc := 1) C FX3_threads mw_199 h_0 rfl dX3_disturb_1 (fun g1 => ?_)
  refine r_iload_n (pc := 4) C 1 rfl rfl dX3_disturb_4 ?_
  refine r_aald (pc := 5) C (kd := 4) rfl rfl g1 rfl dX3_disturb_5 (fun g2 => ?_)
  refine r_astore_n (pc := 6) C [(2, .ref (G.1 5 k (v1.toNatClampNeg))), (0, .ref (G.1 3 k 0)), (1, .int v1)] dX3_disturb_6 rfl (by decide) rfl ?_
  refine r_aload_n (pc := 7) C 0 rfl rfl dX3_disturb_7 ?_
  refine r_getI (pc := 8) C FX6_state mw_128 g2 rfl rfl dX3_disturb_8 ?_
  refine r_iconst (pc := 11) C dX3_disturb_11 kc_1 ?_
  refine r_icmp_ne (pc := 12) C dX3_disturb_12 (tgt := 23) rfl ?_ ?_
  refine r_aload_n (pc := 23) C 0 rfl rfl dX3_disturb_23 ?_
  refine r_cVI (pc := 24) C hRm (okX6_isOver h0 k (v1.toNatClampNeg) M g2) (Rc.of C rfl rfl g2) mw_613 cvX6_isOver rfl ⟨Nat.le_of_ble_eq_true rfl, Nat.le_of_ble_eq_true rfl⟩ rfl (Nat.le_of_ble_eq_true rfl) dX3_disturb_24 (fun o4 M3 => ?_)
  refine r_if_eq (pc := 27) C dX3_disturb_27 (tgt := 32) rfl ?_ ?_
  refine r_aload_n (pc := 32) C 0 rfl rfl dX3_disturb_32 ?_
  refine r_getI (pc := 33) C FX6_hasInterrupt mw_137 g2 rfl rfl dX3_disturb_33 ?_
  refine r_if_eq (pc := 36) C dX3_disturb_36 (tgt := 41) rfl ?_ ?_
  refine r_aload_n (pc := 41) C 0 rfl rfl dX3_disturb_41 ?_
  refine r_iconst (pc := 42) C dX3_disturb_42 kc_1 ?_
  refine r_putZ (pc := 43) C FX6_hasInterrupt mw_137 g2 tyX6 tyX6_ok nmX6 (fun _ _ => rfl) rfl dX3_disturb_43 (fun M5 => ?_)
  refine r_iconst (pc := 46) C dX3_disturb_46 kc_1 ?_
  exact r_iret (pc := 47) C rfl dX3_disturb_47
  refine r_iconst (pc := 39) C dX3_disturb_39 kc_2 ?_
  exact r_iret (pc := 40) C rfl dX3_disturb_40
  refine r_iconst (pc := 30) C dX3_disturb_30 kc_3 ?_
  exact r_iret (pc := 31) C rfl dX3_disturb_31
  refine r_aload_n (pc := 15) C 1 rfl rfl dX3_disturb_15 ?_
  refine r_iload_n (pc := 16) C 2 rfl rfl dX3_disturb_16 ?_
  refine r_iconst (pc := 17) C dX3_disturb_17 kc_4 ?_
  refine r_cVV (pc := 18) C hRm (okX3_comeBack h0 k v1 (4 : Int32) M h_0) (Rc.of C rfl rfl h_0) mw_532 cvX3_comeBack rfl ⟨Nat.le_of_ble_eq_true rfl, Nat.le_of_ble_eq_true rfl⟩ rfl (Nat.le_of_ble_eq_true rfl) dX3_disturb_18 (fun o7 M6 => ?_)
  refine r_iconst (pc := 21) C dX3_disturb_21 kc_0 ?_
  exact r_iret (pc := 22) C rfl dX3_disturb_22
theorem okX3_disturb {l : Launch} {G : WT} (h0 : W0 G) (k : Nat) (v1 : Int32) (M : Mem) (h_0 : G.2.2.2.1 3 k 0) : Okm l G yX3_disturb cX3_disturb 3 (some FieldType.int) 2 48 [.ref (G.1 3 k 0), .int v1] voI M (pX3_disturb k v1 M) :=
  Okm.of "PermitPark$Machine" rfl (by decide) (Nat.le_of_ble_eq_true rfl) (L := [(0, .ref (G.1 3 k 0)), (1, .int v1)]) rfl (fun K _ hr C => lX3_disturb_0 C (by rw [hr]; exact ⟨rfl, rfl⟩) h0 v1 M h_0)
end
