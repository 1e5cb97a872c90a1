/-! ===== pictures: the model, third ===== -/
section
set_option maxRecDepth 4000
def pX8_goBehind (v1 : Int32) (M : Mem) : Option (Unit × Mem) :=
    bnd (pX8_of v1 (3 : Int32) M) fun o2 M1 => if ¬ o2 = 0 then (bnd (pX8_grow v1 (2 : Int32) M1) fun o4 M3 => some ((), M3))
    else bnd (pX8_finish v1 M1) fun o6 M5 => some ((), M5)
theorem lX8_goBehind_0 {K : KT} {G : WT} (C : Cx K G "PermitParkModel" cX8_goBehind 2 none) (hRm : K.2.2.2.1.frames = 6 ∧ K.2.2.2.1.locals = 141) (h0 : W0 G) (v1 : Int32) (M : Mem) (h_0 : G.2.2.2.1 19 0 0) : Run K G 2 0 0 (FinM K G voV 0 0) 0 [(0, .ref (G.1 19 0 0)), (1, .int v1)] [] M (pX8_goBehind   v1 M) := by
  rw [pX8_goBehind]
  refine r_aload_n (pc := 0) C 0 rfl rfl dX8_goBehind_0 ?_
  refine r_iload_n (pc := 1) C 1 rfl rfl dX8_goBehind_1 ?_
  refine r_iconst (pc := 2) C dX8_goBehind_2 kc_3 ?_
  refine r_cVI (pc := 3) C hRm (okX8_of h0 v1 (3 : Int32) M h_0) (Rc.of C rfl rfl h_0) mw_1193 cvX8_of rfl ⟨Nat.le_of_ble_eq_true rfl, Nat.le_of_ble_eq_true rfl⟩ rfl (Nat.le_of_ble_eq_true rfl) dX8_goBehind_3 (fun o2 M1 => ?_)
  refine r_if_ne (pc := 6) C dX8_goBehind_6 (tgt := 17) rfl ?_ ?_
  refine r_aload_n (pc := 17) C 0 rfl rfl dX8_goBehind_17 ?_
  refine r_iload_n (pc := 18) C 1 rfl rfl dX8_goBehind_18 ?_
  refine r_iconst (pc := 19) C dX8_goBehind_19 kc_2 ?_
  refine r_cVV (pc := 20) C hRm (okX8_grow h0 v1 (2 : Int32) M1 h_0) (Rc.of C rfl rfl h_0) mw_1204 cvX8_grow rfl ⟨Nat.le_of_ble_eq_true rfl, Nat.le_of_ble_eq_true rfl⟩ rfl (Nat.le_of_ble_eq_true rfl) dX8_goBehind_20 (fun o4 M3 => ?_)
  exact r_vret (pc := 23) C dX8_goBehind_23
  refine r_aload_n (pc := 9) C 0 rfl rfl dX8_goBehind_9 ?_
  refine r_iload_n (pc := 10) C 1 rfl rfl dX8_goBehind_10 ?_
  refine r_cVV (pc := 11) C hRm (okX8_finish h0 v1 M1 h_0) (Rc.of C rfl rfl h_0) mw_1407 cvX8_finish rfl ⟨Nat.le_of_ble_eq_true rfl, Nat.le_of_ble_eq_true rfl⟩ rfl (Nat.le_of_ble_eq_true rfl) dX8_goBehind_11 (fun o6 M5 => ?_)
  refine r_goto (pc := 14) C dX8_goBehind_14 (tgt := 23) rfl ?_
  exact r_vret (pc := 23) C dX8_goBehind_23
theorem okX8_goBehind {l : Launch} {G : WT} (h0 : W0 G) (v1 : Int32) (M : Mem) (h_0 : G.2.2.2.1 19 0 0) : Okm l G yX8_goBehind cX8_goBehind 2 none 6 141 [.ref (G.1 19 0 0), .int v1] voV M (pX8_goBehind  v1 M) :=
  Okm.of "PermitParkModel" rfl (by decide) (Nat.le_of_ble_eq_true rfl) (L := [(0, .ref (G.1 19 0 0)), (1, .int v1)]) rfl (fun K _ hr C => lX8_goBehind_0 C (by rw [hr]; exact ⟨rfl, rfl⟩) h0 v1 M h_0)
def pX8_doWake_15 (v1 : Int32) (M : Mem) : Option (Unit × Mem) :=
    bnd (pX8_finish v1 M) fun o2 M1 => some ((), M1)
theorem lX8_doWake_15 {K : KT} {G : WT} (C : Cx K G "PermitParkModel" cX8_doWake 4 none) (hRm : K.2.2.2.1.frames = 7 ∧ K.2.2.2.1.locals = 164) (h0 : W0 G) (v1 : Int32) (M : Mem) (g_0 : G.2.2.2.1 19 0 0) : Run K G 4 0 0 (FinM K G voV 0 0) 15 [(0, .ref (G.1 19 0 0)), (1, .int v1)] [] M (pX8_doWake_15   v1 M) := by
  rw [pX8_doWake_15]
  refine r_aload_n (pc := 15) C 0 rfl rfl dX8_doWake_15 ?_
  refine r_iload_n (pc := 16) C 1 rfl rfl dX8_doWake_16 ?_
  refine r_cVV (pc := 17) C hRm (okX8_finish h0 v1 M g_0) (Rc.of C rfl rfl g_0) mw_1407 cvX8_finish rfl ⟨Nat.le_of_ble_eq_true rfl, Nat.le_of_ble_eq_true rfl⟩ rfl (Nat.le_of_ble_eq_true rfl) dX8_doWake_17 (fun o2 M1 => ?_)
  exact r_vret (pc := 20) C dX8_doWake_20
def pX8_doWake (v1 : Int32) (v2 : Int32) (M : Mem) : Option (Unit × Mem) :=
    bnd (pX8_isThread v2 M) fun o2 M1 => if o2 = 0 then (pX8_doWake_15    v1 M1)
    else bnd (pX8_wakeUp v2 v1 M1) fun o4 M3 => pX8_doWake_15    v1 M3
theorem lX8_doWake_0 {K : KT} {G : WT} (C : Cx K G "PermitParkModel" cX8_doWake 4 none) (hRm : K.2.2.2.1.frames = 7 ∧ K.2.2.2.1.locals = 164) (h0 : W0 G) (v1 : Int32) (v2 : Int32) (M : Mem) (h_0 : G.2.2.2.1 19 0 0) : Run K G 4 0 0 (FinM K G voV 0 0) 0 [(0, .ref (G.1 19 0 0)), (1, .int v1), (2, .int v2)] [] M (pX8_doWake   v1 v2 M) := by
  rw [pX8_doWake]
  refine r_aload_n (pc := 0) C 0 rfl rfl dX8_doWake_0 ?_
  refine r_iload_n (pc := 1) C 2 rfl rfl dX8_doWake_1 ?_
  refine r_cVI (pc := 2) C hRm (okX8_isThread h0 v2 M h_0) (Rc.of C rfl rfl h_0) mw_1251 cvX8_isThread rfl ⟨Nat.le_of_ble_eq_true rfl, Nat.le_of_ble_eq_true rfl⟩ rfl (Nat.le_of_ble_eq_true rfl) dX8_doWake_2 (fun o2 M1 => ?_)
  refine r_if_eq (pc := 5) C dX8_doWake_5 (tgt := 15) rfl ?_ ?_
  refine r_sub [0, 1] rfl ?_
  exact lX8_doWake_15   C hRm h0   v1 M1 h_0
  refine r_aload_n (pc := 8) C 0 rfl rfl dX8_doWake_8 ?_
  refine r_iload_n (pc := 9) C 2 rfl rfl dX8_doWake_9 ?_
  refine r_iload_n (pc := 10) C 1 rfl rfl dX8_doWake_10 ?_
  refine r_cVI (pc := 11) C hRm (okX8_wakeUp h0 v2 v1 M1 h_0) (Rc.of C rfl rfl h_0) mw_1324 cvX8_wakeUp rfl ⟨Nat.le_of_ble_eq_true rfl, Nat.le_of_ble_eq_true rfl⟩ rfl (Nat.le_of_ble_eq_true rfl) dX8_doWake_11 (fun o4 M3 => ?_)
  refine r_istore_n (pc := 14) C [(3, .int o4), (0, .ref (G.1 19 0 0)), (1, .int v1), (2, .int v2)] dX8_doWake_14 rfl (by decide) rfl ?_
  refine r_sub [1, 2] rfl ?_
  exact lX8_doWake_15   C hRm h0   v1 M3 h_0
theorem okX8_doWake {l : Launch} {G : WT} (h0 : W0 G) (v1 : Int32) (v2 : Int32) (M : Mem) (h_0 : G.2.2.2.1 19 0 0) : Okm l G yX8_doWake cX8_doWake 4 none 7 164 [.ref (G.1 19 0 0), .int v1, .int v2] voV M (pX8_doWake  v1 v2 M) :=
  Okm.of "PermitParkModel" rfl (by decide) (Nat.le_of_ble_eq_true rfl) (L := [(0, .ref (G.1 19 0 0)), (1, .int v1), (2, .int v2)]) rfl (fun K _ hr C => lX8_doWake_0 C (by rw [hr]; exact ⟨rfl, rfl⟩) h0 v1 v2 M h_0)
def pX8_perform_150 (v1 : Int32) (s0 : Int32) (s1 : Int32) (M : Mem) : Option (Unit × Mem) :=
    bnd (pX8_turnFlag s1 s0 M) fun o2 M1 => bnd (pX8_finish v1 M1) fun o4 M3 => some ((), M3)
theorem lX8_perform_150 {K : KT} {G : WT} (C : Cx K G "PermitParkModel" cX8_perform 4 none) (hRm : K.2.2.2.1.frames = 8 ∧ K.2.2.2.1.locals = 187) (h0 : W0 G) (v1 : Int32) (s0 : Int32) (s1 : Int32) (M : Mem) (g_0 : G.2.2.2.1 19 0 0) (g_s2 : G.2.2.2.1 19 0 0) : Run K G 4 0 0 (FinM K G voV 0 0) 150 [(0, .ref (G.1 19 0 0)), (1, .int v1)] [.int s0, .int s1, .ref (G.1 19 0 0)] M (pX8_perform_150   v1 s0 s1 M) := by
  rw [pX8_perform_150]
  refine r_cVV (pc := 150) C hRm (okX8_turnFlag h0 s1 s0 M g_s2) (Rc.of C rfl rfl g_s2) mw_1217 cvX8_turnFlag rfl ⟨Nat.le_of_ble_eq_true rfl, Nat.le_of_ble_eq_true rfl⟩ rfl (Nat.le_of_ble_eq_true rfl) dX8_perform_150 (fun o2 M1 => ?_)
  refine r_aload_n (pc := 153) C 0 rfl rfl dX8_perform_153 ?_
  refine r_iload_n (pc := 154) C 1 rfl rfl dX8_perform_154 ?_
  refine r_cVV (pc := 155) C hRm (okX8_finish h0 v1 M1 g_s2) (Rc.of C rfl rfl g_s2) mw_1407 cvX8_finish rfl ⟨Nat.le_of_ble_eq_true rfl, Nat.le_of_ble_eq_true rfl⟩ rfl (Nat.le_of_ble_eq_true rfl) dX8_perform_155 (fun o4 M3 => ?_)
  refine r_goto (pc := 158) C dX8_perform_158 (tgt := 203) rfl ?_
  exact r_vret (pc := 203) C dX8_perform_203
def pX8_perform (v1 : Int32) (M : Mem) : Option (Unit × Mem) :=
    bnd (pX8_of v1 (2 : Int32) M) fun o2 M1 => bnd (pX8_codePlace v1 o2 M1) fun o4 M3 => chk (inB (o4 + (1 : Int32)) 700) <| nm (M3.1 20 0 0 (o4 + (1 : Int32)).toNatClampNeg) fun x6 => chk (inB o4 700) <| nm (M3.1 20 0 0 o4.toNatClampNeg) fun x8 => if x8 = (0 : Int32) then (bnd (pX8_doRun v1 x6 M3) fun o11 M10 => some ((), M10))
    else if x8 = (1 : Int32) then (bnd (pX8_park v1 (-1 : Int32) M3) fun o14 M13 => bnd (pX8_goBehind v1 M13) fun o16 M15 => some ((), M15))
    else if x8 = (2 : Int32) then (chk (inB (3 : Int32) 700) <| bnd (pX8_park v1 ((M3.1 20 0 0 (3 : Int32).toNatClampNeg) + x6) M3) fun o20 M19 => bnd (pX8_goBehind v1 M19) fun o22 M21 => some ((), M21))
    else if x8 = (3 : Int32) then (bnd (pX8_doAwait v1 x6 M3) fun o25 M24 => some ((), M24))
    else if x8 = (4 : Int32) then (chk (inB o4 700) <| if ¬ (M3.1 20 0 0 o4.toNatClampNeg) = (4 : Int32) then (pX8_perform_150    v1 (0 : Int32) x6 M3)
    else pX8_perform_150    v1 (1 : Int32) x6 M3)
    else if x8 = (5 : Int32) then (chk (inB o4 700) <| if ¬ (M3.1 20 0 0 o4.toNatClampNeg) = (4 : Int32) then (pX8_perform_150    v1 (0 : Int32) x6 M3)
    else pX8_perform_150    v1 (1 : Int32) x6 M3)
    else if x8 = (6 : Int32) then (bnd (pX8_doWake v1 x6 M3) fun o32 M31 => some ((), M31))
    else if x8 = (7 : Int32) then (bnd (pX8_doTell v1 x6 M3) fun o35 M34 => some ((), M34))
    else if x8 = (8 : Int32) then (bnd (pX8_doSteal v1 x6 M3) fun o38 M37 => some ((), M37))
    else if x8 = (9 : Int32) then (bnd (pX8_doLock v1 x6 M3) fun o41 M40 => some ((), M40))
    else bnd (pX8_doUnlock v1 x6 M3) fun o43 M42 => some ((), M42)
theorem lX8_perform_0 {K : KT} {G : WT} (C : Cx K G "PermitParkModel" cX8_perform 4 none) (hRm : K.2.2.2.1.frames = 8 ∧ K.2.2.2.1.locals = 187) (h0 : W0 G) (v1 : Int32) (M : Mem) (h_0 : G.2.2.2.1 19 0 0) : Run K G 4 0 0 (FinM K G voV 0 0) 0 [(0, .ref (G.1 19 0 0)), (1, .int v1)] [] M (pX8_perform   v1 M) := by
  rw [pX8_perform]
  refine r_iload_n (pc := 0) C 1 rfl rfl dX8_perform_0 ?_
  refine r_aload_n (pc := 1) C 0 rfl rfl dX8_perform_1 ?_
  refine r_iload_n (pc := 2) C 1 rfl rfl dX8_perform_2 ?_
  refine r_iconst (pc := 3) C dX8_perform_3 kc_2 ?_
  refine r_cVI (pc := 4) C hRm (okX8_of h0 v1 (2 : Int32) M h_0) (Rc.of C rfl rfl h_0) mw_1193 cvX8_of rfl ⟨Nat.le_of_ble_eq_true rfl, Nat.le_of_ble_eq_true rfl⟩ rfl (Nat.le_of_ble_eq_true rfl) dX8_perform_4 (fun o2 M1 => ?_)
  refine r_cSI (pc := 7) C hRm (okX8_codePlace h0 v1 o2 M1 ) mw_1201 cvX8_codePlace rfl ⟨Nat.le_of_ble_eq_true rfl, Nat.le_of_ble_eq_true rfl⟩ rfl (Nat.le_of_ble_eq_true rfl) dX8_perform_7 (fun o4 M3 => ?_)
  refine r_istore_n (pc := 10) C [(2, .int o4), (0, .ref (G.1 19 0 0)), (1, .int v1)] dX8_perform_10 rfl (by decide) rfl ?_
  refine r_aload_n (pc := 11) C 1 rfl rfl dX8_perform_11 ?_
  refine r_getR (pc := 12) C FX8_state mw_1012 h_0 rfl dX8_perform_12 (fun g5 => ?_)
  refine r_iload_n (pc := 15) C 0 rfl rfl dX8_perform_15 ?_
  refine r_iconst (pc := 16) C dX8_perform_16 kc_1 ?_
  refine r_iadd (pc := 17) C dX8_perform_17 ?_
  refine r_iald (pc := 18) C rfl g5 (fun _ => rfl) (fun _ => rfl) dX8_perform_18 ?_
  refine r_nmi (fun x6 => ?_)
  refine r_istore_n (pc := 19) C [(3, .int x6), (2, .int o4), (0, .ref (G.1 19 0 0)), (1, .int v1)] dX8_perform_19 rfl (by decide) rfl ?_
  refine r_aload_n (pc := 20) C 2 rfl rfl dX8_perform_20 ?_
  refine r_getR (pc := 21) C FX8_state mw_1012 h_0 rfl dX8_perform_21 (fun g7 => ?_)
  refine r_iload_n (pc := 24) C 1 rfl rfl dX8_perform_24 ?_
  refine r_iald (pc := 25) C rfl g5 (fun _ => rfl) (fun _ => rfl) dX8_perform_25 ?_
  refine r_nmi (fun x8 => ?_)
  refine r_ite (fun e9 => ?_) (fun e9n => ?_)
  refine r_tabE (pc := 26) C e9 dX8_perform_26 (by decide) (by decide) (off := 54) rfl (tgt := 80) rfl ?_
  refine r_aload_n (pc := 80) C 2 rfl rfl dX8_perform_80 ?_
  refine r_iload_n (pc := 81) C 3 rfl rfl dX8_perform_81 ?_
  refine r_iload_n (pc := 82) C 0 rfl rfl dX8_perform_82 ?_
  refine r_cVV (pc := 83) C hRm (okX8_doRun h0 v1 x6 M3 h_0) (Rc.of C rfl rfl h_0) mw_1403 cvX8_doRun rfl ⟨Nat.le_of_ble_eq_true rfl, Nat.le_of_ble_eq_true rfl⟩ rfl (Nat.le_of_ble_eq_true rfl) dX8_perform_83 (fun o11 M10 => ?_)
  refine r_goto (pc := 86) C dX8_perform_86 (tgt := 203) rfl ?_
  exact r_vret (pc := 203) C dX8_perform_203
  refine r_ite (fun e12 => ?_) (fun e12n => ?_)
  refine r_tabE (pc := 26) C e12 dX8_perform_26 (by decide) (by decide) (off := 63) rfl (tgt := 89) rfl ?_
  refine r_aload_n (pc := 89) C 2 rfl rfl dX8_perform_89 ?_
  refine r_iload_n (pc := 90) C 3 rfl rfl dX8_perform_90 ?_
  refine r_iconst (pc := 91) C dX8_perform_91 kc_m1 ?_
  refine r_cVV (pc := 92) C hRm (okX8_park h0 v1 (-1 : Int32) M3 h_0) (Rc.of C rfl rfl h_0) mw_1411 cvX8_park rfl ⟨Nat.le_of_ble_eq_true rfl, Nat.le_of_ble_eq_true rfl⟩ rfl (Nat.le_of_ble_eq_true rfl) dX8_perform_92 (fun o14 M13 => ?_)
  refine r_aload_n (pc := 95) C 2 rfl rfl dX8_perform_95 ?_
  refine r_iload_n (pc := 96) C 3 rfl rfl dX8_perform_96 ?_
  refine r_cVV (pc := 97) C hRm (okX8_goBehind h0 v1 M13 h_0) (Rc.of C rfl rfl h_0) mw_1415 cvX8_goBehind rfl ⟨Nat.le_of_ble_eq_true rfl, Nat.le_of_ble_eq_true rfl⟩ rfl (Nat.le_of_ble_eq_true rfl) dX8_perform_97 (fun o16 M15 => ?_)
  refine r_goto (pc := 100) C dX8_perform_100 (tgt := 203) rfl ?_
  exact r_vret (pc := 203) C dX8_perform_203
  refine r_ite (fun e17 => ?_) (fun e17n => ?_)
  refine r_tabE (pc := 26) C e17 dX8_perform_26 (by decide) (by decide) (off := 77) rfl (tgt := 103) rfl ?_
  refine r_aload_n (pc := 103) C 2 rfl rfl dX8_perform_103 ?_
  refine r_iload_n (pc := 104) C 3 rfl rfl dX8_perform_104 ?_
  refine r_aload_n (pc := 105) C 2 rfl rfl dX8_perform_105 ?_
  refine r_getR (pc := 106) C FX8_state mw_1012 h_0 rfl dX8_perform_106 (fun g18 => ?_)
  refine r_iconst (pc := 109) C dX8_perform_109 kc_3 ?_
  refine r_iald (pc := 110) C rfl g5 (fun _ => rfl) (fun _ => rfl) dX8_perform_110 ?_
  refine r_iload_n (pc := 111) C 0 rfl rfl dX8_perform_111 ?_
  refine r_iadd (pc := 112) C dX8_perform_112 ?_
  refine r_cVV (pc := 113) C hRm (okX8_park h0 v1 ((M3.1 20 0 0 (3 : Int32).toNatClampNeg) + x6) M3 h_0) (Rc.of C rfl rfl h_0) mw_1411 cvX8_park rfl ⟨Nat.le_of_ble_eq_true rfl, Nat.le_of_ble_eq_true rfl⟩ rfl (Nat.le_of_ble_eq_true rfl) dX8_perform_113 (fun o20 M19 => ?_)
  refine r_aload_n (pc := 116) C 2 rfl rfl dX8_perform_116 ?_
  refine r_iload_n (pc := 117) C 3 rfl rfl dX8_perform_117 ?_
  refine r_cVV (pc := 118) C hRm (okX8_goBehind h0 v1 M19 h_0) (Rc.of C rfl rfl h_0) mw_1415 cvX8_goBehind rfl ⟨Nat.le_of_ble_eq_true rfl, Nat.le_of_ble_eq_true rfl⟩ rfl (Nat.le_of_ble_eq_true rfl) dX8_perform_118 (fun o22 M21 => ?_)
  refine r_goto (pc := 121) C dX8_perform_121 (tgt := 203) rfl ?_
  exact r_vret (pc := 203) C dX8_perform_203
  refine r_ite (fun e23 => ?_) (fun e23n => ?_)
  refine r_tabE (pc := 26) C e23 dX8_perform_26 (by decide) (by decide) (off := 98) rfl (tgt := 124) rfl ?_
  refine r_aload_n (pc := 124) C 2 rfl rfl dX8_perform_124 ?_
  refine r_iload_n (pc := 125) C 3 rfl rfl dX8_perform_125 ?_
  refine r_iload_n (pc := 126) C 0 rfl rfl dX8_perform_126 ?_
  refine r_cVV (pc := 127) C hRm (okX8_doAwait h0 v1 x6 M3 h_0) (Rc.of C rfl rfl h_0) mw_1419 cvX8_doAwait rfl ⟨Nat.le_of_ble_eq_true rfl, Nat.le_of_ble_eq_true rfl⟩ rfl (Nat.le_of_ble_eq_true rfl) dX8_perform_127 (fun o25 M24 => ?_)
  refine r_goto (pc := 130) C dX8_perform_130 (tgt := 203) rfl ?_
  exact r_vret (pc := 203) C dX8_perform_203
  refine r_ite (fun e26 => ?_) (fun e26n => ?_)
  refine r_tabE (pc := 26) C e26 dX8_perform_26 (by decide) (by decide) (off := 107) rfl (tgt := 133) rfl ?_
  refine r_aload_n (pc := 133) C 2 rfl rfl dX8_perform_133 ?_
  refine r_iload_n (pc := 134) C 0 rfl rfl dX8_perform_134 ?_
  refine r_aload_n (pc := 135) C 2 rfl rfl dX8_perform_135 ?_
  refine r_getR (pc := 136) C FX8_state mw_1012 h_0 rfl dX8_perform_136 (fun g27 => ?_)
  refine r_iload_n (pc := 139) C 1 rfl rfl dX8_perform_139 ?_
  refine r_iald (pc := 140) C rfl g5 (fun _ => rfl) (fun _ => rfl) dX8_perform_140 ?_
  refine r_iconst (pc := 141) C dX8_perform_141 kc_4 ?_
  refine r_icmp_ne (pc := 142) C dX8_perform_142 (tgt := 149) rfl ?_ ?_
  refine r_iconst (pc := 149) C dX8_perform_149 kc_0 ?_
  refine r_sub [2, 3] rfl ?_
  exact lX8_perform_150   C hRm h0   v1 (0 : Int32) x6 M3 h_0 h_0
  refine r_iconst (pc := 145) C dX8_perform_145 kc_1 ?_
  refine r_goto (pc := 146) C dX8_perform_146 (tgt := 150) rfl ?_
  refine r_sub [2, 3] rfl ?_
  exact lX8_perform_150   C hRm h0   v1 (1 : Int32) x6 M3 h_0 h_0
  refine r_ite (fun e28 => ?_) (fun e28n => ?_)
  refine r_tabE (pc := 26) C e28 dX8_perform_26 (by decide) (by decide) (off := 107) rfl (tgt := 133) rfl ?_
  refine r_aload_n (pc := 133) C 2 rfl rfl dX8_perform_133 ?_
  refine r_iload_n (pc := 134) C 0 rfl rfl dX8_perform_134 ?_
  refine r_aload_n (pc := 135) C 2 rfl rfl dX8_perform_135 ?_
  refine r_getR (pc := 136) C FX8_state mw_1012 h_0 rfl dX8_perform_136 (fun g29 => ?_)
  refine r_iload_n (pc := 139) C 1 rfl rfl dX8_perform_139 ?_
  refine r_iald (pc := 140) C rfl g5 (fun _ => rfl) (fun _ => rfl) dX8_perform_140 ?_
  refine r_iconst (pc := 141) C dX8_perform_141 kc_4 ?_
  refine r_icmp_ne (pc := 142) C dX8_perform_142 (tgt := 149) rfl ?_ ?_
  refine r_iconst (pc := 149) C dX8_perform_149 kc_0 ?_
  refine r_sub [2, 3] rfl ?_
  exact lX8_perform_150   C hRm h0   v1 (0 : Int32) x6 M3 h_0 h_0
  refine r_iconst (pc := 145) C dX8_perform_145 kc_1 ?_
  refine r_goto (pc := 146) C dX8_perform_146 (tgt := 150) rfl ?_
  refine r_sub [2, 3] rfl ?_
  exact lX8_perform_150   C hRm h0   v1 (1 : Int32) x6 M3 h_0 h_0
  refine r_ite (fun e30 => ?_) (fun e30n => ?_)
  refine r_tabE (pc := 26) C e30 dX8_perform_26 (by decide) (by decide) (off := 135) rfl (tgt := 161) rfl ?_
  refine r_aload_n (pc := 161) C 2 rfl rfl dX8_perform_161 ?_
  refine r_iload_n (pc := 162) C 3 rfl rfl dX8_perform_162 ?_
  refine r_iload_n (pc := 163) C 0 rfl rfl dX8_perform_163 ?_
  refine r_cVV (pc := 164) C hRm (okX8_doWake h0 v1 x6 M3 h_0) (Rc.of C rfl rfl h_0) mw_1423 cvX8_doWake rfl ⟨Nat.le_of_ble_eq_true rfl, Nat.le_of_ble_eq_true rfl⟩ rfl (Nat.le_of_ble_eq_true rfl) dX8_perform_164 (fun o32 M31 => ?_)
  refine r_goto (pc := 167) C dX8_perform_167 (tgt := 203) rfl ?_
  exact r_vret (pc := 203) C dX8_perform_203
  refine r_ite (fun e33 => ?_) (fun e33n => ?_)
  refine r_tabE (pc := 26) C e33 dX8_perform_26 (by decide) (by decide) (off := 144) rfl (tgt := 170) rfl ?_
  refine r_aload_n (pc := 170) C 2 rfl rfl dX8_perform_170 ?_
  refine r_iload_n (pc := 171) C 3 rfl rfl dX8_perform_171 ?_
  refine r_iload_n (pc := 172) C 0 rfl rfl dX8_perform_172 ?_
  refine r_cVV (pc := 173) C hRm (okX8_doTell h0 v1 x6 M3 h_0) (Rc.of C rfl rfl h_0) mw_1427 cvX8_doTell rfl ⟨Nat.le_of_ble_eq_true rfl, Nat.le_of_ble_eq_true rfl⟩ rfl (Nat.le_of_ble_eq_true rfl) dX8_perform_173 (fun o35 M34 => ?_)
  refine r_goto (pc := 176) C dX8_perform_176 (tgt := 203) rfl ?_
  exact r_vret (pc := 203) C dX8_perform_203
  refine r_ite (fun e36 => ?_) (fun e36n => ?_)
  refine r_tabE (pc := 26) C e36 dX8_perform_26 (by decide) (by decide) (off := 153) rfl (tgt := 179) rfl ?_
  refine r_aload_n (pc := 179) C 2 rfl rfl dX8_perform_179 ?_
  refine r_iload_n (pc := 180) C 3 rfl rfl dX8_perform_180 ?_
  refine r_iload_n (pc := 181) C 0 rfl rfl dX8_perform_181 ?_
  refine r_cVV (pc := 182) C hRm (okX8_doSteal h0 v1 x6 M3 h_0) (Rc.of C rfl rfl h_0) mw_1431 cvX8_doSteal rfl ⟨Nat.le_of_ble_eq_true rfl, Nat.le_of_ble_eq_true rfl⟩ rfl (Nat.le_of_ble_eq_true rfl) dX8_perform_182 (fun o38 M37 => ?_)
  refine r_goto (pc := 185) C dX8_perform_185 (tgt := 203) rfl ?_
  exact r_vret (pc := 203) C dX8_perform_203
  refine r_ite (fun e39 => ?_) (fun e39n => ?_)
  refine r_tabE (pc := 26) C e39 dX8_perform_26 (by decide) (by decide) (off := 162) rfl (tgt := 188) rfl ?_
  refine r_aload_n (pc := 188) C 2 rfl rfl dX8_perform_188 ?_
  refine r_iload_n (pc := 189) C 3 rfl rfl dX8_perform_189 ?_
  refine r_iload_n (pc := 190) C 0 rfl rfl dX8_perform_190 ?_
  refine r_cVV (pc := 191) C hRm (okX8_doLock h0 v1 x6 M3 h_0) (Rc.of C rfl rfl h_0) mw_1435 cvX8_doLock rfl ⟨Nat.le_of_ble_eq_true rfl, Nat.le_of_ble_eq_true rfl⟩ rfl (Nat.le_of_ble_eq_true rfl) dX8_perform_191 (fun o41 M40 => ?_)
  refine r_goto (pc := 194) C dX8_perform_194 (tgt := 203) rfl ?_
  exact r_vret (pc := 203) C dX8_perform_203
  refine r_tabD (pc := 26) C (cz := [0, 1, 2, 3, 4, 5, 6, 7, 8, 9]) (tabN_cons e9n (tabN_cons e12n (tabN_cons e17n (tabN_cons e23n (tabN_cons e26n (tabN_cons e28n (tabN_cons e30n (tabN_cons e33n (tabN_cons e36n (tabN_cons e39n tabN_nil)))))))))) dX8_perform_26 (by decide) (tgt := 197) rfl ?_
  refine r_aload_n (pc := 197) C 2 rfl rfl dX8_perform_197 ?_
  refine r_iload_n (pc := 198) C 3 rfl rfl dX8_perform_198 ?_
  refine r_iload_n (pc := 199) C 0 rfl rfl dX8_perform_199 ?_
  refine r_cVV (pc := 200) C hRm (okX8_doUnlock h0 v1 x6 M3 h_0) (Rc.of C rfl rfl h_0) mw_1443 cvX8_doUnlock rfl ⟨Nat.le_of_ble_eq_true rfl, Nat.le_of_ble_eq_true rfl⟩ rfl (Nat.le_of_ble_eq_true rfl) dX8_perform_200 (fun o43 M42 => ?_)
  exact r_vret (pc := 203) C dX8_perform_203
theorem okX8_perform {l : Launch} {G : WT} (h0 : W0 G) (v1 : Int32) (M : Mem) (h_0 : G.2.2.2.1 19 0 0) : Okm l G yX8_perform cX8_perform 4 none 8 187 [.ref (G.1 19 0 0), .int v1] voV M (pX8_perform  v1 M) :=
  Okm.of "PermitParkModel" rfl (by decide) (Nat.le_of_ble_eq_true rfl) (L := [(0, .ref (G.1 19 0 0)), (1, .int v1)]) rfl (fun K _ hr C => lX8_perform_0 C (by rw [hr]; exact ⟨rfl, rfl⟩) h0 v1 M h_0)
def pX8_draw (v1 : Int32) (M : Mem) : Option (Int32 × Mem) :=
    chk (inB (4 : Int32) 700) <| chk (inB (4 : Int32) 700) <| nm (wI M 20 0 0 (4 : Int32).toNatClampNeg (((((1103 : Int64) * (M.1 20 0 0 (4 : Int32).toNatClampNeg).toInt64) + (12345 : Int64)) - (((1103 : Int64) * (M.1 20 0 0 (4 : Int32).toNatClampNeg).toInt64) + (12345 : Int64)) / (1000003 : Int64) * (1000003 : Int64)).toInt32)) fun M3 => chk (inB (4 : Int32) 700) <| chk (decide (¬ v1 = 0)) <| some (((M3.1 20 0 0 (4 : Int32).toNatClampNeg) - (M3.1 20 0 0 (4 : Int32).toNatClampNeg) / v1 * v1), M3)
theorem lX8_draw_0 {K : KT} {G : WT} (C : Cx K G "PermitParkModel" cX8_draw 2 (some FieldType.int)) (hRm : K.2.2.2.1.frames = 0 ∧ K.2.2.2.1.locals = 0) (h0 : W0 G) (v1 : Int32) (M : Mem) (h_0 : G.2.2.2.1 19 0 0) : Run K G 2 0 0 (FinM K G voI 0 0) 0 [(0, .ref (G.1 19 0 0)), (1, .int v1)] [] M (pX8_draw   v1 M) := by
  rw [pX8_draw]
  refine r_aload_n (pc := 0) C 0 rfl rfl dX8_draw_0 ?_
  refine r_getR (pc := 1) C FX8_state mw_1012 h_0 rfl dX8_draw_1 (fun g1 => ?_)
  refine r_iconst (pc := 4) C dX8_draw_4 kc_4 ?_
  refine r_ldc2 (pc := 5) C mw_1392 dX8_draw_5 ?_
  refine r_aload_n (pc := 8) C 0 rfl rfl dX8_draw_8 ?_
  refine r_getR (pc := 9) C FX8_state mw_1012 h_0 rfl dX8_draw_9 (fun g2 => ?_)
  refine r_iconst (pc := 12) C dX8_draw_12 kc_4 ?_
  refine r_iald (pc := 13) C rfl g1 (fun _ => rfl) (fun _ => rfl) dX8_draw_13 ?_
  refine r_i2l (pc := 14) C dX8_draw_14 ?_
  refine r_lmul (pc := 15) C dX8_draw_15 ?_
  refine r_ldc2 (pc := 16) C mw_1393 dX8_draw_16 ?_
  refine r_ladd (pc := 19) C dX8_draw_19 ?_
  refine r_ldc2 (pc := 20) C mw_1394 dX8_draw_20 ?_
  refine r_lrem (pc := 23) C dX8_draw_23 (by decide) ?_
  refine r_l2i (pc := 24) C dX8_draw_24 ?_
  refine r_iast (pc := 25) C rfl g1 (fun _ => rfl) (fun _ => rfl) dX8_draw_25 (fun M3 => ?_)
  refine r_aload_n (pc := 26) C 0 rfl rfl dX8_draw_26 ?_
  refine r_getR (pc := 27) C FX8_state mw_1012 h_0 rfl dX8_draw_27 (fun g4 => ?_)
  refine r_iconst (pc := 30) C dX8_draw_30 kc_4 ?_
  refine r_iald (pc := 31) C rfl g1 (fun _ => rfl) (fun _ => rfl) dX8_draw_31 ?_
  refine r_iload_n (pc := 32) C 1 rfl rfl dX8_draw_32 ?_
  refine r_chk (fun z5 => ?_)
  refine r_irem (pc := 33) C dX8_draw_33 (of_decide_eq_true z5) ?_
  exact r_iret (pc := 34) C rfl dX8_draw_34
theorem okX8_draw {l : Launch} {G : WT} (h0 : W0 G) (v1 : Int32) (M : Mem) (h_0 : G.2.2.2.1 19 0 0) : Okm l G yX8_draw cX8_draw 2 (some FieldType.int) 0 0 [.ref (G.1 19 0 0), .int v1] voI M (pX8_draw  v1 M) :=
  Okm.of "PermitParkModel" rfl (by decide) (Nat.le_of_ble_eq_true rfl) (L := [(0, .ref (G.1 19 0 0)), (1, .int v1)]) rfl (fun K _ hr C => lX8_draw_0 C (by rw [hr]; exact ⟨rfl, rfl⟩) h0 v1 M h_0)
def pX8_nextDue_52 (k4 : Int32 → Int32 → Mem → Option (Int32 × Mem)) (v1 : Int32) (v2 : Int32) (v3 : Int32) (s0 : Int32) (M : Mem) : Option (Int32 × Mem) :=
    if s0 = 0 then (k4 v1 (v2 + (1 : Int32)) M)
    else if v1 = (-1 : Int32) then (k4 v2 (v2 + (1 : Int32)) M)
    else bnd (pX8_of v1 (7 : Int32) M) fun o2 M1 => if o2 ≤ v3 then (k4 v1 (v2 + (1 : Int32)) M1)
    else k4 v2 (v2 + (1 : Int32)) M1
theorem lX8_nextDue_52 {K : KT} {G : WT} {k4 : Int32 → Int32 → Mem → Option (Int32 × Mem)} (C : Cx K G "PermitParkModel" cX8_nextDue 5 (some FieldType.int)) (hRm : K.2.2.2.1.frames = 1 ∧ K.2.2.2.1.locals = 22) (h0 : W0 G)
    (hk4 : ∀ (v1 : Int32) (v2 : Int32) (M : Mem), G.2.2.2.1 19 0 0 → Run K G 5 0 0 (FinM K G voI 0 0) 4 [(0, .ref (G.1 19 0 0)), (1, .int v1), (2, .int v2)] [] M (k4 v1 v2 M)) (v1 : Int32) (v2 : Int32) (v3 : Int32) (s0 : Int32) (M : Mem) (g_0 : G.2.2.2.1 19 0 0) : Run K G 5 0 0 (FinM K G voI 0 0) 52 [(0, .ref (G.1 19 0 0)), (1, .int v1), (2, .int v2), (3, .int v3)] [.int s0] M (pX8_nextDue_52  k4 v1 v2 v3 s0 M) := by
  rw [pX8_nextDue_52]
  refine r_istore (pc := 52) C [(4, .int s0), (0, .ref (G.1 19 0 0)), (1, .int v1), (2, .int v2), (3, .int v3)] dX8_nextDue_52 (by decide) rfl ?_
  refine r_iload (pc := 54) C 0 rfl dX8_nextDue_54 ?_
  refine r_if_eq (pc := 56) C dX8_nextDue_56 (tgt := 79) rfl ?_ ?_
  refine r_iload_n (pc := 79) C 2 rfl rfl dX8_nextDue_79 ?_
  refine r_istore_n (pc := 80) C [(1, .int v1), (4, .int s0), (0, .ref (G.1 19 0 0)), (2, .int v2), (3, .int v3)] dX8_nextDue_80 rfl (by decide) rfl ?_
  refine r_iinc (pc := 81) C [(2, .int (v2 + (1 : Int32))), (1, .int v1), (4, .int s0), (0, .ref (G.1 19 0 0)), (3, .int v3)] dX8_nextDue_81 (p := 3) rfl (ki_1 _) (by decide) rfl ?_
  refine r_goto (pc := 84) C dX8_nextDue_84 (tgt := 4) rfl ?_
  refine r_sub [3, 1, 0] rfl ?_
  exact hk4 v1 (v2 + (1 : Int32)) M g_0
  refine r_iload_n (pc := 59) C 2 rfl rfl dX8_nextDue_59 ?_
  refine r_iconst (pc := 60) C dX8_nextDue_60 kc_m1 ?_
  refine r_icmp_eq (pc := 61) C dX8_nextDue_61 (tgt := 75) rfl ?_ ?_
  refine r_iload_n (pc := 75) C 3 rfl rfl dX8_nextDue_75 ?_
  refine r_goto (pc := 76) C dX8_nextDue_76 (tgt := 80) rfl ?_
  refine r_istore_n (pc := 80) C [(1, .int v2), (4, .int s0), (0, .ref (G.1 19 0 0)), (2, .int v2), (3, .int v3)] dX8_nextDue_80 rfl (by decide) rfl ?_
  refine r_iinc (pc := 81) C [(2, .int (v2 + (1 : Int32))), (1, .int v2), (4, .int s0), (0, .ref (G.1 19 0 0)), (3, .int v3)] dX8_nextDue_81 (p := 3) rfl (ki_1 _) (by decide) rfl ?_
  refine r_goto (pc := 84) C dX8_nextDue_84 (tgt := 4) rfl ?_
  refine r_sub [3, 1, 0] rfl ?_
  exact hk4 v2 (v2 + (1 : Int32)) M g_0
  refine r_iload_n (pc := 64) C 4 rfl rfl dX8_nextDue_64 ?_
  refine r_aload_n (pc := 65) C 1 rfl rfl dX8_nextDue_65 ?_
  refine r_iload_n (pc := 66) C 2 rfl rfl dX8_nextDue_66 ?_
  refine r_bipush (pc := 67) C dX8_nextDue_67 kb_7 ?_
  refine r_cVI (pc := 69) C hRm (okX8_of h0 v1 (7 : Int32) M g_0) (Rc.of C rfl rfl g_0) mw_1193 cvX8_of rfl ⟨Nat.le_of_ble_eq_true rfl, Nat.le_of_ble_eq_true rfl⟩ rfl (Nat.le_of_ble_eq_true rfl) dX8_nextDue_69 (fun o2 M1 => ?_)
  refine r_icmp_ge (pc := 72) C dX8_nextDue_72 (tgt := 79) rfl ?_ ?_
  refine r_iload_n (pc := 79) C 2 rfl rfl dX8_nextDue_79 ?_
  refine r_istore_n (pc := 80) C [(1, .int v1), (4, .int s0), (0, .ref (G.1 19 0 0)), (2, .int v2), (3, .int v3)] dX8_nextDue_80 rfl (by decide) rfl ?_
  refine r_iinc (pc := 81) C [(2, .int (v2 + (1 : Int32))), (1, .int v1), (4, .int s0), (0, .ref (G.1 19 0 0)), (3, .int v3)] dX8_nextDue_81 (p := 3) rfl (ki_1 _) (by decide) rfl ?_
  refine r_goto (pc := 84) C dX8_nextDue_84 (tgt := 4) rfl ?_
  refine r_sub [3, 1, 0] rfl ?_
  exact hk4 v1 (v2 + (1 : Int32)) M1 g_0
  refine r_iload_n (pc := 75) C 3 rfl rfl dX8_nextDue_75 ?_
  refine r_goto (pc := 76) C dX8_nextDue_76 (tgt := 80) rfl ?_
  refine r_istore_n (pc := 80) C [(1, .int v2), (4, .int s0), (0, .ref (G.1 19 0 0)), (2, .int v2), (3, .int v3)] dX8_nextDue_80 rfl (by decide) rfl ?_
  refine r_iinc (pc := 81) C [(2, .int (v2 + (1 : Int32))), (1, .int v2), (4, .int s0), (0, .ref (G.1 19 0 0)), (3, .int v3)] dX8_nextDue_81 (p := 3) rfl (ki_1 _) (by decide) rfl ?_
  refine r_goto (pc := 84) C dX8_nextDue_84 (tgt := 4) rfl ?_
  refine r_sub [3, 1, 0] rfl ?_
  exact hk4 v2 (v2 + (1 : Int32)) M1 g_0
def pX8_nextDue_4 : Nat → Int32 → Int32 → Mem → Option (Int32 × Mem)
  | 0, _, _, _ => none
  | n + 1, v1, v2, M =>
    chk (inB (2 : Int32) 700) <| if (M.1 20 0 0 (2 : Int32).toNatClampNeg) ≤ v2 then (some (v1, M))
    else bnd (pX8_of v2 (7 : Int32) M) fun o3 M2 => bnd (pX8_of v2 (3 : Int32) M2) fun o5 M4 => if ¬ o5 = (1 : Int32) then (pX8_nextDue_52  (fun v1 v2 M => pX8_nextDue_4   n v1 v2 M)  v1 v2 o3 (0 : Int32) M4)
    else if o3 = (-1 : Int32) then (pX8_nextDue_52  (fun v1 v2 M => pX8_nextDue_4   n v1 v2 M)  v1 v2 o3 (0 : Int32) M4)
    else chk (inB (3 : Int32) 700) <| if (M4.1 20 0 0 (3 : Int32).toNatClampNeg) < o3 then (pX8_nextDue_52  (fun v1 v2 M => pX8_nextDue_4   n v1 v2 M)  v1 v2 o3 (0 : Int32) M4)
    else pX8_nextDue_52  (fun v1 v2 M => pX8_nextDue_4   n v1 v2 M)  v1 v2 o3 (1 : Int32) M4
theorem lX8_nextDue_4 {K : KT} {G : WT} (C : Cx K G "PermitParkModel" cX8_nextDue 5 (some FieldType.int)) (hRm : K.2.2.2.1.frames = 1 ∧ K.2.2.2.1.locals = 22) (h0 : W0 G) : ∀ (n : Nat) (v1 : Int32) (v2 : Int32) (M : Mem), G.2.2.2.1 19 0 0 → Run K G 5 0 0 (FinM K G voI 0 0) 4 [(0, .ref (G.1 19 0 0)), (1, .int v1), (2, .int v2)] [] M (pX8_nextDue_4   n v1 v2 M) := by
  intro n
  induction n with
  | zero =>
    intro v1 v2 M g_0
    exact r_none
  | succ n ih =>
    intro v1 v2 M g_0
    rw [pX8_nextDue_4]
    refine r_iload_n (pc := 4) C 2 rfl rfl dX8_nextDue_4 ?_
    refine r_aload_n (pc := 5) C 0 rfl rfl dX8_nextDue_5 ?_
    refine r_getR (pc := 6) C FX8_state mw_1012 g_0 rfl dX8_nextDue_6 (fun g1 => ?_)
    refine r_iconst (pc := 9) C dX8_nextDue_9 kc_2 ?_
    refine r_iald (pc := 10) C rfl g1 (fun _ => rfl) (fun _ => rfl) dX8_nextDue_10 ?_
    refine r_icmp_ge (pc := 11) C dX8_nextDue_11 (tgt := 87) rfl ?_ ?_
    refine r_iload_n (pc := 87) C 1 rfl rfl dX8_nextDue_87 ?_
    exact r_iret (pc := 88) C rfl dX8_nextDue_88
    refine r_aload_n (pc := 14) C 0 rfl rfl dX8_nextDue_14 ?_
    refine r_iload_n (pc := 15) C 2 rfl rfl dX8_nextDue_15 ?_
    refine r_bipush (pc := 16) C dX8_nextDue_16 kb_7 ?_
    refine r_cVI (pc := 18) C hRm (okX8_of h0 v2 (7 : Int32) M g_0) (Rc.of C rfl rfl g_0) mw_1193 cvX8_of rfl ⟨Nat.le_of_ble_eq_true rfl, Nat.le_of_ble_eq_true rfl⟩ rfl (Nat.le_of_ble_eq_true rfl) dX8_nextDue_18 (fun o3 M2 => ?_)
    refine r_istore_n (pc := 21) C [(3, .int o3), (0, .ref (G.1 19 0 0)), (1, .int v1), (2, .int v2)] dX8_nextDue_21 rfl (by decide) rfl ?_
    refine r_aload_n (pc := 22) C 1 rfl rfl dX8_nextDue_22 ?_
    refine r_iload_n (pc := 23) C 3 rfl rfl dX8_nextDue_23 ?_
    refine r_iconst (pc := 24) C dX8_nextDue_24 kc_3 ?_
    refine r_cVI (pc := 25) C hRm (okX8_of h0 v2 (3 : Int32) M2 g_0) (Rc.of C rfl rfl g_0) mw_1193 cvX8_of rfl ⟨Nat.le_of_ble_eq_true rfl, Nat.le_of_ble_eq_true rfl⟩ rfl (Nat.le_of_ble_eq_true rfl) dX8_nextDue_25 (fun o5 M4 => ?_)
    refine r_iconst (pc := 28) C dX8_nextDue_28 kc_1 ?_
    refine r_icmp_ne (pc := 29) C dX8_nextDue_29 (tgt := 51) rfl ?_ ?_
    refine r_iconst (pc := 51) C dX8_nextDue_51 kc_0 ?_
    refine r_sub [1, 2, 3, 0] rfl ?_
    exact lX8_nextDue_52  (k4 := (fun v1 v2 M => pX8_nextDue_4   n v1 v2 M)) C hRm h0 ih  v1 v2 o3 (0 : Int32) M4 g_0
    refine r_iload_n (pc := 32) C 0 rfl rfl dX8_nextDue_32 ?_
    refine r_iconst (pc := 33) C dX8_nextDue_33 kc_m1 ?_
    refine r_icmp_eq (pc := 34) C dX8_nextDue_34 (tgt := 51) rfl ?_ ?_
    refine r_iconst (pc := 51) C dX8_nextDue_51 kc_0 ?_
    refine r_sub [1, 2, 3, 0] rfl ?_
    exact lX8_nextDue_52  (k4 := (fun v1 v2 M => pX8_nextDue_4   n v1 v2 M)) C hRm h0 ih  v1 v2 o3 (0 : Int32) M4 g_0
    refine r_iload_n (pc := 37) C 0 rfl rfl dX8_nextDue_37 ?_
    refine r_aload_n (pc := 38) C 1 rfl rfl dX8_nextDue_38 ?_
    refine r_getR (pc := 39) C FX8_state mw_1012 g_0 rfl dX8_nextDue_39 (fun g6 => ?_)
    refine r_iconst (pc := 42) C dX8_nextDue_42 kc_3 ?_
    refine r_iald (pc := 43) C rfl g1 (fun _ => rfl) (fun _ => rfl) dX8_nextDue_43 ?_
    refine r_icmp_gt (pc := 44) C dX8_nextDue_44 (tgt := 51) rfl ?_ ?_
    refine r_iconst (pc := 51) C dX8_nextDue_51 kc_0 ?_
    refine r_sub [1, 2, 3, 0] rfl ?_
    exact lX8_nextDue_52  (k4 := (fun v1 v2 M => pX8_nextDue_4   n v1 v2 M)) C hRm h0 ih  v1 v2 o3 (0 : Int32) M4 g_0
    refine r_iconst (pc := 47) C dX8_nextDue_47 kc_1 ?_
    refine r_goto (pc := 48) C dX8_nextDue_48 (tgt := 52) rfl ?_
    refine r_sub [1, 2, 3, 0] rfl ?_
    exact lX8_nextDue_52  (k4 := (fun v1 v2 M => pX8_nextDue_4   n v1 v2 M)) C hRm h0 ih  v1 v2 o3 (1 : Int32) M4 g_0
def pX8_nextDue (M : Mem) : Option (Int32 × Mem) :=
    pX8_nextDue_4   fu (-1 : Int32) (0 : Int32) M
theorem lX8_nextDue_0 {K : KT} {G : WT} (C : Cx K G "PermitParkModel" cX8_nextDue 5 (some FieldType.int)) (hRm : K.2.2.2.1.frames = 1 ∧ K.2.2.2.1.locals = 22) (h0 : W0 G) (M : Mem) (h_0 : G.2.2.2.1 19 0 0) : Run K G 5 0 0 (FinM K G voI 0 0) 0 [(0, .ref (G.1 19 0 0))] [] M (pX8_nextDue    M) := by
  rw [pX8_nextDue]
  refine r_iconst (pc := 0) C dX8_nextDue_0 kc_m1 ?_
  refine r_istore_n (pc := 1) C [(1, .int (-1 : Int32)), (0, .ref (G.1 19 0 0))] dX8_nextDue_1 rfl (by decide) rfl ?_
  refine r_iconst (pc := 2) C dX8_nextDue_2 kc_0 ?_
  refine r_istore_n (pc := 3) C [(2, .int (0 : Int32)), (1, .int (-1 : Int32)), (0, .ref (G.1 19 0 0))] dX8_nextDue_3 rfl (by decide) rfl ?_
  refine r_sub [2, 1, 0] rfl ?_
  exact lX8_nextDue_4   C hRm h0  fu (-1 : Int32) (0 : Int32) M h_0
theorem okX8_nextDue {l : Launch} {G : WT} (h0 : W0 G) (M : Mem) (h_0 : G.2.2.2.1 19 0 0) : Okm l G yX8_nextDue cX8_nextDue 5 (some FieldType.int) 1 22 [.ref (G.1 19 0 0)] voI M (pX8_nextDue   M) :=
  Okm.of "PermitParkModel" rfl (by decide) (Nat.le_of_ble_eq_true rfl) (L := [(0, .ref (G.1 19 0 0))]) rfl (fun K _ hr C => lX8_nextDue_0 C (by rw [hr]; exact ⟨rfl, rfl⟩) h0  M h_0)
def pX8_wakeByTime_26 : Nat → Int32 → Mem → Option (Unit × Mem)
  | 0, _, _ => none
  | n + 1, v1, M =>
    chk (inB (2 : Int32) 700) <| if (M.1 20 0 0 (2 : Int32).toNatClampNeg) ≤ v1 then (some ((), M))
    else chk (inB (0 : Int32) 700) <| if (M.1 20 0 0 (0 : Int32).toNatClampNeg) ≤ 0 then (some ((), M))
    else bnd (pX8_of v1 (3 : Int32) M) fun o4 M3 => if ¬ o4 = (1 : Int32) then (pX8_wakeByTime_26   n (v1 + (1 : Int32)) M3)
    else bnd (pX8_draw (1000 : Int32) M3) fun o6 M5 => chk (inB (0 : Int32) 700) <| if (M5.1 20 0 0 (0 : Int32).toNatClampNeg) ≤ o6 then (pX8_wakeByTime_26   n (v1 + (1 : Int32)) M5)
    else bnd (pX8_comeBack v1 (3 : Int32) M5) fun o9 M8 => pX8_wakeByTime_26   n (v1 + (1 : Int32)) M8
theorem lX8_wakeByTime_26 {K : KT} {G : WT} (C : Cx K G "PermitParkModel" cX8_wakeByTime 2 none) (hRm : K.2.2.2.1.frames = 6 ∧ K.2.2.2.1.locals = 142) (h0 : W0 G) : ∀ (n : Nat) (v1 : Int32) (M : Mem), G.2.2.2.1 19 0 0 → Run K G 2 0 0 (FinM K G voV 0 0) 26 [(0, .ref (G.1 19 0 0)), (1, .int v1)] [] M (pX8_wakeByTime_26   n v1 M) := by
  intro n
  induction n with
  | zero =>
    intro v1 M g_0
    exact r_none
  | succ n ih =>
    intro v1 M g_0
    rw [pX8_wakeByTime_26]
    refine r_iload_n (pc := 26) C 1 rfl rfl dX8_wakeByTime_26 ?_
    refine r_aload_n (pc := 27) C 0 rfl rfl dX8_wakeByTime_27 ?_
    refine r_getR (pc := 28) C FX8_state mw_1012 g_0 rfl dX8_wakeByTime_28 (fun g1 => ?_)
    refine r_iconst (pc := 31) C dX8_wakeByTime_31 kc_2 ?_
    refine r_iald (pc := 32) C rfl g1 (fun _ => rfl) (fun _ => rfl) dX8_wakeByTime_32 ?_
    refine r_icmp_ge (pc := 33) C dX8_wakeByTime_33 (tgt := 83) rfl ?_ ?_
    exact r_vret (pc := 83) C dX8_wakeByTime_83
    refine r_aload_n (pc := 36) C 0 rfl rfl dX8_wakeByTime_36 ?_
    refine r_getR (pc := 37) C FX8_state mw_1012 g_0 rfl dX8_wakeByTime_37 (fun g2 => ?_)
    refine r_iconst (pc := 40) C dX8_wakeByTime_40 kc_0 ?_
    refine r_iald (pc := 41) C rfl g1 (fun _ => rfl) (fun _ => rfl) dX8_wakeByTime_41 ?_
    refine r_if_le (pc := 42) C dX8_wakeByTime_42 (tgt := 83) rfl ?_ ?_
    exact r_vret (pc := 83) C dX8_wakeByTime_83
    refine r_aload_n (pc := 45) C 0 rfl rfl dX8_wakeByTime_45 ?_
    refine r_iload_n (pc := 46) C 1 rfl rfl dX8_wakeByTime_46 ?_
    refine r_iconst (pc := 47) C dX8_wakeByTime_47 kc_3 ?_
    refine r_cVI (pc := 48) C hRm (okX8_of h0 v1 (3 : Int32) M g_0) (Rc.of C rfl rfl g_0) mw_1193 cvX8_of rfl ⟨Nat.le_of_ble_eq_true rfl, Nat.le_of_ble_eq_true rfl⟩ rfl (Nat.le_of_ble_eq_true rfl) dX8_wakeByTime_48 (fun o4 M3 => ?_)
    refine r_iconst (pc := 51) C dX8_wakeByTime_51 kc_1 ?_
    refine r_icmp_ne (pc := 52) C dX8_wakeByTime_52 (tgt := 77) rfl ?_ ?_
    refine r_iinc (pc := 77) C [(1, .int (v1 + (1 : Int32))), (0, .ref (G.1 19 0 0))] dX8_wakeByTime_77 (p := 1) rfl (ki_1 _) (by decide) rfl ?_
    refine r_goto (pc := 80) C dX8_wakeByTime_80 (tgt := 26) rfl ?_
    refine r_sub [1, 0] rfl ?_
    exact ih (v1 + (1 : Int32)) M3 g_0
    refine r_aload_n (pc := 55) C 0 rfl rfl dX8_wakeByTime_55 ?_
    refine r_sipush (pc := 56) C dX8_wakeByTime_56 ks_1000 ?_
    refine r_cVI (pc := 59) C hRm (okX8_draw h0 (1000 : Int32) M3 g_0) (Rc.of C rfl rfl g_0) mw_1388 cvX8_draw rfl ⟨Nat.le_of_ble_eq_true rfl, Nat.le_of_ble_eq_true rfl⟩ rfl (Nat.le_of_ble_eq_true rfl) dX8_wakeByTime_59 (fun o6 M5 => ?_)
    refine r_aload_n (pc := 62) C 0 rfl rfl dX8_wakeByTime_62 ?_
    refine r_getR (pc := 63) C FX8_state mw_1012 g_0 rfl dX8_wakeByTime_63 (fun g7 => ?_)
    refine r_iconst (pc := 66) C dX8_wakeByTime_66 kc_0 ?_
    refine r_iald (pc := 67) C rfl g1 (fun _ => rfl) (fun _ => rfl) dX8_wakeByTime_67 ?_
    refine r_icmp_ge (pc := 68) C dX8_wakeByTime_68 (tgt := 77) rfl ?_ ?_
    refine r_iinc (pc := 77) C [(1, .int (v1 + (1 : Int32))), (0, .ref (G.1 19 0 0))] dX8_wakeByTime_77 (p := 1) rfl (ki_1 _) (by decide) rfl ?_
    refine r_goto (pc := 80) C dX8_wakeByTime_80 (tgt := 26) rfl ?_
    refine r_sub [1, 0] rfl ?_
    exact ih (v1 + (1 : Int32)) M5 g_0
    refine r_aload_n (pc := 71) C 0 rfl rfl dX8_wakeByTime_71 ?_
    refine r_iload_n (pc := 72) C 1 rfl rfl dX8_wakeByTime_72 ?_
    refine r_iconst (pc := 73) C dX8_wakeByTime_73 kc_3 ?_
    refine r_cVV (pc := 74) C hRm (okX8_comeBack h0 v1 (3 : Int32) M5 g_0) (Rc.of C rfl rfl g_0) mw_1328 cvX8_comeBack rfl ⟨Nat.le_of_ble_eq_true rfl, Nat.le_of_ble_eq_true rfl⟩ rfl (Nat.le_of_ble_eq_true rfl) dX8_wakeByTime_74 (fun o9 M8 => ?_)
    refine r_iinc (pc := 77) C [(1, .int (v1 + (1 : Int32))), (0, .ref (G.1 19 0 0))] dX8_wakeByTime_77 (p := 1) rfl (ki_1 _) (by decide) rfl ?_
    refine r_goto (pc := 80) C dX8_wakeByTime_80 (tgt := 26) rfl ?_
    refine r_sub [1, 0] rfl ?_
    exact ih (v1 + (1 : Int32)) M8 g_0
def pX8_wakeByTime_5 : Nat → Int32 → Mem → Option (Unit × Mem)
  | 0, _, _ => none
  | n + 1, v1, M =>
    if v1 = (-1 : Int32) then (pX8_wakeByTime_26   fu (0 : Int32) M)
    else bnd (pX8_comeBack v1 (2 : Int32) M) fun o2 M1 => bnd (pX8_nextDue M1) fun o4 M3 => pX8_wakeByTime_5   n o4 M3
theorem lX8_wakeByTime_5 {K : KT} {G : WT} (C : Cx K G "PermitParkModel" cX8_wakeByTime 2 none) (hRm : K.2.2.2.1.frames = 6 ∧ K.2.2.2.1.locals = 142) (h0 : W0 G) : ∀ (n : Nat) (v1 : Int32) (M : Mem), G.2.2.2.1 19 0 0 → Run K G 2 0 0 (FinM K G voV 0 0) 5 [(0, .ref (G.1 19 0 0)), (1, .int v1)] [] M (pX8_wakeByTime_5   n v1 M) := by
  intro n
  induction n with
  | zero =>
    intro v1 M g_0
    exact r_none
  | succ n ih =>
    intro v1 M g_0
    rw [pX8_wakeByTime_5]
    refine r_iload_n (pc := 5) C 1 rfl rfl dX8_wakeByTime_5 ?_
    refine r_iconst (pc := 6) C dX8_wakeByTime_6 kc_m1 ?_
    refine r_icmp_eq (pc := 7) C dX8_wakeByTime_7 (tgt := 24) rfl ?_ ?_
    refine r_iconst (pc := 24) C dX8_wakeByTime_24 kc_0 ?_
    refine r_istore_n (pc := 25) C [(1, .int (0 : Int32)), (0, .ref (G.1 19 0 0))] dX8_wakeByTime_25 rfl (by decide) rfl ?_
    refine r_sub [1, 0] rfl ?_
    exact lX8_wakeByTime_26   C hRm h0  fu (0 : Int32) M g_0
    refine r_aload_n (pc := 10) C 0 rfl rfl dX8_wakeByTime_10 ?_
    refine r_iload_n (pc := 11) C 1 rfl rfl dX8_wakeByTime_11 ?_
    refine r_iconst (pc := 12) C dX8_wakeByTime_12 kc_2 ?_
    refine r_cVV (pc := 13) C hRm (okX8_comeBack h0 v1 (2 : Int32) M g_0) (Rc.of C rfl rfl g_0) mw_1328 cvX8_comeBack rfl ⟨Nat.le_of_ble_eq_true rfl, Nat.le_of_ble_eq_true rfl⟩ rfl (Nat.le_of_ble_eq_true rfl) dX8_wakeByTime_13 (fun o2 M1 => ?_)
    refine r_aload_n (pc := 16) C 0 rfl rfl dX8_wakeByTime_16 ?_
    refine r_cVI (pc := 17) C hRm (okX8_nextDue h0 M1 g_0) (Rc.of C rfl rfl g_0) mw_1384 cvX8_nextDue rfl ⟨Nat.le_of_ble_eq_true rfl, Nat.le_of_ble_eq_true rfl⟩ rfl (Nat.le_of_ble_eq_true rfl) dX8_wakeByTime_17 (fun o4 M3 => ?_)
    refine r_istore_n (pc := 20) C [(1, .int o4), (0, .ref (G.1 19 0 0))] dX8_wakeByTime_20 rfl (by decide) rfl ?_
    refine r_goto (pc := 21) C dX8_wakeByTime_21 (tgt := 5) rfl ?_
    refine r_sub [1, 0] rfl ?_
    exact ih o4 M3 g_0
def pX8_wakeByTime (M : Mem) : Option (Unit × Mem) :=
    bnd (pX8_nextDue M) fun o2 M1 => pX8_wakeByTime_5   fu o2 M1
theorem lX8_wakeByTime_0 {K : KT} {G : WT} (C : Cx K G "PermitParkModel" cX8_wakeByTime 2 none) (hRm : K.2.2.2.1.frames = 6 ∧ K.2.2.2.1.locals = 142) (h0 : W0 G) (M : Mem) (h_0 : G.2.2.2.1 19 0 0) : Run K G 2 0 0 (FinM K G voV 0 0) 0 [(0, .ref (G.1 19 0 0))] [] M (pX8_wakeByTime    M) := by
  rw [pX8_wakeByTime]
  refine r_aload_n (pc := 0) C 0 rfl rfl dX8_wakeByTime_0 ?_
  refine r_cVI (pc := 1) C hRm (okX8_nextDue h0 M h_0) (Rc.of C rfl rfl h_0) mw_1384 cvX8_nextDue rfl ⟨Nat.le_of_ble_eq_true rfl, Nat.le_of_ble_eq_true rfl⟩ rfl (Nat.le_of_ble_eq_true rfl) dX8_wakeByTime_1 (fun o2 M1 => ?_)
  refine r_istore_n (pc := 4) C [(1, .int o2), (0, .ref (G.1 19 0 0))] dX8_wakeByTime_4 rfl (by decide) rfl ?_
  refine r_sub [1, 0] rfl ?_
  exact lX8_wakeByTime_5   C hRm h0  fu o2 M1 h_0
theorem okX8_wakeByTime {l : Launch} {G : WT} (h0 : W0 G) (M : Mem) (h_0 : G.2.2.2.1 19 0 0) : Okm l G yX8_wakeByTime cX8_wakeByTime 2 none 6 142 [.ref (G.1 19 0 0)] voV M (pX8_wakeByTime   M) :=
  Okm.of "PermitParkModel" rfl (by decide) (Nat.le_of_ble_eq_true rfl) (L := [(0, .ref (G.1 19 0 0))]) rfl (fun K _ hr C => lX8_wakeByTime_0 C (by rw [hr]; exact ⟨rfl, rfl⟩) h0  M h_0)
def pX8_chosen_34 (k6 : Int32 → Int32 → Int32 → Mem → Option (Int32 × Mem)) (v1 : Int32) (v2 : Int32) (v3 : Int32) (s0 : Int32) (M : Mem) : Option (Int32 × Mem) :=
    if v2 < s0 then (k6 v3 s0 (v3 + (1 : Int32)) M)
    else if s0 ≤ 0 then (k6 v1 v2 (v3 + (1 : Int32)) M)
    else if ¬ s0 = v2 then (k6 v1 v2 (v3 + (1 : Int32)) M)
    else bnd (pX8_of v3 (10 : Int32) M) fun o2 M1 => bnd (pX8_of v1 (10 : Int32) M1) fun o4 M3 => if o4 ≤ o2 then (k6 v1 v2 (v3 + (1 : Int32)) M3)
    else k6 v3 s0 (v3 + (1 : Int32)) M3
theorem lX8_chosen_34 {K : KT} {G : WT} {k6 : Int32 → Int32 → Int32 → Mem → Option (Int32 × Mem)} (C : Cx K G "PermitParkModel" cX8_chosen 5 (some FieldType.int)) (hRm : K.2.2.2.1.frames = 2 ∧ K.2.2.2.1.locals = 46) (h0 : W0 G)
    (hk6 : ∀ (v1 : Int32) (v2 : Int32) (v3 : Int32) (M : Mem), G.2.2.2.1 19 0 0 → Run K G 5 0 0 (FinM K G voI 0 0) 6 [(0, .ref (G.1 19 0 0)), (1, .int v1), (2, .int v2), (3, .int v3)] [] M (k6 v1 v2 v3 M)) (v1 : Int32) (v2 : Int32) (v3 : Int32) (s0 : Int32) (M : Mem) (g_0 : G.2.2.2.1 19 0 0) : Run K G 5 0 0 (FinM K G voI 0 0) 34 [(0, .ref (G.1 19 0 0)), (1, .int v1), (2, .int v2), (3, .int v3)] [.int s0] M (pX8_chosen_34  k6 v1 v2 v3 s0 M) := by
  rw [pX8_chosen_34]
  refine r_istore (pc := 34) C [(4, .int s0), (0, .ref (G.1 19 0 0)), (1, .int v1), (2, .int v2), (3, .int v3)] dX8_chosen_34 (by decide) rfl ?_
  refine r_iload (pc := 36) C 0 rfl dX8_chosen_36 ?_
  refine r_iload_n (pc := 38) C 3 rfl rfl dX8_chosen_38 ?_
  refine r_icmp_gt (pc := 39) C dX8_chosen_39 (tgt := 70) rfl ?_ ?_
  refine r_iload_n (pc := 70) C 4 rfl rfl dX8_chosen_70 ?_
  refine r_istore_n (pc := 71) C [(1, .int v3), (4, .int s0), (0, .ref (G.1 19 0 0)), (2, .int v2), (3, .int v3)] dX8_chosen_71 rfl (by decide) rfl ?_
  refine r_iload (pc := 72) C 1 rfl dX8_chosen_72 ?_
  refine r_istore_n (pc := 74) C [(2, .int s0), (1, .int v3), (4, .int s0), (0, .ref (G.1 19 0 0)), (3, .int v3)] dX8_chosen_74 rfl (by decide) rfl ?_
  refine r_iinc (pc := 75) C [(3, .int (v3 + (1 : Int32))), (2, .int s0), (1, .int v3), (4, .int s0), (0, .ref (G.1 19 0 0))] dX8_chosen_75 (p := 4) rfl (ki_1 _) (by decide) rfl ?_
  refine r_goto (pc := 78) C dX8_chosen_78 (tgt := 6) rfl ?_
  refine r_sub [4, 2, 1, 0] rfl ?_
  exact hk6 v3 s0 (v3 + (1 : Int32)) M g_0
  refine r_iload (pc := 42) C 0 rfl dX8_chosen_42 ?_
  refine r_if_le (pc := 44) C dX8_chosen_44 (tgt := 75) rfl ?_ ?_
  refine r_iinc (pc := 75) C [(3, .int (v3 + (1 : Int32))), (4, .int s0), (0, .ref (G.1 19 0 0)), (1, .int v1), (2, .int v2)] dX8_chosen_75 (p := 4) rfl (ki_1 _) (by decide) rfl ?_
  refine r_goto (pc := 78) C dX8_chosen_78 (tgt := 6) rfl ?_
  refine r_sub [2, 3, 4, 0] rfl ?_
  exact hk6 v1 v2 (v3 + (1 : Int32)) M g_0
  refine r_iload (pc := 47) C 0 rfl dX8_chosen_47 ?_
  refine r_iload_n (pc := 49) C 3 rfl rfl dX8_chosen_49 ?_
  refine r_icmp_ne (pc := 50) C dX8_chosen_50 (tgt := 75) rfl ?_ ?_
  refine r_iinc (pc := 75) C [(3, .int (v3 + (1 : Int32))), (4, .int s0), (0, .ref (G.1 19 0 0)), (1, .int v1), (2, .int v2)] dX8_chosen_75 (p := 4) rfl (ki_1 _) (by decide) rfl ?_
  refine r_goto (pc := 78) C dX8_chosen_78 (tgt := 6) rfl ?_
  refine r_sub [2, 3, 4, 0] rfl ?_
  exact hk6 v1 v2 (v3 + (1 : Int32)) M g_0
  refine r_aload_n (pc := 53) C 1 rfl rfl dX8_chosen_53 ?_
  refine r_iload_n (pc := 54) C 4 rfl rfl dX8_chosen_54 ?_
  refine r_bipush (pc := 55) C dX8_chosen_55 kb_10 ?_
  refine r_cVI (pc := 57) C hRm (okX8_of h0 v3 (10 : Int32) M g_0) (Rc.of C rfl rfl g_0) mw_1193 cvX8_of rfl ⟨Nat.le_of_ble_eq_true rfl, Nat.le_of_ble_eq_true rfl⟩ rfl (Nat.le_of_ble_eq_true rfl) dX8_chosen_57 (fun o2 M1 => ?_)
  refine r_aload_n (pc := 60) C 1 rfl rfl dX8_chosen_60 ?_
  refine r_iload_n (pc := 61) C 2 rfl rfl dX8_chosen_61 ?_
  refine r_bipush (pc := 62) C dX8_chosen_62 kb_10 ?_
  refine r_cVI (pc := 64) C hRm (okX8_of h0 v1 (10 : Int32) M1 g_0) (Rc.of C rfl rfl g_0) mw_1193 cvX8_of rfl ⟨Nat.le_of_ble_eq_true rfl, Nat.le_of_ble_eq_true rfl⟩ rfl (Nat.le_of_ble_eq_true rfl) dX8_chosen_64 (fun o4 M3 => ?_)
  refine r_icmp_ge (pc := 67) C dX8_chosen_67 (tgt := 75) rfl ?_ ?_
  refine r_iinc (pc := 75) C [(3, .int (v3 + (1 : Int32))), (4, .int s0), (0, .ref (G.1 19 0 0)), (1, .int v1), (2, .int v2)] dX8_chosen_75 (p := 4) rfl (ki_1 _) (by decide) rfl ?_
  refine r_goto (pc := 78) C dX8_chosen_78 (tgt := 6) rfl ?_
  refine r_sub [2, 3, 4, 0] rfl ?_
  exact hk6 v1 v2 (v3 + (1 : Int32)) M3 g_0
  refine r_iload_n (pc := 70) C 4 rfl rfl dX8_chosen_70 ?_
  refine r_istore_n (pc := 71) C [(1, .int v3), (4, .int s0), (0, .ref (G.1 19 0 0)), (2, .int v2), (3, .int v3)] dX8_chosen_71 rfl (by decide) rfl ?_
  refine r_iload (pc := 72) C 1 rfl dX8_chosen_72 ?_
  refine r_istore_n (pc := 74) C [(2, .int s0), (1, .int v3), (4, .int s0), (0, .ref (G.1 19 0 0)), (3, .int v3)] dX8_chosen_74 rfl (by decide) rfl ?_
  refine r_iinc (pc := 75) C [(3, .int (v3 + (1 : Int32))), (2, .int s0), (1, .int v3), (4, .int s0), (0, .ref (G.1 19 0 0))] dX8_chosen_75 (p := 4) rfl (ki_1 _) (by decide) rfl ?_
  refine r_goto (pc := 78) C dX8_chosen_78 (tgt := 6) rfl ?_
  refine r_sub [4, 2, 1, 0] rfl ?_
  exact hk6 v3 s0 (v3 + (1 : Int32)) M3 g_0
def pX8_chosen_6 : Nat → Int32 → Int32 → Int32 → Mem → Option (Int32 × Mem)
  | 0, _, _, _, _ => none
  | n + 1, v1, v2, v3, M =>
    chk (inB (2 : Int32) 700) <| if (M.1 20 0 0 (2 : Int32).toNatClampNeg) ≤ v3 then (some (v1, M))
    else bnd (pX8_of v3 (3 : Int32) M) fun o3 M2 => if ¬ o3 = 0 then (pX8_chosen_34  (fun v1 v2 v3 M => pX8_chosen_6   n v1 v2 v3 M)  v1 v2 v3 (0 : Int32) M2)
    else bnd (pX8_priorityOf v3 M2) fun o5 M4 => pX8_chosen_34  (fun v1 v2 v3 M => pX8_chosen_6   n v1 v2 v3 M)  v1 v2 v3 o5 M4
theorem lX8_chosen_6 {K : KT} {G : WT} (C : Cx K G "PermitParkModel" cX8_chosen 5 (some FieldType.int)) (hRm : K.2.2.2.1.frames = 2 ∧ K.2.2.2.1.locals = 46) (h0 : W0 G) : ∀ (n : Nat) (v1 : Int32) (v2 : Int32) (v3 : Int32) (M : Mem), G.2.2.2.1 19 0 0 → Run K G 5 0 0 (FinM K G voI 0 0) 6 [(0, .ref (G.1 19 0 0)), (1, .int v1), (2, .int v2), (3, .int v3)] [] M (pX8_chosen_6   n v1 v2 v3 M) := by
  intro n
  induction n with
  | zero =>
    intro v1 v2 v3 M g_0
    exact r_none
  | succ n ih =>
    intro v1 v2 v3 M g_0
    rw [pX8_chosen_6]
    refine r_iload_n (pc := 6) C 3 rfl rfl dX8_chosen_6 ?_
    refine r_aload_n (pc := 7) C 0 rfl rfl dX8_chosen_7 ?_
    refine r_getR (pc := 8) C FX8_state mw_1012 g_0 rfl dX8_chosen_8 (fun g1 => ?_)
    refine r_iconst (pc := 11) C dX8_chosen_11 kc_2 ?_
    refine r_iald (pc := 12) C rfl g1 (fun _ => rfl) (fun _ => rfl) dX8_chosen_12 ?_
    refine r_icmp_ge (pc := 13) C dX8_chosen_13 (tgt := 81) rfl ?_ ?_
    refine r_iload_n (pc := 81) C 1 rfl rfl dX8_chosen_81 ?_
    exact r_iret (pc := 82) C rfl dX8_chosen_82
    refine r_aload_n (pc := 16) C 0 rfl rfl dX8_chosen_16 ?_
    refine r_iload_n (pc := 17) C 3 rfl rfl dX8_chosen_17 ?_
    refine r_iconst (pc := 18) C dX8_chosen_18 kc_3 ?_
    refine r_cVI (pc := 19) C hRm (okX8_of h0 v3 (3 : Int32) M g_0) (Rc.of C rfl rfl g_0) mw_1193 cvX8_of rfl ⟨Nat.le_of_ble_eq_true rfl, Nat.le_of_ble_eq_true rfl⟩ rfl (Nat.le_of_ble_eq_true rfl) dX8_chosen_19 (fun o3 M2 => ?_)
    refine r_if_ne (pc := 22) C dX8_chosen_22 (tgt := 33) rfl ?_ ?_
    refine r_iconst (pc := 33) C dX8_chosen_33 kc_0 ?_
    exact lX8_chosen_34  (k6 := (fun v1 v2 v3 M => pX8_chosen_6   n v1 v2 v3 M)) C hRm h0 ih  v1 v2 v3 (0 : Int32) M2 g_0
    refine r_aload_n (pc := 25) C 0 rfl rfl dX8_chosen_25 ?_
    refine r_iload_n (pc := 26) C 3 rfl rfl dX8_chosen_26 ?_
    refine r_cVI (pc := 27) C hRm (okX8_priorityOf h0 v3 M2 g_0) (Rc.of C rfl rfl g_0) mw_1287 cvX8_priorityOf rfl ⟨Nat.le_of_ble_eq_true rfl, Nat.le_of_ble_eq_true rfl⟩ rfl (Nat.le_of_ble_eq_true rfl) dX8_chosen_27 (fun o5 M4 => ?_)
    refine r_goto (pc := 30) C dX8_chosen_30 (tgt := 34) rfl ?_
    exact lX8_chosen_34  (k6 := (fun v1 v2 v3 M => pX8_chosen_6   n v1 v2 v3 M)) C hRm h0 ih  v1 v2 v3 o5 M4 g_0
def pX8_chosen (M : Mem) : Option (Int32 × Mem) :=
    pX8_chosen_6   fu (-1 : Int32) (0 : Int32) (0 : Int32) M
theorem lX8_chosen_0 {K : KT} {G : WT} (C : Cx K G "PermitParkModel" cX8_chosen 5 (some FieldType.int)) (hRm : K.2.2.2.1.frames = 2 ∧ K.2.2.2.1.locals = 46) (h0 : W0 G) (M : Mem) (h_0 : G.2.2.2.1 19 0 0) : Run K G 5 0 0 (FinM K G voI 0 0) 0 [(0, .ref (G.1 19 0 0))] [] M (pX8_chosen    M) := by
  rw [pX8_chosen]
  refine r_iconst (pc := 0) C dX8_chosen_0 kc_m1 ?_
  refine r_istore_n (pc := 1) C [(1, .int (-1 : Int32)), (0, .ref (G.1 19 0 0))] dX8_chosen_1 rfl (by decide) rfl ?_
  refine r_iconst (pc := 2) C dX8_chosen_2 kc_0 ?_
  refine r_istore_n (pc := 3) C [(2, .int (0 : Int32)), (1, .int (-1 : Int32)), (0, .ref (G.1 19 0 0))] dX8_chosen_3 rfl (by decide) rfl ?_
  refine r_iconst (pc := 4) C dX8_chosen_4 kc_0 ?_
  refine r_istore_n (pc := 5) C [(3, .int (0 : Int32)), (2, .int (0 : Int32)), (1, .int (-1 : Int32)), (0, .ref (G.1 19 0 0))] dX8_chosen_5 rfl (by decide) rfl ?_
  refine r_sub [3, 2, 1, 0] rfl ?_
  exact lX8_chosen_6   C hRm h0  fu (-1 : Int32) (0 : Int32) (0 : Int32) M h_0
theorem okX8_chosen {l : Launch} {G : WT} (h0 : W0 G) (M : Mem) (h_0 : G.2.2.2.1 19 0 0) : Okm l G yX8_chosen cX8_chosen 5 (some FieldType.int) 2 46 [.ref (G.1 19 0 0)] voI M (pX8_chosen   M) :=
  Okm.of "PermitParkModel" rfl (by decide) (Nat.le_of_ble_eq_true rfl) (L := [(0, .ref (G.1 19 0 0))]) rfl (fun K _ hr C => lX8_chosen_0 C (by rw [hr]; exact ⟨rfl, rfl⟩) h0  M h_0)
def pX8_passTick_93 (M : Mem) : Option (Unit × Mem) :=
    chk (inB (3 : Int32) 700) <| chk (inB (3 : Int32) 700) <| nm (wI M 20 0 0 (3 : Int32).toNatClampNeg ((M.1 20 0 0 (3 : Int32).toNatClampNeg) + (1 : Int32))) fun M2 => some ((), M2)
theorem lX8_passTick_93 {K : KT} {G : WT} (C : Cx K G "PermitParkModel" cX8_passTick 2 none) (hRm : K.2.2.2.1.frames = 9 ∧ K.2.2.2.1.locals = 210) (h0 : W0 G) (M : Mem) (g_0 : G.2.2.2.1 19 0 0) : Run K G 2 0 0 (FinM K G voV 0 0) 93 [(0, .ref (G.1 19 0 0))] [] M (pX8_passTick_93    M) := by
  rw [pX8_passTick_93]
  refine r_aload_n (pc := 93) C 0 rfl rfl dX8_passTick_93 ?_
  refine r_getR (pc := 94) C FX8_state mw_1012 g_0 rfl dX8_passTick_94 (fun g1 => ?_)
  refine r_iconst (pc := 97) C dX8_passTick_97 kc_3 ?_
  refine r_dup2_11 (pc := 98) C dX8_passTick_98 rfl rfl ?_
  refine r_iald (pc := 99) C rfl g1 (fun _ => rfl) (fun _ => rfl) dX8_passTick_99 ?_
  refine r_iconst (pc := 100) C dX8_passTick_100 kc_1 ?_
  refine r_iadd (pc := 101) C dX8_passTick_101 ?_
  refine r_iast (pc := 102) C rfl g1 (fun _ => rfl) (fun _ => rfl) dX8_passTick_102 (fun M2 => ?_)
  exact r_vret (pc := 103) C dX8_passTick_103
def pX8_passTick_2 : Nat → Int32 → Mem → Option (Unit × Mem)
  | 0, _, _ => none
  | n + 1, v1, M =>
    chk (inB (2 : Int32) 700) <| if (M.1 20 0 0 (2 : Int32).toNatClampNeg) ≤ v1 then (bnd (pX8_wakeByTime M) fun o3 M2 => bnd (pX8_chosen M2) fun o5 M4 => if ¬ o5 = (-1 : Int32) then (bnd (pX8_grow o5 (9 : Int32) M4) fun o7 M6 => chk (inB (3 : Int32) 700) <| bnd (pX8_put o5 (10 : Int32) (M6.1 20 0 0 (3 : Int32).toNatClampNeg) M6) fun o10 M9 => bnd (pX8_perform o5 M9) fun o12 M11 => pX8_passTick_93    M11)
    else chk (inB (6 : Int32) 700) <| chk (inB (6 : Int32) 700) <| nm (wI M4 20 0 0 (6 : Int32).toNatClampNeg ((M4.1 20 0 0 (6 : Int32).toNatClampNeg) + (1 : Int32))) fun M14 => pX8_passTick_93    M14)
    else bnd (pX8_of v1 (16 : Int32) M) fun o16 M15 => bnd (pX8_priorityOf v1 M15) fun o18 M17 => bnd (pX8_put v1 (16 : Int32) (if o16 < o18 then o18 else o16) M17) fun o20 M19 => pX8_passTick_2   n (v1 + (1 : Int32)) M19
theorem lX8_passTick_2 {K : KT} {G : WT} (C : Cx K G "PermitParkModel" cX8_passTick 2 none) (hRm : K.2.2.2.1.frames = 9 ∧ K.2.2.2.1.locals = 210) (h0 : W0 G) : ∀ (n : Nat) (v1 : Int32) (M : Mem), G.2.2.2.1 19 0 0 → Run K G 2 0 0 (FinM K G voV 0 0) 2 [(0, .ref (G.1 19 0 0)), (1, .int v1)] [] M (pX8_passTick_2   n v1 M) := by
  intro n
  induction n with
  | zero =>
    intro v1 M g_0
    exact r_none
  | succ n ih =>
    intro v1 M g_0
    rw [pX8_passTick_2]
    refine r_iload_n (pc := 2) C 1 rfl rfl dX8_passTick_2 ?_
    refine r_aload_n (pc := 3) C 0 rfl rfl dX8_passTick_3 ?_
    refine r_getR (pc := 4) C FX8_state mw_1012 g_0 rfl dX8_passTick_4 (fun g1 => ?_)
    refine r_iconst (pc := 7) C dX8_passTick_7 kc_2 ?_
    refine r_iald (pc := 8) C rfl g1 (fun _ => rfl) (fun _ => rfl) dX8_passTick_8 ?_
    refine r_icmp_ge (pc := 9) C dX8_passTick_9 (tgt := 40) rfl ?_ ?_
    refine r_aload_n (pc := 40) C 0 rfl rfl dX8_passTick_40 ?_
    refine r_cVV (pc := 41) C hRm (okX8_wakeByTime h0 M g_0) (Rc.of C rfl rfl g_0) mw_1380 cvX8_wakeByTime rfl ⟨Nat.le_of_ble_eq_true rfl, Nat.le_of_ble_eq_true rfl⟩ rfl (Nat.le_of_ble_eq_true rfl) dX8_passTick_41 (fun o3 M2 => ?_)
    refine r_aload_n (pc := 44) C 0 rfl rfl dX8_passTick_44 ?_
    refine r_cVI (pc := 45) C hRm (okX8_chosen h0 M2 g_0) (Rc.of C rfl rfl g_0) mw_1395 cvX8_chosen rfl ⟨Nat.le_of_ble_eq_true rfl, Nat.le_of_ble_eq_true rfl⟩ rfl (Nat.le_of_ble_eq_true rfl) dX8_passTick_45 (fun o5 M4 => ?_)
    refine r_istore_n (pc := 48) C [(1, .int o5), (0, .ref (G.1 19 0 0))] dX8_passTick_48 rfl (by decide) rfl ?_
    refine r_iload_n (pc := 49) C 0 rfl rfl dX8_passTick_49 ?_
    refine r_iconst (pc := 50) C dX8_passTick_50 kc_m1 ?_
    refine r_icmp_ne (pc := 51) C dX8_passTick_51 (tgt := 68) rfl ?_ ?_
    refine r_aload_n (pc := 68) C 1 rfl rfl dX8_passTick_68 ?_
    refine r_iload_n (pc := 69) C 0 rfl rfl dX8_passTick_69 ?_
    refine r_bipush (pc := 70) C dX8_passTick_70 kb_9 ?_
    refine r_cVV (pc := 72) C hRm (okX8_grow h0 o5 (9 : Int32) M4 g_0) (Rc.of C rfl rfl g_0) mw_1204 cvX8_grow rfl ⟨Nat.le_of_ble_eq_true rfl, Nat.le_of_ble_eq_true rfl⟩ rfl (Nat.le_of_ble_eq_true rfl) dX8_passTick_72 (fun o7 M6 => ?_)
    refine r_aload_n (pc := 75) C 1 rfl rfl dX8_passTick_75 ?_
    refine r_iload_n (pc := 76) C 0 rfl rfl dX8_passTick_76 ?_
    refine r_bipush (pc := 77) C dX8_passTick_77 kb_10 ?_
    refine r_aload_n (pc := 79) C 1 rfl rfl dX8_passTick_79 ?_
    refine r_getR (pc := 80) C FX8_state mw_1012 g_0 rfl dX8_passTick_80 (fun g8 => ?_)
    refine r_iconst (pc := 83) C dX8_passTick_83 kc_3 ?_
    refine r_iald (pc := 84) C rfl g1 (fun _ => rfl) (fun _ => rfl) dX8_passTick_84 ?_
    refine r_cVV (pc := 85) C hRm (okX8_put h0 o5 (10 : Int32) (M6.1 20 0 0 (3 : Int32).toNatClampNeg) M6 g_0) (Rc.of C rfl rfl g_0) mw_1166 cvX8_put rfl ⟨Nat.le_of_ble_eq_true rfl, Nat.le_of_ble_eq_true rfl⟩ rfl (Nat.le_of_ble_eq_true rfl) dX8_passTick_85 (fun o10 M9 => ?_)
    refine r_aload_n (pc := 88) C 1 rfl rfl dX8_passTick_88 ?_
    refine r_iload_n (pc := 89) C 0 rfl rfl dX8_passTick_89 ?_
    refine r_cVV (pc := 90) C hRm (okX8_perform h0 o5 M9 g_0) (Rc.of C rfl rfl g_0) mw_1399 cvX8_perform rfl ⟨Nat.le_of_ble_eq_true rfl, Nat.le_of_ble_eq_true rfl⟩ rfl (Nat.le_of_ble_eq_true rfl) dX8_passTick_90 (fun o12 M11 => ?_)
    refine r_sub [1] rfl ?_
    exact lX8_passTick_93   C hRm h0   M11 g_0
    refine r_aload_n (pc := 54) C 1 rfl rfl dX8_passTick_54 ?_
    refine r_getR (pc := 55) C FX8_state mw_1012 g_0 rfl dX8_passTick_55 (fun g13 => ?_)
    refine r_bipush (pc := 58) C dX8_passTick_58 kb_6 ?_
    refine r_dup2_11 (pc := 60) C dX8_passTick_60 rfl rfl ?_
    refine r_iald (pc := 61) C rfl g1 (fun _ => rfl) (fun _ => rfl) dX8_passTick_61 ?_
    refine r_iconst (pc := 62) C dX8_passTick_62 kc_1 ?_
    refine r_iadd (pc := 63) C dX8_passTick_63 ?_
    refine r_iast (pc := 64) C rfl g1 (fun _ => rfl) (fun _ => rfl) dX8_passTick_64 (fun M14 => ?_)
    refine r_goto (pc := 65) C dX8_passTick_65 (tgt := 93) rfl ?_
    refine r_sub [1] rfl ?_
    exact lX8_passTick_93   C hRm h0   M14 g_0
    refine r_aload_n (pc := 12) C 0 rfl rfl dX8_passTick_12 ?_
    refine r_iload_n (pc := 13) C 1 rfl rfl dX8_passTick_13 ?_
    refine r_bipush (pc := 14) C dX8_passTick_14 kb_16 ?_
    refine r_aload_n (pc := 16) C 0 rfl rfl dX8_passTick_16 ?_
    refine r_iload_n (pc := 17) C 1 rfl rfl dX8_passTick_17 ?_
    refine r_bipush (pc := 18) C dX8_passTick_18 kb_16 ?_
    refine r_cVI (pc := 20) C hRm (okX8_of h0 v1 (16 : Int32) M g_0) (Rc.of C rfl rfl g_0) mw_1193 cvX8_of rfl ⟨Nat.le_of_ble_eq_true rfl, Nat.le_of_ble_eq_true rfl⟩ rfl (Nat.le_of_ble_eq_true rfl) dX8_passTick_20 (fun o16 M15 => ?_)
    refine r_aload_n (pc := 23) C 0 rfl rfl dX8_passTick_23 ?_
    refine r_iload_n (pc := 24) C 1 rfl rfl dX8_passTick_24 ?_
    refine r_cVI (pc := 25) C hRm (okX8_priorityOf h0 v1 M15 g_0) (Rc.of C rfl rfl g_0) mw_1287 cvX8_priorityOf rfl ⟨Nat.le_of_ble_eq_true rfl, Nat.le_of_ble_eq_true rfl⟩ rfl (Nat.le_of_ble_eq_true rfl) dX8_passTick_25 (fun o18 M17 => ?_)
    refine r_max (pc := 28) C mw_1291 mw_500 mw_21 mw_501 hRm ⟨Nat.le_of_ble_eq_true rfl, Nat.le_of_ble_eq_true rfl⟩ dX8_passTick_28 ?_
    refine r_cVV (pc := 31) C hRm (okX8_put h0 v1 (16 : Int32) (if o16 < o18 then o18 else o16) M17 g_0) (Rc.of C rfl rfl g_0) mw_1166 cvX8_put rfl ⟨Nat.le_of_ble_eq_true rfl, Nat.le_of_ble_eq_true rfl⟩ rfl (Nat.le_of_ble_eq_true rfl) dX8_passTick_31 (fun o20 M19 => ?_)
    refine r_iinc (pc := 34) C [(1, .int (v1 + (1 : Int32))), (0, .ref (G.1 19 0 0))] dX8_passTick_34 (p := 1) rfl (ki_1 _) (by decide) rfl ?_
    refine r_goto (pc := 37) C dX8_passTick_37 (tgt := 2) rfl ?_
    refine r_sub [1, 0] rfl ?_
    exact ih (v1 + (1 : Int32)) M19 g_0
def pX8_passTick (M : Mem) : Option (Unit × Mem) :=
    pX8_passTick_2   fu (0 : Int32) M
theorem lX8_passTick_0 {K : KT} {G : WT} (C : Cx K G "PermitParkModel" cX8_passTick 2 none) (hRm : K.2.2.2.1.frames = 9 ∧ K.2.2.2.1.locals = 210) (h0 : W0 G) (M : Mem) (h_0 : G.2.2.2.1 19 0 0) : Run K G 2 0 0 (FinM K G voV 0 0) 0 [(0, .ref (G.1 19 0 0))] [] M (pX8_passTick    M) := by
  rw [pX8_passTick]
  refine r_iconst (pc := 0) C dX8_passTick_0 kc_0 ?_
  refine r_istore_n (pc := 1) C [(1, .int (0 : Int32)), (0, .ref (G.1 19 0 0))] dX8_passTick_1 rfl (by decide) rfl ?_
  refine r_sub [1, 0] rfl ?_
  exact lX8_passTick_2   C hRm h0  fu (0 : Int32) M h_0
theorem okX8_passTick {l : Launch} {G : WT} (h0 : W0 G) (M : Mem) (h_0 : G.2.2.2.1 19 0 0) : Okm l G yX8_passTick cX8_passTick 2 none 9 210 [.ref (G.1 19 0 0)] voV M (pX8_passTick   M) :=
  Okm.of "PermitParkModel" rfl (by decide) (Nat.le_of_ble_eq_true rfl) (L := [(0, .ref (G.1 19 0 0))]) rfl (fun K _ hr C => lX8_passTick_0 C (by rw [hr]; exact ⟨rfl, rfl⟩) h0  M h_0)
def pX8_passTicks_2 : Nat → Int32 → Int32 → Mem → Option (Unit × Mem)
  | 0, _, _, _ => none
  | n + 1, v1, v2, M =>
    if v1 ≤ v2 then (some ((), M))
    else bnd (pX8_passTick M) fun o2 M1 => pX8_passTicks_2   n v1 (v2 + (1 : Int32)) M1
theorem lX8_passTicks_2 {K : KT} {G : WT} (C : Cx K G "PermitParkModel" cX8_passTicks 3 none) (hRm : K.2.2.2.1.frames = 10 ∧ K.2.2.2.1.locals = 231) (h0 : W0 G) : ∀ (n : Nat) (v1 : Int32) (v2 : Int32) (M : Mem), G.2.2.2.1 19 0 0 → Run K G 3 0 0 (FinM K G voV 0 0) 2 [(0, .ref (G.1 19 0 0)), (1, .int v1), (2, .int v2)] [] M (pX8_passTicks_2   n v1 v2 M) := by
  intro n
  induction n with
  | zero =>
    intro v1 v2 M g_0
    exact r_none
  | succ n ih =>
    intro v1 v2 M g_0
    rw [pX8_passTicks_2]
    refine r_iload_n (pc := 2) C 2 rfl rfl dX8_passTicks_2 ?_
    refine r_iload_n (pc := 3) C 1 rfl rfl dX8_passTicks_3 ?_
    refine r_icmp_ge (pc := 4) C dX8_passTicks_4 (tgt := 17) rfl ?_ ?_
    exact r_vret (pc := 17) C dX8_passTicks_17
    refine r_aload_n (pc := 7) C 0 rfl rfl dX8_passTicks_7 ?_
    refine r_cVV (pc := 8) C hRm (okX8_passTick h0 M g_0) (Rc.of C rfl rfl g_0) mw_1376 cvX8_passTick rfl ⟨Nat.le_of_ble_eq_true rfl, Nat.le_of_ble_eq_true rfl⟩ rfl (Nat.le_of_ble_eq_true rfl) dX8_passTicks_8 (fun o2 M1 => ?_)
    refine r_iinc (pc := 11) C [(2, .int (v2 + (1 : Int32))), (0, .ref (G.1 19 0 0)), (1, .int v1)] dX8_passTicks_11 (p := 2) rfl (ki_1 _) (by decide) rfl ?_
    refine r_goto (pc := 14) C dX8_passTicks_14 (tgt := 2) rfl ?_
    refine r_sub [1, 2, 0] rfl ?_
    exact ih v1 (v2 + (1 : Int32)) M1 g_0
def pX8_passTicks (v1 : Int32) (M : Mem) : Option (Unit × Mem) :=
    pX8_passTicks_2   fu v1 (0 : Int32) M
theorem lX8_passTicks_0 {K : KT} {G : WT} (C : Cx K G "PermitParkModel" cX8_passTicks 3 none) (hRm : K.2.2.2.1.frames = 10 ∧ K.2.2.2.1.locals = 231) (h0 : W0 G) (v1 : Int32) (M : Mem) (h_0 : G.2.2.2.1 19 0 0) : Run K G 3 0 0 (FinM K G voV 0 0) 0 [(0, .ref (G.1 19 0 0)), (1, .int v1)] [] M (pX8_passTicks   v1 M) := by
  rw [pX8_passTicks]
  refine r_iconst (pc := 0) C dX8_passTicks_0 kc_0 ?_
  refine r_istore_n (pc := 1) C [(2, .int (0 : Int32)), (0, .ref (G.1 19 0 0)), (1, .int v1)] dX8_passTicks_1 rfl (by decide) rfl ?_
  refine r_sub [1, 2, 0] rfl ?_
  exact lX8_passTicks_2   C hRm h0  fu v1 (0 : Int32) M h_0
theorem okX8_passTicks {l : Launch} {G : WT} (h0 : W0 G) (v1 : Int32) (M : Mem) (h_0 : G.2.2.2.1 19 0 0) : Okm l G yX8_passTicks cX8_passTicks 3 none 10 231 [.ref (G.1 19 0 0), .int v1] voV M (pX8_passTicks  v1 M) :=
  Okm.of "PermitParkModel" rfl (by decide) (Nat.le_of_ble_eq_true rfl) (L := [(0, .ref (G.1 19 0 0)), (1, .int v1)]) rfl (fun K _ hr C => lX8_passTicks_0 C (by rw [hr]; exact ⟨rfl, rfl⟩) h0 v1 M h_0)
def pX8_run (v1 : Int32) (M : Mem) : Option (Int32 × Mem) :=
    nm (wI M 19 0 0 7 (0 : Int32)) fun M1 => bnd (pX8_isBetween v1 (1 : Int32) (500 : Int32) M1) fun o3 M2 => if ¬ o3 = 0 then (bnd (pX8_inState (3 : Int32) M2) fun o5 M4 => bnd (pX8_passTicks v1 M4) fun o7 M6 => bnd (pX8_inState (3 : Int32) M6) fun o9 M8 => some ((o9 - o5), M8))
    else bnd (pX8_fail (1 : Int32) M2) fun o11 M10 => some (o11, M10)
theorem lX8_run_0 {K : KT} {G : WT} (C : Cx K G "PermitParkModel" cX8_run 3 (some FieldType.int)) (hRm : K.2.2.2.1.frames = 11 ∧ K.2.2.2.1.locals = 253) (h0 : W0 G) (v1 : Int32) (M : Mem) (h_0 : G.2.2.2.1 19 0 0) : Run K G 3 0 0 (FinM K G voI 0 0) 0 [(0, .ref (G.1 19 0 0)), (1, .int v1)] [] M (pX8_run   v1 M) := by
  rw [pX8_run]
  refine r_aload_n (pc := 0) C 0 rfl rfl dX8_run_0 ?_
  refine r_iconst (pc := 1) C dX8_run_1 kc_0 ?_
  refine r_putI (pc := 2) C FX8_thrown mw_1019 h_0 tyX8 tyX8_ok nmX8 (fun _ _ => rfl) rfl dX8_run_2 (fun M1 => ?_)
  refine r_iload_n (pc := 5) C 1 rfl rfl dX8_run_5 ?_
  refine r_iconst (pc := 6) C dX8_run_6 kc_1 ?_
  refine r_sipush (pc := 7) C dX8_run_7 ks_500 ?_
  refine r_cSI (pc := 10) C hRm (okX8_isBetween h0 v1 (1 : Int32) (500 : Int32) M1 ) mw_1092 cvX8_isBetween rfl ⟨Nat.le_of_ble_eq_true rfl, Nat.le_of_ble_eq_true rfl⟩ rfl (Nat.le_of_ble_eq_true rfl) dX8_run_10 (fun o3 M2 => ?_)
  refine r_if_ne (pc := 13) C dX8_run_13 (tgt := 22) rfl ?_ ?_
  refine r_aload_n (pc := 22) C 0 rfl rfl dX8_run_22 ?_
  refine r_iconst (pc := 23) C dX8_run_23 kc_3 ?_
  refine r_cVI (pc := 24) C hRm (okX8_inState h0 (3 : Int32) M2 h_0) (Rc.of C rfl rfl h_0) mw_1275 cvX8_inState rfl ⟨Nat.le_of_ble_eq_true rfl, Nat.le_of_ble_eq_true rfl⟩ rfl (Nat.le_of_ble_eq_true rfl) dX8_run_24 (fun o5 M4 => ?_)
  refine r_istore_n (pc := 27) C [(2, .int o5), (0, .ref (G.1 19 0 0)), (1, .int v1)] dX8_run_27 rfl (by decide) rfl ?_
  refine r_aload_n (pc := 28) C 1 rfl rfl dX8_run_28 ?_
  refine r_iload_n (pc := 29) C 2 rfl rfl dX8_run_29 ?_
  refine r_cVV (pc := 30) C hRm (okX8_passTicks h0 v1 M4 h_0) (Rc.of C rfl rfl h_0) mw_1372 cvX8_passTicks rfl ⟨Nat.le_of_ble_eq_true rfl, Nat.le_of_ble_eq_true rfl⟩ rfl (Nat.le_of_ble_eq_true rfl) dX8_run_30 (fun o7 M6 => ?_)
  refine r_aload_n (pc := 33) C 1 rfl rfl dX8_run_33 ?_
  refine r_iconst (pc := 34) C dX8_run_34 kc_3 ?_
  refine r_cVI (pc := 35) C hRm (okX8_inState h0 (3 : Int32) M6 h_0) (Rc.of C rfl rfl h_0) mw_1275 cvX8_inState rfl ⟨Nat.le_of_ble_eq_true rfl, Nat.le_of_ble_eq_true rfl⟩ rfl (Nat.le_of_ble_eq_true rfl) dX8_run_35 (fun o9 M8 => ?_)
  refine r_iload_n (pc := 38) C 0 rfl rfl dX8_run_38 ?_
  refine r_isub (pc := 39) C dX8_run_39 ?_
  exact r_iret (pc := 40) C rfl dX8_run_40
  refine r_aload_n (pc := 16) C 0 rfl rfl dX8_run_16 ?_
  refine r_iconst (pc := 17) C dX8_run_17 kc_1 ?_
  refine r_cVI (pc := 18) C hRm (okX8_fail h0 (1 : Int32) M2 h_0) (Rc.of C rfl rfl h_0) mw_1084 cvX8_fail rfl ⟨Nat.le_of_ble_eq_true rfl, Nat.le_of_ble_eq_true rfl⟩ rfl (Nat.le_of_ble_eq_true rfl) dX8_run_18 (fun o11 M10 => ?_)
  exact r_iret (pc := 21) C rfl dX8_run_21
theorem okX8_run {l : Launch} {G : WT} (h0 : W0 G) (v1 : Int32) (M : Mem) (h_0 : G.2.2.2.1 19 0 0) : Okm l G yX8_run cX8_run 3 (some FieldType.int) 11 253 [.ref (G.1 19 0 0), .int v1] voI M (pX8_run  v1 M) :=
  Okm.of "PermitParkModel" rfl (by decide) (Nat.le_of_ble_eq_true rfl) (L := [(0, .ref (G.1 19 0 0)), (1, .int v1)]) rfl (fun K _ hr C => lX8_run_0 C (by rw [hr]; exact ⟨rfl, rfl⟩) h0 v1 M h_0)
def pX8_copy_20_22_3 : Nat → Int32 → Int32 → Int32 → Mem → Option (Unit × Mem)
  | 0, _, _, _, _ => none
  | n + 1, v1, v3, v4, M =>
    if (700 : Int32) ≤ v4 then (some ((), M))
    else chk (inB (v1 + v4) 700) <| chk (inB (v3 + v4) 700) <| nm (wI M 22 0 0 (v3 + v4).toNatClampNeg (M.1 20 0 0 (v1 + v4).toNatClampNeg)) fun M1 => pX8_copy_20_22_3   n v1 v3 (v4 + (1 : Int32)) M1
theorem lX8_copy_20_22_3 {K : KT} {G : WT} (C : Cx K G "PermitParkModel" cX8_copy 5 none) (hRm : K.2.2.2.1.frames = 0 ∧ K.2.2.2.1.locals = 0) (h0 : W0 G) : ∀ (n : Nat) (v1 : Int32) (v3 : Int32) (v4 : Int32) (M : Mem), G.2.2.2.1 20 0 0 → G.2.2.2.1 22 0 0 → Run K G 5 0 0 (FinM K G voV 0 0) 3 [(0, .ref (G.1 20 0 0)), (1, .int v1), (2, .ref (G.1 22 0 0)), (3, .int v3), (4, .int v4)] [] M (pX8_copy_20_22_3   n v1 v3 v4 M) := by
  intro n
  induction n with
  | zero =>
    intro v1 v3 v4 M g_0 g_2
    exact r_none
  | succ n ih =>
    intro v1 v3 v4 M g_0 g_2
    rw [pX8_copy_20_22_3]
    refine r_iload (pc := 3) C 4 rfl dX8_copy_3 ?_
    refine r_sipush (pc := 5) C dX8_copy_5 ks_700 ?_
    refine r_icmp_ge (pc := 8) C dX8_copy_8 (tgt := 29) rfl ?_ ?_
    exact r_vret (pc := 29) C dX8_copy_29
    refine r_aload_n (pc := 11) C 2 rfl rfl dX8_copy_11 ?_
    refine r_iload_n (pc := 12) C 3 rfl rfl dX8_copy_12 ?_
    refine r_iload (pc := 13) C 4 rfl dX8_copy_13 ?_
    refine r_iadd (pc := 15) C dX8_copy_15 ?_
    refine r_aload_n (pc := 16) C 0 rfl rfl dX8_copy_16 ?_
    refine r_iload_n (pc := 17) C 1 rfl rfl dX8_copy_17 ?_
    refine r_iload (pc := 18) C 4 rfl dX8_copy_18 ?_
    refine r_iadd (pc := 20) C dX8_copy_20 ?_
    refine r_iald (pc := 21) C rfl g_0 (fun _ => rfl) (fun _ => rfl) dX8_copy_21 ?_
    refine r_iast (pc := 22) C rfl g_2 (fun _ => rfl) (fun _ => rfl) dX8_copy_22 (fun M1 => ?_)
    refine r_iinc (pc := 23) C [(4, .int (v4 + (1 : Int32))), (0, .ref (G.1 20 0 0)), (1, .int v1), (2, .ref (G.1 22 0 0)), (3, .int v3)] dX8_copy_23 (p := 4) rfl (ki_1 _) (by decide) rfl ?_
    refine r_goto (pc := 26) C dX8_copy_26 (tgt := 3) rfl ?_
    refine r_sub [1, 2, 3, 4, 0] rfl ?_
    exact ih v1 v3 (v4 + (1 : Int32)) M1 g_0 g_2
def pX8_copy_20_22 (v1 : Int32) (v3 : Int32) (M : Mem) : Option (Unit × Mem) :=
    pX8_copy_20_22_3   fu v1 v3 (0 : Int32) M
theorem lX8_copy_20_22_0 {K : KT} {G : WT} (C : Cx K G "PermitParkModel" cX8_copy 5 none) (hRm : K.2.2.2.1.frames = 0 ∧ K.2.2.2.1.locals = 0) (h0 : W0 G) (v1 : Int32) (v3 : Int32) (M : Mem) (h_0 : G.2.2.2.1 20 0 0) (h_2 : G.2.2.2.1 22 0 0) : Run K G 5 0 0 (FinM K G voV 0 0) 0 [(0, .ref (G.1 20 0 0)), (1, .int v1), (2, .ref (G.1 22 0 0)), (3, .int v3)] [] M (pX8_copy_20_22   v1 v3 M) := by
  rw [pX8_copy_20_22]
  refine r_iconst (pc := 0) C dX8_copy_0 kc_0 ?_
  refine r_istore (pc := 1) C [(4, .int (0 : Int32)), (0, .ref (G.1 20 0 0)), (1, .int v1), (2, .ref (G.1 22 0 0)), (3, .int v3)] dX8_copy_1 (by decide) rfl ?_
  refine r_sub [1, 2, 3, 4, 0] rfl ?_
  exact lX8_copy_20_22_3   C hRm h0  fu v1 v3 (0 : Int32) M h_0 h_2
theorem okX8_copy_20_22 {l : Launch} {G : WT} (h0 : W0 G) (v1 : Int32) (v3 : Int32) (M : Mem) (h_0 : G.2.2.2.1 20 0 0) (h_2 : G.2.2.2.1 22 0 0) : Okm l G yX8_copy cX8_copy 5 none 0 0 [.ref (G.1 20 0 0), .int v1, .ref (G.1 22 0 0), .int v3] voV M (pX8_copy_20_22  v1 v3 M) :=
  Okm.of "PermitParkModel" rfl (by decide) (Nat.le_of_ble_eq_true rfl) (L := [(0, .ref (G.1 20 0 0)), (1, .int v1), (2, .ref (G.1 22 0 0)), (3, .int v3)]) rfl (fun K _ hr C => lX8_copy_20_22_0 C (by rw [hr]; exact ⟨rfl, rfl⟩) h0 v1 v3 M h_0 h_2)
def pX8_copy_22_20_3 : Nat → Int32 → Int32 → Int32 → Mem → Option (Unit × Mem)
  | 0, _, _, _, _ => none
  | n + 1, v1, v3, v4, M =>
    if (700 : Int32) ≤ v4 then (some ((), M))
    else chk (inB (v1 + v4) 700) <| chk (inB (v3 + v4) 700) <| nm (wI M 20 0 0 (v3 + v4).toNatClampNeg (M.1 22 0 0 (v1 + v4).toNatClampNeg)) fun M1 => pX8_copy_22_20_3   n v1 v3 (v4 + (1 : Int32)) M1
theorem lX8_copy_22_20_3 {K : KT} {G : WT} (C : Cx K G "PermitParkModel" cX8_copy 5 none) (hRm : K.2.2.2.1.frames = 0 ∧ K.2.2.2.1.locals = 0) (h0 : W0 G) : ∀ (n : Nat) (v1 : Int32) (v3 : Int32) (v4 : Int32) (M : Mem), G.2.2.2.1 22 0 0 → G.2.2.2.1 20 0 0 → Run K G 5 0 0 (FinM K G voV 0 0) 3 [(0, .ref (G.1 22 0 0)), (1, .int v1), (2, .ref (G.1 20 0 0)), (3, .int v3), (4, .int v4)] [] M (pX8_copy_22_20_3   n v1 v3 v4 M) := by
  intro n
  induction n with
  | zero =>
    intro v1 v3 v4 M g_0 g_2
    exact r_none
  | succ n ih =>
    intro v1 v3 v4 M g_0 g_2
    rw [pX8_copy_22_20_3]
    refine r_iload (pc := 3) C 4 rfl dX8_copy_3 ?_
    refine r_sipush (pc := 5) C dX8_copy_5 ks_700 ?_
    refine r_icmp_ge (pc := 8) C dX8_copy_8 (tgt := 29) rfl ?_ ?_
    exact r_vret (pc := 29) C dX8_copy_29
    refine r_aload_n (pc := 11) C 2 rfl rfl dX8_copy_11 ?_
    refine r_iload_n (pc := 12) C 3 rfl rfl dX8_copy_12 ?_
    refine r_iload (pc := 13) C 4 rfl dX8_copy_13 ?_
    refine r_iadd (pc := 15) C dX8_copy_15 ?_
    refine r_aload_n (pc := 16) C 0 rfl rfl dX8_copy_16 ?_
    refine r_iload_n (pc := 17) C 1 rfl rfl dX8_copy_17 ?_
    refine r_iload (pc := 18) C 4 rfl dX8_copy_18 ?_
    refine r_iadd (pc := 20) C dX8_copy_20 ?_
    refine r_iald (pc := 21) C rfl g_0 (fun _ => rfl) (fun _ => rfl) dX8_copy_21 ?_
    refine r_iast (pc := 22) C rfl g_2 (fun _ => rfl) (fun _ => rfl) dX8_copy_22 (fun M1 => ?_)
    refine r_iinc (pc := 23) C [(4, .int (v4 + (1 : Int32))), (0, .ref (G.1 22 0 0)), (1, .int v1), (2, .ref (G.1 20 0 0)), (3, .int v3)] dX8_copy_23 (p := 4) rfl (ki_1 _) (by decide) rfl ?_
    refine r_goto (pc := 26) C dX8_copy_26 (tgt := 3) rfl ?_
    refine r_sub [1, 2, 3, 4, 0] rfl ?_
    exact ih v1 v3 (v4 + (1 : Int32)) M1 g_0 g_2
def pX8_copy_22_20 (v1 : Int32) (v3 : Int32) (M : Mem) : Option (Unit × Mem) :=
    pX8_copy_22_20_3   fu v1 v3 (0 : Int32) M
theorem lX8_copy_22_20_0 {K : KT} {G : WT} (C : Cx K G "PermitParkModel" cX8_copy 5 none) (hRm : K.2.2.2.1.frames = 0 ∧ K.2.2.2.1.locals = 0) (h0 : W0 G) (v1 : Int32) (v3 : Int32) (M : Mem) (h_0 : G.2.2.2.1 22 0 0) (h_2 : G.2.2.2.1 20 0 0) : Run K G 5 0 0 (FinM K G voV 0 0) 0 [(0, .ref (G.1 22 0 0)), (1, .int v1), (2, .ref (G.1 20 0 0)), (3, .int v3)] [] M (pX8_copy_22_20   v1 v3 M) := by
  rw [pX8_copy_22_20]
  refine r_iconst (pc := 0) C dX8_copy_0 kc_0 ?_
  refine r_istore (pc := 1) C [(4, .int (0 : Int32)), (0, .ref (G.1 22 0 0)), (1, .int v1), (2, .ref (G.1 20 0 0)), (3, .int v3)] dX8_copy_1 (by decide) rfl ?_
  refine r_sub [1, 2, 3, 4, 0] rfl ?_
  exact lX8_copy_22_20_3   C hRm h0  fu v1 v3 (0 : Int32) M h_0 h_2
theorem okX8_copy_22_20 {l : Launch} {G : WT} (h0 : W0 G) (v1 : Int32) (v3 : Int32) (M : Mem) (h_0 : G.2.2.2.1 22 0 0) (h_2 : G.2.2.2.1 20 0 0) : Okm l G yX8_copy cX8_copy 5 none 0 0 [.ref (G.1 22 0 0), .int v1, .ref (G.1 20 0 0), .int v3] voV M (pX8_copy_22_20  v1 v3 M) :=
  Okm.of "PermitParkModel" rfl (by decide) (Nat.le_of_ble_eq_true rfl) (L := [(0, .ref (G.1 22 0 0)), (1, .int v1), (2, .ref (G.1 20 0 0)), (3, .int v3)]) rfl (fun K _ hr C => lX8_copy_22_20_0 C (by rw [hr]; exact ⟨rfl, rfl⟩) h0 v1 v3 M h_0 h_2)
def pX8_next (M : Mem) : Option (Int32 × Mem) :=
    nm (wI M 19 0 0 7 (0 : Int32)) fun M1 => bnd (pX8_copy_20_22 (0 : Int32) (0 : Int32) M1) fun o5 M4 => bnd (pX8_wakeByTime M4) fun o7 M6 => bnd (pX8_chosen M6) fun o9 M8 => bnd (pX8_copy_22_20 (0 : Int32) (0 : Int32) M8) fun o13 M12 => some (o9, M12)
theorem lX8_next_0 {K : KT} {G : WT} (C : Cx K G "PermitParkModel" cX8_next 2 (some FieldType.int)) (hRm : K.2.2.2.1.frames = 7 ∧ K.2.2.2.1.locals = 163) (h0 : W0 G) (M : Mem) (h_0 : G.2.2.2.1 19 0 0) : Run K G 2 0 0 (FinM K G voI 0 0) 0 [(0, .ref (G.1 19 0 0))] [] M (pX8_next    M) := by
  rw [pX8_next]
  refine r_aload_n (pc := 0) C 0 rfl rfl dX8_next_0 ?_
  refine r_iconst (pc := 1) C dX8_next_1 kc_0 ?_
  refine r_putI (pc := 2) C FX8_thrown mw_1019 h_0 tyX8 tyX8_ok nmX8 (fun _ _ => rfl) rfl dX8_next_2 (fun M1 => ?_)
  refine r_aload_n (pc := 5) C 0 rfl rfl dX8_next_5 ?_
  refine r_getR (pc := 6) C FX8_state mw_1012 h_0 rfl dX8_next_6 (fun g2 => ?_)
  refine r_iconst (pc := 9) C dX8_next_9 kc_0 ?_
  refine r_aload_n (pc := 10) C 0 rfl rfl dX8_next_10 ?_
  refine r_getR (pc := 11) C FX8_aside mw_1014 h_0 rfl dX8_next_11 (fun g3 => ?_)
  refine r_iconst (pc := 14) C dX8_next_14 kc_0 ?_
  refine r_cSV (pc := 15) C hRm (okX8_copy_20_22 h0 (0 : Int32) (0 : Int32) M1 g2 g3) mw_1099 cvX8_copy rfl ⟨Nat.le_of_ble_eq_true rfl, Nat.le_of_ble_eq_true rfl⟩ rfl (Nat.le_of_ble_eq_true rfl) dX8_next_15 (fun o5 M4 => ?_)
  refine r_aload_n (pc := 18) C 0 rfl rfl dX8_next_18 ?_
  refine r_cVV (pc := 19) C hRm (okX8_wakeByTime h0 M4 h_0) (Rc.of C rfl rfl h_0) mw_1380 cvX8_wakeByTime rfl ⟨Nat.le_of_ble_eq_true rfl, Nat.le_of_ble_eq_true rfl⟩ rfl (Nat.le_of_ble_eq_true rfl) dX8_next_19 (fun o7 M6 => ?_)
  refine r_aload_n (pc := 22) C 0 rfl rfl dX8_next_22 ?_
  refine r_cVI (pc := 23) C hRm (okX8_chosen h0 M6 h_0) (Rc.of C rfl rfl h_0) mw_1395 cvX8_chosen rfl ⟨Nat.le_of_ble_eq_true rfl, Nat.le_of_ble_eq_true rfl⟩ rfl (Nat.le_of_ble_eq_true rfl) dX8_next_23 (fun o9 M8 => ?_)
  refine r_istore_n (pc := 26) C [(1, .int o9), (0, .ref (G.1 19 0 0))] dX8_next_26 rfl (by decide) rfl ?_
  refine r_aload_n (pc := 27) C 1 rfl rfl dX8_next_27 ?_
  refine r_getR (pc := 28) C FX8_aside mw_1014 h_0 rfl dX8_next_28 (fun g10 => ?_)
  refine r_iconst (pc := 31) C dX8_next_31 kc_0 ?_
  refine r_aload_n (pc := 32) C 1 rfl rfl dX8_next_32 ?_
  refine r_getR (pc := 33) C FX8_state mw_1012 h_0 rfl dX8_next_33 (fun g11 => ?_)
  refine r_iconst (pc := 36) C dX8_next_36 kc_0 ?_
  refine r_cSV (pc := 37) C hRm (okX8_copy_22_20 h0 (0 : Int32) (0 : Int32) M8 g3 g2) mw_1099 cvX8_copy rfl ⟨Nat.le_of_ble_eq_true rfl, Nat.le_of_ble_eq_true rfl⟩ rfl (Nat.le_of_ble_eq_true rfl) dX8_next_37 (fun o13 M12 => ?_)
  refine r_iload_n (pc := 40) C 0 rfl rfl dX8_next_40 ?_
  exact r_iret (pc := 41) C rfl dX8_next_41
theorem okX8_next {l : Launch} {G : WT} (h0 : W0 G) (M : Mem) (h_0 : G.2.2.2.1 19 0 0) : Okm l G yX8_next cX8_next 2 (some FieldType.int) 7 163 [.ref (G.1 19 0 0)] voI M (pX8_next   M) :=
  Okm.of "PermitParkModel" rfl (by decide) (Nat.le_of_ble_eq_true rfl) (L := [(0, .ref (G.1 19 0 0))]) rfl (fun K _ hr C => lX8_next_0 C (by rw [hr]; exact ⟨rfl, rfl⟩) h0  M h_0)
def pX8_holderFor (v1 : Int32) (M : Mem) : Option (Int32 × Mem) :=
    bnd (pX8_of v1 (3 : Int32) M) fun o2 M1 => if ¬ o2 = (2 : Int32) then (some ((-1 : Int32), M1))
    else bnd (pX8_of v1 (8 : Int32) M1) fun o5 M4 => chk (inB ((14 : Int32) + o5) 700) <| some ((M4.1 20 0 0 ((14 : Int32) + o5).toNatClampNeg), M4)
theorem lX8_holderFor_0 {K : KT} {G : WT} (C : Cx K G "PermitParkModel" cX8_holderFor 2 (some FieldType.int)) (hRm : K.2.2.2.1.frames = 1 ∧ K.2.2.2.1.locals = 22) (h0 : W0 G) (v1 : Int32) (M : Mem) (h_0 : G.2.2.2.1 19 0 0) : Run K G 2 0 0 (FinM K G voI 0 0) 0 [(0, .ref (G.1 19 0 0)), (1, .int v1)] [] M (pX8_holderFor   v1 M) := by
  rw [pX8_holderFor]
  refine r_aload_n (pc := 0) C 0 rfl rfl dX8_holderFor_0 ?_
  refine r_iload_n (pc := 1) C 1 rfl rfl dX8_holderFor_1 ?_
  refine r_iconst (pc := 2) C dX8_holderFor_2 kc_3 ?_
  refine r_cVI (pc := 3) C hRm (okX8_of h0 v1 (3 : Int32) M h_0) (Rc.of C rfl rfl h_0) mw_1193 cvX8_of rfl ⟨Nat.le_of_ble_eq_true rfl, Nat.le_of_ble_eq_true rfl⟩ rfl (Nat.le_of_ble_eq_true rfl) dX8_holderFor_3 (fun o2 M1 => ?_)
  refine r_iconst (pc := 6) C dX8_holderFor_6 kc_2 ?_
  refine r_icmp_ne (pc := 7) C dX8_holderFor_7 (tgt := 28) rfl ?_ ?_
  refine r_iconst (pc := 28) C dX8_holderFor_28 kc_m1 ?_
  exact r_iret (pc := 29) C rfl dX8_holderFor_29
  refine r_aload_n (pc := 10) C 0 rfl rfl dX8_holderFor_10 ?_
  refine r_getR (pc := 11) C FX8_state mw_1012 h_0 rfl dX8_holderFor_11 (fun g3 => ?_)
  refine r_bipush (pc := 14) C dX8_holderFor_14 kb_14 ?_
  refine r_aload_n (pc := 16) C 0 rfl rfl dX8_holderFor_16 ?_
  refine r_iload_n (pc := 17) C 1 rfl rfl dX8_holderFor_17 ?_
  refine r_bipush (pc := 18) C dX8_holderFor_18 kb_8 ?_
  refine r_cVI (pc := 20) C hRm (okX8_of h0 v1 (8 : Int32) M1 h_0) (Rc.of C rfl rfl h_0) mw_1193 cvX8_of rfl ⟨Nat.le_of_ble_eq_true rfl, Nat.le_of_ble_eq_true rfl⟩ rfl (Nat.le_of_ble_eq_true rfl) dX8_holderFor_20 (fun o5 M4 => ?_)
  refine r_iadd (pc := 23) C dX8_holderFor_23 ?_
  refine r_iald (pc := 24) C rfl g3 (fun _ => rfl) (fun _ => rfl) dX8_holderFor_24 ?_
  refine r_goto (pc := 25) C dX8_holderFor_25 (tgt := 29) rfl ?_
  exact r_iret (pc := 29) C rfl dX8_holderFor_29
theorem okX8_holderFor {l : Launch} {G : WT} (h0 : W0 G) (v1 : Int32) (M : Mem) (h_0 : G.2.2.2.1 19 0 0) : Okm l G yX8_holderFor cX8_holderFor 2 (some FieldType.int) 1 22 [.ref (G.1 19 0 0), .int v1] voI M (pX8_holderFor  v1 M) :=
  Okm.of "PermitParkModel" rfl (by decide) (Nat.le_of_ble_eq_true rfl) (L := [(0, .ref (G.1 19 0 0)), (1, .int v1)]) rfl (fun K _ hr C => lX8_holderFor_0 C (by rw [hr]; exact ⟨rfl, rfl⟩) h0 v1 M h_0)
def pX8_chain_17 (M : Mem) : Option (Int32 × Mem) :=
    bnd (pX8_fail (1 : Int32) M) fun o2 M1 => some (o2, M1)
theorem lX8_chain_17 {K : KT} {G : WT} (C : Cx K G "PermitParkModel" cX8_chain 5 (some FieldType.int)) (hRm : K.2.2.2.1.frames = 2 ∧ K.2.2.2.1.locals = 43) (h0 : W0 G) (M : Mem) (g_0 : G.2.2.2.1 19 0 0) : Run K G 5 0 0 (FinM K G voI 0 0) 17 [(0, .ref (G.1 19 0 0))] [] M (pX8_chain_17    M) := by
  rw [pX8_chain_17]
  refine r_aload_n (pc := 17) C 0 rfl rfl dX8_chain_17 ?_
  refine r_iconst (pc := 18) C dX8_chain_18 kc_1 ?_
  refine r_cVI (pc := 19) C hRm (okX8_fail h0 (1 : Int32) M g_0) (Rc.of C rfl rfl g_0) mw_1084 cvX8_fail rfl ⟨Nat.le_of_ble_eq_true rfl, Nat.le_of_ble_eq_true rfl⟩ rfl (Nat.le_of_ble_eq_true rfl) dX8_chain_19 (fun o2 M1 => ?_)
  exact r_iret (pc := 22) C rfl dX8_chain_22
def pX8_chain_62 : Nat → Int32 → Int32 → Int32 → Mem → Option (Int32 × Mem)
  | 0, _, _, _, _ => none
  | n + 1, v2, v3, v4, M =>
    if v2 ≤ v4 then (some (v3, M))
    else if v3 = (-1 : Int32) then (some (v3, M))
    else chk (inB v3 10) <| nm (wI M 28 0 0 v3.toNatClampNeg ((1 : Int32) &&& 1)) fun M2 => bnd (pX8_holderFor v3 M2) fun o4 M3 => if o4 = (-1 : Int32) then (pX8_chain_62   n v2 o4 (v4 + (1 : Int32)) M3)
    else chk (inB o4 10) <| if (M3.1 28 0 0 o4.toNatClampNeg) = 0 then (pX8_chain_62   n v2 o4 (v4 + (1 : Int32)) M3)
    else pX8_chain_62   n v2 (-1 : Int32) (v4 + (1 : Int32)) M3
theorem lX8_chain_62 {K : KT} {G : WT} (C : Cx K G "PermitParkModel" cX8_chain 5 (some FieldType.int)) (hRm : K.2.2.2.1.frames = 2 ∧ K.2.2.2.1.locals = 43) (h0 : W0 G) : ∀ (n : Nat) (v2 : Int32) (v3 : Int32) (v4 : Int32) (M : Mem), G.2.2.2.1 19 0 0 → Run K G 5 0 0 (FinM K G voI 0 0) 62 [(0, .ref (G.1 19 0 0)), (2, .int v2), (3, .int v3), (4, .int v4)] [] M (pX8_chain_62   n v2 v3 v4 M) := by
  intro n
  induction n with
  | zero =>
    intro v2 v3 v4 M g_0
    exact r_none
  | succ n ih =>
    intro v2 v3 v4 M g_0
    rw [pX8_chain_62]
    refine r_iload (pc := 62) C 3 rfl dX8_chain_62 ?_
    refine r_iload_n (pc := 64) C 1 rfl rfl dX8_chain_64 ?_
    refine r_icmp_ge (pc := 65) C dX8_chain_65 (tgt := 112) rfl ?_ ?_
    refine r_iload_n (pc := 112) C 2 rfl rfl dX8_chain_112 ?_
    exact r_iret (pc := 113) C rfl dX8_chain_113
    refine r_iload_n (pc := 68) C 2 rfl rfl dX8_chain_68 ?_
    refine r_iconst (pc := 69) C dX8_chain_69 kc_m1 ?_
    refine r_icmp_eq (pc := 70) C dX8_chain_70 (tgt := 112) rfl ?_ ?_
    refine r_iload_n (pc := 112) C 2 rfl rfl dX8_chain_112 ?_
    exact r_iret (pc := 113) C rfl dX8_chain_113
    refine r_aload_n (pc := 73) C 0 rfl rfl dX8_chain_73 ?_
    refine r_getR (pc := 74) C FX8_isMet mw_1030 g_0 rfl dX8_chain_74 (fun g1 => ?_)
    refine r_iload_n (pc := 77) C 2 rfl rfl dX8_chain_77 ?_
    refine r_iconst (pc := 78) C dX8_chain_78 kc_1 ?_
    refine r_zast (pc := 79) C rfl g1 (fun _ => rfl) (fun _ => rfl) dX8_chain_79 (fun M2 => ?_)
    refine r_aload_n (pc := 80) C 0 rfl rfl dX8_chain_80 ?_
    refine r_iload_n (pc := 81) C 2 rfl rfl dX8_chain_81 ?_
    refine r_cVI (pc := 82) C hRm (okX8_holderFor h0 v3 M2 g_0) (Rc.of C rfl rfl g_0) mw_1455 cvX8_holderFor rfl ⟨Nat.le_of_ble_eq_true rfl, Nat.le_of_ble_eq_true rfl⟩ rfl (Nat.le_of_ble_eq_true rfl) dX8_chain_82 (fun o4 M3 => ?_)
    refine r_istore_n (pc := 85) C [(3, .int o4), (0, .ref (G.1 19 0 0)), (2, .int v2), (4, .int v4)] dX8_chain_85 rfl (by decide) rfl ?_
    refine r_iload_n (pc := 86) C 0 rfl rfl dX8_chain_86 ?_
    refine r_iconst (pc := 87) C dX8_chain_87 kc_m1 ?_
    refine r_icmp_eq (pc := 88) C dX8_chain_88 (tgt := 104) rfl ?_ ?_
    refine r_iload_n (pc := 104) C 0 rfl rfl dX8_chain_104 ?_
    refine r_istore_n (pc := 105) C [(3, .int o4), (0, .ref (G.1 19 0 0)), (2, .int v2), (4, .int v4)] dX8_chain_105 rfl (by decide) rfl ?_
    refine r_iinc (pc := 106) C [(4, .int (v4 + (1 : Int32))), (3, .int o4), (0, .ref (G.1 19 0 0)), (2, .int v2)] dX8_chain_106 (p := 3) rfl (ki_1 _) (by decide) rfl ?_
    refine r_goto (pc := 109) C dX8_chain_109 (tgt := 62) rfl ?_
    refine r_sub [2, 3, 1, 0] rfl ?_
    exact ih v2 o4 (v4 + (1 : Int32)) M3 g_0
    refine r_aload_n (pc := 91) C 1 rfl rfl dX8_chain_91 ?_
    refine r_getR (pc := 92) C FX8_isMet mw_1030 g_0 rfl dX8_chain_92 (fun g5 => ?_)
    refine r_iload_n (pc := 95) C 0 rfl rfl dX8_chain_95 ?_
    refine r_zald (pc := 96) C rfl g1 (fun _ => rfl) (fun _ => rfl) dX8_chain_96 ?_
    refine r_if_eq (pc := 97) C dX8_chain_97 (tgt := 104) rfl ?_ ?_
    refine r_iload_n (pc := 104) C 0 rfl rfl dX8_chain_104 ?_
    refine r_istore_n (pc := 105) C [(3, .int o4), (0, .ref (G.1 19 0 0)), (2, .int v2), (4, .int v4)] dX8_chain_105 rfl (by decide) rfl ?_
    refine r_iinc (pc := 106) C [(4, .int (v4 + (1 : Int32))), (3, .int o4), (0, .ref (G.1 19 0 0)), (2, .int v2)] dX8_chain_106 (p := 3) rfl (ki_1 _) (by decide) rfl ?_
    refine r_goto (pc := 109) C dX8_chain_109 (tgt := 62) rfl ?_
    refine r_sub [2, 3, 1, 0] rfl ?_
    exact ih v2 o4 (v4 + (1 : Int32)) M3 g_0
    refine r_iconst (pc := 100) C dX8_chain_100 kc_m1 ?_
    refine r_goto (pc := 101) C dX8_chain_101 (tgt := 105) rfl ?_
    refine r_istore_n (pc := 105) C [(3, .int (-1 : Int32)), (0, .ref (G.1 19 0 0)), (2, .int v2), (4, .int v4)] dX8_chain_105 rfl (by decide) rfl ?_
    refine r_iinc (pc := 106) C [(4, .int (v4 + (1 : Int32))), (3, .int (-1 : Int32)), (0, .ref (G.1 19 0 0)), (2, .int v2)] dX8_chain_106 (p := 3) rfl (ki_1 _) (by decide) rfl ?_
    refine r_goto (pc := 109) C dX8_chain_109 (tgt := 62) rfl ?_
    refine r_sub [2, 3, 1, 0] rfl ?_
    exact ih v2 (-1 : Int32) (v4 + (1 : Int32)) M3 g_0
def pX8_chain_25 : Nat → Int32 → Int32 → Int32 → Mem → Option (Int32 × Mem)
  | 0, _, _, _, _ => none
  | n + 1, v1, v2, v3, M =>
    if (10 : Int32) ≤ v3 then (bnd (pX8_holderFor v1 M) fun o2 M1 => pX8_chain_62   fu v2 o2 (0 : Int32) M1)
    else if ¬ v3 = v1 then (chk (inB v3 10) <| nm (wI M 28 0 0 v3.toNatClampNeg ((0 : Int32) &&& 1)) fun M4 => pX8_chain_25   n v1 v2 (v3 + (1 : Int32)) M4)
    else chk (inB v3 10) <| nm (wI M 28 0 0 v3.toNatClampNeg ((1 : Int32) &&& 1)) fun M5 => pX8_chain_25   n v1 v2 (v3 + (1 : Int32)) M5
theorem lX8_chain_25 {K : KT} {G : WT} (C : Cx K G "PermitParkModel" cX8_chain 5 (some FieldType.int)) (hRm : K.2.2.2.1.frames = 2 ∧ K.2.2.2.1.locals = 43) (h0 : W0 G) : ∀ (n : Nat) (v1 : Int32) (v2 : Int32) (v3 : Int32) (M : Mem), G.2.2.2.1 19 0 0 → Run K G 5 0 0 (FinM K G voI 0 0) 25 [(0, .ref (G.1 19 0 0)), (1, .int v1), (2, .int v2), (3, .int v3)] [] M (pX8_chain_25   n v1 v2 v3 M) := by
  intro n
  induction n with
  | zero =>
    intro v1 v2 v3 M g_0
    exact r_none
  | succ n ih =>
    intro v1 v2 v3 M g_0
    rw [pX8_chain_25]
    refine r_iload_n (pc := 25) C 3 rfl rfl dX8_chain_25 ?_
    refine r_bipush (pc := 26) C dX8_chain_26 kb_10 ?_
    refine r_icmp_ge (pc := 28) C dX8_chain_28 (tgt := 53) rfl ?_ ?_
    refine r_aload_n (pc := 53) C 0 rfl rfl dX8_chain_53 ?_
    refine r_iload_n (pc := 54) C 1 rfl rfl dX8_chain_54 ?_
    refine r_cVI (pc := 55) C hRm (okX8_holderFor h0 v1 M g_0) (Rc.of C rfl rfl g_0) mw_1455 cvX8_holderFor rfl ⟨Nat.le_of_ble_eq_true rfl, Nat.le_of_ble_eq_true rfl⟩ rfl (Nat.le_of_ble_eq_true rfl) dX8_chain_55 (fun o2 M1 => ?_)
    refine r_istore_n (pc := 58) C [(3, .int o2), (0, .ref (G.1 19 0 0)), (1, .int v1), (2, .int v2)] dX8_chain_58 rfl (by decide) rfl ?_
    refine r_iconst (pc := 59) C dX8_chain_59 kc_0 ?_
    refine r_istore (pc := 60) C [(4, .int (0 : Int32)), (3, .int o2), (0, .ref (G.1 19 0 0)), (1, .int v1), (2, .int v2)] dX8_chain_60 (by decide) rfl ?_
    refine r_sub [2, 4, 1, 0] rfl ?_
    exact lX8_chain_62   C hRm h0  fu v2 o2 (0 : Int32) M1 g_0
    refine r_aload_n (pc := 31) C 0 rfl rfl dX8_chain_31 ?_
    refine r_getR (pc := 32) C FX8_isMet mw_1030 g_0 rfl dX8_chain_32 (fun g3 => ?_)
    refine r_iload_n (pc := 35) C 3 rfl rfl dX8_chain_35 ?_
    refine r_iload_n (pc := 36) C 3 rfl rfl dX8_chain_36 ?_
    refine r_iload_n (pc := 37) C 1 rfl rfl dX8_chain_37 ?_
    refine r_icmp_ne (pc := 38) C dX8_chain_38 (tgt := 45) rfl ?_ ?_
    refine r_iconst (pc := 45) C dX8_chain_45 kc_0 ?_
    refine r_zast (pc := 46) C rfl g3 (fun _ => rfl) (fun _ => rfl) dX8_chain_46 (fun M4 => ?_)
    refine r_iinc (pc := 47) C [(3, .int (v3 + (1 : Int32))), (0, .ref (G.1 19 0 0)), (1, .int v1), (2, .int v2)] dX8_chain_47 (p := 3) rfl (ki_1 _) (by decide) rfl ?_
    refine r_goto (pc := 50) C dX8_chain_50 (tgt := 25) rfl ?_
    refine r_sub [1, 2, 3, 0] rfl ?_
    exact ih v1 v2 (v3 + (1 : Int32)) M4 g_0
    refine r_iconst (pc := 41) C dX8_chain_41 kc_1 ?_
    refine r_goto (pc := 42) C dX8_chain_42 (tgt := 46) rfl ?_
    refine r_zast (pc := 46) C rfl g3 (fun _ => rfl) (fun _ => rfl) dX8_chain_46 (fun M5 => ?_)
    refine r_iinc (pc := 47) C [(3, .int (v3 + (1 : Int32))), (0, .ref (G.1 19 0 0)), (1, .int v1), (2, .int v2)] dX8_chain_47 (p := 3) rfl (ki_1 _) (by decide) rfl ?_
    refine r_goto (pc := 50) C dX8_chain_50 (tgt := 25) rfl ?_
    refine r_sub [1, 2, 3, 0] rfl ?_
    exact ih v1 v2 (v3 + (1 : Int32)) M5 g_0
def pX8_chain (v1 : Int32) (v2 : Int32) (M : Mem) : Option (Int32 × Mem) :=
    nm (wI M 19 0 0 7 (0 : Int32)) fun M1 => bnd (pX8_isThread v1 M1) fun o3 M2 => if o3 = 0 then (pX8_chain_17    M2)
    else if 0 ≤ v2 then (pX8_chain_25   fu v1 v2 (0 : Int32) M2)
    else pX8_chain_17    M2
theorem lX8_chain_0 {K : KT} {G : WT} (C : Cx K G "PermitParkModel" cX8_chain 5 (some FieldType.int)) (hRm : K.2.2.2.1.frames = 2 ∧ K.2.2.2.1.locals = 43) (h0 : W0 G) (v1 : Int32) (v2 : Int32) (M : Mem) (h_0 : G.2.2.2.1 19 0 0) : Run K G 5 0 0 (FinM K G voI 0 0) 0 [(0, .ref (G.1 19 0 0)), (1, .int v1), (2, .int v2)] [] M (pX8_chain   v1 v2 M) := by
  rw [pX8_chain]
  refine r_aload_n (pc := 0) C 0 rfl rfl dX8_chain_0 ?_
  refine r_iconst (pc := 1) C dX8_chain_1 kc_0 ?_
  refine r_putI (pc := 2) C FX8_thrown mw_1019 h_0 tyX8 tyX8_ok nmX8 (fun _ _ => rfl) rfl dX8_chain_2 (fun M1 => ?_)
  refine r_aload_n (pc := 5) C 0 rfl rfl dX8_chain_5 ?_
  refine r_iload_n (pc := 6) C 1 rfl rfl dX8_chain_6 ?_
  refine r_cVI (pc := 7) C hRm (okX8_isThread h0 v1 M1 h_0) (Rc.of C rfl rfl h_0) mw_1251 cvX8_isThread rfl ⟨Nat.le_of_ble_eq_true rfl, Nat.le_of_ble_eq_true rfl⟩ rfl (Nat.le_of_ble_eq_true rfl) dX8_chain_7 (fun o3 M2 => ?_)
  refine r_if_eq (pc := 10) C dX8_chain_10 (tgt := 17) rfl ?_ ?_
  refine r_sub [0] rfl ?_
  exact lX8_chain_17   C hRm h0   M2 h_0
  refine r_iload_n (pc := 13) C 2 rfl rfl dX8_chain_13 ?_
  refine r_if_ge (pc := 14) C dX8_chain_14 (tgt := 23) rfl ?_ ?_
  refine r_iconst (pc := 23) C dX8_chain_23 kc_0 ?_
  refine r_istore_n (pc := 24) C [(3, .int (0 : Int32)), (0, .ref (G.1 19 0 0)), (1, .int v1), (2, .int v2)] dX8_chain_24 rfl (by decide) rfl ?_
  refine r_sub [1, 2, 3, 0] rfl ?_
  exact lX8_chain_25   C hRm h0  fu v1 v2 (0 : Int32) M2 h_0
  refine r_sub [0] rfl ?_
  exact lX8_chain_17   C hRm h0   M2 h_0
theorem okX8_chain {l : Launch} {G : WT} (h0 : W0 G) (v1 : Int32) (v2 : Int32) (M : Mem) (h_0 : G.2.2.2.1 19 0 0) : Okm l G yX8_chain cX8_chain 5 (some FieldType.int) 2 43 [.ref (G.1 19 0 0), .int v1, .int v2] voI M (pX8_chain  v1 v2 M) :=
  Okm.of "PermitParkModel" rfl (by decide) (Nat.le_of_ble_eq_true rfl) (L := [(0, .ref (G.1 19 0 0)), (1, .int v1), (2, .int v2)]) rfl (fun K _ hr C => lX8_chain_0 C (by rw [hr]; exact ⟨rfl, rfl⟩) h0 v1 v2 M h_0)
def pX8_stuck_53 (k9 : Int32 → Int32 → Mem → Option (Int32 × Mem)) (v1 : Int32) (v2 : Int32) (v3 : Int32) (M : Mem) : Option (Int32 × Mem) :=
    bnd (pX8_of v3 (3 : Int32) M) fun o2 M1 => if o2 < (2 : Int32) then (nm (v1 + (0 : Int32)) fun x3 => k9 x3 (v2 + (1 : Int32)) M1)
    else nm (v1 + ((1 : Int32) <<< (v2 &&& 31))) fun x4 => k9 x4 (v2 + (1 : Int32)) M1
theorem lX8_stuck_53 {K : KT} {G : WT} {k9 : Int32 → Int32 → Mem → Option (Int32 × Mem)} (C : Cx K G "PermitParkModel" cX8_stuck 5 (some FieldType.int)) (hRm : K.2.2.2.1.frames = 2 ∧ K.2.2.2.1.locals = 43) (h0 : W0 G)
    (hk9 : ∀ (v1 : Int32) (v2 : Int32) (M : Mem), G.2.2.2.1 19 0 0 → Run K G 5 0 0 (FinM K G voI 0 0) 9 [(0, .ref (G.1 19 0 0)), (1, .int v1), (2, .int v2)] [] M (k9 v1 v2 M)) (v1 : Int32) (v2 : Int32) (v3 : Int32) (M : Mem) (g_0 : G.2.2.2.1 19 0 0) : Run K G 5 0 0 (FinM K G voI 0 0) 53 [(0, .ref (G.1 19 0 0)), (1, .int v1), (2, .int v2), (3, .int v3)] [] M (pX8_stuck_53  k9 v1 v2 v3 M) := by
  rw [pX8_stuck_53]
  refine r_iload_n (pc := 53) C 1 rfl rfl dX8_stuck_53 ?_
  refine r_aload_n (pc := 54) C 0 rfl rfl dX8_stuck_54 ?_
  refine r_iload_n (pc := 55) C 3 rfl rfl dX8_stuck_55 ?_
  refine r_iconst (pc := 56) C dX8_stuck_56 kc_3 ?_
  refine r_cVI (pc := 57) C hRm (okX8_of h0 v3 (3 : Int32) M g_0) (Rc.of C rfl rfl g_0) mw_1193 cvX8_of rfl ⟨Nat.le_of_ble_eq_true rfl, Nat.le_of_ble_eq_true rfl⟩ rfl (Nat.le_of_ble_eq_true rfl) dX8_stuck_57 (fun o2 M1 => ?_)
  refine r_iconst (pc := 60) C dX8_stuck_60 kc_2 ?_
  refine r_icmp_lt (pc := 61) C dX8_stuck_61 (tgt := 70) rfl ?_ ?_
  refine r_iconst (pc := 70) C dX8_stuck_70 kc_0 ?_
  refine r_iadd (pc := 71) C dX8_stuck_71 ?_
  refine r_nmi (fun x3 => ?_)
  refine r_istore_n (pc := 72) C [(1, .int x3), (0, .ref (G.1 19 0 0)), (2, .int v2), (3, .int v3)] dX8_stuck_72 rfl (by decide) rfl ?_
  refine r_iinc (pc := 73) C [(2, .int (v2 + (1 : Int32))), (1, .int x3), (0, .ref (G.1 19 0 0)), (3, .int v3)] dX8_stuck_73 (p := 2) rfl (ki_1 _) (by decide) rfl ?_
  refine r_goto (pc := 76) C dX8_stuck_76 (tgt := 9) rfl ?_
  refine r_sub [2, 1, 0] rfl ?_
  exact hk9 x3 (v2 + (1 : Int32)) M1 g_0
  refine r_iconst (pc := 64) C dX8_stuck_64 kc_1 ?_
  refine r_iload_n (pc := 65) C 2 rfl rfl dX8_stuck_65 ?_
  refine r_ishl (pc := 66) C dX8_stuck_66 ?_
  refine r_goto (pc := 67) C dX8_stuck_67 (tgt := 71) rfl ?_
  refine r_iadd (pc := 71) C dX8_stuck_71 ?_
  refine r_nmi (fun x4 => ?_)
  refine r_istore_n (pc := 72) C [(1, .int x4), (0, .ref (G.1 19 0 0)), (2, .int v2), (3, .int v3)] dX8_stuck_72 rfl (by decide) rfl ?_
  refine r_iinc (pc := 73) C [(2, .int (v2 + (1 : Int32))), (1, .int x4), (0, .ref (G.1 19 0 0)), (3, .int v3)] dX8_stuck_73 (p := 2) rfl (ki_1 _) (by decide) rfl ?_
  refine r_goto (pc := 76) C dX8_stuck_76 (tgt := 9) rfl ?_
  refine r_sub [2, 1, 0] rfl ?_
  exact hk9 x4 (v2 + (1 : Int32)) M1 g_0
def pX8_stuck_24 (k9 : Int32 → Int32 → Mem → Option (Int32 × Mem)) : Nat → Int32 → Int32 → Int32 → Int32 → Mem → Option (Int32 × Mem)
  | 0, _, _, _, _, _ => none
  | n + 1, v1, v2, v3, v4, M =>
    if (10 : Int32) ≤ v4 then (pX8_stuck_53  k9  v1 v2 v3 M)
    else bnd (pX8_of v3 (3 : Int32) M) fun o2 M1 => if ¬ o2 = (2 : Int32) then (pX8_stuck_53  k9  v1 v2 v3 M1)
    else bnd (pX8_holderFor v3 M1) fun o4 M3 => pX8_stuck_24  k9 n v1 v2 o4 (v4 + (1 : Int32)) M3
theorem lX8_stuck_24 {K : KT} {G : WT} {k9 : Int32 → Int32 → Mem → Option (Int32 × Mem)} (C : Cx K G "PermitParkModel" cX8_stuck 5 (some FieldType.int)) (hRm : K.2.2.2.1.frames = 2 ∧ K.2.2.2.1.locals = 43) (h0 : W0 G)
    (hk9 : ∀ (v1 : Int32) (v2 : Int32) (M : Mem), G.2.2.2.1 19 0 0 → Run K G 5 0 0 (FinM K G voI 0 0) 9 [(0, .ref (G.1 19 0 0)), (1, .int v1), (2, .int v2)] [] M (k9 v1 v2 M)) : ∀ (n : Nat) (v1 : Int32) (v2 : Int32) (v3 : Int32) (v4 : Int32) (M : Mem), G.2.2.2.1 19 0 0 → Run K G 5 0 0 (FinM K G voI 0 0) 24 [(0, .ref (G.1 19 0 0)), (1, .int v1), (2, .int v2), (3, .int v3), (4, .int v4)] [] M (pX8_stuck_24  k9 n v1 v2 v3 v4 M) := by
  intro n
  induction n with
  | zero =>
    intro v1 v2 v3 v4 M g_0
    exact r_none
  | succ n ih =>
    intro v1 v2 v3 v4 M g_0
    rw [pX8_stuck_24]
    refine r_iload (pc := 24) C 4 rfl dX8_stuck_24 ?_
    refine r_bipush (pc := 26) C dX8_stuck_26 kb_10 ?_
    refine r_icmp_ge (pc := 28) C dX8_stuck_28 (tgt := 53) rfl ?_ ?_
    refine r_sub [0, 1, 2, 3] rfl ?_
    exact lX8_stuck_53  (k9 := k9) C hRm h0 hk9  v1 v2 v3 M g_0
    refine r_aload_n (pc := 31) C 0 rfl rfl dX8_stuck_31 ?_
    refine r_iload_n (pc := 32) C 3 rfl rfl dX8_stuck_32 ?_
    refine r_iconst (pc := 33) C dX8_stuck_33 kc_3 ?_
    refine r_cVI (pc := 34) C hRm (okX8_of h0 v3 (3 : Int32) M g_0) (Rc.of C rfl rfl g_0) mw_1193 cvX8_of rfl ⟨Nat.le_of_ble_eq_true rfl, Nat.le_of_ble_eq_true rfl⟩ rfl (Nat.le_of_ble_eq_true rfl) dX8_stuck_34 (fun o2 M1 => ?_)
    refine r_iconst (pc := 37) C dX8_stuck_37 kc_2 ?_
    refine r_icmp_ne (pc := 38) C dX8_stuck_38 (tgt := 53) rfl ?_ ?_
    refine r_sub [0, 1, 2, 3] rfl ?_
    exact lX8_stuck_53  (k9 := k9) C hRm h0 hk9  v1 v2 v3 M1 g_0
    refine r_aload_n (pc := 41) C 0 rfl rfl dX8_stuck_41 ?_
    refine r_iload_n (pc := 42) C 3 rfl rfl dX8_stuck_42 ?_
    refine r_cVI (pc := 43) C hRm (okX8_holderFor h0 v3 M1 g_0) (Rc.of C rfl rfl g_0) mw_1455 cvX8_holderFor rfl ⟨Nat.le_of_ble_eq_true rfl, Nat.le_of_ble_eq_true rfl⟩ rfl (Nat.le_of_ble_eq_true rfl) dX8_stuck_43 (fun o4 M3 => ?_)
    refine r_istore_n (pc := 46) C [(3, .int o4), (0, .ref (G.1 19 0 0)), (1, .int v1), (2, .int v2), (4, .int v4)] dX8_stuck_46 rfl (by decide) rfl ?_
    refine r_iinc (pc := 47) C [(4, .int (v4 + (1 : Int32))), (3, .int o4), (0, .ref (G.1 19 0 0)), (1, .int v1), (2, .int v2)] dX8_stuck_47 (p := 4) rfl (ki_1 _) (by decide) rfl ?_
    refine r_goto (pc := 50) C dX8_stuck_50 (tgt := 24) rfl ?_
    refine r_sub [2, 3, 4, 1, 0] rfl ?_
    exact ih v1 v2 o4 (v4 + (1 : Int32)) M3 g_0
def pX8_stuck_9 : Nat → Int32 → Int32 → Mem → Option (Int32 × Mem)
  | 0, _, _, _ => none
  | n + 1, v1, v2, M =>
    chk (inB (2 : Int32) 700) <| if (M.1 20 0 0 (2 : Int32).toNatClampNeg) ≤ v2 then (some (v1, M))
    else pX8_stuck_24  (fun v1 v2 M => pX8_stuck_9   n v1 v2 M) fu v1 v2 v2 (0 : Int32) M
theorem lX8_stuck_9 {K : KT} {G : WT} (C : Cx K G "PermitParkModel" cX8_stuck 5 (some FieldType.int)) (hRm : K.2.2.2.1.frames = 2 ∧ K.2.2.2.1.locals = 43) (h0 : W0 G) : ∀ (n : Nat) (v1 : Int32) (v2 : Int32) (M : Mem), G.2.2.2.1 19 0 0 → Run K G 5 0 0 (FinM K G voI 0 0) 9 [(0, .ref (G.1 19 0 0)), (1, .int v1), (2, .int v2)] [] M (pX8_stuck_9   n v1 v2 M) := by
  intro n
  induction n with
  | zero =>
    intro v1 v2 M g_0
    exact r_none
  | succ n ih =>
    intro v1 v2 M g_0
    rw [pX8_stuck_9]
    refine r_iload_n (pc := 9) C 2 rfl rfl dX8_stuck_9 ?_
    refine r_aload_n (pc := 10) C 0 rfl rfl dX8_stuck_10 ?_
    refine r_getR (pc := 11) C FX8_state mw_1012 g_0 rfl dX8_stuck_11 (fun g1 => ?_)
    refine r_iconst (pc := 14) C dX8_stuck_14 kc_2 ?_
    refine r_iald (pc := 15) C rfl g1 (fun _ => rfl) (fun _ => rfl) dX8_stuck_15 ?_
    refine r_icmp_ge (pc := 16) C dX8_stuck_16 (tgt := 79) rfl ?_ ?_
    refine r_iload_n (pc := 79) C 1 rfl rfl dX8_stuck_79 ?_
    exact r_iret (pc := 80) C rfl dX8_stuck_80
    refine r_iload_n (pc := 19) C 2 rfl rfl dX8_stuck_19 ?_
    refine r_istore_n (pc := 20) C [(3, .int v2), (0, .ref (G.1 19 0 0)), (1, .int v1), (2, .int v2)] dX8_stuck_20 rfl (by decide) rfl ?_
    refine r_iconst (pc := 21) C dX8_stuck_21 kc_0 ?_
    refine r_istore (pc := 22) C [(4, .int (0 : Int32)), (3, .int v2), (0, .ref (G.1 19 0 0)), (1, .int v1), (2, .int v2)] dX8_stuck_22 (by decide) rfl ?_
    refine r_sub [2, 3, 4, 1, 0] rfl ?_
    exact lX8_stuck_24  (k9 := (fun v1 v2 M => pX8_stuck_9   n v1 v2 M)) C hRm h0 ih fu v1 v2 v2 (0 : Int32) M g_0
def pX8_stuck (M : Mem) : Option (Int32 × Mem) :=
    nm (wI M 19 0 0 7 (0 : Int32)) fun M1 => pX8_stuck_9   fu (0 : Int32) (0 : Int32) M1
theorem lX8_stuck_0 {K : KT} {G : WT} (C : Cx K G "PermitParkModel" cX8_stuck 5 (some FieldType.int)) (hRm : K.2.2.2.1.frames = 2 ∧ K.2.2.2.1.locals = 43) (h0 : W0 G) (M : Mem) (h_0 : G.2.2.2.1 19 0 0) : Run K G 5 0 0 (FinM K G voI 0 0) 0 [(0, .ref (G.1 19 0 0))] [] M (pX8_stuck    M) := by
  rw [pX8_stuck]
  refine r_aload_n (pc := 0) C 0 rfl rfl dX8_stuck_0 ?_
  refine r_iconst (pc := 1) C dX8_stuck_1 kc_0 ?_
  refine r_putI (pc := 2) C FX8_thrown mw_1019 h_0 tyX8 tyX8_ok nmX8 (fun _ _ => rfl) rfl dX8_stuck_2 (fun M1 => ?_)
  refine r_iconst (pc := 5) C dX8_stuck_5 kc_0 ?_
  refine r_istore_n (pc := 6) C [(1, .int (0 : Int32)), (0, .ref (G.1 19 0 0))] dX8_stuck_6 rfl (by decide) rfl ?_
  refine r_iconst (pc := 7) C dX8_stuck_7 kc_0 ?_
  refine r_istore_n (pc := 8) C [(2, .int (0 : Int32)), (1, .int (0 : Int32)), (0, .ref (G.1 19 0 0))] dX8_stuck_8 rfl (by decide) rfl ?_
  refine r_sub [2, 1, 0] rfl ?_
  exact lX8_stuck_9   C hRm h0  fu (0 : Int32) (0 : Int32) M1 h_0
theorem okX8_stuck {l : Launch} {G : WT} (h0 : W0 G) (M : Mem) (h_0 : G.2.2.2.1 19 0 0) : Okm l G yX8_stuck cX8_stuck 5 (some FieldType.int) 2 43 [.ref (G.1 19 0 0)] voI M (pX8_stuck   M) :=
  Okm.of "PermitParkModel" rfl (by decide) (Nat.le_of_ble_eq_true rfl) (L := [(0, .ref (G.1 19 0 0))]) rfl (fun K _ hr C => lX8_stuck_0 C (by rw [hr]; exact ⟨rfl, rfl⟩) h0  M h_0)
def pX8_lent_14 (v1 : Int32) (s0 : Int32) (M : Mem) : Option (UInt32 × Mem) :=
    nm (wI M 19 0 0 7 s0) fun M1 => if ¬ (M1.1 19 0 0 7) = 0 then (some (FP.fconst0, M1))
    else bnd (pX8_priorityOf v1 M1) fun o3 M2 => bnd (pX8_of v1 (0 : Int32) M2) fun o5 M4 => chk (decide ((FP.fdiv (FP.i2f o3) (FP.i2f o5)) &&& 0x7fffffff ≤ 0x7f800000)) <| some ((FP.fdiv (FP.i2f o3) (FP.i2f o5)), M4)
theorem lX8_lent_14 {K : KT} {G : WT} (C : Cx K G "PermitParkModel" cX8_lent 2 (some FieldType.float)) (hRm : K.2.2.2.1.frames = 2 ∧ K.2.2.2.1.locals = 46) (h0 : W0 G) (v1 : Int32) (s0 : Int32) (M : Mem) (g_0 : G.2.2.2.1 19 0 0) (g_s1 : G.2.2.2.1 19 0 0) : Run K G 2 0 0 (FinM K G voF 0 0) 14 [(0, .ref (G.1 19 0 0)), (1, .int v1)] [.int s0, .ref (G.1 19 0 0)] M (pX8_lent_14   v1 s0 M) := by
  rw [pX8_lent_14]
  refine r_putI (pc := 14) C FX8_thrown mw_1019 g_s1 tyX8 tyX8_ok nmX8 (fun _ _ => rfl) rfl dX8_lent_14 (fun M1 => ?_)
  refine r_aload_n (pc := 17) C 0 rfl rfl dX8_lent_17 ?_
  refine r_getI (pc := 18) C FX8_thrown mw_1019 g_s1 rfl rfl dX8_lent_18 ?_
  refine r_if_ne (pc := 21) C dX8_lent_21 (tgt := 41) rfl ?_ ?_
  refine r_fconst0 (pc := 41) C dX8_lent_41 ?_
  exact r_fret (pc := 42) C dX8_lent_42
  refine r_aload_n (pc := 24) C 0 rfl rfl dX8_lent_24 ?_
  refine r_iload_n (pc := 25) C 1 rfl rfl dX8_lent_25 ?_
  refine r_cVI (pc := 26) C hRm (okX8_priorityOf h0 v1 M1 g_s1) (Rc.of C rfl rfl g_s1) mw_1287 cvX8_priorityOf rfl ⟨Nat.le_of_ble_eq_true rfl, Nat.le_of_ble_eq_true rfl⟩ rfl (Nat.le_of_ble_eq_true rfl) dX8_lent_26 (fun o3 M2 => ?_)
  refine r_i2f (pc := 29) C dX8_lent_29 ?_
  refine r_aload_n (pc := 30) C 0 rfl rfl dX8_lent_30 ?_
  refine r_iload_n (pc := 31) C 1 rfl rfl dX8_lent_31 ?_
  refine r_iconst (pc := 32) C dX8_lent_32 kc_0 ?_
  refine r_cVI (pc := 33) C hRm (okX8_of h0 v1 (0 : Int32) M2 g_s1) (Rc.of C rfl rfl g_s1) mw_1193 cvX8_of rfl ⟨Nat.le_of_ble_eq_true rfl, Nat.le_of_ble_eq_true rfl⟩ rfl (Nat.le_of_ble_eq_true rfl) dX8_lent_33 (fun o5 M4 => ?_)
  refine r_i2f (pc := 36) C dX8_lent_36 ?_
  refine r_fdiv (pc := 37) C dX8_lent_37 ?_
  refine r_goto (pc := 38) C dX8_lent_38 (tgt := 42) rfl ?_
  exact r_fret (pc := 42) C dX8_lent_42
def pX8_lent (v1 : Int32) (M : Mem) : Option (UInt32 × Mem) :=
    bnd (pX8_isThread v1 M) fun o2 M1 => if o2 = 0 then (pX8_lent_14    v1 (1 : Int32) M1)
    else pX8_lent_14    v1 (0 : Int32) M1
theorem lX8_lent_0 {K : KT} {G : WT} (C : Cx K G "PermitParkModel" cX8_lent 2 (some FieldType.float)) (hRm : K.2.2.2.1.frames = 2 ∧ K.2.2.2.1.locals = 46) (h0 : W0 G) (v1 : Int32) (M : Mem) (h_0 : G.2.2.2.1 19 0 0) : Run K G 2 0 0 (FinM K G voF 0 0) 0 [(0, .ref (G.1 19 0 0)), (1, .int v1)] [] M (pX8_lent   v1 M) := by
  rw [pX8_lent]
  refine r_aload_n (pc := 0) C 0 rfl rfl dX8_lent_0 ?_
  refine r_aload_n (pc := 1) C 0 rfl rfl dX8_lent_1 ?_
  refine r_iload_n (pc := 2) C 1 rfl rfl dX8_lent_2 ?_
  refine r_cVI (pc := 3) C hRm (okX8_isThread h0 v1 M h_0) (Rc.of C rfl rfl h_0) mw_1251 cvX8_isThread rfl ⟨Nat.le_of_ble_eq_true rfl, Nat.le_of_ble_eq_true rfl⟩ rfl (Nat.le_of_ble_eq_true rfl) dX8_lent_3 (fun o2 M1 => ?_)
  refine r_if_eq (pc := 6) C dX8_lent_6 (tgt := 13) rfl ?_ ?_
  refine r_iconst (pc := 13) C dX8_lent_13 kc_1 ?_
  exact lX8_lent_14   C hRm h0   v1 (1 : Int32) M1 h_0 h_0
  refine r_iconst (pc := 9) C dX8_lent_9 kc_0 ?_
  refine r_goto (pc := 10) C dX8_lent_10 (tgt := 14) rfl ?_
  exact lX8_lent_14   C hRm h0   v1 (0 : Int32) M1 h_0 h_0
theorem okX8_lent {l : Launch} {G : WT} (h0 : W0 G) (v1 : Int32) (M : Mem) (h_0 : G.2.2.2.1 19 0 0) : Okm l G yX8_lent cX8_lent 2 (some FieldType.float) 2 46 [.ref (G.1 19 0 0), .int v1] voF M (pX8_lent  v1 M) :=
  Okm.of "PermitParkModel" rfl (by decide) (Nat.le_of_ble_eq_true rfl) (L := [(0, .ref (G.1 19 0 0)), (1, .int v1)]) rfl (fun K _ hr C => lX8_lent_0 C (by rw [hr]; exact ⟨rfl, rfl⟩) h0 v1 M h_0)
def pX8_busy (M : Mem) : Option (UInt64 × Mem) :=
    nm (wI M 19 0 0 7 (0 : Int32)) fun M1 => chk (inB (3 : Int32) 700) <| if ¬ (M1.1 20 0 0 (3 : Int32).toNatClampNeg) = 0 then (chk (inB (3 : Int32) 700) <| chk (inB (6 : Int32) 700) <| chk (inB (3 : Int32) 700) <| chk (decide ((FP.ddiv (FP.i2d ((M1.1 20 0 0 (3 : Int32).toNatClampNeg) - (M1.1 20 0 0 (6 : Int32).toNatClampNeg))) (FP.i2d (M1.1 20 0 0 (3 : Int32).toNatClampNeg))) &&& 0x7fffffffffffffff ≤ 0x7ff0000000000000)) <| some ((FP.ddiv (FP.i2d ((M1.1 20 0 0 (3 : Int32).toNatClampNeg) - (M1.1 20 0 0 (6 : Int32).toNatClampNeg))) (FP.i2d (M1.1 20 0 0 (3 : Int32).toNatClampNeg))), M1))
    else some (FP.dconst0, M1)
theorem lX8_busy_0 {K : KT} {G : WT} (C : Cx K G "PermitParkModel" cX8_busy 1 (some FieldType.double)) (hRm : K.2.2.2.1.frames = 0 ∧ K.2.2.2.1.locals = 0) (h0 : W0 G) (M : Mem) (h_0 : G.2.2.2.1 19 0 0) : Run K G 1 0 0 (FinM K G voD 0 0) 0 [(0, .ref (G.1 19 0 0))] [] M (pX8_busy    M) := by
  rw [pX8_busy]
  refine r_aload_n (pc := 0) C 0 rfl rfl dX8_busy_0 ?_
  refine r_iconst (pc := 1) C dX8_busy_1 kc_0 ?_
  refine r_putI (pc := 2) C FX8_thrown mw_1019 h_0 tyX8 tyX8_ok nmX8 (fun _ _ => rfl) rfl dX8_busy_2 (fun M1 => ?_)
  refine r_aload_n (pc := 5) C 0 rfl rfl dX8_busy_5 ?_
  refine r_getR (pc := 6) C FX8_state mw_1012 h_0 rfl dX8_busy_6 (fun g2 => ?_)
  refine r_iconst (pc := 9) C dX8_busy_9 kc_3 ?_
  refine r_iald (pc := 10) C rfl g2 (fun _ => rfl) (fun _ => rfl) dX8_busy_10 ?_
  refine r_if_ne (pc := 11) C dX8_busy_11 (tgt := 18) rfl ?_ ?_
  refine r_aload_n (pc := 18) C 0 rfl rfl dX8_busy_18 ?_
  refine r_getR (pc := 19) C FX8_state mw_1012 h_0 rfl dX8_busy_19 (fun g3 => ?_)
  refine r_iconst (pc := 22) C dX8_busy_22 kc_3 ?_
  refine r_iald (pc := 23) C rfl g2 (fun _ => rfl) (fun _ => rfl) dX8_busy_23 ?_
  refine r_aload_n (pc := 24) C 0 rfl rfl dX8_busy_24 ?_
  refine r_getR (pc := 25) C FX8_state mw_1012 h_0 rfl dX8_busy_25 (fun g4 => ?_)
  refine r_bipush (pc := 28) C dX8_busy_28 kb_6 ?_
  refine r_iald (pc := 30) C rfl g2 (fun _ => rfl) (fun _ => rfl) dX8_busy_30 ?_
  refine r_isub (pc := 31) C dX8_busy_31 ?_
  refine r_i2d (pc := 32) C dX8_busy_32 ?_
  refine r_aload_n (pc := 33) C 0 rfl rfl dX8_busy_33 ?_
  refine r_getR (pc := 34) C FX8_state mw_1012 h_0 rfl dX8_busy_34 (fun g5 => ?_)
  refine r_iconst (pc := 37) C dX8_busy_37 kc_3 ?_
  refine r_iald (pc := 38) C rfl g2 (fun _ => rfl) (fun _ => rfl) dX8_busy_38 ?_
  refine r_i2d (pc := 39) C dX8_busy_39 ?_
  refine r_ddiv (pc := 40) C dX8_busy_40 ?_
  exact r_dret (pc := 41) C dX8_busy_41
  refine r_dconst0 (pc := 14) C dX8_busy_14 ?_
  refine r_goto (pc := 15) C dX8_busy_15 (tgt := 41) rfl ?_
  exact r_dret (pc := 41) C dX8_busy_41
theorem okX8_busy {l : Launch} {G : WT} (h0 : W0 G) (M : Mem) (h_0 : G.2.2.2.1 19 0 0) : Okm l G yX8_busy cX8_busy 1 (some FieldType.double) 0 0 [.ref (G.1 19 0 0)] voD M (pX8_busy   M) :=
  Okm.of "PermitParkModel" rfl (by decide) (Nat.le_of_ble_eq_true rfl) (L := [(0, .ref (G.1 19 0 0))]) rfl (fun K _ hr C => lX8_busy_0 C (by rw [hr]; exact ⟨rfl, rfl⟩) h0  M h_0)
def pX8_ticksToDone_27 (v1 : Int32) (v3 : Int32) (M : Mem) : Option (Int32 × Mem) :=
    bnd (pX8_of v1 (3 : Int32) M) fun o2 M1 => if ¬ o2 = (3 : Int32) then (some ((-1 : Int32), M1))
    else some (v3, M1)
theorem lX8_ticksToDone_27 {K : KT} {G : WT} (C : Cx K G "PermitParkModel" cX8_ticksToDone 4 (some FieldType.int)) (hRm : K.2.2.2.1.frames = 10 ∧ K.2.2.2.1.locals = 231) (h0 : W0 G) (v1 : Int32) (v3 : Int32) (M : Mem) (g_0 : G.2.2.2.1 19 0 0) : Run K G 4 0 0 (FinM K G voI 0 0) 27 [(0, .ref (G.1 19 0 0)), (1, .int v1), (3, .int v3)] [] M (pX8_ticksToDone_27   v1 v3 M) := by
  rw [pX8_ticksToDone_27]
  refine r_aload_n (pc := 27) C 0 rfl rfl dX8_ticksToDone_27 ?_
  refine r_iload_n (pc := 28) C 1 rfl rfl dX8_ticksToDone_28 ?_
  refine r_iconst (pc := 29) C dX8_ticksToDone_29 kc_3 ?_
  refine r_cVI (pc := 30) C hRm (okX8_of h0 v1 (3 : Int32) M g_0) (Rc.of C rfl rfl g_0) mw_1193 cvX8_of rfl ⟨Nat.le_of_ble_eq_true rfl, Nat.le_of_ble_eq_true rfl⟩ rfl (Nat.le_of_ble_eq_true rfl) dX8_ticksToDone_30 (fun o2 M1 => ?_)
  refine r_iconst (pc := 33) C dX8_ticksToDone_33 kc_3 ?_
  refine r_icmp_ne (pc := 34) C dX8_ticksToDone_34 (tgt := 41) rfl ?_ ?_
  refine r_iconst (pc := 41) C dX8_ticksToDone_41 kc_m1 ?_
  exact r_iret (pc := 42) C rfl dX8_ticksToDone_42
  refine r_iload_n (pc := 37) C 2 rfl rfl dX8_ticksToDone_37 ?_
  refine r_goto (pc := 38) C dX8_ticksToDone_38 (tgt := 42) rfl ?_
  exact r_iret (pc := 42) C rfl dX8_ticksToDone_42
def pX8_ticksToDone_2 : Nat → Int32 → Int32 → Int32 → Mem → Option (Int32 × Mem)
  | 0, _, _, _, _ => none
  | n + 1, v1, v2, v3, M =>
    if v2 ≤ v3 then (pX8_ticksToDone_27    v1 v3 M)
    else bnd (pX8_of v1 (3 : Int32) M) fun o2 M1 => if o2 = (3 : Int32) then (pX8_ticksToDone_27    v1 v3 M1)
    else bnd (pX8_passTick M1) fun o4 M3 => pX8_ticksToDone_2   n v1 v2 (v3 + (1 : Int32)) M3
theorem lX8_ticksToDone_2 {K : KT} {G : WT} (C : Cx K G "PermitParkModel" cX8_ticksToDone 4 (some FieldType.int)) (hRm : K.2.2.2.1.frames = 10 ∧ K.2.2.2.1.locals = 231) (h0 : W0 G) : ∀ (n : Nat) (v1 : Int32) (v2 : Int32) (v3 : Int32) (M : Mem), G.2.2.2.1 19 0 0 → Run K G 4 0 0 (FinM K G voI 0 0) 2 [(0, .ref (G.1 19 0 0)), (1, .int v1), (2, .int v2), (3, .int v3)] [] M (pX8_ticksToDone_2   n v1 v2 v3 M) := by
  intro n
  induction n with
  | zero =>
    intro v1 v2 v3 M g_0
    exact r_none
  | succ n ih =>
    intro v1 v2 v3 M g_0
    rw [pX8_ticksToDone_2]
    refine r_iload_n (pc := 2) C 3 rfl rfl dX8_ticksToDone_2 ?_
    refine r_iload_n (pc := 3) C 2 rfl rfl dX8_ticksToDone_3 ?_
    refine r_icmp_ge (pc := 4) C dX8_ticksToDone_4 (tgt := 27) rfl ?_ ?_
    refine r_sub [0, 1, 3] rfl ?_
    exact lX8_ticksToDone_27   C hRm h0   v1 v3 M g_0
    refine r_aload_n (pc := 7) C 0 rfl rfl dX8_ticksToDone_7 ?_
    refine r_iload_n (pc := 8) C 1 rfl rfl dX8_ticksToDone_8 ?_
    refine r_iconst (pc := 9) C dX8_ticksToDone_9 kc_3 ?_
    refine r_cVI (pc := 10) C hRm (okX8_of h0 v1 (3 : Int32) M g_0) (Rc.of C rfl rfl g_0) mw_1193 cvX8_of rfl ⟨Nat.le_of_ble_eq_true rfl, Nat.le_of_ble_eq_true rfl⟩ rfl (Nat.le_of_ble_eq_true rfl) dX8_ticksToDone_10 (fun o2 M1 => ?_)
    refine r_iconst (pc := 13) C dX8_ticksToDone_13 kc_3 ?_
    refine r_icmp_eq (pc := 14) C dX8_ticksToDone_14 (tgt := 27) rfl ?_ ?_
    refine r_sub [0, 1, 3] rfl ?_
    exact lX8_ticksToDone_27   C hRm h0   v1 v3 M1 g_0
    refine r_aload_n (pc := 17) C 0 rfl rfl dX8_ticksToDone_17 ?_
    refine r_cVV (pc := 18) C hRm (okX8_passTick h0 M1 g_0) (Rc.of C rfl rfl g_0) mw_1376 cvX8_passTick rfl ⟨Nat.le_of_ble_eq_true rfl, Nat.le_of_ble_eq_true rfl⟩ rfl (Nat.le_of_ble_eq_true rfl) dX8_ticksToDone_18 (fun o4 M3 => ?_)
    refine r_iinc (pc := 21) C [(3, .int (v3 + (1 : Int32))), (0, .ref (G.1 19 0 0)), (1, .int v1), (2, .int v2)] dX8_ticksToDone_21 (p := 3) rfl (ki_1 _) (by decide) rfl ?_
    refine r_goto (pc := 24) C dX8_ticksToDone_24 (tgt := 2) rfl ?_
    refine r_sub [1, 2, 3, 0] rfl ?_
    exact ih v1 v2 (v3 + (1 : Int32)) M3 g_0
def pX8_ticksToDone (v1 : Int32) (v2 : Int32) (M : Mem) : Option (Int32 × Mem) :=
    pX8_ticksToDone_2   fu v1 v2 (0 : Int32) M
theorem lX8_ticksToDone_0 {K : KT} {G : WT} (C : Cx K G "PermitParkModel" cX8_ticksToDone 4 (some FieldType.int)) (hRm : K.2.2.2.1.frames = 10 ∧ K.2.2.2.1.locals = 231) (h0 : W0 G) (v1 : Int32) (v2 : Int32) (M : Mem) (h_0 : G.2.2.2.1 19 0 0) : Run K G 4 0 0 (FinM K G voI 0 0) 0 [(0, .ref (G.1 19 0 0)), (1, .int v1), (2, .int v2)] [] M (pX8_ticksToDone   v1 v2 M) := by
  rw [pX8_ticksToDone]
  refine r_iconst (pc := 0) C dX8_ticksToDone_0 kc_0 ?_
  refine r_istore_n (pc := 1) C [(3, .int (0 : Int32)), (0, .ref (G.1 19 0 0)), (1, .int v1), (2, .int v2)] dX8_ticksToDone_1 rfl (by decide) rfl ?_
  refine r_sub [1, 2, 3, 0] rfl ?_
  exact lX8_ticksToDone_2   C hRm h0  fu v1 v2 (0 : Int32) M h_0
theorem okX8_ticksToDone {l : Launch} {G : WT} (h0 : W0 G) (v1 : Int32) (v2 : Int32) (M : Mem) (h_0 : G.2.2.2.1 19 0 0) : Okm l G yX8_ticksToDone cX8_ticksToDone 4 (some FieldType.int) 10 231 [.ref (G.1 19 0 0), .int v1, .int v2] voI M (pX8_ticksToDone  v1 v2 M) :=
  Okm.of "PermitParkModel" rfl (by decide) (Nat.le_of_ble_eq_true rfl) (L := [(0, .ref (G.1 19 0 0)), (1, .int v1), (2, .int v2)]) rfl (fun K _ hr C => lX8_ticksToDone_0 C (by rw [hr]; exact ⟨rfl, rfl⟩) h0 v1 v2 M h_0)
def pX8_doneIn (v1 : Int32) (v2 : Int32) (M : Mem) : Option (Int32 × Mem) :=
    nm (wI M 19 0 0 7 (0 : Int32)) fun M1 => bnd (pX8_isThread v1 M1) fun o3 M2 => if ¬ o3 = 0 then (bnd (pX8_isBetween v2 (1 : Int32) (500 : Int32) M2) fun o5 M4 => if ¬ o5 = 0 then (bnd (pX8_copy_20_22 (0 : Int32) (0 : Int32) M4) fun o9 M8 => bnd (pX8_ticksToDone v1 v2 M8) fun o11 M10 => bnd (pX8_copy_22_20 (0 : Int32) (0 : Int32) M10) fun o15 M14 => some (o11, M14))
    else bnd (pX8_fail (2 : Int32) M4) fun o17 M16 => some (o17, M16))
    else bnd (pX8_fail (1 : Int32) M2) fun o19 M18 => some (o19, M18)
theorem lX8_doneIn_0 {K : KT} {G : WT} (C : Cx K G "PermitParkModel" cX8_doneIn 4 (some FieldType.int)) (hRm : K.2.2.2.1.frames = 11 ∧ K.2.2.2.1.locals = 254) (h0 : W0 G) (v1 : Int32) (v2 : Int32) (M : Mem) (h_0 : G.2.2.2.1 19 0 0) : Run K G 4 0 0 (FinM K G voI 0 0) 0 [(0, .ref (G.1 19 0 0)), (1, .int v1), (2, .int v2)] [] M (pX8_doneIn   v1 v2 M) := by
  rw [pX8_doneIn]
  refine r_aload_n (pc := 0) C 0 rfl rfl dX8_doneIn_0 ?_
  refine r_iconst (pc := 1) C dX8_doneIn_1 kc_0 ?_
  refine r_putI (pc := 2) C FX8_thrown mw_1019 h_0 tyX8 tyX8_ok nmX8 (fun _ _ => rfl) rfl dX8_doneIn_2 (fun M1 => ?_)
  refine r_aload_n (pc := 5) C 0 rfl rfl dX8_doneIn_5 ?_
  refine r_iload_n (pc := 6) C 1 rfl rfl dX8_doneIn_6 ?_
  refine r_cVI (pc := 7) C hRm (okX8_isThread h0 v1 M1 h_0) (Rc.of C rfl rfl h_0) mw_1251 cvX8_isThread rfl ⟨Nat.le_of_ble_eq_true rfl, Nat.le_of_ble_eq_true rfl⟩ rfl (Nat.le_of_ble_eq_true rfl) dX8_doneIn_7 (fun o3 M2 => ?_)
  refine r_if_ne (pc := 10) C dX8_doneIn_10 (tgt := 19) rfl ?_ ?_
  refine r_iload_n (pc := 19) C 2 rfl rfl dX8_doneIn_19 ?_
  refine r_iconst (pc := 20) C dX8_doneIn_20 kc_1 ?_
  refine r_sipush (pc := 21) C dX8_doneIn_21 ks_500 ?_
  refine r_cSI (pc := 24) C hRm (okX8_isBetween h0 v2 (1 : Int32) (500 : Int32) M2 ) mw_1092 cvX8_isBetween rfl ⟨Nat.le_of_ble_eq_true rfl, Nat.le_of_ble_eq_true rfl⟩ rfl (Nat.le_of_ble_eq_true rfl) dX8_doneIn_24 (fun o5 M4 => ?_)
  refine r_if_ne (pc := 27) C dX8_doneIn_27 (tgt := 36) rfl ?_ ?_
  refine r_aload_n (pc := 36) C 0 rfl rfl dX8_doneIn_36 ?_
  refine r_getR (pc := 37) C FX8_state mw_1012 h_0 rfl dX8_doneIn_37 (fun g6 => ?_)
  refine r_iconst (pc := 40) C dX8_doneIn_40 kc_0 ?_
  refine r_aload_n (pc := 41) C 0 rfl rfl dX8_doneIn_41 ?_
  refine r_getR (pc := 42) C FX8_aside mw_1014 h_0 rfl dX8_doneIn_42 (fun g7 => ?_)
  refine r_iconst (pc := 45) C dX8_doneIn_45 kc_0 ?_
  refine r_cSV (pc := 46) C hRm (okX8_copy_20_22 h0 (0 : Int32) (0 : Int32) M4 g6 g7) mw_1099 cvX8_copy rfl ⟨Nat.le_of_ble_eq_true rfl, Nat.le_of_ble_eq_true rfl⟩ rfl (Nat.le_of_ble_eq_true rfl) dX8_doneIn_46 (fun o9 M8 => ?_)
  refine r_aload_n (pc := 49) C 0 rfl rfl dX8_doneIn_49 ?_
  refine r_iload_n (pc := 50) C 1 rfl rfl dX8_doneIn_50 ?_
  refine r_iload_n (pc := 51) C 2 rfl rfl dX8_doneIn_51 ?_
  refine r_cVI (pc := 52) C hRm (okX8_ticksToDone h0 v1 v2 M8 h_0) (Rc.of C rfl rfl h_0) mw_1475 cvX8_ticksToDone rfl ⟨Nat.le_of_ble_eq_true rfl, Nat.le_of_ble_eq_true rfl⟩ rfl (Nat.le_of_ble_eq_true rfl) dX8_doneIn_52 (fun o11 M10 => ?_)
  refine r_istore_n (pc := 55) C [(3, .int o11), (0, .ref (G.1 19 0 0)), (1, .int v1), (2, .int v2)] dX8_doneIn_55 rfl (by decide) rfl ?_
  refine r_aload_n (pc := 56) C 1 rfl rfl dX8_doneIn_56 ?_
  refine r_getR (pc := 57) C FX8_aside mw_1014 h_0 rfl dX8_doneIn_57 (fun g12 => ?_)
  refine r_iconst (pc := 60) C dX8_doneIn_60 kc_0 ?_
  refine r_aload_n (pc := 61) C 1 rfl rfl dX8_doneIn_61 ?_
  refine r_getR (pc := 62) C FX8_state mw_1012 h_0 rfl dX8_doneIn_62 (fun g13 => ?_)
  refine r_iconst (pc := 65) C dX8_doneIn_65 kc_0 ?_
  refine r_cSV (pc := 66) C hRm (okX8_copy_22_20 h0 (0 : Int32) (0 : Int32) M10 g7 g6) mw_1099 cvX8_copy rfl ⟨Nat.le_of_ble_eq_true rfl, Nat.le_of_ble_eq_true rfl⟩ rfl (Nat.le_of_ble_eq_true rfl) dX8_doneIn_66 (fun o15 M14 => ?_)
  refine r_iload_n (pc := 69) C 0 rfl rfl dX8_doneIn_69 ?_
  exact r_iret (pc := 70) C rfl dX8_doneIn_70
  refine r_aload_n (pc := 30) C 0 rfl rfl dX8_doneIn_30 ?_
  refine r_iconst (pc := 31) C dX8_doneIn_31 kc_2 ?_
  refine r_cVI (pc := 32) C hRm (okX8_fail h0 (2 : Int32) M4 h_0) (Rc.of C rfl rfl h_0) mw_1084 cvX8_fail rfl ⟨Nat.le_of_ble_eq_true rfl, Nat.le_of_ble_eq_true rfl⟩ rfl (Nat.le_of_ble_eq_true rfl) dX8_doneIn_32 (fun o17 M16 => ?_)
  exact r_iret (pc := 35) C rfl dX8_doneIn_35
  refine r_aload_n (pc := 13) C 0 rfl rfl dX8_doneIn_13 ?_
  refine r_iconst (pc := 14) C dX8_doneIn_14 kc_1 ?_
  refine r_cVI (pc := 15) C hRm (okX8_fail h0 (1 : Int32) M2 h_0) (Rc.of C rfl rfl h_0) mw_1084 cvX8_fail rfl ⟨Nat.le_of_ble_eq_true rfl, Nat.le_of_ble_eq_true rfl⟩ rfl (Nat.le_of_ble_eq_true rfl) dX8_doneIn_15 (fun o19 M18 => ?_)
  exact r_iret (pc := 18) C rfl dX8_doneIn_18
theorem okX8_doneIn {l : Launch} {G : WT} (h0 : W0 G) (v1 : Int32) (v2 : Int32) (M : Mem) (h_0 : G.2.2.2.1 19 0 0) : Okm l G yX8_doneIn cX8_doneIn 4 (some FieldType.int) 11 254 [.ref (G.1 19 0 0), .int v1, .int v2] voI M (pX8_doneIn  v1 v2 M) :=
  Okm.of "PermitParkModel" rfl (by decide) (Nat.le_of_ble_eq_true rfl) (L := [(0, .ref (G.1 19 0 0)), (1, .int v1), (2, .int v2)]) rfl (fun K _ hr C => lX8_doneIn_0 C (by rw [hr]; exact ⟨rfl, rfl⟩) h0 v1 v2 M h_0)
def pX8_returnsOf_4 : Nat → Int32 → Int32 → Int32 → Mem → Option (Int32 × Mem)
  | 0, _, _, _, _ => none
  | n + 1, v1, v2, v3, M =>
    if (4 : Int32) < v3 then (some (v2, M))
    else bnd (pX8_of v1 ((11 : Int32) + v3) M) fun o2 M1 => nm (v2 + o2) fun x3 => pX8_returnsOf_4   n v1 x3 (v3 + (1 : Int32)) M1
theorem lX8_returnsOf_4 {K : KT} {G : WT} (C : Cx K G "PermitParkModel" cX8_returnsOf 4 (some FieldType.int)) (hRm : K.2.2.2.1.frames = 1 ∧ K.2.2.2.1.locals = 22) (h0 : W0 G) : ∀ (n : Nat) (v1 : Int32) (v2 : Int32) (v3 : Int32) (M : Mem), G.2.2.2.1 19 0 0 → Run K G 4 0 0 (FinM K G voI 0 0) 4 [(0, .ref (G.1 19 0 0)), (1, .int v1), (2, .int v2), (3, .int v3)] [] M (pX8_returnsOf_4   n v1 v2 v3 M) := by
  intro n
  induction n with
  | zero =>
    intro v1 v2 v3 M g_0
    exact r_none
  | succ n ih =>
    intro v1 v2 v3 M g_0
    rw [pX8_returnsOf_4]
    refine r_iload_n (pc := 4) C 3 rfl rfl dX8_returnsOf_4 ?_
    refine r_iconst (pc := 5) C dX8_returnsOf_5 kc_4 ?_
    refine r_icmp_gt (pc := 6) C dX8_returnsOf_6 (tgt := 27) rfl ?_ ?_
    refine r_iload_n (pc := 27) C 2 rfl rfl dX8_returnsOf_27 ?_
    exact r_iret (pc := 28) C rfl dX8_returnsOf_28
    refine r_iload_n (pc := 9) C 2 rfl rfl dX8_returnsOf_9 ?_
    refine r_aload_n (pc := 10) C 0 rfl rfl dX8_returnsOf_10 ?_
    refine r_iload_n (pc := 11) C 1 rfl rfl dX8_returnsOf_11 ?_
    refine r_bipush (pc := 12) C dX8_returnsOf_12 kb_11 ?_
    refine r_iload_n (pc := 14) C 3 rfl rfl dX8_returnsOf_14 ?_
    refine r_iadd (pc := 15) C dX8_returnsOf_15 ?_
    refine r_cVI (pc := 16) C hRm (okX8_of h0 v1 ((11 : Int32) + v3) M g_0) (Rc.of C rfl rfl g_0) mw_1193 cvX8_of rfl ⟨Nat.le_of_ble_eq_true rfl, Nat.le_of_ble_eq_true rfl⟩ rfl (Nat.le_of_ble_eq_true rfl) dX8_returnsOf_16 (fun o2 M1 => ?_)
    refine r_iadd (pc := 19) C dX8_returnsOf_19 ?_
    refine r_nmi (fun x3 => ?_)
    refine r_istore_n (pc := 20) C [(2, .int x3), (0, .ref (G.1 19 0 0)), (1, .int v1), (3, .int v3)] dX8_returnsOf_20 rfl (by decide) rfl ?_
    refine r_iinc (pc := 21) C [(3, .int (v3 + (1 : Int32))), (2, .int x3), (0, .ref (G.1 19 0 0)), (1, .int v1)] dX8_returnsOf_21 (p := 3) rfl (ki_1 _) (by decide) rfl ?_
    refine r_goto (pc := 24) C dX8_returnsOf_24 (tgt := 4) rfl ?_
    refine r_sub [2, 3, 1, 0] rfl ?_
    exact ih v1 x3 (v3 + (1 : Int32)) M1 g_0
def pX8_returnsOf (v1 : Int32) (M : Mem) : Option (Int32 × Mem) :=
    pX8_returnsOf_4   fu v1 (0 : Int32) (1 : Int32) M
theorem lX8_returnsOf_0 {K : KT} {G : WT} (C : Cx K G "PermitParkModel" cX8_returnsOf 4 (some FieldType.int)) (hRm : K.2.2.2.1.frames = 1 ∧ K.2.2.2.1.locals = 22) (h0 : W0 G) (v1 : Int32) (M : Mem) (h_0 : G.2.2.2.1 19 0 0) : Run K G 4 0 0 (FinM K G voI 0 0) 0 [(0, .ref (G.1 19 0 0)), (1, .int v1)] [] M (pX8_returnsOf   v1 M) := by
  rw [pX8_returnsOf]
  refine r_iconst (pc := 0) C dX8_returnsOf_0 kc_0 ?_
  refine r_istore_n (pc := 1) C [(2, .int (0 : Int32)), (0, .ref (G.1 19 0 0)), (1, .int v1)] dX8_returnsOf_1 rfl (by decide) rfl ?_
  refine r_iconst (pc := 2) C dX8_returnsOf_2 kc_1 ?_
  refine r_istore_n (pc := 3) C [(3, .int (1 : Int32)), (2, .int (0 : Int32)), (0, .ref (G.1 19 0 0)), (1, .int v1)] dX8_returnsOf_3 rfl (by decide) rfl ?_
  refine r_sub [2, 3, 1, 0] rfl ?_
  exact lX8_returnsOf_4   C hRm h0  fu v1 (0 : Int32) (1 : Int32) M h_0
theorem okX8_returnsOf {l : Launch} {G : WT} (h0 : W0 G) (v1 : Int32) (M : Mem) (h_0 : G.2.2.2.1 19 0 0) : Okm l G yX8_returnsOf cX8_returnsOf 4 (some FieldType.int) 1 22 [.ref (G.1 19 0 0), .int v1] voI M (pX8_returnsOf  v1 M) :=
  Okm.of "PermitParkModel" rfl (by decide) (Nat.le_of_ble_eq_true rfl) (L := [(0, .ref (G.1 19 0 0)), (1, .int v1)]) rfl (fun K _ hr C => lX8_returnsOf_0 C (by rw [hr]; exact ⟨rfl, rfl⟩) h0 v1 M h_0)
def pX8_allReturns_4 : Nat → Int32 → Int32 → Mem → Option (Int32 × Mem)
  | 0, _, _, _ => none
  | n + 1, v1, v2, M =>
    chk (inB (2 : Int32) 700) <| if (M.1 20 0 0 (2 : Int32).toNatClampNeg) ≤ v2 then (some (v1, M))
    else bnd (pX8_returnsOf v2 M) fun o3 M2 => nm (v1 + o3) fun x4 => pX8_allReturns_4   n x4 (v2 + (1 : Int32)) M2
theorem lX8_allReturns_4 {K : KT} {G : WT} (C : Cx K G "PermitParkModel" cX8_allReturns 3 (some FieldType.int)) (hRm : K.2.2.2.1.frames = 2 ∧ K.2.2.2.1.locals = 45) (h0 : W0 G) : ∀ (n : Nat) (v1 : Int32) (v2 : Int32) (M : Mem), G.2.2.2.1 19 0 0 → Run K G 3 0 0 (FinM K G voI 0 0) 4 [(0, .ref (G.1 19 0 0)), (1, .int v1), (2, .int v2)] [] M (pX8_allReturns_4   n v1 v2 M) := by
  intro n
  induction n with
  | zero =>
    intro v1 v2 M g_0
    exact r_none
  | succ n ih =>
    intro v1 v2 M g_0
    rw [pX8_allReturns_4]
    refine r_iload_n (pc := 4) C 2 rfl rfl dX8_allReturns_4 ?_
    refine r_aload_n (pc := 5) C 0 rfl rfl dX8_allReturns_5 ?_
    refine r_getR (pc := 6) C FX8_state mw_1012 g_0 rfl dX8_allReturns_6 (fun g1 => ?_)
    refine r_iconst (pc := 9) C dX8_allReturns_9 kc_2 ?_
    refine r_iald (pc := 10) C rfl g1 (fun _ => rfl) (fun _ => rfl) dX8_allReturns_10 ?_
    refine r_icmp_ge (pc := 11) C dX8_allReturns_11 (tgt := 28) rfl ?_ ?_
    refine r_iload_n (pc := 28) C 1 rfl rfl dX8_allReturns_28 ?_
    exact r_iret (pc := 29) C rfl dX8_allReturns_29
    refine r_iload_n (pc := 14) C 1 rfl rfl dX8_allReturns_14 ?_
    refine r_aload_n (pc := 15) C 0 rfl rfl dX8_allReturns_15 ?_
    refine r_iload_n (pc := 16) C 2 rfl rfl dX8_allReturns_16 ?_
    refine r_cVI (pc := 17) C hRm (okX8_returnsOf h0 v2 M g_0) (Rc.of C rfl rfl g_0) mw_1483 cvX8_returnsOf rfl ⟨Nat.le_of_ble_eq_true rfl, Nat.le_of_ble_eq_true rfl⟩ rfl (Nat.le_of_ble_eq_true rfl) dX8_allReturns_17 (fun o3 M2 => ?_)
    refine r_iadd (pc := 20) C dX8_allReturns_20 ?_
    refine r_nmi (fun x4 => ?_)
    refine r_istore_n (pc := 21) C [(1, .int x4), (0, .ref (G.1 19 0 0)), (2, .int v2)] dX8_allReturns_21 rfl (by decide) rfl ?_
    refine r_iinc (pc := 22) C [(2, .int (v2 + (1 : Int32))), (1, .int x4), (0, .ref (G.1 19 0 0))] dX8_allReturns_22 (p := 2) rfl (ki_1 _) (by decide) rfl ?_
    refine r_goto (pc := 25) C dX8_allReturns_25 (tgt := 4) rfl ?_
    refine r_sub [2, 1, 0] rfl ?_
    exact ih x4 (v2 + (1 : Int32)) M2 g_0
def pX8_allReturns (M : Mem) : Option (Int32 × Mem) :=
    pX8_allReturns_4   fu (0 : Int32) (0 : Int32) M
theorem lX8_allReturns_0 {K : KT} {G : WT} (C : Cx K G "PermitParkModel" cX8_allReturns 3 (some FieldType.int)) (hRm : K.2.2.2.1.frames = 2 ∧ K.2.2.2.1.locals = 45) (h0 : W0 G) (M : Mem) (h_0 : G.2.2.2.1 19 0 0) : Run K G 3 0 0 (FinM K G voI 0 0) 0 [(0, .ref (G.1 19 0 0))] [] M (pX8_allReturns    M) := by
  rw [pX8_allReturns]
  refine r_iconst (pc := 0) C dX8_allReturns_0 kc_0 ?_
  refine r_istore_n (pc := 1) C [(1, .int (0 : Int32)), (0, .ref (G.1 19 0 0))] dX8_allReturns_1 rfl (by decide) rfl ?_
  refine r_iconst (pc := 2) C dX8_allReturns_2 kc_0 ?_
  refine r_istore_n (pc := 3) C [(2, .int (0 : Int32)), (1, .int (0 : Int32)), (0, .ref (G.1 19 0 0))] dX8_allReturns_3 rfl (by decide) rfl ?_
  refine r_sub [2, 1, 0] rfl ?_
  exact lX8_allReturns_4   C hRm h0  fu (0 : Int32) (0 : Int32) M h_0
theorem okX8_allReturns {l : Launch} {G : WT} (h0 : W0 G) (M : Mem) (h_0 : G.2.2.2.1 19 0 0) : Okm l G yX8_allReturns cX8_allReturns 3 (some FieldType.int) 2 45 [.ref (G.1 19 0 0)] voI M (pX8_allReturns   M) :=
  Okm.of "PermitParkModel" rfl (by decide) (Nat.le_of_ble_eq_true rfl) (L := [(0, .ref (G.1 19 0 0))]) rfl (fun K _ hr C => lX8_allReturns_0 C (by rw [hr]; exact ⟨rfl, rfl⟩) h0  M h_0)
def pX8_returnsIn_97 (v4 : Int32) (s0 : Int32) (M : Mem) : Option (Int32 × Mem) :=
    bnd (pX8_copy_22_20 (0 : Int32) (0 : Int32) M) fun o4 M3 => if s0 = 0 then (some ((-1 : Int32), M3))
    else some (v4, M3)
theorem lX8_returnsIn_97 {K : KT} {G : WT} (C : Cx K G "PermitParkModel" cX8_returnsIn 6 (some FieldType.int)) (hRm : K.2.2.2.1.frames = 10 ∧ K.2.2.2.1.locals = 231) (h0 : W0 G) (v4 : Int32) (s0 : Int32) (M : Mem) (g_0 : G.2.2.2.1 19 0 0) : Run K G 6 0 0 (FinM K G voI 0 0) 97 [(0, .ref (G.1 19 0 0)), (4, .int v4)] [.int s0] M (pX8_returnsIn_97   v4 s0 M) := by
  rw [pX8_returnsIn_97]
  refine r_istore (pc := 97) C [(5, .int s0), (0, .ref (G.1 19 0 0)), (4, .int v4)] dX8_returnsIn_97 (by decide) rfl ?_
  refine r_aload_n (pc := 99) C 1 rfl rfl dX8_returnsIn_99 ?_
  refine r_getR (pc := 100) C FX8_aside mw_1014 g_0 rfl dX8_returnsIn_100 (fun g1 => ?_)
  refine r_iconst (pc := 103) C dX8_returnsIn_103 kc_0 ?_
  refine r_aload_n (pc := 104) C 1 rfl rfl dX8_returnsIn_104 ?_
  refine r_getR (pc := 105) C FX8_state mw_1012 g_0 rfl dX8_returnsIn_105 (fun g2 => ?_)
  refine r_iconst (pc := 108) C dX8_returnsIn_108 kc_0 ?_
  refine r_cSV (pc := 109) C hRm (okX8_copy_22_20 h0 (0 : Int32) (0 : Int32) M g1 g2) mw_1099 cvX8_copy rfl ⟨Nat.le_of_ble_eq_true rfl, Nat.le_of_ble_eq_true rfl⟩ rfl (Nat.le_of_ble_eq_true rfl) dX8_returnsIn_109 (fun o4 M3 => ?_)
  refine r_iload (pc := 112) C 0 rfl dX8_returnsIn_112 ?_
  refine r_if_eq (pc := 114) C dX8_returnsIn_114 (tgt := 122) rfl ?_ ?_
  refine r_iconst (pc := 122) C dX8_returnsIn_122 kc_m1 ?_
  exact r_iret (pc := 123) C rfl dX8_returnsIn_123
  refine r_iload (pc := 117) C 2 rfl dX8_returnsIn_117 ?_
  refine r_goto (pc := 119) C dX8_returnsIn_119 (tgt := 123) rfl ?_
  exact r_iret (pc := 123) C rfl dX8_returnsIn_123
def pX8_returnsIn_83 (v1 : Int32) (v3 : Int32) (v4 : Int32) (M : Mem) : Option (Int32 × Mem) :=
    bnd (pX8_returnsOf v1 M) fun o2 M1 => if o2 ≤ v3 then (pX8_returnsIn_97    v4 (0 : Int32) M1)
    else pX8_returnsIn_97    v4 (1 : Int32) M1
theorem lX8_returnsIn_83 {K : KT} {G : WT} (C : Cx K G "PermitParkModel" cX8_returnsIn 6 (some FieldType.int)) (hRm : K.2.2.2.1.frames = 10 ∧ K.2.2.2.1.locals = 231) (h0 : W0 G) (v1 : Int32) (v3 : Int32) (v4 : Int32) (M : Mem) (g_0 : G.2.2.2.1 19 0 0) : Run K G 6 0 0 (FinM K G voI 0 0) 83 [(0, .ref (G.1 19 0 0)), (1, .int v1), (3, .int v3), (4, .int v4)] [] M (pX8_returnsIn_83   v1 v3 v4 M) := by
  rw [pX8_returnsIn_83]
  refine r_aload_n (pc := 83) C 0 rfl rfl dX8_returnsIn_83 ?_
  refine r_iload_n (pc := 84) C 1 rfl rfl dX8_returnsIn_84 ?_
  refine r_cVI (pc := 85) C hRm (okX8_returnsOf h0 v1 M g_0) (Rc.of C rfl rfl g_0) mw_1483 cvX8_returnsOf rfl ⟨Nat.le_of_ble_eq_true rfl, Nat.le_of_ble_eq_true rfl⟩ rfl (Nat.le_of_ble_eq_true rfl) dX8_returnsIn_85 (fun o2 M1 => ?_)
  refine r_iload_n (pc := 88) C 2 rfl rfl dX8_returnsIn_88 ?_
  refine r_icmp_le (pc := 89) C dX8_returnsIn_89 (tgt := 96) rfl ?_ ?_
  refine r_iconst (pc := 96) C dX8_returnsIn_96 kc_0 ?_
  refine r_sub [0, 3] rfl ?_
  exact lX8_returnsIn_97   C hRm h0   v4 (0 : Int32) M1 g_0
  refine r_iconst (pc := 92) C dX8_returnsIn_92 kc_1 ?_
  refine r_goto (pc := 93) C dX8_returnsIn_93 (tgt := 97) rfl ?_
  refine r_sub [0, 3] rfl ?_
  exact lX8_returnsIn_97   C hRm h0   v4 (1 : Int32) M1 g_0
def pX8_returnsIn_58 : Nat → Int32 → Int32 → Int32 → Int32 → Mem → Option (Int32 × Mem)
  | 0, _, _, _, _, _ => none
  | n + 1, v1, v2, v3, v4, M =>
    if v2 ≤ v4 then (pX8_returnsIn_83    v1 v3 v4 M)
    else bnd (pX8_returnsOf v1 M) fun o2 M1 => if ¬ o2 = v3 then (pX8_returnsIn_83    v1 v3 v4 M1)
    else bnd (pX8_passTick M1) fun o4 M3 => pX8_returnsIn_58   n v1 v2 v3 (v4 + (1 : Int32)) M3
theorem lX8_returnsIn_58 {K : KT} {G : WT} (C : Cx K G "PermitParkModel" cX8_returnsIn 6 (some FieldType.int)) (hRm : K.2.2.2.1.frames = 10 ∧ K.2.2.2.1.locals = 231) (h0 : W0 G) : ∀ (n : Nat) (v1 : Int32) (v2 : Int32) (v3 : Int32) (v4 : Int32) (M : Mem), G.2.2.2.1 19 0 0 → Run K G 6 0 0 (FinM K G voI 0 0) 58 [(0, .ref (G.1 19 0 0)), (1, .int v1), (2, .int v2), (3, .int v3), (4, .int v4)] [] M (pX8_returnsIn_58   n v1 v2 v3 v4 M) := by
  intro n
  induction n with
  | zero =>
    intro v1 v2 v3 v4 M g_0
    exact r_none
  | succ n ih =>
    intro v1 v2 v3 v4 M g_0
    rw [pX8_returnsIn_58]
    refine r_iload (pc := 58) C 4 rfl dX8_returnsIn_58 ?_
    refine r_iload_n (pc := 60) C 2 rfl rfl dX8_returnsIn_60 ?_
    refine r_icmp_ge (pc := 61) C dX8_returnsIn_61 (tgt := 83) rfl ?_ ?_
    refine r_sub [0, 1, 3, 4] rfl ?_
    exact lX8_returnsIn_83   C hRm h0   v1 v3 v4 M g_0
    refine r_aload_n (pc := 64) C 0 rfl rfl dX8_returnsIn_64 ?_
    refine r_iload_n (pc := 65) C 1 rfl rfl dX8_returnsIn_65 ?_
    refine r_cVI (pc := 66) C hRm (okX8_returnsOf h0 v1 M g_0) (Rc.of C rfl rfl g_0) mw_1483 cvX8_returnsOf rfl ⟨Nat.le_of_ble_eq_true rfl, Nat.le_of_ble_eq_true rfl⟩ rfl (Nat.le_of_ble_eq_true rfl) dX8_returnsIn_66 (fun o2 M1 => ?_)
    refine r_iload_n (pc := 69) C 3 rfl rfl dX8_returnsIn_69 ?_
    refine r_icmp_ne (pc := 70) C dX8_returnsIn_70 (tgt := 83) rfl ?_ ?_
    refine r_sub [0, 1, 3, 4] rfl ?_
    exact lX8_returnsIn_83   C hRm h0   v1 v3 v4 M1 g_0
    refine r_aload_n (pc := 73) C 0 rfl rfl dX8_returnsIn_73 ?_
    refine r_cVV (pc := 74) C hRm (okX8_passTick h0 M1 g_0) (Rc.of C rfl rfl g_0) mw_1376 cvX8_passTick rfl ⟨Nat.le_of_ble_eq_true rfl, Nat.le_of_ble_eq_true rfl⟩ rfl (Nat.le_of_ble_eq_true rfl) dX8_returnsIn_74 (fun o4 M3 => ?_)
    refine r_iinc (pc := 77) C [(4, .int (v4 + (1 : Int32))), (0, .ref (G.1 19 0 0)), (1, .int v1), (2, .int v2), (3, .int v3)] dX8_returnsIn_77 (p := 4) rfl (ki_1 _) (by decide) rfl ?_
    refine r_goto (pc := 80) C dX8_returnsIn_80 (tgt := 58) rfl ?_
    refine r_sub [1, 2, 3, 4, 0] rfl ?_
    exact ih v1 v2 v3 (v4 + (1 : Int32)) M3 g_0
def pX8_returnsIn (v1 : Int32) (v2 : Int32) (M : Mem) : Option (Int32 × Mem) :=
    nm (wI M 19 0 0 7 (0 : Int32)) fun M1 => bnd (pX8_isThread v1 M1) fun o3 M2 => if ¬ o3 = 0 then (bnd (pX8_isBetween v2 (1 : Int32) (500 : Int32) M2) fun o5 M4 => if ¬ o5 = 0 then (bnd (pX8_copy_20_22 (0 : Int32) (0 : Int32) M4) fun o9 M8 => bnd (pX8_returnsOf v1 M8) fun o11 M10 => pX8_returnsIn_58   fu v1 v2 o11 (0 : Int32) M10)
    else bnd (pX8_fail (2 : Int32) M4) fun o13 M12 => some (o13, M12))
    else bnd (pX8_fail (1 : Int32) M2) fun o15 M14 => some (o15, M14)
theorem lX8_returnsIn_0 {K : KT} {G : WT} (C : Cx K G "PermitParkModel" cX8_returnsIn 6 (some FieldType.int)) (hRm : K.2.2.2.1.frames = 10 ∧ K.2.2.2.1.locals = 231) (h0 : W0 G) (v1 : Int32) (v2 : Int32) (M : Mem) (h_0 : G.2.2.2.1 19 0 0) : Run K G 6 0 0 (FinM K G voI 0 0) 0 [(0, .ref (G.1 19 0 0)), (1, .int v1), (2, .int v2)] [] M (pX8_returnsIn   v1 v2 M) := by
  rw [pX8_returnsIn]
  refine r_aload_n (pc := 0) C 0 rfl rfl dX8_returnsIn_0 ?_
  refine r_iconst (pc := 1) C dX8_returnsIn_1 kc_0 ?_
  refine r_putI (pc := 2) C FX8_thrown mw_1019 h_0 tyX8 tyX8_ok nmX8 (fun _ _ => rfl) rfl dX8_returnsIn_2 (fun M1 => ?_)
  refine r_aload_n (pc := 5) C 0 rfl rfl dX8_returnsIn_5 ?_
  refine r_iload_n (pc := 6) C 1 rfl rfl dX8_returnsIn_6 ?_
  refine r_cVI (pc := 7) C hRm (okX8_isThread h0 v1 M1 h_0) (Rc.of C rfl rfl h_0) mw_1251 cvX8_isThread rfl ⟨Nat.le_of_ble_eq_true rfl, Nat.le_of_ble_eq_true rfl⟩ rfl (Nat.le_of_ble_eq_true rfl) dX8_returnsIn_7 (fun o3 M2 => ?_)
  refine r_if_ne (pc := 10) C dX8_returnsIn_10 (tgt := 19) rfl ?_ ?_
  refine r_iload_n (pc := 19) C 2 rfl rfl dX8_returnsIn_19 ?_
  refine r_iconst (pc := 20) C dX8_returnsIn_20 kc_1 ?_
  refine r_sipush (pc := 21) C dX8_returnsIn_21 ks_500 ?_
  refine r_cSI (pc := 24) C hRm (okX8_isBetween h0 v2 (1 : Int32) (500 : Int32) M2 ) mw_1092 cvX8_isBetween rfl ⟨Nat.le_of_ble_eq_true rfl, Nat.le_of_ble_eq_true rfl⟩ rfl (Nat.le_of_ble_eq_true rfl) dX8_returnsIn_24 (fun o5 M4 => ?_)
  refine r_if_ne (pc := 27) C dX8_returnsIn_27 (tgt := 36) rfl ?_ ?_
  refine r_aload_n (pc := 36) C 0 rfl rfl dX8_returnsIn_36 ?_
  refine r_getR (pc := 37) C FX8_state mw_1012 h_0 rfl dX8_returnsIn_37 (fun g6 => ?_)
  refine r_iconst (pc := 40) C dX8_returnsIn_40 kc_0 ?_
  refine r_aload_n (pc := 41) C 0 rfl rfl dX8_returnsIn_41 ?_
  refine r_getR (pc := 42) C FX8_aside mw_1014 h_0 rfl dX8_returnsIn_42 (fun g7 => ?_)
  refine r_iconst (pc := 45) C dX8_returnsIn_45 kc_0 ?_
  refine r_cSV (pc := 46) C hRm (okX8_copy_20_22 h0 (0 : Int32) (0 : Int32) M4 g6 g7) mw_1099 cvX8_copy rfl ⟨Nat.le_of_ble_eq_true rfl, Nat.le_of_ble_eq_true rfl⟩ rfl (Nat.le_of_ble_eq_true rfl) dX8_returnsIn_46 (fun o9 M8 => ?_)
  refine r_aload_n (pc := 49) C 0 rfl rfl dX8_returnsIn_49 ?_
  refine r_iload_n (pc := 50) C 1 rfl rfl dX8_returnsIn_50 ?_
  refine r_cVI (pc := 51) C hRm (okX8_returnsOf h0 v1 M8 h_0) (Rc.of C rfl rfl h_0) mw_1483 cvX8_returnsOf rfl ⟨Nat.le_of_ble_eq_true rfl, Nat.le_of_ble_eq_true rfl⟩ rfl (Nat.le_of_ble_eq_true rfl) dX8_returnsIn_51 (fun o11 M10 => ?_)
  refine r_istore_n (pc := 54) C [(3, .int o11), (0, .ref (G.1 19 0 0)), (1, .int v1), (2, .int v2)] dX8_returnsIn_54 rfl (by decide) rfl ?_
  refine r_iconst (pc := 55) C dX8_returnsIn_55 kc_0 ?_
  refine r_istore (pc := 56) C [(4, .int (0 : Int32)), (3, .int o11), (0, .ref (G.1 19 0 0)), (1, .int v1), (2, .int v2)] dX8_returnsIn_56 (by decide) rfl ?_
  refine r_sub [2, 3, 4, 1, 0] rfl ?_
  exact lX8_returnsIn_58   C hRm h0  fu v1 v2 o11 (0 : Int32) M10 h_0
  refine r_aload_n (pc := 30) C 0 rfl rfl dX8_returnsIn_30 ?_
  refine r_iconst (pc := 31) C dX8_returnsIn_31 kc_2 ?_
  refine r_cVI (pc := 32) C hRm (okX8_fail h0 (2 : Int32) M4 h_0) (Rc.of C rfl rfl h_0) mw_1084 cvX8_fail rfl ⟨Nat.le_of_ble_eq_true rfl, Nat.le_of_ble_eq_true rfl⟩ rfl (Nat.le_of_ble_eq_true rfl) dX8_returnsIn_32 (fun o13 M12 => ?_)
  exact r_iret (pc := 35) C rfl dX8_returnsIn_35
  refine r_aload_n (pc := 13) C 0 rfl rfl dX8_returnsIn_13 ?_
  refine r_iconst (pc := 14) C dX8_returnsIn_14 kc_1 ?_
  refine r_cVI (pc := 15) C hRm (okX8_fail h0 (1 : Int32) M2 h_0) (Rc.of C rfl rfl h_0) mw_1084 cvX8_fail rfl ⟨Nat.le_of_ble_eq_true rfl, Nat.le_of_ble_eq_true rfl⟩ rfl (Nat.le_of_ble_eq_true rfl) dX8_returnsIn_15 (fun o15 M14 => ?_)
  exact r_iret (pc := 18) C rfl dX8_returnsIn_18
theorem okX8_returnsIn {l : Launch} {G : WT} (h0 : W0 G) (v1 : Int32) (v2 : Int32) (M : Mem) (h_0 : G.2.2.2.1 19 0 0) : Okm l G yX8_returnsIn cX8_returnsIn 6 (some FieldType.int) 10 231 [.ref (G.1 19 0 0), .int v1, .int v2] voI M (pX8_returnsIn  v1 v2 M) :=
  Okm.of "PermitParkModel" rfl (by decide) (Nat.le_of_ble_eq_true rfl) (L := [(0, .ref (G.1 19 0 0)), (1, .int v1), (2, .int v2)]) rfl (fun K _ hr C => lX8_returnsIn_0 C (by rw [hr]; exact ⟨rfl, rfl⟩) h0 v1 v2 M h_0)
def pX8_ahead_25 (M : Mem) : Option (Int32 × Mem) :=
    bnd (pX8_fail (1 : Int32) M) fun o2 M1 => some (o2, M1)
theorem lX8_ahead_25 {K : KT} {G : WT} (C : Cx K G "PermitParkModel" cX8_ahead 7 (some FieldType.int)) (hRm : K.2.2.2.1.frames = 11 ∧ K.2.2.2.1.locals = 253) (h0 : W0 G) (M : Mem) (g_0 : G.2.2.2.1 19 0 0) : Run K G 7 0 0 (FinM K G voI 0 0) 25 [(0, .ref (G.1 19 0 0))] [] M (pX8_ahead_25    M) := by
  rw [pX8_ahead_25]
  refine r_aload_n (pc := 25) C 0 rfl rfl dX8_ahead_25 ?_
  refine r_iconst (pc := 26) C dX8_ahead_26 kc_1 ?_
  refine r_cVI (pc := 27) C hRm (okX8_fail h0 (1 : Int32) M g_0) (Rc.of C rfl rfl g_0) mw_1084 cvX8_fail rfl ⟨Nat.le_of_ble_eq_true rfl, Nat.le_of_ble_eq_true rfl⟩ rfl (Nat.le_of_ble_eq_true rfl) dX8_ahead_27 (fun o2 M1 => ?_)
  exact r_iret (pc := 30) C rfl dX8_ahead_30
def pX8_ahead_126 (s0 : Int32) (M : Mem) : Option (Int32 × Mem) :=
    bnd (pX8_copy_22_20 (0 : Int32) (0 : Int32) M) fun o4 M3 => some (s0, M3)
theorem lX8_ahead_126 {K : KT} {G : WT} (C : Cx K G "PermitParkModel" cX8_ahead 7 (some FieldType.int)) (hRm : K.2.2.2.1.frames = 11 ∧ K.2.2.2.1.locals = 253) (h0 : W0 G) (s0 : Int32) (M : Mem) (g_0 : G.2.2.2.1 19 0 0) : Run K G 7 0 0 (FinM K G voI 0 0) 126 [(0, .ref (G.1 19 0 0))] [.int s0] M (pX8_ahead_126   s0 M) := by
  rw [pX8_ahead_126]
  refine r_istore (pc := 126) C [(6, .int s0), (0, .ref (G.1 19 0 0))] dX8_ahead_126 (by decide) rfl ?_
  refine r_aload_n (pc := 128) C 1 rfl rfl dX8_ahead_128 ?_
  refine r_getR (pc := 129) C FX8_aside mw_1014 g_0 rfl dX8_ahead_129 (fun g1 => ?_)
  refine r_iconst (pc := 132) C dX8_ahead_132 kc_0 ?_
  refine r_aload_n (pc := 133) C 1 rfl rfl dX8_ahead_133 ?_
  refine r_getR (pc := 134) C FX8_state mw_1012 g_0 rfl dX8_ahead_134 (fun g2 => ?_)
  refine r_iconst (pc := 137) C dX8_ahead_137 kc_0 ?_
  refine r_cSV (pc := 138) C hRm (okX8_copy_22_20 h0 (0 : Int32) (0 : Int32) M g1 g2) mw_1099 cvX8_copy rfl ⟨Nat.le_of_ble_eq_true rfl, Nat.le_of_ble_eq_true rfl⟩ rfl (Nat.le_of_ble_eq_true rfl) dX8_ahead_138 (fun o4 M3 => ?_)
  refine r_iload (pc := 141) C 0 rfl dX8_ahead_141 ?_
  exact r_iret (pc := 143) C rfl dX8_ahead_143
def pX8_ahead (v1 : Int32) (v2 : Int32) (M : Mem) : Option (Int32 × Mem) :=
    nm (wI M 19 0 0 7 (0 : Int32)) fun M1 => bnd (pX8_isBetween v1 (1 : Int32) (500 : Int32) M1) fun o3 M2 => if o3 = 0 then (pX8_ahead_25    M2)
    else bnd (pX8_isBetween v2 (0 : Int32) (3 : Int32) M2) fun o5 M4 => if ¬ o5 = 0 then (bnd (pX8_copy_20_22 (0 : Int32) (0 : Int32) M4) fun o9 M8 => chk (inB (6 : Int32) 700) <| nm (M8.1 20 0 0 (6 : Int32).toNatClampNeg) fun x11 => bnd (pX8_allReturns M8) fun o13 M12 => chk (inB (13 : Int32) 700) <| nm (M12.1 20 0 0 (13 : Int32).toNatClampNeg) fun x15 => bnd (pX8_passTicks v1 M12) fun o17 M16 => if ¬ v2 = 0 then (if ¬ v2 = (1 : Int32) then (if ¬ v2 = (2 : Int32) then (chk (inB (13 : Int32) 700) <| pX8_ahead_126    ((M16.1 20 0 0 (13 : Int32).toNatClampNeg) - x15) M16)
    else bnd (pX8_allReturns M16) fun o20 M19 => pX8_ahead_126    (o20 - o13) M19)
    else chk (inB (6 : Int32) 700) <| pX8_ahead_126    ((M16.1 20 0 0 (6 : Int32).toNatClampNeg) - x11) M16)
    else bnd (pX8_inState (3 : Int32) M16) fun o23 M22 => pX8_ahead_126    o23 M22)
    else pX8_ahead_25    M4
theorem lX8_ahead_0 {K : KT} {G : WT} (C : Cx K G "PermitParkModel" cX8_ahead 7 (some FieldType.int)) (hRm : K.2.2.2.1.frames = 11 ∧ K.2.2.2.1.locals = 253) (h0 : W0 G) (v1 : Int32) (v2 : Int32) (M : Mem) (h_0 : G.2.2.2.1 19 0 0) : Run K G 7 0 0 (FinM K G voI 0 0) 0 [(0, .ref (G.1 19 0 0)), (1, .int v1), (2, .int v2)] [] M (pX8_ahead   v1 v2 M) := by
  rw [pX8_ahead]
  refine r_aload_n (pc := 0) C 0 rfl rfl dX8_ahead_0 ?_
  refine r_iconst (pc := 1) C dX8_ahead_1 kc_0 ?_
  refine r_putI (pc := 2) C FX8_thrown mw_1019 h_0 tyX8 tyX8_ok nmX8 (fun _ _ => rfl) rfl dX8_ahead_2 (fun M1 => ?_)
  refine r_iload_n (pc := 5) C 1 rfl rfl dX8_ahead_5 ?_
  refine r_iconst (pc := 6) C dX8_ahead_6 kc_1 ?_
  refine r_sipush (pc := 7) C dX8_ahead_7 ks_500 ?_
  refine r_cSI (pc := 10) C hRm (okX8_isBetween h0 v1 (1 : Int32) (500 : Int32) M1 ) mw_1092 cvX8_isBetween rfl ⟨Nat.le_of_ble_eq_true rfl, Nat.le_of_ble_eq_true rfl⟩ rfl (Nat.le_of_ble_eq_true rfl) dX8_ahead_10 (fun o3 M2 => ?_)
  refine r_if_eq (pc := 13) C dX8_ahead_13 (tgt := 25) rfl ?_ ?_
  refine r_sub [0] rfl ?_
  exact lX8_ahead_25   C hRm h0   M2 h_0
  refine r_iload_n (pc := 16) C 2 rfl rfl dX8_ahead_16 ?_
  refine r_iconst (pc := 17) C dX8_ahead_17 kc_0 ?_
  refine r_iconst (pc := 18) C dX8_ahead_18 kc_3 ?_
  refine r_cSI (pc := 19) C hRm (okX8_isBetween h0 v2 (0 : Int32) (3 : Int32) M2 ) mw_1092 cvX8_isBetween rfl ⟨Nat.le_of_ble_eq_true rfl, Nat.le_of_ble_eq_true rfl⟩ rfl (Nat.le_of_ble_eq_true rfl) dX8_ahead_19 (fun o5 M4 => ?_)
  refine r_if_ne (pc := 22) C dX8_ahead_22 (tgt := 31) rfl ?_ ?_
  refine r_aload_n (pc := 31) C 0 rfl rfl dX8_ahead_31 ?_
  refine r_getR (pc := 32) C FX8_state mw_1012 h_0 rfl dX8_ahead_32 (fun g6 => ?_)
  refine r_iconst (pc := 35) C dX8_ahead_35 kc_0 ?_
  refine r_aload_n (pc := 36) C 0 rfl rfl dX8_ahead_36 ?_
  refine r_getR (pc := 37) C FX8_aside mw_1014 h_0 rfl dX8_ahead_37 (fun g7 => ?_)
  refine r_iconst (pc := 40) C dX8_ahead_40 kc_0 ?_
  refine r_cSV (pc := 41) C hRm (okX8_copy_20_22 h0 (0 : Int32) (0 : Int32) M4 g6 g7) mw_1099 cvX8_copy rfl ⟨Nat.le_of_ble_eq_true rfl, Nat.le_of_ble_eq_true rfl⟩ rfl (Nat.le_of_ble_eq_true rfl) dX8_ahead_41 (fun o9 M8 => ?_)
  refine r_aload_n (pc := 44) C 0 rfl rfl dX8_ahead_44 ?_
  refine r_getR (pc := 45) C FX8_state mw_1012 h_0 rfl dX8_ahead_45 (fun g10 => ?_)
  refine r_bipush (pc := 48) C dX8_ahead_48 kb_6 ?_
  refine r_iald (pc := 50) C rfl g6 (fun _ => rfl) (fun _ => rfl) dX8_ahead_50 ?_
  refine r_nmi (fun x11 => ?_)
  refine r_istore_n (pc := 51) C [(3, .int x11), (0, .ref (G.1 19 0 0)), (1, .int v1), (2, .int v2)] dX8_ahead_51 rfl (by decide) rfl ?_
  refine r_aload_n (pc := 52) C 1 rfl rfl dX8_ahead_52 ?_
  refine r_cVI (pc := 53) C hRm (okX8_allReturns h0 M8 h_0) (Rc.of C rfl rfl h_0) mw_1491 cvX8_allReturns rfl ⟨Nat.le_of_ble_eq_true rfl, Nat.le_of_ble_eq_true rfl⟩ rfl (Nat.le_of_ble_eq_true rfl) dX8_ahead_53 (fun o13 M12 => ?_)
  refine r_istore (pc := 56) C [(4, .int o13), (3, .int x11), (0, .ref (G.1 19 0 0)), (1, .int v1), (2, .int v2)] dX8_ahead_56 (by decide) rfl ?_
  refine r_aload_n (pc := 58) C 2 rfl rfl dX8_ahead_58 ?_
  refine r_getR (pc := 59) C FX8_state mw_1012 h_0 rfl dX8_ahead_59 (fun g14 => ?_)
  refine r_bipush (pc := 62) C dX8_ahead_62 kb_13 ?_
  refine r_iald (pc := 64) C rfl g6 (fun _ => rfl) (fun _ => rfl) dX8_ahead_64 ?_
  refine r_nmi (fun x15 => ?_)
  refine r_istore (pc := 65) C [(5, .int x15), (4, .int o13), (3, .int x11), (0, .ref (G.1 19 0 0)), (1, .int v1), (2, .int v2)] dX8_ahead_65 (by decide) rfl ?_
  refine r_aload_n (pc := 67) C 3 rfl rfl dX8_ahead_67 ?_
  refine r_iload_n (pc := 68) C 4 rfl rfl dX8_ahead_68 ?_
  refine r_cVV (pc := 69) C hRm (okX8_passTicks h0 v1 M12 h_0) (Rc.of C rfl rfl h_0) mw_1372 cvX8_passTicks rfl ⟨Nat.le_of_ble_eq_true rfl, Nat.le_of_ble_eq_true rfl⟩ rfl (Nat.le_of_ble_eq_true rfl) dX8_ahead_69 (fun o17 M16 => ?_)
  refine r_iload_n (pc := 72) C 5 rfl rfl dX8_ahead_72 ?_
  refine r_if_ne (pc := 73) C dX8_ahead_73 (tgt := 84) rfl ?_ ?_
  refine r_iload_n (pc := 84) C 5 rfl rfl dX8_ahead_84 ?_
  refine r_iconst (pc := 85) C dX8_ahead_85 kc_1 ?_
  refine r_icmp_ne (pc := 86) C dX8_ahead_86 (tgt := 101) rfl ?_ ?_
  refine r_iload_n (pc := 101) C 5 rfl rfl dX8_ahead_101 ?_
  refine r_iconst (pc := 102) C dX8_ahead_102 kc_2 ?_
  refine r_icmp_ne (pc := 103) C dX8_ahead_103 (tgt := 116) rfl ?_ ?_
  refine r_aload_n (pc := 116) C 3 rfl rfl dX8_ahead_116 ?_
  refine r_getR (pc := 117) C FX8_state mw_1012 h_0 rfl dX8_ahead_117 (fun g18 => ?_)
  refine r_bipush (pc := 120) C dX8_ahead_120 kb_13 ?_
  refine r_iald (pc := 122) C rfl g6 (fun _ => rfl) (fun _ => rfl) dX8_ahead_122 ?_
  refine r_iload (pc := 123) C 0 rfl dX8_ahead_123 ?_
  refine r_isub (pc := 125) C dX8_ahead_125 ?_
  refine r_sub [3] rfl ?_
  exact lX8_ahead_126   C hRm h0   ((M16.1 20 0 0 (13 : Int32).toNatClampNeg) - x15) M16 h_0
  refine r_aload_n (pc := 106) C 3 rfl rfl dX8_ahead_106 ?_
  refine r_cVI (pc := 107) C hRm (okX8_allReturns h0 M16 h_0) (Rc.of C rfl rfl h_0) mw_1491 cvX8_allReturns rfl ⟨Nat.le_of_ble_eq_true rfl, Nat.le_of_ble_eq_true rfl⟩ rfl (Nat.le_of_ble_eq_true rfl) dX8_ahead_107 (fun o20 M19 => ?_)
  refine r_iload (pc := 110) C 1 rfl dX8_ahead_110 ?_
  refine r_isub (pc := 112) C dX8_ahead_112 ?_
  refine r_goto (pc := 113) C dX8_ahead_113 (tgt := 126) rfl ?_
  refine r_sub [3] rfl ?_
  exact lX8_ahead_126   C hRm h0   (o20 - o13) M19 h_0
  refine r_aload_n (pc := 89) C 3 rfl rfl dX8_ahead_89 ?_
  refine r_getR (pc := 90) C FX8_state mw_1012 h_0 rfl dX8_ahead_90 (fun g21 => ?_)
  refine r_bipush (pc := 93) C dX8_ahead_93 kb_6 ?_
  refine r_iald (pc := 95) C rfl g6 (fun _ => rfl) (fun _ => rfl) dX8_ahead_95 ?_
  refine r_iload_n (pc := 96) C 2 rfl rfl dX8_ahead_96 ?_
  refine r_isub (pc := 97) C dX8_ahead_97 ?_
  refine r_goto (pc := 98) C dX8_ahead_98 (tgt := 126) rfl ?_
  refine r_sub [3] rfl ?_
  exact lX8_ahead_126   C hRm h0   ((M16.1 20 0 0 (6 : Int32).toNatClampNeg) - x11) M16 h_0
  refine r_aload_n (pc := 76) C 3 rfl rfl dX8_ahead_76 ?_
  refine r_iconst (pc := 77) C dX8_ahead_77 kc_3 ?_
  refine r_cVI (pc := 78) C hRm (okX8_inState h0 (3 : Int32) M16 h_0) (Rc.of C rfl rfl h_0) mw_1275 cvX8_inState rfl ⟨Nat.le_of_ble_eq_true rfl, Nat.le_of_ble_eq_true rfl⟩ rfl (Nat.le_of_ble_eq_true rfl) dX8_ahead_78 (fun o23 M22 => ?_)
  refine r_goto (pc := 81) C dX8_ahead_81 (tgt := 126) rfl ?_
  refine r_sub [3] rfl ?_
  exact lX8_ahead_126   C hRm h0   o23 M22 h_0
  refine r_sub [0] rfl ?_
  exact lX8_ahead_25   C hRm h0   M4 h_0
theorem okX8_ahead {l : Launch} {G : WT} (h0 : W0 G) (v1 : Int32) (v2 : Int32) (M : Mem) (h_0 : G.2.2.2.1 19 0 0) : Okm l G yX8_ahead cX8_ahead 7 (some FieldType.int) 11 253 [.ref (G.1 19 0 0), .int v1, .int v2] voI M (pX8_ahead  v1 v2 M) :=
  Okm.of "PermitParkModel" rfl (by decide) (Nat.le_of_ble_eq_true rfl) (L := [(0, .ref (G.1 19 0 0)), (1, .int v1), (2, .int v2)]) rfl (fun K _ hr C => lX8_ahead_0 C (by rw [hr]; exact ⟨rfl, rfl⟩) h0 v1 v2 M h_0)
def pX8_bestBase_105 (k57 : Int32 → Int32 → Int32 → Int32 → Int32 → Mem → Option (Int32 × Mem)) (v1 : Int32) (v2 : Int32) (v3 : Int32) (v4 : Int32) (v5 : Int32) (M : Mem) : Option (Int32 × Mem) :=
    bnd (pX8_copy_22_20 (0 : Int32) (0 : Int32) M) fun o4 M3 => k57 v1 v2 v3 v4 (v5 + (1 : Int32)) M3
theorem lX8_bestBase_105 {K : KT} {G : WT} {k57 : Int32 → Int32 → Int32 → Int32 → Int32 → Mem → Option (Int32 × Mem)} (C : Cx K G "PermitParkModel" cX8_bestBase 7 (some FieldType.int)) (hRm : K.2.2.2.1.frames = 11 ∧ K.2.2.2.1.locals = 254) (h0 : W0 G)
    (hk57 : ∀ (v1 : Int32) (v2 : Int32) (v3 : Int32) (v4 : Int32) (v5 : Int32) (M : Mem), G.2.2.2.1 19 0 0 → Run K G 7 0 0 (FinM K G voI 0 0) 57 [(0, .ref (G.1 19 0 0)), (1, .int v1), (2, .int v2), (3, .int v3), (4, .int v4), (5, .int v5)] [] M (k57 v1 v2 v3 v4 v5 M)) (v1 : Int32) (v2 : Int32) (v3 : Int32) (v4 : Int32) (v5 : Int32) (M : Mem) (g_0 : G.2.2.2.1 19 0 0) : Run K G 7 0 0 (FinM K G voI 0 0) 105 [(0, .ref (G.1 19 0 0)), (1, .int v1), (2, .int v2), (3, .int v3), (4, .int v4), (5, .int v5)] [] M (pX8_bestBase_105  k57 v1 v2 v3 v4 v5 M) := by
  rw [pX8_bestBase_105]
  refine r_aload_n (pc := 105) C 0 rfl rfl dX8_bestBase_105 ?_
  refine r_getR (pc := 106) C FX8_aside mw_1014 g_0 rfl dX8_bestBase_106 (fun g1 => ?_)
  refine r_iconst (pc := 109) C dX8_bestBase_109 kc_0 ?_
  refine r_aload_n (pc := 110) C 0 rfl rfl dX8_bestBase_110 ?_
  refine r_getR (pc := 111) C FX8_state mw_1012 g_0 rfl dX8_bestBase_111 (fun g2 => ?_)
  refine r_iconst (pc := 114) C dX8_bestBase_114 kc_0 ?_
  refine r_cSV (pc := 115) C hRm (okX8_copy_22_20 h0 (0 : Int32) (0 : Int32) M g1 g2) mw_1099 cvX8_copy rfl ⟨Nat.le_of_ble_eq_true rfl, Nat.le_of_ble_eq_true rfl⟩ rfl (Nat.le_of_ble_eq_true rfl) dX8_bestBase_115 (fun o4 M3 => ?_)
  refine r_iinc (pc := 118) C [(5, .int (v5 + (1 : Int32))), (0, .ref (G.1 19 0 0)), (1, .int v1), (2, .int v2), (3, .int v3), (4, .int v4)] dX8_bestBase_118 (p := 5) rfl (ki_1 _) (by decide) rfl ?_
  refine r_goto (pc := 121) C dX8_bestBase_121 (tgt := 57) rfl ?_
  refine r_sub [1, 2, 3, 4, 5, 0] rfl ?_
  exact hk57 v1 v2 v3 v4 (v5 + (1 : Int32)) M3 g_0
def pX8_bestBase_57 : Nat → Int32 → Int32 → Int32 → Int32 → Int32 → Mem → Option (Int32 × Mem)
  | 0, _, _, _, _, _, _ => none
  | n + 1, v1, v2, v3, v4, v5, M =>
    if (9 : Int32) < v5 then (some (v3, M))
    else bnd (pX8_put v1 (0 : Int32) v5 M) fun o2 M1 => bnd (pX8_ticksToDone v1 v2 M1) fun o4 M3 => if o4 = (-1 : Int32) then (pX8_bestBase_105  (fun v1 v2 v3 v4 v5 M => pX8_bestBase_57   n v1 v2 v3 v4 v5 M)  v1 v2 v3 v4 v5 M3)
    else if v3 = (-1 : Int32) then (pX8_bestBase_105  (fun v1 v2 v3 v4 v5 M => pX8_bestBase_57   n v1 v2 v3 v4 v5 M)  v1 v2 v5 o4 v5 M3)
    else if v4 ≤ o4 then (pX8_bestBase_105  (fun v1 v2 v3 v4 v5 M => pX8_bestBase_57   n v1 v2 v3 v4 v5 M)  v1 v2 v3 v4 v5 M3)
    else pX8_bestBase_105  (fun v1 v2 v3 v4 v5 M => pX8_bestBase_57   n v1 v2 v3 v4 v5 M)  v1 v2 v5 o4 v5 M3
theorem lX8_bestBase_57 {K : KT} {G : WT} (C : Cx K G "PermitParkModel" cX8_bestBase 7 (some FieldType.int)) (hRm : K.2.2.2.1.frames = 11 ∧ K.2.2.2.1.locals = 254) (h0 : W0 G) : ∀ (n : Nat) (v1 : Int32) (v2 : Int32) (v3 : Int32) (v4 : Int32) (v5 : Int32) (M : Mem), G.2.2.2.1 19 0 0 → Run K G 7 0 0 (FinM K G voI 0 0) 57 [(0, .ref (G.1 19 0 0)), (1, .int v1), (2, .int v2), (3, .int v3), (4, .int v4), (5, .int v5)] [] M (pX8_bestBase_57   n v1 v2 v3 v4 v5 M) := by
  intro n
  induction n with
  | zero =>
    intro v1 v2 v3 v4 v5 M g_0
    exact r_none
  | succ n ih =>
    intro v1 v2 v3 v4 v5 M g_0
    rw [pX8_bestBase_57]
    refine r_iload (pc := 57) C 5 rfl dX8_bestBase_57 ?_
    refine r_bipush (pc := 59) C dX8_bestBase_59 kb_9 ?_
    refine r_icmp_gt (pc := 61) C dX8_bestBase_61 (tgt := 124) rfl ?_ ?_
    refine r_iload_n (pc := 124) C 3 rfl rfl dX8_bestBase_124 ?_
    exact r_iret (pc := 125) C rfl dX8_bestBase_125
    refine r_aload_n (pc := 64) C 0 rfl rfl dX8_bestBase_64 ?_
    refine r_iload_n (pc := 65) C 1 rfl rfl dX8_bestBase_65 ?_
    refine r_iconst (pc := 66) C dX8_bestBase_66 kc_0 ?_
    refine r_iload (pc := 67) C 5 rfl dX8_bestBase_67 ?_
    refine r_cVV (pc := 69) C hRm (okX8_put h0 v1 (0 : Int32) v5 M g_0) (Rc.of C rfl rfl g_0) mw_1166 cvX8_put rfl ⟨Nat.le_of_ble_eq_true rfl, Nat.le_of_ble_eq_true rfl⟩ rfl (Nat.le_of_ble_eq_true rfl) dX8_bestBase_69 (fun o2 M1 => ?_)
    refine r_aload_n (pc := 72) C 0 rfl rfl dX8_bestBase_72 ?_
    refine r_iload_n (pc := 73) C 1 rfl rfl dX8_bestBase_73 ?_
    refine r_iload_n (pc := 74) C 2 rfl rfl dX8_bestBase_74 ?_
    refine r_cVI (pc := 75) C hRm (okX8_ticksToDone h0 v1 v2 M1 g_0) (Rc.of C rfl rfl g_0) mw_1475 cvX8_ticksToDone rfl ⟨Nat.le_of_ble_eq_true rfl, Nat.le_of_ble_eq_true rfl⟩ rfl (Nat.le_of_ble_eq_true rfl) dX8_bestBase_75 (fun o4 M3 => ?_)
    refine r_istore (pc := 78) C [(6, .int o4), (0, .ref (G.1 19 0 0)), (1, .int v1), (2, .int v2), (3, .int v3), (4, .int v4), (5, .int v5)] dX8_bestBase_78 (by decide) rfl ?_
    refine r_iload (pc := 80) C 0 rfl dX8_bestBase_80 ?_
    refine r_iconst (pc := 82) C dX8_bestBase_82 kc_m1 ?_
    refine r_icmp_eq (pc := 83) C dX8_bestBase_83 (tgt := 105) rfl ?_ ?_
    refine r_sub [1, 2, 3, 4, 5, 6] rfl ?_
    exact lX8_bestBase_105  (k57 := (fun v1 v2 v3 v4 v5 M => pX8_bestBase_57   n v1 v2 v3 v4 v5 M)) C hRm h0 ih  v1 v2 v3 v4 v5 M3 g_0
    refine r_iload_n (pc := 86) C 4 rfl rfl dX8_bestBase_86 ?_
    refine r_iconst (pc := 87) C dX8_bestBase_87 kc_m1 ?_
    refine r_icmp_eq (pc := 88) C dX8_bestBase_88 (tgt := 98) rfl ?_ ?_
    refine r_iload (pc := 98) C 6 rfl dX8_bestBase_98 ?_
    refine r_istore_n (pc := 100) C [(3, .int v5), (6, .int o4), (0, .ref (G.1 19 0 0)), (1, .int v1), (2, .int v2), (4, .int v4), (5, .int v5)] dX8_bestBase_100 rfl (by decide) rfl ?_
    refine r_iload (pc := 101) C 1 rfl dX8_bestBase_101 ?_
    refine r_istore (pc := 103) C [(4, .int o4), (3, .int v5), (6, .int o4), (0, .ref (G.1 19 0 0)), (1, .int v1), (2, .int v2), (5, .int v5)] dX8_bestBase_103 (by decide) rfl ?_
    refine r_sub [3, 4, 5, 1, 0, 6] rfl ?_
    exact lX8_bestBase_105  (k57 := (fun v1 v2 v3 v4 v5 M => pX8_bestBase_57   n v1 v2 v3 v4 v5 M)) C hRm h0 ih  v1 v2 v5 o4 v5 M3 g_0
    refine r_iload (pc := 91) C 0 rfl dX8_bestBase_91 ?_
    refine r_iload (pc := 93) C 5 rfl dX8_bestBase_93 ?_
    refine r_icmp_ge (pc := 95) C dX8_bestBase_95 (tgt := 105) rfl ?_ ?_
    refine r_sub [1, 2, 3, 4, 5, 6] rfl ?_
    exact lX8_bestBase_105  (k57 := (fun v1 v2 v3 v4 v5 M => pX8_bestBase_57   n v1 v2 v3 v4 v5 M)) C hRm h0 ih  v1 v2 v3 v4 v5 M3 g_0
    refine r_iload (pc := 98) C 6 rfl dX8_bestBase_98 ?_
    refine r_istore_n (pc := 100) C [(3, .int v5), (6, .int o4), (0, .ref (G.1 19 0 0)), (1, .int v1), (2, .int v2), (4, .int v4), (5, .int v5)] dX8_bestBase_100 rfl (by decide) rfl ?_
    refine r_iload (pc := 101) C 1 rfl dX8_bestBase_101 ?_
    refine r_istore (pc := 103) C [(4, .int o4), (3, .int v5), (6, .int o4), (0, .ref (G.1 19 0 0)), (1, .int v1), (2, .int v2), (5, .int v5)] dX8_bestBase_103 (by decide) rfl ?_
    refine r_sub [3, 4, 5, 1, 0, 6] rfl ?_
    exact lX8_bestBase_105  (k57 := (fun v1 v2 v3 v4 v5 M => pX8_bestBase_57   n v1 v2 v3 v4 v5 M)) C hRm h0 ih  v1 v2 v5 o4 v5 M3 g_0
def pX8_bestBase (v1 : Int32) (v2 : Int32) (M : Mem) : Option (Int32 × Mem) :=
    nm (wI M 19 0 0 7 (0 : Int32)) fun M1 => bnd (pX8_isThread v1 M1) fun o3 M2 => if ¬ o3 = 0 then (bnd (pX8_isBetween v2 (1 : Int32) (200 : Int32) M2) fun o5 M4 => if ¬ o5 = 0 then (bnd (pX8_copy_20_22 (0 : Int32) (0 : Int32) M4) fun o9 M8 => pX8_bestBase_57   fu v1 v2 (-1 : Int32) (0 : Int32) (1 : Int32) M8)
    else bnd (pX8_fail (2 : Int32) M4) fun o11 M10 => some (o11, M10))
    else bnd (pX8_fail (1 : Int32) M2) fun o13 M12 => some (o13, M12)
theorem lX8_bestBase_0 {K : KT} {G : WT} (C : Cx K G "PermitParkModel" cX8_bestBase 7 (some FieldType.int)) (hRm : K.2.2.2.1.frames = 11 ∧ K.2.2.2.1.locals = 254) (h0 : W0 G) (v1 : Int32) (v2 : Int32) (M : Mem) (h_0 : G.2.2.2.1 19 0 0) : Run K G 7 0 0 (FinM K G voI 0 0) 0 [(0, .ref (G.1 19 0 0)), (1, .int v1), (2, .int v2)] [] M (pX8_bestBase   v1 v2 M) := by
  rw [pX8_bestBase]
  refine r_aload_n (pc := 0) C 0 rfl rfl dX8_bestBase_0 ?_
  refine r_iconst (pc := 1) C dX8_bestBase_1 kc_0 ?_
  refine r_putI (pc := 2) C FX8_thrown mw_1019 h_0 tyX8 tyX8_ok nmX8 (fun _ _ => rfl) rfl dX8_bestBase_2 (fun M1 => ?_)
  refine r_aload_n (pc := 5) C 0 rfl rfl dX8_bestBase_5 ?_
  refine r_iload_n (pc := 6) C 1 rfl rfl dX8_bestBase_6 ?_
  refine r_cVI (pc := 7) C hRm (okX8_isThread h0 v1 M1 h_0) (Rc.of C rfl rfl h_0) mw_1251 cvX8_isThread rfl ⟨Nat.le_of_ble_eq_true rfl, Nat.le_of_ble_eq_true rfl⟩ rfl (Nat.le_of_ble_eq_true rfl) dX8_bestBase_7 (fun o3 M2 => ?_)
  refine r_if_ne (pc := 10) C dX8_bestBase_10 (tgt := 19) rfl ?_ ?_
  refine r_iload_n (pc := 19) C 2 rfl rfl dX8_bestBase_19 ?_
  refine r_iconst (pc := 20) C dX8_bestBase_20 kc_1 ?_
  refine r_sipush (pc := 21) C dX8_bestBase_21 ks_200 ?_
  refine r_cSI (pc := 24) C hRm (okX8_isBetween h0 v2 (1 : Int32) (200 : Int32) M2 ) mw_1092 cvX8_isBetween rfl ⟨Nat.le_of_ble_eq_true rfl, Nat.le_of_ble_eq_true rfl⟩ rfl (Nat.le_of_ble_eq_true rfl) dX8_bestBase_24 (fun o5 M4 => ?_)
  refine r_if_ne (pc := 27) C dX8_bestBase_27 (tgt := 36) rfl ?_ ?_
  refine r_aload_n (pc := 36) C 0 rfl rfl dX8_bestBase_36 ?_
  refine r_getR (pc := 37) C FX8_state mw_1012 h_0 rfl dX8_bestBase_37 (fun g6 => ?_)
  refine r_iconst (pc := 40) C dX8_bestBase_40 kc_0 ?_
  refine r_aload_n (pc := 41) C 0 rfl rfl dX8_bestBase_41 ?_
  refine r_getR (pc := 42) C FX8_aside mw_1014 h_0 rfl dX8_bestBase_42 (fun g7 => ?_)
  refine r_iconst (pc := 45) C dX8_bestBase_45 kc_0 ?_
  refine r_cSV (pc := 46) C hRm (okX8_copy_20_22 h0 (0 : Int32) (0 : Int32) M4 g6 g7) mw_1099 cvX8_copy rfl ⟨Nat.le_of_ble_eq_true rfl, Nat.le_of_ble_eq_true rfl⟩ rfl (Nat.le_of_ble_eq_true rfl) dX8_bestBase_46 (fun o9 M8 => ?_)
  refine r_iconst (pc := 49) C dX8_bestBase_49 kc_m1 ?_
  refine r_istore_n (pc := 50) C [(3, .int (-1 : Int32)), (0, .ref (G.1 19 0 0)), (1, .int v1), (2, .int v2)] dX8_bestBase_50 rfl (by decide) rfl ?_
  refine r_iconst (pc := 51) C dX8_bestBase_51 kc_0 ?_
  refine r_istore (pc := 52) C [(4, .int (0 : Int32)), (3, .int (-1 : Int32)), (0, .ref (G.1 19 0 0)), (1, .int v1), (2, .int v2)] dX8_bestBase_52 (by decide) rfl ?_
  refine r_iconst (pc := 54) C dX8_bestBase_54 kc_1 ?_
  refine r_istore (pc := 55) C [(5, .int (1 : Int32)), (4, .int (0 : Int32)), (3, .int (-1 : Int32)), (0, .ref (G.1 19 0 0)), (1, .int v1), (2, .int v2)] dX8_bestBase_55 (by decide) rfl ?_
  refine r_sub [3, 4, 5, 2, 1, 0] rfl ?_
  exact lX8_bestBase_57   C hRm h0  fu v1 v2 (-1 : Int32) (0 : Int32) (1 : Int32) M8 h_0
  refine r_aload_n (pc := 30) C 0 rfl rfl dX8_bestBase_30 ?_
  refine r_iconst (pc := 31) C dX8_bestBase_31 kc_2 ?_
  refine r_cVI (pc := 32) C hRm (okX8_fail h0 (2 : Int32) M4 h_0) (Rc.of C rfl rfl h_0) mw_1084 cvX8_fail rfl ⟨Nat.le_of_ble_eq_true rfl, Nat.le_of_ble_eq_true rfl⟩ rfl (Nat.le_of_ble_eq_true rfl) dX8_bestBase_32 (fun o11 M10 => ?_)
  exact r_iret (pc := 35) C rfl dX8_bestBase_35
  refine r_aload_n (pc := 13) C 0 rfl rfl dX8_bestBase_13 ?_
  refine r_iconst (pc := 14) C dX8_bestBase_14 kc_1 ?_
  refine r_cVI (pc := 15) C hRm (okX8_fail h0 (1 : Int32) M2 h_0) (Rc.of C rfl rfl h_0) mw_1084 cvX8_fail rfl ⟨Nat.le_of_ble_eq_true rfl, Nat.le_of_ble_eq_true rfl⟩ rfl (Nat.le_of_ble_eq_true rfl) dX8_bestBase_15 (fun o13 M12 => ?_)
  exact r_iret (pc := 18) C rfl dX8_bestBase_18
theorem okX8_bestBase {l : Launch} {G : WT} (h0 : W0 G) (v1 : Int32) (v2 : Int32) (M : Mem) (h_0 : G.2.2.2.1 19 0 0) : Okm l G yX8_bestBase cX8_bestBase 7 (some FieldType.int) 11 254 [.ref (G.1 19 0 0), .int v1, .int v2] voI M (pX8_bestBase  v1 v2 M) :=
  Okm.of "PermitParkModel" rfl (by decide) (Nat.le_of_ble_eq_true rfl) (L := [(0, .ref (G.1 19 0 0)), (1, .int v1), (2, .int v2)]) rfl (fun K _ hr C => lX8_bestBase_0 C (by rw [hr]; exact ⟨rfl, rfl⟩) h0 v1 v2 M h_0)
def pX8_copy_20_23_3 : Nat → Int32 → Int32 → Int32 → Mem → Option (Unit × Mem)
  | 0, _, _, _, _ => none
  | n + 1, v1, v3, v4, M =>
    if (700 : Int32) ≤ v4 then (some ((), M))
    else chk (inB (v1 + v4) 700) <| chk (inB (v3 + v4) 1400) <| nm (wI M 23 0 0 (v3 + v4).toNatClampNeg (M.1 20 0 0 (v1 + v4).toNatClampNeg)) fun M1 => pX8_copy_20_23_3   n v1 v3 (v4 + (1 : Int32)) M1
theorem lX8_copy_20_23_3 {K : KT} {G : WT} (C : Cx K G "PermitParkModel" cX8_copy 5 none) (hRm : K.2.2.2.1.frames = 0 ∧ K.2.2.2.1.locals = 0) (h0 : W0 G) : ∀ (n : Nat) (v1 : Int32) (v3 : Int32) (v4 : Int32) (M : Mem), G.2.2.2.1 20 0 0 → G.2.2.2.1 23 0 0 → Run K G 5 0 0 (FinM K G voV 0 0) 3 [(0, .ref (G.1 20 0 0)), (1, .int v1), (2, .ref (G.1 23 0 0)), (3, .int v3), (4, .int v4)] [] M (pX8_copy_20_23_3   n v1 v3 v4 M) := by
  intro n
  induction n with
  | zero =>
    intro v1 v3 v4 M g_0 g_2
    exact r_none
  | succ n ih =>
    intro v1 v3 v4 M g_0 g_2
    rw [pX8_copy_20_23_3]
    refine r_iload (pc := 3) C 4 rfl dX8_copy_3 ?_
    refine r_sipush (pc := 5) C dX8_copy_5 ks_700 ?_
    refine r_icmp_ge (pc := 8) C dX8_copy_8 (tgt := 29) rfl ?_ ?_
    exact r_vret (pc := 29) C dX8_copy_29
    refine r_aload_n (pc := 11) C 2 rfl rfl dX8_copy_11 ?_
    refine r_iload_n (pc := 12) C 3 rfl rfl dX8_copy_12 ?_
    refine r_iload (pc := 13) C 4 rfl dX8_copy_13 ?_
    refine r_iadd (pc := 15) C dX8_copy_15 ?_
    refine r_aload_n (pc := 16) C 0 rfl rfl dX8_copy_16 ?_
    refine r_iload_n (pc := 17) C 1 rfl rfl dX8_copy_17 ?_
    refine r_iload (pc := 18) C 4 rfl dX8_copy_18 ?_
    refine r_iadd (pc := 20) C dX8_copy_20 ?_
    refine r_iald (pc := 21) C rfl g_0 (fun _ => rfl) (fun _ => rfl) dX8_copy_21 ?_
    refine r_iast (pc := 22) C rfl g_2 (fun _ => rfl) (fun _ => rfl) dX8_copy_22 (fun M1 => ?_)
    refine r_iinc (pc := 23) C [(4, .int (v4 + (1 : Int32))), (0, .ref (G.1 20 0 0)), (1, .int v1), (2, .ref (G.1 23 0 0)), (3, .int v3)] dX8_copy_23 (p := 4) rfl (ki_1 _) (by decide) rfl ?_
    refine r_goto (pc := 26) C dX8_copy_26 (tgt := 3) rfl ?_
    refine r_sub [1, 2, 3, 4, 0] rfl ?_
    exact ih v1 v3 (v4 + (1 : Int32)) M1 g_0 g_2
def pX8_copy_20_23 (v1 : Int32) (v3 : Int32) (M : Mem) : Option (Unit × Mem) :=
    pX8_copy_20_23_3   fu v1 v3 (0 : Int32) M
theorem lX8_copy_20_23_0 {K : KT} {G : WT} (C : Cx K G "PermitParkModel" cX8_copy 5 none) (hRm : K.2.2.2.1.frames = 0 ∧ K.2.2.2.1.locals = 0) (h0 : W0 G) (v1 : Int32) (v3 : Int32) (M : Mem) (h_0 : G.2.2.2.1 20 0 0) (h_2 : G.2.2.2.1 23 0 0) : Run K G 5 0 0 (FinM K G voV 0 0) 0 [(0, .ref (G.1 20 0 0)), (1, .int v1), (2, .ref (G.1 23 0 0)), (3, .int v3)] [] M (pX8_copy_20_23   v1 v3 M) := by
  rw [pX8_copy_20_23]
  refine r_iconst (pc := 0) C dX8_copy_0 kc_0 ?_
  refine r_istore (pc := 1) C [(4, .int (0 : Int32)), (0, .ref (G.1 20 0 0)), (1, .int v1), (2, .ref (G.1 23 0 0)), (3, .int v3)] dX8_copy_1 (by decide) rfl ?_
  refine r_sub [1, 2, 3, 4, 0] rfl ?_
  exact lX8_copy_20_23_3   C hRm h0  fu v1 v3 (0 : Int32) M h_0 h_2
theorem okX8_copy_20_23 {l : Launch} {G : WT} (h0 : W0 G) (v1 : Int32) (v3 : Int32) (M : Mem) (h_0 : G.2.2.2.1 20 0 0) (h_2 : G.2.2.2.1 23 0 0) : Okm l G yX8_copy cX8_copy 5 none 0 0 [.ref (G.1 20 0 0), .int v1, .ref (G.1 23 0 0), .int v3] voV M (pX8_copy_20_23  v1 v3 M) :=
  Okm.of "PermitParkModel" rfl (by decide) (Nat.le_of_ble_eq_true rfl) (L := [(0, .ref (G.1 20 0 0)), (1, .int v1), (2, .ref (G.1 23 0 0)), (3, .int v3)]) rfl (fun K _ hr C => lX8_copy_20_23_0 C (by rw [hr]; exact ⟨rfl, rfl⟩) h0 v1 v3 M h_0 h_2)
def pX8_save_15 (v1 : Int32) (s0 : Int32) (M : Mem) : Option (Unit × Mem) :=
    nm (wI M 19 0 0 7 s0) fun M1 => if ¬ (M1.1 19 0 0 7) = 0 then (some ((), M1))
    else bnd (pX8_copy_20_23 (0 : Int32) ((700 : Int32) * v1) M1) fun o5 M4 => chk (inB v1 2) <| nm (wI M4 24 0 0 v1.toNatClampNeg ((1 : Int32) &&& 1)) fun M7 => some ((), M7)
theorem lX8_save_15 {K : KT} {G : WT} (C : Cx K G "PermitParkModel" cX8_save 2 none) (hRm : K.2.2.2.1.frames = 1 ∧ K.2.2.2.1.locals = 24) (h0 : W0 G) (v1 : Int32) (s0 : Int32) (M : Mem) (g_0 : G.2.2.2.1 19 0 0) (g_s1 : G.2.2.2.1 19 0 0) : Run K G 2 0 0 (FinM K G voV 0 0) 15 [(0, .ref (G.1 19 0 0)), (1, .int v1)] [.int s0, .ref (G.1 19 0 0)] M (pX8_save_15   v1 s0 M) := by
  rw [pX8_save_15]
  refine r_putI (pc := 15) C FX8_thrown mw_1019 g_s1 tyX8 tyX8_ok nmX8 (fun _ _ => rfl) rfl dX8_save_15 (fun M1 => ?_)
  refine r_aload_n (pc := 18) C 0 rfl rfl dX8_save_18 ?_
  refine r_getI (pc := 19) C FX8_thrown mw_1019 g_s1 rfl rfl dX8_save_19 ?_
  refine r_if_ne (pc := 22) C dX8_save_22 (tgt := 49) rfl ?_ ?_
  exact r_vret (pc := 49) C dX8_save_49
  refine r_aload_n (pc := 25) C 0 rfl rfl dX8_save_25 ?_
  refine r_getR (pc := 26) C FX8_state mw_1012 g_s1 rfl dX8_save_26 (fun g2 => ?_)
  refine r_iconst (pc := 29) C dX8_save_29 kc_0 ?_
  refine r_aload_n (pc := 30) C 0 rfl rfl dX8_save_30 ?_
  refine r_getR (pc := 31) C FX8_saved mw_1015 g_s1 rfl dX8_save_31 (fun g3 => ?_)
  refine r_sipush (pc := 34) C dX8_save_34 ks_700 ?_
  refine r_iload_n (pc := 37) C 1 rfl rfl dX8_save_37 ?_
  refine r_imul (pc := 38) C dX8_save_38 ?_
  refine r_cSV (pc := 39) C hRm (okX8_copy_20_23 h0 (0 : Int32) ((700 : Int32) * v1) M1 g2 g3) mw_1099 cvX8_copy rfl ⟨Nat.le_of_ble_eq_true rfl, Nat.le_of_ble_eq_true rfl⟩ rfl (Nat.le_of_ble_eq_true rfl) dX8_save_39 (fun o5 M4 => ?_)
  refine r_aload_n (pc := 42) C 0 rfl rfl dX8_save_42 ?_
  refine r_getR (pc := 43) C FX8_isSaved mw_1016 g_s1 rfl dX8_save_43 (fun g6 => ?_)
  refine r_iload_n (pc := 46) C 1 rfl rfl dX8_save_46 ?_
  refine r_iconst (pc := 47) C dX8_save_47 kc_1 ?_
  refine r_zast (pc := 48) C rfl g6 (fun _ => rfl) (fun _ => rfl) dX8_save_48 (fun M7 => ?_)
  exact r_vret (pc := 49) C dX8_save_49
def pX8_save (v1 : Int32) (M : Mem) : Option (Unit × Mem) :=
    bnd (pX8_isBetween v1 (0 : Int32) (1 : Int32) M) fun o2 M1 => if o2 = 0 then (pX8_save_15    v1 (1 : Int32) M1)
    else pX8_save_15    v1 (0 : Int32) M1
theorem lX8_save_0 {K : KT} {G : WT} (C : Cx K G "PermitParkModel" cX8_save 2 none) (hRm : K.2.2.2.1.frames = 1 ∧ K.2.2.2.1.locals = 24) (h0 : W0 G) (v1 : Int32) (M : Mem) (h_0 : G.2.2.2.1 19 0 0) : Run K G 2 0 0 (FinM K G voV 0 0) 0 [(0, .ref (G.1 19 0 0)), (1, .int v1)] [] M (pX8_save   v1 M) := by
  rw [pX8_save]
  refine r_aload_n (pc := 0) C 0 rfl rfl dX8_save_0 ?_
  refine r_iload_n (pc := 1) C 1 rfl rfl dX8_save_1 ?_
  refine r_iconst (pc := 2) C dX8_save_2 kc_0 ?_
  refine r_iconst (pc := 3) C dX8_save_3 kc_1 ?_
  refine r_cSI (pc := 4) C hRm (okX8_isBetween h0 v1 (0 : Int32) (1 : Int32) M ) mw_1092 cvX8_isBetween rfl ⟨Nat.le_of_ble_eq_true rfl, Nat.le_of_ble_eq_true rfl⟩ rfl (Nat.le_of_ble_eq_true rfl) dX8_save_4 (fun o2 M1 => ?_)
  refine r_if_eq (pc := 7) C dX8_save_7 (tgt := 14) rfl ?_ ?_
  refine r_iconst (pc := 14) C dX8_save_14 kc_1 ?_
  exact lX8_save_15   C hRm h0   v1 (1 : Int32) M1 h_0 h_0
  refine r_iconst (pc := 10) C dX8_save_10 kc_0 ?_
  refine r_goto (pc := 11) C dX8_save_11 (tgt := 15) rfl ?_
  exact lX8_save_15   C hRm h0   v1 (0 : Int32) M1 h_0 h_0
theorem okX8_save {l : Launch} {G : WT} (h0 : W0 G) (v1 : Int32) (M : Mem) (h_0 : G.2.2.2.1 19 0 0) : Okm l G yX8_save cX8_save 2 none 1 24 [.ref (G.1 19 0 0), .int v1] voV M (pX8_save  v1 M) :=
  Okm.of "PermitParkModel" rfl (by decide) (Nat.le_of_ble_eq_true rfl) (L := [(0, .ref (G.1 19 0 0)), (1, .int v1)]) rfl (fun K _ hr C => lX8_save_0 C (by rw [hr]; exact ⟨rfl, rfl⟩) h0 v1 M h_0)
def pX8_copy_23_20_3 : Nat → Int32 → Int32 → Int32 → Mem → Option (Unit × Mem)
  | 0, _, _, _, _ => none
  | n + 1, v1, v3, v4, M =>
    if (700 : Int32) ≤ v4 then (some ((), M))
    else chk (inB (v1 + v4) 1400) <| chk (inB (v3 + v4) 700) <| nm (wI M 20 0 0 (v3 + v4).toNatClampNeg (M.1 23 0 0 (v1 + v4).toNatClampNeg)) fun M1 => pX8_copy_23_20_3   n v1 v3 (v4 + (1 : Int32)) M1
theorem lX8_copy_23_20_3 {K : KT} {G : WT} (C : Cx K G "PermitParkModel" cX8_copy 5 none) (hRm : K.2.2.2.1.frames = 0 ∧ K.2.2.2.1.locals = 0) (h0 : W0 G) : ∀ (n : Nat) (v1 : Int32) (v3 : Int32) (v4 : Int32) (M : Mem), G.2.2.2.1 23 0 0 → G.2.2.2.1 20 0 0 → Run K G 5 0 0 (FinM K G voV 0 0) 3 [(0, .ref (G.1 23 0 0)), (1, .int v1), (2, .ref (G.1 20 0 0)), (3, .int v3), (4, .int v4)] [] M (pX8_copy_23_20_3   n v1 v3 v4 M) := by
  intro n
  induction n with
  | zero =>
    intro v1 v3 v4 M g_0 g_2
    exact r_none
  | succ n ih =>
    intro v1 v3 v4 M g_0 g_2
    rw [pX8_copy_23_20_3]
    refine r_iload (pc := 3) C 4 rfl dX8_copy_3 ?_
    refine r_sipush (pc := 5) C dX8_copy_5 ks_700 ?_
    refine r_icmp_ge (pc := 8) C dX8_copy_8 (tgt := 29) rfl ?_ ?_
    exact r_vret (pc := 29) C dX8_copy_29
    refine r_aload_n (pc := 11) C 2 rfl rfl dX8_copy_11 ?_
    refine r_iload_n (pc := 12) C 3 rfl rfl dX8_copy_12 ?_
    refine r_iload (pc := 13) C 4 rfl dX8_copy_13 ?_
    refine r_iadd (pc := 15) C dX8_copy_15 ?_
    refine r_aload_n (pc := 16) C 0 rfl rfl dX8_copy_16 ?_
    refine r_iload_n (pc := 17) C 1 rfl rfl dX8_copy_17 ?_
    refine r_iload (pc := 18) C 4 rfl dX8_copy_18 ?_
    refine r_iadd (pc := 20) C dX8_copy_20 ?_
    refine r_iald (pc := 21) C rfl g_0 (fun _ => rfl) (fun _ => rfl) dX8_copy_21 ?_
    refine r_iast (pc := 22) C rfl g_2 (fun _ => rfl) (fun _ => rfl) dX8_copy_22 (fun M1 => ?_)
    refine r_iinc (pc := 23) C [(4, .int (v4 + (1 : Int32))), (0, .ref (G.1 23 0 0)), (1, .int v1), (2, .ref (G.1 20 0 0)), (3, .int v3)] dX8_copy_23 (p := 4) rfl (ki_1 _) (by decide) rfl ?_
    refine r_goto (pc := 26) C dX8_copy_26 (tgt := 3) rfl ?_
    refine r_sub [1, 2, 3, 4, 0] rfl ?_
    exact ih v1 v3 (v4 + (1 : Int32)) M1 g_0 g_2
def pX8_copy_23_20 (v1 : Int32) (v3 : Int32) (M : Mem) : Option (Unit × Mem) :=
    pX8_copy_23_20_3   fu v1 v3 (0 : Int32) M
theorem lX8_copy_23_20_0 {K : KT} {G : WT} (C : Cx K G "PermitParkModel" cX8_copy 5 none) (hRm : K.2.2.2.1.frames = 0 ∧ K.2.2.2.1.locals = 0) (h0 : W0 G) (v1 : Int32) (v3 : Int32) (M : Mem) (h_0 : G.2.2.2.1 23 0 0) (h_2 : G.2.2.2.1 20 0 0) : Run K G 5 0 0 (FinM K G voV 0 0) 0 [(0, .ref (G.1 23 0 0)), (1, .int v1), (2, .ref (G.1 20 0 0)), (3, .int v3)] [] M (pX8_copy_23_20   v1 v3 M) := by
  rw [pX8_copy_23_20]
  refine r_iconst (pc := 0) C dX8_copy_0 kc_0 ?_
  refine r_istore (pc := 1) C [(4, .int (0 : Int32)), (0, .ref (G.1 23 0 0)), (1, .int v1), (2, .ref (G.1 20 0 0)), (3, .int v3)] dX8_copy_1 (by decide) rfl ?_
  refine r_sub [1, 2, 3, 4, 0] rfl ?_
  exact lX8_copy_23_20_3   C hRm h0  fu v1 v3 (0 : Int32) M h_0 h_2
theorem okX8_copy_23_20 {l : Launch} {G : WT} (h0 : W0 G) (v1 : Int32) (v3 : Int32) (M : Mem) (h_0 : G.2.2.2.1 23 0 0) (h_2 : G.2.2.2.1 20 0 0) : Okm l G yX8_copy cX8_copy 5 none 0 0 [.ref (G.1 23 0 0), .int v1, .ref (G.1 20 0 0), .int v3] voV M (pX8_copy_23_20  v1 v3 M) :=
  Okm.of "PermitParkModel" rfl (by decide) (Nat.le_of_ble_eq_true rfl) (L := [(0, .ref (G.1 23 0 0)), (1, .int v1), (2, .ref (G.1 20 0 0)), (3, .int v3)]) rfl (fun K _ hr C => lX8_copy_23_20_0 C (by rw [hr]; exact ⟨rfl, rfl⟩) h0 v1 v3 M h_0 h_2)
def pX8_restore_28 (v1 : Int32) (s0 : Int32) (M : Mem) : Option (Unit × Mem) :=
    nm (wI M 19 0 0 7 s0) fun M1 => if ¬ (M1.1 19 0 0 7) = 0 then (some ((), M1))
    else bnd (pX8_copy_23_20 ((700 : Int32) * v1) (0 : Int32) M1) fun o5 M4 => some ((), M4)
theorem lX8_restore_28 {K : KT} {G : WT} (C : Cx K G "PermitParkModel" cX8_restore 2 none) (hRm : K.2.2.2.1.frames = 1 ∧ K.2.2.2.1.locals = 24) (h0 : W0 G) (v1 : Int32) (s0 : Int32) (M : Mem) (g_0 : G.2.2.2.1 19 0 0) (g_s1 : G.2.2.2.1 19 0 0) : Run K G 2 0 0 (FinM K G voV 0 0) 28 [(0, .ref (G.1 19 0 0)), (1, .int v1)] [.int s0, .ref (G.1 19 0 0)] M (pX8_restore_28   v1 s0 M) := by
  rw [pX8_restore_28]
  refine r_putI (pc := 28) C FX8_thrown mw_1019 g_s1 tyX8 tyX8_ok nmX8 (fun _ _ => rfl) rfl dX8_restore_28 (fun M1 => ?_)
  refine r_aload_n (pc := 31) C 0 rfl rfl dX8_restore_31 ?_
  refine r_getI (pc := 32) C FX8_thrown mw_1019 g_s1 rfl rfl dX8_restore_32 ?_
  refine r_if_ne (pc := 35) C dX8_restore_35 (tgt := 55) rfl ?_ ?_
  exact r_vret (pc := 55) C dX8_restore_55
  refine r_aload_n (pc := 38) C 0 rfl rfl dX8_restore_38 ?_
  refine r_getR (pc := 39) C FX8_saved mw_1015 g_s1 rfl dX8_restore_39 (fun g2 => ?_)
  refine r_sipush (pc := 42) C dX8_restore_42 ks_700 ?_
  refine r_iload_n (pc := 45) C 1 rfl rfl dX8_restore_45 ?_
  refine r_imul (pc := 46) C dX8_restore_46 ?_
  refine r_aload_n (pc := 47) C 0 rfl rfl dX8_restore_47 ?_
  refine r_getR (pc := 48) C FX8_state mw_1012 g_s1 rfl dX8_restore_48 (fun g3 => ?_)
  refine r_iconst (pc := 51) C dX8_restore_51 kc_0 ?_
  refine r_cSV (pc := 52) C hRm (okX8_copy_23_20 h0 ((700 : Int32) * v1) (0 : Int32) M1 g2 g3) mw_1099 cvX8_copy rfl ⟨Nat.le_of_ble_eq_true rfl, Nat.le_of_ble_eq_true rfl⟩ rfl (Nat.le_of_ble_eq_true rfl) dX8_restore_52 (fun o5 M4 => ?_)
  exact r_vret (pc := 55) C dX8_restore_55
def pX8_restore (v1 : Int32) (M : Mem) : Option (Unit × Mem) :=
    bnd (pX8_isBetween v1 (0 : Int32) (1 : Int32) M) fun o2 M1 => if ¬ o2 = 0 then (chk (inB v1 2) <| if ¬ (M1.1 24 0 0 v1.toNatClampNeg) = 0 then (pX8_restore_28    v1 (0 : Int32) M1)
    else pX8_restore_28    v1 (2 : Int32) M1)
    else pX8_restore_28    v1 (1 : Int32) M1
theorem lX8_restore_0 {K : KT} {G : WT} (C : Cx K G "PermitParkModel" cX8_restore 2 none) (hRm : K.2.2.2.1.frames = 1 ∧ K.2.2.2.1.locals = 24) (h0 : W0 G) (v1 : Int32) (M : Mem) (h_0 : G.2.2.2.1 19 0 0) : Run K G 2 0 0 (FinM K G voV 0 0) 0 [(0, .ref (G.1 19 0 0)), (1, .int v1)] [] M (pX8_restore   v1 M) := by
  rw [pX8_restore]
  refine r_aload_n (pc := 0) C 0 rfl rfl dX8_restore_0 ?_
  refine r_iload_n (pc := 1) C 1 rfl rfl dX8_restore_1 ?_
  refine r_iconst (pc := 2) C dX8_restore_2 kc_0 ?_
  refine r_iconst (pc := 3) C dX8_restore_3 kc_1 ?_
  refine r_cSI (pc := 4) C hRm (okX8_isBetween h0 v1 (0 : Int32) (1 : Int32) M ) mw_1092 cvX8_isBetween rfl ⟨Nat.le_of_ble_eq_true rfl, Nat.le_of_ble_eq_true rfl⟩ rfl (Nat.le_of_ble_eq_true rfl) dX8_restore_4 (fun o2 M1 => ?_)
  refine r_if_ne (pc := 7) C dX8_restore_7 (tgt := 14) rfl ?_ ?_
  refine r_aload_n (pc := 14) C 0 rfl rfl dX8_restore_14 ?_
  refine r_getR (pc := 15) C FX8_isSaved mw_1016 h_0 rfl dX8_restore_15 (fun g3 => ?_)
  refine r_iload_n (pc := 18) C 1 rfl rfl dX8_restore_18 ?_
  refine r_zald (pc := 19) C rfl g3 (fun _ => rfl) (fun _ => rfl) dX8_restore_19 ?_
  refine r_if_ne (pc := 20) C dX8_restore_20 (tgt := 27) rfl ?_ ?_
  refine r_iconst (pc := 27) C dX8_restore_27 kc_0 ?_
  exact lX8_restore_28   C hRm h0   v1 (0 : Int32) M1 h_0 h_0
  refine r_iconst (pc := 23) C dX8_restore_23 kc_2 ?_
  refine r_goto (pc := 24) C dX8_restore_24 (tgt := 28) rfl ?_
  exact lX8_restore_28   C hRm h0   v1 (2 : Int32) M1 h_0 h_0
  refine r_iconst (pc := 10) C dX8_restore_10 kc_1 ?_
  refine r_goto (pc := 11) C dX8_restore_11 (tgt := 28) rfl ?_
  exact lX8_restore_28   C hRm h0   v1 (1 : Int32) M1 h_0 h_0
theorem okX8_restore {l : Launch} {G : WT} (h0 : W0 G) (v1 : Int32) (M : Mem) (h_0 : G.2.2.2.1 19 0 0) : Okm l G yX8_restore cX8_restore 2 none 1 24 [.ref (G.1 19 0 0), .int v1] voV M (pX8_restore  v1 M) :=
  Okm.of "PermitParkModel" rfl (by decide) (Nat.le_of_ble_eq_true rfl) (L := [(0, .ref (G.1 19 0 0)), (1, .int v1)]) rfl (fun K _ hr C => lX8_restore_0 C (by rw [hr]; exact ⟨rfl, rfl⟩) h0 v1 M h_0)
end
