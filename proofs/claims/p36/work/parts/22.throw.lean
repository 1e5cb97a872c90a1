/-! ===== pictures: the one call that throws ===== -/
section
set_option maxRecDepth 4000
def pX7_needInRangeT_10 (M : Mem) : Option (Except Nat Unit × Mem) :=
    some (.error 2, M)
theorem lX7_needInRangeT_10 {K : KT} {G : WT} (C : Cx K G "PermitPark" cX7_needInRange 3 none) (hRm : K.2.2.2.1 = rmX 6 82 1) (Y : Cy K) (h0 : W0 G) (M : Mem) : Run K G 3 0 (6 * 0) (FinX K G voV 1 (6 * 1)) 10 [] [] M (pX7_needInRangeT_10    M) := by
  rw [pX7_needInRangeT_10]
  exact r_throw (pc := 10) (vo := voV) C Y hRm tw_2 (q := ("PermitPark", 244, "a value is out of range", 14)) (by decide +kernel) ⟨rfl, rfl⟩ dX7_needInRange_10 dX7_needInRange_13 dX7_needInRange_14 dX7_needInRange_16 dX7_needInRange_19 (Nat.le_of_ble_eq_true rfl) (Nat.le_of_ble_eq_true rfl) (Nat.le_of_ble_eq_true rfl) (Nat.le_of_ble_eq_true rfl)
def pX7_needInRangeT (v0 : Int32) (v1 : Int32) (v2 : Int32) (M : Mem) : Option (Except Nat Unit × Mem) :=
    if v0 < v1 then (pX7_needInRangeT_10    M)
    else if v0 ≤ v2 then (xok <| some ((), M))
    else pX7_needInRangeT_10    M
theorem lX7_needInRangeT_0 {K : KT} {G : WT} (C : Cx K G "PermitPark" cX7_needInRange 3 none) (hRm : K.2.2.2.1 = rmX 6 82 1) (Y : Cy K) (h0 : W0 G) (v0 : Int32) (v1 : Int32) (v2 : Int32) (M : Mem) : Run K G 3 0 (6 * 0) (FinX K G voV 1 (6 * 1)) 0 [(0, .int v0), (1, .int v1), (2, .int v2)] [] M (pX7_needInRangeT   v0 v1 v2 M) := by
  rw [pX7_needInRangeT]
  refine r_iload_n (pc := 0) C 0 rfl rfl dX7_needInRange_0 ?_
  refine r_iload_n (pc := 1) C 1 rfl rfl dX7_needInRange_1 ?_
  refine r_icmp_lt (pc := 2) C dX7_needInRange_2 (tgt := 10) rfl ?_ ?_
  refine r_sub [] rfl ?_
  exact lX7_needInRangeT_10   C hRm Y h0   M 
  refine r_iload_n (pc := 5) C 0 rfl rfl dX7_needInRange_5 ?_
  refine r_iload_n (pc := 6) C 2 rfl rfl dX7_needInRange_6 ?_
  refine r_icmp_le (pc := 7) C dX7_needInRange_7 (tgt := 20) rfl ?_ ?_
  refine r_wid (cs' := 1) (sl' := 6 * 1) (Nat.le_of_ble_eq_true rfl) (Nat.le_of_ble_eq_true rfl) (r_xok ?_)
  exact r_vret (pc := 20) C dX7_needInRange_20
  refine r_sub [] rfl ?_
  exact lX7_needInRangeT_10   C hRm Y h0   M 
theorem okX7_needInRangeT {l : Launch} {G : WT} (h0 : W0 G) (hT : l.stackTraces = false) (v0 : Int32) (v1 : Int32) (v2 : Int32) (M : Mem) : OkX l G yX7_needInRange cX7_needInRange 3 none 6 82 1 [.int v0, .int v1, .int v2] voV M (pX7_needInRangeT  v0 v1 v2 M) :=
  OkX.of "PermitPark" rfl (by decide) (Nat.le_of_ble_eq_true rfl) (L := [(0, .int v0), (1, .int v1), (2, .int v2)]) rfl hT (fun K _ hr Y C => lX7_needInRangeT_0 C hr Y h0 v0 v1 v2 M )
def pX7_runT_19 : Nat → Int32 → Int32 → Int32 → Mem → Option (Except Nat Int32 × Mem)
  | 0, _, _, _, _ => none
  | n + 1, v1, v2, v3, M =>
    if v1 ≤ v3 then (bnd (pX3_threadsIn 0 (3 : Int32) M) fun o3 M2 => xok <| some ((o3 - v2), M2))
    else bnd (pX3_tick 0 M) fun o6 M5 => pX7_runT_19   n v1 v2 (v3 + (1 : Int32)) M5
theorem lX7_runT_19 {K : KT} {G : WT} (C : Cx K G "PermitPark" cX7_run 4 (some FieldType.int)) (hRm : K.2.2.2.1 = rmX 7 139 1) (Y : Cy K) (h0 : W0 G) : ∀ (n : Nat) (v1 : Int32) (v2 : Int32) (v3 : Int32) (M : Mem), G.2.2.2.1 0 0 0 → Run K G 4 1 (6 * 1) (FinX K G voI 1 (6 * 1)) 19 [(0, .ref (G.1 0 0 0)), (1, .int v1), (2, .int v2), (3, .int v3)] [] M (pX7_runT_19   n v1 v2 v3 M) := by
  intro n
  induction n with
  | zero =>
    intro v1 v2 v3 M g_0
    exact r_none
  | succ n ih =>
    intro v1 v2 v3 M g_0
    rw [pX7_runT_19]
    refine r_iload_n (pc := 19) C 3 rfl rfl dX7_run_19 ?_
    refine r_iload_n (pc := 20) C 1 rfl rfl dX7_run_20 ?_
    refine r_icmp_ge (pc := 21) C dX7_run_21 (tgt := 38) rfl ?_ ?_
    refine r_aload_n (pc := 38) C 0 rfl rfl dX7_run_38 ?_
    refine r_getR (pc := 39) C FX7_live mw_257 g_0 rfl dX7_run_39 (fun g1 => ?_)
    refine r_iconst (pc := 42) C dX7_run_42 kc_3 ?_
    refine r_wVI (pc := 43) C (Rx.of hRm rfl rfl rfl rfl) (okX3_threadsIn h0 0 (3 : Int32) M g1) (Rc.of C rfl rfl g1) mw_684 cvX3_threadsIn rfl rfl (Nat.le_of_ble_eq_true rfl) dX7_run_43 (fun o3 M2 => ?_)
    refine r_iload_n (pc := 46) C 2 rfl rfl dX7_run_46 ?_
    refine r_isub (pc := 47) C dX7_run_47 ?_
    refine r_wid (cs' := 1) (sl' := 6 * 1) (Nat.le_of_ble_eq_true rfl) (Nat.le_of_ble_eq_true rfl) (r_xok ?_)
    exact r_iret (pc := 48) C rfl dX7_run_48
    refine r_aload_n (pc := 24) C 0 rfl rfl dX7_run_24 ?_
    refine r_getR (pc := 25) C FX7_live mw_257 g_0 rfl dX7_run_25 (fun g4 => ?_)
    refine r_wVI (pc := 28) C (Rx.of hRm rfl rfl rfl rfl) (okX3_tick h0 0 M g4) (Rc.of C rfl rfl g4) mw_511 cvX3_tick rfl rfl (Nat.le_of_ble_eq_true rfl) dX7_run_28 (fun o6 M5 => ?_)
    refine r_pop (pc := 31) C dX7_run_31 rfl ?_
    refine r_iinc (pc := 32) C [(3, .int (v3 + (1 : Int32))), (0, .ref (G.1 0 0 0)), (1, .int v1), (2, .int v2)] dX7_run_32 (p := 3) rfl (ki_1 _) (by decide) rfl ?_
    refine r_goto (pc := 35) C dX7_run_35 (tgt := 19) rfl ?_
    refine r_sub [1, 2, 3, 0] rfl ?_
    exact ih v1 v2 (v3 + (1 : Int32)) M5 g_0
def pX7_runT (v1 : Int32) (M : Mem) : Option (Except Nat Int32 × Mem) :=
    bndx (pX7_needInRangeT v1 (1 : Int32) (500 : Int32) M) fun o2 M1 => bnd (pX3_threadsIn 0 (3 : Int32) M1) fun o5 M4 => pX7_runT_19   fu v1 o5 (0 : Int32) M4
theorem lX7_runT_0 {K : KT} {G : WT} (C : Cx K G "PermitPark" cX7_run 4 (some FieldType.int)) (hRm : K.2.2.2.1 = rmX 7 139 1) (Y : Cy K) (h0 : W0 G) (v1 : Int32) (M : Mem) (h_0 : G.2.2.2.1 0 0 0) : Run K G 4 0 (6 * 0) (FinX K G voI 1 (6 * 1)) 0 [(0, .ref (G.1 0 0 0)), (1, .int v1)] [] M (pX7_runT   v1 M) := by
  rw [pX7_runT]
  refine r_iload_n (pc := 0) C 1 rfl rfl dX7_run_0 ?_
  refine r_iconst (pc := 1) C dX7_run_1 kc_1 ?_
  refine r_sipush (pc := 2) C dX7_run_2 ks_500 ?_
  refine r_xSV (pc := 5) C Y.1 (Rx.of hRm rfl rfl rfl rfl) (okX7_needInRangeT h0 Y.1.1 v1 (1 : Int32) (500 : Int32) M ) mw_315 cvX7_needInRange rfl rfl (Nat.le_of_ble_eq_true rfl) dX7_run_5 (fun o2 M1 => ?_) (fun _ _ => t_out C Y (Nat.le_of_ble_eq_true rfl) (Nat.le_of_ble_eq_true rfl))
  refine r_aload_n (pc := 8) C 0 rfl rfl dX7_run_8 ?_
  refine r_getR (pc := 9) C FX7_live mw_257 h_0 rfl dX7_run_9 (fun g3 => ?_)
  refine r_iconst (pc := 12) C dX7_run_12 kc_3 ?_
  refine r_wVI (pc := 13) C (Rx.of hRm rfl rfl rfl rfl) (okX3_threadsIn h0 0 (3 : Int32) M1 g3) (Rc.of C rfl rfl g3) mw_684 cvX3_threadsIn rfl rfl (Nat.le_of_ble_eq_true rfl) dX7_run_13 (fun o5 M4 => ?_)
  refine r_istore_n (pc := 16) C [(2, .int o5), (0, .ref (G.1 0 0 0)), (1, .int v1)] dX7_run_16 rfl (by decide) rfl ?_
  refine r_iconst (pc := 17) C dX7_run_17 kc_0 ?_
  refine r_istore_n (pc := 18) C [(3, .int (0 : Int32)), (2, .int o5), (0, .ref (G.1 0 0 0)), (1, .int v1)] dX7_run_18 rfl (by decide) rfl ?_
  refine r_sub [2, 3, 1, 0] rfl ?_
  exact lX7_runT_19   C hRm Y h0  fu v1 o5 (0 : Int32) M4 h_0
theorem okX7_runT {l : Launch} {G : WT} (h0 : W0 G) (hT : l.stackTraces = false) (v1 : Int32) (M : Mem) (h_0 : G.2.2.2.1 0 0 0) : OkX l G yX7_run cX7_run 4 (some FieldType.int) 7 139 1 [.ref (G.1 0 0 0), .int v1] voI M (pX7_runT  v1 M) :=
  OkX.of "PermitPark" rfl (by decide) (Nat.le_of_ble_eq_true rfl) (L := [(0, .ref (G.1 0 0 0)), (1, .int v1)]) rfl hT (fun K _ hr Y C => lX7_runT_0 C hr Y h0 v1 M h_0)
def pL_runT (v1 : Int32) (M : Mem) : Option (Except Nat Int32 × Mem) :=
    bndc (pX7_runT v1 M) (fun o2 M1 =>
        xok <| some (o2, M1))
     (fun e M1 => if e = 2 then (xok <| some ((-102 : Int32), M1))
    else none)
theorem lL_runT_0 {K : KT} {G : WT} (C : Cx K G "PermitParkLaw" cL_run 3 (some FieldType.int)) (hRm : K.2.2.2.1 = rmX 8 162 1) (Y : Cy0 K) (htab : K.2.2.2.2.2.2.2.2.2.exceptionTable.toList = tableOf [(0, 5, 6, 43)]) (h0 : W0 G) (v1 : Int32) (M : Mem) (h_0 : G.2.2.2.1 0 0 0) : Run K G 3 0 (6 * 0) (FinX K G voI 1 (6 * 1)) 0 [(0, .ref (G.1 0 0 0)), (1, .int v1)] [] M (pL_runT   v1 M) := by
  rw [pL_runT]
  refine r_aload_n (pc := 0) C 0 rfl rfl dL_run_0 ?_
  refine r_iload_n (pc := 1) C 1 rfl rfl dL_run_1 ?_
  refine r_xVI (pc := 2) C Y (Rx.of hRm rfl rfl rfl rfl) (okX7_runT h0 Y.1 v1 M h_0) (Rc.of C rfl rfl h_0) mw_680 cvX7_run rfl rfl (Nat.le_of_ble_eq_true rfl) dL_run_2 (fun o2 M1 => ?_) (fun e M1 => ?_)
  refine r_wid (cs' := 1) (sl' := 6 * 1) (Nat.le_of_ble_eq_true rfl) (Nat.le_of_ble_eq_true rfl) (r_xok ?_)
  exact r_iret (pc := 5) C rfl dL_run_5
  refine t_ite (fun he => ?_) (fun _ => ?_)
  refine t_catch0 C he (name := "java/lang/IllegalArgumentException") rfl (htab.trans rfl)  rfl (by decide) mw_309 (by decide +kernel) rfl (hpc := 6) (fun q3 => ?_)
  refine r_astore_n (pc := 6) C [(2, .ref q3), (0, .ref (G.1 0 0 0)), (1, .int v1)] dL_run_6 rfl (by decide) rfl ?_
  refine r_bipush (pc := 7) C dL_run_7 kb_m102 ?_
  refine r_wid (cs' := 1) (sl' := 6 * 1) (Nat.le_of_ble_eq_true rfl) (Nat.le_of_ble_eq_true rfl) (r_xok ?_)
  exact r_iret (pc := 9) C rfl dL_run_9
  exact t_none
theorem okL_runT {l : Launch} {G : WT} (h0 : W0 G) (hT : l.stackTraces = false) (v1 : Int32) (M : Mem) (h_0 : G.2.2.2.1 0 0 0) : OkH l G yL_run cL_run 3 (some FieldType.int) [(0, 5, 6, 43)] 8 162 1 [.ref (G.1 0 0 0), .int v1] voI M (pL_runT  v1 M) :=
  OkH.of "PermitParkLaw" rfl (by decide) (Nat.le_of_ble_eq_true rfl) (L := [(0, .ref (G.1 0 0 0)), (1, .int v1)]) rfl hT (fun K _ hr Y htab C => lL_runT_0 C hr Y htab h0 v1 M h_0)
end
