/-! ===== pictures: locks, log, strands ===== -/
section
set_option maxRecDepth 4000
def pX1_clear_2 (k : Nat) : Nat → Int32 → Mem → Option (Unit × Mem)
  | 0, _, _ => none
  | n + 1, v1, M =>
    if (6 : Int32) ≤ v1 then (some ((), M))
    else chk (inB v1 6) <| nm (wI M 10 k 0 v1.toNatClampNeg (-1 : Int32)) fun M2 => chk (inB v1 6) <| nm (wI M2 12 k 0 v1.toNatClampNeg (0 : Int32)) fun M4 => pX1_clear_2 k  n (v1 + (1 : Int32)) M4
theorem lX1_clear_2 {K : KT} {G : WT} {k : Nat} (C : Cx K G "PermitPark$Locks" cX1_clear 2 none) (hRm : K.2.2.2.1.frames = 0 ∧ K.2.2.2.1.locals = 0) (h0 : W0 G) : ∀ (n : Nat) (v1 : Int32) (M : Mem), G.2.2.2.1 9 k 0 → Run K G 2 0 0 (FinM K G voV 0 0) 2 [(0, .ref (G.1 9 k 0)), (1, .int v1)] [] M (pX1_clear_2 k  n v1 M) := by
  intro n
  induction n with
  | zero =>
    intro v1 M g_0
    exact r_none
  | succ n ih =>
    intro v1 M g_0
    rw [pX1_clear_2]
    refine r_iload_n (pc := 2) C 1 rfl rfl dX1_clear_2 ?_
    refine r_bipush (pc := 3) C dX1_clear_3 kb_6 ?_
    refine r_icmp_ge (pc := 5) C dX1_clear_5 (tgt := 28) rfl ?_ ?_
    exact r_vret (pc := 28) C dX1_clear_28
    refine r_aload_n (pc := 8) C 0 rfl rfl dX1_clear_8 ?_
    refine r_getR (pc := 9) C FX1_holders mw_70 g_0 rfl dX1_clear_9 (fun g1 => ?_)
    refine r_iload_n (pc := 12) C 1 rfl rfl dX1_clear_12 ?_
    refine r_iconst (pc := 13) C dX1_clear_13 kc_m1 ?_
    refine r_iast (pc := 14) C rfl g1 (fun _ => rfl) (fun _ => rfl) dX1_clear_14 (fun M2 => ?_)
    refine r_aload_n (pc := 15) C 0 rfl rfl dX1_clear_15 ?_
    refine r_getR (pc := 16) C FX1_waiting mw_74 g_0 rfl dX1_clear_16 (fun g3 => ?_)
    refine r_iload_n (pc := 19) C 1 rfl rfl dX1_clear_19 ?_
    refine r_iconst (pc := 20) C dX1_clear_20 kc_0 ?_
    refine r_iast (pc := 21) C rfl g3 (fun _ => rfl) (fun _ => rfl) dX1_clear_21 (fun M4 => ?_)
    refine r_iinc (pc := 22) C [(1, .int (v1 + (1 : Int32))), (0, .ref (G.1 9 k 0))] dX1_clear_22 (p := 1) rfl (ki_1 _) (by decide) rfl ?_
    refine r_goto (pc := 25) C dX1_clear_25 (tgt := 2) rfl ?_
    refine r_sub [1, 0] rfl ?_
    exact ih (v1 + (1 : Int32)) M4 g_0
def pX1_clear (k : Nat) (M : Mem) : Option (Unit × Mem) :=
    pX1_clear_2 k  fu (0 : Int32) M
theorem lX1_clear_0 {K : KT} {G : WT} {k : Nat} (C : Cx K G "PermitPark$Locks" cX1_clear 2 none) (hRm : K.2.2.2.1.frames = 0 ∧ K.2.2.2.1.locals = 0) (h0 : W0 G) (M : Mem) (h_0 : G.2.2.2.1 9 k 0) : Run K G 2 0 0 (FinM K G voV 0 0) 0 [(0, .ref (G.1 9 k 0))] [] M (pX1_clear k   M) := by
  rw [pX1_clear]
  refine r_iconst (pc := 0) C dX1_clear_0 kc_0 ?_
  refine r_istore_n (pc := 1) C [(1, .int (0 : Int32)), (0, .ref (G.1 9 k 0))] dX1_clear_1 rfl (by decide) rfl ?_
  refine r_sub [1, 0] rfl ?_
  exact lX1_clear_2 (k := k)  C hRm h0  fu (0 : Int32) M h_0
theorem okX1_clear {l : Launch} {G : WT} (h0 : W0 G) (k : Nat) (M : Mem) (h_0 : G.2.2.2.1 9 k 0) : Okm l G yX1_clear cX1_clear 2 none 0 0 [.ref (G.1 9 k 0)] voV M (pX1_clear k  M) :=
  Okm.of "PermitPark$Locks" rfl (by decide) (Nat.le_of_ble_eq_true rfl) (L := [(0, .ref (G.1 9 k 0))]) rfl (fun K _ hr C => lX1_clear_0 C (by rw [hr]; exact ⟨rfl, rfl⟩) h0  M h_0)
def pX1_copyFrom (k : Nat) (k1 : Nat) (M : Mem) : Option (Unit × Mem) :=
    nm (cpI M 10 k1 0 10 k 0) fun M3 => nm (cpI M3 11 k1 0 11 k 0) fun M6 => nm (cpI M6 12 k1 0 12 k 0) fun M9 => some ((), M9)
theorem lX1_copyFrom_0 {K : KT} {G : WT} {k : Nat} {k1 : Nat} (C : Cx K G "PermitPark$Locks" cX1_copyFrom 2 none) (hRm : K.2.2.2.1.frames = 1 ∧ K.2.2.2.1.locals = 100) (h0 : W0 G) (M : Mem) (h_0 : G.2.2.2.1 9 k 0) (h_1 : G.2.2.2.1 9 k1 0) : Run K G 2 0 0 (FinM K G voV 0 0) 0 [(0, .ref (G.1 9 k 0)), (1, .ref (G.1 9 k1 0))] [] M (pX1_copyFrom k k1   M) := by
  rw [pX1_copyFrom]
  refine r_aload_n (pc := 0) C 1 rfl rfl dX1_copyFrom_0 ?_
  refine r_getR (pc := 1) C FX1_holders mw_70 h_1 rfl dX1_copyFrom_1 (fun g1 => ?_)
  refine r_iconst (pc := 4) C dX1_copyFrom_4 kc_0 ?_
  refine r_aload_n (pc := 5) C 0 rfl rfl dX1_copyFrom_5 ?_
  refine r_getR (pc := 6) C FX1_holders mw_70 h_0 rfl dX1_copyFrom_6 (fun g2 => ?_)
  refine r_iconst (pc := 9) C dX1_copyFrom_9 kc_0 ?_
  refine r_bipush (pc := 10) C dX1_copyFrom_10 kb_6 ?_
  refine r_copy (pc := 12) C rfl rfl g1 g2 (fun _ => rfl) (fun _ => rfl) (fun _ => rfl) (fun _ => rfl) (by decide) (by decide) mw_504 mw_499 mw_498 mw_14 hRm ⟨Nat.le_of_ble_eq_true rfl, Nat.le_of_ble_eq_true rfl⟩ dX1_copyFrom_12 (fun M3 => ?_)
  refine r_aload_n (pc := 15) C 1 rfl rfl dX1_copyFrom_15 ?_
  refine r_getR (pc := 16) C FX1_waiters mw_73 h_1 rfl dX1_copyFrom_16 (fun g4 => ?_)
  refine r_iconst (pc := 19) C dX1_copyFrom_19 kc_0 ?_
  refine r_aload_n (pc := 20) C 0 rfl rfl dX1_copyFrom_20 ?_
  refine r_getR (pc := 21) C FX1_waiters mw_73 h_0 rfl dX1_copyFrom_21 (fun g5 => ?_)
  refine r_iconst (pc := 24) C dX1_copyFrom_24 kc_0 ?_
  refine r_bipush (pc := 25) C dX1_copyFrom_25 kb_60 ?_
  refine r_copy (pc := 27) C rfl rfl g4 g5 (fun _ => rfl) (fun _ => rfl) (fun _ => rfl) (fun _ => rfl) (by decide) (by decide) mw_504 mw_499 mw_498 mw_14 hRm ⟨Nat.le_of_ble_eq_true rfl, Nat.le_of_ble_eq_true rfl⟩ dX1_copyFrom_27 (fun M6 => ?_)
  refine r_aload_n (pc := 30) C 1 rfl rfl dX1_copyFrom_30 ?_
  refine r_getR (pc := 31) C FX1_waiting mw_74 h_1 rfl dX1_copyFrom_31 (fun g7 => ?_)
  refine r_iconst (pc := 34) C dX1_copyFrom_34 kc_0 ?_
  refine r_aload_n (pc := 35) C 0 rfl rfl dX1_copyFrom_35 ?_
  refine r_getR (pc := 36) C FX1_waiting mw_74 h_0 rfl dX1_copyFrom_36 (fun g8 => ?_)
  refine r_iconst (pc := 39) C dX1_copyFrom_39 kc_0 ?_
  refine r_bipush (pc := 40) C dX1_copyFrom_40 kb_6 ?_
  refine r_copy (pc := 42) C rfl rfl g7 g8 (fun _ => rfl) (fun _ => rfl) (fun _ => rfl) (fun _ => rfl) (by decide) (by decide) mw_504 mw_499 mw_498 mw_14 hRm ⟨Nat.le_of_ble_eq_true rfl, Nat.le_of_ble_eq_true rfl⟩ dX1_copyFrom_42 (fun M9 => ?_)
  exact r_vret (pc := 45) C dX1_copyFrom_45
theorem okX1_copyFrom {l : Launch} {G : WT} (h0 : W0 G) (k : Nat) (k1 : Nat) (M : Mem) (h_0 : G.2.2.2.1 9 k 0) (h_1 : G.2.2.2.1 9 k1 0) : Okm l G yX1_copyFrom cX1_copyFrom 2 none 1 100 [.ref (G.1 9 k 0), .ref (G.1 9 k1 0)] voV M (pX1_copyFrom k k1  M) :=
  Okm.of "PermitPark$Locks" rfl (by decide) (Nat.le_of_ble_eq_true rfl) (L := [(0, .ref (G.1 9 k 0)), (1, .ref (G.1 9 k1 0))]) rfl (fun K _ hr C => lX1_copyFrom_0 C (by rw [hr]; exact ⟨rfl, rfl⟩) h0  M h_0 h_1)
def pX1_heldOnes_4 (k : Nat) : Nat → Int32 → Int32 → Mem → Option (Int32 × Mem)
  | 0, _, _, _ => none
  | n + 1, v1, v2, M =>
    if (6 : Int32) ≤ v2 then (some (v1, M))
    else chk (inB v2 6) <| if (M.1 10 k 0 v2.toNatClampNeg) = (-1 : Int32) then (pX1_heldOnes_4 k  n v1 (v2 + (1 : Int32)) M)
    else nm (v1 ||| ((1 : Int32) <<< (v2 &&& 31))) fun x2 => pX1_heldOnes_4 k  n x2 (v2 + (1 : Int32)) M
theorem lX1_heldOnes_4 {K : KT} {G : WT} {k : Nat} (C : Cx K G "PermitPark$Locks" cX1_heldOnes 3 (some FieldType.int)) (hRm : K.2.2.2.1.frames = 0 ∧ K.2.2.2.1.locals = 0) (h0 : W0 G) : ∀ (n : Nat) (v1 : Int32) (v2 : Int32) (M : Mem), G.2.2.2.1 9 k 0 → Run K G 3 0 0 (FinM K G voI 0 0) 4 [(0, .ref (G.1 9 k 0)), (1, .int v1), (2, .int v2)] [] M (pX1_heldOnes_4 k  n v1 v2 M) := by
  intro n
  induction n with
  | zero =>
    intro v1 v2 M g_0
    exact r_none
  | succ n ih =>
    intro v1 v2 M g_0
    rw [pX1_heldOnes_4]
    refine r_iload_n (pc := 4) C 2 rfl rfl dX1_heldOnes_4 ?_
    refine r_bipush (pc := 5) C dX1_heldOnes_5 kb_6 ?_
    refine r_icmp_ge (pc := 7) C dX1_heldOnes_7 (tgt := 32) rfl ?_ ?_
    refine r_iload_n (pc := 32) C 1 rfl rfl dX1_heldOnes_32 ?_
    exact r_iret (pc := 33) C rfl dX1_heldOnes_33
    refine r_aload_n (pc := 10) C 0 rfl rfl dX1_heldOnes_10 ?_
    refine r_getR (pc := 11) C FX1_holders mw_70 g_0 rfl dX1_heldOnes_11 (fun g1 => ?_)
    refine r_iload_n (pc := 14) C 2 rfl rfl dX1_heldOnes_14 ?_
    refine r_iald (pc := 15) C rfl g1 (fun _ => rfl) (fun _ => rfl) dX1_heldOnes_15 ?_
    refine r_iconst (pc := 16) C dX1_heldOnes_16 kc_m1 ?_
    refine r_icmp_eq (pc := 17) C dX1_heldOnes_17 (tgt := 26) rfl ?_ ?_
    refine r_iinc (pc := 26) C [(2, .int (v2 + (1 : Int32))), (0, .ref (G.1 9 k 0)), (1, .int v1)] dX1_heldOnes_26 (p := 2) rfl (ki_1 _) (by decide) rfl ?_
    refine r_goto (pc := 29) C dX1_heldOnes_29 (tgt := 4) rfl ?_
    refine r_sub [1, 2, 0] rfl ?_
    exact ih v1 (v2 + (1 : Int32)) M g_0
    refine r_iload_n (pc := 20) C 1 rfl rfl dX1_heldOnes_20 ?_
    refine r_iconst (pc := 21) C dX1_heldOnes_21 kc_1 ?_
    refine r_iload_n (pc := 22) C 2 rfl rfl dX1_heldOnes_22 ?_
    refine r_ishl (pc := 23) C dX1_heldOnes_23 ?_
    refine r_ior (pc := 24) C dX1_heldOnes_24 ?_
    refine r_nmi (fun x2 => ?_)
    refine r_istore_n (pc := 25) C [(1, .int x2), (0, .ref (G.1 9 k 0)), (2, .int v2)] dX1_heldOnes_25 rfl (by decide) rfl ?_
    refine r_iinc (pc := 26) C [(2, .int (v2 + (1 : Int32))), (1, .int x2), (0, .ref (G.1 9 k 0))] dX1_heldOnes_26 (p := 2) rfl (ki_1 _) (by decide) rfl ?_
    refine r_goto (pc := 29) C dX1_heldOnes_29 (tgt := 4) rfl ?_
    refine r_sub [2, 1, 0] rfl ?_
    exact ih x2 (v2 + (1 : Int32)) M g_0
def pX1_heldOnes (k : Nat) (M : Mem) : Option (Int32 × Mem) :=
    pX1_heldOnes_4 k  fu (0 : Int32) (0 : Int32) M
theorem lX1_heldOnes_0 {K : KT} {G : WT} {k : Nat} (C : Cx K G "PermitPark$Locks" cX1_heldOnes 3 (some FieldType.int)) (hRm : K.2.2.2.1.frames = 0 ∧ K.2.2.2.1.locals = 0) (h0 : W0 G) (M : Mem) (h_0 : G.2.2.2.1 9 k 0) : Run K G 3 0 0 (FinM K G voI 0 0) 0 [(0, .ref (G.1 9 k 0))] [] M (pX1_heldOnes k   M) := by
  rw [pX1_heldOnes]
  refine r_iconst (pc := 0) C dX1_heldOnes_0 kc_0 ?_
  refine r_istore_n (pc := 1) C [(1, .int (0 : Int32)), (0, .ref (G.1 9 k 0))] dX1_heldOnes_1 rfl (by decide) rfl ?_
  refine r_iconst (pc := 2) C dX1_heldOnes_2 kc_0 ?_
  refine r_istore_n (pc := 3) C [(2, .int (0 : Int32)), (1, .int (0 : Int32)), (0, .ref (G.1 9 k 0))] dX1_heldOnes_3 rfl (by decide) rfl ?_
  refine r_sub [2, 1, 0] rfl ?_
  exact lX1_heldOnes_4 (k := k)  C hRm h0  fu (0 : Int32) (0 : Int32) M h_0
theorem okX1_heldOnes {l : Launch} {G : WT} (h0 : W0 G) (k : Nat) (M : Mem) (h_0 : G.2.2.2.1 9 k 0) : Okm l G yX1_heldOnes cX1_heldOnes 3 (some FieldType.int) 0 0 [.ref (G.1 9 k 0)] voI M (pX1_heldOnes k  M) :=
  Okm.of "PermitPark$Locks" rfl (by decide) (Nat.le_of_ble_eq_true rfl) (L := [(0, .ref (G.1 9 k 0))]) rfl (fun K _ hr C => lX1_heldOnes_0 C (by rw [hr]; exact ⟨rfl, rfl⟩) h0  M h_0)
def pX1_heldBy_4 (k : Nat) : Nat → Int32 → Int32 → Int32 → Mem → Option (Int32 × Mem)
  | 0, _, _, _, _ => none
  | n + 1, v1, v2, v3, M =>
    if (6 : Int32) ≤ v3 then (some (v2, M))
    else chk (inB v3 6) <| if ¬ (M.1 10 k 0 v3.toNatClampNeg) = v1 then (pX1_heldBy_4 k  n v1 v2 (v3 + (1 : Int32)) M)
    else nm (v2 ||| ((1 : Int32) <<< (v3 &&& 31))) fun x2 => pX1_heldBy_4 k  n v1 x2 (v3 + (1 : Int32)) M
theorem lX1_heldBy_4 {K : KT} {G : WT} {k : Nat} (C : Cx K G "PermitPark$Locks" cX1_heldBy 4 (some FieldType.int)) (hRm : K.2.2.2.1.frames = 0 ∧ K.2.2.2.1.locals = 0) (h0 : W0 G) : ∀ (n : Nat) (v1 : Int32) (v2 : Int32) (v3 : Int32) (M : Mem), G.2.2.2.1 9 k 0 → Run K G 4 0 0 (FinM K G voI 0 0) 4 [(0, .ref (G.1 9 k 0)), (1, .int v1), (2, .int v2), (3, .int v3)] [] M (pX1_heldBy_4 k  n v1 v2 v3 M) := by
  intro n
  induction n with
  | zero =>
    intro v1 v2 v3 M g_0
    exact r_none
  | succ n ih =>
    intro v1 v2 v3 M g_0
    rw [pX1_heldBy_4]
    refine r_iload_n (pc := 4) C 3 rfl rfl dX1_heldBy_4 ?_
    refine r_bipush (pc := 5) C dX1_heldBy_5 kb_6 ?_
    refine r_icmp_ge (pc := 7) C dX1_heldBy_7 (tgt := 32) rfl ?_ ?_
    refine r_iload_n (pc := 32) C 2 rfl rfl dX1_heldBy_32 ?_
    exact r_iret (pc := 33) C rfl dX1_heldBy_33
    refine r_aload_n (pc := 10) C 0 rfl rfl dX1_heldBy_10 ?_
    refine r_getR (pc := 11) C FX1_holders mw_70 g_0 rfl dX1_heldBy_11 (fun g1 => ?_)
    refine r_iload_n (pc := 14) C 3 rfl rfl dX1_heldBy_14 ?_
    refine r_iald (pc := 15) C rfl g1 (fun _ => rfl) (fun _ => rfl) dX1_heldBy_15 ?_
    refine r_iload_n (pc := 16) C 1 rfl rfl dX1_heldBy_16 ?_
    refine r_icmp_ne (pc := 17) C dX1_heldBy_17 (tgt := 26) rfl ?_ ?_
    refine r_iinc (pc := 26) C [(3, .int (v3 + (1 : Int32))), (0, .ref (G.1 9 k 0)), (1, .int v1), (2, .int v2)] dX1_heldBy_26 (p := 3) rfl (ki_1 _) (by decide) rfl ?_
    refine r_goto (pc := 29) C dX1_heldBy_29 (tgt := 4) rfl ?_
    refine r_sub [1, 2, 3, 0] rfl ?_
    exact ih v1 v2 (v3 + (1 : Int32)) M g_0
    refine r_iload_n (pc := 20) C 2 rfl rfl dX1_heldBy_20 ?_
    refine r_iconst (pc := 21) C dX1_heldBy_21 kc_1 ?_
    refine r_iload_n (pc := 22) C 3 rfl rfl dX1_heldBy_22 ?_
    refine r_ishl (pc := 23) C dX1_heldBy_23 ?_
    refine r_ior (pc := 24) C dX1_heldBy_24 ?_
    refine r_nmi (fun x2 => ?_)
    refine r_istore_n (pc := 25) C [(2, .int x2), (0, .ref (G.1 9 k 0)), (1, .int v1), (3, .int v3)] dX1_heldBy_25 rfl (by decide) rfl ?_
    refine r_iinc (pc := 26) C [(3, .int (v3 + (1 : Int32))), (2, .int x2), (0, .ref (G.1 9 k 0)), (1, .int v1)] dX1_heldBy_26 (p := 3) rfl (ki_1 _) (by decide) rfl ?_
    refine r_goto (pc := 29) C dX1_heldBy_29 (tgt := 4) rfl ?_
    refine r_sub [2, 3, 1, 0] rfl ?_
    exact ih v1 x2 (v3 + (1 : Int32)) M g_0
def pX1_heldBy (k : Nat) (v1 : Int32) (M : Mem) : Option (Int32 × Mem) :=
    pX1_heldBy_4 k  fu v1 (0 : Int32) (0 : Int32) M
theorem lX1_heldBy_0 {K : KT} {G : WT} {k : Nat} (C : Cx K G "PermitPark$Locks" cX1_heldBy 4 (some FieldType.int)) (hRm : K.2.2.2.1.frames = 0 ∧ K.2.2.2.1.locals = 0) (h0 : W0 G) (v1 : Int32) (M : Mem) (h_0 : G.2.2.2.1 9 k 0) : Run K G 4 0 0 (FinM K G voI 0 0) 0 [(0, .ref (G.1 9 k 0)), (1, .int v1)] [] M (pX1_heldBy k  v1 M) := by
  rw [pX1_heldBy]
  refine r_iconst (pc := 0) C dX1_heldBy_0 kc_0 ?_
  refine r_istore_n (pc := 1) C [(2, .int (0 : Int32)), (0, .ref (G.1 9 k 0)), (1, .int v1)] dX1_heldBy_1 rfl (by decide) rfl ?_
  refine r_iconst (pc := 2) C dX1_heldBy_2 kc_0 ?_
  refine r_istore_n (pc := 3) C [(3, .int (0 : Int32)), (2, .int (0 : Int32)), (0, .ref (G.1 9 k 0)), (1, .int v1)] dX1_heldBy_3 rfl (by decide) rfl ?_
  refine r_sub [2, 3, 1, 0] rfl ?_
  exact lX1_heldBy_4 (k := k)  C hRm h0  fu v1 (0 : Int32) (0 : Int32) M h_0
theorem okX1_heldBy {l : Launch} {G : WT} (h0 : W0 G) (k : Nat) (v1 : Int32) (M : Mem) (h_0 : G.2.2.2.1 9 k 0) : Okm l G yX1_heldBy cX1_heldBy 4 (some FieldType.int) 0 0 [.ref (G.1 9 k 0), .int v1] voI M (pX1_heldBy k v1 M) :=
  Okm.of "PermitPark$Locks" rfl (by decide) (Nat.le_of_ble_eq_true rfl) (L := [(0, .ref (G.1 9 k 0)), (1, .int v1)]) rfl (fun K _ hr C => lX1_heldBy_0 C (by rw [hr]; exact ⟨rfl, rfl⟩) h0 v1 M h_0)
def pX1_lowestHeldBy_2 (k : Nat) : Nat → Int32 → Int32 → Mem → Option (Int32 × Mem)
  | 0, _, _, _ => none
  | n + 1, v1, v2, M =>
    if (6 : Int32) ≤ v2 then (some ((-1 : Int32), M))
    else chk (inB v2 6) <| if ¬ (M.1 10 k 0 v2.toNatClampNeg) = v1 then (pX1_lowestHeldBy_2 k  n v1 (v2 + (1 : Int32)) M)
    else some (v2, M)
theorem lX1_lowestHeldBy_2 {K : KT} {G : WT} {k : Nat} (C : Cx K G "PermitPark$Locks" cX1_lowestHeldBy 3 (some FieldType.int)) (hRm : K.2.2.2.1.frames = 0 ∧ K.2.2.2.1.locals = 0) (h0 : W0 G) : ∀ (n : Nat) (v1 : Int32) (v2 : Int32) (M : Mem), G.2.2.2.1 9 k 0 → Run K G 3 0 0 (FinM K G voI 0 0) 2 [(0, .ref (G.1 9 k 0)), (1, .int v1), (2, .int v2)] [] M (pX1_lowestHeldBy_2 k  n v1 v2 M) := by
  intro n
  induction n with
  | zero =>
    intro v1 v2 M g_0
    exact r_none
  | succ n ih =>
    intro v1 v2 M g_0
    rw [pX1_lowestHeldBy_2]
    refine r_iload_n (pc := 2) C 2 rfl rfl dX1_lowestHeldBy_2 ?_
    refine r_bipush (pc := 3) C dX1_lowestHeldBy_3 kb_6 ?_
    refine r_icmp_ge (pc := 5) C dX1_lowestHeldBy_5 (tgt := 26) rfl ?_ ?_
    refine r_iconst (pc := 26) C dX1_lowestHeldBy_26 kc_m1 ?_
    exact r_iret (pc := 27) C rfl dX1_lowestHeldBy_27
    refine r_aload_n (pc := 8) C 0 rfl rfl dX1_lowestHeldBy_8 ?_
    refine r_getR (pc := 9) C FX1_holders mw_70 g_0 rfl dX1_lowestHeldBy_9 (fun g1 => ?_)
    refine r_iload_n (pc := 12) C 2 rfl rfl dX1_lowestHeldBy_12 ?_
    refine r_iald (pc := 13) C rfl g1 (fun _ => rfl) (fun _ => rfl) dX1_lowestHeldBy_13 ?_
    refine r_iload_n (pc := 14) C 1 rfl rfl dX1_lowestHeldBy_14 ?_
    refine r_icmp_ne (pc := 15) C dX1_lowestHeldBy_15 (tgt := 20) rfl ?_ ?_
    refine r_iinc (pc := 20) C [(2, .int (v2 + (1 : Int32))), (0, .ref (G.1 9 k 0)), (1, .int v1)] dX1_lowestHeldBy_20 (p := 2) rfl (ki_1 _) (by decide) rfl ?_
    refine r_goto (pc := 23) C dX1_lowestHeldBy_23 (tgt := 2) rfl ?_
    refine r_sub [1, 2, 0] rfl ?_
    exact ih v1 (v2 + (1 : Int32)) M g_0
    refine r_iload_n (pc := 18) C 2 rfl rfl dX1_lowestHeldBy_18 ?_
    exact r_iret (pc := 19) C rfl dX1_lowestHeldBy_19
def pX1_lowestHeldBy (k : Nat) (v1 : Int32) (M : Mem) : Option (Int32 × Mem) :=
    pX1_lowestHeldBy_2 k  fu v1 (0 : Int32) M
theorem lX1_lowestHeldBy_0 {K : KT} {G : WT} {k : Nat} (C : Cx K G "PermitPark$Locks" cX1_lowestHeldBy 3 (some FieldType.int)) (hRm : K.2.2.2.1.frames = 0 ∧ K.2.2.2.1.locals = 0) (h0 : W0 G) (v1 : Int32) (M : Mem) (h_0 : G.2.2.2.1 9 k 0) : Run K G 3 0 0 (FinM K G voI 0 0) 0 [(0, .ref (G.1 9 k 0)), (1, .int v1)] [] M (pX1_lowestHeldBy k  v1 M) := by
  rw [pX1_lowestHeldBy]
  refine r_iconst (pc := 0) C dX1_lowestHeldBy_0 kc_0 ?_
  refine r_istore_n (pc := 1) C [(2, .int (0 : Int32)), (0, .ref (G.1 9 k 0)), (1, .int v1)] dX1_lowestHeldBy_1 rfl (by decide) rfl ?_
  refine r_sub [1, 2, 0] rfl ?_
  exact lX1_lowestHeldBy_2 (k := k)  C hRm h0  fu v1 (0 : Int32) M h_0
theorem okX1_lowestHeldBy {l : Launch} {G : WT} (h0 : W0 G) (k : Nat) (v1 : Int32) (M : Mem) (h_0 : G.2.2.2.1 9 k 0) : Okm l G yX1_lowestHeldBy cX1_lowestHeldBy 3 (some FieldType.int) 0 0 [.ref (G.1 9 k 0), .int v1] voI M (pX1_lowestHeldBy k v1 M) :=
  Okm.of "PermitPark$Locks" rfl (by decide) (Nat.le_of_ble_eq_true rfl) (L := [(0, .ref (G.1 9 k 0)), (1, .int v1)]) rfl (fun K _ hr C => lX1_lowestHeldBy_0 C (by rw [hr]; exact ⟨rfl, rfl⟩) h0 v1 M h_0)
def pX1_waiter (k : Nat) (v1 : Int32) (v2 : Int32) (M : Mem) : Option (Int32 × Mem) :=
    chk (inB v1 6) <| if (M.1 12 k 0 v1.toNatClampNeg) ≤ v2 then (some ((-1 : Int32), M))
    else chk (inB ((v1 * (10 : Int32)) + v2) 60) <| some ((M.1 11 k 0 ((v1 * (10 : Int32)) + v2).toNatClampNeg), M)
theorem lX1_waiter_0 {K : KT} {G : WT} {k : Nat} (C : Cx K G "PermitPark$Locks" cX1_waiter 3 (some FieldType.int)) (hRm : K.2.2.2.1.frames = 0 ∧ K.2.2.2.1.locals = 0) (h0 : W0 G) (v1 : Int32) (v2 : Int32) (M : Mem) (h_0 : G.2.2.2.1 9 k 0) : Run K G 3 0 0 (FinM K G voI 0 0) 0 [(0, .ref (G.1 9 k 0)), (1, .int v1), (2, .int v2)] [] M (pX1_waiter k  v1 v2 M) := by
  rw [pX1_waiter]
  refine r_iload_n (pc := 0) C 2 rfl rfl dX1_waiter_0 ?_
  refine r_aload_n (pc := 1) C 0 rfl rfl dX1_waiter_1 ?_
  refine r_getR (pc := 2) C FX1_waiting mw_74 h_0 rfl dX1_waiter_2 (fun g1 => ?_)
  refine r_iload_n (pc := 5) C 1 rfl rfl dX1_waiter_5 ?_
  refine r_iald (pc := 6) C rfl g1 (fun _ => rfl) (fun _ => rfl) dX1_waiter_6 ?_
  refine r_icmp_ge (pc := 7) C dX1_waiter_7 (tgt := 24) rfl ?_ ?_
  refine r_iconst (pc := 24) C dX1_waiter_24 kc_m1 ?_
  exact r_iret (pc := 25) C rfl dX1_waiter_25
  refine r_aload_n (pc := 10) C 0 rfl rfl dX1_waiter_10 ?_
  refine r_getR (pc := 11) C FX1_waiters mw_73 h_0 rfl dX1_waiter_11 (fun g2 => ?_)
  refine r_iload_n (pc := 14) C 1 rfl rfl dX1_waiter_14 ?_
  refine r_bipush (pc := 15) C dX1_waiter_15 kb_10 ?_
  refine r_imul (pc := 17) C dX1_waiter_17 ?_
  refine r_iload_n (pc := 18) C 2 rfl rfl dX1_waiter_18 ?_
  refine r_iadd (pc := 19) C dX1_waiter_19 ?_
  refine r_iald (pc := 20) C rfl g2 (fun _ => rfl) (fun _ => rfl) dX1_waiter_20 ?_
  refine r_goto (pc := 21) C dX1_waiter_21 (tgt := 25) rfl ?_
  exact r_iret (pc := 25) C rfl dX1_waiter_25
theorem okX1_waiter {l : Launch} {G : WT} (h0 : W0 G) (k : Nat) (v1 : Int32) (v2 : Int32) (M : Mem) (h_0 : G.2.2.2.1 9 k 0) : Okm l G yX1_waiter cX1_waiter 3 (some FieldType.int) 0 0 [.ref (G.1 9 k 0), .int v1, .int v2] voI M (pX1_waiter k v1 v2 M) :=
  Okm.of "PermitPark$Locks" rfl (by decide) (Nat.le_of_ble_eq_true rfl) (L := [(0, .ref (G.1 9 k 0)), (1, .int v1), (2, .int v2)]) rfl (fun K _ hr C => lX1_waiter_0 C (by rw [hr]; exact ⟨rfl, rfl⟩) h0 v1 v2 M h_0)
def pX1_addWaiter (k : Nat) (v1 : Int32) (v2 : Int32) (M : Mem) : Option (Unit × Mem) :=
    chk (inB v1 6) <| if (10 : Int32) ≤ (M.1 12 k 0 v1.toNatClampNeg) then (some ((), M))
    else chk (inB v1 6) <| chk (inB ((v1 * (10 : Int32)) + (M.1 12 k 0 v1.toNatClampNeg)) 60) <| nm (wI M 11 k 0 ((v1 * (10 : Int32)) + (M.1 12 k 0 v1.toNatClampNeg)).toNatClampNeg v2) fun M4 => chk (inB v1 6) <| chk (inB v1 6) <| nm (wI M4 12 k 0 v1.toNatClampNeg ((M4.1 12 k 0 v1.toNatClampNeg) + (1 : Int32))) fun M6 => some ((), M6)
theorem lX1_addWaiter_0 {K : KT} {G : WT} {k : Nat} (C : Cx K G "PermitPark$Locks" cX1_addWaiter 3 none) (hRm : K.2.2.2.1.frames = 0 ∧ K.2.2.2.1.locals = 0) (h0 : W0 G) (v1 : Int32) (v2 : Int32) (M : Mem) (h_0 : G.2.2.2.1 9 k 0) : Run K G 3 0 0 (FinM K G voV 0 0) 0 [(0, .ref (G.1 9 k 0)), (1, .int v1), (2, .int v2)] [] M (pX1_addWaiter k  v1 v2 M) := by
  rw [pX1_addWaiter]
  refine r_aload_n (pc := 0) C 0 rfl rfl dX1_addWaiter_0 ?_
  refine r_getR (pc := 1) C FX1_waiting mw_74 h_0 rfl dX1_addWaiter_1 (fun g1 => ?_)
  refine r_iload_n (pc := 4) C 1 rfl rfl dX1_addWaiter_4 ?_
  refine r_iald (pc := 5) C rfl g1 (fun _ => rfl) (fun _ => rfl) dX1_addWaiter_5 ?_
  refine r_bipush (pc := 6) C dX1_addWaiter_6 kb_10 ?_
  refine r_icmp_ge (pc := 8) C dX1_addWaiter_8 (tgt := 38) rfl ?_ ?_
  exact r_vret (pc := 38) C dX1_addWaiter_38
  refine r_aload_n (pc := 11) C 0 rfl rfl dX1_addWaiter_11 ?_
  refine r_getR (pc := 12) C FX1_waiters mw_73 h_0 rfl dX1_addWaiter_12 (fun g2 => ?_)
  refine r_iload_n (pc := 15) C 1 rfl rfl dX1_addWaiter_15 ?_
  refine r_bipush (pc := 16) C dX1_addWaiter_16 kb_10 ?_
  refine r_imul (pc := 18) C dX1_addWaiter_18 ?_
  refine r_aload_n (pc := 19) C 0 rfl rfl dX1_addWaiter_19 ?_
  refine r_getR (pc := 20) C FX1_waiting mw_74 h_0 rfl dX1_addWaiter_20 (fun g3 => ?_)
  refine r_iload_n (pc := 23) C 1 rfl rfl dX1_addWaiter_23 ?_
  refine r_iald (pc := 24) C rfl g1 (fun _ => rfl) (fun _ => rfl) dX1_addWaiter_24 ?_
  refine r_iadd (pc := 25) C dX1_addWaiter_25 ?_
  refine r_iload_n (pc := 26) C 2 rfl rfl dX1_addWaiter_26 ?_
  refine r_iast (pc := 27) C rfl g2 (fun _ => rfl) (fun _ => rfl) dX1_addWaiter_27 (fun M4 => ?_)
  refine r_aload_n (pc := 28) C 0 rfl rfl dX1_addWaiter_28 ?_
  refine r_getR (pc := 29) C FX1_waiting mw_74 h_0 rfl dX1_addWaiter_29 (fun g5 => ?_)
  refine r_iload_n (pc := 32) C 1 rfl rfl dX1_addWaiter_32 ?_
  refine r_dup2_11 (pc := 33) C dX1_addWaiter_33 rfl rfl ?_
  refine r_iald (pc := 34) C rfl g1 (fun _ => rfl) (fun _ => rfl) dX1_addWaiter_34 ?_
  refine r_iconst (pc := 35) C dX1_addWaiter_35 kc_1 ?_
  refine r_iadd (pc := 36) C dX1_addWaiter_36 ?_
  refine r_iast (pc := 37) C rfl g1 (fun _ => rfl) (fun _ => rfl) dX1_addWaiter_37 (fun M6 => ?_)
  exact r_vret (pc := 38) C dX1_addWaiter_38
theorem okX1_addWaiter {l : Launch} {G : WT} (h0 : W0 G) (k : Nat) (v1 : Int32) (v2 : Int32) (M : Mem) (h_0 : G.2.2.2.1 9 k 0) : Okm l G yX1_addWaiter cX1_addWaiter 3 none 0 0 [.ref (G.1 9 k 0), .int v1, .int v2] voV M (pX1_addWaiter k v1 v2 M) :=
  Okm.of "PermitPark$Locks" rfl (by decide) (Nat.le_of_ble_eq_true rfl) (L := [(0, .ref (G.1 9 k 0)), (1, .int v1), (2, .int v2)]) rfl (fun K _ hr C => lX1_addWaiter_0 C (by rw [hr]; exact ⟨rfl, rfl⟩) h0 v1 v2 M h_0)
def pX1_removeWaiter_11 (k : Nat) : Nat → Int32 → Int32 → Int32 → Int32 → Int32 → Mem → Option (Unit × Mem)
  | 0, _, _, _, _, _, _ => none
  | n + 1, v1, v2, v3, v4, v5, M =>
    chk (inB v1 6) <| if (M.1 12 k 0 v1.toNatClampNeg) ≤ v5 then (chk (inB v1 6) <| nm (wI M 12 k 0 v1.toNatClampNeg v4) fun M3 => some ((), M3))
    else chk (inB (v3 + v5) 60) <| nm (M.1 11 k 0 (v3 + v5).toNatClampNeg) fun x5 => if x5 = v2 then (pX1_removeWaiter_11 k  n v1 v2 v3 v4 (v5 + (1 : Int32)) M)
    else chk (inB (v3 + v4) 60) <| nm (wI M 11 k 0 (v3 + v4).toNatClampNeg x5) fun M7 => pX1_removeWaiter_11 k  n v1 v2 v3 (v4 + (1 : Int32)) (v5 + (1 : Int32)) M7
theorem lX1_removeWaiter_11 {K : KT} {G : WT} {k : Nat} (C : Cx K G "PermitPark$Locks" cX1_removeWaiter 7 none) (hRm : K.2.2.2.1.frames = 0 ∧ K.2.2.2.1.locals = 0) (h0 : W0 G) : ∀ (n : Nat) (v1 : Int32) (v2 : Int32) (v3 : Int32) (v4 : Int32) (v5 : Int32) (M : Mem), G.2.2.2.1 9 k 0 → Run K G 7 0 0 (FinM K G voV 0 0) 11 [(0, .ref (G.1 9 k 0)), (1, .int v1), (2, .int v2), (3, .int v3), (4, .int v4), (5, .int v5)] [] M (pX1_removeWaiter_11 k  n v1 v2 v3 v4 v5 M) := by
  intro n
  induction n with
  | zero =>
    intro v1 v2 v3 v4 v5 M g_0
    exact r_none
  | succ n ih =>
    intro v1 v2 v3 v4 v5 M g_0
    rw [pX1_removeWaiter_11]
    refine r_iload (pc := 11) C 5 rfl dX1_removeWaiter_11 ?_
    refine r_aload_n (pc := 13) C 0 rfl rfl dX1_removeWaiter_13 ?_
    refine r_getR (pc := 14) C FX1_waiting mw_74 g_0 rfl dX1_removeWaiter_14 (fun g1 => ?_)
    refine r_iload_n (pc := 17) C 1 rfl rfl dX1_removeWaiter_17 ?_
    refine r_iald (pc := 18) C rfl g1 (fun _ => rfl) (fun _ => rfl) dX1_removeWaiter_18 ?_
    refine r_icmp_ge (pc := 19) C dX1_removeWaiter_19 (tgt := 59) rfl ?_ ?_
    refine r_aload_n (pc := 59) C 0 rfl rfl dX1_removeWaiter_59 ?_
    refine r_getR (pc := 60) C FX1_waiting mw_74 g_0 rfl dX1_removeWaiter_60 (fun g2 => ?_)
    refine r_iload_n (pc := 63) C 1 rfl rfl dX1_removeWaiter_63 ?_
    refine r_iload (pc := 64) C 4 rfl dX1_removeWaiter_64 ?_
    refine r_iast (pc := 66) C rfl g1 (fun _ => rfl) (fun _ => rfl) dX1_removeWaiter_66 (fun M3 => ?_)
    exact r_vret (pc := 67) C dX1_removeWaiter_67
    refine r_aload_n (pc := 22) C 0 rfl rfl dX1_removeWaiter_22 ?_
    refine r_getR (pc := 23) C FX1_waiters mw_73 g_0 rfl dX1_removeWaiter_23 (fun g4 => ?_)
    refine r_iload_n (pc := 26) C 3 rfl rfl dX1_removeWaiter_26 ?_
    refine r_iload (pc := 27) C 5 rfl dX1_removeWaiter_27 ?_
    refine r_iadd (pc := 29) C dX1_removeWaiter_29 ?_
    refine r_iald (pc := 30) C rfl g4 (fun _ => rfl) (fun _ => rfl) dX1_removeWaiter_30 ?_
    refine r_nmi (fun x5 => ?_)
    refine r_istore (pc := 31) C [(6, .int x5), (0, .ref (G.1 9 k 0)), (1, .int v1), (2, .int v2), (3, .int v3), (4, .int v4), (5, .int v5)] dX1_removeWaiter_31 (by decide) rfl ?_
    refine r_iload (pc := 33) C 0 rfl dX1_removeWaiter_33 ?_
    refine r_iload_n (pc := 35) C 3 rfl rfl dX1_removeWaiter_35 ?_
    refine r_icmp_eq (pc := 36) C dX1_removeWaiter_36 (tgt := 53) rfl ?_ ?_
    refine r_iinc (pc := 53) C [(5, .int (v5 + (1 : Int32))), (6, .int x5), (0, .ref (G.1 9 k 0)), (1, .int v1), (2, .int v2), (3, .int v3), (4, .int v4)] dX1_removeWaiter_53 (p := 6) rfl (ki_1 _) (by decide) rfl ?_
    refine r_goto (pc := 56) C dX1_removeWaiter_56 (tgt := 11) rfl ?_
    refine r_sub [2, 3, 4, 5, 6, 0] rfl ?_
    exact ih v1 v2 v3 v4 (v5 + (1 : Int32)) M g_0
    refine r_aload_n (pc := 39) C 1 rfl rfl dX1_removeWaiter_39 ?_
    refine r_getR (pc := 40) C FX1_waiters mw_73 g_0 rfl dX1_removeWaiter_40 (fun g6 => ?_)
    refine r_iload_n (pc := 43) C 4 rfl rfl dX1_removeWaiter_43 ?_
    refine r_iload (pc := 44) C 5 rfl dX1_removeWaiter_44 ?_
    refine r_iadd (pc := 46) C dX1_removeWaiter_46 ?_
    refine r_iload (pc := 47) C 0 rfl dX1_removeWaiter_47 ?_
    refine r_iast (pc := 49) C rfl g4 (fun _ => rfl) (fun _ => rfl) dX1_removeWaiter_49 (fun M7 => ?_)
    refine r_iinc (pc := 50) C [(4, .int (v4 + (1 : Int32))), (6, .int x5), (0, .ref (G.1 9 k 0)), (1, .int v1), (2, .int v2), (3, .int v3), (5, .int v5)] dX1_removeWaiter_50 (p := 5) rfl (ki_1 _) (by decide) rfl ?_
    refine r_iinc (pc := 53) C [(5, .int (v5 + (1 : Int32))), (4, .int (v4 + (1 : Int32))), (6, .int x5), (0, .ref (G.1 9 k 0)), (1, .int v1), (2, .int v2), (3, .int v3)] dX1_removeWaiter_53 (p := 6) rfl (ki_1 _) (by decide) rfl ?_
    refine r_goto (pc := 56) C dX1_removeWaiter_56 (tgt := 11) rfl ?_
    refine r_sub [3, 4, 5, 6, 1, 0] rfl ?_
    exact ih v1 v2 v3 (v4 + (1 : Int32)) (v5 + (1 : Int32)) M7 g_0
def pX1_removeWaiter (k : Nat) (v1 : Int32) (v2 : Int32) (M : Mem) : Option (Unit × Mem) :=
    nm (v1 * (10 : Int32)) fun x1 => pX1_removeWaiter_11 k  fu v1 v2 x1 (0 : Int32) (0 : Int32) M
theorem lX1_removeWaiter_0 {K : KT} {G : WT} {k : Nat} (C : Cx K G "PermitPark$Locks" cX1_removeWaiter 7 none) (hRm : K.2.2.2.1.frames = 0 ∧ K.2.2.2.1.locals = 0) (h0 : W0 G) (v1 : Int32) (v2 : Int32) (M : Mem) (h_0 : G.2.2.2.1 9 k 0) : Run K G 7 0 0 (FinM K G voV 0 0) 0 [(0, .ref (G.1 9 k 0)), (1, .int v1), (2, .int v2)] [] M (pX1_removeWaiter k  v1 v2 M) := by
  rw [pX1_removeWaiter]
  refine r_iload_n (pc := 0) C 1 rfl rfl dX1_removeWaiter_0 ?_
  refine r_bipush (pc := 1) C dX1_removeWaiter_1 kb_10 ?_
  refine r_imul (pc := 3) C dX1_removeWaiter_3 ?_
  refine r_nmi (fun x1 => ?_)
  refine r_istore_n (pc := 4) C [(3, .int x1), (0, .ref (G.1 9 k 0)), (1, .int v1), (2, .int v2)] dX1_removeWaiter_4 rfl (by decide) rfl ?_
  refine r_iconst (pc := 5) C dX1_removeWaiter_5 kc_0 ?_
  refine r_istore (pc := 6) C [(4, .int (0 : Int32)), (3, .int x1), (0, .ref (G.1 9 k 0)), (1, .int v1), (2, .int v2)] dX1_removeWaiter_6 (by decide) rfl ?_
  refine r_iconst (pc := 8) C dX1_removeWaiter_8 kc_0 ?_
  refine r_istore (pc := 9) C [(5, .int (0 : Int32)), (4, .int (0 : Int32)), (3, .int x1), (0, .ref (G.1 9 k 0)), (1, .int v1), (2, .int v2)] dX1_removeWaiter_9 (by decide) rfl ?_
  refine r_sub [3, 4, 5, 2, 1, 0] rfl ?_
  exact lX1_removeWaiter_11 (k := k)  C hRm h0  fu v1 v2 x1 (0 : Int32) (0 : Int32) M h_0
theorem okX1_removeWaiter {l : Launch} {G : WT} (h0 : W0 G) (k : Nat) (v1 : Int32) (v2 : Int32) (M : Mem) (h_0 : G.2.2.2.1 9 k 0) : Okm l G yX1_removeWaiter cX1_removeWaiter 7 none 0 0 [.ref (G.1 9 k 0), .int v1, .int v2] voV M (pX1_removeWaiter k v1 v2 M) :=
  Okm.of "PermitPark$Locks" rfl (by decide) (Nat.le_of_ble_eq_true rfl) (L := [(0, .ref (G.1 9 k 0)), (1, .int v1), (2, .int v2)]) rfl (fun K _ hr C => lX1_removeWaiter_0 C (by rw [hr]; exact ⟨rfl, rfl⟩) h0 v1 v2 M h_0)
def pX2_clear (k : Nat) (M : Mem) : Option (Unit × Mem) :=
    nm (wI M 13 k 0 1 (0 : Int32)) fun M1 => nm (wI M1 13 k 0 2 (0 : Int32)) fun M2 => nm (wI M2 13 k 0 3 (0 : Int32)) fun M3 => some ((), M3)
theorem lX2_clear_0 {K : KT} {G : WT} {k : Nat} (C : Cx K G "PermitPark$Log" cX2_clear 1 none) (hRm : K.2.2.2.1.frames = 0 ∧ K.2.2.2.1.locals = 0) (h0 : W0 G) (M : Mem) (h_0 : G.2.2.2.1 13 k 0) : Run K G 1 0 0 (FinM K G voV 0 0) 0 [(0, .ref (G.1 13 k 0))] [] M (pX2_clear k   M) := by
  rw [pX2_clear]
  refine r_aload_n (pc := 0) C 0 rfl rfl dX2_clear_0 ?_
  refine r_iconst (pc := 1) C dX2_clear_1 kc_0 ?_
  refine r_putI (pc := 2) C FX2_nextRow mw_90 h_0 tyX2 tyX2_ok nmX2 (fun _ _ => rfl) rfl dX2_clear_2 (fun M1 => ?_)
  refine r_aload_n (pc := 5) C 0 rfl rfl dX2_clear_5 ?_
  refine r_iconst (pc := 6) C dX2_clear_6 kc_0 ?_
  refine r_putI (pc := 7) C FX2_kept mw_91 h_0 tyX2 tyX2_ok nmX2 (fun _ _ => rfl) rfl dX2_clear_7 (fun M2 => ?_)
  refine r_aload_n (pc := 10) C 0 rfl rfl dX2_clear_10 ?_
  refine r_iconst (pc := 11) C dX2_clear_11 kc_0 ?_
  refine r_putI (pc := 12) C FX2_total mw_94 h_0 tyX2 tyX2_ok nmX2 (fun _ _ => rfl) rfl dX2_clear_12 (fun M3 => ?_)
  exact r_vret (pc := 15) C dX2_clear_15
theorem okX2_clear {l : Launch} {G : WT} (h0 : W0 G) (k : Nat) (M : Mem) (h_0 : G.2.2.2.1 13 k 0) : Okm l G yX2_clear cX2_clear 1 none 0 0 [.ref (G.1 13 k 0)] voV M (pX2_clear k  M) :=
  Okm.of "PermitPark$Log" rfl (by decide) (Nat.le_of_ble_eq_true rfl) (L := [(0, .ref (G.1 13 k 0))]) rfl (fun K _ hr C => lX2_clear_0 C (by rw [hr]; exact ⟨rfl, rfl⟩) h0  M h_0)
def pX2_copyFrom (k : Nat) (k1 : Nat) (M : Mem) : Option (Unit × Mem) :=
    nm (cpI M 14 k1 0 14 k 0) fun M3 => nm (wI M3 13 k 0 1 (M3.1 13 k1 0 1)) fun M4 => nm (wI M4 13 k 0 2 (M4.1 13 k1 0 2)) fun M5 => nm (wI M5 13 k 0 3 (M5.1 13 k1 0 3)) fun M6 => some ((), M6)
theorem lX2_copyFrom_0 {K : KT} {G : WT} {k : Nat} {k1 : Nat} (C : Cx K G "PermitPark$Log" cX2_copyFrom 2 none) (hRm : K.2.2.2.1.frames = 1 ∧ K.2.2.2.1.locals = 100) (h0 : W0 G) (M : Mem) (h_0 : G.2.2.2.1 13 k 0) (h_1 : G.2.2.2.1 13 k1 0) : Run K G 2 0 0 (FinM K G voV 0 0) 0 [(0, .ref (G.1 13 k 0)), (1, .ref (G.1 13 k1 0))] [] M (pX2_copyFrom k k1   M) := by
  rw [pX2_copyFrom]
  refine r_aload_n (pc := 0) C 1 rfl rfl dX2_copyFrom_0 ?_
  refine r_getR (pc := 1) C FX2_cells mw_89 h_1 rfl dX2_copyFrom_1 (fun g1 => ?_)
  refine r_iconst (pc := 4) C dX2_copyFrom_4 kc_0 ?_
  refine r_aload_n (pc := 5) C 0 rfl rfl dX2_copyFrom_5 ?_
  refine r_getR (pc := 6) C FX2_cells mw_89 h_0 rfl dX2_copyFrom_6 (fun g2 => ?_)
  refine r_iconst (pc := 9) C dX2_copyFrom_9 kc_0 ?_
  refine r_sipush (pc := 10) C dX2_copyFrom_10 ks_160 ?_
  refine r_copy (pc := 13) C rfl rfl g1 g2 (fun _ => rfl) (fun _ => rfl) (fun _ => rfl) (fun _ => rfl) (by decide) (by decide) mw_509 mw_499 mw_498 mw_14 hRm ⟨Nat.le_of_ble_eq_true rfl, Nat.le_of_ble_eq_true rfl⟩ dX2_copyFrom_13 (fun M3 => ?_)
  refine r_aload_n (pc := 16) C 0 rfl rfl dX2_copyFrom_16 ?_
  refine r_aload_n (pc := 17) C 1 rfl rfl dX2_copyFrom_17 ?_
  refine r_getI (pc := 18) C FX2_nextRow mw_90 h_1 rfl rfl dX2_copyFrom_18 ?_
  refine r_putI (pc := 21) C FX2_nextRow mw_90 h_0 tyX2 tyX2_ok nmX2 (fun _ _ => rfl) rfl dX2_copyFrom_21 (fun M4 => ?_)
  refine r_aload_n (pc := 24) C 0 rfl rfl dX2_copyFrom_24 ?_
  refine r_aload_n (pc := 25) C 1 rfl rfl dX2_copyFrom_25 ?_
  refine r_getI (pc := 26) C FX2_kept mw_91 h_1 rfl rfl dX2_copyFrom_26 ?_
  refine r_putI (pc := 29) C FX2_kept mw_91 h_0 tyX2 tyX2_ok nmX2 (fun _ _ => rfl) rfl dX2_copyFrom_29 (fun M5 => ?_)
  refine r_aload_n (pc := 32) C 0 rfl rfl dX2_copyFrom_32 ?_
  refine r_aload_n (pc := 33) C 1 rfl rfl dX2_copyFrom_33 ?_
  refine r_getI (pc := 34) C FX2_total mw_94 h_1 rfl rfl dX2_copyFrom_34 ?_
  refine r_putI (pc := 37) C FX2_total mw_94 h_0 tyX2 tyX2_ok nmX2 (fun _ _ => rfl) rfl dX2_copyFrom_37 (fun M6 => ?_)
  exact r_vret (pc := 40) C dX2_copyFrom_40
theorem okX2_copyFrom {l : Launch} {G : WT} (h0 : W0 G) (k : Nat) (k1 : Nat) (M : Mem) (h_0 : G.2.2.2.1 13 k 0) (h_1 : G.2.2.2.1 13 k1 0) : Okm l G yX2_copyFrom cX2_copyFrom 2 none 1 100 [.ref (G.1 13 k 0), .ref (G.1 13 k1 0)] voV M (pX2_copyFrom k k1  M) :=
  Okm.of "PermitPark$Log" rfl (by decide) (Nat.le_of_ble_eq_true rfl) (L := [(0, .ref (G.1 13 k 0)), (1, .ref (G.1 13 k1 0))]) rfl (fun K _ hr C => lX2_copyFrom_0 C (by rw [hr]; exact ⟨rfl, rfl⟩) h0  M h_0 h_1)
def pX2_add (k : Nat) (v1 : Int32) (v2 : Int32) (v3 : Int32) (v4 : Int32) (M : Mem) : Option (Unit × Mem) :=
    nm ((M.1 13 k 0 1) * (4 : Int32)) fun x1 => chk (inB x1 160) <| nm (wI M 14 k 0 x1.toNatClampNeg v1) fun M3 => chk (inB (x1 + (1 : Int32)) 160) <| nm (wI M3 14 k 0 (x1 + (1 : Int32)).toNatClampNeg v2) fun M5 => chk (inB (x1 + (2 : Int32)) 160) <| nm (wI M5 14 k 0 (x1 + (2 : Int32)).toNatClampNeg v3) fun M7 => chk (inB (x1 + (3 : Int32)) 160) <| nm (wI M7 14 k 0 (x1 + (3 : Int32)).toNatClampNeg v4) fun M9 => nm (wI M9 13 k 0 1 (((M9.1 13 k 0 1) + (1 : Int32)) - ((M9.1 13 k 0 1) + (1 : Int32)) / (40 : Int32) * (40 : Int32))) fun M10 => if (40 : Int32) ≤ (M10.1 13 k 0 2) then (nm (wI M10 13 k 0 3 ((M10.1 13 k 0 3) + (1 : Int32))) fun M11 => some ((), M11))
    else nm (wI M10 13 k 0 2 ((M10.1 13 k 0 2) + (1 : Int32))) fun M12 => nm (wI M12 13 k 0 3 ((M12.1 13 k 0 3) + (1 : Int32))) fun M13 => some ((), M13)
theorem lX2_add_0 {K : KT} {G : WT} {k : Nat} (C : Cx K G "PermitPark$Log" cX2_add 6 none) (hRm : K.2.2.2.1.frames = 0 ∧ K.2.2.2.1.locals = 0) (h0 : W0 G) (v1 : Int32) (v2 : Int32) (v3 : Int32) (v4 : Int32) (M : Mem) (h_0 : G.2.2.2.1 13 k 0) : Run K G 6 0 0 (FinM K G voV 0 0) 0 [(0, .ref (G.1 13 k 0)), (1, .int v1), (2, .int v2), (3, .int v3), (4, .int v4)] [] M (pX2_add k  v1 v2 v3 v4 M) := by
  rw [pX2_add]
  refine r_aload_n (pc := 0) C 0 rfl rfl dX2_add_0 ?_
  refine r_getI (pc := 1) C FX2_nextRow mw_90 h_0 rfl rfl dX2_add_1 ?_
  refine r_iconst (pc := 4) C dX2_add_4 kc_4 ?_
  refine r_imul (pc := 5) C dX2_add_5 ?_
  refine r_nmi (fun x1 => ?_)
  refine r_istore (pc := 6) C [(5, .int x1), (0, .ref (G.1 13 k 0)), (1, .int v1), (2, .int v2), (3, .int v3), (4, .int v4)] dX2_add_6 (by decide) rfl ?_
  refine r_aload_n (pc := 8) C 1 rfl rfl dX2_add_8 ?_
  refine r_getR (pc := 9) C FX2_cells mw_89 h_0 rfl dX2_add_9 (fun g2 => ?_)
  refine r_iload (pc := 12) C 0 rfl dX2_add_12 ?_
  refine r_iload_n (pc := 14) C 2 rfl rfl dX2_add_14 ?_
  refine r_iast (pc := 15) C rfl g2 (fun _ => rfl) (fun _ => rfl) dX2_add_15 (fun M3 => ?_)
  refine r_aload_n (pc := 16) C 1 rfl rfl dX2_add_16 ?_
  refine r_getR (pc := 17) C FX2_cells mw_89 h_0 rfl dX2_add_17 (fun g4 => ?_)
  refine r_iload (pc := 20) C 0 rfl dX2_add_20 ?_
  refine r_iconst (pc := 22) C dX2_add_22 kc_1 ?_
  refine r_iadd (pc := 23) C dX2_add_23 ?_
  refine r_iload_n (pc := 24) C 3 rfl rfl dX2_add_24 ?_
  refine r_iast (pc := 25) C rfl g2 (fun _ => rfl) (fun _ => rfl) dX2_add_25 (fun M5 => ?_)
  refine r_aload_n (pc := 26) C 1 rfl rfl dX2_add_26 ?_
  refine r_getR (pc := 27) C FX2_cells mw_89 h_0 rfl dX2_add_27 (fun g6 => ?_)
  refine r_iload (pc := 30) C 0 rfl dX2_add_30 ?_
  refine r_iconst (pc := 32) C dX2_add_32 kc_2 ?_
  refine r_iadd (pc := 33) C dX2_add_33 ?_
  refine r_iload_n (pc := 34) C 4 rfl rfl dX2_add_34 ?_
  refine r_iast (pc := 35) C rfl g2 (fun _ => rfl) (fun _ => rfl) dX2_add_35 (fun M7 => ?_)
  refine r_aload_n (pc := 36) C 1 rfl rfl dX2_add_36 ?_
  refine r_getR (pc := 37) C FX2_cells mw_89 h_0 rfl dX2_add_37 (fun g8 => ?_)
  refine r_iload (pc := 40) C 0 rfl dX2_add_40 ?_
  refine r_iconst (pc := 42) C dX2_add_42 kc_3 ?_
  refine r_iadd (pc := 43) C dX2_add_43 ?_
  refine r_iload (pc := 44) C 5 rfl dX2_add_44 ?_
  refine r_iast (pc := 46) C rfl g2 (fun _ => rfl) (fun _ => rfl) dX2_add_46 (fun M9 => ?_)
  refine r_aload_n (pc := 47) C 1 rfl rfl dX2_add_47 ?_
  refine r_aload_n (pc := 48) C 1 rfl rfl dX2_add_48 ?_
  refine r_getI (pc := 49) C FX2_nextRow mw_90 h_0 rfl rfl dX2_add_49 ?_
  refine r_iconst (pc := 52) C dX2_add_52 kc_1 ?_
  refine r_iadd (pc := 53) C dX2_add_53 ?_
  refine r_bipush (pc := 54) C dX2_add_54 kb_40 ?_
  refine r_irem (pc := 56) C dX2_add_56 (by decide) ?_
  refine r_putI (pc := 57) C FX2_nextRow mw_90 h_0 tyX2 tyX2_ok nmX2 (fun _ _ => rfl) rfl dX2_add_57 (fun M10 => ?_)
  refine r_aload_n (pc := 60) C 1 rfl rfl dX2_add_60 ?_
  refine r_getI (pc := 61) C FX2_kept mw_91 h_0 rfl rfl dX2_add_61 ?_
  refine r_bipush (pc := 64) C dX2_add_64 kb_40 ?_
  refine r_icmp_ge (pc := 66) C dX2_add_66 (tgt := 79) rfl ?_ ?_
  refine r_aload_n (pc := 79) C 1 rfl rfl dX2_add_79 ?_
  refine r_dup (pc := 80) C dX2_add_80 rfl ?_
  refine r_getI (pc := 81) C FX2_total mw_94 h_0 rfl rfl dX2_add_81 ?_
  refine r_iconst (pc := 84) C dX2_add_84 kc_1 ?_
  refine r_iadd (pc := 85) C dX2_add_85 ?_
  refine r_putI (pc := 86) C FX2_total mw_94 h_0 tyX2 tyX2_ok nmX2 (fun _ _ => rfl) rfl dX2_add_86 (fun M11 => ?_)
  exact r_vret (pc := 89) C dX2_add_89
  refine r_aload_n (pc := 69) C 1 rfl rfl dX2_add_69 ?_
  refine r_dup (pc := 70) C dX2_add_70 rfl ?_
  refine r_getI (pc := 71) C FX2_kept mw_91 h_0 rfl rfl dX2_add_71 ?_
  refine r_iconst (pc := 74) C dX2_add_74 kc_1 ?_
  refine r_iadd (pc := 75) C dX2_add_75 ?_
  refine r_putI (pc := 76) C FX2_kept mw_91 h_0 tyX2 tyX2_ok nmX2 (fun _ _ => rfl) rfl dX2_add_76 (fun M12 => ?_)
  refine r_aload_n (pc := 79) C 1 rfl rfl dX2_add_79 ?_
  refine r_dup (pc := 80) C dX2_add_80 rfl ?_
  refine r_getI (pc := 81) C FX2_total mw_94 h_0 rfl rfl dX2_add_81 ?_
  refine r_iconst (pc := 84) C dX2_add_84 kc_1 ?_
  refine r_iadd (pc := 85) C dX2_add_85 ?_
  refine r_putI (pc := 86) C FX2_total mw_94 h_0 tyX2 tyX2_ok nmX2 (fun _ _ => rfl) rfl dX2_add_86 (fun M13 => ?_)
  exact r_vret (pc := 89) C dX2_add_89
theorem okX2_add {l : Launch} {G : WT} (h0 : W0 G) (k : Nat) (v1 : Int32) (v2 : Int32) (v3 : Int32) (v4 : Int32) (M : Mem) (h_0 : G.2.2.2.1 13 k 0) : Okm l G yX2_add cX2_add 6 none 0 0 [.ref (G.1 13 k 0), .int v1, .int v2, .int v3, .int v4] voV M (pX2_add k v1 v2 v3 v4 M) :=
  Okm.of "PermitPark$Log" rfl (by decide) (Nat.le_of_ble_eq_true rfl) (L := [(0, .ref (G.1 13 k 0)), (1, .int v1), (2, .int v2), (3, .int v3), (4, .int v4)]) rfl (fun K _ hr C => lX2_add_0 C (by rw [hr]; exact ⟨rfl, rfl⟩) h0 v1 v2 v3 v4 M h_0)
def pX2_cell (k : Nat) (v1 : Int32) (v2 : Int32) (M : Mem) : Option (Int32 × Mem) :=
    chk (inB (((((((M.1 13 k 0 1) + (40 : Int32)) - (M.1 13 k 0 2)) + v1) - ((((M.1 13 k 0 1) + (40 : Int32)) - (M.1 13 k 0 2)) + v1) / (40 : Int32) * (40 : Int32)) * (4 : Int32)) + v2) 160) <| some ((M.1 14 k 0 (((((((M.1 13 k 0 1) + (40 : Int32)) - (M.1 13 k 0 2)) + v1) - ((((M.1 13 k 0 1) + (40 : Int32)) - (M.1 13 k 0 2)) + v1) / (40 : Int32) * (40 : Int32)) * (4 : Int32)) + v2).toNatClampNeg), M)
theorem lX2_cell_0 {K : KT} {G : WT} {k : Nat} (C : Cx K G "PermitPark$Log" cX2_cell 3 (some FieldType.int)) (hRm : K.2.2.2.1.frames = 0 ∧ K.2.2.2.1.locals = 0) (h0 : W0 G) (v1 : Int32) (v2 : Int32) (M : Mem) (h_0 : G.2.2.2.1 13 k 0) : Run K G 3 0 0 (FinM K G voI 0 0) 0 [(0, .ref (G.1 13 k 0)), (1, .int v1), (2, .int v2)] [] M (pX2_cell k  v1 v2 M) := by
  rw [pX2_cell]
  refine r_aload_n (pc := 0) C 0 rfl rfl dX2_cell_0 ?_
  refine r_getR (pc := 1) C FX2_cells mw_89 h_0 rfl dX2_cell_1 (fun g1 => ?_)
  refine r_aload_n (pc := 4) C 0 rfl rfl dX2_cell_4 ?_
  refine r_getI (pc := 5) C FX2_nextRow mw_90 h_0 rfl rfl dX2_cell_5 ?_
  refine r_bipush (pc := 8) C dX2_cell_8 kb_40 ?_
  refine r_iadd (pc := 10) C dX2_cell_10 ?_
  refine r_aload_n (pc := 11) C 0 rfl rfl dX2_cell_11 ?_
  refine r_getI (pc := 12) C FX2_kept mw_91 h_0 rfl rfl dX2_cell_12 ?_
  refine r_isub (pc := 15) C dX2_cell_15 ?_
  refine r_iload_n (pc := 16) C 1 rfl rfl dX2_cell_16 ?_
  refine r_iadd (pc := 17) C dX2_cell_17 ?_
  refine r_bipush (pc := 18) C dX2_cell_18 kb_40 ?_
  refine r_irem (pc := 20) C dX2_cell_20 (by decide) ?_
  refine r_iconst (pc := 21) C dX2_cell_21 kc_4 ?_
  refine r_imul (pc := 22) C dX2_cell_22 ?_
  refine r_iload_n (pc := 23) C 2 rfl rfl dX2_cell_23 ?_
  refine r_iadd (pc := 24) C dX2_cell_24 ?_
  refine r_iald (pc := 25) C rfl g1 (fun _ => rfl) (fun _ => rfl) dX2_cell_25 ?_
  exact r_iret (pc := 26) C rfl dX2_cell_26
theorem okX2_cell {l : Launch} {G : WT} (h0 : W0 G) (k : Nat) (v1 : Int32) (v2 : Int32) (M : Mem) (h_0 : G.2.2.2.1 13 k 0) : Okm l G yX2_cell cX2_cell 3 (some FieldType.int) 0 0 [.ref (G.1 13 k 0), .int v1, .int v2] voI M (pX2_cell k v1 v2 M) :=
  Okm.of "PermitPark$Log" rfl (by decide) (Nat.le_of_ble_eq_true rfl) (L := [(0, .ref (G.1 13 k 0)), (1, .int v1), (2, .int v2)]) rfl (fun K _ hr C => lX2_cell_0 C (by rw [hr]; exact ⟨rfl, rfl⟩) h0 v1 v2 M h_0)
def pX2_countOf_5 (k : Nat) : Nat → Int32 → Int32 → Int32 → Int32 → Mem → Option (Int32 × Mem)
  | 0, _, _, _, _, _ => none
  | n + 1, v1, v2, v3, v4, M =>
    if (M.1 13 k 0 2) ≤ v4 then (some (v3, M))
    else bnd (pX2_cell k v4 (1 : Int32) M) fun o2 M1 => if ¬ o2 = v1 then (pX2_countOf_5 k  n v1 v2 v3 (v4 + (1 : Int32)) M1)
    else if v2 = (-1 : Int32) then (pX2_countOf_5 k  n v1 v2 (v3 + (1 : Int32)) (v4 + (1 : Int32)) M1)
    else bnd (pX2_cell k v4 (2 : Int32) M1) fun o4 M3 => if ¬ o4 = v2 then (pX2_countOf_5 k  n v1 v2 v3 (v4 + (1 : Int32)) M3)
    else pX2_countOf_5 k  n v1 v2 (v3 + (1 : Int32)) (v4 + (1 : Int32)) M3
theorem lX2_countOf_5 {K : KT} {G : WT} {k : Nat} (C : Cx K G "PermitPark$Log" cX2_countOf 5 (some FieldType.int)) (hRm : K.2.2.2.1.frames = 1 ∧ K.2.2.2.1.locals = 22) (h0 : W0 G) : ∀ (n : Nat) (v1 : Int32) (v2 : Int32) (v3 : Int32) (v4 : Int32) (M : Mem), G.2.2.2.1 13 k 0 → Run K G 5 0 0 (FinM K G voI 0 0) 5 [(0, .ref (G.1 13 k 0)), (1, .int v1), (2, .int v2), (3, .int v3), (4, .int v4)] [] M (pX2_countOf_5 k  n v1 v2 v3 v4 M) := by
  intro n
  induction n with
  | zero =>
    intro v1 v2 v3 v4 M g_0
    exact r_none
  | succ n ih =>
    intro v1 v2 v3 v4 M g_0
    rw [pX2_countOf_5]
    refine r_iload (pc := 5) C 4 rfl dX2_countOf_5 ?_
    refine r_aload_n (pc := 7) C 0 rfl rfl dX2_countOf_7 ?_
    refine r_getI (pc := 8) C FX2_kept mw_91 g_0 rfl rfl dX2_countOf_8 ?_
    refine r_icmp_ge (pc := 11) C dX2_countOf_11 (tgt := 50) rfl ?_ ?_
    refine r_iload_n (pc := 50) C 3 rfl rfl dX2_countOf_50 ?_
    exact r_iret (pc := 51) C rfl dX2_countOf_51
    refine r_aload_n (pc := 14) C 0 rfl rfl dX2_countOf_14 ?_
    refine r_iload (pc := 15) C 4 rfl dX2_countOf_15 ?_
    refine r_iconst (pc := 17) C dX2_countOf_17 kc_1 ?_
    refine r_cVI (pc := 18) C hRm (okX2_cell h0 k v4 (1 : Int32) M g_0) (Rc.of C rfl rfl g_0) mw_700 cvX2_cell rfl ⟨Nat.le_of_ble_eq_true rfl, Nat.le_of_ble_eq_true rfl⟩ rfl (Nat.le_of_ble_eq_true rfl) dX2_countOf_18 (fun o2 M1 => ?_)
    refine r_iload_n (pc := 21) C 1 rfl rfl dX2_countOf_21 ?_
    refine r_icmp_ne (pc := 22) C dX2_countOf_22 (tgt := 44) rfl ?_ ?_
    refine r_iinc (pc := 44) C [(4, .int (v4 + (1 : Int32))), (0, .ref (G.1 13 k 0)), (1, .int v1), (2, .int v2), (3, .int v3)] dX2_countOf_44 (p := 4) rfl (ki_1 _) (by decide) rfl ?_
    refine r_goto (pc := 47) C dX2_countOf_47 (tgt := 5) rfl ?_
    refine r_sub [1, 2, 3, 4, 0] rfl ?_
    exact ih v1 v2 v3 (v4 + (1 : Int32)) M1 g_0
    refine r_iload_n (pc := 25) C 2 rfl rfl dX2_countOf_25 ?_
    refine r_iconst (pc := 26) C dX2_countOf_26 kc_m1 ?_
    refine r_icmp_eq (pc := 27) C dX2_countOf_27 (tgt := 41) rfl ?_ ?_
    refine r_iinc (pc := 41) C [(3, .int (v3 + (1 : Int32))), (0, .ref (G.1 13 k 0)), (1, .int v1), (2, .int v2), (4, .int v4)] dX2_countOf_41 (p := 3) rfl (ki_1 _) (by decide) rfl ?_
    refine r_iinc (pc := 44) C [(4, .int (v4 + (1 : Int32))), (3, .int (v3 + (1 : Int32))), (0, .ref (G.1 13 k 0)), (1, .int v1), (2, .int v2)] dX2_countOf_44 (p := 4) rfl (ki_1 _) (by decide) rfl ?_
    refine r_goto (pc := 47) C dX2_countOf_47 (tgt := 5) rfl ?_
    refine r_sub [2, 3, 4, 1, 0] rfl ?_
    exact ih v1 v2 (v3 + (1 : Int32)) (v4 + (1 : Int32)) M1 g_0
    refine r_aload_n (pc := 30) C 0 rfl rfl dX2_countOf_30 ?_
    refine r_iload (pc := 31) C 4 rfl dX2_countOf_31 ?_
    refine r_iconst (pc := 33) C dX2_countOf_33 kc_2 ?_
    refine r_cVI (pc := 34) C hRm (okX2_cell h0 k v4 (2 : Int32) M1 g_0) (Rc.of C rfl rfl g_0) mw_700 cvX2_cell rfl ⟨Nat.le_of_ble_eq_true rfl, Nat.le_of_ble_eq_true rfl⟩ rfl (Nat.le_of_ble_eq_true rfl) dX2_countOf_34 (fun o4 M3 => ?_)
    refine r_iload_n (pc := 37) C 2 rfl rfl dX2_countOf_37 ?_
    refine r_icmp_ne (pc := 38) C dX2_countOf_38 (tgt := 44) rfl ?_ ?_
    refine r_iinc (pc := 44) C [(4, .int (v4 + (1 : Int32))), (0, .ref (G.1 13 k 0)), (1, .int v1), (2, .int v2), (3, .int v3)] dX2_countOf_44 (p := 4) rfl (ki_1 _) (by decide) rfl ?_
    refine r_goto (pc := 47) C dX2_countOf_47 (tgt := 5) rfl ?_
    refine r_sub [1, 2, 3, 4, 0] rfl ?_
    exact ih v1 v2 v3 (v4 + (1 : Int32)) M3 g_0
    refine r_iinc (pc := 41) C [(3, .int (v3 + (1 : Int32))), (0, .ref (G.1 13 k 0)), (1, .int v1), (2, .int v2), (4, .int v4)] dX2_countOf_41 (p := 3) rfl (ki_1 _) (by decide) rfl ?_
    refine r_iinc (pc := 44) C [(4, .int (v4 + (1 : Int32))), (3, .int (v3 + (1 : Int32))), (0, .ref (G.1 13 k 0)), (1, .int v1), (2, .int v2)] dX2_countOf_44 (p := 4) rfl (ki_1 _) (by decide) rfl ?_
    refine r_goto (pc := 47) C dX2_countOf_47 (tgt := 5) rfl ?_
    refine r_sub [2, 3, 4, 1, 0] rfl ?_
    exact ih v1 v2 (v3 + (1 : Int32)) (v4 + (1 : Int32)) M3 g_0
def pX2_countOf (k : Nat) (v1 : Int32) (v2 : Int32) (M : Mem) : Option (Int32 × Mem) :=
    pX2_countOf_5 k  fu v1 v2 (0 : Int32) (0 : Int32) M
theorem lX2_countOf_0 {K : KT} {G : WT} {k : Nat} (C : Cx K G "PermitPark$Log" cX2_countOf 5 (some FieldType.int)) (hRm : K.2.2.2.1.frames = 1 ∧ K.2.2.2.1.locals = 22) (h0 : W0 G) (v1 : Int32) (v2 : Int32) (M : Mem) (h_0 : G.2.2.2.1 13 k 0) : Run K G 5 0 0 (FinM K G voI 0 0) 0 [(0, .ref (G.1 13 k 0)), (1, .int v1), (2, .int v2)] [] M (pX2_countOf k  v1 v2 M) := by
  rw [pX2_countOf]
  refine r_iconst (pc := 0) C dX2_countOf_0 kc_0 ?_
  refine r_istore_n (pc := 1) C [(3, .int (0 : Int32)), (0, .ref (G.1 13 k 0)), (1, .int v1), (2, .int v2)] dX2_countOf_1 rfl (by decide) rfl ?_
  refine r_iconst (pc := 2) C dX2_countOf_2 kc_0 ?_
  refine r_istore (pc := 3) C [(4, .int (0 : Int32)), (3, .int (0 : Int32)), (0, .ref (G.1 13 k 0)), (1, .int v1), (2, .int v2)] dX2_countOf_3 (by decide) rfl ?_
  refine r_sub [2, 3, 4, 1, 0] rfl ?_
  exact lX2_countOf_5 (k := k)  C hRm h0  fu v1 v2 (0 : Int32) (0 : Int32) M h_0
theorem okX2_countOf {l : Launch} {G : WT} (h0 : W0 G) (k : Nat) (v1 : Int32) (v2 : Int32) (M : Mem) (h_0 : G.2.2.2.1 13 k 0) : Okm l G yX2_countOf cX2_countOf 5 (some FieldType.int) 1 22 [.ref (G.1 13 k 0), .int v1, .int v2] voI M (pX2_countOf k v1 v2 M) :=
  Okm.of "PermitPark$Log" rfl (by decide) (Nat.le_of_ble_eq_true rfl) (L := [(0, .ref (G.1 13 k 0)), (1, .int v1), (2, .int v2)]) rfl (fun K _ hr C => lX2_countOf_0 C (by rw [hr]; exact ⟨rfl, rfl⟩) h0 v1 v2 M h_0)
def pX6_start_2 (k : Nat) (i : Nat) : Nat → Int32 → Int32 → Mem → Option (Unit × Mem)
  | 0, _, _, _ => none
  | n + 1, v1, v2, M =>
    if (5 : Int32) ≤ v2 then (nm (wI M 5 k i 3 (0 : Int32)) fun M1 => nm (wI M1 5 k i 4 v1) fun M2 => nm (wI M2 5 k i 5 v1) fun M3 => nm (wI M3 5 k i 6 (0 : Int32)) fun M4 => nm (wI M4 5 k i 7 (0 : Int32)) fun M5 => nm (wI M5 5 k i 8 (0 : Int32)) fun M6 => nm (wI M6 5 k i 9 (0 : Int32)) fun M7 => chk (decide ((0 : Int32) = 0 ∨ (0 : Int32) = 1)) <| nm (wI M7 5 k i 10 (0 : Int32)) fun M8 => chk (decide ((0 : Int32) = 0 ∨ (0 : Int32) = 1)) <| nm (wI M8 5 k i 11 (0 : Int32)) fun M9 => nm (wI M9 5 k i 12 (0 : Int32)) fun M10 => nm (wI M10 5 k i 13 (-1 : Int32)) fun M11 => nm (wI M11 5 k i 14 (-1 : Int32)) fun M12 => nm (wI M12 5 k i 15 (0 : Int32)) fun M13 => nm (wI M13 5 k i 16 (-1 : Int32)) fun M14 => nm (wI M14 5 k i 17 (0 : Int32)) fun M15 => some ((), M15))
    else chk (inB v2 5) <| nm (wI M 8 k i v2.toNatClampNeg (0 : Int32)) fun M17 => pX6_start_2 k i  n v1 (v2 + (1 : Int32)) M17
theorem lX6_start_2 {K : KT} {G : WT} {k : Nat} {i : Nat} (C : Cx K G "PermitPark$Strand" cX6_start 3 none) (hRm : K.2.2.2.1.frames = 0 ∧ K.2.2.2.1.locals = 0) (h0 : W0 G) : ∀ (n : Nat) (v1 : Int32) (v2 : Int32) (M : Mem), G.2.2.2.1 5 k i → Run K G 3 0 0 (FinM K G voV 0 0) 2 [(0, .ref (G.1 5 k i)), (1, .int v1), (2, .int v2)] [] M (pX6_start_2 k i  n v1 v2 M) := by
  intro n
  induction n with
  | zero =>
    intro v1 v2 M g_0
    exact r_none
  | succ n ih =>
    intro v1 v2 M g_0
    rw [pX6_start_2]
    refine r_iload_n (pc := 2) C 2 rfl rfl dX6_start_2 ?_
    refine r_iconst (pc := 3) C dX6_start_3 kc_5 ?_
    refine r_icmp_ge (pc := 4) C dX6_start_4 (tgt := 20) rfl ?_ ?_
    refine r_aload_n (pc := 20) C 0 rfl rfl dX6_start_20 ?_
    refine r_iconst (pc := 21) C dX6_start_21 kc_0 ?_
    refine r_putI (pc := 22) C FX6_length mw_116 g_0 tyX6 tyX6_ok nmX6 (fun _ _ => rfl) rfl dX6_start_22 (fun M1 => ?_)
    refine r_aload_n (pc := 25) C 0 rfl rfl dX6_start_25 ?_
    refine r_iload_n (pc := 26) C 1 rfl rfl dX6_start_26 ?_
    refine r_putI (pc := 27) C FX6_base mw_119 g_0 tyX6 tyX6_ok nmX6 (fun _ _ => rfl) rfl dX6_start_27 (fun M2 => ?_)
    refine r_aload_n (pc := 30) C 0 rfl rfl dX6_start_30 ?_
    refine r_iload_n (pc := 31) C 1 rfl rfl dX6_start_31 ?_
    refine r_putI (pc := 32) C FX6_priority mw_122 g_0 tyX6 tyX6_ok nmX6 (fun _ _ => rfl) rfl dX6_start_32 (fun M3 => ?_)
    refine r_aload_n (pc := 35) C 0 rfl rfl dX6_start_35 ?_
    refine r_iconst (pc := 36) C dX6_start_36 kc_0 ?_
    refine r_putI (pc := 37) C FX6_greatest mw_125 g_0 tyX6 tyX6_ok nmX6 (fun _ _ => rfl) rfl dX6_start_37 (fun M4 => ?_)
    refine r_aload_n (pc := 40) C 0 rfl rfl dX6_start_40 ?_
    refine r_iconst (pc := 41) C dX6_start_41 kc_0 ?_
    refine r_putI (pc := 42) C FX6_state mw_127 g_0 tyX6 tyX6_ok nmX6 (fun _ _ => rfl) rfl dX6_start_42 (fun M5 => ?_)
    refine r_aload_n (pc := 45) C 0 rfl rfl dX6_start_45 ?_
    refine r_iconst (pc := 46) C dX6_start_46 kc_0 ?_
    refine r_putI (pc := 47) C FX6_place mw_130 g_0 tyX6 tyX6_ok nmX6 (fun _ _ => rfl) rfl dX6_start_47 (fun M6 => ?_)
    refine r_aload_n (pc := 50) C 0 rfl rfl dX6_start_50 ?_
    refine r_iconst (pc := 51) C dX6_start_51 kc_0 ?_
    refine r_putI (pc := 52) C FX6_worked mw_132 g_0 tyX6 tyX6_ok nmX6 (fun _ _ => rfl) rfl dX6_start_52 (fun M7 => ?_)
    refine r_aload_n (pc := 55) C 0 rfl rfl dX6_start_55 ?_
    refine r_iconst (pc := 56) C dX6_start_56 kc_0 ?_
    refine r_putZ (pc := 57) C FX6_hasPermit mw_134 g_0 tyX6 tyX6_ok nmX6 (fun _ _ => rfl) rfl dX6_start_57 (fun M8 => ?_)
    refine r_aload_n (pc := 60) C 0 rfl rfl dX6_start_60 ?_
    refine r_iconst (pc := 61) C dX6_start_61 kc_0 ?_
    refine r_putZ (pc := 62) C FX6_hasInterrupt mw_136 g_0 tyX6 tyX6_ok nmX6 (fun _ _ => rfl) rfl dX6_start_62 (fun M9 => ?_)
    refine r_aload_n (pc := 65) C 0 rfl rfl dX6_start_65 ?_
    refine r_iconst (pc := 66) C dX6_start_66 kc_0 ?_
    refine r_putI (pc := 67) C FX6_cause mw_138 g_0 tyX6 tyX6_ok nmX6 (fun _ _ => rfl) rfl dX6_start_67 (fun M10 => ?_)
    refine r_aload_n (pc := 70) C 0 rfl rfl dX6_start_70 ?_
    refine r_iconst (pc := 71) C dX6_start_71 kc_m1 ?_
    refine r_putI (pc := 72) C FX6_deadline mw_140 g_0 tyX6 tyX6_ok nmX6 (fun _ _ => rfl) rfl dX6_start_72 (fun M11 => ?_)
    refine r_aload_n (pc := 75) C 0 rfl rfl dX6_start_75 ?_
    refine r_iconst (pc := 76) C dX6_start_76 kc_m1 ?_
    refine r_putI (pc := 77) C FX6_blockedAt mw_142 g_0 tyX6 tyX6_ok nmX6 (fun _ _ => rfl) rfl dX6_start_77 (fun M12 => ?_)
    refine r_aload_n (pc := 80) C 0 rfl rfl dX6_start_80 ?_
    refine r_iconst (pc := 81) C dX6_start_81 kc_0 ?_
    refine r_putI (pc := 82) C FX6_ticksRun mw_144 g_0 tyX6 tyX6_ok nmX6 (fun _ _ => rfl) rfl dX6_start_82 (fun M13 => ?_)
    refine r_aload_n (pc := 85) C 0 rfl rfl dX6_start_85 ?_
    refine r_iconst (pc := 86) C dX6_start_86 kc_m1 ?_
    refine r_putI (pc := 87) C FX6_lastRun mw_146 g_0 tyX6 tyX6_ok nmX6 (fun _ _ => rfl) rfl dX6_start_87 (fun M14 => ?_)
    refine r_aload_n (pc := 90) C 0 rfl rfl dX6_start_90 ?_
    refine r_iconst (pc := 91) C dX6_start_91 kc_0 ?_
    refine r_putI (pc := 92) C FX6_parks mw_148 g_0 tyX6 tyX6_ok nmX6 (fun _ _ => rfl) rfl dX6_start_92 (fun M15 => ?_)
    exact r_vret (pc := 95) C dX6_start_95
    refine r_aload_n (pc := 7) C 0 rfl rfl dX6_start_7 ?_
    refine r_getR (pc := 8) C FX6_returns mw_114 g_0 rfl dX6_start_8 (fun g16 => ?_)
    refine r_iload_n (pc := 11) C 2 rfl rfl dX6_start_11 ?_
    refine r_iconst (pc := 12) C dX6_start_12 kc_0 ?_
    refine r_iast (pc := 13) C rfl g16 (fun _ => rfl) (fun _ => rfl) dX6_start_13 (fun M17 => ?_)
    refine r_iinc (pc := 14) C [(2, .int (v2 + (1 : Int32))), (0, .ref (G.1 5 k i)), (1, .int v1)] dX6_start_14 (p := 2) rfl (ki_1 _) (by decide) rfl ?_
    refine r_goto (pc := 17) C dX6_start_17 (tgt := 2) rfl ?_
    refine r_sub [1, 2, 0] rfl ?_
    exact ih v1 (v2 + (1 : Int32)) M17 g_0
def pX6_start (k : Nat) (i : Nat) (v1 : Int32) (M : Mem) : Option (Unit × Mem) :=
    pX6_start_2 k i  fu v1 (0 : Int32) M
theorem lX6_start_0 {K : KT} {G : WT} {k : Nat} {i : Nat} (C : Cx K G "PermitPark$Strand" cX6_start 3 none) (hRm : K.2.2.2.1.frames = 0 ∧ K.2.2.2.1.locals = 0) (h0 : W0 G) (v1 : Int32) (M : Mem) (h_0 : G.2.2.2.1 5 k i) : Run K G 3 0 0 (FinM K G voV 0 0) 0 [(0, .ref (G.1 5 k i)), (1, .int v1)] [] M (pX6_start k i  v1 M) := by
  rw [pX6_start]
  refine r_iconst (pc := 0) C dX6_start_0 kc_0 ?_
  refine r_istore_n (pc := 1) C [(2, .int (0 : Int32)), (0, .ref (G.1 5 k i)), (1, .int v1)] dX6_start_1 rfl (by decide) rfl ?_
  refine r_sub [1, 2, 0] rfl ?_
  exact lX6_start_2 (k := k) (i := i)  C hRm h0  fu v1 (0 : Int32) M h_0
theorem okX6_start {l : Launch} {G : WT} (h0 : W0 G) (k : Nat) (i : Nat) (v1 : Int32) (M : Mem) (h_0 : G.2.2.2.1 5 k i) : Okm l G yX6_start cX6_start 3 none 0 0 [.ref (G.1 5 k i), .int v1] voV M (pX6_start k i v1 M) :=
  Okm.of "PermitPark$Strand" rfl (by decide) (Nat.le_of_ble_eq_true rfl) (L := [(0, .ref (G.1 5 k i)), (1, .int v1)]) rfl (fun K _ hr C => lX6_start_0 C (by rw [hr]; exact ⟨rfl, rfl⟩) h0 v1 M h_0)
def pX6_copyFrom (k : Nat) (i : Nat) (k1 : Nat) (i1 : Nat) (M : Mem) : Option (Unit × Mem) :=
    nm (cpI M 6 k1 i1 6 k i) fun M3 => nm (cpI M3 7 k1 i1 7 k i) fun M6 => nm (cpI M6 8 k1 i1 8 k i) fun M9 => nm (wI M9 5 k i 3 (M9.1 5 k1 i1 3)) fun M10 => nm (wI M10 5 k i 4 (M10.1 5 k1 i1 4)) fun M11 => nm (wI M11 5 k i 5 (M11.1 5 k1 i1 5)) fun M12 => nm (wI M12 5 k i 6 (M12.1 5 k1 i1 6)) fun M13 => nm (wI M13 5 k i 7 (M13.1 5 k1 i1 7)) fun M14 => nm (wI M14 5 k i 8 (M14.1 5 k1 i1 8)) fun M15 => nm (wI M15 5 k i 9 (M15.1 5 k1 i1 9)) fun M16 => chk (decide ((M16.1 5 k1 i1 10) = 0 ∨ (M16.1 5 k1 i1 10) = 1)) <| nm (wI M16 5 k i 10 (M16.1 5 k1 i1 10)) fun M17 => chk (decide ((M17.1 5 k1 i1 11) = 0 ∨ (M17.1 5 k1 i1 11) = 1)) <| nm (wI M17 5 k i 11 (M17.1 5 k1 i1 11)) fun M18 => nm (wI M18 5 k i 12 (M18.1 5 k1 i1 12)) fun M19 => nm (wI M19 5 k i 13 (M19.1 5 k1 i1 13)) fun M20 => nm (wI M20 5 k i 14 (M20.1 5 k1 i1 14)) fun M21 => nm (wI M21 5 k i 15 (M21.1 5 k1 i1 15)) fun M22 => nm (wI M22 5 k i 16 (M22.1 5 k1 i1 16)) fun M23 => nm (wI M23 5 k i 17 (M23.1 5 k1 i1 17)) fun M24 => some ((), M24)
theorem lX6_copyFrom_0 {K : KT} {G : WT} {k : Nat} {i : Nat} {k1 : Nat} {i1 : Nat} (C : Cx K G "PermitPark$Strand" cX6_copyFrom 2 none) (hRm : K.2.2.2.1.frames = 1 ∧ K.2.2.2.1.locals = 100) (h0 : W0 G) (M : Mem) (h_0 : G.2.2.2.1 5 k i) (h_1 : G.2.2.2.1 5 k1 i1) : Run K G 2 0 0 (FinM K G voV 0 0) 0 [(0, .ref (G.1 5 k i)), (1, .ref (G.1 5 k1 i1))] [] M (pX6_copyFrom k i k1 i1   M) := by
  rw [pX6_copyFrom]
  refine r_aload_n (pc := 0) C 1 rfl rfl dX6_copyFrom_0 ?_
  refine r_getR (pc := 1) C FX6_codes mw_110 h_1 rfl dX6_copyFrom_1 (fun g1 => ?_)
  refine r_iconst (pc := 4) C dX6_copyFrom_4 kc_0 ?_
  refine r_aload_n (pc := 5) C 0 rfl rfl dX6_copyFrom_5 ?_
  refine r_getR (pc := 6) C FX6_codes mw_110 h_0 rfl dX6_copyFrom_6 (fun g2 => ?_)
  refine r_iconst (pc := 9) C dX6_copyFrom_9 kc_0 ?_
  refine r_bipush (pc := 10) C dX6_copyFrom_10 kb_16 ?_
  refine r_copy (pc := 12) C rfl rfl g1 g2 (fun _ => rfl) (fun _ => rfl) (fun _ => rfl) (fun _ => rfl) (by decide) (by decide) mw_497 mw_499 mw_498 mw_14 hRm ⟨Nat.le_of_ble_eq_true rfl, Nat.le_of_ble_eq_true rfl⟩ dX6_copyFrom_12 (fun M3 => ?_)
  refine r_aload_n (pc := 15) C 1 rfl rfl dX6_copyFrom_15 ?_
  refine r_getR (pc := 16) C FX6_numbers mw_112 h_1 rfl dX6_copyFrom_16 (fun g4 => ?_)
  refine r_iconst (pc := 19) C dX6_copyFrom_19 kc_0 ?_
  refine r_aload_n (pc := 20) C 0 rfl rfl dX6_copyFrom_20 ?_
  refine r_getR (pc := 21) C FX6_numbers mw_112 h_0 rfl dX6_copyFrom_21 (fun g5 => ?_)
  refine r_iconst (pc := 24) C dX6_copyFrom_24 kc_0 ?_
  refine r_bipush (pc := 25) C dX6_copyFrom_25 kb_16 ?_
  refine r_copy (pc := 27) C rfl rfl g4 g5 (fun _ => rfl) (fun _ => rfl) (fun _ => rfl) (fun _ => rfl) (by decide) (by decide) mw_497 mw_499 mw_498 mw_14 hRm ⟨Nat.le_of_ble_eq_true rfl, Nat.le_of_ble_eq_true rfl⟩ dX6_copyFrom_27 (fun M6 => ?_)
  refine r_aload_n (pc := 30) C 1 rfl rfl dX6_copyFrom_30 ?_
  refine r_getR (pc := 31) C FX6_returns mw_114 h_1 rfl dX6_copyFrom_31 (fun g7 => ?_)
  refine r_iconst (pc := 34) C dX6_copyFrom_34 kc_0 ?_
  refine r_aload_n (pc := 35) C 0 rfl rfl dX6_copyFrom_35 ?_
  refine r_getR (pc := 36) C FX6_returns mw_114 h_0 rfl dX6_copyFrom_36 (fun g8 => ?_)
  refine r_iconst (pc := 39) C dX6_copyFrom_39 kc_0 ?_
  refine r_iconst (pc := 40) C dX6_copyFrom_40 kc_5 ?_
  refine r_copy (pc := 41) C rfl rfl g7 g8 (fun _ => rfl) (fun _ => rfl) (fun _ => rfl) (fun _ => rfl) (by decide) (by decide) mw_497 mw_499 mw_498 mw_14 hRm ⟨Nat.le_of_ble_eq_true rfl, Nat.le_of_ble_eq_true rfl⟩ dX6_copyFrom_41 (fun M9 => ?_)
  refine r_aload_n (pc := 44) C 0 rfl rfl dX6_copyFrom_44 ?_
  refine r_aload_n (pc := 45) C 1 rfl rfl dX6_copyFrom_45 ?_
  refine r_getI (pc := 46) C FX6_length mw_116 h_1 rfl rfl dX6_copyFrom_46 ?_
  refine r_putI (pc := 49) C FX6_length mw_116 h_0 tyX6 tyX6_ok nmX6 (fun _ _ => rfl) rfl dX6_copyFrom_49 (fun M10 => ?_)
  refine r_aload_n (pc := 52) C 0 rfl rfl dX6_copyFrom_52 ?_
  refine r_aload_n (pc := 53) C 1 rfl rfl dX6_copyFrom_53 ?_
  refine r_getI (pc := 54) C FX6_base mw_119 h_1 rfl rfl dX6_copyFrom_54 ?_
  refine r_putI (pc := 57) C FX6_base mw_119 h_0 tyX6 tyX6_ok nmX6 (fun _ _ => rfl) rfl dX6_copyFrom_57 (fun M11 => ?_)
  refine r_aload_n (pc := 60) C 0 rfl rfl dX6_copyFrom_60 ?_
  refine r_aload_n (pc := 61) C 1 rfl rfl dX6_copyFrom_61 ?_
  refine r_getI (pc := 62) C FX6_priority mw_122 h_1 rfl rfl dX6_copyFrom_62 ?_
  refine r_putI (pc := 65) C FX6_priority mw_122 h_0 tyX6 tyX6_ok nmX6 (fun _ _ => rfl) rfl dX6_copyFrom_65 (fun M12 => ?_)
  refine r_aload_n (pc := 68) C 0 rfl rfl dX6_copyFrom_68 ?_
  refine r_aload_n (pc := 69) C 1 rfl rfl dX6_copyFrom_69 ?_
  refine r_getI (pc := 70) C FX6_greatest mw_125 h_1 rfl rfl dX6_copyFrom_70 ?_
  refine r_putI (pc := 73) C FX6_greatest mw_125 h_0 tyX6 tyX6_ok nmX6 (fun _ _ => rfl) rfl dX6_copyFrom_73 (fun M13 => ?_)
  refine r_aload_n (pc := 76) C 0 rfl rfl dX6_copyFrom_76 ?_
  refine r_aload_n (pc := 77) C 1 rfl rfl dX6_copyFrom_77 ?_
  refine r_getI (pc := 78) C FX6_state mw_127 h_1 rfl rfl dX6_copyFrom_78 ?_
  refine r_putI (pc := 81) C FX6_state mw_127 h_0 tyX6 tyX6_ok nmX6 (fun _ _ => rfl) rfl dX6_copyFrom_81 (fun M14 => ?_)
  refine r_aload_n (pc := 84) C 0 rfl rfl dX6_copyFrom_84 ?_
  refine r_aload_n (pc := 85) C 1 rfl rfl dX6_copyFrom_85 ?_
  refine r_getI (pc := 86) C FX6_place mw_130 h_1 rfl rfl dX6_copyFrom_86 ?_
  refine r_putI (pc := 89) C FX6_place mw_130 h_0 tyX6 tyX6_ok nmX6 (fun _ _ => rfl) rfl dX6_copyFrom_89 (fun M15 => ?_)
  refine r_aload_n (pc := 92) C 0 rfl rfl dX6_copyFrom_92 ?_
  refine r_aload_n (pc := 93) C 1 rfl rfl dX6_copyFrom_93 ?_
  refine r_getI (pc := 94) C FX6_worked mw_132 h_1 rfl rfl dX6_copyFrom_94 ?_
  refine r_putI (pc := 97) C FX6_worked mw_132 h_0 tyX6 tyX6_ok nmX6 (fun _ _ => rfl) rfl dX6_copyFrom_97 (fun M16 => ?_)
  refine r_aload_n (pc := 100) C 0 rfl rfl dX6_copyFrom_100 ?_
  refine r_aload_n (pc := 101) C 1 rfl rfl dX6_copyFrom_101 ?_
  refine r_getI (pc := 102) C FX6_hasPermit mw_134 h_1 rfl rfl dX6_copyFrom_102 ?_
  refine r_putZ (pc := 105) C FX6_hasPermit mw_134 h_0 tyX6 tyX6_ok nmX6 (fun _ _ => rfl) rfl dX6_copyFrom_105 (fun M17 => ?_)
  refine r_aload_n (pc := 108) C 0 rfl rfl dX6_copyFrom_108 ?_
  refine r_aload_n (pc := 109) C 1 rfl rfl dX6_copyFrom_109 ?_
  refine r_getI (pc := 110) C FX6_hasInterrupt mw_136 h_1 rfl rfl dX6_copyFrom_110 ?_
  refine r_putZ (pc := 113) C FX6_hasInterrupt mw_136 h_0 tyX6 tyX6_ok nmX6 (fun _ _ => rfl) rfl dX6_copyFrom_113 (fun M18 => ?_)
  refine r_aload_n (pc := 116) C 0 rfl rfl dX6_copyFrom_116 ?_
  refine r_aload_n (pc := 117) C 1 rfl rfl dX6_copyFrom_117 ?_
  refine r_getI (pc := 118) C FX6_cause mw_138 h_1 rfl rfl dX6_copyFrom_118 ?_
  refine r_putI (pc := 121) C FX6_cause mw_138 h_0 tyX6 tyX6_ok nmX6 (fun _ _ => rfl) rfl dX6_copyFrom_121 (fun M19 => ?_)
  refine r_aload_n (pc := 124) C 0 rfl rfl dX6_copyFrom_124 ?_
  refine r_aload_n (pc := 125) C 1 rfl rfl dX6_copyFrom_125 ?_
  refine r_getI (pc := 126) C FX6_deadline mw_140 h_1 rfl rfl dX6_copyFrom_126 ?_
  refine r_putI (pc := 129) C FX6_deadline mw_140 h_0 tyX6 tyX6_ok nmX6 (fun _ _ => rfl) rfl dX6_copyFrom_129 (fun M20 => ?_)
  refine r_aload_n (pc := 132) C 0 rfl rfl dX6_copyFrom_132 ?_
  refine r_aload_n (pc := 133) C 1 rfl rfl dX6_copyFrom_133 ?_
  refine r_getI (pc := 134) C FX6_blockedAt mw_142 h_1 rfl rfl dX6_copyFrom_134 ?_
  refine r_putI (pc := 137) C FX6_blockedAt mw_142 h_0 tyX6 tyX6_ok nmX6 (fun _ _ => rfl) rfl dX6_copyFrom_137 (fun M21 => ?_)
  refine r_aload_n (pc := 140) C 0 rfl rfl dX6_copyFrom_140 ?_
  refine r_aload_n (pc := 141) C 1 rfl rfl dX6_copyFrom_141 ?_
  refine r_getI (pc := 142) C FX6_ticksRun mw_144 h_1 rfl rfl dX6_copyFrom_142 ?_
  refine r_putI (pc := 145) C FX6_ticksRun mw_144 h_0 tyX6 tyX6_ok nmX6 (fun _ _ => rfl) rfl dX6_copyFrom_145 (fun M22 => ?_)
  refine r_aload_n (pc := 148) C 0 rfl rfl dX6_copyFrom_148 ?_
  refine r_aload_n (pc := 149) C 1 rfl rfl dX6_copyFrom_149 ?_
  refine r_getI (pc := 150) C FX6_lastRun mw_146 h_1 rfl rfl dX6_copyFrom_150 ?_
  refine r_putI (pc := 153) C FX6_lastRun mw_146 h_0 tyX6 tyX6_ok nmX6 (fun _ _ => rfl) rfl dX6_copyFrom_153 (fun M23 => ?_)
  refine r_aload_n (pc := 156) C 0 rfl rfl dX6_copyFrom_156 ?_
  refine r_aload_n (pc := 157) C 1 rfl rfl dX6_copyFrom_157 ?_
  refine r_getI (pc := 158) C FX6_parks mw_148 h_1 rfl rfl dX6_copyFrom_158 ?_
  refine r_putI (pc := 161) C FX6_parks mw_148 h_0 tyX6 tyX6_ok nmX6 (fun _ _ => rfl) rfl dX6_copyFrom_161 (fun M24 => ?_)
  exact r_vret (pc := 164) C dX6_copyFrom_164
theorem okX6_copyFrom {l : Launch} {G : WT} (h0 : W0 G) (k : Nat) (i : Nat) (k1 : Nat) (i1 : Nat) (M : Mem) (h_0 : G.2.2.2.1 5 k i) (h_1 : G.2.2.2.1 5 k1 i1) : Okm l G yX6_copyFrom cX6_copyFrom 2 none 1 100 [.ref (G.1 5 k i), .ref (G.1 5 k1 i1)] voV M (pX6_copyFrom k i k1 i1  M) :=
  Okm.of "PermitPark$Strand" rfl (by decide) (Nat.le_of_ble_eq_true rfl) (L := [(0, .ref (G.1 5 k i)), (1, .ref (G.1 5 k1 i1))]) rfl (fun K _ hr C => lX6_copyFrom_0 C (by rw [hr]; exact ⟨rfl, rfl⟩) h0  M h_0 h_1)
def pX6_addStep (k : Nat) (i : Nat) (v1 : Int32) (v2 : Int32) (M : Mem) : Option (Unit × Mem) :=
    if (16 : Int32) ≤ (M.1 5 k i 3) then (some ((), M))
    else chk (inB (M.1 5 k i 3) 16) <| nm (wI M 6 k i (M.1 5 k i 3).toNatClampNeg v1) fun M2 => chk (inB (M2.1 5 k i 3) 16) <| nm (wI M2 7 k i (M2.1 5 k i 3).toNatClampNeg v2) fun M4 => nm (wI M4 5 k i 3 ((M4.1 5 k i 3) + (1 : Int32))) fun M5 => some ((), M5)
theorem lX6_addStep_0 {K : KT} {G : WT} {k : Nat} {i : Nat} (C : Cx K G "PermitPark$Strand" cX6_addStep 3 none) (hRm : K.2.2.2.1.frames = 0 ∧ K.2.2.2.1.locals = 0) (h0 : W0 G) (v1 : Int32) (v2 : Int32) (M : Mem) (h_0 : G.2.2.2.1 5 k i) : Run K G 3 0 0 (FinM K G voV 0 0) 0 [(0, .ref (G.1 5 k i)), (1, .int v1), (2, .int v2)] [] M (pX6_addStep k i  v1 v2 M) := by
  rw [pX6_addStep]
  refine r_aload_n (pc := 0) C 0 rfl rfl dX6_addStep_0 ?_
  refine r_getI (pc := 1) C FX6_length mw_116 h_0 rfl rfl dX6_addStep_1 ?_
  refine r_bipush (pc := 4) C dX6_addStep_4 kb_16 ?_
  refine r_icmp_ge (pc := 6) C dX6_addStep_6 (tgt := 39) rfl ?_ ?_
  exact r_vret (pc := 39) C dX6_addStep_39
  refine r_aload_n (pc := 9) C 0 rfl rfl dX6_addStep_9 ?_
  refine r_getR (pc := 10) C FX6_codes mw_110 h_0 rfl dX6_addStep_10 (fun g1 => ?_)
  refine r_aload_n (pc := 13) C 0 rfl rfl dX6_addStep_13 ?_
  refine r_getI (pc := 14) C FX6_length mw_116 h_0 rfl rfl dX6_addStep_14 ?_
  refine r_iload_n (pc := 17) C 1 rfl rfl dX6_addStep_17 ?_
  refine r_iast (pc := 18) C rfl g1 (fun _ => rfl) (fun _ => rfl) dX6_addStep_18 (fun M2 => ?_)
  refine r_aload_n (pc := 19) C 0 rfl rfl dX6_addStep_19 ?_
  refine r_getR (pc := 20) C FX6_numbers mw_112 h_0 rfl dX6_addStep_20 (fun g3 => ?_)
  refine r_aload_n (pc := 23) C 0 rfl rfl dX6_addStep_23 ?_
  refine r_getI (pc := 24) C FX6_length mw_116 h_0 rfl rfl dX6_addStep_24 ?_
  refine r_iload_n (pc := 27) C 2 rfl rfl dX6_addStep_27 ?_
  refine r_iast (pc := 28) C rfl g3 (fun _ => rfl) (fun _ => rfl) dX6_addStep_28 (fun M4 => ?_)
  refine r_aload_n (pc := 29) C 0 rfl rfl dX6_addStep_29 ?_
  refine r_dup (pc := 30) C dX6_addStep_30 rfl ?_
  refine r_getI (pc := 31) C FX6_length mw_116 h_0 rfl rfl dX6_addStep_31 ?_
  refine r_iconst (pc := 34) C dX6_addStep_34 kc_1 ?_
  refine r_iadd (pc := 35) C dX6_addStep_35 ?_
  refine r_putI (pc := 36) C FX6_length mw_116 h_0 tyX6 tyX6_ok nmX6 (fun _ _ => rfl) rfl dX6_addStep_36 (fun M5 => ?_)
  exact r_vret (pc := 39) C dX6_addStep_39
theorem okX6_addStep {l : Launch} {G : WT} (h0 : W0 G) (k : Nat) (i : Nat) (v1 : Int32) (v2 : Int32) (M : Mem) (h_0 : G.2.2.2.1 5 k i) : Okm l G yX6_addStep cX6_addStep 3 none 0 0 [.ref (G.1 5 k i), .int v1, .int v2] voV M (pX6_addStep k i v1 v2 M) :=
  Okm.of "PermitPark$Strand" rfl (by decide) (Nat.le_of_ble_eq_true rfl) (L := [(0, .ref (G.1 5 k i)), (1, .int v1), (2, .int v2)]) rfl (fun K _ hr C => lX6_addStep_0 C (by rw [hr]; exact ⟨rfl, rfl⟩) h0 v1 v2 M h_0)
def pX6_isOver (k : Nat) (i : Nat) (M : Mem) : Option (Int32 × Mem) :=
    if (M.1 5 k i 7) = (3 : Int32) then (chk (decide ((1 : Int32) = 0 ∨ (1 : Int32) = 1)) (some ((1 : Int32), M)))
    else if ¬ (M.1 5 k i 7) = (4 : Int32) then (chk (decide ((0 : Int32) = 0 ∨ (0 : Int32) = 1)) (some ((0 : Int32), M)))
    else chk (decide ((1 : Int32) = 0 ∨ (1 : Int32) = 1)) (some ((1 : Int32), M))
theorem lX6_isOver_0 {K : KT} {G : WT} {k : Nat} {i : Nat} (C : Cx K G "PermitPark$Strand" cX6_isOver 1 (some FieldType.boolean)) (hRm : K.2.2.2.1.frames = 0 ∧ K.2.2.2.1.locals = 0) (h0 : W0 G) (M : Mem) (h_0 : G.2.2.2.1 5 k i) : Run K G 1 0 0 (FinM K G voI 0 0) 0 [(0, .ref (G.1 5 k i))] [] M (pX6_isOver k i   M) := by
  rw [pX6_isOver]
  refine r_aload_n (pc := 0) C 0 rfl rfl dX6_isOver_0 ?_
  refine r_getI (pc := 1) C FX6_state mw_127 h_0 rfl rfl dX6_isOver_1 ?_
  refine r_iconst (pc := 4) C dX6_isOver_4 kc_3 ?_
  refine r_icmp_eq (pc := 5) C dX6_isOver_5 (tgt := 16) rfl ?_ ?_
  refine r_iconst (pc := 16) C dX6_isOver_16 kc_1 ?_
  refine r_goto (pc := 17) C dX6_isOver_17 (tgt := 21) rfl ?_
  exact r_zret (pc := 21) C dX6_isOver_21
  refine r_aload_n (pc := 8) C 0 rfl rfl dX6_isOver_8 ?_
  refine r_getI (pc := 9) C FX6_state mw_127 h_0 rfl rfl dX6_isOver_9 ?_
  refine r_iconst (pc := 12) C dX6_isOver_12 kc_4 ?_
  refine r_icmp_ne (pc := 13) C dX6_isOver_13 (tgt := 20) rfl ?_ ?_
  refine r_iconst (pc := 20) C dX6_isOver_20 kc_0 ?_
  exact r_zret (pc := 21) C dX6_isOver_21
  refine r_iconst (pc := 16) C dX6_isOver_16 kc_1 ?_
  refine r_goto (pc := 17) C dX6_isOver_17 (tgt := 21) rfl ?_
  exact r_zret (pc := 21) C dX6_isOver_21
theorem okX6_isOver {l : Launch} {G : WT} (h0 : W0 G) (k : Nat) (i : Nat) (M : Mem) (h_0 : G.2.2.2.1 5 k i) : Okm l G yX6_isOver cX6_isOver 1 (some FieldType.boolean) 0 0 [.ref (G.1 5 k i)] voI M (pX6_isOver k i  M) :=
  Okm.of "PermitPark$Strand" rfl (by decide) (Nat.le_of_ble_eq_true rfl) (L := [(0, .ref (G.1 5 k i))]) rfl (fun K _ hr C => lX6_isOver_0 C (by rw [hr]; exact ⟨rfl, rfl⟩) h0  M h_0)
def pX6_allReturns (k : Nat) (i : Nat) (M : Mem) : Option (Int32 × Mem) :=
    chk (inB (1 : Int32) 5) <| chk (inB (2 : Int32) 5) <| chk (inB (3 : Int32) 5) <| chk (inB (4 : Int32) 5) <| some (((((M.1 8 k i (1 : Int32).toNatClampNeg) + (M.1 8 k i (2 : Int32).toNatClampNeg)) + (M.1 8 k i (3 : Int32).toNatClampNeg)) + (M.1 8 k i (4 : Int32).toNatClampNeg)), M)
theorem lX6_allReturns_0 {K : KT} {G : WT} {k : Nat} {i : Nat} (C : Cx K G "PermitPark$Strand" cX6_allReturns 1 (some FieldType.int)) (hRm : K.2.2.2.1.frames = 0 ∧ K.2.2.2.1.locals = 0) (h0 : W0 G) (M : Mem) (h_0 : G.2.2.2.1 5 k i) : Run K G 1 0 0 (FinM K G voI 0 0) 0 [(0, .ref (G.1 5 k i))] [] M (pX6_allReturns k i   M) := by
  rw [pX6_allReturns]
  refine r_aload_n (pc := 0) C 0 rfl rfl dX6_allReturns_0 ?_
  refine r_getR (pc := 1) C FX6_returns mw_114 h_0 rfl dX6_allReturns_1 (fun g1 => ?_)
  refine r_iconst (pc := 4) C dX6_allReturns_4 kc_1 ?_
  refine r_iald (pc := 5) C rfl g1 (fun _ => rfl) (fun _ => rfl) dX6_allReturns_5 ?_
  refine r_aload_n (pc := 6) C 0 rfl rfl dX6_allReturns_6 ?_
  refine r_getR (pc := 7) C FX6_returns mw_114 h_0 rfl dX6_allReturns_7 (fun g2 => ?_)
  refine r_iconst (pc := 10) C dX6_allReturns_10 kc_2 ?_
  refine r_iald (pc := 11) C rfl g1 (fun _ => rfl) (fun _ => rfl) dX6_allReturns_11 ?_
  refine r_iadd (pc := 12) C dX6_allReturns_12 ?_
  refine r_aload_n (pc := 13) C 0 rfl rfl dX6_allReturns_13 ?_
  refine r_getR (pc := 14) C FX6_returns mw_114 h_0 rfl dX6_allReturns_14 (fun g3 => ?_)
  refine r_iconst (pc := 17) C dX6_allReturns_17 kc_3 ?_
  refine r_iald (pc := 18) C rfl g1 (fun _ => rfl) (fun _ => rfl) dX6_allReturns_18 ?_
  refine r_iadd (pc := 19) C dX6_allReturns_19 ?_
  refine r_aload_n (pc := 20) C 0 rfl rfl dX6_allReturns_20 ?_
  refine r_getR (pc := 21) C FX6_returns mw_114 h_0 rfl dX6_allReturns_21 (fun g4 => ?_)
  refine r_iconst (pc := 24) C dX6_allReturns_24 kc_4 ?_
  refine r_iald (pc := 25) C rfl g1 (fun _ => rfl) (fun _ => rfl) dX6_allReturns_25 ?_
  refine r_iadd (pc := 26) C dX6_allReturns_26 ?_
  exact r_iret (pc := 27) C rfl dX6_allReturns_27
theorem okX6_allReturns {l : Launch} {G : WT} (h0 : W0 G) (k : Nat) (i : Nat) (M : Mem) (h_0 : G.2.2.2.1 5 k i) : Okm l G yX6_allReturns cX6_allReturns 1 (some FieldType.int) 0 0 [.ref (G.1 5 k i)] voI M (pX6_allReturns k i  M) :=
  Okm.of "PermitPark$Strand" rfl (by decide) (Nat.le_of_ble_eq_true rfl) (L := [(0, .ref (G.1 5 k i))]) rfl (fun K _ hr C => lX6_allReturns_0 C (by rw [hr]; exact ⟨rfl, rfl⟩) h0  M h_0)
def pX6_number (k : Nat) (i : Nat) (v1 : Int32) (M : Mem) : Option (Int32 × Mem) :=
    if v1 = (0 : Int32) then (some ((M.1 5 k i 4), M))
    else if v1 = (1 : Int32) then (some ((M.1 5 k i 5), M))
    else if v1 = (2 : Int32) then (some ((M.1 5 k i 7), M))
    else if v1 = (3 : Int32) then (some ((M.1 5 k i 8), M))
    else if v1 = (4 : Int32) then (if (M.1 5 k i 10) = 0 then (some ((0 : Int32), M))
    else some ((1 : Int32), M))
    else if v1 = (5 : Int32) then (if (M.1 5 k i 11) = 0 then (some ((0 : Int32), M))
    else some ((1 : Int32), M))
    else if v1 = (6 : Int32) then (some ((M.1 5 k i 12), M))
    else if v1 = (7 : Int32) then (some ((M.1 5 k i 13), M))
    else if v1 = (8 : Int32) then (some ((M.1 5 k i 14), M))
    else if v1 = (9 : Int32) then (some ((M.1 5 k i 3), M))
    else if v1 = (10 : Int32) then (some ((M.1 5 k i 15), M))
    else if v1 = (11 : Int32) then (some ((M.1 5 k i 16), M))
    else if v1 = (12 : Int32) then (some ((M.1 5 k i 17), M))
    else if v1 = (13 : Int32) then (chk (inB (1 : Int32) 5) <| some ((M.1 8 k i (1 : Int32).toNatClampNeg), M))
    else if v1 = (14 : Int32) then (chk (inB (2 : Int32) 5) <| some ((M.1 8 k i (2 : Int32).toNatClampNeg), M))
    else if v1 = (15 : Int32) then (chk (inB (3 : Int32) 5) <| some ((M.1 8 k i (3 : Int32).toNatClampNeg), M))
    else if v1 = (16 : Int32) then (chk (inB (4 : Int32) 5) <| some ((M.1 8 k i (4 : Int32).toNatClampNeg), M))
    else if v1 = (17 : Int32) then (if ¬ (M.1 5 k i 6) = 0 then (some ((M.1 5 k i 6), M))
    else some ((M.1 5 k i 4), M))
    else some ((M.1 5 k i 3), M)
theorem lX6_number_0 {K : KT} {G : WT} {k : Nat} {i : Nat} (C : Cx K G "PermitPark$Strand" cX6_number 2 (some FieldType.int)) (hRm : K.2.2.2.1.frames = 0 ∧ K.2.2.2.1.locals = 0) (h0 : W0 G) (v1 : Int32) (M : Mem) (h_0 : G.2.2.2.1 5 k i) : Run K G 2 0 0 (FinM K G voI 0 0) 0 [(0, .ref (G.1 5 k i)), (1, .int v1)] [] M (pX6_number k i  v1 M) := by
  rw [pX6_number]
  refine r_iload_n (pc := 0) C 1 rfl rfl dX6_number_0 ?_
  refine r_ite (fun e1 => ?_) (fun e1n => ?_)
  refine r_tabE (pc := 1) C e1 dX6_number_1 (by decide) (by decide) (off := 87) rfl (tgt := 88) rfl ?_
  refine r_aload_n (pc := 88) C 0 rfl rfl dX6_number_88 ?_
  refine r_getI (pc := 89) C FX6_base mw_119 h_0 rfl rfl dX6_number_89 ?_
  exact r_iret (pc := 92) C rfl dX6_number_92
  refine r_ite (fun e2 => ?_) (fun e2n => ?_)
  refine r_tabE (pc := 1) C e2 dX6_number_1 (by decide) (by decide) (off := 92) rfl (tgt := 93) rfl ?_
  refine r_aload_n (pc := 93) C 0 rfl rfl dX6_number_93 ?_
  refine r_getI (pc := 94) C FX6_priority mw_122 h_0 rfl rfl dX6_number_94 ?_
  exact r_iret (pc := 97) C rfl dX6_number_97
  refine r_ite (fun e3 => ?_) (fun e3n => ?_)
  refine r_tabE (pc := 1) C e3 dX6_number_1 (by decide) (by decide) (off := 97) rfl (tgt := 98) rfl ?_
  refine r_aload_n (pc := 98) C 0 rfl rfl dX6_number_98 ?_
  refine r_getI (pc := 99) C FX6_state mw_127 h_0 rfl rfl dX6_number_99 ?_
  exact r_iret (pc := 102) C rfl dX6_number_102
  refine r_ite (fun e4 => ?_) (fun e4n => ?_)
  refine r_tabE (pc := 1) C e4 dX6_number_1 (by decide) (by decide) (off := 102) rfl (tgt := 103) rfl ?_
  refine r_aload_n (pc := 103) C 0 rfl rfl dX6_number_103 ?_
  refine r_getI (pc := 104) C FX6_place mw_130 h_0 rfl rfl dX6_number_104 ?_
  exact r_iret (pc := 107) C rfl dX6_number_107
  refine r_ite (fun e5 => ?_) (fun e5n => ?_)
  refine r_tabE (pc := 1) C e5 dX6_number_1 (by decide) (by decide) (off := 107) rfl (tgt := 108) rfl ?_
  refine r_aload_n (pc := 108) C 0 rfl rfl dX6_number_108 ?_
  refine r_getI (pc := 109) C FX6_hasPermit mw_134 h_0 rfl rfl dX6_number_109 ?_
  refine r_if_eq (pc := 112) C dX6_number_112 (tgt := 119) rfl ?_ ?_
  refine r_iconst (pc := 119) C dX6_number_119 kc_0 ?_
  exact r_iret (pc := 120) C rfl dX6_number_120
  refine r_iconst (pc := 115) C dX6_number_115 kc_1 ?_
  refine r_goto (pc := 116) C dX6_number_116 (tgt := 120) rfl ?_
  exact r_iret (pc := 120) C rfl dX6_number_120
  refine r_ite (fun e6 => ?_) (fun e6n => ?_)
  refine r_tabE (pc := 1) C e6 dX6_number_1 (by decide) (by decide) (off := 120) rfl (tgt := 121) rfl ?_
  refine r_aload_n (pc := 121) C 0 rfl rfl dX6_number_121 ?_
  refine r_getI (pc := 122) C FX6_hasInterrupt mw_136 h_0 rfl rfl dX6_number_122 ?_
  refine r_if_eq (pc := 125) C dX6_number_125 (tgt := 132) rfl ?_ ?_
  refine r_iconst (pc := 132) C dX6_number_132 kc_0 ?_
  exact r_iret (pc := 133) C rfl dX6_number_133
  refine r_iconst (pc := 128) C dX6_number_128 kc_1 ?_
  refine r_goto (pc := 129) C dX6_number_129 (tgt := 133) rfl ?_
  exact r_iret (pc := 133) C rfl dX6_number_133
  refine r_ite (fun e7 => ?_) (fun e7n => ?_)
  refine r_tabE (pc := 1) C e7 dX6_number_1 (by decide) (by decide) (off := 133) rfl (tgt := 134) rfl ?_
  refine r_aload_n (pc := 134) C 0 rfl rfl dX6_number_134 ?_
  refine r_getI (pc := 135) C FX6_cause mw_138 h_0 rfl rfl dX6_number_135 ?_
  exact r_iret (pc := 138) C rfl dX6_number_138
  refine r_ite (fun e8 => ?_) (fun e8n => ?_)
  refine r_tabE (pc := 1) C e8 dX6_number_1 (by decide) (by decide) (off := 138) rfl (tgt := 139) rfl ?_
  refine r_aload_n (pc := 139) C 0 rfl rfl dX6_number_139 ?_
  refine r_getI (pc := 140) C FX6_deadline mw_140 h_0 rfl rfl dX6_number_140 ?_
  exact r_iret (pc := 143) C rfl dX6_number_143
  refine r_ite (fun e9 => ?_) (fun e9n => ?_)
  refine r_tabE (pc := 1) C e9 dX6_number_1 (by decide) (by decide) (off := 143) rfl (tgt := 144) rfl ?_
  refine r_aload_n (pc := 144) C 0 rfl rfl dX6_number_144 ?_
  refine r_getI (pc := 145) C FX6_blockedAt mw_142 h_0 rfl rfl dX6_number_145 ?_
  exact r_iret (pc := 148) C rfl dX6_number_148
  refine r_ite (fun e10 => ?_) (fun e10n => ?_)
  refine r_tabE (pc := 1) C e10 dX6_number_1 (by decide) (by decide) (off := 210) rfl (tgt := 211) rfl ?_
  refine r_aload_n (pc := 211) C 0 rfl rfl dX6_number_211 ?_
  refine r_getI (pc := 212) C FX6_length mw_116 h_0 rfl rfl dX6_number_212 ?_
  exact r_iret (pc := 215) C rfl dX6_number_215
  refine r_ite (fun e11 => ?_) (fun e11n => ?_)
  refine r_tabE (pc := 1) C e11 dX6_number_1 (by decide) (by decide) (off := 148) rfl (tgt := 149) rfl ?_
  refine r_aload_n (pc := 149) C 0 rfl rfl dX6_number_149 ?_
  refine r_getI (pc := 150) C FX6_ticksRun mw_144 h_0 rfl rfl dX6_number_150 ?_
  exact r_iret (pc := 153) C rfl dX6_number_153
  refine r_ite (fun e12 => ?_) (fun e12n => ?_)
  refine r_tabE (pc := 1) C e12 dX6_number_1 (by decide) (by decide) (off := 153) rfl (tgt := 154) rfl ?_
  refine r_aload_n (pc := 154) C 0 rfl rfl dX6_number_154 ?_
  refine r_getI (pc := 155) C FX6_lastRun mw_146 h_0 rfl rfl dX6_number_155 ?_
  exact r_iret (pc := 158) C rfl dX6_number_158
  refine r_ite (fun e13 => ?_) (fun e13n => ?_)
  refine r_tabE (pc := 1) C e13 dX6_number_1 (by decide) (by decide) (off := 158) rfl (tgt := 159) rfl ?_
  refine r_aload_n (pc := 159) C 0 rfl rfl dX6_number_159 ?_
  refine r_getI (pc := 160) C FX6_parks mw_148 h_0 rfl rfl dX6_number_160 ?_
  exact r_iret (pc := 163) C rfl dX6_number_163
  refine r_ite (fun e14 => ?_) (fun e14n => ?_)
  refine r_tabE (pc := 1) C e14 dX6_number_1 (by decide) (by decide) (off := 163) rfl (tgt := 164) rfl ?_
  refine r_aload_n (pc := 164) C 0 rfl rfl dX6_number_164 ?_
  refine r_getR (pc := 165) C FX6_returns mw_114 h_0 rfl dX6_number_165 (fun g15 => ?_)
  refine r_iconst (pc := 168) C dX6_number_168 kc_1 ?_
  refine r_iald (pc := 169) C rfl g15 (fun _ => rfl) (fun _ => rfl) dX6_number_169 ?_
  exact r_iret (pc := 170) C rfl dX6_number_170
  refine r_ite (fun e16 => ?_) (fun e16n => ?_)
  refine r_tabE (pc := 1) C e16 dX6_number_1 (by decide) (by decide) (off := 170) rfl (tgt := 171) rfl ?_
  refine r_aload_n (pc := 171) C 0 rfl rfl dX6_number_171 ?_
  refine r_getR (pc := 172) C FX6_returns mw_114 h_0 rfl dX6_number_172 (fun g17 => ?_)
  refine r_iconst (pc := 175) C dX6_number_175 kc_2 ?_
  refine r_iald (pc := 176) C rfl g17 (fun _ => rfl) (fun _ => rfl) dX6_number_176 ?_
  exact r_iret (pc := 177) C rfl dX6_number_177
  refine r_ite (fun e18 => ?_) (fun e18n => ?_)
  refine r_tabE (pc := 1) C e18 dX6_number_1 (by decide) (by decide) (off := 177) rfl (tgt := 178) rfl ?_
  refine r_aload_n (pc := 178) C 0 rfl rfl dX6_number_178 ?_
  refine r_getR (pc := 179) C FX6_returns mw_114 h_0 rfl dX6_number_179 (fun g19 => ?_)
  refine r_iconst (pc := 182) C dX6_number_182 kc_3 ?_
  refine r_iald (pc := 183) C rfl g19 (fun _ => rfl) (fun _ => rfl) dX6_number_183 ?_
  exact r_iret (pc := 184) C rfl dX6_number_184
  refine r_ite (fun e20 => ?_) (fun e20n => ?_)
  refine r_tabE (pc := 1) C e20 dX6_number_1 (by decide) (by decide) (off := 184) rfl (tgt := 185) rfl ?_
  refine r_aload_n (pc := 185) C 0 rfl rfl dX6_number_185 ?_
  refine r_getR (pc := 186) C FX6_returns mw_114 h_0 rfl dX6_number_186 (fun g21 => ?_)
  refine r_iconst (pc := 189) C dX6_number_189 kc_4 ?_
  refine r_iald (pc := 190) C rfl g21 (fun _ => rfl) (fun _ => rfl) dX6_number_190 ?_
  exact r_iret (pc := 191) C rfl dX6_number_191
  refine r_ite (fun e22 => ?_) (fun e22n => ?_)
  refine r_tabE (pc := 1) C e22 dX6_number_1 (by decide) (by decide) (off := 191) rfl (tgt := 192) rfl ?_
  refine r_aload_n (pc := 192) C 0 rfl rfl dX6_number_192 ?_
  refine r_getI (pc := 193) C FX6_greatest mw_125 h_0 rfl rfl dX6_number_193 ?_
  refine r_if_ne (pc := 196) C dX6_number_196 (tgt := 206) rfl ?_ ?_
  refine r_aload_n (pc := 206) C 0 rfl rfl dX6_number_206 ?_
  refine r_getI (pc := 207) C FX6_greatest mw_125 h_0 rfl rfl dX6_number_207 ?_
  exact r_iret (pc := 210) C rfl dX6_number_210
  refine r_aload_n (pc := 199) C 0 rfl rfl dX6_number_199 ?_
  refine r_getI (pc := 200) C FX6_base mw_119 h_0 rfl rfl dX6_number_200 ?_
  refine r_goto (pc := 203) C dX6_number_203 (tgt := 210) rfl ?_
  exact r_iret (pc := 210) C rfl dX6_number_210
  refine r_tabD (pc := 1) C (cz := [0, 1, 2, 3, 4, 5, 6, 7, 8, 9, 10, 11, 12, 13, 14, 15, 16, 17]) (tabN_cons e1n (tabN_cons e2n (tabN_cons e3n (tabN_cons e4n (tabN_cons e5n (tabN_cons e6n (tabN_cons e7n (tabN_cons e8n (tabN_cons e9n (tabN_cons e10n (tabN_cons e11n (tabN_cons e12n (tabN_cons e13n (tabN_cons e14n (tabN_cons e16n (tabN_cons e18n (tabN_cons e20n (tabN_cons e22n tabN_nil)))))))))))))))))) dX6_number_1 (by decide) (tgt := 211) rfl ?_
  refine r_aload_n (pc := 211) C 0 rfl rfl dX6_number_211 ?_
  refine r_getI (pc := 212) C FX6_length mw_116 h_0 rfl rfl dX6_number_212 ?_
  exact r_iret (pc := 215) C rfl dX6_number_215
theorem okX6_number {l : Launch} {G : WT} (h0 : W0 G) (k : Nat) (i : Nat) (v1 : Int32) (M : Mem) (h_0 : G.2.2.2.1 5 k i) : Okm l G yX6_number cX6_number 2 (some FieldType.int) 0 0 [.ref (G.1 5 k i), .int v1] voI M (pX6_number k i v1 M) :=
  Okm.of "PermitPark$Strand" rfl (by decide) (Nat.le_of_ble_eq_true rfl) (L := [(0, .ref (G.1 5 k i)), (1, .int v1)]) rfl (fun K _ hr C => lX6_number_0 C (by rw [hr]; exact ⟨rfl, rfl⟩) h0 v1 M h_0)
def pJx29ce0_ordinal_8abf5 (e : Nat) (M : Mem) : Option (Int32 × Mem) :=
    some ((nI e), M)
theorem lJx29ce0_ordinal_8abf5_0 {K : KT} {G : WT} {e : Nat} (C : Cx K G "java/lang/Enum" cJx29ce0_ordinal_8abf5 1 (some FieldType.int)) (hRm : K.2.2.2.1.frames = 0 ∧ K.2.2.2.1.locals = 0) (h0 : W0 G) (M : Mem) (h_0 : e < 11) : Run K G 1 0 0 (FinM K G voI 0 0) 0 [(0, .ref (G.2.2.2.2.2.1 e))] [] M (pJx29ce0_ordinal_8abf5 e   M) := by
  rw [pJx29ce0_ordinal_8abf5]
  refine r_aload_n (pc := 0) C 0 rfl rfl dJx29ce0_ordinal_8abf5_0 ?_
  refine r_opOrd (pc := 1) C h_0 mw_881 dJx29ce0_ordinal_8abf5_1 ?_
  exact r_iret (pc := 4) C rfl dJx29ce0_ordinal_8abf5_4
theorem okJx29ce0_ordinal_8abf5 {l : Launch} {G : WT} (h0 : W0 G) (e : Nat) (M : Mem) (h_0 : e < 11) : Okm l G yJx29ce0_ordinal_8abf5 cJx29ce0_ordinal_8abf5 1 (some FieldType.int) 0 0 [.ref (G.2.2.2.2.2.1 e)] voI M (pJx29ce0_ordinal_8abf5 e  M) :=
  Okm.of "java/lang/Enum" rfl (by decide) (Nat.le_of_ble_eq_true rfl) (L := [(0, .ref (G.2.2.2.2.2.1 e))]) rfl (fun K _ hr C => lJx29ce0_ordinal_8abf5_0 C (by rw [hr]; exact ⟨rfl, rfl⟩) h0  M h_0)
end
