section
set_option maxRecDepth 10000
def pL_law_757 (N : Nat) (xs : Nat → Int32) (k28 : Int32 → Mem → Option (Int32 × Mem)) (v5 : Int32) (s0 : Int64) (s1 : Int64) (M : Mem) : Option (Int32 × Mem) :=
    if (lg_cmp s1 s0) = 0 then (k28 (v5 + (4 : Int32)) M)
    else some ((0 : Int32), M)
theorem lL_law_757 {K : KT} {G : WT} {b N : Nat} {xs : Nat → Int32} {k28 : Int32 → Mem → Option (Int32 × Mem)} (C : Cx K G "PermitParkLaw" cL_law 10 (some FieldType.boolean)) {cs sl : Nat} (Y : Cy0 K) (X : Lx K G b N xs) (hcs : cs + 8 ≤ 601024) (hsl : sl + 48 ≤ 7293034) (h0 : W0 G)
    (hk28 : ∀ (v5 : Int32) (M : Mem), G.2.2.2.1 0 0 0 → G.2.2.2.1 19 0 0 → G.2.2.2.1 30 0 0 → G.2.2.2.1 31 0 0 → Run K G 10 (cs + 8) (sl + 48) (FinL K b) 28 [(0, .ref b), (1, .ref (G.1 0 0 0)), (2, .ref (G.1 19 0 0)), (3, .ref (G.1 30 0 0)), (4, .ref (G.1 31 0 0)), (5, .int v5)] [] M (k28 v5 M)) (v5 : Int32) (s0 : Int64) (s1 : Int64) (M : Mem) (g_1 : G.2.2.2.1 0 0 0) (g_2 : G.2.2.2.1 19 0 0) (g_3 : G.2.2.2.1 30 0 0) (g_4 : G.2.2.2.1 31 0 0) : Run K G 10 (cs + 1) (sl + 6) (FinL K b) 757 [(0, .ref b), (1, .ref (G.1 0 0 0)), (2, .ref (G.1 19 0 0)), (3, .ref (G.1 30 0 0)), (4, .ref (G.1 31 0 0)), (5, .int v5)] [.long s0, .long s1] M (pL_law_757 N xs k28 v5 s0 s1 M) := by
  rw [pL_law_757]
  refine r_lcmp (pc := 757) C dL_law_757 ?_
  refine r_if_eq (pc := 758) C dL_law_758 (tgt := 763) rfl ?_ ?_
  refine r_goto (pc := 763) C dL_law_763 (tgt := 2025) rfl ?_
  refine r_iinc (pc := 2025) C [(5, .int (v5 + (4 : Int32))), (0, .ref b), (1, .ref (G.1 0 0 0)), (2, .ref (G.1 19 0 0)), (3, .ref (G.1 30 0 0)), (4, .ref (G.1 31 0 0))] dL_law_2025 (p := 5) rfl (ki_4 _) (by decide) rfl ?_
  refine r_goto (pc := 2028) C dL_law_2028 (tgt := 28) rfl ?_
  refine r_sub [1, 2, 3, 4, 5, 0] rfl ?_
  refine r_wid (cs' := cs + 8) (sl' := sl + 48) (by omega) (by omega) ?_
  exact hk28 (v5 + (4 : Int32)) M g_1 g_2 g_3 g_4
  refine r_iconst (pc := 761) C dL_law_761 kc_0 ?_
  exact l_ret (pc := 762) C X (by omega) (by omega) dL_law_762
def pL_law_723 (N : Nat) (xs : Nat → Int32) (k28 : Int32 → Mem → Option (Int32 × Mem)) (v5 : Int32) (v6 : Int32) (s0 : Int32) (s1 : Int32) (M : Mem) : Option (Int32 × Mem) :=
    bnd (pX8_setFlag s1 s0 M) fun o2 M1 => bnd (pX8_thrown M1) fun o4 M3 => if o4 = v6 then (if ¬ v6 = 0 then (k28 (v5 + (4 : Int32)) M3)
    else chk (inB (0 : Int32) 1) <| if o2 = 0 then (pL_law_757 N xs k28  v5 (0 : Int64) (M3.2.2.1) M3)
    else pL_law_757 N xs k28  v5 (1 : Int64) (M3.2.2.1) M3)
    else some ((0 : Int32), M3)
theorem lL_law_723 {K : KT} {G : WT} {b N : Nat} {xs : Nat → Int32} {k28 : Int32 → Mem → Option (Int32 × Mem)} (C : Cx K G "PermitParkLaw" cL_law 10 (some FieldType.boolean)) {cs sl : Nat} (Y : Cy0 K) (X : Lx K G b N xs) (hcs : cs + 8 ≤ 601024) (hsl : sl + 48 ≤ 7293034) (h0 : W0 G)
    (hk28 : ∀ (v5 : Int32) (M : Mem), G.2.2.2.1 0 0 0 → G.2.2.2.1 19 0 0 → G.2.2.2.1 30 0 0 → G.2.2.2.1 31 0 0 → Run K G 10 (cs + 8) (sl + 48) (FinL K b) 28 [(0, .ref b), (1, .ref (G.1 0 0 0)), (2, .ref (G.1 19 0 0)), (3, .ref (G.1 30 0 0)), (4, .ref (G.1 31 0 0)), (5, .int v5)] [] M (k28 v5 M)) (v5 : Int32) (v6 : Int32) (s0 : Int32) (s1 : Int32) (M : Mem) (g_1 : G.2.2.2.1 0 0 0) (g_2 : G.2.2.2.1 19 0 0) (g_3 : G.2.2.2.1 30 0 0) (g_4 : G.2.2.2.1 31 0 0) (g_s2 : G.2.2.2.1 19 0 0) : Run K G 10 (cs + 1) (sl + 6) (FinL K b) 723 [(0, .ref b), (1, .ref (G.1 0 0 0)), (2, .ref (G.1 19 0 0)), (3, .ref (G.1 30 0 0)), (4, .ref (G.1 31 0 0)), (5, .int v5), (6, .int v6)] [.int s0, .int s1, .ref (G.1 19 0 0)] M (pL_law_723 N xs k28 v5 v6 s0 s1 M) := by
  rw [pL_law_723]
  refine r_wVI (pc := 723) C (Rx.law X (by omega) (by omega) rfl rfl) (okX8_setFlag h0 s1 s0 M g_s2) (Rc.of C rfl rfl g_s2) mw_1267 cvX8_setFlag rfl rfl (Nat.le_of_ble_eq_true rfl) dL_law_723 (fun o2 M1 => ?_)
  refine r_istore (pc := 726) C [(7, .int o2), (0, .ref b), (1, .ref (G.1 0 0 0)), (2, .ref (G.1 19 0 0)), (3, .ref (G.1 30 0 0)), (4, .ref (G.1 31 0 0)), (5, .int v5), (6, .int v6)] dL_law_726 (by decide) rfl ?_
  refine r_aload_n (pc := 728) C 3 rfl rfl dL_law_728 ?_
  refine r_wVI (pc := 729) C (Rx.law X (by omega) (by omega) rfl rfl) (okX8_thrown h0 M1 g_s2) (Rc.of C rfl rfl g_s2) mw_1076 cvX8_thrown rfl rfl (Nat.le_of_ble_eq_true rfl) dL_law_729 (fun o4 M3 => ?_)
  refine r_iload (pc := 732) C 7 rfl dL_law_732 ?_
  refine r_icmp_eq (pc := 734) C dL_law_734 (tgt := 739) rfl ?_ ?_
  refine r_iload (pc := 739) C 7 rfl dL_law_739 ?_
  refine r_if_ne (pc := 741) C dL_law_741 (tgt := 763) rfl ?_ ?_
  refine r_goto (pc := 763) C dL_law_763 (tgt := 2025) rfl ?_
  refine r_iinc (pc := 2025) C [(5, .int (v5 + (4 : Int32))), (7, .int o2), (0, .ref b), (1, .ref (G.1 0 0 0)), (2, .ref (G.1 19 0 0)), (3, .ref (G.1 30 0 0)), (4, .ref (G.1 31 0 0)), (6, .int v6)] dL_law_2025 (p := 6) rfl (ki_4 _) (by decide) rfl ?_
  refine r_goto (pc := 2028) C dL_law_2028 (tgt := 28) rfl ?_
  refine r_sub [2, 3, 4, 5, 6, 0] rfl ?_
  refine r_wid (cs' := cs + 8) (sl' := sl + 48) (by omega) (by omega) ?_
  exact hk28 (v5 + (4 : Int32)) M3 g_1 g_s2 g_3 g_4
  refine r_aload_n (pc := 744) C 4 rfl rfl dL_law_744 ?_
  refine r_iconst (pc := 745) C dL_law_745 kc_0 ?_
  refine r_lald (pc := 746) C g_3 dL_law_746 ?_
  refine r_iload (pc := 747) C 0 rfl dL_law_747 ?_
  refine r_if_eq (pc := 749) C dL_law_749 (tgt := 756) rfl ?_ ?_
  refine r_lconst (pc := 756) C dL_law_756 (rfl : _ = (0 : Int64)) ?_
  refine r_sub [1, 2, 3, 4, 5, 6] rfl ?_
  refine r_wid (cs' := cs + 1) (sl' := sl + 6) (by omega) (by omega) ?_
  exact lL_law_757 (N := N) (xs := xs) (b := b) (cs := cs) (sl := sl) (k28 := k28) C Y X hcs hsl h0 hk28  v5 (0 : Int64) (M3.2.2.1) M3 g_1 g_s2 g_3 g_4
  refine r_lconst (pc := 752) C dL_law_752 (rfl : _ = (1 : Int64)) ?_
  refine r_goto (pc := 753) C dL_law_753 (tgt := 757) rfl ?_
  refine r_sub [1, 2, 3, 4, 5, 6] rfl ?_
  refine r_wid (cs' := cs + 1) (sl' := sl + 6) (by omega) (by omega) ?_
  exact lL_law_757 (N := N) (xs := xs) (b := b) (cs := cs) (sl := sl) (k28 := k28) C Y X hcs hsl h0 hk28  v5 (1 : Int64) (M3.2.2.1) M3 g_1 g_s2 g_3 g_4
  refine r_iconst (pc := 737) C dL_law_737 kc_0 ?_
  exact l_ret (pc := 738) C X (by omega) (by omega) dL_law_738
def pL_law_696 (N : Nat) (xs : Nat → Int32) (k28 : Int32 → Mem → Option (Int32 × Mem)) (v5 : Int32) (s0 : Int32) (s1 : Int32) (M : Mem) : Option (Int32 × Mem) :=
    bndc (pL_setFlag s1 s0 M) (g := fun _ _ => none) fun o2 M1 => chk (inB (v5 + (1 : Int32)) N) <| chk (inB (v5 + (2 : Int32)) N) <| if (xs (v5 + (2 : Int32)).toNatClampNeg) = 0 then (pL_law_723 N xs k28  v5 o2 (0 : Int32) (xs (v5 + (1 : Int32)).toNatClampNeg) M1)
    else pL_law_723 N xs k28  v5 o2 (1 : Int32) (xs (v5 + (1 : Int32)).toNatClampNeg) M1
theorem lL_law_696 {K : KT} {G : WT} {b N : Nat} {xs : Nat → Int32} {k28 : Int32 → Mem → Option (Int32 × Mem)} (C : Cx K G "PermitParkLaw" cL_law 10 (some FieldType.boolean)) {cs sl : Nat} (Y : Cy0 K) (X : Lx K G b N xs) (hcs : cs + 8 ≤ 601024) (hsl : sl + 48 ≤ 7293034) (h0 : W0 G)
    (hk28 : ∀ (v5 : Int32) (M : Mem), G.2.2.2.1 0 0 0 → G.2.2.2.1 19 0 0 → G.2.2.2.1 30 0 0 → G.2.2.2.1 31 0 0 → Run K G 10 (cs + 8) (sl + 48) (FinL K b) 28 [(0, .ref b), (1, .ref (G.1 0 0 0)), (2, .ref (G.1 19 0 0)), (3, .ref (G.1 30 0 0)), (4, .ref (G.1 31 0 0)), (5, .int v5)] [] M (k28 v5 M)) (v5 : Int32) (s0 : Int32) (s1 : Int32) (M : Mem) (g_1 : G.2.2.2.1 0 0 0) (g_2 : G.2.2.2.1 19 0 0) (g_3 : G.2.2.2.1 30 0 0) (g_4 : G.2.2.2.1 31 0 0) (g_s2 : G.2.2.2.1 0 0 0) : Run K G 10 cs sl (FinL K b) 696 [(0, .ref b), (1, .ref (G.1 0 0 0)), (2, .ref (G.1 19 0 0)), (3, .ref (G.1 30 0 0)), (4, .ref (G.1 31 0 0)), (5, .int v5)] [.int s0, .int s1, .ref (G.1 0 0 0)] M (pL_law_696 N xs k28 v5 s0 s1 M) := by
  rw [pL_law_696]
  refine r_aload_n (pc := 696) C 3 rfl rfl dL_law_696 ?_
  refine r_hSI (pc := 697) C Y (Rx.law X (by omega) (by omega) rfl rfl) (okL_setFlag h0 Y.1 s1 s0 M g_s2 g_3) mw_803 cvL_setFlag rfl rfl (Nat.le_of_ble_eq_true rfl) dL_law_697 (fun o2 M1 => ?_)
  refine r_istore (pc := 700) C [(6, .int o2), (0, .ref b), (1, .ref (G.1 0 0 0)), (2, .ref (G.1 19 0 0)), (3, .ref (G.1 30 0 0)), (4, .ref (G.1 31 0 0)), (5, .int v5)] dL_law_700 (by decide) rfl ?_
  refine r_aload_n (pc := 702) C 3 rfl rfl dL_law_702 ?_
  refine r_aload_n (pc := 703) C 1 rfl rfl dL_law_703 ?_
  refine r_iload (pc := 704) C 6 rfl dL_law_704 ?_
  refine r_iconst (pc := 706) C dL_law_706 kc_1 ?_
  refine r_iadd (pc := 707) C dL_law_707 ?_
  refine r_xsL (pc := 708) C X dL_law_708 ?_
  refine r_aload_n (pc := 709) C 1 rfl rfl dL_law_709 ?_
  refine r_iload (pc := 710) C 6 rfl dL_law_710 ?_
  refine r_iconst (pc := 712) C dL_law_712 kc_2 ?_
  refine r_iadd (pc := 713) C dL_law_713 ?_
  refine r_xsL (pc := 714) C X dL_law_714 ?_
  refine r_if_eq (pc := 715) C dL_law_715 (tgt := 722) rfl ?_ ?_
  refine r_iconst (pc := 722) C dL_law_722 kc_0 ?_
  refine r_sub [1, 2, 3, 4, 5, 6, 0] rfl ?_
  refine r_wid (cs' := cs + 1) (sl' := sl + 6) (by omega) (by omega) ?_
  exact lL_law_723 (N := N) (xs := xs) (b := b) (cs := cs) (sl := sl) (k28 := k28) C Y X hcs hsl h0 hk28  v5 o2 (0 : Int32) (xs (v5 + (1 : Int32)).toNatClampNeg) M1 g_s2 g_2 g_3 g_4 g_2
  refine r_iconst (pc := 718) C dL_law_718 kc_1 ?_
  refine r_goto (pc := 719) C dL_law_719 (tgt := 723) rfl ?_
  refine r_sub [1, 2, 3, 4, 5, 6, 0] rfl ?_
  refine r_wid (cs' := cs + 1) (sl' := sl + 6) (by omega) (by omega) ?_
  exact lL_law_723 (N := N) (xs := xs) (b := b) (cs := cs) (sl := sl) (k28 := k28) C Y X hcs hsl h0 hk28  v5 o2 (1 : Int32) (xs (v5 + (1 : Int32)).toNatClampNeg) M1 g_s2 g_2 g_3 g_4 g_2
def pL_law_1092 (N : Nat) (xs : Nat → Int32) (k28 : Int32 → Mem → Option (Int32 × Mem)) (v5 : Int32) (s0 : Int64) (s1 : Int64) (M : Mem) : Option (Int32 × Mem) :=
    if (lg_cmp s1 s0) = 0 then (k28 (v5 + (4 : Int32)) M)
    else some ((0 : Int32), M)
theorem lL_law_1092 {K : KT} {G : WT} {b N : Nat} {xs : Nat → Int32} {k28 : Int32 → Mem → Option (Int32 × Mem)} (C : Cx K G "PermitParkLaw" cL_law 10 (some FieldType.boolean)) {cs sl : Nat} (Y : Cy0 K) (X : Lx K G b N xs) (hcs : cs + 8 ≤ 601024) (hsl : sl + 48 ≤ 7293034) (h0 : W0 G)
    (hk28 : ∀ (v5 : Int32) (M : Mem), G.2.2.2.1 0 0 0 → G.2.2.2.1 19 0 0 → G.2.2.2.1 30 0 0 → G.2.2.2.1 31 0 0 → Run K G 10 (cs + 8) (sl + 48) (FinL K b) 28 [(0, .ref b), (1, .ref (G.1 0 0 0)), (2, .ref (G.1 19 0 0)), (3, .ref (G.1 30 0 0)), (4, .ref (G.1 31 0 0)), (5, .int v5)] [] M (k28 v5 M)) (v5 : Int32) (s0 : Int64) (s1 : Int64) (M : Mem) (g_1 : G.2.2.2.1 0 0 0) (g_2 : G.2.2.2.1 19 0 0) (g_3 : G.2.2.2.1 30 0 0) (g_4 : G.2.2.2.1 31 0 0) : Run K G 10 (cs + 1) (sl + 6) (FinL K b) 1092 [(0, .ref b), (1, .ref (G.1 0 0 0)), (2, .ref (G.1 19 0 0)), (3, .ref (G.1 30 0 0)), (4, .ref (G.1 31 0 0)), (5, .int v5)] [.long s0, .long s1] M (pL_law_1092 N xs k28 v5 s0 s1 M) := by
  rw [pL_law_1092]
  refine r_lcmp (pc := 1092) C dL_law_1092 ?_
  refine r_if_eq (pc := 1093) C dL_law_1093 (tgt := 1098) rfl ?_ ?_
  refine r_goto (pc := 1098) C dL_law_1098 (tgt := 2025) rfl ?_
  refine r_iinc (pc := 2025) C [(5, .int (v5 + (4 : Int32))), (0, .ref b), (1, .ref (G.1 0 0 0)), (2, .ref (G.1 19 0 0)), (3, .ref (G.1 30 0 0)), (4, .ref (G.1 31 0 0))] dL_law_2025 (p := 5) rfl (ki_4 _) (by decide) rfl ?_
  refine r_goto (pc := 2028) C dL_law_2028 (tgt := 28) rfl ?_
  refine r_sub [1, 2, 3, 4, 5, 0] rfl ?_
  refine r_wid (cs' := cs + 8) (sl' := sl + 48) (by omega) (by omega) ?_
  exact hk28 (v5 + (4 : Int32)) M g_1 g_2 g_3 g_4
  refine r_iconst (pc := 1096) C dL_law_1096 kc_0 ?_
  exact l_ret (pc := 1097) C X (by omega) (by omega) dL_law_1097
def pL_law_1403 (N : Nat) (xs : Nat → Int32) (k28 : Int32 → Mem → Option (Int32 × Mem)) (v5 : Int32) (s0 : Int64) (s1 : Int64) (M : Mem) : Option (Int32 × Mem) :=
    if (lg_cmp s1 s0) = 0 then (k28 (v5 + (4 : Int32)) M)
    else some ((0 : Int32), M)
theorem lL_law_1403 {K : KT} {G : WT} {b N : Nat} {xs : Nat → Int32} {k28 : Int32 → Mem → Option (Int32 × Mem)} (C : Cx K G "PermitParkLaw" cL_law 10 (some FieldType.boolean)) {cs sl : Nat} (Y : Cy0 K) (X : Lx K G b N xs) (hcs : cs + 8 ≤ 601024) (hsl : sl + 48 ≤ 7293034) (h0 : W0 G)
    (hk28 : ∀ (v5 : Int32) (M : Mem), G.2.2.2.1 0 0 0 → G.2.2.2.1 19 0 0 → G.2.2.2.1 30 0 0 → G.2.2.2.1 31 0 0 → Run K G 10 (cs + 8) (sl + 48) (FinL K b) 28 [(0, .ref b), (1, .ref (G.1 0 0 0)), (2, .ref (G.1 19 0 0)), (3, .ref (G.1 30 0 0)), (4, .ref (G.1 31 0 0)), (5, .int v5)] [] M (k28 v5 M)) (v5 : Int32) (s0 : Int64) (s1 : Int64) (M : Mem) (g_1 : G.2.2.2.1 0 0 0) (g_2 : G.2.2.2.1 19 0 0) (g_3 : G.2.2.2.1 30 0 0) (g_4 : G.2.2.2.1 31 0 0) : Run K G 10 (cs + 1) (sl + 6) (FinL K b) 1403 [(0, .ref b), (1, .ref (G.1 0 0 0)), (2, .ref (G.1 19 0 0)), (3, .ref (G.1 30 0 0)), (4, .ref (G.1 31 0 0)), (5, .int v5)] [.long s0, .long s1] M (pL_law_1403 N xs k28 v5 s0 s1 M) := by
  rw [pL_law_1403]
  refine r_lcmp (pc := 1403) C dL_law_1403 ?_
  refine r_if_eq (pc := 1404) C dL_law_1404 (tgt := 1409) rfl ?_ ?_
  refine r_goto (pc := 1409) C dL_law_1409 (tgt := 2025) rfl ?_
  refine r_iinc (pc := 2025) C [(5, .int (v5 + (4 : Int32))), (0, .ref b), (1, .ref (G.1 0 0 0)), (2, .ref (G.1 19 0 0)), (3, .ref (G.1 30 0 0)), (4, .ref (G.1 31 0 0))] dL_law_2025 (p := 5) rfl (ki_4 _) (by decide) rfl ?_
  refine r_goto (pc := 2028) C dL_law_2028 (tgt := 28) rfl ?_
  refine r_sub [1, 2, 3, 4, 5, 0] rfl ?_
  refine r_wid (cs' := cs + 8) (sl' := sl + 48) (by omega) (by omega) ?_
  exact hk28 (v5 + (4 : Int32)) M g_1 g_2 g_3 g_4
  refine r_iconst (pc := 1407) C dL_law_1407 kc_0 ?_
  exact l_ret (pc := 1408) C X (by omega) (by omega) dL_law_1408
def pL_law (N : Nat) (xs : Nat → Int32) : Nat → Int32 → Mem → Option (Int32 × Mem)
  | 0, _, _ => none
  | n + 1, v5, M =>
    if ((Int32.ofNat N) - (4 : Int32)) < v5 then (some ((1 : Int32), M))
    else chk (inB v5 N) <| nm ((xs v5.toNatClampNeg) &&& (63 : Int32)) fun x1 => if x1 = (0 : Int32) then (chk (inB (v5 + (1 : Int32)) N) <| bndc (pL_appendText (xs (v5 + (1 : Int32)).toNatClampNeg) M) (g := fun _ _ => none) fun o4 M3 => chk (inB (v5 + (1 : Int32)) N) <| bnd (pX8_appendText (xs (v5 + (1 : Int32)).toNatClampNeg) M3) fun o6 M5 => bnd (pX8_thrown M5) fun o8 M7 => if o8 = o4 then (if ¬ o4 = 0 then (pL_law N xs  n (v5 + (4 : Int32)) M7)
    else chk (inB (0 : Int32) 1) <| if (lg_cmp M7.2.2.1 o6.toInt64) = 0 then (pL_law N xs  n (v5 + (4 : Int32)) M7)
    else some ((0 : Int32), M7))
    else some ((0 : Int32), M7))
    else if x1 = (1 : Int32) then (chk (inB (v5 + (1 : Int32)) N) <| bndc (pL_truncateText (xs (v5 + (1 : Int32)).toNatClampNeg) M) (g := fun _ _ => none) fun o11 M10 => chk (inB (v5 + (1 : Int32)) N) <| bnd (pX8_truncateText (xs (v5 + (1 : Int32)).toNatClampNeg) M10) fun o13 M12 => bnd (pX8_thrown M12) fun o15 M14 => if o15 = o11 then (if ¬ o11 = 0 then (pL_law N xs  n (v5 + (4 : Int32)) M14)
    else chk (inB (0 : Int32) 1) <| if (lg_cmp M14.2.2.1 o13.toInt64) = 0 then (pL_law N xs  n (v5 + (4 : Int32)) M14)
    else some ((0 : Int32), M14))
    else some ((0 : Int32), M14))
    else if x1 = (2 : Int32) then (bnd (pX7_load M) fun o18 M17 => bnd (pX8_load M17) fun o20 M19 => if o18 = o20 then (pL_law N xs  n (v5 + (4 : Int32)) M19)
    else some ((0 : Int32), M19))
    else if x1 = (3 : Int32) then (bnd (pX7_errorCode M) fun o23 M22 => bnd (pX8_errorCode M22) fun o25 M24 => if o23 = o25 then (pL_law N xs  n (v5 + (4 : Int32)) M24)
    else some ((0 : Int32), M24))
    else if x1 = (4 : Int32) then (bnd (pX7_errorPosition M) fun o28 M27 => bnd (pX8_errorPosition M27) fun o30 M29 => if o28 = o30 then (pL_law N xs  n (v5 + (4 : Int32)) M29)
    else some ((0 : Int32), M29))
    else if x1 = (5 : Int32) then (chk (inB (v5 + (1 : Int32)) N) <| chk (inB (v5 + (2 : Int32)) N) <| chk (inB (v5 + (3 : Int32)) N) <| bndc (pL_addThread (xs (v5 + (1 : Int32)).toNatClampNeg) (xs (v5 + (2 : Int32)).toNatClampNeg) (xs (v5 + (3 : Int32)).toNatClampNeg) M) (g := fun _ _ => none) fun o33 M32 => chk (inB (v5 + (1 : Int32)) N) <| chk (inB (v5 + (2 : Int32)) N) <| chk (inB (v5 + (3 : Int32)) N) <| bnd (pX8_addThread (xs (v5 + (1 : Int32)).toNatClampNeg) (xs (v5 + (2 : Int32)).toNatClampNeg) (xs (v5 + (3 : Int32)).toNatClampNeg) M32) fun o35 M34 => bnd (pX8_thrown M34) fun o37 M36 => if o37 = o33 then (if ¬ o33 = 0 then (pL_law N xs  n (v5 + (4 : Int32)) M36)
    else chk (inB (0 : Int32) 1) <| if (lg_cmp M36.2.2.1 o35.toInt64) = 0 then (pL_law N xs  n (v5 + (4 : Int32)) M36)
    else some ((0 : Int32), M36))
    else some ((0 : Int32), M36))
    else if x1 = (6 : Int32) then (chk (inB (v5 + (1 : Int32)) N) <| chk (inB (v5 + (2 : Int32)) N) <| chk (inB (v5 + (3 : Int32)) N) <| bndc (pL_addInstruction (xs (v5 + (1 : Int32)).toNatClampNeg) (xs (v5 + (2 : Int32)).toNatClampNeg) (xs (v5 + (3 : Int32)).toNatClampNeg) M) (g := fun _ _ => none) fun o40 M39 => chk (inB (v5 + (1 : Int32)) N) <| chk (inB (v5 + (2 : Int32)) N) <| chk (inB (v5 + (3 : Int32)) N) <| bnd (pX8_addInstruction (xs (v5 + (1 : Int32)).toNatClampNeg) (xs (v5 + (2 : Int32)).toNatClampNeg) (xs (v5 + (3 : Int32)).toNatClampNeg) M39) fun o42 M41 => bnd (pX8_thrown M41) fun o44 M43 => if o44 = o40 then (if ¬ o40 = 0 then (pL_law N xs  n (v5 + (4 : Int32)) M43)
    else chk (inB (0 : Int32) 1) <| if (lg_cmp M43.2.2.1 o42.toInt64) = 0 then (pL_law N xs  n (v5 + (4 : Int32)) M43)
    else some ((0 : Int32), M43))
    else some ((0 : Int32), M43))
    else if x1 = (7 : Int32) then (chk (inB (v5 + (1 : Int32)) N) <| chk (inB (v5 + (2 : Int32)) N) <| bndc (pL_setBase (xs (v5 + (1 : Int32)).toNatClampNeg) (xs (v5 + (2 : Int32)).toNatClampNeg) M) (g := fun _ _ => none) fun o47 M46 => chk (inB (v5 + (1 : Int32)) N) <| chk (inB (v5 + (2 : Int32)) N) <| bnd (pX8_setBase (xs (v5 + (1 : Int32)).toNatClampNeg) (xs (v5 + (2 : Int32)).toNatClampNeg) M46) fun o49 M48 => bnd (pX8_thrown M48) fun o51 M50 => if o51 = o47 then (if ¬ o47 = 0 then (pL_law N xs  n (v5 + (4 : Int32)) M50)
    else chk (inB (0 : Int32) 1) <| if (lg_cmp M50.2.2.1 o49.toInt64) = 0 then (pL_law N xs  n (v5 + (4 : Int32)) M50)
    else some ((0 : Int32), M50))
    else some ((0 : Int32), M50))
    else if x1 = (8 : Int32) then (chk (inB (v5 + (1 : Int32)) N) <| chk (inB (v5 + (2 : Int32)) N) <| bndc (pL_set (xs (v5 + (1 : Int32)).toNatClampNeg) (xs (v5 + (2 : Int32)).toNatClampNeg) M) (g := fun _ _ => none) fun o54 M53 => chk (inB (v5 + (1 : Int32)) N) <| chk (inB (v5 + (2 : Int32)) N) <| bnd (pX8_set (xs (v5 + (1 : Int32)).toNatClampNeg) (xs (v5 + (2 : Int32)).toNatClampNeg) M53) fun o56 M55 => bnd (pX8_thrown M55) fun o58 M57 => if o58 = o54 then (if ¬ o54 = 0 then (pL_law N xs  n (v5 + (4 : Int32)) M57)
    else chk (inB (0 : Int32) 1) <| if (lg_cmp M57.2.2.1 o56.toInt64) = 0 then (pL_law N xs  n (v5 + (4 : Int32)) M57)
    else some ((0 : Int32), M57))
    else some ((0 : Int32), M57))
    else if x1 = (9 : Int32) then (chk (inB (v5 + (1 : Int32)) N) <| bndc (pL_seed (xs (v5 + (1 : Int32)).toNatClampNeg) M) (g := fun _ _ => none) fun o61 M60 => chk (inB (v5 + (1 : Int32)) N) <| bnd (pX8_seed (xs (v5 + (1 : Int32)).toNatClampNeg) M60) fun o63 M62 => bnd (pX8_thrown M62) fun o65 M64 => if o65 = o61 then (pL_law N xs  n (v5 + (4 : Int32)) M64)
    else some ((0 : Int32), M64))
    else if x1 = (10 : Int32) then (chk (inB (v5 + (1 : Int32)) N) <| chk (inB (v5 + (2 : Int32)) N) <| if (xs (v5 + (2 : Int32)).toNatClampNeg) = 0 then (pL_law_696 N xs (fun v5 M => pL_law N xs  n v5 M)  v5 (0 : Int32) (xs (v5 + (1 : Int32)).toNatClampNeg) M)
    else pL_law_696 N xs (fun v5 M => pL_law N xs  n v5 M)  v5 (1 : Int32) (xs (v5 + (1 : Int32)).toNatClampNeg) M)
    else if x1 = (11 : Int32) then (chk (inB (v5 + (1 : Int32)) N) <| bndc (pL_count (xs (v5 + (1 : Int32)).toNatClampNeg) M) (g := fun _ _ => none) fun o69 M68 => chk (inB (v5 + (1 : Int32)) N) <| bnd (pX8_count (xs (v5 + (1 : Int32)).toNatClampNeg) M68) fun o71 M70 => bnd (pX8_thrown M70) fun o73 M72 => if o73 = o69 then (if ¬ o69 = 0 then (pL_law N xs  n (v5 + (4 : Int32)) M72)
    else chk (inB (0 : Int32) 1) <| if (lg_cmp M72.2.2.1 o71.toInt64) = 0 then (pL_law N xs  n (v5 + (4 : Int32)) M72)
    else some ((0 : Int32), M72))
    else some ((0 : Int32), M72))
    else if x1 = (12 : Int32) then (chk (inB (v5 + (1 : Int32)) N) <| chk (inB (v5 + (2 : Int32)) N) <| bndc (pL_thread (xs (v5 + (1 : Int32)).toNatClampNeg) (xs (v5 + (2 : Int32)).toNatClampNeg) M) (g := fun _ _ => none) fun o76 M75 => chk (inB (v5 + (1 : Int32)) N) <| chk (inB (v5 + (2 : Int32)) N) <| bnd (pX8_thread (xs (v5 + (1 : Int32)).toNatClampNeg) (xs (v5 + (2 : Int32)).toNatClampNeg) M75) fun o78 M77 => bnd (pX8_thrown M77) fun o80 M79 => if o80 = o76 then (if ¬ o76 = 0 then (pL_law N xs  n (v5 + (4 : Int32)) M79)
    else chk (inB (0 : Int32) 1) <| if (lg_cmp M79.2.2.1 o78.toInt64) = 0 then (pL_law N xs  n (v5 + (4 : Int32)) M79)
    else some ((0 : Int32), M79))
    else some ((0 : Int32), M79))
    else if x1 = (13 : Int32) then (chk (inB (v5 + (1 : Int32)) N) <| chk (inB (v5 + (2 : Int32)) N) <| chk (inB (v5 + (3 : Int32)) N) <| bndc (pL_instruction (xs (v5 + (1 : Int32)).toNatClampNeg) (xs (v5 + (2 : Int32)).toNatClampNeg) (xs (v5 + (3 : Int32)).toNatClampNeg) M) (g := fun _ _ => none) fun o83 M82 => chk (inB (v5 + (1 : Int32)) N) <| chk (inB (v5 + (2 : Int32)) N) <| chk (inB (v5 + (3 : Int32)) N) <| bnd (pX8_instruction (xs (v5 + (1 : Int32)).toNatClampNeg) (xs (v5 + (2 : Int32)).toNatClampNeg) (xs (v5 + (3 : Int32)).toNatClampNeg) M82) fun o85 M84 => bnd (pX8_thrown M84) fun o87 M86 => if o87 = o83 then (if ¬ o83 = 0 then (pL_law N xs  n (v5 + (4 : Int32)) M86)
    else chk (inB (0 : Int32) 1) <| if (lg_cmp M86.2.2.1 o85.toInt64) = 0 then (pL_law N xs  n (v5 + (4 : Int32)) M86)
    else some ((0 : Int32), M86))
    else some ((0 : Int32), M86))
    else if x1 = (14 : Int32) then (chk (inB (v5 + (1 : Int32)) N) <| chk (inB (v5 + (2 : Int32)) N) <| bndc (pL_lock (xs (v5 + (1 : Int32)).toNatClampNeg) (xs (v5 + (2 : Int32)).toNatClampNeg) M) (g := fun _ _ => none) fun o90 M89 => chk (inB (v5 + (1 : Int32)) N) <| chk (inB (v5 + (2 : Int32)) N) <| bnd (pX8_lock (xs (v5 + (1 : Int32)).toNatClampNeg) (xs (v5 + (2 : Int32)).toNatClampNeg) M89) fun o92 M91 => bnd (pX8_thrown M91) fun o94 M93 => if o94 = o90 then (if ¬ o90 = 0 then (pL_law N xs  n (v5 + (4 : Int32)) M93)
    else chk (inB (0 : Int32) 1) <| if (lg_cmp M93.2.2.1 o92.toInt64) = 0 then (pL_law N xs  n (v5 + (4 : Int32)) M93)
    else some ((0 : Int32), M93))
    else some ((0 : Int32), M93))
    else if x1 = (15 : Int32) then (chk (inB (v5 + (1 : Int32)) N) <| bndc (pL_flag (xs (v5 + (1 : Int32)).toNatClampNeg) M) (g := fun _ _ => none) fun o97 M96 => chk (inB (v5 + (1 : Int32)) N) <| bnd (pX8_flag (xs (v5 + (1 : Int32)).toNatClampNeg) M96) fun o99 M98 => bnd (pX8_thrown M98) fun o101 M100 => if o101 = o97 then (if ¬ o97 = 0 then (pL_law N xs  n (v5 + (4 : Int32)) M100)
    else chk (inB (0 : Int32) 1) <| if o99 = 0 then (pL_law_1092 N xs (fun v5 M => pL_law N xs  n v5 M)  v5 (0 : Int64) (M100.2.2.1) M100)
    else pL_law_1092 N xs (fun v5 M => pL_law N xs  n v5 M)  v5 (1 : Int64) (M100.2.2.1) M100)
    else some ((0 : Int32), M100))
    else if x1 = (16 : Int32) then (chk (inB (v5 + (1 : Int32)) N) <| chk (inB (v5 + (2 : Int32)) N) <| bndc (pL_event (xs (v5 + (1 : Int32)).toNatClampNeg) (xs (v5 + (2 : Int32)).toNatClampNeg) M) (g := fun _ _ => none) fun o104 M103 => chk (inB (v5 + (1 : Int32)) N) <| chk (inB (v5 + (2 : Int32)) N) <| bnd (pX8_event (xs (v5 + (1 : Int32)).toNatClampNeg) (xs (v5 + (2 : Int32)).toNatClampNeg) M103) fun o106 M105 => bnd (pX8_thrown M105) fun o108 M107 => if o108 = o104 then (if ¬ o104 = 0 then (pL_law N xs  n (v5 + (4 : Int32)) M107)
    else chk (inB (0 : Int32) 1) <| if (lg_cmp M107.2.2.1 o106.toInt64) = 0 then (pL_law N xs  n (v5 + (4 : Int32)) M107)
    else some ((0 : Int32), M107))
    else some ((0 : Int32), M107))
    else if x1 = (17 : Int32) then (chk (inB (v5 + (1 : Int32)) N) <| chk (inB (v5 + (2 : Int32)) N) <| bndc (pL_events (xs (v5 + (1 : Int32)).toNatClampNeg) (xs (v5 + (2 : Int32)).toNatClampNeg) M) (g := fun _ _ => none) fun o111 M110 => chk (inB (v5 + (1 : Int32)) N) <| chk (inB (v5 + (2 : Int32)) N) <| bnd (pX8_events (xs (v5 + (1 : Int32)).toNatClampNeg) (xs (v5 + (2 : Int32)).toNatClampNeg) M110) fun o113 M112 => bnd (pX8_thrown M112) fun o115 M114 => if o115 = o111 then (if ¬ o111 = 0 then (pL_law N xs  n (v5 + (4 : Int32)) M114)
    else chk (inB (0 : Int32) 1) <| if (lg_cmp M114.2.2.1 o113.toInt64) = 0 then (pL_law N xs  n (v5 + (4 : Int32)) M114)
    else some ((0 : Int32), M114))
    else some ((0 : Int32), M114))
    else if x1 = (18 : Int32) then (chk (inB (v5 + (1 : Int32)) N) <| bndc (pL_wake (xs (v5 + (1 : Int32)).toNatClampNeg) M) (g := fun _ _ => none) fun o118 M117 => chk (inB (v5 + (1 : Int32)) N) <| bnd (pX8_wake (xs (v5 + (1 : Int32)).toNatClampNeg) M117) fun o120 M119 => bnd (pX8_thrown M119) fun o122 M121 => if o122 = o118 then (if ¬ o118 = 0 then (pL_law N xs  n (v5 + (4 : Int32)) M121)
    else chk (inB (0 : Int32) 1) <| if (lg_cmp M121.2.2.1 o120.toInt64) = 0 then (pL_law N xs  n (v5 + (4 : Int32)) M121)
    else some ((0 : Int32), M121))
    else some ((0 : Int32), M121))
    else if x1 = (19 : Int32) then (chk (inB (v5 + (1 : Int32)) N) <| bndc (pL_interrupt (xs (v5 + (1 : Int32)).toNatClampNeg) M) (g := fun _ _ => none) fun o125 M124 => chk (inB (v5 + (1 : Int32)) N) <| bnd (pX8_interrupt (xs (v5 + (1 : Int32)).toNatClampNeg) M124) fun o127 M126 => bnd (pX8_thrown M126) fun o129 M128 => if o129 = o125 then (if ¬ o125 = 0 then (pL_law N xs  n (v5 + (4 : Int32)) M128)
    else chk (inB (0 : Int32) 1) <| if (lg_cmp M128.2.2.1 o127.toInt64) = 0 then (pL_law N xs  n (v5 + (4 : Int32)) M128)
    else some ((0 : Int32), M128))
    else some ((0 : Int32), M128))
    else if x1 = (20 : Int32) then (chk (inB (v5 + (1 : Int32)) N) <| bndc (pL_rouse (xs (v5 + (1 : Int32)).toNatClampNeg) M) (g := fun _ _ => none) fun o132 M131 => chk (inB (v5 + (1 : Int32)) N) <| bnd (pX8_rouse (xs (v5 + (1 : Int32)).toNatClampNeg) M131) fun o134 M133 => bnd (pX8_thrown M133) fun o136 M135 => if o136 = o132 then (if ¬ o132 = 0 then (pL_law N xs  n (v5 + (4 : Int32)) M135)
    else chk (inB (0 : Int32) 1) <| if o134 = 0 then (pL_law_1403 N xs (fun v5 M => pL_law N xs  n v5 M)  v5 (0 : Int64) (M135.2.2.1) M135)
    else pL_law_1403 N xs (fun v5 M => pL_law N xs  n v5 M)  v5 (1 : Int64) (M135.2.2.1) M135)
    else some ((0 : Int32), M135))
    else if x1 = (21 : Int32) then (chk (inB (v5 + (1 : Int32)) N) <| bndc (pL_run (xs (v5 + (1 : Int32)).toNatClampNeg) M) (g := fun _ _ => none) fun o139 M138 => chk (inB (v5 + (1 : Int32)) N) <| bnd (pX8_run (xs (v5 + (1 : Int32)).toNatClampNeg) M138) fun o141 M140 => bnd (pX8_thrown M140) fun o143 M142 => if o143 = o139 then (if ¬ o139 = 0 then (pL_law N xs  n (v5 + (4 : Int32)) M142)
    else chk (inB (0 : Int32) 1) <| if (lg_cmp M142.2.2.1 o141.toInt64) = 0 then (pL_law N xs  n (v5 + (4 : Int32)) M142)
    else some ((0 : Int32), M142))
    else some ((0 : Int32), M142))
    else if x1 = (22 : Int32) then (bnd (pX7_next M) fun o146 M145 => bnd (pX8_next M145) fun o148 M147 => if o146 = o148 then (pL_law N xs  n (v5 + (4 : Int32)) M147)
    else some ((0 : Int32), M147))
    else if x1 = (23 : Int32) then (chk (inB (v5 + (1 : Int32)) N) <| chk (inB (v5 + (2 : Int32)) N) <| bndc (pL_chain (xs (v5 + (1 : Int32)).toNatClampNeg) (xs (v5 + (2 : Int32)).toNatClampNeg) M) (g := fun _ _ => none) fun o151 M150 => chk (inB (v5 + (1 : Int32)) N) <| chk (inB (v5 + (2 : Int32)) N) <| bnd (pX8_chain (xs (v5 + (1 : Int32)).toNatClampNeg) (xs (v5 + (2 : Int32)).toNatClampNeg) M150) fun o153 M152 => bnd (pX8_thrown M152) fun o155 M154 => if o155 = o151 then (if ¬ o151 = 0 then (pL_law N xs  n (v5 + (4 : Int32)) M154)
    else chk (inB (0 : Int32) 1) <| if (lg_cmp M154.2.2.1 o153.toInt64) = 0 then (pL_law N xs  n (v5 + (4 : Int32)) M154)
    else some ((0 : Int32), M154))
    else some ((0 : Int32), M154))
    else if x1 = (24 : Int32) then (bnd (pX7_stuck M) fun o158 M157 => bnd (pX8_stuck M157) fun o160 M159 => if o158 = o160 then (pL_law N xs  n (v5 + (4 : Int32)) M159)
    else some ((0 : Int32), M159))
    else if x1 = (25 : Int32) then (chk (inB (v5 + (1 : Int32)) N) <| bndc (pL_lent (xs (v5 + (1 : Int32)).toNatClampNeg) M) (g := fun _ _ => none) fun o163 M162 => chk (inB (v5 + (1 : Int32)) N) <| bnd (pX8_lent (xs (v5 + (1 : Int32)).toNatClampNeg) M162) fun o165 M164 => bnd (pX8_thrown M164) fun o167 M166 => if o167 = o163 then (if ¬ o163 = 0 then (pL_law N xs  n (v5 + (4 : Int32)) M166)
    else chk (inB (0 : Int32) 1) <| chk (decide ((FP.f2d o165) &&& 0x7fffffffffffffff ≤ 0x7ff0000000000000)) <| if (Op.cmpValue (FP.dcmp M166.2.2.2 (FP.f2d o165)) .l) = 0 then (pL_law N xs  n (v5 + (4 : Int32)) M166)
    else chk (inB (0 : Int32) 1) <| chk (inB (0 : Int32) 1) <| if (Op.cmpValue (FP.dcmp M166.2.2.2 M166.2.2.2) .l) = 0 then (some ((0 : Int32), M166))
    else if ¬ (Op.cmpValue (FP.fcmp o165 o165) .l) = 0 then (pL_law N xs  n (v5 + (4 : Int32)) M166)
    else some ((0 : Int32), M166))
    else some ((0 : Int32), M166))
    else if x1 = (26 : Int32) then (bnd (pX7_busy M) fun o170 M169 => bnd (pX8_busy M169) fun o172 M171 => if (Op.cmpValue (FP.dcmp o170 o172) .l) = 0 then (pL_law N xs  n (v5 + (4 : Int32)) M171)
    else if (Op.cmpValue (FP.dcmp o170 o170) .l) = 0 then (some ((0 : Int32), M171))
    else if ¬ (Op.cmpValue (FP.dcmp o172 o172) .l) = 0 then (pL_law N xs  n (v5 + (4 : Int32)) M171)
    else some ((0 : Int32), M171))
    else if x1 = (27 : Int32) then (chk (inB (v5 + (1 : Int32)) N) <| chk (inB (v5 + (2 : Int32)) N) <| bndc (pL_doneIn (xs (v5 + (1 : Int32)).toNatClampNeg) (xs (v5 + (2 : Int32)).toNatClampNeg) M) (g := fun _ _ => none) fun o175 M174 => chk (inB (v5 + (1 : Int32)) N) <| chk (inB (v5 + (2 : Int32)) N) <| bnd (pX8_doneIn (xs (v5 + (1 : Int32)).toNatClampNeg) (xs (v5 + (2 : Int32)).toNatClampNeg) M174) fun o177 M176 => bnd (pX8_thrown M176) fun o179 M178 => if o179 = o175 then (if ¬ o175 = 0 then (pL_law N xs  n (v5 + (4 : Int32)) M178)
    else chk (inB (0 : Int32) 1) <| if (lg_cmp M178.2.2.1 o177.toInt64) = 0 then (pL_law N xs  n (v5 + (4 : Int32)) M178)
    else some ((0 : Int32), M178))
    else some ((0 : Int32), M178))
    else if x1 = (28 : Int32) then (chk (inB (v5 + (1 : Int32)) N) <| chk (inB (v5 + (2 : Int32)) N) <| bndc (pL_returnsIn (xs (v5 + (1 : Int32)).toNatClampNeg) (xs (v5 + (2 : Int32)).toNatClampNeg) M) (g := fun _ _ => none) fun o182 M181 => chk (inB (v5 + (1 : Int32)) N) <| chk (inB (v5 + (2 : Int32)) N) <| bnd (pX8_returnsIn (xs (v5 + (1 : Int32)).toNatClampNeg) (xs (v5 + (2 : Int32)).toNatClampNeg) M181) fun o184 M183 => bnd (pX8_thrown M183) fun o186 M185 => if o186 = o182 then (if ¬ o182 = 0 then (pL_law N xs  n (v5 + (4 : Int32)) M185)
    else chk (inB (0 : Int32) 1) <| if (lg_cmp M185.2.2.1 o184.toInt64) = 0 then (pL_law N xs  n (v5 + (4 : Int32)) M185)
    else some ((0 : Int32), M185))
    else some ((0 : Int32), M185))
    else if x1 = (29 : Int32) then (chk (inB (v5 + (1 : Int32)) N) <| chk (inB (v5 + (2 : Int32)) N) <| bndc (pL_ahead (xs (v5 + (1 : Int32)).toNatClampNeg) (xs (v5 + (2 : Int32)).toNatClampNeg) M) (g := fun _ _ => none) fun o189 M188 => chk (inB (v5 + (1 : Int32)) N) <| chk (inB (v5 + (2 : Int32)) N) <| bnd (pX8_ahead (xs (v5 + (1 : Int32)).toNatClampNeg) (xs (v5 + (2 : Int32)).toNatClampNeg) M188) fun o191 M190 => bnd (pX8_thrown M190) fun o193 M192 => if o193 = o189 then (if ¬ o189 = 0 then (pL_law N xs  n (v5 + (4 : Int32)) M192)
    else chk (inB (0 : Int32) 1) <| if (lg_cmp M192.2.2.1 o191.toInt64) = 0 then (pL_law N xs  n (v5 + (4 : Int32)) M192)
    else some ((0 : Int32), M192))
    else some ((0 : Int32), M192))
    else if x1 = (30 : Int32) then (chk (inB (v5 + (1 : Int32)) N) <| chk (inB (v5 + (2 : Int32)) N) <| bndc (pL_bestBase (xs (v5 + (1 : Int32)).toNatClampNeg) (xs (v5 + (2 : Int32)).toNatClampNeg) M) (g := fun _ _ => none) fun o196 M195 => chk (inB (v5 + (1 : Int32)) N) <| chk (inB (v5 + (2 : Int32)) N) <| bnd (pX8_bestBase (xs (v5 + (1 : Int32)).toNatClampNeg) (xs (v5 + (2 : Int32)).toNatClampNeg) M195) fun o198 M197 => bnd (pX8_thrown M197) fun o200 M199 => if o200 = o196 then (if ¬ o196 = 0 then (pL_law N xs  n (v5 + (4 : Int32)) M199)
    else chk (inB (0 : Int32) 1) <| if (lg_cmp M199.2.2.1 o198.toInt64) = 0 then (pL_law N xs  n (v5 + (4 : Int32)) M199)
    else some ((0 : Int32), M199))
    else some ((0 : Int32), M199))
    else if x1 = (31 : Int32) then (chk (inB (v5 + (1 : Int32)) N) <| bndc (pL_save (xs (v5 + (1 : Int32)).toNatClampNeg) M) (g := fun _ _ => none) fun o203 M202 => chk (inB (v5 + (1 : Int32)) N) <| bnd (pX8_save (xs (v5 + (1 : Int32)).toNatClampNeg) M202) fun o205 M204 => bnd (pX8_thrown M204) fun o207 M206 => if o207 = o203 then (pL_law N xs  n (v5 + (4 : Int32)) M206)
    else some ((0 : Int32), M206))
    else if x1 = (32 : Int32) then (chk (inB (v5 + (1 : Int32)) N) <| bndc (pL_restore (xs (v5 + (1 : Int32)).toNatClampNeg) M) (g := fun _ _ => none) fun o210 M209 => chk (inB (v5 + (1 : Int32)) N) <| bnd (pX8_restore (xs (v5 + (1 : Int32)).toNatClampNeg) M209) fun o212 M211 => bnd (pX8_thrown M211) fun o214 M213 => if o214 = o210 then (pL_law N xs  n (v5 + (4 : Int32)) M213)
    else some ((0 : Int32), M213))
    else pL_law N xs  n (v5 + (4 : Int32)) M
theorem lL_law_28 {K : KT} {G : WT} {b N : Nat} {xs : Nat → Int32} (C : Cx K G "PermitParkLaw" cL_law 10 (some FieldType.boolean)) (Y : Cy0 K) (X : Lx K G b N xs) (h0 : W0 G) : ∀ (n : Nat) (v5 : Int32) (M : Mem) (cs sl : Nat), cs + 8 * (n + 1) ≤ 601024 → sl + 48 * (n + 1) ≤ 7293034 → G.2.2.2.1 0 0 0 → G.2.2.2.1 19 0 0 → G.2.2.2.1 30 0 0 → G.2.2.2.1 31 0 0 → Run K G 10 cs sl (FinL K b) 28 [(0, .ref b), (1, .ref (G.1 0 0 0)), (2, .ref (G.1 19 0 0)), (3, .ref (G.1 30 0 0)), (4, .ref (G.1 31 0 0)), (5, .int v5)] [] M (pL_law N xs  n v5 M) := by
  intro n
  induction n with
  | zero =>
    intro v5 M cs sl hc1 hc2 g_1 g_2 g_3 g_4
    exact r_none
  | succ n ih =>
    intro v5 M cs sl hc1 hc2 g_1 g_2 g_3 g_4
    have hcs : cs + 8 ≤ 601024 := by omega
    have hsl : sl + 48 ≤ 7293034 := by omega
    rw [pL_law]
    refine r_iload (pc := 28) C 5 rfl dL_law_28 ?_
    refine r_aload_n (pc := 30) C 0 rfl rfl dL_law_30 ?_
    refine r_xsN (pc := 31) C X dL_law_31 ?_
    refine r_iconst (pc := 32) C dL_law_32 kc_4 ?_
    refine r_isub (pc := 33) C dL_law_33 ?_
    refine r_icmp_gt (pc := 34) C dL_law_34 (tgt := 2031) rfl ?_ ?_
    refine r_iconst (pc := 2031) C dL_law_2031 kc_1 ?_
    exact l_ret (pc := 2032) C X (by omega) (by omega) dL_law_2032
    refine r_aload_n (pc := 37) C 0 rfl rfl dL_law_37 ?_
    refine r_iload (pc := 38) C 5 rfl dL_law_38 ?_
    refine r_xsL (pc := 40) C X dL_law_40 ?_
    refine r_bipush (pc := 41) C dL_law_41 kb_63 ?_
    refine r_iand (pc := 43) C dL_law_43 ?_
    refine r_nmi (fun x1 => ?_)
    refine r_ite (fun e2 => ?_) (fun e2n => ?_)
    refine r_tabE (pc := 44) C e2 dL_law_44 (by decide) (by decide) (off := 148) rfl (tgt := 192) rfl ?_
    refine r_aload_n (pc := 192) C 1 rfl rfl dL_law_192 ?_
    refine r_aload_n (pc := 193) C 0 rfl rfl dL_law_193 ?_
    refine r_iload (pc := 194) C 5 rfl dL_law_194 ?_
    refine r_iconst (pc := 196) C dL_law_196 kc_1 ?_
    refine r_iadd (pc := 197) C dL_law_197 ?_
    refine r_xsL (pc := 198) C X dL_law_198 ?_
    refine r_aload_n (pc := 199) C 3 rfl rfl dL_law_199 ?_
    refine r_hSI (pc := 200) C Y (Rx.law X (by omega) (by omega) rfl rfl) (okL_appendText h0 Y.1 (xs (v5 + (1 : Int32)).toNatClampNeg) M g_1 g_3) mw_621 cvL_appendText rfl rfl (Nat.le_of_ble_eq_true rfl) dL_law_200 (fun o4 M3 => ?_)
    refine r_istore (pc := 203) C [(6, .int o4), (0, .ref b), (1, .ref (G.1 0 0 0)), (2, .ref (G.1 19 0 0)), (3, .ref (G.1 30 0 0)), (4, .ref (G.1 31 0 0)), (5, .int v5)] dL_law_203 (by decide) rfl ?_
    refine r_aload_n (pc := 205) C 3 rfl rfl dL_law_205 ?_
    refine r_aload_n (pc := 206) C 1 rfl rfl dL_law_206 ?_
    refine r_iload (pc := 207) C 6 rfl dL_law_207 ?_
    refine r_iconst (pc := 209) C dL_law_209 kc_1 ?_
    refine r_iadd (pc := 210) C dL_law_210 ?_
    refine r_xsL (pc := 211) C X dL_law_211 ?_
    refine r_wVI (pc := 212) C (Rx.law X (by omega) (by omega) rfl rfl) (okX8_appendText h0 (xs (v5 + (1 : Int32)).toNatClampNeg) M3 g_2) (Rc.of C rfl rfl g_2) mw_1080 cvX8_appendText rfl rfl (Nat.le_of_ble_eq_true rfl) dL_law_212 (fun o6 M5 => ?_)
    refine r_istore (pc := 215) C [(7, .int o6), (6, .int o4), (0, .ref b), (1, .ref (G.1 0 0 0)), (2, .ref (G.1 19 0 0)), (3, .ref (G.1 30 0 0)), (4, .ref (G.1 31 0 0)), (5, .int v5)] dL_law_215 (by decide) rfl ?_
    refine r_aload_n (pc := 217) C 4 rfl rfl dL_law_217 ?_
    refine r_wVI (pc := 218) C (Rx.law X (by omega) (by omega) rfl rfl) (okX8_thrown h0 M5 g_2) (Rc.of C rfl rfl g_2) mw_1076 cvX8_thrown rfl rfl (Nat.le_of_ble_eq_true rfl) dL_law_218 (fun o8 M7 => ?_)
    refine r_iload (pc := 221) C 1 rfl dL_law_221 ?_
    refine r_icmp_eq (pc := 223) C dL_law_223 (tgt := 228) rfl ?_ ?_
    refine r_iload (pc := 228) C 1 rfl dL_law_228 ?_
    refine r_if_ne (pc := 230) C dL_law_230 (tgt := 245) rfl ?_ ?_
    refine r_goto (pc := 245) C dL_law_245 (tgt := 2025) rfl ?_
    refine r_iinc (pc := 2025) C [(5, .int (v5 + (4 : Int32))), (7, .int o6), (6, .int o4), (0, .ref b), (1, .ref (G.1 0 0 0)), (2, .ref (G.1 19 0 0)), (3, .ref (G.1 30 0 0)), (4, .ref (G.1 31 0 0))] dL_law_2025 (p := 7) rfl (ki_4 _) (by decide) rfl ?_
    refine r_goto (pc := 2028) C dL_law_2028 (tgt := 28) rfl ?_
    refine r_sub [3, 4, 5, 6, 7, 0] rfl ?_
    refine r_wid (cs' := cs + 8) (sl' := sl + 48) (by omega) (by omega) ?_
    exact ih (v5 + (4 : Int32)) M7 (cs + 8) (sl + 48) (by omega) (by omega) g_1 g_2 g_3 g_4
    refine r_aload_n (pc := 233) C 5 rfl rfl dL_law_233 ?_
    refine r_iconst (pc := 234) C dL_law_234 kc_0 ?_
    refine r_lald (pc := 235) C g_3 dL_law_235 ?_
    refine r_iload (pc := 236) C 0 rfl dL_law_236 ?_
    refine r_i2l (pc := 238) C dL_law_238 ?_
    refine r_lcmp (pc := 239) C dL_law_239 ?_
    refine r_if_eq (pc := 240) C dL_law_240 (tgt := 245) rfl ?_ ?_
    refine r_goto (pc := 245) C dL_law_245 (tgt := 2025) rfl ?_
    refine r_iinc (pc := 2025) C [(5, .int (v5 + (4 : Int32))), (7, .int o6), (6, .int o4), (0, .ref b), (1, .ref (G.1 0 0 0)), (2, .ref (G.1 19 0 0)), (3, .ref (G.1 30 0 0)), (4, .ref (G.1 31 0 0))] dL_law_2025 (p := 7) rfl (ki_4 _) (by decide) rfl ?_
    refine r_goto (pc := 2028) C dL_law_2028 (tgt := 28) rfl ?_
    refine r_sub [3, 4, 5, 6, 7, 0] rfl ?_
    refine r_wid (cs' := cs + 8) (sl' := sl + 48) (by omega) (by omega) ?_
    exact ih (v5 + (4 : Int32)) M7 (cs + 8) (sl + 48) (by omega) (by omega) g_1 g_2 g_3 g_4
    refine r_iconst (pc := 243) C dL_law_243 kc_0 ?_
    exact l_ret (pc := 244) C X (by omega) (by omega) dL_law_244
    refine r_iconst (pc := 226) C dL_law_226 kc_0 ?_
    exact l_ret (pc := 227) C X (by omega) (by omega) dL_law_227
    refine r_ite (fun e9 => ?_) (fun e9n => ?_)
    refine r_tabE (pc := 44) C e9 dL_law_44 (by decide) (by decide) (off := 204) rfl (tgt := 248) rfl ?_
    refine r_aload_n (pc := 248) C 1 rfl rfl dL_law_248 ?_
    refine r_aload_n (pc := 249) C 0 rfl rfl dL_law_249 ?_
    refine r_iload (pc := 250) C 5 rfl dL_law_250 ?_
    refine r_iconst (pc := 252) C dL_law_252 kc_1 ?_
    refine r_iadd (pc := 253) C dL_law_253 ?_
    refine r_xsL (pc := 254) C X dL_law_254 ?_
    refine r_aload_n (pc := 255) C 3 rfl rfl dL_law_255 ?_
    refine r_hSI (pc := 256) C Y (Rx.law X (by omega) (by omega) rfl rfl) (okL_truncateText h0 Y.1 (xs (v5 + (1 : Int32)).toNatClampNeg) M g_1 g_3) mw_700 cvL_truncateText rfl rfl (Nat.le_of_ble_eq_true rfl) dL_law_256 (fun o11 M10 => ?_)
    refine r_istore (pc := 259) C [(6, .int o11), (0, .ref b), (1, .ref (G.1 0 0 0)), (2, .ref (G.1 19 0 0)), (3, .ref (G.1 30 0 0)), (4, .ref (G.1 31 0 0)), (5, .int v5)] dL_law_259 (by decide) rfl ?_
    refine r_aload_n (pc := 261) C 3 rfl rfl dL_law_261 ?_
    refine r_aload_n (pc := 262) C 1 rfl rfl dL_law_262 ?_
    refine r_iload (pc := 263) C 6 rfl dL_law_263 ?_
    refine r_iconst (pc := 265) C dL_law_265 kc_1 ?_
    refine r_iadd (pc := 266) C dL_law_266 ?_
    refine r_xsL (pc := 267) C X dL_law_267 ?_
    refine r_wVI (pc := 268) C (Rx.law X (by omega) (by omega) rfl rfl) (okX8_truncateText h0 (xs (v5 + (1 : Int32)).toNatClampNeg) M10 g_2) (Rc.of C rfl rfl g_2) mw_1088 cvX8_truncateText rfl rfl (Nat.le_of_ble_eq_true rfl) dL_law_268 (fun o13 M12 => ?_)
    refine r_istore (pc := 271) C [(7, .int o13), (6, .int o11), (0, .ref b), (1, .ref (G.1 0 0 0)), (2, .ref (G.1 19 0 0)), (3, .ref (G.1 30 0 0)), (4, .ref (G.1 31 0 0)), (5, .int v5)] dL_law_271 (by decide) rfl ?_
    refine r_aload_n (pc := 273) C 4 rfl rfl dL_law_273 ?_
    refine r_wVI (pc := 274) C (Rx.law X (by omega) (by omega) rfl rfl) (okX8_thrown h0 M12 g_2) (Rc.of C rfl rfl g_2) mw_1076 cvX8_thrown rfl rfl (Nat.le_of_ble_eq_true rfl) dL_law_274 (fun o15 M14 => ?_)
    refine r_iload (pc := 277) C 1 rfl dL_law_277 ?_
    refine r_icmp_eq (pc := 279) C dL_law_279 (tgt := 284) rfl ?_ ?_
    refine r_iload (pc := 284) C 1 rfl dL_law_284 ?_
    refine r_if_ne (pc := 286) C dL_law_286 (tgt := 301) rfl ?_ ?_
    refine r_goto (pc := 301) C dL_law_301 (tgt := 2025) rfl ?_
    refine r_iinc (pc := 2025) C [(5, .int (v5 + (4 : Int32))), (7, .int o13), (6, .int o11), (0, .ref b), (1, .ref (G.1 0 0 0)), (2, .ref (G.1 19 0 0)), (3, .ref (G.1 30 0 0)), (4, .ref (G.1 31 0 0))] dL_law_2025 (p := 7) rfl (ki_4 _) (by decide) rfl ?_
    refine r_goto (pc := 2028) C dL_law_2028 (tgt := 28) rfl ?_
    refine r_sub [3, 4, 5, 6, 7, 0] rfl ?_
    refine r_wid (cs' := cs + 8) (sl' := sl + 48) (by omega) (by omega) ?_
    exact ih (v5 + (4 : Int32)) M14 (cs + 8) (sl + 48) (by omega) (by omega) g_1 g_2 g_3 g_4
    refine r_aload_n (pc := 289) C 5 rfl rfl dL_law_289 ?_
    refine r_iconst (pc := 290) C dL_law_290 kc_0 ?_
    refine r_lald (pc := 291) C g_3 dL_law_291 ?_
    refine r_iload (pc := 292) C 0 rfl dL_law_292 ?_
    refine r_i2l (pc := 294) C dL_law_294 ?_
    refine r_lcmp (pc := 295) C dL_law_295 ?_
    refine r_if_eq (pc := 296) C dL_law_296 (tgt := 301) rfl ?_ ?_
    refine r_goto (pc := 301) C dL_law_301 (tgt := 2025) rfl ?_
    refine r_iinc (pc := 2025) C [(5, .int (v5 + (4 : Int32))), (7, .int o13), (6, .int o11), (0, .ref b), (1, .ref (G.1 0 0 0)), (2, .ref (G.1 19 0 0)), (3, .ref (G.1 30 0 0)), (4, .ref (G.1 31 0 0))] dL_law_2025 (p := 7) rfl (ki_4 _) (by decide) rfl ?_
    refine r_goto (pc := 2028) C dL_law_2028 (tgt := 28) rfl ?_
    refine r_sub [3, 4, 5, 6, 7, 0] rfl ?_
    refine r_wid (cs' := cs + 8) (sl' := sl + 48) (by omega) (by omega) ?_
    exact ih (v5 + (4 : Int32)) M14 (cs + 8) (sl + 48) (by omega) (by omega) g_1 g_2 g_3 g_4
    refine r_iconst (pc := 299) C dL_law_299 kc_0 ?_
    exact l_ret (pc := 300) C X (by omega) (by omega) dL_law_300
    refine r_iconst (pc := 282) C dL_law_282 kc_0 ?_
    exact l_ret (pc := 283) C X (by omega) (by omega) dL_law_283
    refine r_ite (fun e16 => ?_) (fun e16n => ?_)
    refine r_tabE (pc := 44) C e16 dL_law_44 (by decide) (by decide) (off := 260) rfl (tgt := 304) rfl ?_
    refine r_aload_n (pc := 304) C 1 rfl rfl dL_law_304 ?_
    refine r_wVI (pc := 305) C (Rx.law X (by omega) (by omega) rfl rfl) (okX7_load h0 M g_1) (Rc.of C rfl rfl g_1) mw_288 cvX7_load rfl rfl (Nat.le_of_ble_eq_true rfl) dL_law_305 (fun o18 M17 => ?_)
    refine r_aload_n (pc := 308) C 2 rfl rfl dL_law_308 ?_
    refine r_wVI (pc := 309) C (Rx.law X (by omega) (by omega) rfl rfl) (okX8_load h0 M17 g_2) (Rc.of C rfl rfl g_2) mw_1095 cvX8_load rfl rfl (Nat.le_of_ble_eq_true rfl) dL_law_309 (fun o20 M19 => ?_)
    refine r_icmp_eq (pc := 312) C dL_law_312 (tgt := 2025) rfl ?_ ?_
    refine r_iinc (pc := 2025) C [(5, .int (v5 + (4 : Int32))), (0, .ref b), (1, .ref (G.1 0 0 0)), (2, .ref (G.1 19 0 0)), (3, .ref (G.1 30 0 0)), (4, .ref (G.1 31 0 0))] dL_law_2025 (p := 5) rfl (ki_4 _) (by decide) rfl ?_
    refine r_goto (pc := 2028) C dL_law_2028 (tgt := 28) rfl ?_
    refine r_sub [1, 2, 3, 4, 5, 0] rfl ?_
    refine r_wid (cs' := cs + 8) (sl' := sl + 48) (by omega) (by omega) ?_
    exact ih (v5 + (4 : Int32)) M19 (cs + 8) (sl + 48) (by omega) (by omega) g_1 g_2 g_3 g_4
    refine r_iconst (pc := 315) C dL_law_315 kc_0 ?_
    exact l_ret (pc := 316) C X (by omega) (by omega) dL_law_316
    refine r_ite (fun e21 => ?_) (fun e21n => ?_)
    refine r_tabE (pc := 44) C e21 dL_law_44 (by decide) (by decide) (off := 273) rfl (tgt := 317) rfl ?_
    refine r_aload_n (pc := 317) C 1 rfl rfl dL_law_317 ?_
    refine r_wVI (pc := 318) C (Rx.law X (by omega) (by omega) rfl rfl) (okX7_errorCode h0 M g_1) (Rc.of C rfl rfl g_1) mw_471 cvX7_errorCode rfl rfl (Nat.le_of_ble_eq_true rfl) dL_law_318 (fun o23 M22 => ?_)
    refine r_aload_n (pc := 321) C 2 rfl rfl dL_law_321 ?_
    refine r_wVI (pc := 322) C (Rx.law X (by omega) (by omega) rfl rfl) (okX8_errorCode h0 M22 g_2) (Rc.of C rfl rfl g_2) mw_1231 cvX8_errorCode rfl rfl (Nat.le_of_ble_eq_true rfl) dL_law_322 (fun o25 M24 => ?_)
    refine r_icmp_eq (pc := 325) C dL_law_325 (tgt := 2025) rfl ?_ ?_
    refine r_iinc (pc := 2025) C [(5, .int (v5 + (4 : Int32))), (0, .ref b), (1, .ref (G.1 0 0 0)), (2, .ref (G.1 19 0 0)), (3, .ref (G.1 30 0 0)), (4, .ref (G.1 31 0 0))] dL_law_2025 (p := 5) rfl (ki_4 _) (by decide) rfl ?_
    refine r_goto (pc := 2028) C dL_law_2028 (tgt := 28) rfl ?_
    refine r_sub [1, 2, 3, 4, 5, 0] rfl ?_
    refine r_wid (cs' := cs + 8) (sl' := sl + 48) (by omega) (by omega) ?_
    exact ih (v5 + (4 : Int32)) M24 (cs + 8) (sl + 48) (by omega) (by omega) g_1 g_2 g_3 g_4
    refine r_iconst (pc := 328) C dL_law_328 kc_0 ?_
    exact l_ret (pc := 329) C X (by omega) (by omega) dL_law_329
    refine r_ite (fun e26 => ?_) (fun e26n => ?_)
    refine r_tabE (pc := 44) C e26 dL_law_44 (by decide) (by decide) (off := 286) rfl (tgt := 330) rfl ?_
    refine r_aload_n (pc := 330) C 1 rfl rfl dL_law_330 ?_
    refine r_wVI (pc := 331) C (Rx.law X (by omega) (by omega) rfl rfl) (okX7_errorPosition h0 M g_1) (Rc.of C rfl rfl g_1) mw_475 cvX7_errorPosition rfl rfl (Nat.le_of_ble_eq_true rfl) dL_law_331 (fun o28 M27 => ?_)
    refine r_aload_n (pc := 334) C 2 rfl rfl dL_law_334 ?_
    refine r_wVI (pc := 335) C (Rx.law X (by omega) (by omega) rfl rfl) (okX8_errorPosition h0 M27 g_2) (Rc.of C rfl rfl g_2) mw_1235 cvX8_errorPosition rfl rfl (Nat.le_of_ble_eq_true rfl) dL_law_335 (fun o30 M29 => ?_)
    refine r_icmp_eq (pc := 338) C dL_law_338 (tgt := 2025) rfl ?_ ?_
    refine r_iinc (pc := 2025) C [(5, .int (v5 + (4 : Int32))), (0, .ref b), (1, .ref (G.1 0 0 0)), (2, .ref (G.1 19 0 0)), (3, .ref (G.1 30 0 0)), (4, .ref (G.1 31 0 0))] dL_law_2025 (p := 5) rfl (ki_4 _) (by decide) rfl ?_
    refine r_goto (pc := 2028) C dL_law_2028 (tgt := 28) rfl ?_
    refine r_sub [1, 2, 3, 4, 5, 0] rfl ?_
    refine r_wid (cs' := cs + 8) (sl' := sl + 48) (by omega) (by omega) ?_
    exact ih (v5 + (4 : Int32)) M29 (cs + 8) (sl + 48) (by omega) (by omega) g_1 g_2 g_3 g_4
    refine r_iconst (pc := 341) C dL_law_341 kc_0 ?_
    exact l_ret (pc := 342) C X (by omega) (by omega) dL_law_342
    refine r_ite (fun e31 => ?_) (fun e31n => ?_)
    refine r_tabE (pc := 44) C e31 dL_law_44 (by decide) (by decide) (off := 299) rfl (tgt := 343) rfl ?_
    refine r_aload_n (pc := 343) C 1 rfl rfl dL_law_343 ?_
    refine r_aload_n (pc := 344) C 0 rfl rfl dL_law_344 ?_
    refine r_iload (pc := 345) C 5 rfl dL_law_345 ?_
    refine r_iconst (pc := 347) C dL_law_347 kc_1 ?_
    refine r_iadd (pc := 348) C dL_law_348 ?_
    refine r_xsL (pc := 349) C X dL_law_349 ?_
    refine r_aload_n (pc := 350) C 0 rfl rfl dL_law_350 ?_
    refine r_iload (pc := 351) C 5 rfl dL_law_351 ?_
    refine r_iconst (pc := 353) C dL_law_353 kc_2 ?_
    refine r_iadd (pc := 354) C dL_law_354 ?_
    refine r_xsL (pc := 355) C X dL_law_355 ?_
    refine r_aload_n (pc := 356) C 0 rfl rfl dL_law_356 ?_
    refine r_iload (pc := 357) C 5 rfl dL_law_357 ?_
    refine r_iconst (pc := 359) C dL_law_359 kc_3 ?_
    refine r_iadd (pc := 360) C dL_law_360 ?_
    refine r_xsL (pc := 361) C X dL_law_361 ?_
    refine r_aload_n (pc := 362) C 3 rfl rfl dL_law_362 ?_
    refine r_hSI (pc := 363) C Y (Rx.law X (by omega) (by omega) rfl rfl) (okL_addThread h0 Y.1 (xs (v5 + (1 : Int32)).toNatClampNeg) (xs (v5 + (2 : Int32)).toNatClampNeg) (xs (v5 + (3 : Int32)).toNatClampNeg) M g_1 g_3) mw_727 cvL_addThread rfl rfl (Nat.le_of_ble_eq_true rfl) dL_law_363 (fun o33 M32 => ?_)
    refine r_istore (pc := 366) C [(6, .int o33), (0, .ref b), (1, .ref (G.1 0 0 0)), (2, .ref (G.1 19 0 0)), (3, .ref (G.1 30 0 0)), (4, .ref (G.1 31 0 0)), (5, .int v5)] dL_law_366 (by decide) rfl ?_
    refine r_aload_n (pc := 368) C 3 rfl rfl dL_law_368 ?_
    refine r_aload_n (pc := 369) C 1 rfl rfl dL_law_369 ?_
    refine r_iload (pc := 370) C 6 rfl dL_law_370 ?_
    refine r_iconst (pc := 372) C dL_law_372 kc_1 ?_
    refine r_iadd (pc := 373) C dL_law_373 ?_
    refine r_xsL (pc := 374) C X dL_law_374 ?_
    refine r_aload_n (pc := 375) C 1 rfl rfl dL_law_375 ?_
    refine r_iload (pc := 376) C 6 rfl dL_law_376 ?_
    refine r_iconst (pc := 378) C dL_law_378 kc_2 ?_
    refine r_iadd (pc := 379) C dL_law_379 ?_
    refine r_xsL (pc := 380) C X dL_law_380 ?_
    refine r_aload_n (pc := 381) C 1 rfl rfl dL_law_381 ?_
    refine r_iload (pc := 382) C 6 rfl dL_law_382 ?_
    refine r_iconst (pc := 384) C dL_law_384 kc_3 ?_
    refine r_iadd (pc := 385) C dL_law_385 ?_
    refine r_xsL (pc := 386) C X dL_law_386 ?_
    refine r_wVI (pc := 387) C (Rx.law X (by omega) (by omega) rfl rfl) (okX8_addThread h0 (xs (v5 + (1 : Int32)).toNatClampNeg) (xs (v5 + (2 : Int32)).toNatClampNeg) (xs (v5 + (3 : Int32)).toNatClampNeg) M32 g_2) (Rc.of C rfl rfl g_2) mw_1239 cvX8_addThread rfl rfl (Nat.le_of_ble_eq_true rfl) dL_law_387 (fun o35 M34 => ?_)
    refine r_istore (pc := 390) C [(7, .int o35), (6, .int o33), (0, .ref b), (1, .ref (G.1 0 0 0)), (2, .ref (G.1 19 0 0)), (3, .ref (G.1 30 0 0)), (4, .ref (G.1 31 0 0)), (5, .int v5)] dL_law_390 (by decide) rfl ?_
    refine r_aload_n (pc := 392) C 4 rfl rfl dL_law_392 ?_
    refine r_wVI (pc := 393) C (Rx.law X (by omega) (by omega) rfl rfl) (okX8_thrown h0 M34 g_2) (Rc.of C rfl rfl g_2) mw_1076 cvX8_thrown rfl rfl (Nat.le_of_ble_eq_true rfl) dL_law_393 (fun o37 M36 => ?_)
    refine r_iload (pc := 396) C 1 rfl dL_law_396 ?_
    refine r_icmp_eq (pc := 398) C dL_law_398 (tgt := 403) rfl ?_ ?_
    refine r_iload (pc := 403) C 1 rfl dL_law_403 ?_
    refine r_if_ne (pc := 405) C dL_law_405 (tgt := 420) rfl ?_ ?_
    refine r_goto (pc := 420) C dL_law_420 (tgt := 2025) rfl ?_
    refine r_iinc (pc := 2025) C [(5, .int (v5 + (4 : Int32))), (7, .int o35), (6, .int o33), (0, .ref b), (1, .ref (G.1 0 0 0)), (2, .ref (G.1 19 0 0)), (3, .ref (G.1 30 0 0)), (4, .ref (G.1 31 0 0))] dL_law_2025 (p := 7) rfl (ki_4 _) (by decide) rfl ?_
    refine r_goto (pc := 2028) C dL_law_2028 (tgt := 28) rfl ?_
    refine r_sub [3, 4, 5, 6, 7, 0] rfl ?_
    refine r_wid (cs' := cs + 8) (sl' := sl + 48) (by omega) (by omega) ?_
    exact ih (v5 + (4 : Int32)) M36 (cs + 8) (sl + 48) (by omega) (by omega) g_1 g_2 g_3 g_4
    refine r_aload_n (pc := 408) C 5 rfl rfl dL_law_408 ?_
    refine r_iconst (pc := 409) C dL_law_409 kc_0 ?_
    refine r_lald (pc := 410) C g_3 dL_law_410 ?_
    refine r_iload (pc := 411) C 0 rfl dL_law_411 ?_
    refine r_i2l (pc := 413) C dL_law_413 ?_
    refine r_lcmp (pc := 414) C dL_law_414 ?_
    refine r_if_eq (pc := 415) C dL_law_415 (tgt := 420) rfl ?_ ?_
    refine r_goto (pc := 420) C dL_law_420 (tgt := 2025) rfl ?_
    refine r_iinc (pc := 2025) C [(5, .int (v5 + (4 : Int32))), (7, .int o35), (6, .int o33), (0, .ref b), (1, .ref (G.1 0 0 0)), (2, .ref (G.1 19 0 0)), (3, .ref (G.1 30 0 0)), (4, .ref (G.1 31 0 0))] dL_law_2025 (p := 7) rfl (ki_4 _) (by decide) rfl ?_
    refine r_goto (pc := 2028) C dL_law_2028 (tgt := 28) rfl ?_
    refine r_sub [3, 4, 5, 6, 7, 0] rfl ?_
    refine r_wid (cs' := cs + 8) (sl' := sl + 48) (by omega) (by omega) ?_
    exact ih (v5 + (4 : Int32)) M36 (cs + 8) (sl + 48) (by omega) (by omega) g_1 g_2 g_3 g_4
    refine r_iconst (pc := 418) C dL_law_418 kc_0 ?_
    exact l_ret (pc := 419) C X (by omega) (by omega) dL_law_419
    refine r_iconst (pc := 401) C dL_law_401 kc_0 ?_
    exact l_ret (pc := 402) C X (by omega) (by omega) dL_law_402
    refine r_ite (fun e38 => ?_) (fun e38n => ?_)
    refine r_tabE (pc := 44) C e38 dL_law_44 (by decide) (by decide) (off := 379) rfl (tgt := 423) rfl ?_
    refine r_aload_n (pc := 423) C 1 rfl rfl dL_law_423 ?_
    refine r_aload_n (pc := 424) C 0 rfl rfl dL_law_424 ?_
    refine r_iload (pc := 425) C 5 rfl dL_law_425 ?_
    refine r_iconst (pc := 427) C dL_law_427 kc_1 ?_
    refine r_iadd (pc := 428) C dL_law_428 ?_
    refine r_xsL (pc := 429) C X dL_law_429 ?_
    refine r_aload_n (pc := 430) C 0 rfl rfl dL_law_430 ?_
    refine r_iload (pc := 431) C 5 rfl dL_law_431 ?_
    refine r_iconst (pc := 433) C dL_law_433 kc_2 ?_
    refine r_iadd (pc := 434) C dL_law_434 ?_
    refine r_xsL (pc := 435) C X dL_law_435 ?_
    refine r_aload_n (pc := 436) C 0 rfl rfl dL_law_436 ?_
    refine r_iload (pc := 437) C 5 rfl dL_law_437 ?_
    refine r_iconst (pc := 439) C dL_law_439 kc_3 ?_
    refine r_iadd (pc := 440) C dL_law_440 ?_
    refine r_xsL (pc := 441) C X dL_law_441 ?_
    refine r_aload_n (pc := 442) C 3 rfl rfl dL_law_442 ?_
    refine r_hSI (pc := 443) C Y (Rx.law X (by omega) (by omega) rfl rfl) (okL_addInstruction h0 Y.1 (xs (v5 + (1 : Int32)).toNatClampNeg) (xs (v5 + (2 : Int32)).toNatClampNeg) (xs (v5 + (3 : Int32)).toNatClampNeg) M g_1 g_3) mw_742 cvL_addInstruction rfl rfl (Nat.le_of_ble_eq_true rfl) dL_law_443 (fun o40 M39 => ?_)
    refine r_istore (pc := 446) C [(6, .int o40), (0, .ref b), (1, .ref (G.1 0 0 0)), (2, .ref (G.1 19 0 0)), (3, .ref (G.1 30 0 0)), (4, .ref (G.1 31 0 0)), (5, .int v5)] dL_law_446 (by decide) rfl ?_
    refine r_aload_n (pc := 448) C 3 rfl rfl dL_law_448 ?_
    refine r_aload_n (pc := 449) C 1 rfl rfl dL_law_449 ?_
    refine r_iload (pc := 450) C 6 rfl dL_law_450 ?_
    refine r_iconst (pc := 452) C dL_law_452 kc_1 ?_
    refine r_iadd (pc := 453) C dL_law_453 ?_
    refine r_xsL (pc := 454) C X dL_law_454 ?_
    refine r_aload_n (pc := 455) C 1 rfl rfl dL_law_455 ?_
    refine r_iload (pc := 456) C 6 rfl dL_law_456 ?_
    refine r_iconst (pc := 458) C dL_law_458 kc_2 ?_
    refine r_iadd (pc := 459) C dL_law_459 ?_
    refine r_xsL (pc := 460) C X dL_law_460 ?_
    refine r_aload_n (pc := 461) C 1 rfl rfl dL_law_461 ?_
    refine r_iload (pc := 462) C 6 rfl dL_law_462 ?_
    refine r_iconst (pc := 464) C dL_law_464 kc_3 ?_
    refine r_iadd (pc := 465) C dL_law_465 ?_
    refine r_xsL (pc := 466) C X dL_law_466 ?_
    refine r_wVI (pc := 467) C (Rx.law X (by omega) (by omega) rfl rfl) (okX8_addInstruction h0 (xs (v5 + (1 : Int32)).toNatClampNeg) (xs (v5 + (2 : Int32)).toNatClampNeg) (xs (v5 + (3 : Int32)).toNatClampNeg) M39 g_2) (Rc.of C rfl rfl g_2) mw_1247 cvX8_addInstruction rfl rfl (Nat.le_of_ble_eq_true rfl) dL_law_467 (fun o42 M41 => ?_)
    refine r_istore (pc := 470) C [(7, .int o42), (6, .int o40), (0, .ref b), (1, .ref (G.1 0 0 0)), (2, .ref (G.1 19 0 0)), (3, .ref (G.1 30 0 0)), (4, .ref (G.1 31 0 0)), (5, .int v5)] dL_law_470 (by decide) rfl ?_
    refine r_aload_n (pc := 472) C 4 rfl rfl dL_law_472 ?_
    refine r_wVI (pc := 473) C (Rx.law X (by omega) (by omega) rfl rfl) (okX8_thrown h0 M41 g_2) (Rc.of C rfl rfl g_2) mw_1076 cvX8_thrown rfl rfl (Nat.le_of_ble_eq_true rfl) dL_law_473 (fun o44 M43 => ?_)
    refine r_iload (pc := 476) C 1 rfl dL_law_476 ?_
    refine r_icmp_eq (pc := 478) C dL_law_478 (tgt := 483) rfl ?_ ?_
    refine r_iload (pc := 483) C 1 rfl dL_law_483 ?_
    refine r_if_ne (pc := 485) C dL_law_485 (tgt := 500) rfl ?_ ?_
    refine r_goto (pc := 500) C dL_law_500 (tgt := 2025) rfl ?_
    refine r_iinc (pc := 2025) C [(5, .int (v5 + (4 : Int32))), (7, .int o42), (6, .int o40), (0, .ref b), (1, .ref (G.1 0 0 0)), (2, .ref (G.1 19 0 0)), (3, .ref (G.1 30 0 0)), (4, .ref (G.1 31 0 0))] dL_law_2025 (p := 7) rfl (ki_4 _) (by decide) rfl ?_
    refine r_goto (pc := 2028) C dL_law_2028 (tgt := 28) rfl ?_
    refine r_sub [3, 4, 5, 6, 7, 0] rfl ?_
    refine r_wid (cs' := cs + 8) (sl' := sl + 48) (by omega) (by omega) ?_
    exact ih (v5 + (4 : Int32)) M43 (cs + 8) (sl + 48) (by omega) (by omega) g_1 g_2 g_3 g_4
    refine r_aload_n (pc := 488) C 5 rfl rfl dL_law_488 ?_
    refine r_iconst (pc := 489) C dL_law_489 kc_0 ?_
    refine r_lald (pc := 490) C g_3 dL_law_490 ?_
    refine r_iload (pc := 491) C 0 rfl dL_law_491 ?_
    refine r_i2l (pc := 493) C dL_law_493 ?_
    refine r_lcmp (pc := 494) C dL_law_494 ?_
    refine r_if_eq (pc := 495) C dL_law_495 (tgt := 500) rfl ?_ ?_
    refine r_goto (pc := 500) C dL_law_500 (tgt := 2025) rfl ?_
    refine r_iinc (pc := 2025) C [(5, .int (v5 + (4 : Int32))), (7, .int o42), (6, .int o40), (0, .ref b), (1, .ref (G.1 0 0 0)), (2, .ref (G.1 19 0 0)), (3, .ref (G.1 30 0 0)), (4, .ref (G.1 31 0 0))] dL_law_2025 (p := 7) rfl (ki_4 _) (by decide) rfl ?_
    refine r_goto (pc := 2028) C dL_law_2028 (tgt := 28) rfl ?_
    refine r_sub [3, 4, 5, 6, 7, 0] rfl ?_
    refine r_wid (cs' := cs + 8) (sl' := sl + 48) (by omega) (by omega) ?_
    exact ih (v5 + (4 : Int32)) M43 (cs + 8) (sl + 48) (by omega) (by omega) g_1 g_2 g_3 g_4
    refine r_iconst (pc := 498) C dL_law_498 kc_0 ?_
    exact l_ret (pc := 499) C X (by omega) (by omega) dL_law_499
    refine r_iconst (pc := 481) C dL_law_481 kc_0 ?_
    exact l_ret (pc := 482) C X (by omega) (by omega) dL_law_482
    refine r_ite (fun e45 => ?_) (fun e45n => ?_)
    refine r_tabE (pc := 44) C e45 dL_law_44 (by decide) (by decide) (off := 459) rfl (tgt := 503) rfl ?_
    refine r_aload_n (pc := 503) C 1 rfl rfl dL_law_503 ?_
    refine r_aload_n (pc := 504) C 0 rfl rfl dL_law_504 ?_
    refine r_iload (pc := 505) C 5 rfl dL_law_505 ?_
    refine r_iconst (pc := 507) C dL_law_507 kc_1 ?_
    refine r_iadd (pc := 508) C dL_law_508 ?_
    refine r_xsL (pc := 509) C X dL_law_509 ?_
    refine r_aload_n (pc := 510) C 0 rfl rfl dL_law_510 ?_
    refine r_iload (pc := 511) C 5 rfl dL_law_511 ?_
    refine r_iconst (pc := 513) C dL_law_513 kc_2 ?_
    refine r_iadd (pc := 514) C dL_law_514 ?_
    refine r_xsL (pc := 515) C X dL_law_515 ?_
    refine r_aload_n (pc := 516) C 3 rfl rfl dL_law_516 ?_
    refine r_hSI (pc := 517) C Y (Rx.law X (by omega) (by omega) rfl rfl) (okL_setBase h0 Y.1 (xs (v5 + (1 : Int32)).toNatClampNeg) (xs (v5 + (2 : Int32)).toNatClampNeg) M g_1 g_3) mw_775 cvL_setBase rfl rfl (Nat.le_of_ble_eq_true rfl) dL_law_517 (fun o47 M46 => ?_)
    refine r_istore (pc := 520) C [(6, .int o47), (0, .ref b), (1, .ref (G.1 0 0 0)), (2, .ref (G.1 19 0 0)), (3, .ref (G.1 30 0 0)), (4, .ref (G.1 31 0 0)), (5, .int v5)] dL_law_520 (by decide) rfl ?_
    refine r_aload_n (pc := 522) C 3 rfl rfl dL_law_522 ?_
    refine r_aload_n (pc := 523) C 1 rfl rfl dL_law_523 ?_
    refine r_iload (pc := 524) C 6 rfl dL_law_524 ?_
    refine r_iconst (pc := 526) C dL_law_526 kc_1 ?_
    refine r_iadd (pc := 527) C dL_law_527 ?_
    refine r_xsL (pc := 528) C X dL_law_528 ?_
    refine r_aload_n (pc := 529) C 1 rfl rfl dL_law_529 ?_
    refine r_iload (pc := 530) C 6 rfl dL_law_530 ?_
    refine r_iconst (pc := 532) C dL_law_532 kc_2 ?_
    refine r_iadd (pc := 533) C dL_law_533 ?_
    refine r_xsL (pc := 534) C X dL_law_534 ?_
    refine r_wVI (pc := 535) C (Rx.law X (by omega) (by omega) rfl rfl) (okX8_setBase h0 (xs (v5 + (1 : Int32)).toNatClampNeg) (xs (v5 + (2 : Int32)).toNatClampNeg) M46 g_2) (Rc.of C rfl rfl g_2) mw_1255 cvX8_setBase rfl rfl (Nat.le_of_ble_eq_true rfl) dL_law_535 (fun o49 M48 => ?_)
    refine r_istore (pc := 538) C [(7, .int o49), (6, .int o47), (0, .ref b), (1, .ref (G.1 0 0 0)), (2, .ref (G.1 19 0 0)), (3, .ref (G.1 30 0 0)), (4, .ref (G.1 31 0 0)), (5, .int v5)] dL_law_538 (by decide) rfl ?_
    refine r_aload_n (pc := 540) C 4 rfl rfl dL_law_540 ?_
    refine r_wVI (pc := 541) C (Rx.law X (by omega) (by omega) rfl rfl) (okX8_thrown h0 M48 g_2) (Rc.of C rfl rfl g_2) mw_1076 cvX8_thrown rfl rfl (Nat.le_of_ble_eq_true rfl) dL_law_541 (fun o51 M50 => ?_)
    refine r_iload (pc := 544) C 1 rfl dL_law_544 ?_
    refine r_icmp_eq (pc := 546) C dL_law_546 (tgt := 551) rfl ?_ ?_
    refine r_iload (pc := 551) C 1 rfl dL_law_551 ?_
    refine r_if_ne (pc := 553) C dL_law_553 (tgt := 568) rfl ?_ ?_
    refine r_goto (pc := 568) C dL_law_568 (tgt := 2025) rfl ?_
    refine r_iinc (pc := 2025) C [(5, .int (v5 + (4 : Int32))), (7, .int o49), (6, .int o47), (0, .ref b), (1, .ref (G.1 0 0 0)), (2, .ref (G.1 19 0 0)), (3, .ref (G.1 30 0 0)), (4, .ref (G.1 31 0 0))] dL_law_2025 (p := 7) rfl (ki_4 _) (by decide) rfl ?_
    refine r_goto (pc := 2028) C dL_law_2028 (tgt := 28) rfl ?_
    refine r_sub [3, 4, 5, 6, 7, 0] rfl ?_
    refine r_wid (cs' := cs + 8) (sl' := sl + 48) (by omega) (by omega) ?_
    exact ih (v5 + (4 : Int32)) M50 (cs + 8) (sl + 48) (by omega) (by omega) g_1 g_2 g_3 g_4
    refine r_aload_n (pc := 556) C 5 rfl rfl dL_law_556 ?_
    refine r_iconst (pc := 557) C dL_law_557 kc_0 ?_
    refine r_lald (pc := 558) C g_3 dL_law_558 ?_
    refine r_iload (pc := 559) C 0 rfl dL_law_559 ?_
    refine r_i2l (pc := 561) C dL_law_561 ?_
    refine r_lcmp (pc := 562) C dL_law_562 ?_
    refine r_if_eq (pc := 563) C dL_law_563 (tgt := 568) rfl ?_ ?_
    refine r_goto (pc := 568) C dL_law_568 (tgt := 2025) rfl ?_
    refine r_iinc (pc := 2025) C [(5, .int (v5 + (4 : Int32))), (7, .int o49), (6, .int o47), (0, .ref b), (1, .ref (G.1 0 0 0)), (2, .ref (G.1 19 0 0)), (3, .ref (G.1 30 0 0)), (4, .ref (G.1 31 0 0))] dL_law_2025 (p := 7) rfl (ki_4 _) (by decide) rfl ?_
    refine r_goto (pc := 2028) C dL_law_2028 (tgt := 28) rfl ?_
    refine r_sub [3, 4, 5, 6, 7, 0] rfl ?_
    refine r_wid (cs' := cs + 8) (sl' := sl + 48) (by omega) (by omega) ?_
    exact ih (v5 + (4 : Int32)) M50 (cs + 8) (sl + 48) (by omega) (by omega) g_1 g_2 g_3 g_4
    refine r_iconst (pc := 566) C dL_law_566 kc_0 ?_
    exact l_ret (pc := 567) C X (by omega) (by omega) dL_law_567
    refine r_iconst (pc := 549) C dL_law_549 kc_0 ?_
    exact l_ret (pc := 550) C X (by omega) (by omega) dL_law_550
    refine r_ite (fun e52 => ?_) (fun e52n => ?_)
    refine r_tabE (pc := 44) C e52 dL_law_44 (by decide) (by decide) (off := 527) rfl (tgt := 571) rfl ?_
    refine r_aload_n (pc := 571) C 1 rfl rfl dL_law_571 ?_
    refine r_aload_n (pc := 572) C 0 rfl rfl dL_law_572 ?_
    refine r_iload (pc := 573) C 5 rfl dL_law_573 ?_
    refine r_iconst (pc := 575) C dL_law_575 kc_1 ?_
    refine r_iadd (pc := 576) C dL_law_576 ?_
    refine r_xsL (pc := 577) C X dL_law_577 ?_
    refine r_aload_n (pc := 578) C 0 rfl rfl dL_law_578 ?_
    refine r_iload (pc := 579) C 5 rfl dL_law_579 ?_
    refine r_iconst (pc := 581) C dL_law_581 kc_2 ?_
    refine r_iadd (pc := 582) C dL_law_582 ?_
    refine r_xsL (pc := 583) C X dL_law_583 ?_
    refine r_aload_n (pc := 584) C 3 rfl rfl dL_law_584 ?_
    refine r_hSI (pc := 585) C Y (Rx.law X (by omega) (by omega) rfl rfl) (okL_set h0 Y.1 (xs (v5 + (1 : Int32)).toNatClampNeg) (xs (v5 + (2 : Int32)).toNatClampNeg) M g_1 g_3) mw_786 cvL_set rfl rfl (Nat.le_of_ble_eq_true rfl) dL_law_585 (fun o54 M53 => ?_)
    refine r_istore (pc := 588) C [(6, .int o54), (0, .ref b), (1, .ref (G.1 0 0 0)), (2, .ref (G.1 19 0 0)), (3, .ref (G.1 30 0 0)), (4, .ref (G.1 31 0 0)), (5, .int v5)] dL_law_588 (by decide) rfl ?_
    refine r_aload_n (pc := 590) C 3 rfl rfl dL_law_590 ?_
    refine r_aload_n (pc := 591) C 1 rfl rfl dL_law_591 ?_
    refine r_iload (pc := 592) C 6 rfl dL_law_592 ?_
    refine r_iconst (pc := 594) C dL_law_594 kc_1 ?_
    refine r_iadd (pc := 595) C dL_law_595 ?_
    refine r_xsL (pc := 596) C X dL_law_596 ?_
    refine r_aload_n (pc := 597) C 1 rfl rfl dL_law_597 ?_
    refine r_iload (pc := 598) C 6 rfl dL_law_598 ?_
    refine r_iconst (pc := 600) C dL_law_600 kc_2 ?_
    refine r_iadd (pc := 601) C dL_law_601 ?_
    refine r_xsL (pc := 602) C X dL_law_602 ?_
    refine r_wVI (pc := 603) C (Rx.law X (by omega) (by omega) rfl rfl) (okX8_set h0 (xs (v5 + (1 : Int32)).toNatClampNeg) (xs (v5 + (2 : Int32)).toNatClampNeg) M53 g_2) (Rc.of C rfl rfl g_2) mw_1259 cvX8_set rfl rfl (Nat.le_of_ble_eq_true rfl) dL_law_603 (fun o56 M55 => ?_)
    refine r_istore (pc := 606) C [(7, .int o56), (6, .int o54), (0, .ref b), (1, .ref (G.1 0 0 0)), (2, .ref (G.1 19 0 0)), (3, .ref (G.1 30 0 0)), (4, .ref (G.1 31 0 0)), (5, .int v5)] dL_law_606 (by decide) rfl ?_
    refine r_aload_n (pc := 608) C 4 rfl rfl dL_law_608 ?_
    refine r_wVI (pc := 609) C (Rx.law X (by omega) (by omega) rfl rfl) (okX8_thrown h0 M55 g_2) (Rc.of C rfl rfl g_2) mw_1076 cvX8_thrown rfl rfl (Nat.le_of_ble_eq_true rfl) dL_law_609 (fun o58 M57 => ?_)
    refine r_iload (pc := 612) C 1 rfl dL_law_612 ?_
    refine r_icmp_eq (pc := 614) C dL_law_614 (tgt := 619) rfl ?_ ?_
    refine r_iload (pc := 619) C 1 rfl dL_law_619 ?_
    refine r_if_ne (pc := 621) C dL_law_621 (tgt := 636) rfl ?_ ?_
    refine r_goto (pc := 636) C dL_law_636 (tgt := 2025) rfl ?_
    refine r_iinc (pc := 2025) C [(5, .int (v5 + (4 : Int32))), (7, .int o56), (6, .int o54), (0, .ref b), (1, .ref (G.1 0 0 0)), (2, .ref (G.1 19 0 0)), (3, .ref (G.1 30 0 0)), (4, .ref (G.1 31 0 0))] dL_law_2025 (p := 7) rfl (ki_4 _) (by decide) rfl ?_
    refine r_goto (pc := 2028) C dL_law_2028 (tgt := 28) rfl ?_
    refine r_sub [3, 4, 5, 6, 7, 0] rfl ?_
    refine r_wid (cs' := cs + 8) (sl' := sl + 48) (by omega) (by omega) ?_
    exact ih (v5 + (4 : Int32)) M57 (cs + 8) (sl + 48) (by omega) (by omega) g_1 g_2 g_3 g_4
    refine r_aload_n (pc := 624) C 5 rfl rfl dL_law_624 ?_
    refine r_iconst (pc := 625) C dL_law_625 kc_0 ?_
    refine r_lald (pc := 626) C g_3 dL_law_626 ?_
    refine r_iload (pc := 627) C 0 rfl dL_law_627 ?_
    refine r_i2l (pc := 629) C dL_law_629 ?_
    refine r_lcmp (pc := 630) C dL_law_630 ?_
    refine r_if_eq (pc := 631) C dL_law_631 (tgt := 636) rfl ?_ ?_
    refine r_goto (pc := 636) C dL_law_636 (tgt := 2025) rfl ?_
    refine r_iinc (pc := 2025) C [(5, .int (v5 + (4 : Int32))), (7, .int o56), (6, .int o54), (0, .ref b), (1, .ref (G.1 0 0 0)), (2, .ref (G.1 19 0 0)), (3, .ref (G.1 30 0 0)), (4, .ref (G.1 31 0 0))] dL_law_2025 (p := 7) rfl (ki_4 _) (by decide) rfl ?_
    refine r_goto (pc := 2028) C dL_law_2028 (tgt := 28) rfl ?_
    refine r_sub [3, 4, 5, 6, 7, 0] rfl ?_
    refine r_wid (cs' := cs + 8) (sl' := sl + 48) (by omega) (by omega) ?_
    exact ih (v5 + (4 : Int32)) M57 (cs + 8) (sl + 48) (by omega) (by omega) g_1 g_2 g_3 g_4
    refine r_iconst (pc := 634) C dL_law_634 kc_0 ?_
    exact l_ret (pc := 635) C X (by omega) (by omega) dL_law_635
    refine r_iconst (pc := 617) C dL_law_617 kc_0 ?_
    exact l_ret (pc := 618) C X (by omega) (by omega) dL_law_618
    refine r_ite (fun e59 => ?_) (fun e59n => ?_)
    refine r_tabE (pc := 44) C e59 dL_law_44 (by decide) (by decide) (off := 595) rfl (tgt := 639) rfl ?_
    refine r_aload_n (pc := 639) C 1 rfl rfl dL_law_639 ?_
    refine r_aload_n (pc := 640) C 0 rfl rfl dL_law_640 ?_
    refine r_iload (pc := 641) C 5 rfl dL_law_641 ?_
    refine r_iconst (pc := 643) C dL_law_643 kc_1 ?_
    refine r_iadd (pc := 644) C dL_law_644 ?_
    refine r_xsL (pc := 645) C X dL_law_645 ?_
    refine r_hSI (pc := 646) C Y (Rx.law X (by omega) (by omega) rfl rfl) (okL_seed h0 Y.1 (xs (v5 + (1 : Int32)).toNatClampNeg) M g_1) mw_795 cvL_seed rfl rfl (Nat.le_of_ble_eq_true rfl) dL_law_646 (fun o61 M60 => ?_)
    refine r_istore (pc := 649) C [(6, .int o61), (0, .ref b), (1, .ref (G.1 0 0 0)), (2, .ref (G.1 19 0 0)), (3, .ref (G.1 30 0 0)), (4, .ref (G.1 31 0 0)), (5, .int v5)] dL_law_649 (by decide) rfl ?_
    refine r_aload_n (pc := 651) C 3 rfl rfl dL_law_651 ?_
    refine r_aload_n (pc := 652) C 1 rfl rfl dL_law_652 ?_
    refine r_iload (pc := 653) C 6 rfl dL_law_653 ?_
    refine r_iconst (pc := 655) C dL_law_655 kc_1 ?_
    refine r_iadd (pc := 656) C dL_law_656 ?_
    refine r_xsL (pc := 657) C X dL_law_657 ?_
    refine r_wVV (pc := 658) C (Rx.law X (by omega) (by omega) rfl rfl) (okX8_seed h0 (xs (v5 + (1 : Int32)).toNatClampNeg) M60 g_2) (Rc.of C rfl rfl g_2) mw_1263 cvX8_seed rfl rfl (Nat.le_of_ble_eq_true rfl) dL_law_658 (fun o63 M62 => ?_)
    refine r_aload_n (pc := 661) C 3 rfl rfl dL_law_661 ?_
    refine r_wVI (pc := 662) C (Rx.law X (by omega) (by omega) rfl rfl) (okX8_thrown h0 M62 g_2) (Rc.of C rfl rfl g_2) mw_1076 cvX8_thrown rfl rfl (Nat.le_of_ble_eq_true rfl) dL_law_662 (fun o65 M64 => ?_)
    refine r_iload (pc := 665) C 0 rfl dL_law_665 ?_
    refine r_icmp_eq (pc := 667) C dL_law_667 (tgt := 672) rfl ?_ ?_
    refine r_goto (pc := 672) C dL_law_672 (tgt := 2025) rfl ?_
    refine r_iinc (pc := 2025) C [(5, .int (v5 + (4 : Int32))), (6, .int o61), (0, .ref b), (1, .ref (G.1 0 0 0)), (2, .ref (G.1 19 0 0)), (3, .ref (G.1 30 0 0)), (4, .ref (G.1 31 0 0))] dL_law_2025 (p := 6) rfl (ki_4 _) (by decide) rfl ?_
    refine r_goto (pc := 2028) C dL_law_2028 (tgt := 28) rfl ?_
    refine r_sub [2, 3, 4, 5, 6, 0] rfl ?_
    refine r_wid (cs' := cs + 8) (sl' := sl + 48) (by omega) (by omega) ?_
    exact ih (v5 + (4 : Int32)) M64 (cs + 8) (sl + 48) (by omega) (by omega) g_1 g_2 g_3 g_4
    refine r_iconst (pc := 670) C dL_law_670 kc_0 ?_
    exact l_ret (pc := 671) C X (by omega) (by omega) dL_law_671
    refine r_ite (fun e66 => ?_) (fun e66n => ?_)
    refine r_tabE (pc := 44) C e66 dL_law_44 (by decide) (by decide) (off := 631) rfl (tgt := 675) rfl ?_
    refine r_aload_n (pc := 675) C 1 rfl rfl dL_law_675 ?_
    refine r_aload_n (pc := 676) C 0 rfl rfl dL_law_676 ?_
    refine r_iload (pc := 677) C 5 rfl dL_law_677 ?_
    refine r_iconst (pc := 679) C dL_law_679 kc_1 ?_
    refine r_iadd (pc := 680) C dL_law_680 ?_
    refine r_xsL (pc := 681) C X dL_law_681 ?_
    refine r_aload_n (pc := 682) C 0 rfl rfl dL_law_682 ?_
    refine r_iload (pc := 683) C 5 rfl dL_law_683 ?_
    refine r_iconst (pc := 685) C dL_law_685 kc_2 ?_
    refine r_iadd (pc := 686) C dL_law_686 ?_
    refine r_xsL (pc := 687) C X dL_law_687 ?_
    refine r_if_eq (pc := 688) C dL_law_688 (tgt := 695) rfl ?_ ?_
    refine r_iconst (pc := 695) C dL_law_695 kc_0 ?_
    refine r_wid (cs' := cs + 0) (sl' := sl + 0) (by omega) (by omega) ?_
    exact lL_law_696 (N := N) (xs := xs) (b := b) (cs := cs) (sl := sl) (k28 := (fun v5 M => pL_law N xs  n v5 M)) C Y X hcs hsl h0 (fun v5 M g_1 g_2 g_3 g_4 => ih v5 M (cs + 8) (sl + 48) (by omega) (by omega) g_1 g_2 g_3 g_4)  v5 (0 : Int32) (xs (v5 + (1 : Int32)).toNatClampNeg) M g_1 g_2 g_3 g_4 g_1
    refine r_iconst (pc := 691) C dL_law_691 kc_1 ?_
    refine r_goto (pc := 692) C dL_law_692 (tgt := 696) rfl ?_
    refine r_wid (cs' := cs + 0) (sl' := sl + 0) (by omega) (by omega) ?_
    exact lL_law_696 (N := N) (xs := xs) (b := b) (cs := cs) (sl := sl) (k28 := (fun v5 M => pL_law N xs  n v5 M)) C Y X hcs hsl h0 (fun v5 M g_1 g_2 g_3 g_4 => ih v5 M (cs + 8) (sl + 48) (by omega) (by omega) g_1 g_2 g_3 g_4)  v5 (1 : Int32) (xs (v5 + (1 : Int32)).toNatClampNeg) M g_1 g_2 g_3 g_4 g_1
    refine r_ite (fun e67 => ?_) (fun e67n => ?_)
    refine r_tabE (pc := 44) C e67 dL_law_44 (by decide) (by decide) (off := 722) rfl (tgt := 766) rfl ?_
    refine r_aload_n (pc := 766) C 1 rfl rfl dL_law_766 ?_
    refine r_aload_n (pc := 767) C 0 rfl rfl dL_law_767 ?_
    refine r_iload (pc := 768) C 5 rfl dL_law_768 ?_
    refine r_iconst (pc := 770) C dL_law_770 kc_1 ?_
    refine r_iadd (pc := 771) C dL_law_771 ?_
    refine r_xsL (pc := 772) C X dL_law_772 ?_
    refine r_aload_n (pc := 773) C 3 rfl rfl dL_law_773 ?_
    refine r_hSI (pc := 774) C Y (Rx.law X (by omega) (by omega) rfl rfl) (okL_count h0 Y.1 (xs (v5 + (1 : Int32)).toNatClampNeg) M g_1 g_3) mw_812 cvL_count rfl rfl (Nat.le_of_ble_eq_true rfl) dL_law_774 (fun o69 M68 => ?_)
    refine r_istore (pc := 777) C [(6, .int o69), (0, .ref b), (1, .ref (G.1 0 0 0)), (2, .ref (G.1 19 0 0)), (3, .ref (G.1 30 0 0)), (4, .ref (G.1 31 0 0)), (5, .int v5)] dL_law_777 (by decide) rfl ?_
    refine r_aload_n (pc := 779) C 3 rfl rfl dL_law_779 ?_
    refine r_aload_n (pc := 780) C 1 rfl rfl dL_law_780 ?_
    refine r_iload (pc := 781) C 6 rfl dL_law_781 ?_
    refine r_iconst (pc := 783) C dL_law_783 kc_1 ?_
    refine r_iadd (pc := 784) C dL_law_784 ?_
    refine r_xsL (pc := 785) C X dL_law_785 ?_
    refine r_wVI (pc := 786) C (Rx.law X (by omega) (by omega) rfl rfl) (okX8_count h0 (xs (v5 + (1 : Int32)).toNatClampNeg) M68 g_2) (Rc.of C rfl rfl g_2) mw_1271 cvX8_count rfl rfl (Nat.le_of_ble_eq_true rfl) dL_law_786 (fun o71 M70 => ?_)
    refine r_istore (pc := 789) C [(7, .int o71), (6, .int o69), (0, .ref b), (1, .ref (G.1 0 0 0)), (2, .ref (G.1 19 0 0)), (3, .ref (G.1 30 0 0)), (4, .ref (G.1 31 0 0)), (5, .int v5)] dL_law_789 (by decide) rfl ?_
    refine r_aload_n (pc := 791) C 4 rfl rfl dL_law_791 ?_
    refine r_wVI (pc := 792) C (Rx.law X (by omega) (by omega) rfl rfl) (okX8_thrown h0 M70 g_2) (Rc.of C rfl rfl g_2) mw_1076 cvX8_thrown rfl rfl (Nat.le_of_ble_eq_true rfl) dL_law_792 (fun o73 M72 => ?_)
    refine r_iload (pc := 795) C 1 rfl dL_law_795 ?_
    refine r_icmp_eq (pc := 797) C dL_law_797 (tgt := 802) rfl ?_ ?_
    refine r_iload (pc := 802) C 1 rfl dL_law_802 ?_
    refine r_if_ne (pc := 804) C dL_law_804 (tgt := 819) rfl ?_ ?_
    refine r_goto (pc := 819) C dL_law_819 (tgt := 2025) rfl ?_
    refine r_iinc (pc := 2025) C [(5, .int (v5 + (4 : Int32))), (7, .int o71), (6, .int o69), (0, .ref b), (1, .ref (G.1 0 0 0)), (2, .ref (G.1 19 0 0)), (3, .ref (G.1 30 0 0)), (4, .ref (G.1 31 0 0))] dL_law_2025 (p := 7) rfl (ki_4 _) (by decide) rfl ?_
    refine r_goto (pc := 2028) C dL_law_2028 (tgt := 28) rfl ?_
    refine r_sub [3, 4, 5, 6, 7, 0] rfl ?_
    refine r_wid (cs' := cs + 8) (sl' := sl + 48) (by omega) (by omega) ?_
    exact ih (v5 + (4 : Int32)) M72 (cs + 8) (sl + 48) (by omega) (by omega) g_1 g_2 g_3 g_4
    refine r_aload_n (pc := 807) C 5 rfl rfl dL_law_807 ?_
    refine r_iconst (pc := 808) C dL_law_808 kc_0 ?_
    refine r_lald (pc := 809) C g_3 dL_law_809 ?_
    refine r_iload (pc := 810) C 0 rfl dL_law_810 ?_
    refine r_i2l (pc := 812) C dL_law_812 ?_
    refine r_lcmp (pc := 813) C dL_law_813 ?_
    refine r_if_eq (pc := 814) C dL_law_814 (tgt := 819) rfl ?_ ?_
    refine r_goto (pc := 819) C dL_law_819 (tgt := 2025) rfl ?_
    refine r_iinc (pc := 2025) C [(5, .int (v5 + (4 : Int32))), (7, .int o71), (6, .int o69), (0, .ref b), (1, .ref (G.1 0 0 0)), (2, .ref (G.1 19 0 0)), (3, .ref (G.1 30 0 0)), (4, .ref (G.1 31 0 0))] dL_law_2025 (p := 7) rfl (ki_4 _) (by decide) rfl ?_
    refine r_goto (pc := 2028) C dL_law_2028 (tgt := 28) rfl ?_
    refine r_sub [3, 4, 5, 6, 7, 0] rfl ?_
    refine r_wid (cs' := cs + 8) (sl' := sl + 48) (by omega) (by omega) ?_
    exact ih (v5 + (4 : Int32)) M72 (cs + 8) (sl + 48) (by omega) (by omega) g_1 g_2 g_3 g_4
    refine r_iconst (pc := 817) C dL_law_817 kc_0 ?_
    exact l_ret (pc := 818) C X (by omega) (by omega) dL_law_818
    refine r_iconst (pc := 800) C dL_law_800 kc_0 ?_
    exact l_ret (pc := 801) C X (by omega) (by omega) dL_law_801
    refine r_ite (fun e74 => ?_) (fun e74n => ?_)
    refine r_tabE (pc := 44) C e74 dL_law_44 (by decide) (by decide) (off := 778) rfl (tgt := 822) rfl ?_
    refine r_aload_n (pc := 822) C 1 rfl rfl dL_law_822 ?_
    refine r_aload_n (pc := 823) C 0 rfl rfl dL_law_823 ?_
    refine r_iload (pc := 824) C 5 rfl dL_law_824 ?_
    refine r_iconst (pc := 826) C dL_law_826 kc_1 ?_
    refine r_iadd (pc := 827) C dL_law_827 ?_
    refine r_xsL (pc := 828) C X dL_law_828 ?_
    refine r_aload_n (pc := 829) C 0 rfl rfl dL_law_829 ?_
    refine r_iload (pc := 830) C 5 rfl dL_law_830 ?_
    refine r_iconst (pc := 832) C dL_law_832 kc_2 ?_
    refine r_iadd (pc := 833) C dL_law_833 ?_
    refine r_xsL (pc := 834) C X dL_law_834 ?_
    refine r_aload_n (pc := 835) C 3 rfl rfl dL_law_835 ?_
    refine r_hSI (pc := 836) C Y (Rx.law X (by omega) (by omega) rfl rfl) (okL_thread h0 Y.1 (xs (v5 + (1 : Int32)).toNatClampNeg) (xs (v5 + (2 : Int32)).toNatClampNeg) M g_1 g_3) mw_831 cvL_thread rfl rfl (Nat.le_of_ble_eq_true rfl) dL_law_836 (fun o76 M75 => ?_)
    refine r_istore (pc := 839) C [(6, .int o76), (0, .ref b), (1, .ref (G.1 0 0 0)), (2, .ref (G.1 19 0 0)), (3, .ref (G.1 30 0 0)), (4, .ref (G.1 31 0 0)), (5, .int v5)] dL_law_839 (by decide) rfl ?_
    refine r_aload_n (pc := 841) C 3 rfl rfl dL_law_841 ?_
    refine r_aload_n (pc := 842) C 1 rfl rfl dL_law_842 ?_
    refine r_iload (pc := 843) C 6 rfl dL_law_843 ?_
    refine r_iconst (pc := 845) C dL_law_845 kc_1 ?_
    refine r_iadd (pc := 846) C dL_law_846 ?_
    refine r_xsL (pc := 847) C X dL_law_847 ?_
    refine r_aload_n (pc := 848) C 1 rfl rfl dL_law_848 ?_
    refine r_iload (pc := 849) C 6 rfl dL_law_849 ?_
    refine r_iconst (pc := 851) C dL_law_851 kc_2 ?_
    refine r_iadd (pc := 852) C dL_law_852 ?_
    refine r_xsL (pc := 853) C X dL_law_853 ?_
    refine r_wVI (pc := 854) C (Rx.law X (by omega) (by omega) rfl rfl) (okX8_thread h0 (xs (v5 + (1 : Int32)).toNatClampNeg) (xs (v5 + (2 : Int32)).toNatClampNeg) M75 g_2) (Rc.of C rfl rfl g_2) mw_1283 cvX8_thread rfl rfl (Nat.le_of_ble_eq_true rfl) dL_law_854 (fun o78 M77 => ?_)
    refine r_istore (pc := 857) C [(7, .int o78), (6, .int o76), (0, .ref b), (1, .ref (G.1 0 0 0)), (2, .ref (G.1 19 0 0)), (3, .ref (G.1 30 0 0)), (4, .ref (G.1 31 0 0)), (5, .int v5)] dL_law_857 (by decide) rfl ?_
    refine r_aload_n (pc := 859) C 4 rfl rfl dL_law_859 ?_
    refine r_wVI (pc := 860) C (Rx.law X (by omega) (by omega) rfl rfl) (okX8_thrown h0 M77 g_2) (Rc.of C rfl rfl g_2) mw_1076 cvX8_thrown rfl rfl (Nat.le_of_ble_eq_true rfl) dL_law_860 (fun o80 M79 => ?_)
    refine r_iload (pc := 863) C 1 rfl dL_law_863 ?_
    refine r_icmp_eq (pc := 865) C dL_law_865 (tgt := 870) rfl ?_ ?_
    refine r_iload (pc := 870) C 1 rfl dL_law_870 ?_
    refine r_if_ne (pc := 872) C dL_law_872 (tgt := 887) rfl ?_ ?_
    refine r_goto (pc := 887) C dL_law_887 (tgt := 2025) rfl ?_
    refine r_iinc (pc := 2025) C [(5, .int (v5 + (4 : Int32))), (7, .int o78), (6, .int o76), (0, .ref b), (1, .ref (G.1 0 0 0)), (2, .ref (G.1 19 0 0)), (3, .ref (G.1 30 0 0)), (4, .ref (G.1 31 0 0))] dL_law_2025 (p := 7) rfl (ki_4 _) (by decide) rfl ?_
    refine r_goto (pc := 2028) C dL_law_2028 (tgt := 28) rfl ?_
    refine r_sub [3, 4, 5, 6, 7, 0] rfl ?_
    refine r_wid (cs' := cs + 8) (sl' := sl + 48) (by omega) (by omega) ?_
    exact ih (v5 + (4 : Int32)) M79 (cs + 8) (sl + 48) (by omega) (by omega) g_1 g_2 g_3 g_4
    refine r_aload_n (pc := 875) C 5 rfl rfl dL_law_875 ?_
    refine r_iconst (pc := 876) C dL_law_876 kc_0 ?_
    refine r_lald (pc := 877) C g_3 dL_law_877 ?_
    refine r_iload (pc := 878) C 0 rfl dL_law_878 ?_
    refine r_i2l (pc := 880) C dL_law_880 ?_
    refine r_lcmp (pc := 881) C dL_law_881 ?_
    refine r_if_eq (pc := 882) C dL_law_882 (tgt := 887) rfl ?_ ?_
    refine r_goto (pc := 887) C dL_law_887 (tgt := 2025) rfl ?_
    refine r_iinc (pc := 2025) C [(5, .int (v5 + (4 : Int32))), (7, .int o78), (6, .int o76), (0, .ref b), (1, .ref (G.1 0 0 0)), (2, .ref (G.1 19 0 0)), (3, .ref (G.1 30 0 0)), (4, .ref (G.1 31 0 0))] dL_law_2025 (p := 7) rfl (ki_4 _) (by decide) rfl ?_
    refine r_goto (pc := 2028) C dL_law_2028 (tgt := 28) rfl ?_
    refine r_sub [3, 4, 5, 6, 7, 0] rfl ?_
    refine r_wid (cs' := cs + 8) (sl' := sl + 48) (by omega) (by omega) ?_
    exact ih (v5 + (4 : Int32)) M79 (cs + 8) (sl + 48) (by omega) (by omega) g_1 g_2 g_3 g_4
    refine r_iconst (pc := 885) C dL_law_885 kc_0 ?_
    exact l_ret (pc := 886) C X (by omega) (by omega) dL_law_886
    refine r_iconst (pc := 868) C dL_law_868 kc_0 ?_
    exact l_ret (pc := 869) C X (by omega) (by omega) dL_law_869
    refine r_ite (fun e81 => ?_) (fun e81n => ?_)
    refine r_tabE (pc := 44) C e81 dL_law_44 (by decide) (by decide) (off := 846) rfl (tgt := 890) rfl ?_
    refine r_aload_n (pc := 890) C 1 rfl rfl dL_law_890 ?_
    refine r_aload_n (pc := 891) C 0 rfl rfl dL_law_891 ?_
    refine r_iload (pc := 892) C 5 rfl dL_law_892 ?_
    refine r_iconst (pc := 894) C dL_law_894 kc_1 ?_
    refine r_iadd (pc := 895) C dL_law_895 ?_
    refine r_xsL (pc := 896) C X dL_law_896 ?_
    refine r_aload_n (pc := 897) C 0 rfl rfl dL_law_897 ?_
    refine r_iload (pc := 898) C 5 rfl dL_law_898 ?_
    refine r_iconst (pc := 900) C dL_law_900 kc_2 ?_
    refine r_iadd (pc := 901) C dL_law_901 ?_
    refine r_xsL (pc := 902) C X dL_law_902 ?_
    refine r_aload_n (pc := 903) C 0 rfl rfl dL_law_903 ?_
    refine r_iload (pc := 904) C 5 rfl dL_law_904 ?_
    refine r_iconst (pc := 906) C dL_law_906 kc_3 ?_
    refine r_iadd (pc := 907) C dL_law_907 ?_
    refine r_xsL (pc := 908) C X dL_law_908 ?_
    refine r_aload_n (pc := 909) C 3 rfl rfl dL_law_909 ?_
    refine r_hSI (pc := 910) C Y (Rx.law X (by omega) (by omega) rfl rfl) (okL_instruction h0 Y.1 (xs (v5 + (1 : Int32)).toNatClampNeg) (xs (v5 + (2 : Int32)).toNatClampNeg) (xs (v5 + (3 : Int32)).toNatClampNeg) M g_1 g_3) mw_847 cvL_instruction rfl rfl (Nat.le_of_ble_eq_true rfl) dL_law_910 (fun o83 M82 => ?_)
    refine r_istore (pc := 913) C [(6, .int o83), (0, .ref b), (1, .ref (G.1 0 0 0)), (2, .ref (G.1 19 0 0)), (3, .ref (G.1 30 0 0)), (4, .ref (G.1 31 0 0)), (5, .int v5)] dL_law_913 (by decide) rfl ?_
    refine r_aload_n (pc := 915) C 3 rfl rfl dL_law_915 ?_
    refine r_aload_n (pc := 916) C 1 rfl rfl dL_law_916 ?_
    refine r_iload (pc := 917) C 6 rfl dL_law_917 ?_
    refine r_iconst (pc := 919) C dL_law_919 kc_1 ?_
    refine r_iadd (pc := 920) C dL_law_920 ?_
    refine r_xsL (pc := 921) C X dL_law_921 ?_
    refine r_aload_n (pc := 922) C 1 rfl rfl dL_law_922 ?_
    refine r_iload (pc := 923) C 6 rfl dL_law_923 ?_
    refine r_iconst (pc := 925) C dL_law_925 kc_2 ?_
    refine r_iadd (pc := 926) C dL_law_926 ?_
    refine r_xsL (pc := 927) C X dL_law_927 ?_
    refine r_aload_n (pc := 928) C 1 rfl rfl dL_law_928 ?_
    refine r_iload (pc := 929) C 6 rfl dL_law_929 ?_
    refine r_iconst (pc := 931) C dL_law_931 kc_3 ?_
    refine r_iadd (pc := 932) C dL_law_932 ?_
    refine r_xsL (pc := 933) C X dL_law_933 ?_
    refine r_wVI (pc := 934) C (Rx.law X (by omega) (by omega) rfl rfl) (okX8_instruction h0 (xs (v5 + (1 : Int32)).toNatClampNeg) (xs (v5 + (2 : Int32)).toNatClampNeg) (xs (v5 + (3 : Int32)).toNatClampNeg) M82 g_2) (Rc.of C rfl rfl g_2) mw_1296 cvX8_instruction rfl rfl (Nat.le_of_ble_eq_true rfl) dL_law_934 (fun o85 M84 => ?_)
    refine r_istore (pc := 937) C [(7, .int o85), (6, .int o83), (0, .ref b), (1, .ref (G.1 0 0 0)), (2, .ref (G.1 19 0 0)), (3, .ref (G.1 30 0 0)), (4, .ref (G.1 31 0 0)), (5, .int v5)] dL_law_937 (by decide) rfl ?_
    refine r_aload_n (pc := 939) C 4 rfl rfl dL_law_939 ?_
    refine r_wVI (pc := 940) C (Rx.law X (by omega) (by omega) rfl rfl) (okX8_thrown h0 M84 g_2) (Rc.of C rfl rfl g_2) mw_1076 cvX8_thrown rfl rfl (Nat.le_of_ble_eq_true rfl) dL_law_940 (fun o87 M86 => ?_)
    refine r_iload (pc := 943) C 1 rfl dL_law_943 ?_
    refine r_icmp_eq (pc := 945) C dL_law_945 (tgt := 950) rfl ?_ ?_
    refine r_iload (pc := 950) C 1 rfl dL_law_950 ?_
    refine r_if_ne (pc := 952) C dL_law_952 (tgt := 967) rfl ?_ ?_
    refine r_goto (pc := 967) C dL_law_967 (tgt := 2025) rfl ?_
    refine r_iinc (pc := 2025) C [(5, .int (v5 + (4 : Int32))), (7, .int o85), (6, .int o83), (0, .ref b), (1, .ref (G.1 0 0 0)), (2, .ref (G.1 19 0 0)), (3, .ref (G.1 30 0 0)), (4, .ref (G.1 31 0 0))] dL_law_2025 (p := 7) rfl (ki_4 _) (by decide) rfl ?_
    refine r_goto (pc := 2028) C dL_law_2028 (tgt := 28) rfl ?_
    refine r_sub [3, 4, 5, 6, 7, 0] rfl ?_
    refine r_wid (cs' := cs + 8) (sl' := sl + 48) (by omega) (by omega) ?_
    exact ih (v5 + (4 : Int32)) M86 (cs + 8) (sl + 48) (by omega) (by omega) g_1 g_2 g_3 g_4
    refine r_aload_n (pc := 955) C 5 rfl rfl dL_law_955 ?_
    refine r_iconst (pc := 956) C dL_law_956 kc_0 ?_
    refine r_lald (pc := 957) C g_3 dL_law_957 ?_
    refine r_iload (pc := 958) C 0 rfl dL_law_958 ?_
    refine r_i2l (pc := 960) C dL_law_960 ?_
    refine r_lcmp (pc := 961) C dL_law_961 ?_
    refine r_if_eq (pc := 962) C dL_law_962 (tgt := 967) rfl ?_ ?_
    refine r_goto (pc := 967) C dL_law_967 (tgt := 2025) rfl ?_
    refine r_iinc (pc := 2025) C [(5, .int (v5 + (4 : Int32))), (7, .int o85), (6, .int o83), (0, .ref b), (1, .ref (G.1 0 0 0)), (2, .ref (G.1 19 0 0)), (3, .ref (G.1 30 0 0)), (4, .ref (G.1 31 0 0))] dL_law_2025 (p := 7) rfl (ki_4 _) (by decide) rfl ?_
    refine r_goto (pc := 2028) C dL_law_2028 (tgt := 28) rfl ?_
    refine r_sub [3, 4, 5, 6, 7, 0] rfl ?_
    refine r_wid (cs' := cs + 8) (sl' := sl + 48) (by omega) (by omega) ?_
    exact ih (v5 + (4 : Int32)) M86 (cs + 8) (sl + 48) (by omega) (by omega) g_1 g_2 g_3 g_4
    refine r_iconst (pc := 965) C dL_law_965 kc_0 ?_
    exact l_ret (pc := 966) C X (by omega) (by omega) dL_law_966
    refine r_iconst (pc := 948) C dL_law_948 kc_0 ?_
    exact l_ret (pc := 949) C X (by omega) (by omega) dL_law_949
    refine r_ite (fun e88 => ?_) (fun e88n => ?_)
    refine r_tabE (pc := 44) C e88 dL_law_44 (by decide) (by decide) (off := 926) rfl (tgt := 970) rfl ?_
    refine r_aload_n (pc := 970) C 1 rfl rfl dL_law_970 ?_
    refine r_aload_n (pc := 971) C 0 rfl rfl dL_law_971 ?_
    refine r_iload (pc := 972) C 5 rfl dL_law_972 ?_
    refine r_iconst (pc := 974) C dL_law_974 kc_1 ?_
    refine r_iadd (pc := 975) C dL_law_975 ?_
    refine r_xsL (pc := 976) C X dL_law_976 ?_
    refine r_aload_n (pc := 977) C 0 rfl rfl dL_law_977 ?_
    refine r_iload (pc := 978) C 5 rfl dL_law_978 ?_
    refine r_iconst (pc := 980) C dL_law_980 kc_2 ?_
    refine r_iadd (pc := 981) C dL_law_981 ?_
    refine r_xsL (pc := 982) C X dL_law_982 ?_
    refine r_aload_n (pc := 983) C 3 rfl rfl dL_law_983 ?_
    refine r_hSI (pc := 984) C Y (Rx.law X (by omega) (by omega) rfl rfl) (okL_lock h0 Y.1 (xs (v5 + (1 : Int32)).toNatClampNeg) (xs (v5 + (2 : Int32)).toNatClampNeg) M g_1 g_3) mw_854 cvL_lock rfl rfl (Nat.le_of_ble_eq_true rfl) dL_law_984 (fun o90 M89 => ?_)
    refine r_istore (pc := 987) C [(6, .int o90), (0, .ref b), (1, .ref (G.1 0 0 0)), (2, .ref (G.1 19 0 0)), (3, .ref (G.1 30 0 0)), (4, .ref (G.1 31 0 0)), (5, .int v5)] dL_law_987 (by decide) rfl ?_
    refine r_aload_n (pc := 989) C 3 rfl rfl dL_law_989 ?_
    refine r_aload_n (pc := 990) C 1 rfl rfl dL_law_990 ?_
    refine r_iload (pc := 991) C 6 rfl dL_law_991 ?_
    refine r_iconst (pc := 993) C dL_law_993 kc_1 ?_
    refine r_iadd (pc := 994) C dL_law_994 ?_
    refine r_xsL (pc := 995) C X dL_law_995 ?_
    refine r_aload_n (pc := 996) C 1 rfl rfl dL_law_996 ?_
    refine r_iload (pc := 997) C 6 rfl dL_law_997 ?_
    refine r_iconst (pc := 999) C dL_law_999 kc_2 ?_
    refine r_iadd (pc := 1000) C dL_law_1000 ?_
    refine r_xsL (pc := 1001) C X dL_law_1001 ?_
    refine r_wVI (pc := 1002) C (Rx.law X (by omega) (by omega) rfl rfl) (okX8_lock h0 (xs (v5 + (1 : Int32)).toNatClampNeg) (xs (v5 + (2 : Int32)).toNatClampNeg) M89 g_2) (Rc.of C rfl rfl g_2) mw_1300 cvX8_lock rfl rfl (Nat.le_of_ble_eq_true rfl) dL_law_1002 (fun o92 M91 => ?_)
    refine r_istore (pc := 1005) C [(7, .int o92), (6, .int o90), (0, .ref b), (1, .ref (G.1 0 0 0)), (2, .ref (G.1 19 0 0)), (3, .ref (G.1 30 0 0)), (4, .ref (G.1 31 0 0)), (5, .int v5)] dL_law_1005 (by decide) rfl ?_
    refine r_aload_n (pc := 1007) C 4 rfl rfl dL_law_1007 ?_
    refine r_wVI (pc := 1008) C (Rx.law X (by omega) (by omega) rfl rfl) (okX8_thrown h0 M91 g_2) (Rc.of C rfl rfl g_2) mw_1076 cvX8_thrown rfl rfl (Nat.le_of_ble_eq_true rfl) dL_law_1008 (fun o94 M93 => ?_)
    refine r_iload (pc := 1011) C 1 rfl dL_law_1011 ?_
    refine r_icmp_eq (pc := 1013) C dL_law_1013 (tgt := 1018) rfl ?_ ?_
    refine r_iload (pc := 1018) C 1 rfl dL_law_1018 ?_
    refine r_if_ne (pc := 1020) C dL_law_1020 (tgt := 1035) rfl ?_ ?_
    refine r_goto (pc := 1035) C dL_law_1035 (tgt := 2025) rfl ?_
    refine r_iinc (pc := 2025) C [(5, .int (v5 + (4 : Int32))), (7, .int o92), (6, .int o90), (0, .ref b), (1, .ref (G.1 0 0 0)), (2, .ref (G.1 19 0 0)), (3, .ref (G.1 30 0 0)), (4, .ref (G.1 31 0 0))] dL_law_2025 (p := 7) rfl (ki_4 _) (by decide) rfl ?_
    refine r_goto (pc := 2028) C dL_law_2028 (tgt := 28) rfl ?_
    refine r_sub [3, 4, 5, 6, 7, 0] rfl ?_
    refine r_wid (cs' := cs + 8) (sl' := sl + 48) (by omega) (by omega) ?_
    exact ih (v5 + (4 : Int32)) M93 (cs + 8) (sl + 48) (by omega) (by omega) g_1 g_2 g_3 g_4
    refine r_aload_n (pc := 1023) C 5 rfl rfl dL_law_1023 ?_
    refine r_iconst (pc := 1024) C dL_law_1024 kc_0 ?_
    refine r_lald (pc := 1025) C g_3 dL_law_1025 ?_
    refine r_iload (pc := 1026) C 0 rfl dL_law_1026 ?_
    refine r_i2l (pc := 1028) C dL_law_1028 ?_
    refine r_lcmp (pc := 1029) C dL_law_1029 ?_
    refine r_if_eq (pc := 1030) C dL_law_1030 (tgt := 1035) rfl ?_ ?_
    refine r_goto (pc := 1035) C dL_law_1035 (tgt := 2025) rfl ?_
    refine r_iinc (pc := 2025) C [(5, .int (v5 + (4 : Int32))), (7, .int o92), (6, .int o90), (0, .ref b), (1, .ref (G.1 0 0 0)), (2, .ref (G.1 19 0 0)), (3, .ref (G.1 30 0 0)), (4, .ref (G.1 31 0 0))] dL_law_2025 (p := 7) rfl (ki_4 _) (by decide) rfl ?_
    refine r_goto (pc := 2028) C dL_law_2028 (tgt := 28) rfl ?_
    refine r_sub [3, 4, 5, 6, 7, 0] rfl ?_
    refine r_wid (cs' := cs + 8) (sl' := sl + 48) (by omega) (by omega) ?_
    exact ih (v5 + (4 : Int32)) M93 (cs + 8) (sl + 48) (by omega) (by omega) g_1 g_2 g_3 g_4
    refine r_iconst (pc := 1033) C dL_law_1033 kc_0 ?_
    exact l_ret (pc := 1034) C X (by omega) (by omega) dL_law_1034
    refine r_iconst (pc := 1016) C dL_law_1016 kc_0 ?_
    exact l_ret (pc := 1017) C X (by omega) (by omega) dL_law_1017
    refine r_ite (fun e95 => ?_) (fun e95n => ?_)
    refine r_tabE (pc := 44) C e95 dL_law_44 (by decide) (by decide) (off := 994) rfl (tgt := 1038) rfl ?_
    refine r_aload_n (pc := 1038) C 1 rfl rfl dL_law_1038 ?_
    refine r_aload_n (pc := 1039) C 0 rfl rfl dL_law_1039 ?_
    refine r_iload (pc := 1040) C 5 rfl dL_law_1040 ?_
    refine r_iconst (pc := 1042) C dL_law_1042 kc_1 ?_
    refine r_iadd (pc := 1043) C dL_law_1043 ?_
    refine r_xsL (pc := 1044) C X dL_law_1044 ?_
    refine r_aload_n (pc := 1045) C 3 rfl rfl dL_law_1045 ?_
    refine r_hSI (pc := 1046) C Y (Rx.law X (by omega) (by omega) rfl rfl) (okL_flag h0 Y.1 (xs (v5 + (1 : Int32)).toNatClampNeg) M g_1 g_3) mw_866 cvL_flag rfl rfl (Nat.le_of_ble_eq_true rfl) dL_law_1046 (fun o97 M96 => ?_)
    refine r_istore (pc := 1049) C [(6, .int o97), (0, .ref b), (1, .ref (G.1 0 0 0)), (2, .ref (G.1 19 0 0)), (3, .ref (G.1 30 0 0)), (4, .ref (G.1 31 0 0)), (5, .int v5)] dL_law_1049 (by decide) rfl ?_
    refine r_aload_n (pc := 1051) C 3 rfl rfl dL_law_1051 ?_
    refine r_aload_n (pc := 1052) C 1 rfl rfl dL_law_1052 ?_
    refine r_iload (pc := 1053) C 6 rfl dL_law_1053 ?_
    refine r_iconst (pc := 1055) C dL_law_1055 kc_1 ?_
    refine r_iadd (pc := 1056) C dL_law_1056 ?_
    refine r_xsL (pc := 1057) C X dL_law_1057 ?_
    refine r_wVI (pc := 1058) C (Rx.law X (by omega) (by omega) rfl rfl) (okX8_flag h0 (xs (v5 + (1 : Int32)).toNatClampNeg) M96 g_2) (Rc.of C rfl rfl g_2) mw_1308 cvX8_flag rfl rfl (Nat.le_of_ble_eq_true rfl) dL_law_1058 (fun o99 M98 => ?_)
    refine r_istore (pc := 1061) C [(7, .int o99), (6, .int o97), (0, .ref b), (1, .ref (G.1 0 0 0)), (2, .ref (G.1 19 0 0)), (3, .ref (G.1 30 0 0)), (4, .ref (G.1 31 0 0)), (5, .int v5)] dL_law_1061 (by decide) rfl ?_
    refine r_aload_n (pc := 1063) C 4 rfl rfl dL_law_1063 ?_
    refine r_wVI (pc := 1064) C (Rx.law X (by omega) (by omega) rfl rfl) (okX8_thrown h0 M98 g_2) (Rc.of C rfl rfl g_2) mw_1076 cvX8_thrown rfl rfl (Nat.le_of_ble_eq_true rfl) dL_law_1064 (fun o101 M100 => ?_)
    refine r_iload (pc := 1067) C 1 rfl dL_law_1067 ?_
    refine r_icmp_eq (pc := 1069) C dL_law_1069 (tgt := 1074) rfl ?_ ?_
    refine r_iload (pc := 1074) C 1 rfl dL_law_1074 ?_
    refine r_if_ne (pc := 1076) C dL_law_1076 (tgt := 1098) rfl ?_ ?_
    refine r_goto (pc := 1098) C dL_law_1098 (tgt := 2025) rfl ?_
    refine r_iinc (pc := 2025) C [(5, .int (v5 + (4 : Int32))), (7, .int o99), (6, .int o97), (0, .ref b), (1, .ref (G.1 0 0 0)), (2, .ref (G.1 19 0 0)), (3, .ref (G.1 30 0 0)), (4, .ref (G.1 31 0 0))] dL_law_2025 (p := 7) rfl (ki_4 _) (by decide) rfl ?_
    refine r_goto (pc := 2028) C dL_law_2028 (tgt := 28) rfl ?_
    refine r_sub [3, 4, 5, 6, 7, 0] rfl ?_
    refine r_wid (cs' := cs + 8) (sl' := sl + 48) (by omega) (by omega) ?_
    exact ih (v5 + (4 : Int32)) M100 (cs + 8) (sl + 48) (by omega) (by omega) g_1 g_2 g_3 g_4
    refine r_aload_n (pc := 1079) C 5 rfl rfl dL_law_1079 ?_
    refine r_iconst (pc := 1080) C dL_law_1080 kc_0 ?_
    refine r_lald (pc := 1081) C g_3 dL_law_1081 ?_
    refine r_iload (pc := 1082) C 0 rfl dL_law_1082 ?_
    refine r_if_eq (pc := 1084) C dL_law_1084 (tgt := 1091) rfl ?_ ?_
    refine r_lconst (pc := 1091) C dL_law_1091 (rfl : _ = (0 : Int64)) ?_
    refine r_sub [2, 3, 4, 5, 6, 7] rfl ?_
    refine r_wid (cs' := cs + 1) (sl' := sl + 6) (by omega) (by omega) ?_
    exact lL_law_1092 (N := N) (xs := xs) (b := b) (cs := cs) (sl := sl) (k28 := (fun v5 M => pL_law N xs  n v5 M)) C Y X hcs hsl h0 (fun v5 M g_1 g_2 g_3 g_4 => ih v5 M (cs + 8) (sl + 48) (by omega) (by omega) g_1 g_2 g_3 g_4)  v5 (0 : Int64) (M100.2.2.1) M100 g_1 g_2 g_3 g_4
    refine r_lconst (pc := 1087) C dL_law_1087 (rfl : _ = (1 : Int64)) ?_
    refine r_goto (pc := 1088) C dL_law_1088 (tgt := 1092) rfl ?_
    refine r_sub [2, 3, 4, 5, 6, 7] rfl ?_
    refine r_wid (cs' := cs + 1) (sl' := sl + 6) (by omega) (by omega) ?_
    exact lL_law_1092 (N := N) (xs := xs) (b := b) (cs := cs) (sl := sl) (k28 := (fun v5 M => pL_law N xs  n v5 M)) C Y X hcs hsl h0 (fun v5 M g_1 g_2 g_3 g_4 => ih v5 M (cs + 8) (sl + 48) (by omega) (by omega) g_1 g_2 g_3 g_4)  v5 (1 : Int64) (M100.2.2.1) M100 g_1 g_2 g_3 g_4
    refine r_iconst (pc := 1072) C dL_law_1072 kc_0 ?_
    exact l_ret (pc := 1073) C X (by omega) (by omega) dL_law_1073
    refine r_ite (fun e102 => ?_) (fun e102n => ?_)
    refine r_tabE (pc := 44) C e102 dL_law_44 (by decide) (by decide) (off := 1057) rfl (tgt := 1101) rfl ?_
    refine r_aload_n (pc := 1101) C 1 rfl rfl dL_law_1101 ?_
    refine r_aload_n (pc := 1102) C 0 rfl rfl dL_law_1102 ?_
    refine r_iload (pc := 1103) C 5 rfl dL_law_1103 ?_
    refine r_iconst (pc := 1105) C dL_law_1105 kc_1 ?_
    refine r_iadd (pc := 1106) C dL_law_1106 ?_
    refine r_xsL (pc := 1107) C X dL_law_1107 ?_
    refine r_aload_n (pc := 1108) C 0 rfl rfl dL_law_1108 ?_
    refine r_iload (pc := 1109) C 5 rfl dL_law_1109 ?_
    refine r_iconst (pc := 1111) C dL_law_1111 kc_2 ?_
    refine r_iadd (pc := 1112) C dL_law_1112 ?_
    refine r_xsL (pc := 1113) C X dL_law_1113 ?_
    refine r_aload_n (pc := 1114) C 3 rfl rfl dL_law_1114 ?_
    refine r_hSI (pc := 1115) C Y (Rx.law X (by omega) (by omega) rfl rfl) (okL_event h0 Y.1 (xs (v5 + (1 : Int32)).toNatClampNeg) (xs (v5 + (2 : Int32)).toNatClampNeg) M g_1 g_3) mw_873 cvL_event rfl rfl (Nat.le_of_ble_eq_true rfl) dL_law_1115 (fun o104 M103 => ?_)
    refine r_istore (pc := 1118) C [(6, .int o104), (0, .ref b), (1, .ref (G.1 0 0 0)), (2, .ref (G.1 19 0 0)), (3, .ref (G.1 30 0 0)), (4, .ref (G.1 31 0 0)), (5, .int v5)] dL_law_1118 (by decide) rfl ?_
    refine r_aload_n (pc := 1120) C 3 rfl rfl dL_law_1120 ?_
    refine r_aload_n (pc := 1121) C 1 rfl rfl dL_law_1121 ?_
    refine r_iload (pc := 1122) C 6 rfl dL_law_1122 ?_
    refine r_iconst (pc := 1124) C dL_law_1124 kc_1 ?_
    refine r_iadd (pc := 1125) C dL_law_1125 ?_
    refine r_xsL (pc := 1126) C X dL_law_1126 ?_
    refine r_aload_n (pc := 1127) C 1 rfl rfl dL_law_1127 ?_
    refine r_iload (pc := 1128) C 6 rfl dL_law_1128 ?_
    refine r_iconst (pc := 1130) C dL_law_1130 kc_2 ?_
    refine r_iadd (pc := 1131) C dL_law_1131 ?_
    refine r_xsL (pc := 1132) C X dL_law_1132 ?_
    refine r_wVI (pc := 1133) C (Rx.law X (by omega) (by omega) rfl rfl) (okX8_event h0 (xs (v5 + (1 : Int32)).toNatClampNeg) (xs (v5 + (2 : Int32)).toNatClampNeg) M103 g_2) (Rc.of C rfl rfl g_2) mw_1312 cvX8_event rfl rfl (Nat.le_of_ble_eq_true rfl) dL_law_1133 (fun o106 M105 => ?_)
    refine r_istore (pc := 1136) C [(7, .int o106), (6, .int o104), (0, .ref b), (1, .ref (G.1 0 0 0)), (2, .ref (G.1 19 0 0)), (3, .ref (G.1 30 0 0)), (4, .ref (G.1 31 0 0)), (5, .int v5)] dL_law_1136 (by decide) rfl ?_
    refine r_aload_n (pc := 1138) C 4 rfl rfl dL_law_1138 ?_
    refine r_wVI (pc := 1139) C (Rx.law X (by omega) (by omega) rfl rfl) (okX8_thrown h0 M105 g_2) (Rc.of C rfl rfl g_2) mw_1076 cvX8_thrown rfl rfl (Nat.le_of_ble_eq_true rfl) dL_law_1139 (fun o108 M107 => ?_)
    refine r_iload (pc := 1142) C 1 rfl dL_law_1142 ?_
    refine r_icmp_eq (pc := 1144) C dL_law_1144 (tgt := 1149) rfl ?_ ?_
    refine r_iload (pc := 1149) C 1 rfl dL_law_1149 ?_
    refine r_if_ne (pc := 1151) C dL_law_1151 (tgt := 1166) rfl ?_ ?_
    refine r_goto (pc := 1166) C dL_law_1166 (tgt := 2025) rfl ?_
    refine r_iinc (pc := 2025) C [(5, .int (v5 + (4 : Int32))), (7, .int o106), (6, .int o104), (0, .ref b), (1, .ref (G.1 0 0 0)), (2, .ref (G.1 19 0 0)), (3, .ref (G.1 30 0 0)), (4, .ref (G.1 31 0 0))] dL_law_2025 (p := 7) rfl (ki_4 _) (by decide) rfl ?_
    refine r_goto (pc := 2028) C dL_law_2028 (tgt := 28) rfl ?_
    refine r_sub [3, 4, 5, 6, 7, 0] rfl ?_
    refine r_wid (cs' := cs + 8) (sl' := sl + 48) (by omega) (by omega) ?_
    exact ih (v5 + (4 : Int32)) M107 (cs + 8) (sl + 48) (by omega) (by omega) g_1 g_2 g_3 g_4
    refine r_aload_n (pc := 1154) C 5 rfl rfl dL_law_1154 ?_
    refine r_iconst (pc := 1155) C dL_law_1155 kc_0 ?_
    refine r_lald (pc := 1156) C g_3 dL_law_1156 ?_
    refine r_iload (pc := 1157) C 0 rfl dL_law_1157 ?_
    refine r_i2l (pc := 1159) C dL_law_1159 ?_
    refine r_lcmp (pc := 1160) C dL_law_1160 ?_
    refine r_if_eq (pc := 1161) C dL_law_1161 (tgt := 1166) rfl ?_ ?_
    refine r_goto (pc := 1166) C dL_law_1166 (tgt := 2025) rfl ?_
    refine r_iinc (pc := 2025) C [(5, .int (v5 + (4 : Int32))), (7, .int o106), (6, .int o104), (0, .ref b), (1, .ref (G.1 0 0 0)), (2, .ref (G.1 19 0 0)), (3, .ref (G.1 30 0 0)), (4, .ref (G.1 31 0 0))] dL_law_2025 (p := 7) rfl (ki_4 _) (by decide) rfl ?_
    refine r_goto (pc := 2028) C dL_law_2028 (tgt := 28) rfl ?_
    refine r_sub [3, 4, 5, 6, 7, 0] rfl ?_
    refine r_wid (cs' := cs + 8) (sl' := sl + 48) (by omega) (by omega) ?_
    exact ih (v5 + (4 : Int32)) M107 (cs + 8) (sl + 48) (by omega) (by omega) g_1 g_2 g_3 g_4
    refine r_iconst (pc := 1164) C dL_law_1164 kc_0 ?_
    exact l_ret (pc := 1165) C X (by omega) (by omega) dL_law_1165
    refine r_iconst (pc := 1147) C dL_law_1147 kc_0 ?_
    exact l_ret (pc := 1148) C X (by omega) (by omega) dL_law_1148
    refine r_ite (fun e109 => ?_) (fun e109n => ?_)
    refine r_tabE (pc := 44) C e109 dL_law_44 (by decide) (by decide) (off := 1125) rfl (tgt := 1169) rfl ?_
    refine r_aload_n (pc := 1169) C 1 rfl rfl dL_law_1169 ?_
    refine r_aload_n (pc := 1170) C 0 rfl rfl dL_law_1170 ?_
    refine r_iload (pc := 1171) C 5 rfl dL_law_1171 ?_
    refine r_iconst (pc := 1173) C dL_law_1173 kc_1 ?_
    refine r_iadd (pc := 1174) C dL_law_1174 ?_
    refine r_xsL (pc := 1175) C X dL_law_1175 ?_
    refine r_aload_n (pc := 1176) C 0 rfl rfl dL_law_1176 ?_
    refine r_iload (pc := 1177) C 5 rfl dL_law_1177 ?_
    refine r_iconst (pc := 1179) C dL_law_1179 kc_2 ?_
    refine r_iadd (pc := 1180) C dL_law_1180 ?_
    refine r_xsL (pc := 1181) C X dL_law_1181 ?_
    refine r_aload_n (pc := 1182) C 3 rfl rfl dL_law_1182 ?_
    refine r_hSI (pc := 1183) C Y (Rx.law X (by omega) (by omega) rfl rfl) (okL_events h0 Y.1 (xs (v5 + (1 : Int32)).toNatClampNeg) (xs (v5 + (2 : Int32)).toNatClampNeg) M g_1 g_3) mw_884 cvL_events rfl rfl (Nat.le_of_ble_eq_true rfl) dL_law_1183 (fun o111 M110 => ?_)
    refine r_istore (pc := 1186) C [(6, .int o111), (0, .ref b), (1, .ref (G.1 0 0 0)), (2, .ref (G.1 19 0 0)), (3, .ref (G.1 30 0 0)), (4, .ref (G.1 31 0 0)), (5, .int v5)] dL_law_1186 (by decide) rfl ?_
    refine r_aload_n (pc := 1188) C 3 rfl rfl dL_law_1188 ?_
    refine r_aload_n (pc := 1189) C 1 rfl rfl dL_law_1189 ?_
    refine r_iload (pc := 1190) C 6 rfl dL_law_1190 ?_
    refine r_iconst (pc := 1192) C dL_law_1192 kc_1 ?_
    refine r_iadd (pc := 1193) C dL_law_1193 ?_
    refine r_xsL (pc := 1194) C X dL_law_1194 ?_
    refine r_aload_n (pc := 1195) C 1 rfl rfl dL_law_1195 ?_
    refine r_iload (pc := 1196) C 6 rfl dL_law_1196 ?_
    refine r_iconst (pc := 1198) C dL_law_1198 kc_2 ?_
    refine r_iadd (pc := 1199) C dL_law_1199 ?_
    refine r_xsL (pc := 1200) C X dL_law_1200 ?_
    refine r_wVI (pc := 1201) C (Rx.law X (by omega) (by omega) rfl rfl) (okX8_events h0 (xs (v5 + (1 : Int32)).toNatClampNeg) (xs (v5 + (2 : Int32)).toNatClampNeg) M110 g_2) (Rc.of C rfl rfl g_2) mw_1316 cvX8_events rfl rfl (Nat.le_of_ble_eq_true rfl) dL_law_1201 (fun o113 M112 => ?_)
    refine r_istore (pc := 1204) C [(7, .int o113), (6, .int o111), (0, .ref b), (1, .ref (G.1 0 0 0)), (2, .ref (G.1 19 0 0)), (3, .ref (G.1 30 0 0)), (4, .ref (G.1 31 0 0)), (5, .int v5)] dL_law_1204 (by decide) rfl ?_
    refine r_aload_n (pc := 1206) C 4 rfl rfl dL_law_1206 ?_
    refine r_wVI (pc := 1207) C (Rx.law X (by omega) (by omega) rfl rfl) (okX8_thrown h0 M112 g_2) (Rc.of C rfl rfl g_2) mw_1076 cvX8_thrown rfl rfl (Nat.le_of_ble_eq_true rfl) dL_law_1207 (fun o115 M114 => ?_)
    refine r_iload (pc := 1210) C 1 rfl dL_law_1210 ?_
    refine r_icmp_eq (pc := 1212) C dL_law_1212 (tgt := 1217) rfl ?_ ?_
    refine r_iload (pc := 1217) C 1 rfl dL_law_1217 ?_
    refine r_if_ne (pc := 1219) C dL_law_1219 (tgt := 1234) rfl ?_ ?_
    refine r_goto (pc := 1234) C dL_law_1234 (tgt := 2025) rfl ?_
    refine r_iinc (pc := 2025) C [(5, .int (v5 + (4 : Int32))), (7, .int o113), (6, .int o111), (0, .ref b), (1, .ref (G.1 0 0 0)), (2, .ref (G.1 19 0 0)), (3, .ref (G.1 30 0 0)), (4, .ref (G.1 31 0 0))] dL_law_2025 (p := 7) rfl (ki_4 _) (by decide) rfl ?_
    refine r_goto (pc := 2028) C dL_law_2028 (tgt := 28) rfl ?_
    refine r_sub [3, 4, 5, 6, 7, 0] rfl ?_
    refine r_wid (cs' := cs + 8) (sl' := sl + 48) (by omega) (by omega) ?_
    exact ih (v5 + (4 : Int32)) M114 (cs + 8) (sl + 48) (by omega) (by omega) g_1 g_2 g_3 g_4
    refine r_aload_n (pc := 1222) C 5 rfl rfl dL_law_1222 ?_
    refine r_iconst (pc := 1223) C dL_law_1223 kc_0 ?_
    refine r_lald (pc := 1224) C g_3 dL_law_1224 ?_
    refine r_iload (pc := 1225) C 0 rfl dL_law_1225 ?_
    refine r_i2l (pc := 1227) C dL_law_1227 ?_
    refine r_lcmp (pc := 1228) C dL_law_1228 ?_
    refine r_if_eq (pc := 1229) C dL_law_1229 (tgt := 1234) rfl ?_ ?_
    refine r_goto (pc := 1234) C dL_law_1234 (tgt := 2025) rfl ?_
    refine r_iinc (pc := 2025) C [(5, .int (v5 + (4 : Int32))), (7, .int o113), (6, .int o111), (0, .ref b), (1, .ref (G.1 0 0 0)), (2, .ref (G.1 19 0 0)), (3, .ref (G.1 30 0 0)), (4, .ref (G.1 31 0 0))] dL_law_2025 (p := 7) rfl (ki_4 _) (by decide) rfl ?_
    refine r_goto (pc := 2028) C dL_law_2028 (tgt := 28) rfl ?_
    refine r_sub [3, 4, 5, 6, 7, 0] rfl ?_
    refine r_wid (cs' := cs + 8) (sl' := sl + 48) (by omega) (by omega) ?_
    exact ih (v5 + (4 : Int32)) M114 (cs + 8) (sl + 48) (by omega) (by omega) g_1 g_2 g_3 g_4
    refine r_iconst (pc := 1232) C dL_law_1232 kc_0 ?_
    exact l_ret (pc := 1233) C X (by omega) (by omega) dL_law_1233
    refine r_iconst (pc := 1215) C dL_law_1215 kc_0 ?_
    exact l_ret (pc := 1216) C X (by omega) (by omega) dL_law_1216
    refine r_ite (fun e116 => ?_) (fun e116n => ?_)
    refine r_tabE (pc := 44) C e116 dL_law_44 (by decide) (by decide) (off := 1193) rfl (tgt := 1237) rfl ?_
    refine r_aload_n (pc := 1237) C 1 rfl rfl dL_law_1237 ?_
    refine r_aload_n (pc := 1238) C 0 rfl rfl dL_law_1238 ?_
    refine r_iload (pc := 1239) C 5 rfl dL_law_1239 ?_
    refine r_iconst (pc := 1241) C dL_law_1241 kc_1 ?_
    refine r_iadd (pc := 1242) C dL_law_1242 ?_
    refine r_xsL (pc := 1243) C X dL_law_1243 ?_
    refine r_aload_n (pc := 1244) C 3 rfl rfl dL_law_1244 ?_
    refine r_hSI (pc := 1245) C Y (Rx.law X (by omega) (by omega) rfl rfl) (okL_wake h0 Y.1 (xs (v5 + (1 : Int32)).toNatClampNeg) M g_1 g_3) mw_896 cvL_wake rfl rfl (Nat.le_of_ble_eq_true rfl) dL_law_1245 (fun o118 M117 => ?_)
    refine r_istore (pc := 1248) C [(6, .int o118), (0, .ref b), (1, .ref (G.1 0 0 0)), (2, .ref (G.1 19 0 0)), (3, .ref (G.1 30 0 0)), (4, .ref (G.1 31 0 0)), (5, .int v5)] dL_law_1248 (by decide) rfl ?_
    refine r_aload_n (pc := 1250) C 3 rfl rfl dL_law_1250 ?_
    refine r_aload_n (pc := 1251) C 1 rfl rfl dL_law_1251 ?_
    refine r_iload (pc := 1252) C 6 rfl dL_law_1252 ?_
    refine r_iconst (pc := 1254) C dL_law_1254 kc_1 ?_
    refine r_iadd (pc := 1255) C dL_law_1255 ?_
    refine r_xsL (pc := 1256) C X dL_law_1256 ?_
    refine r_wVI (pc := 1257) C (Rx.law X (by omega) (by omega) rfl rfl) (okX8_wake h0 (xs (v5 + (1 : Int32)).toNatClampNeg) M117 g_2) (Rc.of C rfl rfl g_2) mw_1320 cvX8_wake rfl rfl (Nat.le_of_ble_eq_true rfl) dL_law_1257 (fun o120 M119 => ?_)
    refine r_istore (pc := 1260) C [(7, .int o120), (6, .int o118), (0, .ref b), (1, .ref (G.1 0 0 0)), (2, .ref (G.1 19 0 0)), (3, .ref (G.1 30 0 0)), (4, .ref (G.1 31 0 0)), (5, .int v5)] dL_law_1260 (by decide) rfl ?_
    refine r_aload_n (pc := 1262) C 4 rfl rfl dL_law_1262 ?_
    refine r_wVI (pc := 1263) C (Rx.law X (by omega) (by omega) rfl rfl) (okX8_thrown h0 M119 g_2) (Rc.of C rfl rfl g_2) mw_1076 cvX8_thrown rfl rfl (Nat.le_of_ble_eq_true rfl) dL_law_1263 (fun o122 M121 => ?_)
    refine r_iload (pc := 1266) C 1 rfl dL_law_1266 ?_
    refine r_icmp_eq (pc := 1268) C dL_law_1268 (tgt := 1273) rfl ?_ ?_
    refine r_iload (pc := 1273) C 1 rfl dL_law_1273 ?_
    refine r_if_ne (pc := 1275) C dL_law_1275 (tgt := 1290) rfl ?_ ?_
    refine r_goto (pc := 1290) C dL_law_1290 (tgt := 2025) rfl ?_
    refine r_iinc (pc := 2025) C [(5, .int (v5 + (4 : Int32))), (7, .int o120), (6, .int o118), (0, .ref b), (1, .ref (G.1 0 0 0)), (2, .ref (G.1 19 0 0)), (3, .ref (G.1 30 0 0)), (4, .ref (G.1 31 0 0))] dL_law_2025 (p := 7) rfl (ki_4 _) (by decide) rfl ?_
    refine r_goto (pc := 2028) C dL_law_2028 (tgt := 28) rfl ?_
    refine r_sub [3, 4, 5, 6, 7, 0] rfl ?_
    refine r_wid (cs' := cs + 8) (sl' := sl + 48) (by omega) (by omega) ?_
    exact ih (v5 + (4 : Int32)) M121 (cs + 8) (sl + 48) (by omega) (by omega) g_1 g_2 g_3 g_4
    refine r_aload_n (pc := 1278) C 5 rfl rfl dL_law_1278 ?_
    refine r_iconst (pc := 1279) C dL_law_1279 kc_0 ?_
    refine r_lald (pc := 1280) C g_3 dL_law_1280 ?_
    refine r_iload (pc := 1281) C 0 rfl dL_law_1281 ?_
    refine r_i2l (pc := 1283) C dL_law_1283 ?_
    refine r_lcmp (pc := 1284) C dL_law_1284 ?_
    refine r_if_eq (pc := 1285) C dL_law_1285 (tgt := 1290) rfl ?_ ?_
    refine r_goto (pc := 1290) C dL_law_1290 (tgt := 2025) rfl ?_
    refine r_iinc (pc := 2025) C [(5, .int (v5 + (4 : Int32))), (7, .int o120), (6, .int o118), (0, .ref b), (1, .ref (G.1 0 0 0)), (2, .ref (G.1 19 0 0)), (3, .ref (G.1 30 0 0)), (4, .ref (G.1 31 0 0))] dL_law_2025 (p := 7) rfl (ki_4 _) (by decide) rfl ?_
    refine r_goto (pc := 2028) C dL_law_2028 (tgt := 28) rfl ?_
    refine r_sub [3, 4, 5, 6, 7, 0] rfl ?_
    refine r_wid (cs' := cs + 8) (sl' := sl + 48) (by omega) (by omega) ?_
    exact ih (v5 + (4 : Int32)) M121 (cs + 8) (sl + 48) (by omega) (by omega) g_1 g_2 g_3 g_4
    refine r_iconst (pc := 1288) C dL_law_1288 kc_0 ?_
    exact l_ret (pc := 1289) C X (by omega) (by omega) dL_law_1289
    refine r_iconst (pc := 1271) C dL_law_1271 kc_0 ?_
    exact l_ret (pc := 1272) C X (by omega) (by omega) dL_law_1272
    refine r_ite (fun e123 => ?_) (fun e123n => ?_)
    refine r_tabE (pc := 44) C e123 dL_law_44 (by decide) (by decide) (off := 1249) rfl (tgt := 1293) rfl ?_
    refine r_aload_n (pc := 1293) C 1 rfl rfl dL_law_1293 ?_
    refine r_aload_n (pc := 1294) C 0 rfl rfl dL_law_1294 ?_
    refine r_iload (pc := 1295) C 5 rfl dL_law_1295 ?_
    refine r_iconst (pc := 1297) C dL_law_1297 kc_1 ?_
    refine r_iadd (pc := 1298) C dL_law_1298 ?_
    refine r_xsL (pc := 1299) C X dL_law_1299 ?_
    refine r_aload_n (pc := 1300) C 3 rfl rfl dL_law_1300 ?_
    refine r_hSI (pc := 1301) C Y (Rx.law X (by omega) (by omega) rfl rfl) (okL_interrupt h0 Y.1 (xs (v5 + (1 : Int32)).toNatClampNeg) M g_1 g_3) mw_905 cvL_interrupt rfl rfl (Nat.le_of_ble_eq_true rfl) dL_law_1301 (fun o125 M124 => ?_)
    refine r_istore (pc := 1304) C [(6, .int o125), (0, .ref b), (1, .ref (G.1 0 0 0)), (2, .ref (G.1 19 0 0)), (3, .ref (G.1 30 0 0)), (4, .ref (G.1 31 0 0)), (5, .int v5)] dL_law_1304 (by decide) rfl ?_
    refine r_aload_n (pc := 1306) C 3 rfl rfl dL_law_1306 ?_
    refine r_aload_n (pc := 1307) C 1 rfl rfl dL_law_1307 ?_
    refine r_iload (pc := 1308) C 6 rfl dL_law_1308 ?_
    refine r_iconst (pc := 1310) C dL_law_1310 kc_1 ?_
    refine r_iadd (pc := 1311) C dL_law_1311 ?_
    refine r_xsL (pc := 1312) C X dL_law_1312 ?_
    refine r_wVI (pc := 1313) C (Rx.law X (by omega) (by omega) rfl rfl) (okX8_interrupt h0 (xs (v5 + (1 : Int32)).toNatClampNeg) M124 g_2) (Rc.of C rfl rfl g_2) mw_1360 cvX8_interrupt rfl rfl (Nat.le_of_ble_eq_true rfl) dL_law_1313 (fun o127 M126 => ?_)
    refine r_istore (pc := 1316) C [(7, .int o127), (6, .int o125), (0, .ref b), (1, .ref (G.1 0 0 0)), (2, .ref (G.1 19 0 0)), (3, .ref (G.1 30 0 0)), (4, .ref (G.1 31 0 0)), (5, .int v5)] dL_law_1316 (by decide) rfl ?_
    refine r_aload_n (pc := 1318) C 4 rfl rfl dL_law_1318 ?_
    refine r_wVI (pc := 1319) C (Rx.law X (by omega) (by omega) rfl rfl) (okX8_thrown h0 M126 g_2) (Rc.of C rfl rfl g_2) mw_1076 cvX8_thrown rfl rfl (Nat.le_of_ble_eq_true rfl) dL_law_1319 (fun o129 M128 => ?_)
    refine r_iload (pc := 1322) C 1 rfl dL_law_1322 ?_
    refine r_icmp_eq (pc := 1324) C dL_law_1324 (tgt := 1329) rfl ?_ ?_
    refine r_iload (pc := 1329) C 1 rfl dL_law_1329 ?_
    refine r_if_ne (pc := 1331) C dL_law_1331 (tgt := 1346) rfl ?_ ?_
    refine r_goto (pc := 1346) C dL_law_1346 (tgt := 2025) rfl ?_
    refine r_iinc (pc := 2025) C [(5, .int (v5 + (4 : Int32))), (7, .int o127), (6, .int o125), (0, .ref b), (1, .ref (G.1 0 0 0)), (2, .ref (G.1 19 0 0)), (3, .ref (G.1 30 0 0)), (4, .ref (G.1 31 0 0))] dL_law_2025 (p := 7) rfl (ki_4 _) (by decide) rfl ?_
    refine r_goto (pc := 2028) C dL_law_2028 (tgt := 28) rfl ?_
    refine r_sub [3, 4, 5, 6, 7, 0] rfl ?_
    refine r_wid (cs' := cs + 8) (sl' := sl + 48) (by omega) (by omega) ?_
    exact ih (v5 + (4 : Int32)) M128 (cs + 8) (sl + 48) (by omega) (by omega) g_1 g_2 g_3 g_4
    refine r_aload_n (pc := 1334) C 5 rfl rfl dL_law_1334 ?_
    refine r_iconst (pc := 1335) C dL_law_1335 kc_0 ?_
    refine r_lald (pc := 1336) C g_3 dL_law_1336 ?_
    refine r_iload (pc := 1337) C 0 rfl dL_law_1337 ?_
    refine r_i2l (pc := 1339) C dL_law_1339 ?_
    refine r_lcmp (pc := 1340) C dL_law_1340 ?_
    refine r_if_eq (pc := 1341) C dL_law_1341 (tgt := 1346) rfl ?_ ?_
    refine r_goto (pc := 1346) C dL_law_1346 (tgt := 2025) rfl ?_
    refine r_iinc (pc := 2025) C [(5, .int (v5 + (4 : Int32))), (7, .int o127), (6, .int o125), (0, .ref b), (1, .ref (G.1 0 0 0)), (2, .ref (G.1 19 0 0)), (3, .ref (G.1 30 0 0)), (4, .ref (G.1 31 0 0))] dL_law_2025 (p := 7) rfl (ki_4 _) (by decide) rfl ?_
    refine r_goto (pc := 2028) C dL_law_2028 (tgt := 28) rfl ?_
    refine r_sub [3, 4, 5, 6, 7, 0] rfl ?_
    refine r_wid (cs' := cs + 8) (sl' := sl + 48) (by omega) (by omega) ?_
    exact ih (v5 + (4 : Int32)) M128 (cs + 8) (sl + 48) (by omega) (by omega) g_1 g_2 g_3 g_4
    refine r_iconst (pc := 1344) C dL_law_1344 kc_0 ?_
    exact l_ret (pc := 1345) C X (by omega) (by omega) dL_law_1345
    refine r_iconst (pc := 1327) C dL_law_1327 kc_0 ?_
    exact l_ret (pc := 1328) C X (by omega) (by omega) dL_law_1328
    refine r_ite (fun e130 => ?_) (fun e130n => ?_)
    refine r_tabE (pc := 44) C e130 dL_law_44 (by decide) (by decide) (off := 1305) rfl (tgt := 1349) rfl ?_
    refine r_aload_n (pc := 1349) C 1 rfl rfl dL_law_1349 ?_
    refine r_aload_n (pc := 1350) C 0 rfl rfl dL_law_1350 ?_
    refine r_iload (pc := 1351) C 5 rfl dL_law_1351 ?_
    refine r_iconst (pc := 1353) C dL_law_1353 kc_1 ?_
    refine r_iadd (pc := 1354) C dL_law_1354 ?_
    refine r_xsL (pc := 1355) C X dL_law_1355 ?_
    refine r_aload_n (pc := 1356) C 3 rfl rfl dL_law_1356 ?_
    refine r_hSI (pc := 1357) C Y (Rx.law X (by omega) (by omega) rfl rfl) (okL_rouse h0 Y.1 (xs (v5 + (1 : Int32)).toNatClampNeg) M g_1 g_3) mw_916 cvL_rouse rfl rfl (Nat.le_of_ble_eq_true rfl) dL_law_1357 (fun o132 M131 => ?_)
    refine r_istore (pc := 1360) C [(6, .int o132), (0, .ref b), (1, .ref (G.1 0 0 0)), (2, .ref (G.1 19 0 0)), (3, .ref (G.1 30 0 0)), (4, .ref (G.1 31 0 0)), (5, .int v5)] dL_law_1360 (by decide) rfl ?_
    refine r_aload_n (pc := 1362) C 3 rfl rfl dL_law_1362 ?_
    refine r_aload_n (pc := 1363) C 1 rfl rfl dL_law_1363 ?_
    refine r_iload (pc := 1364) C 6 rfl dL_law_1364 ?_
    refine r_iconst (pc := 1366) C dL_law_1366 kc_1 ?_
    refine r_iadd (pc := 1367) C dL_law_1367 ?_
    refine r_xsL (pc := 1368) C X dL_law_1368 ?_
    refine r_wVI (pc := 1369) C (Rx.law X (by omega) (by omega) rfl rfl) (okX8_rouse h0 (xs (v5 + (1 : Int32)).toNatClampNeg) M131 g_2) (Rc.of C rfl rfl g_2) mw_1364 cvX8_rouse rfl rfl (Nat.le_of_ble_eq_true rfl) dL_law_1369 (fun o134 M133 => ?_)
    refine r_istore (pc := 1372) C [(7, .int o134), (6, .int o132), (0, .ref b), (1, .ref (G.1 0 0 0)), (2, .ref (G.1 19 0 0)), (3, .ref (G.1 30 0 0)), (4, .ref (G.1 31 0 0)), (5, .int v5)] dL_law_1372 (by decide) rfl ?_
    refine r_aload_n (pc := 1374) C 4 rfl rfl dL_law_1374 ?_
    refine r_wVI (pc := 1375) C (Rx.law X (by omega) (by omega) rfl rfl) (okX8_thrown h0 M133 g_2) (Rc.of C rfl rfl g_2) mw_1076 cvX8_thrown rfl rfl (Nat.le_of_ble_eq_true rfl) dL_law_1375 (fun o136 M135 => ?_)
    refine r_iload (pc := 1378) C 1 rfl dL_law_1378 ?_
    refine r_icmp_eq (pc := 1380) C dL_law_1380 (tgt := 1385) rfl ?_ ?_
    refine r_iload (pc := 1385) C 1 rfl dL_law_1385 ?_
    refine r_if_ne (pc := 1387) C dL_law_1387 (tgt := 1409) rfl ?_ ?_
    refine r_goto (pc := 1409) C dL_law_1409 (tgt := 2025) rfl ?_
    refine r_iinc (pc := 2025) C [(5, .int (v5 + (4 : Int32))), (7, .int o134), (6, .int o132), (0, .ref b), (1, .ref (G.1 0 0 0)), (2, .ref (G.1 19 0 0)), (3, .ref (G.1 30 0 0)), (4, .ref (G.1 31 0 0))] dL_law_2025 (p := 7) rfl (ki_4 _) (by decide) rfl ?_
    refine r_goto (pc := 2028) C dL_law_2028 (tgt := 28) rfl ?_
    refine r_sub [3, 4, 5, 6, 7, 0] rfl ?_
    refine r_wid (cs' := cs + 8) (sl' := sl + 48) (by omega) (by omega) ?_
    exact ih (v5 + (4 : Int32)) M135 (cs + 8) (sl + 48) (by omega) (by omega) g_1 g_2 g_3 g_4
    refine r_aload_n (pc := 1390) C 5 rfl rfl dL_law_1390 ?_
    refine r_iconst (pc := 1391) C dL_law_1391 kc_0 ?_
    refine r_lald (pc := 1392) C g_3 dL_law_1392 ?_
    refine r_iload (pc := 1393) C 0 rfl dL_law_1393 ?_
    refine r_if_eq (pc := 1395) C dL_law_1395 (tgt := 1402) rfl ?_ ?_
    refine r_lconst (pc := 1402) C dL_law_1402 (rfl : _ = (0 : Int64)) ?_
    refine r_sub [2, 3, 4, 5, 6, 7] rfl ?_
    refine r_wid (cs' := cs + 1) (sl' := sl + 6) (by omega) (by omega) ?_
    exact lL_law_1403 (N := N) (xs := xs) (b := b) (cs := cs) (sl := sl) (k28 := (fun v5 M => pL_law N xs  n v5 M)) C Y X hcs hsl h0 (fun v5 M g_1 g_2 g_3 g_4 => ih v5 M (cs + 8) (sl + 48) (by omega) (by omega) g_1 g_2 g_3 g_4)  v5 (0 : Int64) (M135.2.2.1) M135 g_1 g_2 g_3 g_4
    refine r_lconst (pc := 1398) C dL_law_1398 (rfl : _ = (1 : Int64)) ?_
    refine r_goto (pc := 1399) C dL_law_1399 (tgt := 1403) rfl ?_
    refine r_sub [2, 3, 4, 5, 6, 7] rfl ?_
    refine r_wid (cs' := cs + 1) (sl' := sl + 6) (by omega) (by omega) ?_
    exact lL_law_1403 (N := N) (xs := xs) (b := b) (cs := cs) (sl := sl) (k28 := (fun v5 M => pL_law N xs  n v5 M)) C Y X hcs hsl h0 (fun v5 M g_1 g_2 g_3 g_4 => ih v5 M (cs + 8) (sl + 48) (by omega) (by omega) g_1 g_2 g_3 g_4)  v5 (1 : Int64) (M135.2.2.1) M135 g_1 g_2 g_3 g_4
    refine r_iconst (pc := 1383) C dL_law_1383 kc_0 ?_
    exact l_ret (pc := 1384) C X (by omega) (by omega) dL_law_1384
    refine r_ite (fun e137 => ?_) (fun e137n => ?_)
    refine r_tabE (pc := 44) C e137 dL_law_44 (by decide) (by decide) (off := 1368) rfl (tgt := 1412) rfl ?_
    refine r_aload_n (pc := 1412) C 1 rfl rfl dL_law_1412 ?_
    refine r_aload_n (pc := 1413) C 0 rfl rfl dL_law_1413 ?_
    refine r_iload (pc := 1414) C 5 rfl dL_law_1414 ?_
    refine r_iconst (pc := 1416) C dL_law_1416 kc_1 ?_
    refine r_iadd (pc := 1417) C dL_law_1417 ?_
    refine r_xsL (pc := 1418) C X dL_law_1418 ?_
    refine r_aload_n (pc := 1419) C 3 rfl rfl dL_law_1419 ?_
    refine r_hSI (pc := 1420) C Y (Rx.law X (by omega) (by omega) rfl rfl) (okL_run h0 Y.1 (xs (v5 + (1 : Int32)).toNatClampNeg) M g_1 g_3) mw_924 cvL_run rfl rfl (Nat.le_of_ble_eq_true rfl) dL_law_1420 (fun o139 M138 => ?_)
    refine r_istore (pc := 1423) C [(6, .int o139), (0, .ref b), (1, .ref (G.1 0 0 0)), (2, .ref (G.1 19 0 0)), (3, .ref (G.1 30 0 0)), (4, .ref (G.1 31 0 0)), (5, .int v5)] dL_law_1423 (by decide) rfl ?_
    refine r_aload_n (pc := 1425) C 3 rfl rfl dL_law_1425 ?_
    refine r_aload_n (pc := 1426) C 1 rfl rfl dL_law_1426 ?_
    refine r_iload (pc := 1427) C 6 rfl dL_law_1427 ?_
    refine r_iconst (pc := 1429) C dL_law_1429 kc_1 ?_
    refine r_iadd (pc := 1430) C dL_law_1430 ?_
    refine r_xsL (pc := 1431) C X dL_law_1431 ?_
    refine r_wVI (pc := 1432) C (Rx.law X (by omega) (by omega) rfl rfl) (okX8_run h0 (xs (v5 + (1 : Int32)).toNatClampNeg) M138 g_2) (Rc.of C rfl rfl g_2) mw_1368 cvX8_run rfl rfl (Nat.le_of_ble_eq_true rfl) dL_law_1432 (fun o141 M140 => ?_)
    refine r_istore (pc := 1435) C [(7, .int o141), (6, .int o139), (0, .ref b), (1, .ref (G.1 0 0 0)), (2, .ref (G.1 19 0 0)), (3, .ref (G.1 30 0 0)), (4, .ref (G.1 31 0 0)), (5, .int v5)] dL_law_1435 (by decide) rfl ?_
    refine r_aload_n (pc := 1437) C 4 rfl rfl dL_law_1437 ?_
    refine r_wVI (pc := 1438) C (Rx.law X (by omega) (by omega) rfl rfl) (okX8_thrown h0 M140 g_2) (Rc.of C rfl rfl g_2) mw_1076 cvX8_thrown rfl rfl (Nat.le_of_ble_eq_true rfl) dL_law_1438 (fun o143 M142 => ?_)
    refine r_iload (pc := 1441) C 1 rfl dL_law_1441 ?_
    refine r_icmp_eq (pc := 1443) C dL_law_1443 (tgt := 1448) rfl ?_ ?_
    refine r_iload (pc := 1448) C 1 rfl dL_law_1448 ?_
    refine r_if_ne (pc := 1450) C dL_law_1450 (tgt := 1465) rfl ?_ ?_
    refine r_goto (pc := 1465) C dL_law_1465 (tgt := 2025) rfl ?_
    refine r_iinc (pc := 2025) C [(5, .int (v5 + (4 : Int32))), (7, .int o141), (6, .int o139), (0, .ref b), (1, .ref (G.1 0 0 0)), (2, .ref (G.1 19 0 0)), (3, .ref (G.1 30 0 0)), (4, .ref (G.1 31 0 0))] dL_law_2025 (p := 7) rfl (ki_4 _) (by decide) rfl ?_
    refine r_goto (pc := 2028) C dL_law_2028 (tgt := 28) rfl ?_
    refine r_sub [3, 4, 5, 6, 7, 0] rfl ?_
    refine r_wid (cs' := cs + 8) (sl' := sl + 48) (by omega) (by omega) ?_
    exact ih (v5 + (4 : Int32)) M142 (cs + 8) (sl + 48) (by omega) (by omega) g_1 g_2 g_3 g_4
    refine r_aload_n (pc := 1453) C 5 rfl rfl dL_law_1453 ?_
    refine r_iconst (pc := 1454) C dL_law_1454 kc_0 ?_
    refine r_lald (pc := 1455) C g_3 dL_law_1455 ?_
    refine r_iload (pc := 1456) C 0 rfl dL_law_1456 ?_
    refine r_i2l (pc := 1458) C dL_law_1458 ?_
    refine r_lcmp (pc := 1459) C dL_law_1459 ?_
    refine r_if_eq (pc := 1460) C dL_law_1460 (tgt := 1465) rfl ?_ ?_
    refine r_goto (pc := 1465) C dL_law_1465 (tgt := 2025) rfl ?_
    refine r_iinc (pc := 2025) C [(5, .int (v5 + (4 : Int32))), (7, .int o141), (6, .int o139), (0, .ref b), (1, .ref (G.1 0 0 0)), (2, .ref (G.1 19 0 0)), (3, .ref (G.1 30 0 0)), (4, .ref (G.1 31 0 0))] dL_law_2025 (p := 7) rfl (ki_4 _) (by decide) rfl ?_
    refine r_goto (pc := 2028) C dL_law_2028 (tgt := 28) rfl ?_
    refine r_sub [3, 4, 5, 6, 7, 0] rfl ?_
    refine r_wid (cs' := cs + 8) (sl' := sl + 48) (by omega) (by omega) ?_
    exact ih (v5 + (4 : Int32)) M142 (cs + 8) (sl + 48) (by omega) (by omega) g_1 g_2 g_3 g_4
    refine r_iconst (pc := 1463) C dL_law_1463 kc_0 ?_
    exact l_ret (pc := 1464) C X (by omega) (by omega) dL_law_1464
    refine r_iconst (pc := 1446) C dL_law_1446 kc_0 ?_
    exact l_ret (pc := 1447) C X (by omega) (by omega) dL_law_1447
    refine r_ite (fun e144 => ?_) (fun e144n => ?_)
    refine r_tabE (pc := 44) C e144 dL_law_44 (by decide) (by decide) (off := 1424) rfl (tgt := 1468) rfl ?_
    refine r_aload_n (pc := 1468) C 1 rfl rfl dL_law_1468 ?_
    refine r_wVI (pc := 1469) C (Rx.law X (by omega) (by omega) rfl rfl) (okX7_next h0 M g_1) (Rc.of C rfl rfl g_1) mw_479 cvX7_next rfl rfl (Nat.le_of_ble_eq_true rfl) dL_law_1469 (fun o146 M145 => ?_)
    refine r_aload_n (pc := 1472) C 2 rfl rfl dL_law_1472 ?_
    refine r_wVI (pc := 1473) C (Rx.law X (by omega) (by omega) rfl rfl) (okX8_next h0 M145 g_2) (Rc.of C rfl rfl g_2) mw_1447 cvX8_next rfl rfl (Nat.le_of_ble_eq_true rfl) dL_law_1473 (fun o148 M147 => ?_)
    refine r_icmp_eq (pc := 1476) C dL_law_1476 (tgt := 2025) rfl ?_ ?_
    refine r_iinc (pc := 2025) C [(5, .int (v5 + (4 : Int32))), (0, .ref b), (1, .ref (G.1 0 0 0)), (2, .ref (G.1 19 0 0)), (3, .ref (G.1 30 0 0)), (4, .ref (G.1 31 0 0))] dL_law_2025 (p := 5) rfl (ki_4 _) (by decide) rfl ?_
    refine r_goto (pc := 2028) C dL_law_2028 (tgt := 28) rfl ?_
    refine r_sub [1, 2, 3, 4, 5, 0] rfl ?_
    refine r_wid (cs' := cs + 8) (sl' := sl + 48) (by omega) (by omega) ?_
    exact ih (v5 + (4 : Int32)) M147 (cs + 8) (sl + 48) (by omega) (by omega) g_1 g_2 g_3 g_4
    refine r_iconst (pc := 1479) C dL_law_1479 kc_0 ?_
    exact l_ret (pc := 1480) C X (by omega) (by omega) dL_law_1480
    refine r_ite (fun e149 => ?_) (fun e149n => ?_)
    refine r_tabE (pc := 44) C e149 dL_law_44 (by decide) (by decide) (off := 1437) rfl (tgt := 1481) rfl ?_
    refine r_aload_n (pc := 1481) C 1 rfl rfl dL_law_1481 ?_
    refine r_aload_n (pc := 1482) C 0 rfl rfl dL_law_1482 ?_
    refine r_iload (pc := 1483) C 5 rfl dL_law_1483 ?_
    refine r_iconst (pc := 1485) C dL_law_1485 kc_1 ?_
    refine r_iadd (pc := 1486) C dL_law_1486 ?_
    refine r_xsL (pc := 1487) C X dL_law_1487 ?_
    refine r_aload_n (pc := 1488) C 0 rfl rfl dL_law_1488 ?_
    refine r_iload (pc := 1489) C 5 rfl dL_law_1489 ?_
    refine r_iconst (pc := 1491) C dL_law_1491 kc_2 ?_
    refine r_iadd (pc := 1492) C dL_law_1492 ?_
    refine r_xsL (pc := 1493) C X dL_law_1493 ?_
    refine r_aload_n (pc := 1494) C 3 rfl rfl dL_law_1494 ?_
    refine r_hSI (pc := 1495) C Y (Rx.law X (by omega) (by omega) rfl rfl) (okL_chain h0 Y.1 (xs (v5 + (1 : Int32)).toNatClampNeg) (xs (v5 + (2 : Int32)).toNatClampNeg) M g_1 g_3) mw_932 cvL_chain rfl rfl (Nat.le_of_ble_eq_true rfl) dL_law_1495 (fun o151 M150 => ?_)
    refine r_istore (pc := 1498) C [(6, .int o151), (0, .ref b), (1, .ref (G.1 0 0 0)), (2, .ref (G.1 19 0 0)), (3, .ref (G.1 30 0 0)), (4, .ref (G.1 31 0 0)), (5, .int v5)] dL_law_1498 (by decide) rfl ?_
    refine r_aload_n (pc := 1500) C 3 rfl rfl dL_law_1500 ?_
    refine r_aload_n (pc := 1501) C 1 rfl rfl dL_law_1501 ?_
    refine r_iload (pc := 1502) C 6 rfl dL_law_1502 ?_
    refine r_iconst (pc := 1504) C dL_law_1504 kc_1 ?_
    refine r_iadd (pc := 1505) C dL_law_1505 ?_
    refine r_xsL (pc := 1506) C X dL_law_1506 ?_
    refine r_aload_n (pc := 1507) C 1 rfl rfl dL_law_1507 ?_
    refine r_iload (pc := 1508) C 6 rfl dL_law_1508 ?_
    refine r_iconst (pc := 1510) C dL_law_1510 kc_2 ?_
    refine r_iadd (pc := 1511) C dL_law_1511 ?_
    refine r_xsL (pc := 1512) C X dL_law_1512 ?_
    refine r_wVI (pc := 1513) C (Rx.law X (by omega) (by omega) rfl rfl) (okX8_chain h0 (xs (v5 + (1 : Int32)).toNatClampNeg) (xs (v5 + (2 : Int32)).toNatClampNeg) M150 g_2) (Rc.of C rfl rfl g_2) mw_1451 cvX8_chain rfl rfl (Nat.le_of_ble_eq_true rfl) dL_law_1513 (fun o153 M152 => ?_)
    refine r_istore (pc := 1516) C [(7, .int o153), (6, .int o151), (0, .ref b), (1, .ref (G.1 0 0 0)), (2, .ref (G.1 19 0 0)), (3, .ref (G.1 30 0 0)), (4, .ref (G.1 31 0 0)), (5, .int v5)] dL_law_1516 (by decide) rfl ?_
    refine r_aload_n (pc := 1518) C 4 rfl rfl dL_law_1518 ?_
    refine r_wVI (pc := 1519) C (Rx.law X (by omega) (by omega) rfl rfl) (okX8_thrown h0 M152 g_2) (Rc.of C rfl rfl g_2) mw_1076 cvX8_thrown rfl rfl (Nat.le_of_ble_eq_true rfl) dL_law_1519 (fun o155 M154 => ?_)
    refine r_iload (pc := 1522) C 1 rfl dL_law_1522 ?_
    refine r_icmp_eq (pc := 1524) C dL_law_1524 (tgt := 1529) rfl ?_ ?_
    refine r_iload (pc := 1529) C 1 rfl dL_law_1529 ?_
    refine r_if_ne (pc := 1531) C dL_law_1531 (tgt := 1546) rfl ?_ ?_
    refine r_goto (pc := 1546) C dL_law_1546 (tgt := 2025) rfl ?_
    refine r_iinc (pc := 2025) C [(5, .int (v5 + (4 : Int32))), (7, .int o153), (6, .int o151), (0, .ref b), (1, .ref (G.1 0 0 0)), (2, .ref (G.1 19 0 0)), (3, .ref (G.1 30 0 0)), (4, .ref (G.1 31 0 0))] dL_law_2025 (p := 7) rfl (ki_4 _) (by decide) rfl ?_
    refine r_goto (pc := 2028) C dL_law_2028 (tgt := 28) rfl ?_
    refine r_sub [3, 4, 5, 6, 7, 0] rfl ?_
    refine r_wid (cs' := cs + 8) (sl' := sl + 48) (by omega) (by omega) ?_
    exact ih (v5 + (4 : Int32)) M154 (cs + 8) (sl + 48) (by omega) (by omega) g_1 g_2 g_3 g_4
    refine r_aload_n (pc := 1534) C 5 rfl rfl dL_law_1534 ?_
    refine r_iconst (pc := 1535) C dL_law_1535 kc_0 ?_
    refine r_lald (pc := 1536) C g_3 dL_law_1536 ?_
    refine r_iload (pc := 1537) C 0 rfl dL_law_1537 ?_
    refine r_i2l (pc := 1539) C dL_law_1539 ?_
    refine r_lcmp (pc := 1540) C dL_law_1540 ?_
    refine r_if_eq (pc := 1541) C dL_law_1541 (tgt := 1546) rfl ?_ ?_
    refine r_goto (pc := 1546) C dL_law_1546 (tgt := 2025) rfl ?_
    refine r_iinc (pc := 2025) C [(5, .int (v5 + (4 : Int32))), (7, .int o153), (6, .int o151), (0, .ref b), (1, .ref (G.1 0 0 0)), (2, .ref (G.1 19 0 0)), (3, .ref (G.1 30 0 0)), (4, .ref (G.1 31 0 0))] dL_law_2025 (p := 7) rfl (ki_4 _) (by decide) rfl ?_
    refine r_goto (pc := 2028) C dL_law_2028 (tgt := 28) rfl ?_
    refine r_sub [3, 4, 5, 6, 7, 0] rfl ?_
    refine r_wid (cs' := cs + 8) (sl' := sl + 48) (by omega) (by omega) ?_
    exact ih (v5 + (4 : Int32)) M154 (cs + 8) (sl + 48) (by omega) (by omega) g_1 g_2 g_3 g_4
    refine r_iconst (pc := 1544) C dL_law_1544 kc_0 ?_
    exact l_ret (pc := 1545) C X (by omega) (by omega) dL_law_1545
    refine r_iconst (pc := 1527) C dL_law_1527 kc_0 ?_
    exact l_ret (pc := 1528) C X (by omega) (by omega) dL_law_1528
    refine r_ite (fun e156 => ?_) (fun e156n => ?_)
    refine r_tabE (pc := 44) C e156 dL_law_44 (by decide) (by decide) (off := 1505) rfl (tgt := 1549) rfl ?_
    refine r_aload_n (pc := 1549) C 1 rfl rfl dL_law_1549 ?_
    refine r_wVI (pc := 1550) C (Rx.law X (by omega) (by omega) rfl rfl) (okX7_stuck h0 M g_1) (Rc.of C rfl rfl g_1) mw_609 cvX7_stuck rfl rfl (Nat.le_of_ble_eq_true rfl) dL_law_1550 (fun o158 M157 => ?_)
    refine r_aload_n (pc := 1553) C 2 rfl rfl dL_law_1553 ?_
    refine r_wVI (pc := 1554) C (Rx.law X (by omega) (by omega) rfl rfl) (okX8_stuck h0 M157 g_2) (Rc.of C rfl rfl g_2) mw_1459 cvX8_stuck rfl rfl (Nat.le_of_ble_eq_true rfl) dL_law_1554 (fun o160 M159 => ?_)
    refine r_icmp_eq (pc := 1557) C dL_law_1557 (tgt := 2025) rfl ?_ ?_
    refine r_iinc (pc := 2025) C [(5, .int (v5 + (4 : Int32))), (0, .ref b), (1, .ref (G.1 0 0 0)), (2, .ref (G.1 19 0 0)), (3, .ref (G.1 30 0 0)), (4, .ref (G.1 31 0 0))] dL_law_2025 (p := 5) rfl (ki_4 _) (by decide) rfl ?_
    refine r_goto (pc := 2028) C dL_law_2028 (tgt := 28) rfl ?_
    refine r_sub [1, 2, 3, 4, 5, 0] rfl ?_
    refine r_wid (cs' := cs + 8) (sl' := sl + 48) (by omega) (by omega) ?_
    exact ih (v5 + (4 : Int32)) M159 (cs + 8) (sl + 48) (by omega) (by omega) g_1 g_2 g_3 g_4
    refine r_iconst (pc := 1560) C dL_law_1560 kc_0 ?_
    exact l_ret (pc := 1561) C X (by omega) (by omega) dL_law_1561
    refine r_ite (fun e161 => ?_) (fun e161n => ?_)
    refine r_tabE (pc := 44) C e161 dL_law_44 (by decide) (by decide) (off := 1518) rfl (tgt := 1562) rfl ?_
    refine r_aload_n (pc := 1562) C 1 rfl rfl dL_law_1562 ?_
    refine r_aload_n (pc := 1563) C 0 rfl rfl dL_law_1563 ?_
    refine r_iload (pc := 1564) C 5 rfl dL_law_1564 ?_
    refine r_iconst (pc := 1566) C dL_law_1566 kc_1 ?_
    refine r_iadd (pc := 1567) C dL_law_1567 ?_
    refine r_xsL (pc := 1568) C X dL_law_1568 ?_
    refine r_aload (pc := 1569) C 4 rfl dL_law_1569 ?_
    refine r_hSI (pc := 1571) C Y (Rx.law X (by omega) (by omega) rfl rfl) (okL_lent h0 Y.1 (xs (v5 + (1 : Int32)).toNatClampNeg) M g_1 g_4) mw_943 cvL_lent rfl rfl (Nat.le_of_ble_eq_true rfl) dL_law_1571 (fun o163 M162 => ?_)
    refine r_istore (pc := 1574) C [(6, .int o163), (0, .ref b), (1, .ref (G.1 0 0 0)), (2, .ref (G.1 19 0 0)), (3, .ref (G.1 30 0 0)), (4, .ref (G.1 31 0 0)), (5, .int v5)] dL_law_1574 (by decide) rfl ?_
    refine r_aload_n (pc := 1576) C 3 rfl rfl dL_law_1576 ?_
    refine r_aload_n (pc := 1577) C 1 rfl rfl dL_law_1577 ?_
    refine r_iload (pc := 1578) C 6 rfl dL_law_1578 ?_
    refine r_iconst (pc := 1580) C dL_law_1580 kc_1 ?_
    refine r_iadd (pc := 1581) C dL_law_1581 ?_
    refine r_xsL (pc := 1582) C X dL_law_1582 ?_
    refine r_wVF (pc := 1583) C (Rx.law X (by omega) (by omega) rfl rfl) (okX8_lent h0 (xs (v5 + (1 : Int32)).toNatClampNeg) M162 g_2) (Rc.of C rfl rfl g_2) mw_1463 cvX8_lent rfl rfl (Nat.le_of_ble_eq_true rfl) dL_law_1583 (fun o165 M164 => ?_)
    refine r_fstore (pc := 1586) C [(7, .float o165), (6, .int o163), (0, .ref b), (1, .ref (G.1 0 0 0)), (2, .ref (G.1 19 0 0)), (3, .ref (G.1 30 0 0)), (4, .ref (G.1 31 0 0)), (5, .int v5)] dL_law_1586 (by decide) rfl ?_
    refine r_aload_n (pc := 1588) C 4 rfl rfl dL_law_1588 ?_
    refine r_wVI (pc := 1589) C (Rx.law X (by omega) (by omega) rfl rfl) (okX8_thrown h0 M164 g_2) (Rc.of C rfl rfl g_2) mw_1076 cvX8_thrown rfl rfl (Nat.le_of_ble_eq_true rfl) dL_law_1589 (fun o167 M166 => ?_)
    refine r_iload (pc := 1592) C 1 rfl dL_law_1592 ?_
    refine r_icmp_eq (pc := 1594) C dL_law_1594 (tgt := 1599) rfl ?_ ?_
    refine r_iload (pc := 1599) C 1 rfl dL_law_1599 ?_
    refine r_if_ne (pc := 1601) C dL_law_1601 (tgt := 1637) rfl ?_ ?_
    refine r_goto (pc := 1637) C dL_law_1637 (tgt := 2025) rfl ?_
    refine r_iinc (pc := 2025) C [(5, .int (v5 + (4 : Int32))), (7, .float o165), (6, .int o163), (0, .ref b), (1, .ref (G.1 0 0 0)), (2, .ref (G.1 19 0 0)), (3, .ref (G.1 30 0 0)), (4, .ref (G.1 31 0 0))] dL_law_2025 (p := 7) rfl (ki_4 _) (by decide) rfl ?_
    refine r_goto (pc := 2028) C dL_law_2028 (tgt := 28) rfl ?_
    refine r_sub [3, 4, 5, 6, 7, 0] rfl ?_
    refine r_wid (cs' := cs + 8) (sl' := sl + 48) (by omega) (by omega) ?_
    exact ih (v5 + (4 : Int32)) M166 (cs + 8) (sl + 48) (by omega) (by omega) g_1 g_2 g_3 g_4
    refine r_aload (pc := 1604) C 6 rfl dL_law_1604 ?_
    refine r_iconst (pc := 1606) C dL_law_1606 kc_0 ?_
    refine r_dald (pc := 1607) C g_4 dL_law_1607 ?_
    refine r_fload (pc := 1608) C 0 rfl dL_law_1608 ?_
    refine r_f2d (pc := 1610) C dL_law_1610 ?_
    refine r_dcmp (pc := 1611) C dL_law_1611 ?_
    refine r_if_eq (pc := 1612) C dL_law_1612 (tgt := 1637) rfl ?_ ?_
    refine r_goto (pc := 1637) C dL_law_1637 (tgt := 2025) rfl ?_
    refine r_iinc (pc := 2025) C [(5, .int (v5 + (4 : Int32))), (7, .float o165), (6, .int o163), (0, .ref b), (1, .ref (G.1 0 0 0)), (2, .ref (G.1 19 0 0)), (3, .ref (G.1 30 0 0)), (4, .ref (G.1 31 0 0))] dL_law_2025 (p := 7) rfl (ki_4 _) (by decide) rfl ?_
    refine r_goto (pc := 2028) C dL_law_2028 (tgt := 28) rfl ?_
    refine r_sub [3, 4, 5, 6, 7, 0] rfl ?_
    refine r_wid (cs' := cs + 8) (sl' := sl + 48) (by omega) (by omega) ?_
    exact ih (v5 + (4 : Int32)) M166 (cs + 8) (sl + 48) (by omega) (by omega) g_1 g_2 g_3 g_4
    refine r_aload (pc := 1615) C 6 rfl dL_law_1615 ?_
    refine r_iconst (pc := 1617) C dL_law_1617 kc_0 ?_
    refine r_dald (pc := 1618) C g_4 dL_law_1618 ?_
    refine r_aload (pc := 1619) C 6 rfl dL_law_1619 ?_
    refine r_iconst (pc := 1621) C dL_law_1621 kc_0 ?_
    refine r_dald (pc := 1622) C g_4 dL_law_1622 ?_
    refine r_dcmp (pc := 1623) C dL_law_1623 ?_
    refine r_if_eq (pc := 1624) C dL_law_1624 (tgt := 1635) rfl ?_ ?_
    refine r_iconst (pc := 1635) C dL_law_1635 kc_0 ?_
    exact l_ret (pc := 1636) C X (by omega) (by omega) dL_law_1636
    refine r_fload (pc := 1627) C 0 rfl dL_law_1627 ?_
    refine r_fload (pc := 1629) C 0 rfl dL_law_1629 ?_
    refine r_fcmp (pc := 1631) C dL_law_1631 ?_
    refine r_if_ne (pc := 1632) C dL_law_1632 (tgt := 1637) rfl ?_ ?_
    refine r_goto (pc := 1637) C dL_law_1637 (tgt := 2025) rfl ?_
    refine r_iinc (pc := 2025) C [(5, .int (v5 + (4 : Int32))), (7, .float o165), (6, .int o163), (0, .ref b), (1, .ref (G.1 0 0 0)), (2, .ref (G.1 19 0 0)), (3, .ref (G.1 30 0 0)), (4, .ref (G.1 31 0 0))] dL_law_2025 (p := 7) rfl (ki_4 _) (by decide) rfl ?_
    refine r_goto (pc := 2028) C dL_law_2028 (tgt := 28) rfl ?_
    refine r_sub [3, 4, 5, 6, 7, 0] rfl ?_
    refine r_wid (cs' := cs + 8) (sl' := sl + 48) (by omega) (by omega) ?_
    exact ih (v5 + (4 : Int32)) M166 (cs + 8) (sl + 48) (by omega) (by omega) g_1 g_2 g_3 g_4
    refine r_iconst (pc := 1635) C dL_law_1635 kc_0 ?_
    exact l_ret (pc := 1636) C X (by omega) (by omega) dL_law_1636
    refine r_iconst (pc := 1597) C dL_law_1597 kc_0 ?_
    exact l_ret (pc := 1598) C X (by omega) (by omega) dL_law_1598
    refine r_ite (fun e168 => ?_) (fun e168n => ?_)
    refine r_tabE (pc := 44) C e168 dL_law_44 (by decide) (by decide) (off := 1596) rfl (tgt := 1640) rfl ?_
    refine r_aload_n (pc := 1640) C 1 rfl rfl dL_law_1640 ?_
    refine r_wVD (pc := 1641) C (Rx.law X (by omega) (by omega) rfl rfl) (okX7_busy h0 M g_1) (Rc.of C rfl rfl g_1) mw_617 cvX7_busy rfl rfl (Nat.le_of_ble_eq_true rfl) dL_law_1641 (fun o170 M169 => ?_)
    refine r_dstore (pc := 1644) C [(6, .double o170), (0, .ref b), (1, .ref (G.1 0 0 0)), (2, .ref (G.1 19 0 0)), (3, .ref (G.1 30 0 0)), (4, .ref (G.1 31 0 0)), (5, .int v5)] dL_law_1644 (by decide) rfl ?_
    refine r_aload_n (pc := 1646) C 3 rfl rfl dL_law_1646 ?_
    refine r_wVD (pc := 1647) C (Rx.law X (by omega) (by omega) rfl rfl) (okX8_busy h0 M169 g_2) (Rc.of C rfl rfl g_2) mw_1467 cvX8_busy rfl rfl (Nat.le_of_ble_eq_true rfl) dL_law_1647 (fun o172 M171 => ?_)
    refine r_dstore (pc := 1650) C [(8, .double o172), (6, .double o170), (0, .ref b), (1, .ref (G.1 0 0 0)), (2, .ref (G.1 19 0 0)), (3, .ref (G.1 30 0 0)), (4, .ref (G.1 31 0 0)), (5, .int v5)] dL_law_1650 (by decide) rfl ?_
    refine r_dload (pc := 1652) C 1 rfl dL_law_1652 ?_
    refine r_dload (pc := 1654) C 0 rfl dL_law_1654 ?_
    refine r_dcmp (pc := 1656) C dL_law_1656 ?_
    refine r_if_eq (pc := 1657) C dL_law_1657 (tgt := 1678) rfl ?_ ?_
    refine r_goto (pc := 1678) C dL_law_1678 (tgt := 2025) rfl ?_
    refine r_iinc (pc := 2025) C [(5, .int (v5 + (4 : Int32))), (8, .double o172), (6, .double o170), (0, .ref b), (1, .ref (G.1 0 0 0)), (2, .ref (G.1 19 0 0)), (3, .ref (G.1 30 0 0)), (4, .ref (G.1 31 0 0))] dL_law_2025 (p := 7) rfl (ki_4 _) (by decide) rfl ?_
    refine r_goto (pc := 2028) C dL_law_2028 (tgt := 28) rfl ?_
    refine r_sub [3, 4, 5, 6, 7, 0] rfl ?_
    refine r_wid (cs' := cs + 8) (sl' := sl + 48) (by omega) (by omega) ?_
    exact ih (v5 + (4 : Int32)) M171 (cs + 8) (sl + 48) (by omega) (by omega) g_1 g_2 g_3 g_4
    refine r_dload (pc := 1660) C 1 rfl dL_law_1660 ?_
    refine r_dload (pc := 1662) C 1 rfl dL_law_1662 ?_
    refine r_dcmp (pc := 1664) C dL_law_1664 ?_
    refine r_if_eq (pc := 1665) C dL_law_1665 (tgt := 1676) rfl ?_ ?_
    refine r_iconst (pc := 1676) C dL_law_1676 kc_0 ?_
    exact l_ret (pc := 1677) C X (by omega) (by omega) dL_law_1677
    refine r_dload (pc := 1668) C 0 rfl dL_law_1668 ?_
    refine r_dload (pc := 1670) C 0 rfl dL_law_1670 ?_
    refine r_dcmp (pc := 1672) C dL_law_1672 ?_
    refine r_if_ne (pc := 1673) C dL_law_1673 (tgt := 1678) rfl ?_ ?_
    refine r_goto (pc := 1678) C dL_law_1678 (tgt := 2025) rfl ?_
    refine r_iinc (pc := 2025) C [(5, .int (v5 + (4 : Int32))), (8, .double o172), (6, .double o170), (0, .ref b), (1, .ref (G.1 0 0 0)), (2, .ref (G.1 19 0 0)), (3, .ref (G.1 30 0 0)), (4, .ref (G.1 31 0 0))] dL_law_2025 (p := 7) rfl (ki_4 _) (by decide) rfl ?_
    refine r_goto (pc := 2028) C dL_law_2028 (tgt := 28) rfl ?_
    refine r_sub [3, 4, 5, 6, 7, 0] rfl ?_
    refine r_wid (cs' := cs + 8) (sl' := sl + 48) (by omega) (by omega) ?_
    exact ih (v5 + (4 : Int32)) M171 (cs + 8) (sl + 48) (by omega) (by omega) g_1 g_2 g_3 g_4
    refine r_iconst (pc := 1676) C dL_law_1676 kc_0 ?_
    exact l_ret (pc := 1677) C X (by omega) (by omega) dL_law_1677
    refine r_ite (fun e173 => ?_) (fun e173n => ?_)
    refine r_tabE (pc := 44) C e173 dL_law_44 (by decide) (by decide) (off := 1637) rfl (tgt := 1681) rfl ?_
    refine r_aload_n (pc := 1681) C 1 rfl rfl dL_law_1681 ?_
    refine r_aload_n (pc := 1682) C 0 rfl rfl dL_law_1682 ?_
    refine r_iload (pc := 1683) C 5 rfl dL_law_1683 ?_
    refine r_iconst (pc := 1685) C dL_law_1685 kc_1 ?_
    refine r_iadd (pc := 1686) C dL_law_1686 ?_
    refine r_xsL (pc := 1687) C X dL_law_1687 ?_
    refine r_aload_n (pc := 1688) C 0 rfl rfl dL_law_1688 ?_
    refine r_iload (pc := 1689) C 5 rfl dL_law_1689 ?_
    refine r_iconst (pc := 1691) C dL_law_1691 kc_2 ?_
    refine r_iadd (pc := 1692) C dL_law_1692 ?_
    refine r_xsL (pc := 1693) C X dL_law_1693 ?_
    refine r_aload_n (pc := 1694) C 3 rfl rfl dL_law_1694 ?_
    refine r_hSI (pc := 1695) C Y (Rx.law X (by omega) (by omega) rfl rfl) (okL_doneIn h0 Y.1 (xs (v5 + (1 : Int32)).toNatClampNeg) (xs (v5 + (2 : Int32)).toNatClampNeg) M g_1 g_3) mw_950 cvL_doneIn rfl rfl (Nat.le_of_ble_eq_true rfl) dL_law_1695 (fun o175 M174 => ?_)
    refine r_istore (pc := 1698) C [(6, .int o175), (0, .ref b), (1, .ref (G.1 0 0 0)), (2, .ref (G.1 19 0 0)), (3, .ref (G.1 30 0 0)), (4, .ref (G.1 31 0 0)), (5, .int v5)] dL_law_1698 (by decide) rfl ?_
    refine r_aload_n (pc := 1700) C 3 rfl rfl dL_law_1700 ?_
    refine r_aload_n (pc := 1701) C 1 rfl rfl dL_law_1701 ?_
    refine r_iload (pc := 1702) C 6 rfl dL_law_1702 ?_
    refine r_iconst (pc := 1704) C dL_law_1704 kc_1 ?_
    refine r_iadd (pc := 1705) C dL_law_1705 ?_
    refine r_xsL (pc := 1706) C X dL_law_1706 ?_
    refine r_aload_n (pc := 1707) C 1 rfl rfl dL_law_1707 ?_
    refine r_iload (pc := 1708) C 6 rfl dL_law_1708 ?_
    refine r_iconst (pc := 1710) C dL_law_1710 kc_2 ?_
    refine r_iadd (pc := 1711) C dL_law_1711 ?_
    refine r_xsL (pc := 1712) C X dL_law_1712 ?_
    refine r_wVI (pc := 1713) C (Rx.law X (by omega) (by omega) rfl rfl) (okX8_doneIn h0 (xs (v5 + (1 : Int32)).toNatClampNeg) (xs (v5 + (2 : Int32)).toNatClampNeg) M174 g_2) (Rc.of C rfl rfl g_2) mw_1471 cvX8_doneIn rfl rfl (Nat.le_of_ble_eq_true rfl) dL_law_1713 (fun o177 M176 => ?_)
    refine r_istore (pc := 1716) C [(7, .int o177), (6, .int o175), (0, .ref b), (1, .ref (G.1 0 0 0)), (2, .ref (G.1 19 0 0)), (3, .ref (G.1 30 0 0)), (4, .ref (G.1 31 0 0)), (5, .int v5)] dL_law_1716 (by decide) rfl ?_
    refine r_aload_n (pc := 1718) C 4 rfl rfl dL_law_1718 ?_
    refine r_wVI (pc := 1719) C (Rx.law X (by omega) (by omega) rfl rfl) (okX8_thrown h0 M176 g_2) (Rc.of C rfl rfl g_2) mw_1076 cvX8_thrown rfl rfl (Nat.le_of_ble_eq_true rfl) dL_law_1719 (fun o179 M178 => ?_)
    refine r_iload (pc := 1722) C 1 rfl dL_law_1722 ?_
    refine r_icmp_eq (pc := 1724) C dL_law_1724 (tgt := 1729) rfl ?_ ?_
    refine r_iload (pc := 1729) C 1 rfl dL_law_1729 ?_
    refine r_if_ne (pc := 1731) C dL_law_1731 (tgt := 1746) rfl ?_ ?_
    refine r_goto (pc := 1746) C dL_law_1746 (tgt := 2025) rfl ?_
    refine r_iinc (pc := 2025) C [(5, .int (v5 + (4 : Int32))), (7, .int o177), (6, .int o175), (0, .ref b), (1, .ref (G.1 0 0 0)), (2, .ref (G.1 19 0 0)), (3, .ref (G.1 30 0 0)), (4, .ref (G.1 31 0 0))] dL_law_2025 (p := 7) rfl (ki_4 _) (by decide) rfl ?_
    refine r_goto (pc := 2028) C dL_law_2028 (tgt := 28) rfl ?_
    refine r_sub [3, 4, 5, 6, 7, 0] rfl ?_
    refine r_wid (cs' := cs + 8) (sl' := sl + 48) (by omega) (by omega) ?_
    exact ih (v5 + (4 : Int32)) M178 (cs + 8) (sl + 48) (by omega) (by omega) g_1 g_2 g_3 g_4
    refine r_aload_n (pc := 1734) C 5 rfl rfl dL_law_1734 ?_
    refine r_iconst (pc := 1735) C dL_law_1735 kc_0 ?_
    refine r_lald (pc := 1736) C g_3 dL_law_1736 ?_
    refine r_iload (pc := 1737) C 0 rfl dL_law_1737 ?_
    refine r_i2l (pc := 1739) C dL_law_1739 ?_
    refine r_lcmp (pc := 1740) C dL_law_1740 ?_
    refine r_if_eq (pc := 1741) C dL_law_1741 (tgt := 1746) rfl ?_ ?_
    refine r_goto (pc := 1746) C dL_law_1746 (tgt := 2025) rfl ?_
    refine r_iinc (pc := 2025) C [(5, .int (v5 + (4 : Int32))), (7, .int o177), (6, .int o175), (0, .ref b), (1, .ref (G.1 0 0 0)), (2, .ref (G.1 19 0 0)), (3, .ref (G.1 30 0 0)), (4, .ref (G.1 31 0 0))] dL_law_2025 (p := 7) rfl (ki_4 _) (by decide) rfl ?_
    refine r_goto (pc := 2028) C dL_law_2028 (tgt := 28) rfl ?_
    refine r_sub [3, 4, 5, 6, 7, 0] rfl ?_
    refine r_wid (cs' := cs + 8) (sl' := sl + 48) (by omega) (by omega) ?_
    exact ih (v5 + (4 : Int32)) M178 (cs + 8) (sl + 48) (by omega) (by omega) g_1 g_2 g_3 g_4
    refine r_iconst (pc := 1744) C dL_law_1744 kc_0 ?_
    exact l_ret (pc := 1745) C X (by omega) (by omega) dL_law_1745
    refine r_iconst (pc := 1727) C dL_law_1727 kc_0 ?_
    exact l_ret (pc := 1728) C X (by omega) (by omega) dL_law_1728
    refine r_ite (fun e180 => ?_) (fun e180n => ?_)
    refine r_tabE (pc := 44) C e180 dL_law_44 (by decide) (by decide) (off := 1705) rfl (tgt := 1749) rfl ?_
    refine r_aload_n (pc := 1749) C 1 rfl rfl dL_law_1749 ?_
    refine r_aload_n (pc := 1750) C 0 rfl rfl dL_law_1750 ?_
    refine r_iload (pc := 1751) C 5 rfl dL_law_1751 ?_
    refine r_iconst (pc := 1753) C dL_law_1753 kc_1 ?_
    refine r_iadd (pc := 1754) C dL_law_1754 ?_
    refine r_xsL (pc := 1755) C X dL_law_1755 ?_
    refine r_aload_n (pc := 1756) C 0 rfl rfl dL_law_1756 ?_
    refine r_iload (pc := 1757) C 5 rfl dL_law_1757 ?_
    refine r_iconst (pc := 1759) C dL_law_1759 kc_2 ?_
    refine r_iadd (pc := 1760) C dL_law_1760 ?_
    refine r_xsL (pc := 1761) C X dL_law_1761 ?_
    refine r_aload_n (pc := 1762) C 3 rfl rfl dL_law_1762 ?_
    refine r_hSI (pc := 1763) C Y (Rx.law X (by omega) (by omega) rfl rfl) (okL_returnsIn h0 Y.1 (xs (v5 + (1 : Int32)).toNatClampNeg) (xs (v5 + (2 : Int32)).toNatClampNeg) M g_1 g_3) mw_957 cvL_returnsIn rfl rfl (Nat.le_of_ble_eq_true rfl) dL_law_1763 (fun o182 M181 => ?_)
    refine r_istore (pc := 1766) C [(6, .int o182), (0, .ref b), (1, .ref (G.1 0 0 0)), (2, .ref (G.1 19 0 0)), (3, .ref (G.1 30 0 0)), (4, .ref (G.1 31 0 0)), (5, .int v5)] dL_law_1766 (by decide) rfl ?_
    refine r_aload_n (pc := 1768) C 3 rfl rfl dL_law_1768 ?_
    refine r_aload_n (pc := 1769) C 1 rfl rfl dL_law_1769 ?_
    refine r_iload (pc := 1770) C 6 rfl dL_law_1770 ?_
    refine r_iconst (pc := 1772) C dL_law_1772 kc_1 ?_
    refine r_iadd (pc := 1773) C dL_law_1773 ?_
    refine r_xsL (pc := 1774) C X dL_law_1774 ?_
    refine r_aload_n (pc := 1775) C 1 rfl rfl dL_law_1775 ?_
    refine r_iload (pc := 1776) C 6 rfl dL_law_1776 ?_
    refine r_iconst (pc := 1778) C dL_law_1778 kc_2 ?_
    refine r_iadd (pc := 1779) C dL_law_1779 ?_
    refine r_xsL (pc := 1780) C X dL_law_1780 ?_
    refine r_wVI (pc := 1781) C (Rx.law X (by omega) (by omega) rfl rfl) (okX8_returnsIn h0 (xs (v5 + (1 : Int32)).toNatClampNeg) (xs (v5 + (2 : Int32)).toNatClampNeg) M181 g_2) (Rc.of C rfl rfl g_2) mw_1479 cvX8_returnsIn rfl rfl (Nat.le_of_ble_eq_true rfl) dL_law_1781 (fun o184 M183 => ?_)
    refine r_istore (pc := 1784) C [(7, .int o184), (6, .int o182), (0, .ref b), (1, .ref (G.1 0 0 0)), (2, .ref (G.1 19 0 0)), (3, .ref (G.1 30 0 0)), (4, .ref (G.1 31 0 0)), (5, .int v5)] dL_law_1784 (by decide) rfl ?_
    refine r_aload_n (pc := 1786) C 4 rfl rfl dL_law_1786 ?_
    refine r_wVI (pc := 1787) C (Rx.law X (by omega) (by omega) rfl rfl) (okX8_thrown h0 M183 g_2) (Rc.of C rfl rfl g_2) mw_1076 cvX8_thrown rfl rfl (Nat.le_of_ble_eq_true rfl) dL_law_1787 (fun o186 M185 => ?_)
    refine r_iload (pc := 1790) C 1 rfl dL_law_1790 ?_
    refine r_icmp_eq (pc := 1792) C dL_law_1792 (tgt := 1797) rfl ?_ ?_
    refine r_iload (pc := 1797) C 1 rfl dL_law_1797 ?_
    refine r_if_ne (pc := 1799) C dL_law_1799 (tgt := 1814) rfl ?_ ?_
    refine r_goto (pc := 1814) C dL_law_1814 (tgt := 2025) rfl ?_
    refine r_iinc (pc := 2025) C [(5, .int (v5 + (4 : Int32))), (7, .int o184), (6, .int o182), (0, .ref b), (1, .ref (G.1 0 0 0)), (2, .ref (G.1 19 0 0)), (3, .ref (G.1 30 0 0)), (4, .ref (G.1 31 0 0))] dL_law_2025 (p := 7) rfl (ki_4 _) (by decide) rfl ?_
    refine r_goto (pc := 2028) C dL_law_2028 (tgt := 28) rfl ?_
    refine r_sub [3, 4, 5, 6, 7, 0] rfl ?_
    refine r_wid (cs' := cs + 8) (sl' := sl + 48) (by omega) (by omega) ?_
    exact ih (v5 + (4 : Int32)) M185 (cs + 8) (sl + 48) (by omega) (by omega) g_1 g_2 g_3 g_4
    refine r_aload_n (pc := 1802) C 5 rfl rfl dL_law_1802 ?_
    refine r_iconst (pc := 1803) C dL_law_1803 kc_0 ?_
    refine r_lald (pc := 1804) C g_3 dL_law_1804 ?_
    refine r_iload (pc := 1805) C 0 rfl dL_law_1805 ?_
    refine r_i2l (pc := 1807) C dL_law_1807 ?_
    refine r_lcmp (pc := 1808) C dL_law_1808 ?_
    refine r_if_eq (pc := 1809) C dL_law_1809 (tgt := 1814) rfl ?_ ?_
    refine r_goto (pc := 1814) C dL_law_1814 (tgt := 2025) rfl ?_
    refine r_iinc (pc := 2025) C [(5, .int (v5 + (4 : Int32))), (7, .int o184), (6, .int o182), (0, .ref b), (1, .ref (G.1 0 0 0)), (2, .ref (G.1 19 0 0)), (3, .ref (G.1 30 0 0)), (4, .ref (G.1 31 0 0))] dL_law_2025 (p := 7) rfl (ki_4 _) (by decide) rfl ?_
    refine r_goto (pc := 2028) C dL_law_2028 (tgt := 28) rfl ?_
    refine r_sub [3, 4, 5, 6, 7, 0] rfl ?_
    refine r_wid (cs' := cs + 8) (sl' := sl + 48) (by omega) (by omega) ?_
    exact ih (v5 + (4 : Int32)) M185 (cs + 8) (sl + 48) (by omega) (by omega) g_1 g_2 g_3 g_4
    refine r_iconst (pc := 1812) C dL_law_1812 kc_0 ?_
    exact l_ret (pc := 1813) C X (by omega) (by omega) dL_law_1813
    refine r_iconst (pc := 1795) C dL_law_1795 kc_0 ?_
    exact l_ret (pc := 1796) C X (by omega) (by omega) dL_law_1796
    refine r_ite (fun e187 => ?_) (fun e187n => ?_)
    refine r_tabE (pc := 44) C e187 dL_law_44 (by decide) (by decide) (off := 1773) rfl (tgt := 1817) rfl ?_
    refine r_aload_n (pc := 1817) C 1 rfl rfl dL_law_1817 ?_
    refine r_aload_n (pc := 1818) C 0 rfl rfl dL_law_1818 ?_
    refine r_iload (pc := 1819) C 5 rfl dL_law_1819 ?_
    refine r_iconst (pc := 1821) C dL_law_1821 kc_1 ?_
    refine r_iadd (pc := 1822) C dL_law_1822 ?_
    refine r_xsL (pc := 1823) C X dL_law_1823 ?_
    refine r_aload_n (pc := 1824) C 0 rfl rfl dL_law_1824 ?_
    refine r_iload (pc := 1825) C 5 rfl dL_law_1825 ?_
    refine r_iconst (pc := 1827) C dL_law_1827 kc_2 ?_
    refine r_iadd (pc := 1828) C dL_law_1828 ?_
    refine r_xsL (pc := 1829) C X dL_law_1829 ?_
    refine r_aload_n (pc := 1830) C 3 rfl rfl dL_law_1830 ?_
    refine r_hSI (pc := 1831) C Y (Rx.law X (by omega) (by omega) rfl rfl) (okL_ahead h0 Y.1 (xs (v5 + (1 : Int32)).toNatClampNeg) (xs (v5 + (2 : Int32)).toNatClampNeg) M g_1 g_3) mw_968 cvL_ahead rfl rfl (Nat.le_of_ble_eq_true rfl) dL_law_1831 (fun o189 M188 => ?_)
    refine r_istore (pc := 1834) C [(6, .int o189), (0, .ref b), (1, .ref (G.1 0 0 0)), (2, .ref (G.1 19 0 0)), (3, .ref (G.1 30 0 0)), (4, .ref (G.1 31 0 0)), (5, .int v5)] dL_law_1834 (by decide) rfl ?_
    refine r_aload_n (pc := 1836) C 3 rfl rfl dL_law_1836 ?_
    refine r_aload_n (pc := 1837) C 1 rfl rfl dL_law_1837 ?_
    refine r_iload (pc := 1838) C 6 rfl dL_law_1838 ?_
    refine r_iconst (pc := 1840) C dL_law_1840 kc_1 ?_
    refine r_iadd (pc := 1841) C dL_law_1841 ?_
    refine r_xsL (pc := 1842) C X dL_law_1842 ?_
    refine r_aload_n (pc := 1843) C 1 rfl rfl dL_law_1843 ?_
    refine r_iload (pc := 1844) C 6 rfl dL_law_1844 ?_
    refine r_iconst (pc := 1846) C dL_law_1846 kc_2 ?_
    refine r_iadd (pc := 1847) C dL_law_1847 ?_
    refine r_xsL (pc := 1848) C X dL_law_1848 ?_
    refine r_wVI (pc := 1849) C (Rx.law X (by omega) (by omega) rfl rfl) (okX8_ahead h0 (xs (v5 + (1 : Int32)).toNatClampNeg) (xs (v5 + (2 : Int32)).toNatClampNeg) M188 g_2) (Rc.of C rfl rfl g_2) mw_1487 cvX8_ahead rfl rfl (Nat.le_of_ble_eq_true rfl) dL_law_1849 (fun o191 M190 => ?_)
    refine r_istore (pc := 1852) C [(7, .int o191), (6, .int o189), (0, .ref b), (1, .ref (G.1 0 0 0)), (2, .ref (G.1 19 0 0)), (3, .ref (G.1 30 0 0)), (4, .ref (G.1 31 0 0)), (5, .int v5)] dL_law_1852 (by decide) rfl ?_
    refine r_aload_n (pc := 1854) C 4 rfl rfl dL_law_1854 ?_
    refine r_wVI (pc := 1855) C (Rx.law X (by omega) (by omega) rfl rfl) (okX8_thrown h0 M190 g_2) (Rc.of C rfl rfl g_2) mw_1076 cvX8_thrown rfl rfl (Nat.le_of_ble_eq_true rfl) dL_law_1855 (fun o193 M192 => ?_)
    refine r_iload (pc := 1858) C 1 rfl dL_law_1858 ?_
    refine r_icmp_eq (pc := 1860) C dL_law_1860 (tgt := 1865) rfl ?_ ?_
    refine r_iload (pc := 1865) C 1 rfl dL_law_1865 ?_
    refine r_if_ne (pc := 1867) C dL_law_1867 (tgt := 1882) rfl ?_ ?_
    refine r_goto (pc := 1882) C dL_law_1882 (tgt := 2025) rfl ?_
    refine r_iinc (pc := 2025) C [(5, .int (v5 + (4 : Int32))), (7, .int o191), (6, .int o189), (0, .ref b), (1, .ref (G.1 0 0 0)), (2, .ref (G.1 19 0 0)), (3, .ref (G.1 30 0 0)), (4, .ref (G.1 31 0 0))] dL_law_2025 (p := 7) rfl (ki_4 _) (by decide) rfl ?_
    refine r_goto (pc := 2028) C dL_law_2028 (tgt := 28) rfl ?_
    refine r_sub [3, 4, 5, 6, 7, 0] rfl ?_
    refine r_wid (cs' := cs + 8) (sl' := sl + 48) (by omega) (by omega) ?_
    exact ih (v5 + (4 : Int32)) M192 (cs + 8) (sl + 48) (by omega) (by omega) g_1 g_2 g_3 g_4
    refine r_aload_n (pc := 1870) C 5 rfl rfl dL_law_1870 ?_
    refine r_iconst (pc := 1871) C dL_law_1871 kc_0 ?_
    refine r_lald (pc := 1872) C g_3 dL_law_1872 ?_
    refine r_iload (pc := 1873) C 0 rfl dL_law_1873 ?_
    refine r_i2l (pc := 1875) C dL_law_1875 ?_
    refine r_lcmp (pc := 1876) C dL_law_1876 ?_
    refine r_if_eq (pc := 1877) C dL_law_1877 (tgt := 1882) rfl ?_ ?_
    refine r_goto (pc := 1882) C dL_law_1882 (tgt := 2025) rfl ?_
    refine r_iinc (pc := 2025) C [(5, .int (v5 + (4 : Int32))), (7, .int o191), (6, .int o189), (0, .ref b), (1, .ref (G.1 0 0 0)), (2, .ref (G.1 19 0 0)), (3, .ref (G.1 30 0 0)), (4, .ref (G.1 31 0 0))] dL_law_2025 (p := 7) rfl (ki_4 _) (by decide) rfl ?_
    refine r_goto (pc := 2028) C dL_law_2028 (tgt := 28) rfl ?_
    refine r_sub [3, 4, 5, 6, 7, 0] rfl ?_
    refine r_wid (cs' := cs + 8) (sl' := sl + 48) (by omega) (by omega) ?_
    exact ih (v5 + (4 : Int32)) M192 (cs + 8) (sl + 48) (by omega) (by omega) g_1 g_2 g_3 g_4
    refine r_iconst (pc := 1880) C dL_law_1880 kc_0 ?_
    exact l_ret (pc := 1881) C X (by omega) (by omega) dL_law_1881
    refine r_iconst (pc := 1863) C dL_law_1863 kc_0 ?_
    exact l_ret (pc := 1864) C X (by omega) (by omega) dL_law_1864
    refine r_ite (fun e194 => ?_) (fun e194n => ?_)
    refine r_tabE (pc := 44) C e194 dL_law_44 (by decide) (by decide) (off := 1841) rfl (tgt := 1885) rfl ?_
    refine r_aload_n (pc := 1885) C 1 rfl rfl dL_law_1885 ?_
    refine r_aload_n (pc := 1886) C 0 rfl rfl dL_law_1886 ?_
    refine r_iload (pc := 1887) C 5 rfl dL_law_1887 ?_
    refine r_iconst (pc := 1889) C dL_law_1889 kc_1 ?_
    refine r_iadd (pc := 1890) C dL_law_1890 ?_
    refine r_xsL (pc := 1891) C X dL_law_1891 ?_
    refine r_aload_n (pc := 1892) C 0 rfl rfl dL_law_1892 ?_
    refine r_iload (pc := 1893) C 5 rfl dL_law_1893 ?_
    refine r_iconst (pc := 1895) C dL_law_1895 kc_2 ?_
    refine r_iadd (pc := 1896) C dL_law_1896 ?_
    refine r_xsL (pc := 1897) C X dL_law_1897 ?_
    refine r_aload_n (pc := 1898) C 3 rfl rfl dL_law_1898 ?_
    refine r_hSI (pc := 1899) C Y (Rx.law X (by omega) (by omega) rfl rfl) (okL_bestBase h0 Y.1 (xs (v5 + (1 : Int32)).toNatClampNeg) (xs (v5 + (2 : Int32)).toNatClampNeg) M g_1 g_3) mw_980 cvL_bestBase rfl rfl (Nat.le_of_ble_eq_true rfl) dL_law_1899 (fun o196 M195 => ?_)
    refine r_istore (pc := 1902) C [(6, .int o196), (0, .ref b), (1, .ref (G.1 0 0 0)), (2, .ref (G.1 19 0 0)), (3, .ref (G.1 30 0 0)), (4, .ref (G.1 31 0 0)), (5, .int v5)] dL_law_1902 (by decide) rfl ?_
    refine r_aload_n (pc := 1904) C 3 rfl rfl dL_law_1904 ?_
    refine r_aload_n (pc := 1905) C 1 rfl rfl dL_law_1905 ?_
    refine r_iload (pc := 1906) C 6 rfl dL_law_1906 ?_
    refine r_iconst (pc := 1908) C dL_law_1908 kc_1 ?_
    refine r_iadd (pc := 1909) C dL_law_1909 ?_
    refine r_xsL (pc := 1910) C X dL_law_1910 ?_
    refine r_aload_n (pc := 1911) C 1 rfl rfl dL_law_1911 ?_
    refine r_iload (pc := 1912) C 6 rfl dL_law_1912 ?_
    refine r_iconst (pc := 1914) C dL_law_1914 kc_2 ?_
    refine r_iadd (pc := 1915) C dL_law_1915 ?_
    refine r_xsL (pc := 1916) C X dL_law_1916 ?_
    refine r_wVI (pc := 1917) C (Rx.law X (by omega) (by omega) rfl rfl) (okX8_bestBase h0 (xs (v5 + (1 : Int32)).toNatClampNeg) (xs (v5 + (2 : Int32)).toNatClampNeg) M195 g_2) (Rc.of C rfl rfl g_2) mw_1495 cvX8_bestBase rfl rfl (Nat.le_of_ble_eq_true rfl) dL_law_1917 (fun o198 M197 => ?_)
    refine r_istore (pc := 1920) C [(7, .int o198), (6, .int o196), (0, .ref b), (1, .ref (G.1 0 0 0)), (2, .ref (G.1 19 0 0)), (3, .ref (G.1 30 0 0)), (4, .ref (G.1 31 0 0)), (5, .int v5)] dL_law_1920 (by decide) rfl ?_
    refine r_aload_n (pc := 1922) C 4 rfl rfl dL_law_1922 ?_
    refine r_wVI (pc := 1923) C (Rx.law X (by omega) (by omega) rfl rfl) (okX8_thrown h0 M197 g_2) (Rc.of C rfl rfl g_2) mw_1076 cvX8_thrown rfl rfl (Nat.le_of_ble_eq_true rfl) dL_law_1923 (fun o200 M199 => ?_)
    refine r_iload (pc := 1926) C 1 rfl dL_law_1926 ?_
    refine r_icmp_eq (pc := 1928) C dL_law_1928 (tgt := 1933) rfl ?_ ?_
    refine r_iload (pc := 1933) C 1 rfl dL_law_1933 ?_
    refine r_if_ne (pc := 1935) C dL_law_1935 (tgt := 1950) rfl ?_ ?_
    refine r_goto (pc := 1950) C dL_law_1950 (tgt := 2025) rfl ?_
    refine r_iinc (pc := 2025) C [(5, .int (v5 + (4 : Int32))), (7, .int o198), (6, .int o196), (0, .ref b), (1, .ref (G.1 0 0 0)), (2, .ref (G.1 19 0 0)), (3, .ref (G.1 30 0 0)), (4, .ref (G.1 31 0 0))] dL_law_2025 (p := 7) rfl (ki_4 _) (by decide) rfl ?_
    refine r_goto (pc := 2028) C dL_law_2028 (tgt := 28) rfl ?_
    refine r_sub [3, 4, 5, 6, 7, 0] rfl ?_
    refine r_wid (cs' := cs + 8) (sl' := sl + 48) (by omega) (by omega) ?_
    exact ih (v5 + (4 : Int32)) M199 (cs + 8) (sl + 48) (by omega) (by omega) g_1 g_2 g_3 g_4
    refine r_aload_n (pc := 1938) C 5 rfl rfl dL_law_1938 ?_
    refine r_iconst (pc := 1939) C dL_law_1939 kc_0 ?_
    refine r_lald (pc := 1940) C g_3 dL_law_1940 ?_
    refine r_iload (pc := 1941) C 0 rfl dL_law_1941 ?_
    refine r_i2l (pc := 1943) C dL_law_1943 ?_
    refine r_lcmp (pc := 1944) C dL_law_1944 ?_
    refine r_if_eq (pc := 1945) C dL_law_1945 (tgt := 1950) rfl ?_ ?_
    refine r_goto (pc := 1950) C dL_law_1950 (tgt := 2025) rfl ?_
    refine r_iinc (pc := 2025) C [(5, .int (v5 + (4 : Int32))), (7, .int o198), (6, .int o196), (0, .ref b), (1, .ref (G.1 0 0 0)), (2, .ref (G.1 19 0 0)), (3, .ref (G.1 30 0 0)), (4, .ref (G.1 31 0 0))] dL_law_2025 (p := 7) rfl (ki_4 _) (by decide) rfl ?_
    refine r_goto (pc := 2028) C dL_law_2028 (tgt := 28) rfl ?_
    refine r_sub [3, 4, 5, 6, 7, 0] rfl ?_
    refine r_wid (cs' := cs + 8) (sl' := sl + 48) (by omega) (by omega) ?_
    exact ih (v5 + (4 : Int32)) M199 (cs + 8) (sl + 48) (by omega) (by omega) g_1 g_2 g_3 g_4
    refine r_iconst (pc := 1948) C dL_law_1948 kc_0 ?_
    exact l_ret (pc := 1949) C X (by omega) (by omega) dL_law_1949
    refine r_iconst (pc := 1931) C dL_law_1931 kc_0 ?_
    exact l_ret (pc := 1932) C X (by omega) (by omega) dL_law_1932
    refine r_ite (fun e201 => ?_) (fun e201n => ?_)
    refine r_tabE (pc := 44) C e201 dL_law_44 (by decide) (by decide) (off := 1909) rfl (tgt := 1953) rfl ?_
    refine r_aload_n (pc := 1953) C 1 rfl rfl dL_law_1953 ?_
    refine r_aload_n (pc := 1954) C 0 rfl rfl dL_law_1954 ?_
    refine r_iload (pc := 1955) C 5 rfl dL_law_1955 ?_
    refine r_iconst (pc := 1957) C dL_law_1957 kc_1 ?_
    refine r_iadd (pc := 1958) C dL_law_1958 ?_
    refine r_xsL (pc := 1959) C X dL_law_1959 ?_
    refine r_hSI (pc := 1960) C Y (Rx.law X (by omega) (by omega) rfl rfl) (okL_save h0 Y.1 (xs (v5 + (1 : Int32)).toNatClampNeg) M g_1) mw_987 cvL_save rfl rfl (Nat.le_of_ble_eq_true rfl) dL_law_1960 (fun o203 M202 => ?_)
    refine r_istore (pc := 1963) C [(6, .int o203), (0, .ref b), (1, .ref (G.1 0 0 0)), (2, .ref (G.1 19 0 0)), (3, .ref (G.1 30 0 0)), (4, .ref (G.1 31 0 0)), (5, .int v5)] dL_law_1963 (by decide) rfl ?_
    refine r_aload_n (pc := 1965) C 3 rfl rfl dL_law_1965 ?_
    refine r_aload_n (pc := 1966) C 1 rfl rfl dL_law_1966 ?_
    refine r_iload (pc := 1967) C 6 rfl dL_law_1967 ?_
    refine r_iconst (pc := 1969) C dL_law_1969 kc_1 ?_
    refine r_iadd (pc := 1970) C dL_law_1970 ?_
    refine r_xsL (pc := 1971) C X dL_law_1971 ?_
    refine r_wVV (pc := 1972) C (Rx.law X (by omega) (by omega) rfl rfl) (okX8_save h0 (xs (v5 + (1 : Int32)).toNatClampNeg) M202 g_2) (Rc.of C rfl rfl g_2) mw_1499 cvX8_save rfl rfl (Nat.le_of_ble_eq_true rfl) dL_law_1972 (fun o205 M204 => ?_)
    refine r_aload_n (pc := 1975) C 3 rfl rfl dL_law_1975 ?_
    refine r_wVI (pc := 1976) C (Rx.law X (by omega) (by omega) rfl rfl) (okX8_thrown h0 M204 g_2) (Rc.of C rfl rfl g_2) mw_1076 cvX8_thrown rfl rfl (Nat.le_of_ble_eq_true rfl) dL_law_1976 (fun o207 M206 => ?_)
    refine r_iload (pc := 1979) C 0 rfl dL_law_1979 ?_
    refine r_icmp_eq (pc := 1981) C dL_law_1981 (tgt := 1986) rfl ?_ ?_
    refine r_goto (pc := 1986) C dL_law_1986 (tgt := 2025) rfl ?_
    refine r_iinc (pc := 2025) C [(5, .int (v5 + (4 : Int32))), (6, .int o203), (0, .ref b), (1, .ref (G.1 0 0 0)), (2, .ref (G.1 19 0 0)), (3, .ref (G.1 30 0 0)), (4, .ref (G.1 31 0 0))] dL_law_2025 (p := 6) rfl (ki_4 _) (by decide) rfl ?_
    refine r_goto (pc := 2028) C dL_law_2028 (tgt := 28) rfl ?_
    refine r_sub [2, 3, 4, 5, 6, 0] rfl ?_
    refine r_wid (cs' := cs + 8) (sl' := sl + 48) (by omega) (by omega) ?_
    exact ih (v5 + (4 : Int32)) M206 (cs + 8) (sl + 48) (by omega) (by omega) g_1 g_2 g_3 g_4
    refine r_iconst (pc := 1984) C dL_law_1984 kc_0 ?_
    exact l_ret (pc := 1985) C X (by omega) (by omega) dL_law_1985
    refine r_ite (fun e208 => ?_) (fun e208n => ?_)
    refine r_tabE (pc := 44) C e208 dL_law_44 (by decide) (by decide) (off := 1945) rfl (tgt := 1989) rfl ?_
    refine r_aload_n (pc := 1989) C 1 rfl rfl dL_law_1989 ?_
    refine r_aload_n (pc := 1990) C 0 rfl rfl dL_law_1990 ?_
    refine r_iload (pc := 1991) C 5 rfl dL_law_1991 ?_
    refine r_iconst (pc := 1993) C dL_law_1993 kc_1 ?_
    refine r_iadd (pc := 1994) C dL_law_1994 ?_
    refine r_xsL (pc := 1995) C X dL_law_1995 ?_
    refine r_hSI (pc := 1996) C Y (Rx.law X (by omega) (by omega) rfl rfl) (okL_restore h0 Y.1 (xs (v5 + (1 : Int32)).toNatClampNeg) M g_1) mw_994 cvL_restore rfl rfl (Nat.le_of_ble_eq_true rfl) dL_law_1996 (fun o210 M209 => ?_)
    refine r_istore (pc := 1999) C [(6, .int o210), (0, .ref b), (1, .ref (G.1 0 0 0)), (2, .ref (G.1 19 0 0)), (3, .ref (G.1 30 0 0)), (4, .ref (G.1 31 0 0)), (5, .int v5)] dL_law_1999 (by decide) rfl ?_
    refine r_aload_n (pc := 2001) C 3 rfl rfl dL_law_2001 ?_
    refine r_aload_n (pc := 2002) C 1 rfl rfl dL_law_2002 ?_
    refine r_iload (pc := 2003) C 6 rfl dL_law_2003 ?_
    refine r_iconst (pc := 2005) C dL_law_2005 kc_1 ?_
    refine r_iadd (pc := 2006) C dL_law_2006 ?_
    refine r_xsL (pc := 2007) C X dL_law_2007 ?_
    refine r_wVV (pc := 2008) C (Rx.law X (by omega) (by omega) rfl rfl) (okX8_restore h0 (xs (v5 + (1 : Int32)).toNatClampNeg) M209 g_2) (Rc.of C rfl rfl g_2) mw_1503 cvX8_restore rfl rfl (Nat.le_of_ble_eq_true rfl) dL_law_2008 (fun o212 M211 => ?_)
    refine r_aload_n (pc := 2011) C 3 rfl rfl dL_law_2011 ?_
    refine r_wVI (pc := 2012) C (Rx.law X (by omega) (by omega) rfl rfl) (okX8_thrown h0 M211 g_2) (Rc.of C rfl rfl g_2) mw_1076 cvX8_thrown rfl rfl (Nat.le_of_ble_eq_true rfl) dL_law_2012 (fun o214 M213 => ?_)
    refine r_iload (pc := 2015) C 0 rfl dL_law_2015 ?_
    refine r_icmp_eq (pc := 2017) C dL_law_2017 (tgt := 2022) rfl ?_ ?_
    refine r_goto (pc := 2022) C dL_law_2022 (tgt := 2025) rfl ?_
    refine r_iinc (pc := 2025) C [(5, .int (v5 + (4 : Int32))), (6, .int o210), (0, .ref b), (1, .ref (G.1 0 0 0)), (2, .ref (G.1 19 0 0)), (3, .ref (G.1 30 0 0)), (4, .ref (G.1 31 0 0))] dL_law_2025 (p := 6) rfl (ki_4 _) (by decide) rfl ?_
    refine r_goto (pc := 2028) C dL_law_2028 (tgt := 28) rfl ?_
    refine r_sub [2, 3, 4, 5, 6, 0] rfl ?_
    refine r_wid (cs' := cs + 8) (sl' := sl + 48) (by omega) (by omega) ?_
    exact ih (v5 + (4 : Int32)) M213 (cs + 8) (sl + 48) (by omega) (by omega) g_1 g_2 g_3 g_4
    refine r_iconst (pc := 2020) C dL_law_2020 kc_0 ?_
    exact l_ret (pc := 2021) C X (by omega) (by omega) dL_law_2021
    refine r_tabD (pc := 44) C (cz := [0, 1, 2, 3, 4, 5, 6, 7, 8, 9, 10, 11, 12, 13, 14, 15, 16, 17, 18, 19, 20, 21, 22, 23, 24, 25, 26, 27, 28, 29, 30, 31, 32]) (tabN_cons e2n (tabN_cons e9n (tabN_cons e16n (tabN_cons e21n (tabN_cons e26n (tabN_cons e31n (tabN_cons e38n (tabN_cons e45n (tabN_cons e52n (tabN_cons e59n (tabN_cons e66n (tabN_cons e67n (tabN_cons e74n (tabN_cons e81n (tabN_cons e88n (tabN_cons e95n (tabN_cons e102n (tabN_cons e109n (tabN_cons e116n (tabN_cons e123n (tabN_cons e130n (tabN_cons e137n (tabN_cons e144n (tabN_cons e149n (tabN_cons e156n (tabN_cons e161n (tabN_cons e168n (tabN_cons e173n (tabN_cons e180n (tabN_cons e187n (tabN_cons e194n (tabN_cons e201n (tabN_cons e208n tabN_nil))))))))))))))))))))))))))))))))) dL_law_44 (by decide) (tgt := 2025) rfl ?_
    refine r_iinc (pc := 2025) C [(5, .int (v5 + (4 : Int32))), (0, .ref b), (1, .ref (G.1 0 0 0)), (2, .ref (G.1 19 0 0)), (3, .ref (G.1 30 0 0)), (4, .ref (G.1 31 0 0))] dL_law_2025 (p := 5) rfl (ki_4 _) (by decide) rfl ?_
    refine r_goto (pc := 2028) C dL_law_2028 (tgt := 28) rfl ?_
    refine r_sub [1, 2, 3, 4, 5, 0] rfl ?_
    refine r_wid (cs' := cs + 8) (sl' := sl + 48) (by omega) (by omega) ?_
    exact ih (v5 + (4 : Int32)) M (cs + 8) (sl + 48) (by omega) (by omega) g_1 g_2 g_3 g_4
end
