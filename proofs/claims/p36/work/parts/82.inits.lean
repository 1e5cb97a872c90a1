/-! ===== the constructors ===== -/
section INITS
set_option maxRecDepth 4000
theorem Rx.ofI {K : KT} {cs sl fr0 lo0 mc0 ms0 mc ms fr lo : Nat} (hRm : K.2.2.2.1 = rmI fr0 lo0 mc0 ms0) (h : Nat.ble (cs + mc) mc0 = true) (h2 : Nat.ble (sl + ms) ms0 = true) (h3 : Nat.ble (fr + 1) fr0 = true) (h4 : Nat.ble lo lo0 = true) : Rx K cs sl mc ms fr lo := by
  refine ⟨?_, ?_, ?_, ?_⟩ <;> rw [hRm]
  · exact Nat.le_of_ble_eq_true h
  · exact Nat.le_of_ble_eq_true h2
  · exact Nat.le_of_ble_eq_true h3
  · exact Nat.le_of_ble_eq_true h4
theorem Mst_mach {kd k i j : Nat} (h1 : 3 ≤ kd) (h2 : kd ≤ 16) : Mst.1 kd k i j = (Mc k).1 kd k i j := by
  show (if kd = 1 then (if j = 3 then -1 else 0) else if 3 ≤ kd ∧ kd ≤ 16 then (Mc k).1 kd k i j else 0) = _
  rw [if_neg (by omega), if_pos ⟨h1, h2⟩]
theorem hal_mach {h0 k x : Nat} {X : GX} (hk : k < 4) (hx : x = h0 + mb k) : ∀ kd k' i, (GN h0 X).2.2.2.1 kd k' i → x ≤ (GN h0 X).1 kd k' i → (GN h0 X).1 kd k' i < x + 50 → alikeAt (Mc k) Mst kd k' i := by
  intro kd k' i hd h1 h2
  subst hx
  have hd : dmb kd k' i = true := hd
  have h1 : h0 + mb k ≤ h0 + off kd k' i := h1
  have h2 : h0 + off kd k' i < h0 + mb k + 50 := h2
  obtain ⟨a1, a2, a3⟩ := dmb_lt hd
  obtain ⟨rfl, h3, h4⟩ := blk_ok k hk kd a1 k' a2 i a3 hd (by omega) (by omega)
  refine ⟨fun j => Mst_mach h3 h4, fun j h => ?_, fun j h => ?_, fun j h => ?_⟩
  · have := ks_19 h; omega
  · have := ks_1 kd j; omega
  · have := ks_1 kd j; omega
theorem okI_X6 {l : Launch} {h0 a : Nat} {X : GX} {k i : Nat} (hk : k < 4) (hI : i < 10) (ha : a = h0 + off 5 k i) : OkI l (GN h0 X) yX6_init cX6_init 1 1 12 3 37 a (a + 4) 4 18 (fun j => defaultValue (tyX6 j)) M0 M0 := by
  refine OkI.of "PermitPark$Strand" rfl rfl (by decide) (by decide) (fun K hl hr C hini hAO hsz => ?_)
  have hlA : ∀ q, a ≤ q → (GN h0 X).2.2.2.2.1 q := fun q hq => Nat.le_trans (by rw [ha]; exact Nat.le_add_right _ _) hq
  refine c_aload_n (pc := 0) C 0 rfl rfl dX6_init_0 ?_
  refine c_obj (pc := 1) C mw_109 mw_22 mw_23 (by rw [hr]; exact Nat.le_of_ble_eq_true rfl) (by rw [hr]; exact Nat.le_of_ble_eq_true rfl) dX6_init_1 ?_
  refine c_aload_n (pc := 4) C 0 rfl rfl dX6_init_4 ?_
  refine c_bipush (pc := 5) C dX6_init_5 kb_16 ?_
  refine c_newa (pc := 7) (N := 16) (ti := 0) (atype := .int) (ty := .int) C rfl aw_int rfl (fun _ _ h => h) (by decide) (by decide) (by decide) (by rw [hr]; exact Nat.le_of_ble_eq_true rfl) (by rw [hr]; exact Nat.le_of_ble_eq_true rfl) dX6_init_7 ?_
  refine c_hi (hi' := a + 2) rfl ?_
  refine c_done (p := 0) (kd := 6) (k := k) (i := i) C rfl (by simp [GN, dmb, hk, hI] : (GN h0 X).2.2.2.1 6 k i) (by subst ha; simp only [GN, off] <;> omega : (GN h0 X).1 6 k i = (a + 1)) (DH.arr rfl (by subst ha; simp only [GN, off] <;> omega : (GN h0 X).1 6 k i = (a + 1)) (fun j _ => rfl)) ?_
  refine c_rws (rws' := [(a, (0, 4, 18, _))]) rfl ?_
  refine c_put (pc := 9) (p := 0) (j := 0) C rfl hini rfl (by decide) rfl wIn_6 mw_110 tyX6 tyX6_ok nmX6 (by decide +kernel : parseFieldDescriptor "[I" = some (.array .int)) rfl rfl rfl (by omega) dX6_init_9 ?_
  refine c_rws (rws' := [(a, (0, 4, 18, _))]) rfl ?_
  refine c_aload_n (pc := 12) C 0 rfl rfl dX6_init_12 ?_
  refine c_bipush (pc := 13) C dX6_init_13 kb_16 ?_
  refine c_newa (pc := 15) (N := 16) (ti := 0) (atype := .int) (ty := .int) C rfl aw_int rfl (fun _ _ h => h) (by decide) (by decide) (by decide) (by rw [hr]; exact Nat.le_of_ble_eq_true rfl) (by rw [hr]; exact Nat.le_of_ble_eq_true rfl) dX6_init_15 ?_
  refine c_hi (hi' := a + 3) rfl ?_
  refine c_done (p := 0) (kd := 7) (k := k) (i := i) C rfl (by simp [GN, dmb, hk, hI] : (GN h0 X).2.2.2.1 7 k i) (by subst ha; simp only [GN, off] <;> omega : (GN h0 X).1 7 k i = (a + 2)) (DH.arr rfl (by subst ha; simp only [GN, off] <;> omega : (GN h0 X).1 7 k i = (a + 2)) (fun j _ => rfl)) ?_
  refine c_rws (rws' := [(a, (0, 4, 18, _))]) rfl ?_
  refine c_put (pc := 17) (p := 0) (j := 1) C rfl hini rfl (by decide) rfl wIn_6 mw_112 tyX6 tyX6_ok nmX6 (by decide +kernel : parseFieldDescriptor "[I" = some (.array .int)) rfl rfl rfl (by omega) dX6_init_17 ?_
  refine c_rws (rws' := [(a, (0, 4, 18, _))]) rfl ?_
  refine c_aload_n (pc := 20) C 0 rfl rfl dX6_init_20 ?_
  refine c_iconst (pc := 21) C dX6_init_21 kc_5 ?_
  refine c_newa (pc := 22) (N := 5) (ti := 0) (atype := .int) (ty := .int) C rfl aw_int rfl (fun _ _ h => h) (by decide) (by decide) (by decide) (by rw [hr]; exact Nat.le_of_ble_eq_true rfl) (by rw [hr]; exact Nat.le_of_ble_eq_true rfl) dX6_init_22 ?_
  refine c_hi (hi' := a + 4) rfl ?_
  refine c_done (p := 0) (kd := 8) (k := k) (i := i) C rfl (by simp [GN, dmb, hk, hI] : (GN h0 X).2.2.2.1 8 k i) (by subst ha; simp only [GN, off] <;> omega : (GN h0 X).1 8 k i = (a + 3)) (DH.arr rfl (by subst ha; simp only [GN, off] <;> omega : (GN h0 X).1 8 k i = (a + 3)) (fun j _ => rfl)) ?_
  refine c_rws (rws' := [(a, (0, 4, 18, _))]) rfl ?_
  refine c_put (pc := 24) (p := 0) (j := 2) C rfl hini rfl (by decide) rfl wIn_6 mw_114 tyX6 tyX6_ok nmX6 (by decide +kernel : parseFieldDescriptor "[I" = some (.array .int)) rfl rfl rfl (by omega) dX6_init_24 ?_
  refine c_rws (rws' := [(a, (0, 4, 18, _))]) rfl ?_
  refine c_done (p := 0) (kd := 5) (k := k) (i := i) C rfl (by simp [GN, dmb, hk, hI] : (GN h0 X).2.2.2.1 5 k i) (by subst ha; simp only [GN, off] <;> omega : (GN h0 X).1 5 k i = a) (DH.obj rfl (by subst ha; simp only [GN, off] <;> omega : (GN h0 X).1 5 k i = a) (fun j hj => match j, hj with | 0, _ => congrArg Value.ref (by subst ha; simp only [GN, off] <;> omega : (a + 1) = (GN h0 X).1 6 k i) | 1, _ => congrArg Value.ref (by subst ha; simp only [GN, off] <;> omega : (a + 2) = (GN h0 X).1 7 k i) | 2, _ => congrArg Value.ref (by subst ha; simp only [GN, off] <;> omega : (a + 3) = (GN h0 X).1 8 k i) | 3, _ => rfl | 4, _ => rfl | 5, _ => rfl | 6, _ => rfl | 7, _ => rfl | 8, _ => rfl | 9, _ => rfl | 10, _ => rfl | 11, _ => rfl | 12, _ => rfl | 13, _ => rfl | 14, _ => rfl | 15, _ => rfl | 16, _ => rfl | 17, _ => rfl | n + 18, h => absurd h (by omega))) ?_
  refine c_rws (rws' := []) rfl ?_
  exact c_ret (pc := 27) C rfl rfl rfl (Nat.le_of_ble_eq_true rfl) (Nat.le_of_ble_eq_true rfl) dX6_init_27
theorem okI_X1 {l : Launch} {h0 a : Nat} {X : GX} {k : Nat} (hk : k < 4) (ha : a = h0 + off 9 k 0) : OkI l (GN h0 X) yX1_init cX1_init 1 1 12 3 72 a (a + 4) 0 3 (fun j => defaultValue (tyX1 j)) M0 M0 := by
  refine OkI.of "PermitPark$Locks" rfl rfl (by decide) (by decide) (fun K hl hr C hini hAO hsz => ?_)
  have hlA : ∀ q, a ≤ q → (GN h0 X).2.2.2.2.1 q := fun q hq => Nat.le_trans (by rw [ha]; exact Nat.le_add_right _ _) hq
  refine c_aload_n (pc := 0) C 0 rfl rfl dX1_init_0 ?_
  refine c_obj (pc := 1) C mw_69 mw_22 mw_23 (by rw [hr]; exact Nat.le_of_ble_eq_true rfl) (by rw [hr]; exact Nat.le_of_ble_eq_true rfl) dX1_init_1 ?_
  refine c_aload_n (pc := 4) C 0 rfl rfl dX1_init_4 ?_
  refine c_bipush (pc := 5) C dX1_init_5 kb_6 ?_
  refine c_newa (pc := 7) (N := 6) (ti := 0) (atype := .int) (ty := .int) C rfl aw_int rfl (fun _ _ h => h) (by decide) (by decide) (by decide) (by rw [hr]; exact Nat.le_of_ble_eq_true rfl) (by rw [hr]; exact Nat.le_of_ble_eq_true rfl) dX1_init_7 ?_
  refine c_hi (hi' := a + 2) rfl ?_
  refine c_done (p := 0) (kd := 10) (k := k) (i := 0) C rfl (by simp [GN, dmb, hk] : (GN h0 X).2.2.2.1 10 k 0) (by subst ha; simp only [GN, off] <;> omega : (GN h0 X).1 10 k 0 = (a + 1)) (DH.arr rfl (by subst ha; simp only [GN, off] <;> omega : (GN h0 X).1 10 k 0 = (a + 1)) (fun j _ => rfl)) ?_
  refine c_rws (rws' := [(a, (0, 0, 3, _))]) rfl ?_
  refine c_put (pc := 9) (p := 0) (j := 0) C rfl hini rfl (by decide) rfl wIn_1 mw_70 tyX1 tyX1_ok nmX1 (by decide +kernel : parseFieldDescriptor "[I" = some (.array .int)) rfl rfl rfl (by omega) dX1_init_9 ?_
  refine c_rws (rws' := [(a, (0, 0, 3, _))]) rfl ?_
  refine c_aload_n (pc := 12) C 0 rfl rfl dX1_init_12 ?_
  refine c_bipush (pc := 13) C dX1_init_13 kb_60 ?_
  refine c_newa (pc := 15) (N := 60) (ti := 0) (atype := .int) (ty := .int) C rfl aw_int rfl (fun _ _ h => h) (by decide) (by decide) (by decide) (by rw [hr]; exact Nat.le_of_ble_eq_true rfl) (by rw [hr]; exact Nat.le_of_ble_eq_true rfl) dX1_init_15 ?_
  refine c_hi (hi' := a + 3) rfl ?_
  refine c_done (p := 0) (kd := 11) (k := k) (i := 0) C rfl (by simp [GN, dmb, hk] : (GN h0 X).2.2.2.1 11 k 0) (by subst ha; simp only [GN, off] <;> omega : (GN h0 X).1 11 k 0 = (a + 2)) (DH.arr rfl (by subst ha; simp only [GN, off] <;> omega : (GN h0 X).1 11 k 0 = (a + 2)) (fun j _ => rfl)) ?_
  refine c_rws (rws' := [(a, (0, 0, 3, _))]) rfl ?_
  refine c_put (pc := 17) (p := 0) (j := 1) C rfl hini rfl (by decide) rfl wIn_1 mw_73 tyX1 tyX1_ok nmX1 (by decide +kernel : parseFieldDescriptor "[I" = some (.array .int)) rfl rfl rfl (by omega) dX1_init_17 ?_
  refine c_rws (rws' := [(a, (0, 0, 3, _))]) rfl ?_
  refine c_aload_n (pc := 20) C 0 rfl rfl dX1_init_20 ?_
  refine c_bipush (pc := 21) C dX1_init_21 kb_6 ?_
  refine c_newa (pc := 23) (N := 6) (ti := 0) (atype := .int) (ty := .int) C rfl aw_int rfl (fun _ _ h => h) (by decide) (by decide) (by decide) (by rw [hr]; exact Nat.le_of_ble_eq_true rfl) (by rw [hr]; exact Nat.le_of_ble_eq_true rfl) dX1_init_23 ?_
  refine c_hi (hi' := a + 4) rfl ?_
  refine c_done (p := 0) (kd := 12) (k := k) (i := 0) C rfl (by simp [GN, dmb, hk] : (GN h0 X).2.2.2.1 12 k 0) (by subst ha; simp only [GN, off] <;> omega : (GN h0 X).1 12 k 0 = (a + 3)) (DH.arr rfl (by subst ha; simp only [GN, off] <;> omega : (GN h0 X).1 12 k 0 = (a + 3)) (fun j _ => rfl)) ?_
  refine c_rws (rws' := [(a, (0, 0, 3, _))]) rfl ?_
  refine c_put (pc := 25) (p := 0) (j := 2) C rfl hini rfl (by decide) rfl wIn_1 mw_74 tyX1 tyX1_ok nmX1 (by decide +kernel : parseFieldDescriptor "[I" = some (.array .int)) rfl rfl rfl (by omega) dX1_init_25 ?_
  refine c_rws (rws' := [(a, (0, 0, 3, _))]) rfl ?_
  refine c_done (p := 0) (kd := 9) (k := k) (i := 0) C rfl (by simp [GN, dmb, hk] : (GN h0 X).2.2.2.1 9 k 0) (by subst ha; simp only [GN, off] <;> omega : (GN h0 X).1 9 k 0 = a) (DH.obj rfl (by subst ha; simp only [GN, off] <;> omega : (GN h0 X).1 9 k 0 = a) (fun j hj => match j, hj with | 0, _ => congrArg Value.ref (by subst ha; simp only [GN, off] <;> omega : (a + 1) = (GN h0 X).1 10 k 0) | 1, _ => congrArg Value.ref (by subst ha; simp only [GN, off] <;> omega : (a + 2) = (GN h0 X).1 11 k 0) | 2, _ => congrArg Value.ref (by subst ha; simp only [GN, off] <;> omega : (a + 3) = (GN h0 X).1 12 k 0) | n + 3, h => absurd h (by omega))) ?_
  refine c_rws (rws' := []) rfl ?_
  exact c_ret (pc := 28) C rfl rfl rfl (Nat.le_of_ble_eq_true rfl) (Nat.le_of_ble_eq_true rfl) dX1_init_28
theorem okI_X2 {l : Launch} {h0 a : Nat} {X : GX} {k : Nat} (hk : k < 4) (ha : a = h0 + off 13 k 0) : OkI l (GN h0 X) yX2_init cX2_init 1 1 12 1 160 a (a + 2) 1 4 (fun j => defaultValue (tyX2 j)) M0 M0 := by
  refine OkI.of "PermitPark$Log" rfl rfl (by decide) (by decide) (fun K hl hr C hini hAO hsz => ?_)
  have hlA : ∀ q, a ≤ q → (GN h0 X).2.2.2.2.1 q := fun q hq => Nat.le_trans (by rw [ha]; exact Nat.le_add_right _ _) hq
  refine c_aload_n (pc := 0) C 0 rfl rfl dX2_init_0 ?_
  refine c_obj (pc := 1) C mw_88 mw_22 mw_23 (by rw [hr]; exact Nat.le_of_ble_eq_true rfl) (by rw [hr]; exact Nat.le_of_ble_eq_true rfl) dX2_init_1 ?_
  refine c_aload_n (pc := 4) C 0 rfl rfl dX2_init_4 ?_
  refine c_sipush (pc := 5) C dX2_init_5 ks_160 ?_
  refine c_newa (pc := 8) (N := 160) (ti := 0) (atype := .int) (ty := .int) C rfl aw_int rfl (fun _ _ h => h) (by decide) (by decide) (by decide) (by rw [hr]; exact Nat.le_of_ble_eq_true rfl) (by rw [hr]; exact Nat.le_of_ble_eq_true rfl) dX2_init_8 ?_
  refine c_hi (hi' := a + 2) rfl ?_
  refine c_done (p := 0) (kd := 14) (k := k) (i := 0) C rfl (by simp [GN, dmb, hk] : (GN h0 X).2.2.2.1 14 k 0) (by subst ha; simp only [GN, off] <;> omega : (GN h0 X).1 14 k 0 = (a + 1)) (DH.arr rfl (by subst ha; simp only [GN, off] <;> omega : (GN h0 X).1 14 k 0 = (a + 1)) (fun j _ => rfl)) ?_
  refine c_rws (rws' := [(a, (0, 1, 4, _))]) rfl ?_
  refine c_put (pc := 10) (p := 0) (j := 0) C rfl hini rfl (by decide) rfl wIn_2 mw_89 tyX2 tyX2_ok nmX2 (by decide +kernel : parseFieldDescriptor "[I" = some (.array .int)) rfl rfl rfl (by omega) dX2_init_10 ?_
  refine c_rws (rws' := [(a, (0, 1, 4, _))]) rfl ?_
  refine c_done (p := 0) (kd := 13) (k := k) (i := 0) C rfl (by simp [GN, dmb, hk] : (GN h0 X).2.2.2.1 13 k 0) (by subst ha; simp only [GN, off] <;> omega : (GN h0 X).1 13 k 0 = a) (DH.obj rfl (by subst ha; simp only [GN, off] <;> omega : (GN h0 X).1 13 k 0 = a) (fun j hj => match j, hj with | 0, _ => congrArg Value.ref (by subst ha; simp only [GN, off] <;> omega : (a + 1) = (GN h0 X).1 14 k 0) | 1, _ => rfl | 2, _ => rfl | 3, _ => rfl | n + 4, h => absurd h (by omega))) ?_
  refine c_rws (rws' := []) rfl ?_
  exact c_ret (pc := 13) C rfl rfl rfl (Nat.le_of_ble_eq_true rfl) (Nat.le_of_ble_eq_true rfl) dX2_init_13
theorem okI_X3 {l : Launch} {h0 a : Nat} {X : GX} {k : Nat} (hk : k < 4) (ha : a = h0 + off 3 k 0) (hclr : pX3_clear k M0 = some ((), Mc k)) : OkI l (GN h0 X) yX3_init cX3_init 2 2 41 49 811 a (a + 50) 2 16 (fun j => defaultValue (tyX3 j)) M0 (Mc k) := by
  refine OkI.of "PermitPark$Machine" rfl rfl (by decide) (by decide) (fun K hl hr C hini hAO hsz => ?_)
  have hlA : ∀ q, a ≤ q → (GN h0 X).2.2.2.2.1 q := fun q hq => Nat.le_trans (by rw [ha]; exact Nat.le_add_right _ _) hq
  refine c_aload_n (pc := 0) C 0 rfl rfl dX3_init_0 ?_
  refine c_obj (pc := 1) C mw_61 mw_22 mw_23 (by rw [hr]; exact Nat.le_of_ble_eq_true rfl) (by rw [hr]; exact Nat.le_of_ble_eq_true rfl) dX3_init_1 ?_
  refine c_aload_n (pc := 4) C 0 rfl rfl dX3_init_4 ?_
  refine c_bipush (pc := 5) C dX3_init_5 kb_10 ?_
  refine c_anew (pc := 7) (N := 10) (ti := 3) C mw_62 hAO.1 rfl (by decide) (by decide) (by decide) (by rw [hr]; exact Nat.le_of_ble_eq_true rfl) (by rw [hr]; exact Nat.le_of_ble_eq_true rfl) dX3_init_7 ?_
  refine c_hi (hi' := a + 2) rfl ?_
  refine c_put (pc := 10) (p := 1) (j := 0) C rfl hini rfl (by decide) rfl wIn_3 mw_199 tyX3 tyX3_ok nmX3 (by decide +kernel : parseFieldDescriptor "[LPermitPark$Strand;" = some (.array (.object "PermitPark$Strand"))) rfl rfl rfl (by omega) dX3_init_10 ?_
  refine c_rws (rws' := [((a + 1), (1, 3, 10, _)), (a, (0, 2, 16, _))]) rfl ?_
  refine c_aload_n (pc := 13) C 0 rfl rfl dX3_init_13 ?_
  refine c_new (pc := 14) (ci := 0) C wIn_1 tyX1 tyX1_ok mw_64 mw_65 mw_4 rfl (by rw [hr]; exact Nat.le_of_ble_eq_true rfl) (by rw [hr]; exact Nat.le_of_ble_eq_true rfl) dX3_init_14 ?_
  refine c_hi (hi' := a + 3) rfl ?_
  refine c_dup (pc := 17) C dX3_init_17 rfl ?_
  refine c_initN (pc := 18) (host := "PermitPark") C hAO (okI_X1 (X := X) (k := k) hk (by subst ha; simp only [off] <;> omega)) hlA (by decide +kernel) rfl mw_67 mw_4 mw_68 ⟨by decide, by decide, by decide +kernel⟩ (Rx.ofI hr rfl rfl rfl rfl) (Nat.le_of_ble_eq_true rfl) rfl (by omega) (by omega) (fun _ _ _ _ _ _ => ⟨fun _ => rfl, fun _ _ => rfl, fun _ _ => rfl, fun _ _ => rfl⟩) dX3_init_18 ?_
  refine c_hi (hi' := a + 6) rfl ?_
  refine c_put (pc := 21) (p := 1) (j := 1) C rfl hini rfl (by decide) rfl wIn_3 mw_201 tyX3 tyX3_ok nmX3 (by decide +kernel : parseFieldDescriptor "LPermitPark$Locks;" = some (.object "PermitPark$Locks")) rfl rfl rfl (by omega) dX3_init_21 ?_
  refine c_rws (rws' := [((a + 1), (1, 3, 10, _)), (a, (0, 2, 16, _))]) rfl ?_
  refine c_aload_n (pc := 24) C 0 rfl rfl dX3_init_24 ?_
  refine c_new (pc := 25) (ci := 1) C wIn_2 tyX2 tyX2_ok mw_83 mw_84 mw_5 rfl (by rw [hr]; exact Nat.le_of_ble_eq_true rfl) (by rw [hr]; exact Nat.le_of_ble_eq_true rfl) dX3_init_25 ?_
  refine c_hi (hi' := a + 7) rfl ?_
  refine c_dup (pc := 28) C dX3_init_28 rfl ?_
  refine c_initN (pc := 29) (host := "PermitPark") C hAO (okI_X2 (X := X) (k := k) hk (by subst ha; simp only [off] <;> omega)) hlA (by decide +kernel) rfl mw_86 mw_5 mw_87 ⟨by decide, by decide, by decide +kernel⟩ (Rx.ofI hr rfl rfl rfl rfl) (Nat.le_of_ble_eq_true rfl) rfl (by omega) (by omega) (fun _ _ _ _ _ _ => ⟨fun _ => rfl, fun _ _ => rfl, fun _ _ => rfl, fun _ _ => rfl⟩) dX3_init_29 ?_
  refine c_hi (hi' := a + 8) rfl ?_
  refine c_put (pc := 32) (p := 1) (j := 2) C rfl hini rfl (by decide) rfl wIn_3 mw_203 tyX3 tyX3_ok nmX3 (by decide +kernel : parseFieldDescriptor "LPermitPark$Log;" = some (.object "PermitPark$Log")) rfl rfl rfl (by omega) dX3_init_32 ?_
  refine c_rws (rws' := [((a + 1), (1, 3, 10, _)), (a, (0, 2, 16, _))]) rfl ?_
  refine c_aload_n (pc := 35) C 0 rfl rfl dX3_init_35 ?_
  refine c_iconst (pc := 36) C dX3_init_36 kc_2 ?_
  refine c_newa (pc := 37) (N := 2) (ti := 0) (atype := .int) (ty := .int) C rfl aw_int rfl (fun _ _ h => h) (by decide) (by decide) (by decide) (by rw [hr]; exact Nat.le_of_ble_eq_true rfl) (by rw [hr]; exact Nat.le_of_ble_eq_true rfl) dX3_init_37 ?_
  refine c_hi (hi' := a + 9) rfl ?_
  refine c_done (p := 0) (kd := 15) (k := k) (i := 0) C rfl (by simp [GN, dmb, hk] : (GN h0 X).2.2.2.1 15 k 0) (by subst ha; simp only [GN, off] <;> omega : (GN h0 X).1 15 k 0 = (a + 8)) (DH.arr rfl (by subst ha; simp only [GN, off] <;> omega : (GN h0 X).1 15 k 0 = (a + 8)) (fun j _ => rfl)) ?_
  refine c_rws (rws' := [((a + 1), (1, 3, 10, _)), (a, (0, 2, 16, _))]) rfl ?_
  refine c_put (pc := 39) (p := 1) (j := 3) C rfl hini rfl (by decide) rfl wIn_3 mw_205 tyX3 tyX3_ok nmX3 (by decide +kernel : parseFieldDescriptor "[I" = some (.array .int)) rfl rfl rfl (by omega) dX3_init_39 ?_
  refine c_rws (rws' := [((a + 1), (1, 3, 10, _)), (a, (0, 2, 16, _))]) rfl ?_
  refine c_aload_n (pc := 42) C 0 rfl rfl dX3_init_42 ?_
  refine c_bipush (pc := 43) C dX3_init_43 kb_10 ?_
  refine c_newa (pc := 45) (N := 10) (ti := 0) (atype := .int) (ty := .int) C rfl aw_int rfl (fun _ _ h => h) (by decide) (by decide) (by decide) (by rw [hr]; exact Nat.le_of_ble_eq_true rfl) (by rw [hr]; exact Nat.le_of_ble_eq_true rfl) dX3_init_45 ?_
  refine c_hi (hi' := a + 10) rfl ?_
  refine c_done (p := 0) (kd := 16) (k := k) (i := 0) C rfl (by simp [GN, dmb, hk] : (GN h0 X).2.2.2.1 16 k 0) (by subst ha; simp only [GN, off] <;> omega : (GN h0 X).1 16 k 0 = (a + 9)) (DH.arr rfl (by subst ha; simp only [GN, off] <;> omega : (GN h0 X).1 16 k 0 = (a + 9)) (fun j _ => rfl)) ?_
  refine c_rws (rws' := [((a + 1), (1, 3, 10, _)), (a, (0, 2, 16, _))]) rfl ?_
  refine c_put (pc := 47) (p := 1) (j := 14) C rfl hini rfl (by decide) rfl wIn_3 mw_220 tyX3 tyX3_ok nmX3 (by decide +kernel : parseFieldDescriptor "[I" = some (.array .int)) rfl rfl rfl (by omega) dX3_init_47 ?_
  refine c_rws (rws' := [((a + 1), (1, 3, 10, _)), (a, (0, 2, 16, _))]) rfl ?_
  refine c_iconst (pc := 50) C dX3_init_50 kc_0 ?_
  refine c_istore_n (pc := 51) C [(1, .int (0 : Int32)), (0, .ref a)] dX3_init_51 rfl (by decide) rfl ?_
  refine c_iload_n (pc := 52) C 0 rfl rfl dX3_init_52 ?_
  refine c_bipush (pc := 53) C dX3_init_53 kb_10 ?_
  refine c_geF (pc := 55) C 77 dX3_init_55 rfl (by decide) ?_
  refine c_aload_n (pc := 58) C 1 rfl rfl dX3_init_58 ?_
  refine c_get (pc := 59) (p := 1) (j := 0) (v := .ref (a + 1)) C rfl (by decide) rfl wIn_3 mw_199 rfl rfl dX3_init_59 ?_
  refine c_iload_n (pc := 62) C 0 rfl rfl dX3_init_62 ?_
  refine c_new (pc := 63) (ci := 4) C wIn_6 tyX6 tyX6_ok mw_62 mw_105 mw_6 rfl (by rw [hr]; exact Nat.le_of_ble_eq_true rfl) (by rw [hr]; exact Nat.le_of_ble_eq_true rfl) dX3_init_63 ?_
  refine c_hi (hi' := a + 11) rfl ?_
  refine c_dup (pc := 66) C dX3_init_66 rfl ?_
  refine c_initN (pc := 67) (host := "PermitPark") C hAO (okI_X6 (X := X) (k := k) (i := 0) hk (by decide) (by subst ha; simp only [off] <;> omega)) hlA (by decide +kernel) rfl mw_107 mw_6 mw_108 ⟨by decide, by decide, by decide +kernel⟩ (Rx.ofI hr rfl rfl rfl rfl) (Nat.le_of_ble_eq_true rfl) rfl (by omega) (by omega) (fun _ _ _ _ _ _ => ⟨fun _ => rfl, fun _ _ => rfl, fun _ _ => rfl, fun _ _ => rfl⟩) dX3_init_67 ?_
  refine c_hi (hi' := a + 14) rfl ?_
  refine c_aastV (pc := 70) (p := 0) (kd := 5) (k := k) (i := 0) (ci := 4) C rfl rfl rfl rfl (by simp [GN, dmb, hk] : (GN h0 X).2.2.2.1 5 k 0) (by subst ha; simp only [GN, off] <;> omega : (GN h0 X).1 5 k 0 = (a + 10)) (by omega) (by omega) (by simp only [List.mem_cons, List.not_mem_nil, or_false]; rintro r (rfl | rfl) <;> (dsimp only; omega)) (by decide) (by omega) dX3_init_70 ?_
  refine c_rws (rws' := [((a + 1), (1, 3, 10, _)), (a, (0, 2, 16, _))]) rfl ?_
  refine c_iinc (pc := 71) C [(1, .int (1 : Int32)), (0, .ref a)] dX3_init_71 (p := 0) rfl (by decide) (by decide) rfl ?_
  refine c_goto (pc := 74) C dX3_init_74 (tgt := 52) rfl ?_
  refine c_iload_n (pc := 52) C 0 rfl rfl dX3_init_52 ?_
  refine c_bipush (pc := 53) C dX3_init_53 kb_10 ?_
  refine c_geF (pc := 55) C 77 dX3_init_55 rfl (by decide) ?_
  refine c_aload_n (pc := 58) C 1 rfl rfl dX3_init_58 ?_
  refine c_get (pc := 59) (p := 1) (j := 0) (v := .ref (a + 1)) C rfl (by decide) rfl wIn_3 mw_199 rfl rfl dX3_init_59 ?_
  refine c_iload_n (pc := 62) C 0 rfl rfl dX3_init_62 ?_
  refine c_new (pc := 63) (ci := 4) C wIn_6 tyX6 tyX6_ok mw_62 mw_105 mw_6 rfl (by rw [hr]; exact Nat.le_of_ble_eq_true rfl) (by rw [hr]; exact Nat.le_of_ble_eq_true rfl) dX3_init_63 ?_
  refine c_hi (hi' := a + 15) rfl ?_
  refine c_dup (pc := 66) C dX3_init_66 rfl ?_
  refine c_initN (pc := 67) (host := "PermitPark") C hAO (okI_X6 (X := X) (k := k) (i := 1) hk (by decide) (by subst ha; simp only [off] <;> omega)) hlA (by decide +kernel) rfl mw_107 mw_6 mw_108 ⟨by decide, by decide, by decide +kernel⟩ (Rx.ofI hr rfl rfl rfl rfl) (Nat.le_of_ble_eq_true rfl) rfl (by omega) (by omega) (fun _ _ _ _ _ _ => ⟨fun _ => rfl, fun _ _ => rfl, fun _ _ => rfl, fun _ _ => rfl⟩) dX3_init_67 ?_
  refine c_hi (hi' := a + 18) rfl ?_
  refine c_aastV (pc := 70) (p := 0) (kd := 5) (k := k) (i := 1) (ci := 4) C rfl rfl rfl rfl (by simp [GN, dmb, hk] : (GN h0 X).2.2.2.1 5 k 1) (by subst ha; simp only [GN, off] <;> omega : (GN h0 X).1 5 k 1 = (a + 14)) (by omega) (by omega) (by simp only [List.mem_cons, List.not_mem_nil, or_false]; rintro r (rfl | rfl) <;> (dsimp only; omega)) (by decide) (by omega) dX3_init_70 ?_
  refine c_rws (rws' := [((a + 1), (1, 3, 10, _)), (a, (0, 2, 16, _))]) rfl ?_
  refine c_iinc (pc := 71) C [(1, .int (2 : Int32)), (0, .ref a)] dX3_init_71 (p := 0) rfl (by decide) (by decide) rfl ?_
  refine c_goto (pc := 74) C dX3_init_74 (tgt := 52) rfl ?_
  refine c_iload_n (pc := 52) C 0 rfl rfl dX3_init_52 ?_
  refine c_bipush (pc := 53) C dX3_init_53 kb_10 ?_
  refine c_geF (pc := 55) C 77 dX3_init_55 rfl (by decide) ?_
  refine c_aload_n (pc := 58) C 1 rfl rfl dX3_init_58 ?_
  refine c_get (pc := 59) (p := 1) (j := 0) (v := .ref (a + 1)) C rfl (by decide) rfl wIn_3 mw_199 rfl rfl dX3_init_59 ?_
  refine c_iload_n (pc := 62) C 0 rfl rfl dX3_init_62 ?_
  refine c_new (pc := 63) (ci := 4) C wIn_6 tyX6 tyX6_ok mw_62 mw_105 mw_6 rfl (by rw [hr]; exact Nat.le_of_ble_eq_true rfl) (by rw [hr]; exact Nat.le_of_ble_eq_true rfl) dX3_init_63 ?_
  refine c_hi (hi' := a + 19) rfl ?_
  refine c_dup (pc := 66) C dX3_init_66 rfl ?_
  refine c_initN (pc := 67) (host := "PermitPark") C hAO (okI_X6 (X := X) (k := k) (i := 2) hk (by decide) (by subst ha; simp only [off] <;> omega)) hlA (by decide +kernel) rfl mw_107 mw_6 mw_108 ⟨by decide, by decide, by decide +kernel⟩ (Rx.ofI hr rfl rfl rfl rfl) (Nat.le_of_ble_eq_true rfl) rfl (by omega) (by omega) (fun _ _ _ _ _ _ => ⟨fun _ => rfl, fun _ _ => rfl, fun _ _ => rfl, fun _ _ => rfl⟩) dX3_init_67 ?_
  refine c_hi (hi' := a + 22) rfl ?_
  refine c_aastV (pc := 70) (p := 0) (kd := 5) (k := k) (i := 2) (ci := 4) C rfl rfl rfl rfl (by simp [GN, dmb, hk] : (GN h0 X).2.2.2.1 5 k 2) (by subst ha; simp only [GN, off] <;> omega : (GN h0 X).1 5 k 2 = (a + 18)) (by omega) (by omega) (by simp only [List.mem_cons, List.not_mem_nil, or_false]; rintro r (rfl | rfl) <;> (dsimp only; omega)) (by decide) (by omega) dX3_init_70 ?_
  refine c_rws (rws' := [((a + 1), (1, 3, 10, _)), (a, (0, 2, 16, _))]) rfl ?_
  refine c_iinc (pc := 71) C [(1, .int (3 : Int32)), (0, .ref a)] dX3_init_71 (p := 0) rfl (by decide) (by decide) rfl ?_
  refine c_goto (pc := 74) C dX3_init_74 (tgt := 52) rfl ?_
  refine c_iload_n (pc := 52) C 0 rfl rfl dX3_init_52 ?_
  refine c_bipush (pc := 53) C dX3_init_53 kb_10 ?_
  refine c_geF (pc := 55) C 77 dX3_init_55 rfl (by decide) ?_
  refine c_aload_n (pc := 58) C 1 rfl rfl dX3_init_58 ?_
  refine c_get (pc := 59) (p := 1) (j := 0) (v := .ref (a + 1)) C rfl (by decide) rfl wIn_3 mw_199 rfl rfl dX3_init_59 ?_
  refine c_iload_n (pc := 62) C 0 rfl rfl dX3_init_62 ?_
  refine c_new (pc := 63) (ci := 4) C wIn_6 tyX6 tyX6_ok mw_62 mw_105 mw_6 rfl (by rw [hr]; exact Nat.le_of_ble_eq_true rfl) (by rw [hr]; exact Nat.le_of_ble_eq_true rfl) dX3_init_63 ?_
  refine c_hi (hi' := a + 23) rfl ?_
  refine c_dup (pc := 66) C dX3_init_66 rfl ?_
  refine c_initN (pc := 67) (host := "PermitPark") C hAO (okI_X6 (X := X) (k := k) (i := 3) hk (by decide) (by subst ha; simp only [off] <;> omega)) hlA (by decide +kernel) rfl mw_107 mw_6 mw_108 ⟨by decide, by decide, by decide +kernel⟩ (Rx.ofI hr rfl rfl rfl rfl) (Nat.le_of_ble_eq_true rfl) rfl (by omega) (by omega) (fun _ _ _ _ _ _ => ⟨fun _ => rfl, fun _ _ => rfl, fun _ _ => rfl, fun _ _ => rfl⟩) dX3_init_67 ?_
  refine c_hi (hi' := a + 26) rfl ?_
  refine c_aastV (pc := 70) (p := 0) (kd := 5) (k := k) (i := 3) (ci := 4) C rfl rfl rfl rfl (by simp [GN, dmb, hk] : (GN h0 X).2.2.2.1 5 k 3) (by subst ha; simp only [GN, off] <;> omega : (GN h0 X).1 5 k 3 = (a + 22)) (by omega) (by omega) (by simp only [List.mem_cons, List.not_mem_nil, or_false]; rintro r (rfl | rfl) <;> (dsimp only; omega)) (by decide) (by omega) dX3_init_70 ?_
  refine c_rws (rws' := [((a + 1), (1, 3, 10, _)), (a, (0, 2, 16, _))]) rfl ?_
  refine c_iinc (pc := 71) C [(1, .int (4 : Int32)), (0, .ref a)] dX3_init_71 (p := 0) rfl (by decide) (by decide) rfl ?_
  refine c_goto (pc := 74) C dX3_init_74 (tgt := 52) rfl ?_
  refine c_iload_n (pc := 52) C 0 rfl rfl dX3_init_52 ?_
  refine c_bipush (pc := 53) C dX3_init_53 kb_10 ?_
  refine c_geF (pc := 55) C 77 dX3_init_55 rfl (by decide) ?_
  refine c_aload_n (pc := 58) C 1 rfl rfl dX3_init_58 ?_
  refine c_get (pc := 59) (p := 1) (j := 0) (v := .ref (a + 1)) C rfl (by decide) rfl wIn_3 mw_199 rfl rfl dX3_init_59 ?_
  refine c_iload_n (pc := 62) C 0 rfl rfl dX3_init_62 ?_
  refine c_new (pc := 63) (ci := 4) C wIn_6 tyX6 tyX6_ok mw_62 mw_105 mw_6 rfl (by rw [hr]; exact Nat.le_of_ble_eq_true rfl) (by rw [hr]; exact Nat.le_of_ble_eq_true rfl) dX3_init_63 ?_
  refine c_hi (hi' := a + 27) rfl ?_
  refine c_dup (pc := 66) C dX3_init_66 rfl ?_
  refine c_initN (pc := 67) (host := "PermitPark") C hAO (okI_X6 (X := X) (k := k) (i := 4) hk (by decide) (by subst ha; simp only [off] <;> omega)) hlA (by decide +kernel) rfl mw_107 mw_6 mw_108 ⟨by decide, by decide, by decide +kernel⟩ (Rx.ofI hr rfl rfl rfl rfl) (Nat.le_of_ble_eq_true rfl) rfl (by omega) (by omega) (fun _ _ _ _ _ _ => ⟨fun _ => rfl, fun _ _ => rfl, fun _ _ => rfl, fun _ _ => rfl⟩) dX3_init_67 ?_
  refine c_hi (hi' := a + 30) rfl ?_
  refine c_aastV (pc := 70) (p := 0) (kd := 5) (k := k) (i := 4) (ci := 4) C rfl rfl rfl rfl (by simp [GN, dmb, hk] : (GN h0 X).2.2.2.1 5 k 4) (by subst ha; simp only [GN, off] <;> omega : (GN h0 X).1 5 k 4 = (a + 26)) (by omega) (by omega) (by simp only [List.mem_cons, List.not_mem_nil, or_false]; rintro r (rfl | rfl) <;> (dsimp only; omega)) (by decide) (by omega) dX3_init_70 ?_
  refine c_rws (rws' := [((a + 1), (1, 3, 10, _)), (a, (0, 2, 16, _))]) rfl ?_
  refine c_iinc (pc := 71) C [(1, .int (5 : Int32)), (0, .ref a)] dX3_init_71 (p := 0) rfl (by decide) (by decide) rfl ?_
  refine c_goto (pc := 74) C dX3_init_74 (tgt := 52) rfl ?_
  refine c_iload_n (pc := 52) C 0 rfl rfl dX3_init_52 ?_
  refine c_bipush (pc := 53) C dX3_init_53 kb_10 ?_
  refine c_geF (pc := 55) C 77 dX3_init_55 rfl (by decide) ?_
  refine c_aload_n (pc := 58) C 1 rfl rfl dX3_init_58 ?_
  refine c_get (pc := 59) (p := 1) (j := 0) (v := .ref (a + 1)) C rfl (by decide) rfl wIn_3 mw_199 rfl rfl dX3_init_59 ?_
  refine c_iload_n (pc := 62) C 0 rfl rfl dX3_init_62 ?_
  refine c_new (pc := 63) (ci := 4) C wIn_6 tyX6 tyX6_ok mw_62 mw_105 mw_6 rfl (by rw [hr]; exact Nat.le_of_ble_eq_true rfl) (by rw [hr]; exact Nat.le_of_ble_eq_true rfl) dX3_init_63 ?_
  refine c_hi (hi' := a + 31) rfl ?_
  refine c_dup (pc := 66) C dX3_init_66 rfl ?_
  refine c_initN (pc := 67) (host := "PermitPark") C hAO (okI_X6 (X := X) (k := k) (i := 5) hk (by decide) (by subst ha; simp only [off] <;> omega)) hlA (by decide +kernel) rfl mw_107 mw_6 mw_108 ⟨by decide, by decide, by decide +kernel⟩ (Rx.ofI hr rfl rfl rfl rfl) (Nat.le_of_ble_eq_true rfl) rfl (by omega) (by omega) (fun _ _ _ _ _ _ => ⟨fun _ => rfl, fun _ _ => rfl, fun _ _ => rfl, fun _ _ => rfl⟩) dX3_init_67 ?_
  refine c_hi (hi' := a + 34) rfl ?_
  refine c_aastV (pc := 70) (p := 0) (kd := 5) (k := k) (i := 5) (ci := 4) C rfl rfl rfl rfl (by simp [GN, dmb, hk] : (GN h0 X).2.2.2.1 5 k 5) (by subst ha; simp only [GN, off] <;> omega : (GN h0 X).1 5 k 5 = (a + 30)) (by omega) (by omega) (by simp only [List.mem_cons, List.not_mem_nil, or_false]; rintro r (rfl | rfl) <;> (dsimp only; omega)) (by decide) (by omega) dX3_init_70 ?_
  refine c_rws (rws' := [((a + 1), (1, 3, 10, _)), (a, (0, 2, 16, _))]) rfl ?_
  refine c_iinc (pc := 71) C [(1, .int (6 : Int32)), (0, .ref a)] dX3_init_71 (p := 0) rfl (by decide) (by decide) rfl ?_
  refine c_goto (pc := 74) C dX3_init_74 (tgt := 52) rfl ?_
  refine c_iload_n (pc := 52) C 0 rfl rfl dX3_init_52 ?_
  refine c_bipush (pc := 53) C dX3_init_53 kb_10 ?_
  refine c_geF (pc := 55) C 77 dX3_init_55 rfl (by decide) ?_
  refine c_aload_n (pc := 58) C 1 rfl rfl dX3_init_58 ?_
  refine c_get (pc := 59) (p := 1) (j := 0) (v := .ref (a + 1)) C rfl (by decide) rfl wIn_3 mw_199 rfl rfl dX3_init_59 ?_
  refine c_iload_n (pc := 62) C 0 rfl rfl dX3_init_62 ?_
  refine c_new (pc := 63) (ci := 4) C wIn_6 tyX6 tyX6_ok mw_62 mw_105 mw_6 rfl (by rw [hr]; exact Nat.le_of_ble_eq_true rfl) (by rw [hr]; exact Nat.le_of_ble_eq_true rfl) dX3_init_63 ?_
  refine c_hi (hi' := a + 35) rfl ?_
  refine c_dup (pc := 66) C dX3_init_66 rfl ?_
  refine c_initN (pc := 67) (host := "PermitPark") C hAO (okI_X6 (X := X) (k := k) (i := 6) hk (by decide) (by subst ha; simp only [off] <;> omega)) hlA (by decide +kernel) rfl mw_107 mw_6 mw_108 ⟨by decide, by decide, by decide +kernel⟩ (Rx.ofI hr rfl rfl rfl rfl) (Nat.le_of_ble_eq_true rfl) rfl (by omega) (by omega) (fun _ _ _ _ _ _ => ⟨fun _ => rfl, fun _ _ => rfl, fun _ _ => rfl, fun _ _ => rfl⟩) dX3_init_67 ?_
  refine c_hi (hi' := a + 38) rfl ?_
  refine c_aastV (pc := 70) (p := 0) (kd := 5) (k := k) (i := 6) (ci := 4) C rfl rfl rfl rfl (by simp [GN, dmb, hk] : (GN h0 X).2.2.2.1 5 k 6) (by subst ha; simp only [GN, off] <;> omega : (GN h0 X).1 5 k 6 = (a + 34)) (by omega) (by omega) (by simp only [List.mem_cons, List.not_mem_nil, or_false]; rintro r (rfl | rfl) <;> (dsimp only; omega)) (by decide) (by omega) dX3_init_70 ?_
  refine c_rws (rws' := [((a + 1), (1, 3, 10, _)), (a, (0, 2, 16, _))]) rfl ?_
  refine c_iinc (pc := 71) C [(1, .int (7 : Int32)), (0, .ref a)] dX3_init_71 (p := 0) rfl (by decide) (by decide) rfl ?_
  refine c_goto (pc := 74) C dX3_init_74 (tgt := 52) rfl ?_
  refine c_iload_n (pc := 52) C 0 rfl rfl dX3_init_52 ?_
  refine c_bipush (pc := 53) C dX3_init_53 kb_10 ?_
  refine c_geF (pc := 55) C 77 dX3_init_55 rfl (by decide) ?_
  refine c_aload_n (pc := 58) C 1 rfl rfl dX3_init_58 ?_
  refine c_get (pc := 59) (p := 1) (j := 0) (v := .ref (a + 1)) C rfl (by decide) rfl wIn_3 mw_199 rfl rfl dX3_init_59 ?_
  refine c_iload_n (pc := 62) C 0 rfl rfl dX3_init_62 ?_
  refine c_new (pc := 63) (ci := 4) C wIn_6 tyX6 tyX6_ok mw_62 mw_105 mw_6 rfl (by rw [hr]; exact Nat.le_of_ble_eq_true rfl) (by rw [hr]; exact Nat.le_of_ble_eq_true rfl) dX3_init_63 ?_
  refine c_hi (hi' := a + 39) rfl ?_
  refine c_dup (pc := 66) C dX3_init_66 rfl ?_
  refine c_initN (pc := 67) (host := "PermitPark") C hAO (okI_X6 (X := X) (k := k) (i := 7) hk (by decide) (by subst ha; simp only [off] <;> omega)) hlA (by decide +kernel) rfl mw_107 mw_6 mw_108 ⟨by decide, by decide, by decide +kernel⟩ (Rx.ofI hr rfl rfl rfl rfl) (Nat.le_of_ble_eq_true rfl) rfl (by omega) (by omega) (fun _ _ _ _ _ _ => ⟨fun _ => rfl, fun _ _ => rfl, fun _ _ => rfl, fun _ _ => rfl⟩) dX3_init_67 ?_
  refine c_hi (hi' := a + 42) rfl ?_
  refine c_aastV (pc := 70) (p := 0) (kd := 5) (k := k) (i := 7) (ci := 4) C rfl rfl rfl rfl (by simp [GN, dmb, hk] : (GN h0 X).2.2.2.1 5 k 7) (by subst ha; simp only [GN, off] <;> omega : (GN h0 X).1 5 k 7 = (a + 38)) (by omega) (by omega) (by simp only [List.mem_cons, List.not_mem_nil, or_false]; rintro r (rfl | rfl) <;> (dsimp only; omega)) (by decide) (by omega) dX3_init_70 ?_
  refine c_rws (rws' := [((a + 1), (1, 3, 10, _)), (a, (0, 2, 16, _))]) rfl ?_
  refine c_iinc (pc := 71) C [(1, .int (8 : Int32)), (0, .ref a)] dX3_init_71 (p := 0) rfl (by decide) (by decide) rfl ?_
  refine c_goto (pc := 74) C dX3_init_74 (tgt := 52) rfl ?_
  refine c_iload_n (pc := 52) C 0 rfl rfl dX3_init_52 ?_
  refine c_bipush (pc := 53) C dX3_init_53 kb_10 ?_
  refine c_geF (pc := 55) C 77 dX3_init_55 rfl (by decide) ?_
  refine c_aload_n (pc := 58) C 1 rfl rfl dX3_init_58 ?_
  refine c_get (pc := 59) (p := 1) (j := 0) (v := .ref (a + 1)) C rfl (by decide) rfl wIn_3 mw_199 rfl rfl dX3_init_59 ?_
  refine c_iload_n (pc := 62) C 0 rfl rfl dX3_init_62 ?_
  refine c_new (pc := 63) (ci := 4) C wIn_6 tyX6 tyX6_ok mw_62 mw_105 mw_6 rfl (by rw [hr]; exact Nat.le_of_ble_eq_true rfl) (by rw [hr]; exact Nat.le_of_ble_eq_true rfl) dX3_init_63 ?_
  refine c_hi (hi' := a + 43) rfl ?_
  refine c_dup (pc := 66) C dX3_init_66 rfl ?_
  refine c_initN (pc := 67) (host := "PermitPark") C hAO (okI_X6 (X := X) (k := k) (i := 8) hk (by decide) (by subst ha; simp only [off] <;> omega)) hlA (by decide +kernel) rfl mw_107 mw_6 mw_108 ⟨by decide, by decide, by decide +kernel⟩ (Rx.ofI hr rfl rfl rfl rfl) (Nat.le_of_ble_eq_true rfl) rfl (by omega) (by omega) (fun _ _ _ _ _ _ => ⟨fun _ => rfl, fun _ _ => rfl, fun _ _ => rfl, fun _ _ => rfl⟩) dX3_init_67 ?_
  refine c_hi (hi' := a + 46) rfl ?_
  refine c_aastV (pc := 70) (p := 0) (kd := 5) (k := k) (i := 8) (ci := 4) C rfl rfl rfl rfl (by simp [GN, dmb, hk] : (GN h0 X).2.2.2.1 5 k 8) (by subst ha; simp only [GN, off] <;> omega : (GN h0 X).1 5 k 8 = (a + 42)) (by omega) (by omega) (by simp only [List.mem_cons, List.not_mem_nil, or_false]; rintro r (rfl | rfl) <;> (dsimp only; omega)) (by decide) (by omega) dX3_init_70 ?_
  refine c_rws (rws' := [((a + 1), (1, 3, 10, _)), (a, (0, 2, 16, _))]) rfl ?_
  refine c_iinc (pc := 71) C [(1, .int (9 : Int32)), (0, .ref a)] dX3_init_71 (p := 0) rfl (by decide) (by decide) rfl ?_
  refine c_goto (pc := 74) C dX3_init_74 (tgt := 52) rfl ?_
  refine c_iload_n (pc := 52) C 0 rfl rfl dX3_init_52 ?_
  refine c_bipush (pc := 53) C dX3_init_53 kb_10 ?_
  refine c_geF (pc := 55) C 77 dX3_init_55 rfl (by decide) ?_
  refine c_aload_n (pc := 58) C 1 rfl rfl dX3_init_58 ?_
  refine c_get (pc := 59) (p := 1) (j := 0) (v := .ref (a + 1)) C rfl (by decide) rfl wIn_3 mw_199 rfl rfl dX3_init_59 ?_
  refine c_iload_n (pc := 62) C 0 rfl rfl dX3_init_62 ?_
  refine c_new (pc := 63) (ci := 4) C wIn_6 tyX6 tyX6_ok mw_62 mw_105 mw_6 rfl (by rw [hr]; exact Nat.le_of_ble_eq_true rfl) (by rw [hr]; exact Nat.le_of_ble_eq_true rfl) dX3_init_63 ?_
  refine c_hi (hi' := a + 47) rfl ?_
  refine c_dup (pc := 66) C dX3_init_66 rfl ?_
  refine c_initN (pc := 67) (host := "PermitPark") C hAO (okI_X6 (X := X) (k := k) (i := 9) hk (by decide) (by subst ha; simp only [off] <;> omega)) hlA (by decide +kernel) rfl mw_107 mw_6 mw_108 ⟨by decide, by decide, by decide +kernel⟩ (Rx.ofI hr rfl rfl rfl rfl) (Nat.le_of_ble_eq_true rfl) rfl (by omega) (by omega) (fun _ _ _ _ _ _ => ⟨fun _ => rfl, fun _ _ => rfl, fun _ _ => rfl, fun _ _ => rfl⟩) dX3_init_67 ?_
  refine c_hi (hi' := a + 50) rfl ?_
  refine c_aastV (pc := 70) (p := 0) (kd := 5) (k := k) (i := 9) (ci := 4) C rfl rfl rfl rfl (by simp [GN, dmb, hk] : (GN h0 X).2.2.2.1 5 k 9) (by subst ha; simp only [GN, off] <;> omega : (GN h0 X).1 5 k 9 = (a + 46)) (by omega) (by omega) (by simp only [List.mem_cons, List.not_mem_nil, or_false]; rintro r (rfl | rfl) <;> (dsimp only; omega)) (by decide) (by omega) dX3_init_70 ?_
  refine c_rws (rws' := [((a + 1), (1, 3, 10, _)), (a, (0, 2, 16, _))]) rfl ?_
  refine c_iinc (pc := 71) C [(1, .int (10 : Int32)), (0, .ref a)] dX3_init_71 (p := 0) rfl (by decide) (by decide) rfl ?_
  refine c_goto (pc := 74) C dX3_init_74 (tgt := 52) rfl ?_
  refine c_iload_n (pc := 52) C 0 rfl rfl dX3_init_52 ?_
  refine c_bipush (pc := 53) C dX3_init_53 kb_10 ?_
  refine c_geT (pc := 55) C dX3_init_55 (tgt := 77) rfl (by decide) ?_
  refine c_aload_n (pc := 77) C 1 rfl rfl dX3_init_77 ?_
  refine c_done (p := 0) (kd := 4) (k := k) (i := 0) C rfl (by simp [GN, dmb, hk] : (GN h0 X).2.2.2.1 4 k 0) (by subst ha; simp only [GN, off] <;> omega : (GN h0 X).1 4 k 0 = (a + 1)) (DH.arr rfl (by subst ha; simp only [GN, off] <;> omega : (GN h0 X).1 4 k 0 = (a + 1)) (fun j hj => match j, hj with | 0, _ => congrArg Value.ref (by subst ha; simp only [GN, off] <;> omega : (a + 10) = (GN h0 X).1 5 k 0) | 1, _ => congrArg Value.ref (by subst ha; simp only [GN, off] <;> omega : (a + 14) = (GN h0 X).1 5 k 1) | 2, _ => congrArg Value.ref (by subst ha; simp only [GN, off] <;> omega : (a + 18) = (GN h0 X).1 5 k 2) | 3, _ => congrArg Value.ref (by subst ha; simp only [GN, off] <;> omega : (a + 22) = (GN h0 X).1 5 k 3) | 4, _ => congrArg Value.ref (by subst ha; simp only [GN, off] <;> omega : (a + 26) = (GN h0 X).1 5 k 4) | 5, _ => congrArg Value.ref (by subst ha; simp only [GN, off] <;> omega : (a + 30) = (GN h0 X).1 5 k 5) | 6, _ => congrArg Value.ref (by subst ha; simp only [GN, off] <;> omega : (a + 34) = (GN h0 X).1 5 k 6) | 7, _ => congrArg Value.ref (by subst ha; simp only [GN, off] <;> omega : (a + 38) = (GN h0 X).1 5 k 7) | 8, _ => congrArg Value.ref (by subst ha; simp only [GN, off] <;> omega : (a + 42) = (GN h0 X).1 5 k 8) | 9, _ => congrArg Value.ref (by subst ha; simp only [GN, off] <;> omega : (a + 46) = (GN h0 X).1 5 k 9) | n + 10, h => absurd h (by omega))) ?_
  refine c_rws (rws' := [(a, (0, 2, 16, _))]) rfl ?_
  refine c_done (p := 0) (kd := 3) (k := k) (i := 0) C rfl (by simp [GN, dmb, hk] : (GN h0 X).2.2.2.1 3 k 0) (by subst ha; simp only [GN, off] <;> omega : (GN h0 X).1 3 k 0 = a) (DH.obj rfl (by subst ha; simp only [GN, off] <;> omega : (GN h0 X).1 3 k 0 = a) (fun j hj => match j, hj with | 0, _ => congrArg Value.ref (by subst ha; simp only [GN, off] <;> omega : (a + 1) = (GN h0 X).1 4 k 0) | 1, _ => congrArg Value.ref (by subst ha; simp only [GN, off] <;> omega : (a + 2) = (GN h0 X).1 9 k 0) | 2, _ => congrArg Value.ref (by subst ha; simp only [GN, off] <;> omega : (a + 6) = (GN h0 X).1 13 k 0) | 3, _ => congrArg Value.ref (by subst ha; simp only [GN, off] <;> omega : (a + 8) = (GN h0 X).1 15 k 0) | 4, _ => rfl | 5, _ => rfl | 6, _ => rfl | 7, _ => rfl | 8, _ => rfl | 9, _ => rfl | 10, _ => rfl | 11, _ => rfl | 12, _ => rfl | 13, _ => rfl | 14, _ => congrArg Value.ref (by subst ha; simp only [GN, off] <;> omega : (a + 9) = (GN h0 X).1 16 k 0) | 15, _ => rfl | n + 16, h => absurd h (by omega))) ?_
  refine c_rws (rws' := []) rfl ?_
  refine c_clr (pc := 78) (M' := Mc k) (kd := 3) (k := k) (i := 0) C (by rw [hsz]) (by subst ha; exact okX3_clear w0_mach k M0 (show dmK k 3 k 0 from ⟨by simp [dmb, hk], rfl, by decide, by decide⟩)) hclr hlA (by subst ha; exact wa_mach hk) (fun kd k' i h => ?_) (fun kd k' i hd h1 h2 => ?_) (by subst ha; simp only [GN, off] <;> omega : (GN h0 X).1 3 k 0 = a) (show dmK k 3 k 0 from ⟨by simp [dmb, hk], rfl, by decide, by decide⟩) rfl rfl mw_187 cvX3_clear (Rx.ofI hr rfl rfl rfl rfl) (Nat.le_of_ble_eq_true rfl) dX3_init_78 ?_
  · obtain ⟨a1, rfl, a3, a4⟩ := h
    obtain ⟨b1, b2, b3⟩ := dmb_lt a1
    have := blk_in k' hk kd b1 i b3 a1 a3 a4
    subst ha
    refine ⟨a1, ?_, ?_⟩
    · show h0 + mb k' ≤ h0 + off kd k' i
      omega
    · show h0 + off kd k' i < h0 + mb k' + 50
      omega
  · subst ha
    have hd : dmb kd k' i = true := hd
    have h1 : h0 + mb k ≤ h0 + off kd k' i := h1
    have h2 : h0 + off kd k' i < h0 + mb k + 50 := h2
    obtain ⟨b1, b2, b3⟩ := dmb_lt hd
    exact ⟨hd, blk_ok k hk kd b1 k' b2 i b3 hd (by omega) (by omega)⟩
  exact c_ret (pc := 81) C rfl rfl rfl (Nat.le_of_ble_eq_true rfl) (Nat.le_of_ble_eq_true rfl) dX3_init_81
theorem okI_X5 {l : Launch} {h0 a : Nat} {X : GX} (ha : a = h0 + off 1 0 0) : OkI l (GN h0 X) yX5_init cX5_init 1 1 12 1 800 a (a + 2) 3 8 (fun j => defaultValue (tyX5 j)) Mst Mst := by
  refine OkI.of "PermitPark$SetupText" rfl rfl (by decide) (by decide) (fun K hl hr C hini hAO hsz => ?_)
  have hlA : ∀ q, a ≤ q → (GN h0 X).2.2.2.2.1 q := fun q hq => Nat.le_trans (by rw [ha]; exact Nat.le_add_right _ _) hq
  refine c_aload_n (pc := 0) C 0 rfl rfl dX5_init_0 ?_
  refine c_obj (pc := 1) C mw_35 mw_22 mw_23 (by rw [hr]; exact Nat.le_of_ble_eq_true rfl) (by rw [hr]; exact Nat.le_of_ble_eq_true rfl) dX5_init_1 ?_
  refine c_aload_n (pc := 4) C 0 rfl rfl dX5_init_4 ?_
  refine c_sipush (pc := 5) C dX5_init_5 ks_800 ?_
  refine c_newa (pc := 8) (N := 800) (ti := 1) (atype := .byte) (ty := .byte) C rfl aw_byte rfl (fun _ _ h => h) (by decide) (by decide) (by decide) (by rw [hr]; exact Nat.le_of_ble_eq_true rfl) (by rw [hr]; exact Nat.le_of_ble_eq_true rfl) dX5_init_8 ?_
  refine c_hi (hi' := a + 2) rfl ?_
  refine c_done (p := 0) (kd := 2) (k := 0) (i := 0) C rfl (by simp [GN, dmb] : (GN h0 X).2.2.2.1 2 0 0) (by subst ha; simp only [GN, off, mb] <;> omega : (GN h0 X).1 2 0 0 = (a + 1)) (DH.arr rfl (by subst ha; simp only [GN, off, mb] <;> omega : (GN h0 X).1 2 0 0 = (a + 1)) (fun j _ => rfl)) ?_
  refine c_rws (rws' := [(a, (0, 3, 8, _))]) rfl ?_
  refine c_put (pc := 10) (p := 0) (j := 0) C rfl hini rfl (by decide) rfl wIn_5 mw_36 tyX5 tyX5_ok nmX5 (by decide +kernel : parseFieldDescriptor "[B" = some (.array .byte)) rfl rfl rfl (by omega) dX5_init_10 ?_
  refine c_rws (rws' := [(a, (0, 3, 8, _))]) rfl ?_
  refine c_aload_n (pc := 13) C 0 rfl rfl dX5_init_13 ?_
  refine c_iconst (pc := 14) C dX5_init_14 kc_m1 ?_
  refine c_put (pc := 15) (p := 0) (j := 3) C rfl hini rfl (by decide) rfl wIn_5 mw_37 tyX5 tyX5_ok nmX5 (by decide +kernel : parseFieldDescriptor "I" = some .int) rfl rfl rfl (by omega) dX5_init_15 ?_
  refine c_rws (rws' := [(a, (0, 3, 8, _))]) rfl ?_
  refine c_done (p := 0) (kd := 1) (k := 0) (i := 0) C rfl (by simp [GN, dmb] : (GN h0 X).2.2.2.1 1 0 0) (by subst ha; simp only [GN, off, mb] <;> omega : (GN h0 X).1 1 0 0 = a) (DH.obj rfl (by subst ha; simp only [GN, off, mb] <;> omega : (GN h0 X).1 1 0 0 = a) (fun j hj => match j, hj with | 0, _ => congrArg Value.ref (by subst ha; simp only [GN, off, mb] <;> omega : (a + 1) = (GN h0 X).1 2 0 0) | 1, _ => rfl | 2, _ => rfl | 3, _ => rfl | 4, _ => rfl | 5, _ => rfl | 6, _ => rfl | 7, _ => rfl | n + 8, h => absurd h (by omega))) ?_
  refine c_rws (rws' := []) rfl ?_
  exact c_ret (pc := 18) C rfl rfl rfl (Nat.le_of_ble_eq_true rfl) (Nat.le_of_ble_eq_true rfl) dX5_init_18
theorem okI_X7 {l : Launch} {h0 a : Nat} {X : GX} (ha : a = h0 + off 0 0 0) (hclr : ∀ k, k < 4 → pX3_clear k M0 = some ((), Mc k)) : OkI l (GN h0 X) yX7_init cX7_init 1 3 62 204 4120 a (a + 205) 5 5 (fun j => defaultValue (tyX7 j)) Mst Mst := by
  refine OkI.of "PermitPark" rfl rfl (by decide) (by decide) (fun K hl hr C hini hAO hsz => ?_)
  have hlA : ∀ q, a ≤ q → (GN h0 X).2.2.2.2.1 q := fun q hq => Nat.le_trans (by rw [ha]; exact Nat.le_add_right _ _) hq
  refine c_aload_n (pc := 0) C 0 rfl rfl dX7_init_0 ?_
  refine c_obj (pc := 1) C mw_29 mw_22 mw_23 (by rw [hr]; exact Nat.le_of_ble_eq_true rfl) (by rw [hr]; exact Nat.le_of_ble_eq_true rfl) dX7_init_1 ?_
  refine c_aload_n (pc := 4) C 0 rfl rfl dX7_init_4 ?_
  refine c_new (pc := 5) (ci := 3) C wIn_5 tyX5 tyX5_ok mw_30 mw_31 mw_2 rfl (by rw [hr]; exact Nat.le_of_ble_eq_true rfl) (by rw [hr]; exact Nat.le_of_ble_eq_true rfl) dX7_init_5 ?_
  refine c_hi (hi' := a + 2) rfl ?_
  refine c_dup (pc := 8) C dX7_init_8 rfl ?_
  refine c_initN (pc := 9) (host := "PermitPark") C hAO (okI_X5 (X := X) (by subst ha; simp only [off, mb] <;> omega)) hlA (by decide +kernel) rfl mw_33 mw_2 mw_34 ⟨by decide, by decide, by decide +kernel⟩ (Rx.ofI hr rfl rfl rfl rfl) (Nat.le_of_ble_eq_true rfl) rfl (by omega) (by omega) (fun _ _ _ _ _ _ => ⟨fun _ => rfl, fun _ _ => rfl, fun _ _ => rfl, fun _ _ => rfl⟩) dX7_init_9 ?_
  refine c_hi (hi' := a + 3) rfl ?_
  refine c_put (pc := 12) (p := 0) (j := 0) C rfl hini rfl (by decide) rfl wIn_7 mw_256 tyX7 tyX7_ok nmX7 (by decide +kernel : parseFieldDescriptor "LPermitPark$SetupText;" = some (.object "PermitPark$SetupText")) rfl rfl rfl (by omega) dX7_init_12 ?_
  refine c_rws (rws' := [(a, (0, 5, 5, _))]) rfl ?_
  refine c_aload_n (pc := 15) C 0 rfl rfl dX7_init_15 ?_
  refine c_new (pc := 16) (ci := 2) C wIn_3 tyX3 tyX3_ok mw_56 mw_57 mw_3 rfl (by rw [hr]; exact Nat.le_of_ble_eq_true rfl) (by rw [hr]; exact Nat.le_of_ble_eq_true rfl) dX7_init_16 ?_
  refine c_hi (hi' := a + 4) rfl ?_
  refine c_dup (pc := 19) C dX7_init_19 rfl ?_
  refine c_init (pc := 20)  C hAO (okI_X3 (X := X) (k := 0) (by decide) (by subst ha; simp only [off, mb] <;> omega) (hclr 0 (by decide))) hlA mw_58 rfl mw_59 mw_3 mw_60 ⟨by decide, by decide, by decide +kernel⟩ (Rx.ofI hr rfl rfl rfl rfl) (Nat.le_of_ble_eq_true rfl) rfl (by omega) (by omega) (hal_mach (by decide) (by subst ha; simp only [off, mb] <;> omega)) dX7_init_20 ?_
  refine c_hi (hi' := a + 53) rfl ?_
  refine c_put (pc := 23) (p := 0) (j := 1) C rfl hini rfl (by decide) rfl wIn_7 mw_257 tyX7 tyX7_ok nmX7 (by decide +kernel : parseFieldDescriptor "LPermitPark$Machine;" = some (.object "PermitPark$Machine")) rfl rfl rfl (by omega) dX7_init_23 ?_
  refine c_rws (rws' := [(a, (0, 5, 5, _))]) rfl ?_
  refine c_aload_n (pc := 26) C 0 rfl rfl dX7_init_26 ?_
  refine c_new (pc := 27) (ci := 2) C wIn_3 tyX3 tyX3_ok mw_56 mw_57 mw_3 rfl (by rw [hr]; exact Nat.le_of_ble_eq_true rfl) (by rw [hr]; exact Nat.le_of_ble_eq_true rfl) dX7_init_27 ?_
  refine c_hi (hi' := a + 54) rfl ?_
  refine c_dup (pc := 30) C dX7_init_30 rfl ?_
  refine c_init (pc := 31)  C hAO (okI_X3 (X := X) (k := 1) (by decide) (by subst ha; simp only [off, mb] <;> omega) (hclr 1 (by decide))) hlA mw_58 rfl mw_59 mw_3 mw_60 ⟨by decide, by decide, by decide +kernel⟩ (Rx.ofI hr rfl rfl rfl rfl) (Nat.le_of_ble_eq_true rfl) rfl (by omega) (by omega) (hal_mach (by decide) (by subst ha; simp only [off, mb] <;> omega)) dX7_init_31 ?_
  refine c_hi (hi' := a + 103) rfl ?_
  refine c_put (pc := 34) (p := 0) (j := 2) C rfl hini rfl (by decide) rfl wIn_7 mw_258 tyX7 tyX7_ok nmX7 (by decide +kernel : parseFieldDescriptor "LPermitPark$Machine;" = some (.object "PermitPark$Machine")) rfl rfl rfl (by omega) dX7_init_34 ?_
  refine c_rws (rws' := [(a, (0, 5, 5, _))]) rfl ?_
  refine c_aload_n (pc := 37) C 0 rfl rfl dX7_init_37 ?_
  refine c_iconst (pc := 38) C dX7_init_38 kc_2 ?_
  refine c_anew (pc := 39) (N := 2) (ti := 4) C mw_56 hAO.2 rfl (by decide) (by decide) (by decide) (by rw [hr]; exact Nat.le_of_ble_eq_true rfl) (by rw [hr]; exact Nat.le_of_ble_eq_true rfl) dX7_init_39 ?_
  refine c_hi (hi' := a + 104) rfl ?_
  refine c_dup (pc := 42) C dX7_init_42 rfl ?_
  refine c_iconst (pc := 43) C dX7_init_43 kc_0 ?_
  refine c_new (pc := 44) (ci := 2) C wIn_3 tyX3 tyX3_ok mw_56 mw_57 mw_3 rfl (by rw [hr]; exact Nat.le_of_ble_eq_true rfl) (by rw [hr]; exact Nat.le_of_ble_eq_true rfl) dX7_init_44 ?_
  refine c_hi (hi' := a + 105) rfl ?_
  refine c_dup (pc := 47) C dX7_init_47 rfl ?_
  refine c_init (pc := 48)  C hAO (okI_X3 (X := X) (k := 2) (by decide) (by subst ha; simp only [off, mb] <;> omega) (hclr 2 (by decide))) hlA mw_58 rfl mw_59 mw_3 mw_60 ⟨by decide, by decide, by decide +kernel⟩ (Rx.ofI hr rfl rfl rfl rfl) (Nat.le_of_ble_eq_true rfl) rfl (by omega) (by omega) (hal_mach (by decide) (by subst ha; simp only [off, mb] <;> omega)) dX7_init_48 ?_
  refine c_hi (hi' := a + 154) rfl ?_
  refine c_aastV (pc := 51) (p := 0) (kd := 3) (k := 2) (i := 0) (ci := 2) C rfl rfl rfl rfl (by simp [GN, dmb] : (GN h0 X).2.2.2.1 3 2 0) (by subst ha; simp only [GN, off, mb] <;> omega : (GN h0 X).1 3 2 0 = (a + 104)) (by omega) (by omega) (by simp only [List.mem_cons, List.not_mem_nil, or_false]; rintro r (rfl | rfl) <;> (dsimp only; omega)) (by decide) (by omega) dX7_init_51 ?_
  refine c_rws (rws' := [((a + 103), (1, 4, 2, _)), (a, (0, 5, 5, _))]) rfl ?_
  refine c_dup (pc := 52) C dX7_init_52 rfl ?_
  refine c_iconst (pc := 53) C dX7_init_53 kc_1 ?_
  refine c_new (pc := 54) (ci := 2) C wIn_3 tyX3 tyX3_ok mw_56 mw_57 mw_3 rfl (by rw [hr]; exact Nat.le_of_ble_eq_true rfl) (by rw [hr]; exact Nat.le_of_ble_eq_true rfl) dX7_init_54 ?_
  refine c_hi (hi' := a + 155) rfl ?_
  refine c_dup (pc := 57) C dX7_init_57 rfl ?_
  refine c_init (pc := 58)  C hAO (okI_X3 (X := X) (k := 3) (by decide) (by subst ha; simp only [off, mb] <;> omega) (hclr 3 (by decide))) hlA mw_58 rfl mw_59 mw_3 mw_60 ⟨by decide, by decide, by decide +kernel⟩ (Rx.ofI hr rfl rfl rfl rfl) (Nat.le_of_ble_eq_true rfl) rfl (by omega) (by omega) (hal_mach (by decide) (by subst ha; simp only [off, mb] <;> omega)) dX7_init_58 ?_
  refine c_hi (hi' := a + 204) rfl ?_
  refine c_aastV (pc := 61) (p := 0) (kd := 3) (k := 3) (i := 0) (ci := 2) C rfl rfl rfl rfl (by simp [GN, dmb] : (GN h0 X).2.2.2.1 3 3 0) (by subst ha; simp only [GN, off, mb] <;> omega : (GN h0 X).1 3 3 0 = (a + 154)) (by omega) (by omega) (by simp only [List.mem_cons, List.not_mem_nil, or_false]; rintro r (rfl | rfl) <;> (dsimp only; omega)) (by decide) (by omega) dX7_init_61 ?_
  refine c_rws (rws' := [((a + 103), (1, 4, 2, _)), (a, (0, 5, 5, _))]) rfl ?_
  refine c_put (pc := 62) (p := 1) (j := 3) C rfl hini rfl (by decide) rfl wIn_7 mw_259 tyX7 tyX7_ok nmX7 (by decide +kernel : parseFieldDescriptor "[LPermitPark$Machine;" = some (.array (.object "PermitPark$Machine"))) rfl rfl rfl (by omega) dX7_init_62 ?_
  refine c_rws (rws' := [((a + 103), (1, 4, 2, _)), (a, (0, 5, 5, _))]) rfl ?_
  refine c_done (p := 0) (kd := 17) (k := 0) (i := 0) C rfl (by simp [GN, dmb] : (GN h0 X).2.2.2.1 17 0 0) (by subst ha; simp only [GN, off, mb] <;> omega : (GN h0 X).1 17 0 0 = (a + 103)) (DH.arr rfl (by subst ha; simp only [GN, off, mb] <;> omega : (GN h0 X).1 17 0 0 = (a + 103)) (fun j hj => match j, hj with | 0, _ => congrArg Value.ref (by subst ha; simp only [GN, off, mb] <;> omega : (a + 104) = (GN h0 X).1 3 2 0) | 1, _ => congrArg Value.ref (by subst ha; simp only [GN, off, mb] <;> omega : (a + 154) = (GN h0 X).1 3 3 0) | n + 2, h => absurd h (by omega))) ?_
  refine c_rws (rws' := [(a, (0, 5, 5, _))]) rfl ?_
  refine c_aload_n (pc := 65) C 0 rfl rfl dX7_init_65 ?_
  refine c_iconst (pc := 66) C dX7_init_66 kc_2 ?_
  refine c_newa (pc := 67) (N := 2) (ti := 2) (atype := .boolean) (ty := .boolean) C rfl aw_boolean rfl (fun _ _ h => h) (by decide) (by decide) (by decide) (by rw [hr]; exact Nat.le_of_ble_eq_true rfl) (by rw [hr]; exact Nat.le_of_ble_eq_true rfl) dX7_init_67 ?_
  refine c_hi (hi' := a + 205) rfl ?_
  refine c_done (p := 0) (kd := 18) (k := 0) (i := 0) C rfl (by simp [GN, dmb] : (GN h0 X).2.2.2.1 18 0 0) (by subst ha; simp only [GN, off, mb] <;> omega : (GN h0 X).1 18 0 0 = (a + 204)) (DH.arr rfl (by subst ha; simp only [GN, off, mb] <;> omega : (GN h0 X).1 18 0 0 = (a + 204)) (fun j _ => rfl)) ?_
  refine c_rws (rws' := [(a, (0, 5, 5, _))]) rfl ?_
  refine c_put (pc := 69) (p := 0) (j := 4) C rfl hini rfl (by decide) rfl wIn_7 mw_260 tyX7 tyX7_ok nmX7 (by decide +kernel : parseFieldDescriptor "[Z" = some (.array .boolean)) rfl rfl rfl (by omega) dX7_init_69 ?_
  refine c_rws (rws' := [(a, (0, 5, 5, _))]) rfl ?_
  refine c_done (p := 0) (kd := 0) (k := 0) (i := 0) C rfl (by simp [GN, dmb] : (GN h0 X).2.2.2.1 0 0 0) (by subst ha; simp only [GN, off, mb] <;> omega : (GN h0 X).1 0 0 0 = a) (DH.obj rfl (by subst ha; simp only [GN, off, mb] <;> omega : (GN h0 X).1 0 0 0 = a) (fun j hj => match j, hj with | 0, _ => congrArg Value.ref (by subst ha; simp only [GN, off, mb] <;> omega : (a + 1) = (GN h0 X).1 1 0 0) | 1, _ => congrArg Value.ref (by subst ha; simp only [GN, off, mb] <;> omega : (a + 3) = (GN h0 X).1 3 0 0) | 2, _ => congrArg Value.ref (by subst ha; simp only [GN, off, mb] <;> omega : (a + 53) = (GN h0 X).1 3 1 0) | 3, _ => congrArg Value.ref (by subst ha; simp only [GN, off, mb] <;> omega : (a + 103) = (GN h0 X).1 17 0 0) | 4, _ => congrArg Value.ref (by subst ha; simp only [GN, off, mb] <;> omega : (a + 204) = (GN h0 X).1 18 0 0) | n + 5, h => absurd h (by omega))) ?_
  refine c_rws (rws' := []) rfl ?_
  exact c_ret (pc := 72) C rfl rfl rfl (Nat.le_of_ble_eq_true rfl) (Nat.le_of_ble_eq_true rfl) dX7_init_72
theorem okI_L {l : Launch} {h0 a : Nat} {X : GX} (ha : a = h0 + off 19 0 0) (hclr : ∀ k, k < 4 → pX3_clear k M0 = some ((), Mc k)) : OkI l (GN h0 X) yL_init cL_init 1 4 82 205 4125 a (a + 206) 6 3 (fun j => defaultValue (tyX9 j)) Mst Mst := by
  refine OkI.of "PermitParkLaw" rfl rfl (by decide) (by decide) (fun K hl hr C hini hAO hsz => ?_)
  have hlA : ∀ q, a ≤ q → (GN h0 X).2.2.2.2.1 q := fun q hq => Nat.le_trans (by rw [ha]; exact Nat.le_add_right _ _) hq
  refine c_aload_n (pc := 0) C 0 rfl rfl dL_init_0 ?_
  refine c_obj (pc := 1) C mw_21 mw_22 mw_23 (by rw [hr]; exact Nat.le_of_ble_eq_true rfl) (by rw [hr]; exact Nat.le_of_ble_eq_true rfl) dL_init_1 ?_
  refine c_aload_n (pc := 4) C 0 rfl rfl dL_init_4 ?_
  refine c_new (pc := 5) (ci := 5) C wIn_7 tyX7 tyX7_ok mw_24 mw_25 mw_1 rfl (by rw [hr]; exact Nat.le_of_ble_eq_true rfl) (by rw [hr]; exact Nat.le_of_ble_eq_true rfl) dL_init_5 ?_
  refine c_hi (hi' := a + 2) rfl ?_
  refine c_dup (pc := 8) C dL_init_8 rfl ?_
  refine c_init (pc := 9)  C hAO (okI_X7 (X := X) (by subst ha; simp only [off, mb] <;> omega) hclr) hlA mw_26 rfl mw_27 mw_1 mw_28 ⟨by decide, by decide, by decide +kernel⟩ (Rx.ofI hr rfl rfl rfl rfl) (Nat.le_of_ble_eq_true rfl) rfl (by omega) (by omega) (fun _ _ _ _ _ _ => ⟨fun _ => rfl, fun _ _ => rfl, fun _ _ => rfl, fun _ _ => rfl⟩) dL_init_9 ?_
  refine c_hi (hi' := a + 206) rfl ?_
  refine c_put (pc := 12) (p := 0) (j := 0) C rfl hini rfl (by decide) rfl wIn_9 mw_273 tyX9 tyX9_ok nmX9 (by decide +kernel : parseFieldDescriptor "LPermitPark;" = some (.object "PermitPark")) rfl rfl rfl (by omega) dL_init_12 ?_
  refine c_rws (rws' := [(a, (0, 6, 3, _))]) rfl ?_
  refine c_done (p := 0) (kd := 19) (k := 0) (i := 0) C rfl (by simp [GN, dmb] : (GN h0 X).2.2.2.1 19 0 0) (by subst ha; simp only [GN, off, mb] <;> omega : (GN h0 X).1 19 0 0 = a) (DH.obj rfl (by subst ha; simp only [GN, off, mb] <;> omega : (GN h0 X).1 19 0 0 = a) (fun j hj => match j, hj with | 0, _ => congrArg Value.ref (by subst ha; simp only [GN, off, mb] <;> omega : (a + 1) = (GN h0 X).1 0 0 0) | 1, _ => rfl | 2, _ => rfl | n + 3, h => absurd h (by omega))) ?_
  refine c_rws (rws' := []) rfl ?_
  exact c_ret (pc := 15) C rfl rfl rfl (Nat.le_of_ble_eq_true rfl) (Nat.le_of_ble_eq_true rfl) dL_init_15
end INITS
