/-! ===== the law's beginning: what it makes ===== -/
section PREFIX
set_option maxRecDepth 4000
theorem c_law0 {K : KT} {h0 b N : Nat} {X : GX} {xs : Nat → Int32} (C : Cx K (GN h0 X) "PermitParkLaw" cL_law 10 (some FieldType.boolean)) (Y : Cy0 K) (hX : Lx K (GN h0 X) b N xs) (hN : N ≤ 2048) (hAO : AOs K.2.2.2.2.1) : Rn K (GN h0 X) 10 0 0 (lw_Z K.2.2.2.2.2.2.2.1 #[Value.ref b] K.2.2.2.2.1) 0 [(0, .ref b)] [] Mst h0 h0 [] := by
  have hr : K.2.2.2.1 = room_1 := hX.1
  have hlA : ∀ q, h0 ≤ q → (GN h0 X).2.2.2.2.1 q := fun q hq => hq
  refine c_new (pc := 0) (ci := 5) C wIn_7 tyX7 tyX7_ok mw_23 mw_24 mw_1 rfl (by rw [hr]; exact Nat.le_of_ble_eq_true rfl) (by rw [hr]; exact Nat.le_of_ble_eq_true rfl) dL_law_0 ?_
  refine c_dup (pc := 3) C dL_law_3 rfl ?_
  refine c_init (pc := 4) C hAO (okI_X7 (X := X) (a := h0) (h0 := h0) rfl (fun k _ => (clr_c k).1)) hlA (by decide +kernel) rfl (by decide +kernel) mw_1 (by decide +kernel) ⟨by decide, by decide, by decide +kernel⟩ ⟨by rw [hr]; exact Nat.le_of_ble_eq_true rfl, by rw [hr]; exact Nat.le_of_ble_eq_true rfl, by rw [hr]; exact Nat.le_of_ble_eq_true rfl, by rw [hr]; exact Nat.le_of_ble_eq_true rfl⟩ (Nat.le_of_ble_eq_true rfl) rfl (by omega) (by omega) (fun _ _ _ _ _ _ => ⟨fun _ => rfl, fun _ _ => rfl, fun _ _ => rfl, fun _ _ => rfl⟩) dL_law_4 ?_
  refine c_astore_n (pc := 7) C [(1, .ref h0), (0, .ref b)] dL_law_7 rfl (by decide) rfl ?_
  refine c_new (pc := 8) (ci := 6) C wIn_8 tyX8 tyX8_ok mw_1002 mw_1003 mw_7 rfl (by rw [hr]; exact Nat.le_of_ble_eq_true rfl) (by rw [hr]; exact Nat.le_of_ble_eq_true rfl) dL_law_8 ?_
  refine c_dup (pc := 11) C dL_law_11 rfl ?_
  refine c_init (pc := 12) C hAO (okI_X8 (X := X) (a := h0 + 205) (h0 := h0) rfl clr_m.1) hlA (by decide +kernel) rfl (by decide +kernel) mw_7 (by decide +kernel) ⟨by decide, by decide, by decide +kernel⟩ ⟨by rw [hr]; exact Nat.le_of_ble_eq_true rfl, by rw [hr]; exact Nat.le_of_ble_eq_true rfl, by rw [hr]; exact Nat.le_of_ble_eq_true rfl, by rw [hr]; exact Nat.le_of_ble_eq_true rfl⟩ (Nat.le_of_ble_eq_true rfl) rfl (by omega) (by omega) (hal_mod (X := X) rfl) dL_law_12 ?_
  refine c_astore_n (pc := 15) C [(2, .ref (h0 + 205)), (1, .ref h0), (0, .ref b)] dL_law_15 rfl (by decide) rfl ?_
  refine c_iconst (pc := 16) C dL_law_16 kc_1 ?_
  refine c_newa (pc := 17) (N := 1) (ti := 3) (atype := .long) (ty := .long) C rfl aw_long rfl (fun _ _ h => h) (by decide) (by decide) (by decide) (by rw [hr]; exact Nat.le_of_ble_eq_true rfl) (by rw [hr]; exact Nat.le_of_ble_eq_true rfl) dL_law_17 ?_
  refine c_done (p := 0) (kd := 30) (k := 0) (i := 0) C rfl (show dmb 30 0 0 = true by decide) rfl (DH.arr rfl rfl (fun j _ => rfl)) ?_
  refine c_rws (rws' := []) rfl ?_
  refine c_astore_n (pc := 19) C [(3, .ref (h0 + 216)), (2, .ref (h0 + 205)), (1, .ref h0), (0, .ref b)] dL_law_19 rfl (by decide) rfl ?_
  refine c_iconst (pc := 20) C dL_law_20 kc_1 ?_
  refine c_newa (pc := 21) (N := 1) (ti := 4) (atype := .double) (ty := .double) C rfl aw_double rfl (fun _ _ h => h) (by decide) (by decide) (by decide) (by rw [hr]; exact Nat.le_of_ble_eq_true rfl) (by rw [hr]; exact Nat.le_of_ble_eq_true rfl) dL_law_21 ?_
  refine c_done (p := 0) (kd := 31) (k := 0) (i := 0) C rfl (show dmb 31 0 0 = true by decide) rfl (DH.arr rfl rfl (fun j _ => rfl)) ?_
  refine c_rws (rws' := []) rfl ?_
  refine c_astore (pc := 23) C [(4, .ref (h0 + 217)), (3, .ref (h0 + 216)), (2, .ref (h0 + 205)), (1, .ref h0), (0, .ref b)] dL_law_23 (by decide) rfl ?_
  refine c_iconst (pc := 25) C dL_law_25 kc_0 ?_
  refine c_istore (pc := 26) C [(5, .int 0), (4, .ref (h0 + 217)), (3, .ref (h0 + 216)), (2, .ref (h0 + 205)), (1, .ref h0), (0, .ref b)] dL_law_26 (by decide) rfl ?_
  refine c_sub [5, 4, 3, 2, 1, 0] rfl ?_
  exact c_law28 C Y hX hN (Nat.le_of_ble_eq_true rfl) (Nat.le_of_ble_eq_true rfl)
end PREFIX
