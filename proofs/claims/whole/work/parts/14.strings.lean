/-! ===== pictures: strings ===== -/
section
set_option maxRecDepth 4000
def pJ0_coder_7d493 (e : Nat) (M : Mem) : Option (Int32 × Mem) :=
    if (1 : Int32) = 0 then (chk (decide ((1 : Int32).toInt8.toInt32 = (1 : Int32))) (some ((1 : Int32), M)))
    else chk (decide ((0 : Int32).toInt8.toInt32 = (0 : Int32))) (some ((0 : Int32), M))
theorem lJ0_coder_7d493_0 {K : KT} {G : WT} {e : Nat} (C : Cx K G "java/lang/String" cJ0_coder_7d493 1 (some FieldType.byte)) (hRm : K.2.2.2.1.frames = 0 ∧ K.2.2.2.1.locals = 0) (h0 : W0 G) (M : Mem) (h_0 : e < 14) : Run K G 1 0 0 (FinM K G voI 0 0) 0 [(0, .ref (G.2.2.2.2.2.2.1 e))] [] M (pJ0_coder_7d493 e   M) := by
  rw [pJ0_coder_7d493]
  refine r_gCompact (pc := 0) C mw_330 dJ0_coder_7d493_0 ?_
  refine r_if_eq (pc := 3) C dJ0_coder_7d493_3 (tgt := 13) rfl ?_ ?_
  refine r_iconst (pc := 13) C dJ0_coder_7d493_13 kc_1 ?_
  exact r_bret (pc := 14) C dJ0_coder_7d493_14
  refine r_aload_n (pc := 6) C 0 rfl rfl dJ0_coder_7d493_6 ?_
  refine r_sCoder (pc := 7) C h_0 mw_1511 dJ0_coder_7d493_7 ?_
  refine r_goto (pc := 10) C dJ0_coder_7d493_10 (tgt := 14) rfl ?_
  exact r_bret (pc := 14) C dJ0_coder_7d493_14
theorem okJ0_coder_7d493 {l : Launch} {G : WT} (h0 : W0 G) (e : Nat) (M : Mem) (h_0 : e < 14) : Okm l G yJ0_coder_7d493 cJ0_coder_7d493 1 (some FieldType.byte) 0 0 [.ref (G.2.2.2.2.2.2.1 e)] voI M (pJ0_coder_7d493 e  M) :=
  Okm.of "java/lang/String" rfl (by decide) (Nat.le_of_ble_eq_true rfl) (L := [(0, .ref (G.2.2.2.2.2.2.1 e))]) rfl (fun K _ hr C => lJ0_coder_7d493_0 C (by rw [hr]; exact ⟨rfl, rfl⟩) h0  M h_0)
def pJ0_length_8abf5 (e : Nat) (M : Mem) : Option (Int32 × Mem) :=
    bnd (pJ0_coder_7d493 e M) fun o2 M1 => some (((Int32.ofNat (xLen.getD e 0)) >>> (o2 &&& 31)), M1)
theorem lJ0_length_8abf5_0 {K : KT} {G : WT} {e : Nat} (C : Cx K G "java/lang/String" cJ0_length_8abf5 1 (some FieldType.int)) (hRm : K.2.2.2.1.frames = 1 ∧ K.2.2.2.1.locals = 20) (h0 : W0 G) (M : Mem) (h_0 : e < 14) : Run K G 1 0 0 (FinM K G voI 0 0) 0 [(0, .ref (G.2.2.2.2.2.2.1 e))] [] M (pJ0_length_8abf5 e   M) := by
  rw [pJ0_length_8abf5]
  refine r_aload_n (pc := 0) C 0 rfl rfl dJ0_length_8abf5_0 ?_
  refine r_sValue (pc := 1) C h_0 mw_1510 dJ0_length_8abf5_1 ?_
  refine r_sbLen (pc := 4) C h_0 dJ0_length_8abf5_4 ?_
  refine r_aload_n (pc := 5) C 0 rfl rfl dJ0_length_8abf5_5 ?_
  refine r_cVI (pc := 6) C hRm (okJ0_coder_7d493 h0 e M h_0) (Rc.str C h_0) mw_326 cvJ0_coder_7d493 rfl ⟨Nat.le_of_ble_eq_true rfl, Nat.le_of_ble_eq_true rfl⟩ rfl (Nat.le_of_ble_eq_true rfl) dJ0_length_8abf5_6 (fun o2 M1 => ?_)
  refine r_ishr (pc := 9) C dJ0_length_8abf5_9 ?_
  exact r_iret (pc := 10) C rfl dJ0_length_8abf5_10
theorem okJ0_length_8abf5 {l : Launch} {G : WT} (h0 : W0 G) (e : Nat) (M : Mem) (h_0 : e < 14) : Okm l G yJ0_length_8abf5 cJ0_length_8abf5 1 (some FieldType.int) 1 20 [.ref (G.2.2.2.2.2.2.1 e)] voI M (pJ0_length_8abf5 e  M) :=
  Okm.of "java/lang/String" rfl (by decide) (Nat.le_of_ble_eq_true rfl) (L := [(0, .ref (G.2.2.2.2.2.2.1 e))]) rfl (fun K _ hr C => lJ0_length_8abf5_0 C (by rw [hr]; exact ⟨rfl, rfl⟩) h0  M h_0)
def pJ0_isLatin1_aae02 (e : Nat) (M : Mem) : Option (Int32 × Mem) :=
    if (1 : Int32) = 0 then (chk (decide ((0 : Int32) = 0 ∨ (0 : Int32) = 1)) (some ((0 : Int32), M)))
    else if ¬ (0 : Int32) = 0 then (chk (decide ((0 : Int32) = 0 ∨ (0 : Int32) = 1)) (some ((0 : Int32), M)))
    else chk (decide ((1 : Int32) = 0 ∨ (1 : Int32) = 1)) (some ((1 : Int32), M))
theorem lJ0_isLatin1_aae02_0 {K : KT} {G : WT} {e : Nat} (C : Cx K G "java/lang/String" cJ0_isLatin1_aae02 1 (some FieldType.boolean)) (hRm : K.2.2.2.1.frames = 0 ∧ K.2.2.2.1.locals = 0) (h0 : W0 G) (M : Mem) (h_0 : e < 14) : Run K G 1 0 0 (FinM K G voI 0 0) 0 [(0, .ref (G.2.2.2.2.2.2.1 e))] [] M (pJ0_isLatin1_aae02 e   M) := by
  rw [pJ0_isLatin1_aae02]
  refine r_gCompact (pc := 0) C mw_330 dJ0_isLatin1_aae02_0 ?_
  refine r_if_eq (pc := 3) C dJ0_isLatin1_aae02_3 (tgt := 17) rfl ?_ ?_
  refine r_iconst (pc := 17) C dJ0_isLatin1_aae02_17 kc_0 ?_
  exact r_zret (pc := 18) C dJ0_isLatin1_aae02_18
  refine r_aload_n (pc := 6) C 0 rfl rfl dJ0_isLatin1_aae02_6 ?_
  refine r_sCoder (pc := 7) C h_0 mw_1511 dJ0_isLatin1_aae02_7 ?_
  refine r_if_ne (pc := 10) C dJ0_isLatin1_aae02_10 (tgt := 17) rfl ?_ ?_
  refine r_iconst (pc := 17) C dJ0_isLatin1_aae02_17 kc_0 ?_
  exact r_zret (pc := 18) C dJ0_isLatin1_aae02_18
  refine r_iconst (pc := 13) C dJ0_isLatin1_aae02_13 kc_1 ?_
  refine r_goto (pc := 14) C dJ0_isLatin1_aae02_14 (tgt := 18) rfl ?_
  exact r_zret (pc := 18) C dJ0_isLatin1_aae02_18
theorem okJ0_isLatin1_aae02 {l : Launch} {G : WT} (h0 : W0 G) (e : Nat) (M : Mem) (h_0 : e < 14) : Okm l G yJ0_isLatin1_aae02 cJ0_isLatin1_aae02 1 (some FieldType.boolean) 0 0 [.ref (G.2.2.2.2.2.2.1 e)] voI M (pJ0_isLatin1_aae02 e  M) :=
  Okm.of "java/lang/String" rfl (by decide) (Nat.le_of_ble_eq_true rfl) (L := [(0, .ref (G.2.2.2.2.2.2.1 e))]) rfl (fun K _ hr C => lJ0_isLatin1_aae02_0 C (by rw [hr]; exact ⟨rfl, rfl⟩) h0  M h_0)
def pJ1_charAt_3b067 (e0 : Nat) (v1 : Int32) (M : Mem) : Option (Int32 × Mem) :=
    bnd (pJ0_checkIndex_df160 v1 (Int32.ofNat (xLen.getD e0 0)) M) fun o2 M1 => chk (inB v1 (xLen.getD e0 0)) <| chk (decide (((((((xByt.getD e0 []).getD v1.toNatClampNeg 0) &&& (255 : Int32)).toUInt32 % 65536).toInt32).toUInt32 % 65536).toInt32 = (((((xByt.getD e0 []).getD v1.toNatClampNeg 0) &&& (255 : Int32)).toUInt32 % 65536).toInt32))) (some (((((xByt.getD e0 []).getD v1.toNatClampNeg 0) &&& (255 : Int32)).toUInt32 % 65536).toInt32, M1))
theorem lJ1_charAt_3b067_0 {K : KT} {G : WT} {e0 : Nat} (C : Cx K G "java/lang/StringLatin1" cJ1_charAt_3b067 2 (some FieldType.char)) (hRm : K.2.2.2.1.frames = 2 ∧ K.2.2.2.1.locals = 43) (h0 : W0 G) (v1 : Int32) (M : Mem) (h_0 : e0 < 14) : Run K G 2 0 0 (FinM K G voI 0 0) 0 [(0, .ref (G.2.2.2.2.2.2.2 e0)), (1, .int v1)] [] M (pJ1_charAt_3b067 e0  v1 M) := by
  rw [pJ1_charAt_3b067]
  refine r_iload_n (pc := 0) C 1 rfl rfl dJ1_charAt_3b067_0 ?_
  refine r_aload_n (pc := 1) C 0 rfl rfl dJ1_charAt_3b067_1 ?_
  refine r_sbLen (pc := 2) C h_0 dJ1_charAt_3b067_2 ?_
  refine r_cSV (pc := 3) C hRm (okJ0_checkIndex_df160 h0 v1 (Int32.ofNat (xLen.getD e0 0)) M ) mw_343 cvJ0_checkIndex_df160 rfl ⟨Nat.le_of_ble_eq_true rfl, Nat.le_of_ble_eq_true rfl⟩ rfl (Nat.le_of_ble_eq_true rfl) dJ1_charAt_3b067_3 (fun o2 M1 => ?_)
  refine r_aload_n (pc := 6) C 0 rfl rfl dJ1_charAt_3b067_6 ?_
  refine r_iload_n (pc := 7) C 1 rfl rfl dJ1_charAt_3b067_7 ?_
  refine r_sbL (pc := 8) C h_0 dJ1_charAt_3b067_8 ?_
  refine r_sipush (pc := 9) C dJ1_charAt_3b067_9 ks_255 ?_
  refine r_iand (pc := 12) C dJ1_charAt_3b067_12 ?_
  refine r_i2c (pc := 13) C dJ1_charAt_3b067_13 ?_
  exact r_cret (pc := 14) C dJ1_charAt_3b067_14
theorem okJ1_charAt_3b067 {l : Launch} {G : WT} (h0 : W0 G) (e0 : Nat) (v1 : Int32) (M : Mem) (h_0 : e0 < 14) : Okm l G yJ1_charAt_3b067 cJ1_charAt_3b067 2 (some FieldType.char) 2 43 [.ref (G.2.2.2.2.2.2.2 e0), .int v1] voI M (pJ1_charAt_3b067 e0 v1 M) :=
  Okm.of "java/lang/StringLatin1" rfl (by decide) (Nat.le_of_ble_eq_true rfl) (L := [(0, .ref (G.2.2.2.2.2.2.2 e0)), (1, .int v1)]) rfl (fun K _ hr C => lJ1_charAt_3b067_0 C (by rw [hr]; exact ⟨rfl, rfl⟩) h0 v1 M h_0)
def pJ0_charAt_5068e (e : Nat) (v1 : Int32) (M : Mem) : Option (Int32 × Mem) :=
    bnd (pJ0_isLatin1_aae02 e M) fun o2 M1 => if o2 = 0 then (none)
    else bnd (pJ1_charAt_3b067 e v1 M1) fun o4 M3 => chk (decide ((o4.toUInt32 % 65536).toInt32 = o4)) (some (o4, M3))
theorem lJ0_charAt_5068e_0 {K : KT} {G : WT} {e : Nat} (C : Cx K G "java/lang/String" cJ0_charAt_5068e 2 (some FieldType.char)) (hRm : K.2.2.2.1.frames = 3 ∧ K.2.2.2.1.locals = 64) (h0 : W0 G) (v1 : Int32) (M : Mem) (h_0 : e < 14) : Run K G 2 0 0 (FinM K G voI 0 0) 0 [(0, .ref (G.2.2.2.2.2.2.1 e)), (1, .int v1)] [] M (pJ0_charAt_5068e e  v1 M) := by
  rw [pJ0_charAt_5068e]
  refine r_aload_n (pc := 0) C 0 rfl rfl dJ0_charAt_5068e_0 ?_
  refine r_cVI (pc := 1) C hRm (okJ0_isLatin1_aae02 h0 e M h_0) (Rc.str C h_0) mw_336 cvJ0_isLatin1_aae02 rfl ⟨Nat.le_of_ble_eq_true rfl, Nat.le_of_ble_eq_true rfl⟩ rfl (Nat.le_of_ble_eq_true rfl) dJ0_charAt_5068e_1 (fun o2 M1 => ?_)
  refine r_if_eq (pc := 4) C dJ0_charAt_5068e_4 (tgt := 16) rfl ?_ ?_
  refine r_aload_n (pc := 16) C 0 rfl rfl dJ0_charAt_5068e_16 ?_
  refine r_sValue (pc := 17) C h_0 mw_1510 dJ0_charAt_5068e_17 ?_
  refine r_iload_n (pc := 20) C 1 rfl rfl dJ0_charAt_5068e_20 ?_
  exact r_none
  refine r_aload_n (pc := 7) C 0 rfl rfl dJ0_charAt_5068e_7 ?_
  refine r_sValue (pc := 8) C h_0 mw_1510 dJ0_charAt_5068e_8 ?_
  refine r_iload_n (pc := 11) C 1 rfl rfl dJ0_charAt_5068e_11 ?_
  refine r_cSI (pc := 12) C hRm (okJ1_charAt_3b067 h0 e v1 M1 h_0) mw_340 cvJ1_charAt_3b067 rfl ⟨Nat.le_of_ble_eq_true rfl, Nat.le_of_ble_eq_true rfl⟩ rfl (Nat.le_of_ble_eq_true rfl) dJ0_charAt_5068e_12 (fun o4 M3 => ?_)
  exact r_cret (pc := 15) C dJ0_charAt_5068e_15
theorem okJ0_charAt_5068e {l : Launch} {G : WT} (h0 : W0 G) (e : Nat) (v1 : Int32) (M : Mem) (h_0 : e < 14) : Okm l G yJ0_charAt_5068e cJ0_charAt_5068e 2 (some FieldType.char) 3 64 [.ref (G.2.2.2.2.2.2.1 e), .int v1] voI M (pJ0_charAt_5068e e v1 M) :=
  Okm.of "java/lang/String" rfl (by decide) (Nat.le_of_ble_eq_true rfl) (L := [(0, .ref (G.2.2.2.2.2.2.1 e)), (1, .int v1)]) rfl (fun K _ hr C => lJ0_charAt_5068e_0 C (by rw [hr]; exact ⟨rfl, rfl⟩) h0 v1 M h_0)
end
