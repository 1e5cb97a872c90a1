/-! ===== strings; calls through a nest; what is still wanted ===== -/
section GLUE2
variable {ρ : Type} {K : KT} {G : WT} {own : String} {cc : ByteArray} {nL cs sl : Nat} {ret : Option FieldType} {Fn : ρ → Mem → Prop × (State → Prop)} {pc : Nat} {L L' : List (Nat × Value)} {st : List Value} {M : Mem} {r r1 r2 : Option (ρ × Mem)}
theorem r_gCompact {index : Nat} (C : Cx K G own cc nL ret) (hl : Cond.fieldLink own index "java/lang/String" "COMPACT_STRINGS" "Z" ∈ tblG) (d : decode cc pc = .ok (.getstatic index, 3)) (kk : Run K G nL cs sl Fn (pc + 3) L (.int (1 : Int32) :: st) M r) : Run K G nL cs sl Fn pc L st M r := r_gets C C.ext.2.2.2.2.2.2.2.2.1 hl d kk
theorem r_gSio {index : Nat} (C : Cx K G own cc nL ret) (hl : Cond.fieldLink own index "jdk/internal/util/Preconditions" "SIOOBE_FORMATTER" "Ljava/util/function/BiFunction;" ∈ tblG) (d : decode cc pc = .ok (.getstatic index, 3)) (kk : ∀ u : Value, (u = .null ∨ ∃ t, u = .ref t) → Run K G nL cs sl Fn (pc + 3) L (u :: st) M r) : Run K G nL cs sl Fn pc L st M r := by
  rcases C.ext.2.2.2.2.2.2.2.2.2.1 with h | ⟨t, h⟩
  · exact r_gets C h hl d (kk _ (Or.inl rfl))
  · exact r_gets C h hl d (kk _ (Or.inr ⟨t, rfl⟩))
theorem r_sValue {e index : Nat} (C : Cx K G own cc nL ret) (he : e < 14) (hl : Cond.fieldLink own index "java/lang/String" "value" "[B" ∈ tblG) (d : decode cc pc = .ok (.getfield index, 3)) (kk : Run K G nL cs sl Fn (pc + 3) L (.ref (G.2.2.2.2.2.2.2 e) :: st) M r) : Run K G nL cs sl Fn pc L (.ref (G.2.2.2.2.2.2.1 e) :: st) M r := r_getx C (C.ext.2.2.2.2.2.2.2.1.1 e he).2.2.1 hl d kk
theorem r_sCoder {e index : Nat} (C : Cx K G own cc nL ret) (he : e < 14) (hl : Cond.fieldLink own index "java/lang/String" "coder" "B" ∈ tblG) (d : decode cc pc = .ok (.getfield index, 3)) (kk : Run K G nL cs sl Fn (pc + 3) L (.int (0 : Int32) :: st) M r) : Run K G nL cs sl Fn pc L (.ref (G.2.2.2.2.2.2.1 e) :: st) M r := r_getx C (C.ext.2.2.2.2.2.2.2.1.1 e he).2.1 hl d kk
theorem r_sbLen {e : Nat} (C : Cx K G own cc nL ret) (he : e < 14) (d : decode cc pc = .ok (.arraylength, 1)) (kk : Run K G nL cs sl Fn (pc + 1) L (.int (Int32.ofNat (xLen.getD e 0)) :: st) M r) : Run K G nL cs sl Fn pc L (.ref (G.2.2.2.2.2.2.2 e) :: st) M r := r_tlen C (C.ext.2.2.2.2.2.2.2.1.1 e he).2.2.2 d kk
theorem r_sbL {e : Nat} {x : Int32} (C : Cx K G own cc nL ret) (he : e < 14) (d : decode cc pc = .ok (.baload, 1)) (kk : Run K G nL cs sl Fn (pc + 1) L (.int ((xByt.getD e []).getD x.toNatClampNeg 0) :: st) M r) : Run K G nL cs sl Fn pc L (.int x :: .ref (G.2.2.2.2.2.2.2 e) :: st) M (chk (inB x (xLen.getD e 0)) r) := r_tb C (C.ext.2.2.2.2.2.2.2.1.1 e he).2.2.2 d kk
theorem r_cret {v : Int32} (C : Cx K G own cc nL (some .char)) (d : decode cc pc = .ok (.ireturn, 1)) : Run K G nL cs sl (FinM K G voI cs sl) pc L [.int v] M (chk (decide ((v.toUInt32 % 65536).toInt32 = v)) (some (v, M))) :=
  r_chk (fun h => r_iret C (by have := of_decide_eq_true h; show Value.int _ = Value.int v; exact congrArg Value.int this) d)
theorem r_bret {v : Int32} (C : Cx K G own cc nL (some .byte)) (d : decode cc pc = .ok (.ireturn, 1)) : Run K G nL cs sl (FinM K G voI cs sl) pc L [.int v] M (chk (decide (v.toInt8.toInt32 = v)) (some (v, M))) :=
  r_chk (fun h => r_iret C (by have := of_decide_eq_true h; show Value.int _ = Value.int v; exact congrArg Value.int this) d)
theorem r_ldcS {index e : Nat} {tx : String} {q : String × Nat × String × Nat} (C : Cx K G own cc nL ret) (hq : q ∈ NwS) (hqe : q = (own, index, tx, e)) (d : decode cc pc = .ok (.ldc index, 2)) (kk : Run K G nL cs sl Fn (pc + 2) L (.ref (G.2.2.2.2.2.2.1 e) :: st) M r) : Run K G nL cs sl Fn pc L st M r := by
  subst hqe
  have h := C.nw.2.2 _ hq
  exact fun o M' h1 hg H locs ls hls hW hS => va_ldcS C.1 C.2.1 C.2.2.2.1 h d (kk o M' h1 hg H locs ls hls hW hS)

theorem r_cNV {y : MethodName} {bytes : ByteArray} {maxL fr lo fr0 lo0 index n : Nat} {host : String} {ret' : Option FieldType} {As : List Value} {stk : List Value} {res : Option (Unit × Mem)} {f : Unit → Mem → Option (ρ × Mem)} (C : Cx K G own cc nL ret) (hRm : K.2.2.2.1.frames = fr0 ∧ K.2.2.2.1.locals = lo0) (hM : Okm K.2.1 G y bytes maxL ret' fr lo As voV M res)
    (hl : Cond.methodLinkNest own index y host ∈ NwL) (cv : CS y bytes maxL ret' n) (hn : As.length = n) (hR : fr + 1 ≤ fr0 ∧ 8 + (maxL + 11) + lo ≤ lo0)
    (hst : stk = As.reverse ++ st) (h8 : (st.map fun v => v.category).sum ≤ 8) (d : decode cc pc = .ok (.invokestatic index, 3)) (kk : ∀ (o : Unit) (M1 : Mem), Run K G nL 0 0 Fn (pc + 3) L st M1 (f o M1)) : Run K G nL 0 0 Fn pc L stk M (bnd res f) := by
  refine r_go (y := y) (vo := voV) (av := As.toArray) (fun o M1 hres H locs ls hls hW hS => ?_) kk
  have hts := C.2.2.2.2.1
  refine va_runSN (n := n) ⟨C.1, C.2.1, C.2.2.1, C.2.2.2.1, hts⟩ (hM o M1 hres) ⟨va_cnB n hts (gw_cons cv.2.1.2) rfl rfl rfl (C.nw.1 _ hl) (hts _ cv.2.1.1) cv.2.2 (by rw [hRm.1, hRm.2]; exact hR), hts _ cv.1, trivial⟩ ⟨Pcw.blind, fun U hU hWm => ⟨rfl, by rw [hU]; exact hW, C.2.2.2.2.2.1.next hS hU hWm⟩⟩ rfl hn hls.1 hst (lv_room h8) d ⟨Nat.zero_le _, Nat.zero_le _⟩
theorem r_cNI {y : MethodName} {bytes : ByteArray} {maxL fr lo fr0 lo0 index n : Nat} {host : String} {ret' : Option FieldType} {As : List Value} {stk : List Value} {res : Option (Int32 × Mem)} {f : Int32 → Mem → Option (ρ × Mem)} (C : Cx K G own cc nL ret) (hRm : K.2.2.2.1.frames = fr0 ∧ K.2.2.2.1.locals = lo0) (hM : Okm K.2.1 G y bytes maxL ret' fr lo As voI M res)
    (hl : Cond.methodLinkNest own index y host ∈ NwL) (cv : CS y bytes maxL ret' n) (hn : As.length = n) (hR : fr + 1 ≤ fr0 ∧ 8 + (maxL + 11) + lo ≤ lo0)
    (hst : stk = As.reverse ++ st) (h8 : (st.map fun v => v.category).sum ≤ 8) (d : decode cc pc = .ok (.invokestatic index, 3)) (kk : ∀ (o : Int32) (M1 : Mem), Run K G nL 0 0 Fn (pc + 3) L (.int o :: st) M1 (f o M1)) : Run K G nL 0 0 Fn pc L stk M (bnd res f) := by
  refine r_go (y := y) (vo := voI) (av := As.toArray) (fun o M1 hres H locs ls hls hW hS => ?_) kk
  have hts := C.2.2.2.2.1
  refine va_runSN (n := n) ⟨C.1, C.2.1, C.2.2.1, C.2.2.2.1, hts⟩ (hM o M1 hres) ⟨va_cnB n hts (gw_cons cv.2.1.2) rfl rfl rfl (C.nw.1 _ hl) (hts _ cv.2.1.1) cv.2.2 (by rw [hRm.1, hRm.2]; exact hR), hts _ cv.1, trivial⟩ ⟨Pcw.blind, fun U hU hWm => ⟨rfl, by rw [hU]; exact hW, C.2.2.2.2.2.1.next hS hU hWm⟩⟩ rfl hn hls.1 hst (lv_room h8) d ⟨Nat.zero_le _, Nat.zero_le _⟩
def pJ3_checkIndex_8e157 (a b : Int32) (M : Mem) : Option (Int32 × Mem) := if a < 0 then none else if a < b then some (a, M) else none
theorem lJ3_checkIndex {K : KT} {G : WT} {u : Value} (C : Cx K G "jdk/internal/util/Preconditions" cJ3_checkIndex_8e157 3 (some .int)) (a b : Int32) (M : Mem) : Run K G 3 0 0 (FinM K G voI 0 0) 0 [(0, .int a), (1, .int b), (2, u)] [] M (pJ3_checkIndex_8e157 a b M) := by
  rw [pJ3_checkIndex_8e157]
  refine r_iload_n (pc := 0) C 0 rfl rfl dJ3_checkIndex_8e157_0 ?_
  refine r_if_lt (pc := 1) C dJ3_checkIndex_8e157_1 (tgt := 9) rfl ?_ ?_
  exact r_none
  refine r_iload_n (pc := 4) C 0 rfl rfl dJ3_checkIndex_8e157_4 ?_
  refine r_iload_n (pc := 5) C 1 rfl rfl dJ3_checkIndex_8e157_5 ?_
  refine r_icmp_lt (pc := 6) C dJ3_checkIndex_8e157_6 (tgt := 16) rfl ?_ ?_
  refine r_iload_n (pc := 16) C 0 rfl rfl dJ3_checkIndex_8e157_16 ?_
  exact r_iret (pc := 17) C rfl dJ3_checkIndex_8e157_17
  exact r_none
theorem okJ3_checkIndex_8e157 {l : Launch} {G : WT} {u : Value} (hu : u = .null ∨ ∃ t, u = .ref t) (a b : Int32) (M : Mem) : Okm l G yJ3_checkIndex_8e157 cJ3_checkIndex_8e157 3 (some .int) 0 0 [.int a, .int b, u] voI M (pJ3_checkIndex_8e157 a b M) := by
  rcases hu with rfl | ⟨t, rfl⟩
  · exact Okm.of "jdk/internal/util/Preconditions" rfl (by decide) (Nat.le_of_ble_eq_true rfl) (L := [(0, .int a), (1, .int b), (2, .null)]) rfl (fun K _ hr C => lJ3_checkIndex C a b M)
  · exact Okm.of "jdk/internal/util/Preconditions" rfl (by decide) (Nat.le_of_ble_eq_true rfl) (L := [(0, .int a), (1, .int b), (2, .ref t)]) rfl (fun K _ hr C => lJ3_checkIndex C a b M)
def pJ0_checkIndex_df160 (a b : Int32) (M : Mem) : Option (Unit × Mem) := bnd (pJ3_checkIndex_8e157 a b M) fun _ M1 => some ((), M1)
theorem lJ0_checkIndex {K : KT} {G : WT} (C : Cx K G "java/lang/String" cJ0_checkIndex_df160 2 none) (hRm : K.2.2.2.1.frames = 1 ∧ K.2.2.2.1.locals = 22) (a b : Int32) (M : Mem) : Run K G 2 0 0 (FinM K G voV 0 0) 0 [(0, .int a), (1, .int b)] [] M (pJ0_checkIndex_df160 a b M) := by
  rw [pJ0_checkIndex_df160]
  refine r_iload_n (pc := 0) C 0 rfl rfl dJ0_checkIndex_df160_0 ?_
  refine r_iload_n (pc := 1) C 1 rfl rfl dJ0_checkIndex_df160_1 ?_
  refine r_gSio (pc := 2) C mw_346 dJ0_checkIndex_df160_2 (fun u hu => ?_)
  refine r_cSI (pc := 5) C hRm (okJ3_checkIndex_8e157 hu a b M) mw_348 cvJ3_checkIndex_8e157 rfl ⟨Nat.le_of_ble_eq_true rfl, Nat.le_of_ble_eq_true rfl⟩ rfl (Nat.le_of_ble_eq_true rfl) dJ0_checkIndex_df160_5 (fun o M1 => ?_)
  refine r_pop (pc := 8) C dJ0_checkIndex_df160_8 rfl ?_
  exact r_vret (pc := 9) C dJ0_checkIndex_df160_9
theorem okJ0_checkIndex_df160 {l : Launch} {G : WT} (h0 : W0 G) (a b : Int32) (M : Mem) : Okm l G yJ0_checkIndex_df160 cJ0_checkIndex_df160 2 none 1 22 [.int a, .int b] voV M (pJ0_checkIndex_df160 a b M) :=
  Okm.of "java/lang/String" rfl (by decide) (Nat.le_of_ble_eq_true rfl) (L := [(0, .int a), (1, .int b)]) rfl (fun K _ hr C => lJ0_checkIndex C (by rw [hr]; exact ⟨rfl, rfl⟩) a b M)
end GLUE2
