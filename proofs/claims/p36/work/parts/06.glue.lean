/-! ===== calls named, constants, the operations ===== -/
section GLUE
variable {ρ : Type} {K : KT} {G : WT} {own : String} {cc : ByteArray} {nL cs sl : Nat} {ret : Option FieldType} {Fn : ρ → Mem → Prop × (State → Prop)} {pc : Nat} {L L' : List (Nat × Value)} {st : List Value} {M : Mem} {r r1 r2 : Option (ρ × Mem)}
def fu : Nat := 4096
def bnd {σ ρ : Type} (res : Option (σ × Mem)) (f : σ → Mem → Option (ρ × Mem)) : Option (ρ × Mem) := res.bind (fun x => f x.1 x.2)
theorem bnd_some {σ ρ : Type} (o : σ) (M1 : Mem) (f : σ → Mem → Option (ρ × Mem)) : bnd (some (o, M1)) f = f o M1 := rfl
def swF (x : Int32) : Int32 := nI (if x.toNatClampNeg < 10 then x.toNatClampNeg + 1 else 0)
def CV (y : MethodName) (bytes : ByteArray) (maxL : Nat) (ret : Option FieldType) (n : Nat) : Prop := Cond.instanceMethod y ∈ tblG ∧ Cond.selects y.cls y y ∈ tblG ∧ Cw y bytes maxL ret ∧ (y.cls ≠ "java/lang/invoke/MethodHandle" ∧ y.cls ≠ "java/lang/invoke/VarHandle" ∧ (parseMethodDescriptor y.desc).map (fun d => d.parameters.length) = some n)
def CS (y : MethodName) (bytes : ByteArray) (maxL : Nat) (ret : Option FieldType) (n : Nat) : Prop := Cond.static y ∈ tblG ∧ Cw y bytes maxL ret ∧ (y.cls ≠ "java/lang/invoke/MethodHandle" ∧ y.cls ≠ "java/lang/invoke/VarHandle" ∧ (parseMethodDescriptor y.desc).map (fun d => d.parameters.length) = some n)
theorem r_cVV {y : MethodName} {bytes : ByteArray} {maxL fr lo fr0 lo0 index n : Nat} {ret' : Option FieldType} {As : List Value} {stk : List Value} {b : Addr} {res : Option (Unit × Mem)} {f : Unit → Mem → Option (ρ × Mem)} (C : Cx K G own cc nL ret) (hRm : K.2.2.2.1.frames = fr0 ∧ K.2.2.2.1.locals = lo0) (hM : Okm K.2.1 G y bytes maxL ret' fr lo (.ref b :: As) voV M res) (hrc : Rc K G y.cls b)
    (hl : Cond.methodLink own index y ∈ tblG) (cv : CV y bytes maxL ret' n) (hn : As.length = n) (hR : fr + 1 ≤ fr0 ∧ 8 + (maxL + 11) + lo ≤ lo0)
    (hst : stk = As.reverse ++ .ref b :: st) (h8 : (st.map fun v => v.category).sum ≤ 8) (d : decode cc pc = .ok (.invokevirtual index, 3)) (kk : ∀ (o : Unit) (M1 : Mem), Run K G nL 0 0 Fn (pc + 3) L st M1 (f o M1)) : Run K G nL 0 0 Fn pc L stk M (bnd res f) :=
  r_callV C hRm hM hrc hl cv.1 cv.2.1 cv.2.2.1 cv.2.2.2 hn hR hst h8 d kk
theorem r_cSV {y : MethodName} {bytes : ByteArray} {maxL fr lo fr0 lo0 index n : Nat} {ret' : Option FieldType} {As : List Value} {stk : List Value} {res : Option (Unit × Mem)} {f : Unit → Mem → Option (ρ × Mem)} (C : Cx K G own cc nL ret) (hRm : K.2.2.2.1.frames = fr0 ∧ K.2.2.2.1.locals = lo0) (hM : Okm K.2.1 G y bytes maxL ret' fr lo As voV M res)
    (hl : Cond.methodLink own index y ∈ tblG) (cv : CS y bytes maxL ret' n) (hn : As.length = n) (hR : fr + 1 ≤ fr0 ∧ 8 + (maxL + 11) + lo ≤ lo0)
    (hst : stk = As.reverse ++ st) (h8 : (st.map fun v => v.category).sum ≤ 8) (d : decode cc pc = .ok (.invokestatic index, 3)) (kk : ∀ (o : Unit) (M1 : Mem), Run K G nL 0 0 Fn (pc + 3) L st M1 (f o M1)) : Run K G nL 0 0 Fn pc L stk M (bnd res f) :=
  r_callS C hRm hM hl cv.1 cv.2.1 cv.2.2 hn hR hst h8 d kk
theorem r_cVI {y : MethodName} {bytes : ByteArray} {maxL fr lo fr0 lo0 index n : Nat} {ret' : Option FieldType} {As : List Value} {stk : List Value} {b : Addr} {res : Option (Int32 × Mem)} {f : Int32 → Mem → Option (ρ × Mem)} (C : Cx K G own cc nL ret) (hRm : K.2.2.2.1.frames = fr0 ∧ K.2.2.2.1.locals = lo0) (hM : Okm K.2.1 G y bytes maxL ret' fr lo (.ref b :: As) voI M res) (hrc : Rc K G y.cls b)
    (hl : Cond.methodLink own index y ∈ tblG) (cv : CV y bytes maxL ret' n) (hn : As.length = n) (hR : fr + 1 ≤ fr0 ∧ 8 + (maxL + 11) + lo ≤ lo0)
    (hst : stk = As.reverse ++ .ref b :: st) (h8 : (st.map fun v => v.category).sum ≤ 8) (d : decode cc pc = .ok (.invokevirtual index, 3)) (kk : ∀ (o : Int32) (M1 : Mem), Run K G nL 0 0 Fn (pc + 3) L (.int o :: st) M1 (f o M1)) : Run K G nL 0 0 Fn pc L stk M (bnd res f) :=
  r_callV C hRm hM hrc hl cv.1 cv.2.1 cv.2.2.1 cv.2.2.2 hn hR hst h8 d kk
theorem r_cSI {y : MethodName} {bytes : ByteArray} {maxL fr lo fr0 lo0 index n : Nat} {ret' : Option FieldType} {As : List Value} {stk : List Value} {res : Option (Int32 × Mem)} {f : Int32 → Mem → Option (ρ × Mem)} (C : Cx K G own cc nL ret) (hRm : K.2.2.2.1.frames = fr0 ∧ K.2.2.2.1.locals = lo0) (hM : Okm K.2.1 G y bytes maxL ret' fr lo As voI M res)
    (hl : Cond.methodLink own index y ∈ tblG) (cv : CS y bytes maxL ret' n) (hn : As.length = n) (hR : fr + 1 ≤ fr0 ∧ 8 + (maxL + 11) + lo ≤ lo0)
    (hst : stk = As.reverse ++ st) (h8 : (st.map fun v => v.category).sum ≤ 8) (d : decode cc pc = .ok (.invokestatic index, 3)) (kk : ∀ (o : Int32) (M1 : Mem), Run K G nL 0 0 Fn (pc + 3) L (.int o :: st) M1 (f o M1)) : Run K G nL 0 0 Fn pc L stk M (bnd res f) :=
  r_callS C hRm hM hl cv.1 cv.2.1 cv.2.2 hn hR hst h8 d kk
theorem r_cVJ {y : MethodName} {bytes : ByteArray} {maxL fr lo fr0 lo0 index n : Nat} {ret' : Option FieldType} {As : List Value} {stk : List Value} {b : Addr} {res : Option (Int64 × Mem)} {f : Int64 → Mem → Option (ρ × Mem)} (C : Cx K G own cc nL ret) (hRm : K.2.2.2.1.frames = fr0 ∧ K.2.2.2.1.locals = lo0) (hM : Okm K.2.1 G y bytes maxL ret' fr lo (.ref b :: As) voL M res) (hrc : Rc K G y.cls b)
    (hl : Cond.methodLink own index y ∈ tblG) (cv : CV y bytes maxL ret' n) (hn : As.length = n) (hR : fr + 1 ≤ fr0 ∧ 8 + (maxL + 11) + lo ≤ lo0)
    (hst : stk = As.reverse ++ .ref b :: st) (h8 : (st.map fun v => v.category).sum ≤ 8) (d : decode cc pc = .ok (.invokevirtual index, 3)) (kk : ∀ (o : Int64) (M1 : Mem), Run K G nL 0 0 Fn (pc + 3) L (.long o :: st) M1 (f o M1)) : Run K G nL 0 0 Fn pc L stk M (bnd res f) :=
  r_callV C hRm hM hrc hl cv.1 cv.2.1 cv.2.2.1 cv.2.2.2 hn hR hst h8 d kk
theorem r_cSJ {y : MethodName} {bytes : ByteArray} {maxL fr lo fr0 lo0 index n : Nat} {ret' : Option FieldType} {As : List Value} {stk : List Value} {res : Option (Int64 × Mem)} {f : Int64 → Mem → Option (ρ × Mem)} (C : Cx K G own cc nL ret) (hRm : K.2.2.2.1.frames = fr0 ∧ K.2.2.2.1.locals = lo0) (hM : Okm K.2.1 G y bytes maxL ret' fr lo As voL M res)
    (hl : Cond.methodLink own index y ∈ tblG) (cv : CS y bytes maxL ret' n) (hn : As.length = n) (hR : fr + 1 ≤ fr0 ∧ 8 + (maxL + 11) + lo ≤ lo0)
    (hst : stk = As.reverse ++ st) (h8 : (st.map fun v => v.category).sum ≤ 8) (d : decode cc pc = .ok (.invokestatic index, 3)) (kk : ∀ (o : Int64) (M1 : Mem), Run K G nL 0 0 Fn (pc + 3) L (.long o :: st) M1 (f o M1)) : Run K G nL 0 0 Fn pc L stk M (bnd res f) :=
  r_callS C hRm hM hl cv.1 cv.2.1 cv.2.2 hn hR hst h8 d kk
theorem r_cVF {y : MethodName} {bytes : ByteArray} {maxL fr lo fr0 lo0 index n : Nat} {ret' : Option FieldType} {As : List Value} {stk : List Value} {b : Addr} {res : Option (UInt32 × Mem)} {f : UInt32 → Mem → Option (ρ × Mem)} (C : Cx K G own cc nL ret) (hRm : K.2.2.2.1.frames = fr0 ∧ K.2.2.2.1.locals = lo0) (hM : Okm K.2.1 G y bytes maxL ret' fr lo (.ref b :: As) voF M res) (hrc : Rc K G y.cls b)
    (hl : Cond.methodLink own index y ∈ tblG) (cv : CV y bytes maxL ret' n) (hn : As.length = n) (hR : fr + 1 ≤ fr0 ∧ 8 + (maxL + 11) + lo ≤ lo0)
    (hst : stk = As.reverse ++ .ref b :: st) (h8 : (st.map fun v => v.category).sum ≤ 8) (d : decode cc pc = .ok (.invokevirtual index, 3)) (kk : ∀ (o : UInt32) (M1 : Mem), Run K G nL 0 0 Fn (pc + 3) L (.float o :: st) M1 (f o M1)) : Run K G nL 0 0 Fn pc L stk M (bnd res f) :=
  r_callV C hRm hM hrc hl cv.1 cv.2.1 cv.2.2.1 cv.2.2.2 hn hR hst h8 d kk
theorem r_cSF {y : MethodName} {bytes : ByteArray} {maxL fr lo fr0 lo0 index n : Nat} {ret' : Option FieldType} {As : List Value} {stk : List Value} {res : Option (UInt32 × Mem)} {f : UInt32 → Mem → Option (ρ × Mem)} (C : Cx K G own cc nL ret) (hRm : K.2.2.2.1.frames = fr0 ∧ K.2.2.2.1.locals = lo0) (hM : Okm K.2.1 G y bytes maxL ret' fr lo As voF M res)
    (hl : Cond.methodLink own index y ∈ tblG) (cv : CS y bytes maxL ret' n) (hn : As.length = n) (hR : fr + 1 ≤ fr0 ∧ 8 + (maxL + 11) + lo ≤ lo0)
    (hst : stk = As.reverse ++ st) (h8 : (st.map fun v => v.category).sum ≤ 8) (d : decode cc pc = .ok (.invokestatic index, 3)) (kk : ∀ (o : UInt32) (M1 : Mem), Run K G nL 0 0 Fn (pc + 3) L (.float o :: st) M1 (f o M1)) : Run K G nL 0 0 Fn pc L stk M (bnd res f) :=
  r_callS C hRm hM hl cv.1 cv.2.1 cv.2.2 hn hR hst h8 d kk
theorem r_cVD {y : MethodName} {bytes : ByteArray} {maxL fr lo fr0 lo0 index n : Nat} {ret' : Option FieldType} {As : List Value} {stk : List Value} {b : Addr} {res : Option (UInt64 × Mem)} {f : UInt64 → Mem → Option (ρ × Mem)} (C : Cx K G own cc nL ret) (hRm : K.2.2.2.1.frames = fr0 ∧ K.2.2.2.1.locals = lo0) (hM : Okm K.2.1 G y bytes maxL ret' fr lo (.ref b :: As) voD M res) (hrc : Rc K G y.cls b)
    (hl : Cond.methodLink own index y ∈ tblG) (cv : CV y bytes maxL ret' n) (hn : As.length = n) (hR : fr + 1 ≤ fr0 ∧ 8 + (maxL + 11) + lo ≤ lo0)
    (hst : stk = As.reverse ++ .ref b :: st) (h8 : (st.map fun v => v.category).sum ≤ 8) (d : decode cc pc = .ok (.invokevirtual index, 3)) (kk : ∀ (o : UInt64) (M1 : Mem), Run K G nL 0 0 Fn (pc + 3) L (.double o :: st) M1 (f o M1)) : Run K G nL 0 0 Fn pc L stk M (bnd res f) :=
  r_callV C hRm hM hrc hl cv.1 cv.2.1 cv.2.2.1 cv.2.2.2 hn hR hst h8 d kk
theorem r_cSD {y : MethodName} {bytes : ByteArray} {maxL fr lo fr0 lo0 index n : Nat} {ret' : Option FieldType} {As : List Value} {stk : List Value} {res : Option (UInt64 × Mem)} {f : UInt64 → Mem → Option (ρ × Mem)} (C : Cx K G own cc nL ret) (hRm : K.2.2.2.1.frames = fr0 ∧ K.2.2.2.1.locals = lo0) (hM : Okm K.2.1 G y bytes maxL ret' fr lo As voD M res)
    (hl : Cond.methodLink own index y ∈ tblG) (cv : CS y bytes maxL ret' n) (hn : As.length = n) (hR : fr + 1 ≤ fr0 ∧ 8 + (maxL + 11) + lo ≤ lo0)
    (hst : stk = As.reverse ++ st) (h8 : (st.map fun v => v.category).sum ≤ 8) (d : decode cc pc = .ok (.invokestatic index, 3)) (kk : ∀ (o : UInt64) (M1 : Mem), Run K G nL 0 0 Fn (pc + 3) L (.double o :: st) M1 (f o M1)) : Run K G nL 0 0 Fn pc L stk M (bnd res f) :=
  r_callS C hRm hM hl cv.1 cv.2.1 cv.2.2 hn hR hst h8 d kk
theorem r_cVR {y : MethodName} {bytes : ByteArray} {maxL fr lo fr0 lo0 index n : Nat} {ret' : Option FieldType} {As : List Value} {stk : List Value} {b : Addr} {res : Option ((Nat × Nat) × Mem)} {f : (Nat × Nat) → Mem → Option (ρ × Mem)} (C : Cx K G own cc nL ret) (hRm : K.2.2.2.1.frames = fr0 ∧ K.2.2.2.1.locals = lo0) (hM : Okm K.2.1 G y bytes maxL ret' fr lo (.ref b :: As) (voR G 5) M res) (hrc : Rc K G y.cls b)
    (hl : Cond.methodLink own index y ∈ tblG) (cv : CV y bytes maxL ret' n) (hn : As.length = n) (hR : fr + 1 ≤ fr0 ∧ 8 + (maxL + 11) + lo ≤ lo0)
    (hst : stk = As.reverse ++ .ref b :: st) (h8 : (st.map fun v => v.category).sum ≤ 8) (d : decode cc pc = .ok (.invokevirtual index, 3)) (kk : ∀ (o : (Nat × Nat)) (M1 : Mem), Run K G nL 0 0 Fn (pc + 3) L (.ref (G.1 5 o.1 o.2) :: st) M1 (f o M1)) : Run K G nL 0 0 Fn pc L stk M (bnd res f) :=
  r_callV C hRm hM hrc hl cv.1 cv.2.1 cv.2.2.1 cv.2.2.2 hn hR hst h8 d kk
theorem r_cSR {y : MethodName} {bytes : ByteArray} {maxL fr lo fr0 lo0 index n : Nat} {ret' : Option FieldType} {As : List Value} {stk : List Value} {res : Option ((Nat × Nat) × Mem)} {f : (Nat × Nat) → Mem → Option (ρ × Mem)} (C : Cx K G own cc nL ret) (hRm : K.2.2.2.1.frames = fr0 ∧ K.2.2.2.1.locals = lo0) (hM : Okm K.2.1 G y bytes maxL ret' fr lo As (voR G 5) M res)
    (hl : Cond.methodLink own index y ∈ tblG) (cv : CS y bytes maxL ret' n) (hn : As.length = n) (hR : fr + 1 ≤ fr0 ∧ 8 + (maxL + 11) + lo ≤ lo0)
    (hst : stk = As.reverse ++ st) (h8 : (st.map fun v => v.category).sum ≤ 8) (d : decode cc pc = .ok (.invokestatic index, 3)) (kk : ∀ (o : (Nat × Nat)) (M1 : Mem), Run K G nL 0 0 Fn (pc + 3) L (.ref (G.1 5 o.1 o.2) :: st) M1 (f o M1)) : Run K G nL 0 0 Fn pc L stk M (bnd res f) :=
  r_callS C hRm hM hl cv.1 cv.2.1 cv.2.2 hn hR hst h8 d kk
theorem Rc.op {e : Nat} (C : Cx K G own cc nL ret) (he : e < 11) : Rc K G "PermitPark$Op" (G.2.2.2.2.2.1 e) := fun M H locs hW hS => by
  obtain ⟨cell, h1, h2, h3, -⟩ := ((C.ext.2.2.1 e he).1).kept hS.2.1
  exact ⟨cell, h1, h2, h3⟩
/-! statics -/
theorem r_gOps {index : Nat} (C : Cx K G own cc nL ret) (hl : Cond.fieldLink own index "PermitPark" "OPS" "[LPermitPark$Op;" ∈ tblG) (d : decode cc pc = .ok (.getstatic index, 3)) (kk : Run K G nL cs sl Fn (pc + 3) L (.ref (G.2.2.2.2.2.1 100) :: st) M r) : Run K G nL cs sl Fn pc L st M r := r_gets C C.ext.1 hl d kk
theorem r_gOpsN {index : Nat} {host : String} (C : Cx K G own cc nL ret) (hl : Cond.fieldLinkNest own index "PermitPark" "OPS" "[LPermitPark$Op;" host ∈ NwL) (d : decode cc pc = .ok (.getstatic index, 3)) (kk : Run K G nL cs sl Fn (pc + 3) L (.ref (G.2.2.2.2.2.1 100) :: st) M r) : Run K G nL cs sl Fn pc L st M r := r_getsN C C.ext.1 (C.nw.1 _ hl) d kk
theorem r_gSw {index : Nat} (C : Cx K G own cc nL ret) (hl : Cond.fieldLink own index "PermitPark$1" "$SwitchMap$PermitPark$Op" "[I" ∈ tblG) (d : decode cc pc = .ok (.getstatic index, 3)) (kk : Run K G nL cs sl Fn (pc + 3) L (.ref (G.2.2.2.2.2.1 101) :: st) M r) : Run K G nL cs sl Fn pc L st M r := r_gets C C.ext.2.2.2.2.2.1 hl d kk
theorem r_opsL {x : Int32} (C : Cx K G own cc nL ret) (d : decode cc pc = .ok (.aaload, 1)) (kk : x.toNatClampNeg < 11 → Run K G nL cs sl Fn (pc + 1) L (.ref (G.2.2.2.2.2.1 x.toNatClampNeg) :: st) M r) : Run K G nL cs sl Fn pc L (.int x :: .ref (G.2.2.2.2.2.1 100) :: st) M (chk (inB x 11) r) := r_tq C C.ext.2.1 d kk
theorem r_opsN (C : Cx K G own cc nL ret) (d : decode cc pc = .ok (.arraylength, 1)) (kk : Run K G nL cs sl Fn (pc + 1) L (.int (11 : Int32) :: st) M r) : Run K G nL cs sl Fn pc L (.ref (G.2.2.2.2.2.1 100) :: st) M r := r_tlen C C.ext.2.1 d kk
theorem r_swL {x : Int32} (C : Cx K G own cc nL ret) (d : decode cc pc = .ok (.iaload, 1)) (kk : Run K G nL cs sl Fn (pc + 1) L (.int (swF x) :: st) M r) : Run K G nL cs sl Fn pc L (.int x :: .ref (G.2.2.2.2.2.1 101) :: st) M (chk (inB x 11) r) := r_ti C C.ext.2.2.2.2.2.2.1 d kk
theorem r_opOrd {e index : Nat} (C : Cx K G own cc nL ret) (he : e < 11) (hl : Cond.fieldLink own index "java/lang/Enum" "ordinal" "I" ∈ tblG) (d : decode cc pc = .ok (.getfield index, 3)) (kk : Run K G nL cs sl Fn (pc + 3) L (.int (nI e) :: st) M r) : Run K G nL cs sl Fn pc L (.ref (G.2.2.2.2.2.1 e) :: st) M r := r_getx C (C.ext.2.2.1 e he).2.1 hl d kk
theorem r_opLeast {e index : Nat} (C : Cx K G own cc nL ret) (he : e < 11) (hl : Cond.fieldLink own index "PermitPark$Op" "least" "I" ∈ tblG) (d : decode cc pc = .ok (.getfield index, 3)) (kk : Run K G nL cs sl Fn (pc + 3) L (.int (xLeast.getD e 0) :: st) M r) : Run K G nL cs sl Fn pc L (.ref (G.2.2.2.2.2.1 e) :: st) M r := r_getx C (C.ext.2.2.1 e he).2.2.2.1 hl d kk
theorem r_opMost {e index : Nat} (C : Cx K G own cc nL ret) (he : e < 11) (hl : Cond.fieldLink own index "PermitPark$Op" "most" "I" ∈ tblG) (d : decode cc pc = .ok (.getfield index, 3)) (kk : Run K G nL cs sl Fn (pc + 3) L (.int (xMost.getD e 0) :: st) M r) : Run K G nL cs sl Fn pc L (.ref (G.2.2.2.2.2.1 e) :: st) M r := r_getx C (C.ext.2.2.1 e he).2.2.2.2 hl d kk
theorem dm5 {k : Nat} {o : Nat × Nat} (C : Cx K G own cc nL ret) (hd : G.2.2.2.1 3 k 0) (h : decide (o.1 = k ∧ o.2 < 10) = true) : G.2.2.2.1 5 o.1 o.2 := by
  obtain ⟨h1, h2⟩ := of_decide_eq_true h
  have hA := C.2.2.2.2.2.1.2.1.2.2
  have h4 : G.2.2.2.1 4 k 0 := hA 3 k 0 0 (4, k, 0) hd (Or.inl ⟨2, 16, rfl, by omega⟩) rfl
  rw [h1]
  exact hA 4 k 0 o.2 (5, k, o.2) h4 (Or.inr ⟨3, 10, rfl, h2⟩) rfl
/-! tables of jumps -/
theorem r_tabE {dflt lo hi : Int} {offs : Array Int} {len : Nat} {x c : Int32} {off : Int} {tgt : Nat} (C : Cx K G own cc nL ret) (e : x = c) (d : decode cc pc = .ok (.tableswitch dflt lo hi offs, len)) (h1 : ¬ c.toInt < lo) (h2 : ¬ hi < c.toInt) (ho : offs[(c.toInt - lo).toNat]? = some off) (ht : (pc : Int) + off = (tgt : Int)) (k : Run K G nL cs sl Fn tgt L st M r) : Run K G nL cs sl Fn pc L (.int x :: st) M r := by
  subst e
  exact r_tabIn C d h1 h2 ho ht k
theorem tabN_nil {x : Int32} : ∀ c ∈ ([] : List Int32), ¬ x = c := fun _ h => nomatch h
theorem tabN_cons {x c : Int32} {cs : List Int32} (h : ¬ x = c) (h2 : ∀ c ∈ cs, ¬ x = c) : ∀ c' ∈ c :: cs, ¬ x = c' := fun c' hc => by
  rcases List.mem_cons.mp hc with rfl | hc
  · exact h
  · exact h2 c' hc
theorem r_tabD {dflt lo hi : Int} {offs : Array Int} {len : Nat} {x : Int32} {tgt : Nat} {cz : List Int32} (C : Cx K G own cc nL ret) (hx : ∀ c ∈ cz, ¬ x = c) (d : decode cc pc = .ok (.tableswitch dflt lo hi offs, len)) (hall : ∀ i : Nat, i < (hi - lo + 1).toNat → Int32.ofInt (lo + i) ∈ cz) (ht : (pc : Int) + dflt = (tgt : Int)) (k : Run K G nL cs sl Fn tgt L st M r) : Run K G nL cs sl Fn pc L (.int x :: st) M r := by
  refine r_tabOut C d ?_ ht k
  by_cases h1 : x.toInt < lo
  · exact Or.inl h1
  · by_cases h2 : hi < x.toInt
    · exact Or.inr h2
    · exfalso
      have := hx _ (hall (x.toInt - lo).toNat (by omega))
      refine this ?_
      have e : lo + ((x.toInt - lo).toNat : Int) = x.toInt := by omega
      rw [e]
      exact (Int32.ofInt_toInt x).symm
end GLUE
