/-! ===== what never changes in the heap, and pictures of runs ===== -/
def Ext (G : WT) (U : State) (H : Heap) : Prop :=
  va_Z "PermitPark" "OPS" "[LPermitPark$Op;" (.ref (G.2.2.2.2.2.1 100)) G.2.2.2.2.1 U H ∧
  va_T (.object "PermitPark$Op") (G.2.2.2.2.2.1 100) 11 (fun j => .ref (G.2.2.2.2.2.1 j)) G.2.2.2.2.1 U H ∧
  (∀ i, i < 11 → va_O "PermitPark$Op" (G.2.2.2.2.2.1 i) G.2.2.2.2.1 U H ∧ va_OF "java/lang/Enum" "ordinal" "I" (.int (nI i)) (G.2.2.2.2.2.1 i) G.2.2.2.2.1 U H ∧
    True ∧
    va_OF "PermitPark$Op" "least" "I" (.int (xLeast.getD i 0)) (G.2.2.2.2.2.1 i) G.2.2.2.2.1 U H ∧ va_OF "PermitPark$Op" "most" "I" (.int (xMost.getD i 0)) (G.2.2.2.2.2.1 i) G.2.2.2.2.1 U H) ∧
  (∀ i j, i < 11 → j < 11 → G.2.2.2.2.2.1 i = G.2.2.2.2.2.1 j → i = j) ∧
  True ∧
  va_Z "PermitPark$1" "$SwitchMap$PermitPark$Op" "[I" (.ref (G.2.2.2.2.2.1 101)) G.2.2.2.2.1 U H ∧
  va_T .int (G.2.2.2.2.2.1 101) 11 (fun j => .int (nI (if j < 10 then j + 1 else 0))) G.2.2.2.2.1 U H ∧
  va_T .int (G.2.2.2.2.2.1 102) (G.2.2.2.2.2.1 103) (fun j => .int (nI (G.2.2.2.2.2.2.2 j))) G.2.2.2.2.1 U H ∧
  True ∧ True ∧
  vx_Zq Bundle.tN "UNASSIGNED_STACK" Bundle.steD G.2.2.2.2.1 U H ∧ vx_Zq Bundle.tN "SUPPRESSED_SENTINEL" Bundle.listD G.2.2.2.2.1 U H
theorem Ext.moved {G : WT} {u U : State} {H : Heap} (hvm : u.vm.Alike U.vm) (h : Ext G u H) : Ext G U H := by
  obtain ⟨h1, h2, h3, h4, h5, h6, h7, h8, h9, h10, h11, h12⟩ := h
  exact ⟨h1.moved hvm, h2.moved hvm, fun i hi => ⟨(h3 i hi).1.moved hvm, (h3 i hi).2.1.moved hvm, trivial, (h3 i hi).2.2.2.1.moved hvm, (h3 i hi).2.2.2.2.moved hvm⟩, h4, trivial, h6.moved hvm, h7.moved hvm, h8.moved hvm, trivial, trivial, h11.moved hvm, h12.moved hvm⟩
theorem Ext.kept {G : WT} {U : State} {H H1 : Heap} (h : Ext G U H) (hq : ∀ a : Nat, a < H.size → ¬ G.2.2.2.2.1 a → H1[a]? = H[a]?) : Ext G U H1 := by
  obtain ⟨h1, h2, h3, h4, h5, h6, h7, h8, h9, h10, h11, h12⟩ := h
  exact ⟨h1.kept hq, h2.kept hq, fun i hi => ⟨(h3 i hi).1.kept hq, (h3 i hi).2.1.kept hq, trivial, (h3 i hi).2.2.2.1.kept hq, (h3 i hi).2.2.2.2.kept hq⟩, h4, trivial, h6.kept hq, h7.kept hq, h8.kept hq, trivial, trivial, h11.kept hq, h12.kept hq⟩
/-- words that no list carries -/
def NwL : List Cond := [(Jvm.Cond.methodLinkNest "PermitPark" (9 : Nat) ({ cls := "PermitPark$SetupText", name := "<init>", desc := "()V" } : Jvm.MethodName) "PermitPark"), (Jvm.Cond.methodLinkNest "PermitPark$Machine" (19 : Nat) ({ cls := "PermitPark$Locks", name := "<init>", desc := "()V" } : Jvm.MethodName) "PermitPark"), (Jvm.Cond.methodLinkNest "PermitPark$Machine" (26 : Nat) ({ cls := "PermitPark$Log", name := "<init>", desc := "()V" } : Jvm.MethodName) "PermitPark"), (Jvm.Cond.methodLinkNest "PermitPark$Machine" (38 : Nat) ({ cls := "PermitPark$Strand", name := "<init>", desc := "()V" } : Jvm.MethodName) "PermitPark"), (Jvm.Cond.fieldLinkNest "PermitPark$Machine" (201 : Nat) "PermitPark" "OPS" "[LPermitPark$Op;" "PermitPark"), (Jvm.Cond.castable "java/lang/IllegalArgumentException" "java/lang/IllegalArgumentException"), (Jvm.Cond.castable "java/lang/IllegalStateException" "java/lang/IllegalStateException"), (Jvm.Cond.castable "java/lang/IndexOutOfBoundsException" "java/lang/IndexOutOfBoundsException"), (Jvm.Cond.declares ({ cls := "java/lang/Enum", name := "ordinal", desc := "()I" } : Jvm.MethodName))]
def NwS : List (String × Nat × String × Nat) := [("PermitPark", 244, "a value is out of range", 14), ("PermitPark", 86, "there are 10 threads", 15), ("PermitPark", 237, "there is no such thing", 16), ("PermitPark", 108, "the program is full or at its end", 17), ("PermitPark", 240, "an index is negative", 18), ("PermitPark", 233, "nothing is saved there", 19)]
def NwC : List (String × String) := [("java/lang/IllegalStateException", "java/lang/IllegalArgumentException"), ("java/lang/IllegalStateException", "java/lang/IndexOutOfBoundsException"), ("java/lang/IllegalArgumentException", "java/lang/IllegalStateException"), ("java/lang/IllegalArgumentException", "java/lang/IndexOutOfBoundsException"), ("java/lang/IndexOutOfBoundsException", "java/lang/IllegalStateException"), ("java/lang/IndexOutOfBoundsException", "java/lang/IllegalArgumentException")]
def Nw (G : WT) (U : State) : Prop := (∀ w ∈ NwL, va_Nw w U) ∧ (∀ q ∈ NwC, va_Nc q.1 q.2 U) ∧ (∀ q ∈ NwS, vk_R q.1 q.2.1 q.2.2.1 (G.2.2.2.2.2.2.1 q.2.2.2) U)
theorem Nw.warm {G : WT} {s U : State} (hW : s.WarmedH U.vm) (h : Nw G s) : Nw G U := by
  refine ⟨fun w hw => ?_, fun q hq => (h.2.1 q hq).moved hW.alike, fun q hq => (h.2.2 q hq).warm hW⟩
  have hz := h.1 w hw
  simp only [NwL, List.mem_cons, List.not_mem_nil, or_false] at hw
  rcases hw with rfl | rfl | rfl | rfl | rfl | rfl | rfl | rfl | rfl
  · exact hz.warmM hW
  · exact hz.warmM hW
  · exact hz.warmM hW
  · exact hz.warmM hW
  · exact hz.warmF hW
  · exact hz.warmC hW
  · exact hz.warmC hW
  · exact hz.warmC hW
  · exact hz.warmD hW
def Ws (G : WT) (U : State) : Prop := va_K G.2.1 wCl (tysOf G.2.2.1) U ∧ Wa G ∧ Ext G U U.heap ∧ Nw G U
abbrev KT : Type := Program × Launch × Env × Room × State × MethodId × Array Value × List Frame × Method × Code
abbrev KT.s (K : KT) : State := K.2.2.2.2.1
def Cx (K : KT) (G : WT) (own : String) (cc : ByteArray) (nL : Nat) (ret : Option FieldType) : Prop :=
  K.1.tables.exec = Jvm.exec ∧ K.2.2.2.2.2.2.2.2.2.code = cc ∧ K.2.2.2.2.2.2.2.2.2.maxLocals = nL ∧ K.2.2.2.2.1.vm.findClass own = some K.2.2.2.2.2.1.cls ∧ (∀ w ∈ tblG, w.before K.2.2.2.2.2.2.1 K.2.2.2.2.1 = true) ∧ Ws G K.2.2.2.2.1 ∧ K.2.2.2.2.2.2.2.2.1.locks = false ∧ K.2.2.2.2.2.2.2.2.1.sig.returnType = ret
def Run {ρ : Type} (K : KT) (G : WT) (nL cs sl : Nat) (Fn : ρ → Mem → Prop × (State → Prop)) (pc : Nat) (L : List (Nat × Value)) (st : List Value) (M : Mem) (r : Option (ρ × Mem)) : Prop :=
  ∀ (o : ρ) (M' : Mem), r = some (o, M') → (Fn o M').1 → ∀ (H : Heap) (locs : List Loc) (ls : Array Slot), lv_has ls nL L → Wd G M H → va_S G.2.2.2.2.1 K.2.2.2.2.1.heap H locs →
    W K.1 K.2.1 K.2.2.1 K.2.2.2.1 K.2.2.2.2.1 K.2.2.2.2.2.1 K.2.2.2.2.2.2.1 K.2.2.2.2.2.2.2.1 K.2.2.2.2.2.2.2.2.1 K.2.2.2.2.2.2.2.2.2 H locs cs sl (Fn o M').2 (F0 K.2.2.2.2.2.1 pc ls st)
section RROWS
variable {ρ : Type} {K : KT} {G : WT} {own : String} {cc : ByteArray} {nL cs sl : Nat} {ret : Option FieldType} {Fn : ρ → Mem → Prop × (State → Prop)} {pc : Nat} {L L' : List (Nat × Value)} {st : List Value} {M : Mem} {r r1 r2 : Option (ρ × Mem)}
theorem Cx.w (C : Cx K G own cc nL ret) {w : Cond} (h : w ∈ tblG) : w.before K.2.2.2.2.2.2.1 K.2.2.2.2.1 = true := C.2.2.2.2.1 w h
theorem r_none : Run K G nL cs sl Fn pc L st M none := fun o M' h => by cases h
/-- a value named -/
theorem r_nmi {x : Int32} {f : Int32 → Option (ρ × Mem)} (k : ∀ y : Int32, Run K G nL cs sl Fn pc L (.int y :: st) M (f y)) : Run K G nL cs sl Fn pc L (.int x :: st) M (nm x f) := k x
theorem r_nml {x : Int64} {f : Int64 → Option (ρ × Mem)} (k : ∀ y : Int64, Run K G nL cs sl Fn pc L (.long y :: st) M (f y)) : Run K G nL cs sl Fn pc L (.long x :: st) M (nm x f) := k x
theorem r_sub (ks : List Nat) (hl : lv_pick L ks = L') (k : Run K G nL cs sl Fn pc L' st M r) : Run K G nL cs sl Fn pc L st M r := fun o M' h hg H locs ls h1 => k o M' h hg H locs ls (lv_sub h1 ks hl)
theorem r_ite {c : Prop} [Decidable c] (h1 : c → Run K G nL cs sl Fn pc L st M r1) (h2 : ¬ c → Run K G nL cs sl Fn pc L st M r2) : Run K G nL cs sl Fn pc L st M (if c then r1 else r2) := by
  by_cases h : c
  · rw [if_pos h]; exact h1 h
  · rw [if_neg h]; exact h2 h
theorem r_chk {b : Bool} (h1 : b = true → Run K G nL cs sl Fn pc L st M r) : Run K G nL cs sl Fn pc L st M (chk b r) := fun o M' h => h1 (chk_some h).1 o M' (chk_some h).2
theorem r_iconst (C : Cx K G own cc nL ret) {n : Int} {v : Int32} (d : decode cc pc = .ok (.iconst n, 1)) (hv : Int32.ofInt n = v) (k : Run K G nL cs sl Fn (pc + 1) L (.int v :: st) M r) : Run K G nL cs sl Fn pc L (st) M r := fun o M' h hg H locs ls hl hW hS => lv_iconst C.1 C.2.1 d hv (k o M' h hg H locs ls hl hW hS)
theorem r_bipush (C : Cx K G own cc nL ret) {n : Int} {v : Int32} (d : decode cc pc = .ok (.bipush n, 2)) (hv : (Int8.ofInt n).toInt32 = v) (k : Run K G nL cs sl Fn (pc + 2) L (.int v :: st) M r) : Run K G nL cs sl Fn pc L (st) M r := fun o M' h hg H locs ls hl hW hS => lv_bipush C.1 C.2.1 d hv (k o M' h hg H locs ls hl hW hS)
theorem r_sipush (C : Cx K G own cc nL ret) {n : Int} {v : Int32} (d : decode cc pc = .ok (.sipush n, 3)) (hv : (Int16.ofInt n).toInt32 = v) (k : Run K G nL cs sl Fn (pc + 3) L (.int v :: st) M r) : Run K G nL cs sl Fn pc L (st) M r := fun o M' h hg H locs ls hl hW hS => lv_sipush C.1 C.2.1 d hv (k o M' h hg H locs ls hl hW hS)
theorem r_fconst1 (C : Cx K G own cc nL ret) (d : decode cc pc = .ok (.fconst 1, 1)) (k : Run K G nL cs sl Fn (pc + 1) L (.float FP.fconst1 :: st) M r) : Run K G nL cs sl Fn pc L (st) M r := fun o M' h hg H locs ls hl hW hS => lv_fconst1 C.1 C.2.1 d (k o M' h hg H locs ls hl hW hS)
theorem r_iushr (C : Cx K G own cc nL ret) {x y : Int32} (d : decode cc pc = .ok (.iushr, 1)) (k : Run K G nL cs sl Fn (pc + 1) L (.int ((x.toUInt32 >>> (y.toUInt32 &&& Int32.toUInt32 31)).toInt32) :: st) M r) : Run K G nL cs sl Fn pc L (.int y :: .int x :: st) M r := fun o M' h hg H locs ls hl hW hS => lv_iushr C.1 C.2.1 d rfl (k o M' h hg H locs ls hl hW hS)
theorem r_lconst (C : Cx K G own cc nL ret) {n : Fin 2} {v : Int64} (d : decode cc pc = .ok (.lconst n, 1)) (hv : Int64.ofNat (n : Nat) = v) (k : Run K G nL cs sl Fn (pc + 1) L (.long v :: st) M r) : Run K G nL cs sl Fn pc L (st) M r := fun o M' h hg H locs ls hl hW hS => lv_lconst C.1 C.2.1 d hv (k o M' h hg H locs ls hl hW hS)
theorem r_fconst0 (C : Cx K G own cc nL ret) (d : decode cc pc = .ok (.fconst 0, 1)) (k : Run K G nL cs sl Fn (pc + 1) L (.float FP.fconst0 :: st) M r) : Run K G nL cs sl Fn pc L (st) M r := fun o M' h hg H locs ls hl hW hS => lv_fconst0 C.1 C.2.1 d (k o M' h hg H locs ls hl hW hS)
theorem r_dconst0 (C : Cx K G own cc nL ret) (d : decode cc pc = .ok (.dconst 0, 1)) (k : Run K G nL cs sl Fn (pc + 1) L (.double FP.dconst0 :: st) M r) : Run K G nL cs sl Fn pc L (st) M r := fun o M' h hg H locs ls hl hW hS => lv_dconst0 C.1 C.2.1 d (k o M' h hg H locs ls hl hW hS)
theorem r_iload_n (C : Cx K G own cc nL ret) {kk : Fin 4} {i : Nat} {x : Int32} (p : Nat) (hp : L[p]? = some (i, .int x)) (hi : (kk : Nat) = i) (d : decode cc pc = .ok (.iload_n kk, 1)) (k : Run K G nL cs sl Fn (pc + 1) L (.int x :: st) M r) : Run K G nL cs sl Fn pc L (st) M r := fun o M' h hg H locs ls hl hW hS => lv_iload_n C.1 C.2.1 d hi (lv_at hl p hp) (k o M' h hg H locs ls hl hW hS)
theorem r_iload (C : Cx K G own cc nL ret) {i : Nat} {x : Int32} (p : Nat) (hp : L[p]? = some (i, .int x)) (d : decode cc pc = .ok (.iload i, 2)) (k : Run K G nL cs sl Fn (pc + 2) L (.int x :: st) M r) : Run K G nL cs sl Fn pc L (st) M r := fun o M' h hg H locs ls hl hW hS => lv_iload C.1 C.2.1 d (lv_at hl p hp) (k o M' h hg H locs ls hl hW hS)
theorem r_lload_n (C : Cx K G own cc nL ret) {kk : Fin 4} {i : Nat} {x : Int64} (p : Nat) (hp : L[p]? = some (i, .long x)) (hi : (kk : Nat) = i) (d : decode cc pc = .ok (.lload_n kk, 1)) (k : Run K G nL cs sl Fn (pc + 1) L (.long x :: st) M r) : Run K G nL cs sl Fn pc L (st) M r := fun o M' h hg H locs ls hl hW hS => lv_lload_n C.1 C.2.1 d hi (lv_at hl p hp) (k o M' h hg H locs ls hl hW hS)
theorem r_lload (C : Cx K G own cc nL ret) {i : Nat} {x : Int64} (p : Nat) (hp : L[p]? = some (i, .long x)) (d : decode cc pc = .ok (.lload i, 2)) (k : Run K G nL cs sl Fn (pc + 2) L (.long x :: st) M r) : Run K G nL cs sl Fn pc L (st) M r := fun o M' h hg H locs ls hl hW hS => lv_lload C.1 C.2.1 d (lv_at hl p hp) (k o M' h hg H locs ls hl hW hS)
theorem r_fload_n (C : Cx K G own cc nL ret) {kk : Fin 4} {i : Nat} {x : UInt32} (p : Nat) (hp : L[p]? = some (i, .float x)) (hi : (kk : Nat) = i) (d : decode cc pc = .ok (.fload_n kk, 1)) (k : Run K G nL cs sl Fn (pc + 1) L (.float x :: st) M r) : Run K G nL cs sl Fn pc L (st) M r := fun o M' h hg H locs ls hl hW hS => lv_fload_n C.1 C.2.1 d hi (lv_at hl p hp) (k o M' h hg H locs ls hl hW hS)
theorem r_fload (C : Cx K G own cc nL ret) {i : Nat} {x : UInt32} (p : Nat) (hp : L[p]? = some (i, .float x)) (d : decode cc pc = .ok (.fload i, 2)) (k : Run K G nL cs sl Fn (pc + 2) L (.float x :: st) M r) : Run K G nL cs sl Fn pc L (st) M r := fun o M' h hg H locs ls hl hW hS => lv_fload C.1 C.2.1 d (lv_at hl p hp) (k o M' h hg H locs ls hl hW hS)
theorem r_dload_n (C : Cx K G own cc nL ret) {kk : Fin 4} {i : Nat} {x : UInt64} (p : Nat) (hp : L[p]? = some (i, .double x)) (hi : (kk : Nat) = i) (d : decode cc pc = .ok (.dload_n kk, 1)) (k : Run K G nL cs sl Fn (pc + 1) L (.double x :: st) M r) : Run K G nL cs sl Fn pc L (st) M r := fun o M' h hg H locs ls hl hW hS => lv_dload_n C.1 C.2.1 d hi (lv_at hl p hp) (k o M' h hg H locs ls hl hW hS)
theorem r_dload (C : Cx K G own cc nL ret) {i : Nat} {x : UInt64} (p : Nat) (hp : L[p]? = some (i, .double x)) (d : decode cc pc = .ok (.dload i, 2)) (k : Run K G nL cs sl Fn (pc + 2) L (.double x :: st) M r) : Run K G nL cs sl Fn pc L (st) M r := fun o M' h hg H locs ls hl hW hS => lv_dload C.1 C.2.1 d (lv_at hl p hp) (k o M' h hg H locs ls hl hW hS)
theorem r_aload_n (C : Cx K G own cc nL ret) {kk : Fin 4} {i : Nat} {x : Nat} (p : Nat) (hp : L[p]? = some (i, .ref x)) (hi : (kk : Nat) = i) (d : decode cc pc = .ok (.aload_n kk, 1)) (k : Run K G nL cs sl Fn (pc + 1) L (.ref x :: st) M r) : Run K G nL cs sl Fn pc L (st) M r := fun o M' h hg H locs ls hl hW hS => lv_aload_n C.1 C.2.1 d hi (lv_at hl p hp) (k o M' h hg H locs ls hl hW hS)
theorem r_aload (C : Cx K G own cc nL ret) {i : Nat} {x : Nat} (p : Nat) (hp : L[p]? = some (i, .ref x)) (d : decode cc pc = .ok (.aload i, 2)) (k : Run K G nL cs sl Fn (pc + 2) L (.ref x :: st) M r) : Run K G nL cs sl Fn pc L (st) M r := fun o M' h hg H locs ls hl hW hS => lv_aload C.1 C.2.1 d (lv_at hl p hp) (k o M' h hg H locs ls hl hW hS)
theorem r_istore_n (C : Cx K G own cc nL ret) {kk : Fin 4} {i : Nat} {x : Int32} (L' : List (Nat × Value)) (d : decode cc pc = .ok (.istore_n kk, 1)) (hi : (kk : Nat) = i) (hn : i < nL) (hf : (i, Value.int x) :: L.filter (fun q => !(q.1 == i) && !(q.1 + 1 == i && q.2.category == 2)) = L') (k : Run K G nL cs sl Fn (pc + 1) L' st M r) : Run K G nL cs sl Fn pc L (.int x :: st) M r := fun o M' h hg H locs ls hl hW hS => lv_istore_n C.1 C.2.1 d hi hl hn hf (fun ls' hl' => k o M' h hg H locs ls' hl' hW hS)
theorem r_istore (C : Cx K G own cc nL ret) {i : Nat} {x : Int32} (L' : List (Nat × Value)) (d : decode cc pc = .ok (.istore i, 2)) (hn : i < nL) (hf : (i, Value.int x) :: L.filter (fun q => !(q.1 == i) && !(q.1 + 1 == i && q.2.category == 2)) = L') (k : Run K G nL cs sl Fn (pc + 2) L' st M r) : Run K G nL cs sl Fn pc L (.int x :: st) M r := fun o M' h hg H locs ls hl hW hS => lv_istore C.1 C.2.1 d hl hn hf (fun ls' hl' => k o M' h hg H locs ls' hl' hW hS)
theorem r_lstore_n (C : Cx K G own cc nL ret) {kk : Fin 4} {i : Nat} {x : Int64} (L' : List (Nat × Value)) (d : decode cc pc = .ok (.lstore_n kk, 1)) (hi : (kk : Nat) = i) (hn : i + 1 < nL) (hf : (i, Value.long x) :: L.filter (fun q => !(q.1 == i) && (!(q.1 == i + 1) && !(q.1 + 1 == i && q.2.category == 2))) = L') (k : Run K G nL cs sl Fn (pc + 1) L' st M r) : Run K G nL cs sl Fn pc L (.long x :: st) M r := fun o M' h hg H locs ls hl hW hS => lv_lstore_n C.1 C.2.1 d hi hl hn hf (fun ls' hl' => k o M' h hg H locs ls' hl' hW hS)
theorem r_lstore (C : Cx K G own cc nL ret) {i : Nat} {x : Int64} (L' : List (Nat × Value)) (d : decode cc pc = .ok (.lstore i, 2)) (hn : i + 1 < nL) (hf : (i, Value.long x) :: L.filter (fun q => !(q.1 == i) && (!(q.1 == i + 1) && !(q.1 + 1 == i && q.2.category == 2))) = L') (k : Run K G nL cs sl Fn (pc + 2) L' st M r) : Run K G nL cs sl Fn pc L (.long x :: st) M r := fun o M' h hg H locs ls hl hW hS => lv_lstore C.1 C.2.1 d hl hn hf (fun ls' hl' => k o M' h hg H locs ls' hl' hW hS)
theorem r_fstore_n (C : Cx K G own cc nL ret) {kk : Fin 4} {i : Nat} {x : UInt32} (L' : List (Nat × Value)) (d : decode cc pc = .ok (.fstore_n kk, 1)) (hi : (kk : Nat) = i) (hn : i < nL) (hf : (i, Value.float x) :: L.filter (fun q => !(q.1 == i) && !(q.1 + 1 == i && q.2.category == 2)) = L') (k : Run K G nL cs sl Fn (pc + 1) L' st M r) : Run K G nL cs sl Fn pc L (.float x :: st) M r := fun o M' h hg H locs ls hl hW hS => lv_fstore_n C.1 C.2.1 d hi hl hn hf (fun ls' hl' => k o M' h hg H locs ls' hl' hW hS)
theorem r_fstore (C : Cx K G own cc nL ret) {i : Nat} {x : UInt32} (L' : List (Nat × Value)) (d : decode cc pc = .ok (.fstore i, 2)) (hn : i < nL) (hf : (i, Value.float x) :: L.filter (fun q => !(q.1 == i) && !(q.1 + 1 == i && q.2.category == 2)) = L') (k : Run K G nL cs sl Fn (pc + 2) L' st M r) : Run K G nL cs sl Fn pc L (.float x :: st) M r := fun o M' h hg H locs ls hl hW hS => lv_fstore C.1 C.2.1 d hl hn hf (fun ls' hl' => k o M' h hg H locs ls' hl' hW hS)
theorem r_dstore_n (C : Cx K G own cc nL ret) {kk : Fin 4} {i : Nat} {x : UInt64} (L' : List (Nat × Value)) (d : decode cc pc = .ok (.dstore_n kk, 1)) (hi : (kk : Nat) = i) (hn : i + 1 < nL) (hf : (i, Value.double x) :: L.filter (fun q => !(q.1 == i) && (!(q.1 == i + 1) && !(q.1 + 1 == i && q.2.category == 2))) = L') (k : Run K G nL cs sl Fn (pc + 1) L' st M r) : Run K G nL cs sl Fn pc L (.double x :: st) M r := fun o M' h hg H locs ls hl hW hS => lv_dstore_n C.1 C.2.1 d hi hl hn hf (fun ls' hl' => k o M' h hg H locs ls' hl' hW hS)
theorem r_dstore (C : Cx K G own cc nL ret) {i : Nat} {x : UInt64} (L' : List (Nat × Value)) (d : decode cc pc = .ok (.dstore i, 2)) (hn : i + 1 < nL) (hf : (i, Value.double x) :: L.filter (fun q => !(q.1 == i) && (!(q.1 == i + 1) && !(q.1 + 1 == i && q.2.category == 2))) = L') (k : Run K G nL cs sl Fn (pc + 2) L' st M r) : Run K G nL cs sl Fn pc L (.double x :: st) M r := fun o M' h hg H locs ls hl hW hS => lv_dstore C.1 C.2.1 d hl hn hf (fun ls' hl' => k o M' h hg H locs ls' hl' hW hS)
theorem r_astore_n (C : Cx K G own cc nL ret) {kk : Fin 4} {i : Nat} {x : Nat} (L' : List (Nat × Value)) (d : decode cc pc = .ok (.astore_n kk, 1)) (hi : (kk : Nat) = i) (hn : i < nL) (hf : (i, Value.ref x) :: L.filter (fun q => !(q.1 == i) && !(q.1 + 1 == i && q.2.category == 2)) = L') (k : Run K G nL cs sl Fn (pc + 1) L' st M r) : Run K G nL cs sl Fn pc L (.ref x :: st) M r := fun o M' h hg H locs ls hl hW hS => lv_astore_n C.1 C.2.1 d hi hl hn hf (fun ls' hl' => k o M' h hg H locs ls' hl' hW hS)
theorem r_astore (C : Cx K G own cc nL ret) {i : Nat} {x : Nat} (L' : List (Nat × Value)) (d : decode cc pc = .ok (.astore i, 2)) (hn : i < nL) (hf : (i, Value.ref x) :: L.filter (fun q => !(q.1 == i) && !(q.1 + 1 == i && q.2.category == 2)) = L') (k : Run K G nL cs sl Fn (pc + 2) L' st M r) : Run K G nL cs sl Fn pc L (.ref x :: st) M r := fun o M' h hg H locs ls hl hW hS => lv_astore C.1 C.2.1 d hl hn hf (fun ls' hl' => k o M' h hg H locs ls' hl' hW hS)
theorem r_iinc (C : Cx K G own cc nL ret) {i p : Nat} {n : Int} {x v : Int32} (L' : List (Nat × Value)) (d : decode cc pc = .ok (.iinc i n, 3)) (hk : L[p]? = some (i, .int x)) (hv : x + Int32.ofInt n = v) (hn : i < nL) (hf : (i, Value.int v) :: L.filter (fun q => !(q.1 == i) && !(q.1 + 1 == i && q.2.category == 2)) = L') (k : Run K G nL cs sl Fn (pc + 3) L' st M r) : Run K G nL cs sl Fn pc L st M r := fun o M' h hg H locs ls hl hW hS => lv_iinc C.1 C.2.1 d hl hk hv hn hf (fun ls' hl' => k o M' h hg H locs ls' hl' hW hS)
theorem r_iadd (C : Cx K G own cc nL ret) {x y : Int32} (d : decode cc pc = .ok (.iadd, 1)) (k : Run K G nL cs sl Fn (pc + 1) L (.int (x + y) :: st) M r) : Run K G nL cs sl Fn pc L (.int y :: .int x :: st) M r := fun o M' h hg H locs ls hl hW hS => lv_iadd C.1 C.2.1 d (k o M' h hg H locs ls hl hW hS)
theorem r_isub (C : Cx K G own cc nL ret) {x y : Int32} (d : decode cc pc = .ok (.isub, 1)) (k : Run K G nL cs sl Fn (pc + 1) L (.int (x - y) :: st) M r) : Run K G nL cs sl Fn pc L (.int y :: .int x :: st) M r := fun o M' h hg H locs ls hl hW hS => lv_isub C.1 C.2.1 d (k o M' h hg H locs ls hl hW hS)
theorem r_imul (C : Cx K G own cc nL ret) {x y : Int32} (d : decode cc pc = .ok (.imul, 1)) (k : Run K G nL cs sl Fn (pc + 1) L (.int (x * y) :: st) M r) : Run K G nL cs sl Fn pc L (.int y :: .int x :: st) M r := fun o M' h hg H locs ls hl hW hS => lv_imul C.1 C.2.1 d (k o M' h hg H locs ls hl hW hS)
theorem r_iand (C : Cx K G own cc nL ret) {x y : Int32} (d : decode cc pc = .ok (.iand, 1)) (k : Run K G nL cs sl Fn (pc + 1) L (.int (x &&& y) :: st) M r) : Run K G nL cs sl Fn pc L (.int y :: .int x :: st) M r := fun o M' h hg H locs ls hl hW hS => lv_iand C.1 C.2.1 d (k o M' h hg H locs ls hl hW hS)
theorem r_ior (C : Cx K G own cc nL ret) {x y : Int32} (d : decode cc pc = .ok (.ior, 1)) (k : Run K G nL cs sl Fn (pc + 1) L (.int (x ||| y) :: st) M r) : Run K G nL cs sl Fn pc L (.int y :: .int x :: st) M r := fun o M' h hg H locs ls hl hW hS => lv_ior C.1 C.2.1 d (k o M' h hg H locs ls hl hW hS)
theorem r_ixor (C : Cx K G own cc nL ret) {x y : Int32} (d : decode cc pc = .ok (.ixor, 1)) (k : Run K G nL cs sl Fn (pc + 1) L (.int (x ^^^ y) :: st) M r) : Run K G nL cs sl Fn pc L (.int y :: .int x :: st) M r := fun o M' h hg H locs ls hl hW hS => lv_ixor C.1 C.2.1 d (k o M' h hg H locs ls hl hW hS)
theorem r_ishl (C : Cx K G own cc nL ret) {x y : Int32} (d : decode cc pc = .ok (.ishl, 1)) (k : Run K G nL cs sl Fn (pc + 1) L (.int (x <<< (y &&& 31)) :: st) M r) : Run K G nL cs sl Fn pc L (.int y :: .int x :: st) M r := fun o M' h hg H locs ls hl hW hS => lv_ishl C.1 C.2.1 d (k o M' h hg H locs ls hl hW hS)
theorem r_ishr (C : Cx K G own cc nL ret) {x y : Int32} (d : decode cc pc = .ok (.ishr, 1)) (k : Run K G nL cs sl Fn (pc + 1) L (.int (x >>> (y &&& 31)) :: st) M r) : Run K G nL cs sl Fn pc L (.int y :: .int x :: st) M r := fun o M' h hg H locs ls hl hW hS => lv_ishr C.1 C.2.1 d (k o M' h hg H locs ls hl hW hS)
theorem r_ladd (C : Cx K G own cc nL ret) {x y : Int64} (d : decode cc pc = .ok (.ladd, 1)) (k : Run K G nL cs sl Fn (pc + 1) L (.long (x + y) :: st) M r) : Run K G nL cs sl Fn pc L (.long y :: .long x :: st) M r := fun o M' h hg H locs ls hl hW hS => lv_ladd C.1 C.2.1 d (k o M' h hg H locs ls hl hW hS)
theorem r_lsub (C : Cx K G own cc nL ret) {x y : Int64} (d : decode cc pc = .ok (.lsub, 1)) (k : Run K G nL cs sl Fn (pc + 1) L (.long (x - y) :: st) M r) : Run K G nL cs sl Fn pc L (.long y :: .long x :: st) M r := fun o M' h hg H locs ls hl hW hS => lv_lsub C.1 C.2.1 d (k o M' h hg H locs ls hl hW hS)
theorem r_lmul (C : Cx K G own cc nL ret) {x y : Int64} (d : decode cc pc = .ok (.lmul, 1)) (k : Run K G nL cs sl Fn (pc + 1) L (.long (x * y) :: st) M r) : Run K G nL cs sl Fn pc L (.long y :: .long x :: st) M r := fun o M' h hg H locs ls hl hW hS => lv_lmul C.1 C.2.1 d (k o M' h hg H locs ls hl hW hS)
theorem r_irem (C : Cx K G own cc nL ret) {x y : Int32} (d : decode cc pc = .ok (.irem, 1)) (hne : ¬ y = 0) (k : Run K G nL cs sl Fn (pc + 1) L (.int (x - x / y * y) :: st) M r) : Run K G nL cs sl Fn pc L (.int y :: .int x :: st) M r := fun o M' h hg H locs ls hl hW hS => lv_irem C.1 C.2.1 d hne (k o M' h hg H locs ls hl hW hS)
theorem r_lrem (C : Cx K G own cc nL ret) {x y : Int64} (d : decode cc pc = .ok (.lrem, 1)) (hne : ¬ y = 0) (k : Run K G nL cs sl Fn (pc + 1) L (.long (x - x / y * y) :: st) M r) : Run K G nL cs sl Fn pc L (.long y :: .long x :: st) M r := fun o M' h hg H locs ls hl hW hS => lv_lrem C.1 C.2.1 d hne (k o M' h hg H locs ls hl hW hS)
theorem r_ineg (C : Cx K G own cc nL ret) {x : Int32} (d : decode cc pc = .ok (.ineg, 1)) (k : Run K G nL cs sl Fn (pc + 1) L (.int (-x) :: st) M r) : Run K G nL cs sl Fn pc L (.int x :: st) M r := fun o M' h hg H locs ls hl hW hS => lv_ineg C.1 C.2.1 d (k o M' h hg H locs ls hl hW hS)
theorem r_i2l (C : Cx K G own cc nL ret) {x : Int32} (d : decode cc pc = .ok (.i2l, 1)) (k : Run K G nL cs sl Fn (pc + 1) L (.long x.toInt64 :: st) M r) : Run K G nL cs sl Fn pc L (.int x :: st) M r := fun o M' h hg H locs ls hl hW hS => lv_i2l C.1 C.2.1 d rfl (k o M' h hg H locs ls hl hW hS)
theorem r_l2i (C : Cx K G own cc nL ret) {x : Int64} (d : decode cc pc = .ok (.l2i, 1)) (k : Run K G nL cs sl Fn (pc + 1) L (.int x.toInt32 :: st) M r) : Run K G nL cs sl Fn pc L (.long x :: st) M r := fun o M' h hg H locs ls hl hW hS => lv_l2i C.1 C.2.1 d rfl (k o M' h hg H locs ls hl hW hS)
theorem r_i2b (C : Cx K G own cc nL ret) {x : Int32} (d : decode cc pc = .ok (.i2b, 1)) (k : Run K G nL cs sl Fn (pc + 1) L (.int x.toInt8.toInt32 :: st) M r) : Run K G nL cs sl Fn pc L (.int x :: st) M r := fun o M' h hg H locs ls hl hW hS => lv_i2b C.1 C.2.1 d rfl (k o M' h hg H locs ls hl hW hS)
theorem r_i2f (C : Cx K G own cc nL ret) {x : Int32} (d : decode cc pc = .ok (.i2f, 1)) (k : Run K G nL cs sl Fn (pc + 1) L (.float (FP.i2f x) :: st) M r) : Run K G nL cs sl Fn pc L (.int x :: st) M r := fun o M' h hg H locs ls hl hW hS => lv_i2f C.1 C.2.1 d (k o M' h hg H locs ls hl hW hS)
theorem r_i2d (C : Cx K G own cc nL ret) {x : Int32} (d : decode cc pc = .ok (.i2d, 1)) (k : Run K G nL cs sl Fn (pc + 1) L (.double (FP.i2d x) :: st) M r) : Run K G nL cs sl Fn pc L (.int x :: st) M r := fun o M' h hg H locs ls hl hW hS => lv_i2d C.1 C.2.1 d (k o M' h hg H locs ls hl hW hS)
theorem r_fcmp (C : Cx K G own cc nL ret) {x y : UInt32} {op : CmpOp} (d : decode cc pc = .ok (.fcmp op, 1)) (k : Run K G nL cs sl Fn (pc + 1) L (.int (Op.cmpValue (FP.fcmp x y) op) :: st) M r) : Run K G nL cs sl Fn pc L (.float y :: .float x :: st) M r := fun o M' h hg H locs ls hl hW hS => lv_fcmp C.1 C.2.1 d (k o M' h hg H locs ls hl hW hS)
theorem r_dcmp (C : Cx K G own cc nL ret) {x y : UInt64} {op : CmpOp} (d : decode cc pc = .ok (.dcmp op, 1)) (k : Run K G nL cs sl Fn (pc + 1) L (.int (Op.cmpValue (FP.dcmp x y) op) :: st) M r) : Run K G nL cs sl Fn pc L (.double y :: .double x :: st) M r := fun o M' h hg H locs ls hl hW hS => lv_dcmp C.1 C.2.1 d (k o M' h hg H locs ls hl hW hS)
theorem r_lcmp (C : Cx K G own cc nL ret) {x y : Int64} (d : decode cc pc = .ok (.lcmp, 1)) (k : Run K G nL cs sl Fn (pc + 1) L (.int (lg_cmp x y) :: st) M r) : Run K G nL cs sl Fn pc L (.long y :: .long x :: st) M r := fun o M' h hg H locs ls hl hW hS => W.lcmp C.1 C.2.1 d (k o M' h hg H locs ls hl hW hS)
theorem r_dup (C : Cx K G own cc nL ret) {v : Value} (d : decode cc pc = .ok (.dup, 1)) (hc : v.category = 1) (k : Run K G nL cs sl Fn (pc + 1) L (v :: v :: st) M r) : Run K G nL cs sl Fn pc L (v :: st) M r := fun o M' h hg H locs ls hl hW hS => lv_dup C.1 C.2.1 d hc (k o M' h hg H locs ls hl hW hS)
theorem r_pop (C : Cx K G own cc nL ret) {v : Value} (d : decode cc pc = .ok (.pop, 1)) (hc : v.category = 1) (k : Run K G nL cs sl Fn (pc + 1) L (st) M r) : Run K G nL cs sl Fn pc L (v :: st) M r := fun o M' h hg H locs ls hl hW hS => lv_pop C.1 C.2.1 d hc (k o M' h hg H locs ls hl hW hS)
theorem r_dup2_11 (C : Cx K G own cc nL ret) {v w : Value} (d : decode cc pc = .ok (.dup2, 1)) (hc : v.category = 1) (hc2 : w.category = 1) (k : Run K G nL cs sl Fn (pc + 1) L (v :: w :: v :: w :: st) M r) : Run K G nL cs sl Fn pc L (v :: w :: st) M r := fun o M' h hg H locs ls hl hW hS => lv_dup2_11 C.1 C.2.1 d hc hc2 (k o M' h hg H locs ls hl hW hS)
theorem r_fdiv (C : Cx K G own cc nL ret) {x y : UInt32} (d : decode cc pc = .ok (.fdiv, 1)) (k : Run K G nL cs sl Fn (pc + 1) L (.float (FP.fdiv x y) :: st) M r) : Run K G nL cs sl Fn pc L (.float y :: .float x :: st) M (chk (decide ((FP.fdiv x y) &&& 0x7fffffff ≤ 0x7f800000)) r) := fun o M' h hg H locs ls hl hW hS => lv_fdiv C.1 C.2.1 d (by have hh := of_decide_eq_true (chk_some h).1; exact hh) (k o M' (chk_some h).2 hg H locs ls hl hW hS)
theorem r_ddiv (C : Cx K G own cc nL ret) {x y : UInt64} (d : decode cc pc = .ok (.ddiv, 1)) (k : Run K G nL cs sl Fn (pc + 1) L (.double (FP.ddiv x y) :: st) M r) : Run K G nL cs sl Fn pc L (.double y :: .double x :: st) M (chk (decide ((FP.ddiv x y) &&& 0x7fffffffffffffff ≤ 0x7ff0000000000000)) r) := fun o M' h hg H locs ls hl hW hS => lv_ddiv C.1 C.2.1 d (by have hh := of_decide_eq_true (chk_some h).1; exact hh) (k o M' (chk_some h).2 hg H locs ls hl hW hS)
theorem r_f2d (C : Cx K G own cc nL ret) {x : UInt32} (d : decode cc pc = .ok (.f2d, 1)) (k : Run K G nL cs sl Fn (pc + 1) L (.double (FP.f2d x) :: st) M r) : Run K G nL cs sl Fn pc L (.float x :: st) M (chk (decide ((FP.f2d x) &&& 0x7fffffffffffffff ≤ 0x7ff0000000000000)) r) := fun o M' h hg H locs ls hl hW hS => lv_f2d C.1 C.2.1 d (by have hh := of_decide_eq_true (chk_some h).1; exact hh) (k o M' (chk_some h).2 hg H locs ls hl hW hS)
theorem r_if_eq (C : Cx K G own cc nL ret) {x : Int32} {off : Int} {tgt : Nat} (d : decode cc pc = .ok (.ifCond .eq off, 3)) (ht : (pc : Int) + off = (tgt : Int)) (k1 : Run K G nL cs sl Fn tgt L st M r1) (k2 : Run K G nL cs sl Fn (pc + 3) L st M r2) : Run K G nL cs sl Fn pc L (.int x :: st) M (if x = 0 then r1 else r2) := by
  intro o M' h hg H locs ls hl hW hS
  refine lv_if_eq C.1 C.2.1 d ht (fun hc => ?_) (fun hc => ?_)
  · rw [if_pos hc] at h; exact k1 o M' h hg H locs ls hl hW hS
  · rw [if_neg hc] at h; exact k2 o M' h hg H locs ls hl hW hS
theorem r_icmp_eq (C : Cx K G own cc nL ret) {x y : Int32} {off : Int} {tgt : Nat} (d : decode cc pc = .ok (.if_icmp .eq off, 3)) (ht : (pc : Int) + off = (tgt : Int)) (k1 : Run K G nL cs sl Fn tgt L st M r1) (k2 : Run K G nL cs sl Fn (pc + 3) L st M r2) : Run K G nL cs sl Fn pc L (.int y :: .int x :: st) M (if x = y then r1 else r2) := by
  intro o M' h hg H locs ls hl hW hS
  refine lv_icmp_eq C.1 C.2.1 d ht (fun hc => ?_) (fun hc => ?_)
  · rw [if_pos hc] at h; exact k1 o M' h hg H locs ls hl hW hS
  · rw [if_neg hc] at h; exact k2 o M' h hg H locs ls hl hW hS
theorem r_if_ne (C : Cx K G own cc nL ret) {x : Int32} {off : Int} {tgt : Nat} (d : decode cc pc = .ok (.ifCond .ne off, 3)) (ht : (pc : Int) + off = (tgt : Int)) (k1 : Run K G nL cs sl Fn tgt L st M r1) (k2 : Run K G nL cs sl Fn (pc + 3) L st M r2) : Run K G nL cs sl Fn pc L (.int x :: st) M (if ¬ x = 0 then r1 else r2) := by
  intro o M' h hg H locs ls hl hW hS
  refine lv_if_ne C.1 C.2.1 d ht (fun hc => ?_) (fun hc => ?_)
  · rw [if_pos hc] at h; exact k1 o M' h hg H locs ls hl hW hS
  · rw [if_neg (fun z => z hc)] at h; exact k2 o M' h hg H locs ls hl hW hS
theorem r_icmp_ne (C : Cx K G own cc nL ret) {x y : Int32} {off : Int} {tgt : Nat} (d : decode cc pc = .ok (.if_icmp .ne off, 3)) (ht : (pc : Int) + off = (tgt : Int)) (k1 : Run K G nL cs sl Fn tgt L st M r1) (k2 : Run K G nL cs sl Fn (pc + 3) L st M r2) : Run K G nL cs sl Fn pc L (.int y :: .int x :: st) M (if ¬ x = y then r1 else r2) := by
  intro o M' h hg H locs ls hl hW hS
  refine lv_icmp_ne C.1 C.2.1 d ht (fun hc => ?_) (fun hc => ?_)
  · rw [if_pos hc] at h; exact k1 o M' h hg H locs ls hl hW hS
  · rw [if_neg (fun z => z hc)] at h; exact k2 o M' h hg H locs ls hl hW hS
theorem r_if_lt (C : Cx K G own cc nL ret) {x : Int32} {off : Int} {tgt : Nat} (d : decode cc pc = .ok (.ifCond .lt off, 3)) (ht : (pc : Int) + off = (tgt : Int)) (k1 : Run K G nL cs sl Fn tgt L st M r1) (k2 : Run K G nL cs sl Fn (pc + 3) L st M r2) : Run K G nL cs sl Fn pc L (.int x :: st) M (if x < 0 then r1 else r2) := by
  intro o M' h hg H locs ls hl hW hS
  refine lv_if_lt C.1 C.2.1 d ht (fun hc => ?_) (fun hc => ?_)
  · rw [if_pos hc] at h; exact k1 o M' h hg H locs ls hl hW hS
  · rw [if_neg hc] at h; exact k2 o M' h hg H locs ls hl hW hS
theorem r_icmp_lt (C : Cx K G own cc nL ret) {x y : Int32} {off : Int} {tgt : Nat} (d : decode cc pc = .ok (.if_icmp .lt off, 3)) (ht : (pc : Int) + off = (tgt : Int)) (k1 : Run K G nL cs sl Fn tgt L st M r1) (k2 : Run K G nL cs sl Fn (pc + 3) L st M r2) : Run K G nL cs sl Fn pc L (.int y :: .int x :: st) M (if x < y then r1 else r2) := by
  intro o M' h hg H locs ls hl hW hS
  refine lv_icmp_lt C.1 C.2.1 d ht (fun hc => ?_) (fun hc => ?_)
  · rw [if_pos hc] at h; exact k1 o M' h hg H locs ls hl hW hS
  · rw [if_neg hc] at h; exact k2 o M' h hg H locs ls hl hW hS
theorem r_if_ge (C : Cx K G own cc nL ret) {x : Int32} {off : Int} {tgt : Nat} (d : decode cc pc = .ok (.ifCond .ge off, 3)) (ht : (pc : Int) + off = (tgt : Int)) (k1 : Run K G nL cs sl Fn tgt L st M r1) (k2 : Run K G nL cs sl Fn (pc + 3) L st M r2) : Run K G nL cs sl Fn pc L (.int x :: st) M (if 0 ≤ x then r1 else r2) := by
  intro o M' h hg H locs ls hl hW hS
  refine lv_if_ge C.1 C.2.1 d ht (fun hc => ?_) (fun hc => ?_)
  · rw [if_pos hc] at h; exact k1 o M' h hg H locs ls hl hW hS
  · rw [if_neg hc] at h; exact k2 o M' h hg H locs ls hl hW hS
theorem r_icmp_ge (C : Cx K G own cc nL ret) {x y : Int32} {off : Int} {tgt : Nat} (d : decode cc pc = .ok (.if_icmp .ge off, 3)) (ht : (pc : Int) + off = (tgt : Int)) (k1 : Run K G nL cs sl Fn tgt L st M r1) (k2 : Run K G nL cs sl Fn (pc + 3) L st M r2) : Run K G nL cs sl Fn pc L (.int y :: .int x :: st) M (if y ≤ x then r1 else r2) := by
  intro o M' h hg H locs ls hl hW hS
  refine lv_icmp_ge C.1 C.2.1 d ht (fun hc => ?_) (fun hc => ?_)
  · rw [if_pos hc] at h; exact k1 o M' h hg H locs ls hl hW hS
  · rw [if_neg hc] at h; exact k2 o M' h hg H locs ls hl hW hS
theorem r_if_gt (C : Cx K G own cc nL ret) {x : Int32} {off : Int} {tgt : Nat} (d : decode cc pc = .ok (.ifCond .gt off, 3)) (ht : (pc : Int) + off = (tgt : Int)) (k1 : Run K G nL cs sl Fn tgt L st M r1) (k2 : Run K G nL cs sl Fn (pc + 3) L st M r2) : Run K G nL cs sl Fn pc L (.int x :: st) M (if 0 < x then r1 else r2) := by
  intro o M' h hg H locs ls hl hW hS
  refine lv_if_gt C.1 C.2.1 d ht (fun hc => ?_) (fun hc => ?_)
  · rw [if_pos hc] at h; exact k1 o M' h hg H locs ls hl hW hS
  · rw [if_neg hc] at h; exact k2 o M' h hg H locs ls hl hW hS
theorem r_icmp_gt (C : Cx K G own cc nL ret) {x y : Int32} {off : Int} {tgt : Nat} (d : decode cc pc = .ok (.if_icmp .gt off, 3)) (ht : (pc : Int) + off = (tgt : Int)) (k1 : Run K G nL cs sl Fn tgt L st M r1) (k2 : Run K G nL cs sl Fn (pc + 3) L st M r2) : Run K G nL cs sl Fn pc L (.int y :: .int x :: st) M (if y < x then r1 else r2) := by
  intro o M' h hg H locs ls hl hW hS
  refine lv_icmp_gt C.1 C.2.1 d ht (fun hc => ?_) (fun hc => ?_)
  · rw [if_pos hc] at h; exact k1 o M' h hg H locs ls hl hW hS
  · rw [if_neg hc] at h; exact k2 o M' h hg H locs ls hl hW hS
theorem r_if_le (C : Cx K G own cc nL ret) {x : Int32} {off : Int} {tgt : Nat} (d : decode cc pc = .ok (.ifCond .le off, 3)) (ht : (pc : Int) + off = (tgt : Int)) (k1 : Run K G nL cs sl Fn tgt L st M r1) (k2 : Run K G nL cs sl Fn (pc + 3) L st M r2) : Run K G nL cs sl Fn pc L (.int x :: st) M (if x ≤ 0 then r1 else r2) := by
  intro o M' h hg H locs ls hl hW hS
  refine lv_if_le C.1 C.2.1 d ht (fun hc => ?_) (fun hc => ?_)
  · rw [if_pos hc] at h; exact k1 o M' h hg H locs ls hl hW hS
  · rw [if_neg hc] at h; exact k2 o M' h hg H locs ls hl hW hS
theorem r_icmp_le (C : Cx K G own cc nL ret) {x y : Int32} {off : Int} {tgt : Nat} (d : decode cc pc = .ok (.if_icmp .le off, 3)) (ht : (pc : Int) + off = (tgt : Int)) (k1 : Run K G nL cs sl Fn tgt L st M r1) (k2 : Run K G nL cs sl Fn (pc + 3) L st M r2) : Run K G nL cs sl Fn pc L (.int y :: .int x :: st) M (if x ≤ y then r1 else r2) := by
  intro o M' h hg H locs ls hl hW hS
  refine lv_icmp_le C.1 C.2.1 d ht (fun hc => ?_) (fun hc => ?_)
  · rw [if_pos hc] at h; exact k1 o M' h hg H locs ls hl hW hS
  · rw [if_neg hc] at h; exact k2 o M' h hg H locs ls hl hW hS
theorem r_goto (C : Cx K G own cc nL ret) {off : Int} {tgt : Nat} (d : decode cc pc = .ok (.goto off, 3)) (ht : (pc : Int) + off = (tgt : Int)) (k : Run K G nL cs sl Fn tgt L st M r) : Run K G nL cs sl Fn pc L st M r := fun o M' h hg H locs ls hl hW hS => lv_goto C.1 C.2.1 d ht (k o M' h hg H locs ls hl hW hS)
theorem r_tabIn (C : Cx K G own cc nL ret) {dflt lo hi : Int} {offs : Array Int} {len : Nat} {x : Int32} {off : Int} {tgt : Nat} (d : decode cc pc = .ok (.tableswitch dflt lo hi offs, len)) (h1 : ¬ x.toInt < lo) (h2 : ¬ hi < x.toInt) (ho : offs[(x.toInt - lo).toNat]? = some off) (ht : (pc : Int) + off = (tgt : Int)) (k : Run K G nL cs sl Fn tgt L st M r) : Run K G nL cs sl Fn pc L (.int x :: st) M r := fun o M' h hg H locs ls hl hW hS => lv_tableIn C.1 C.2.1 d h1 h2 ho ht (k o M' h hg H locs ls hl hW hS)
theorem r_tabOut (C : Cx K G own cc nL ret) {dflt lo hi : Int} {offs : Array Int} {len : Nat} {x : Int32} {tgt : Nat} (d : decode cc pc = .ok (.tableswitch dflt lo hi offs, len)) (h1 : x.toInt < lo ∨ hi < x.toInt) (ht : (pc : Int) + dflt = (tgt : Int)) (k : Run K G nL cs sl Fn tgt L st M r) : Run K G nL cs sl Fn pc L (.int x :: st) M r := fun o M' h hg H locs ls hl hW hS => lv_tableOut C.1 C.2.1 d h1 ht (k o M' h hg H locs ls hl hW hS)
theorem r_ldc (C : Cx K G own cc nL ret) {index : Nat} {v : Int32} (hc : Cond.constant own index v ∈ tblG) (d : decode cc pc = .ok (.ldc index, 2)) (k : Run K G nL cs sl Fn (pc + 2) L (.int v :: st) M r) : Run K G nL cs sl Fn pc L st M r := fun o M' h hg H locs ls hl hW hS => lv_ldc C.1 C.2.1 C.2.2.2.1 (C.w hc) d (k o M' h hg H locs ls hl hW hS)
theorem r_ldc2 (C : Cx K G own cc nL ret) {index : Nat} {v : Int64} (hc : Cond.constantLong own index v ∈ tblG) (d : decode cc pc = .ok (.ldc2_w index, 3)) (k : Run K G nL cs sl Fn (pc + 3) L (.long v :: st) M r) : Run K G nL cs sl Fn pc L st M r := fun o M' h hg H locs ls hl hW hS => lv_ldc2 C.1 C.2.1 C.2.2.2.1 (C.w hc) d (k o M' h hg H locs ls hl hW hS)

/-- a field of a kind: its class's table -/
def FF (kd j : Nat) (nm ds : String) (ci N : Nat) (Cn : String) (T : u_T) (fin : Bool) : Prop := kc kd = some (ci, N) ∧ wCl[ci]? = some (Cn, T, N) ∧ j < N ∧ T j = (Cn, nm, ds, fin) ∧ ∀ w ∈ u_ws Cn T N, w ∈ tblG
theorem r_get {kd k i j ci N : Nat} {nm ds Cn : String} {T : u_T} {fin : Bool} {index : Nat} {v : Value} (C : Cx K G own cc nL ret) (F : FF kd j nm ds ci N Cn T fin) (hl : Cond.fieldLink own index Cn nm ds ∈ tblG) (hd : G.2.2.2.1 kd k i) (d : decode cc pc = .ok (.getfield index, 3)) (hv : fv G M kd k i j = v)
    (kk : Run K G nL cs sl Fn (pc + 3) L (v :: st) M r) : Run K G nL cs sl Fn pc L (.ref (G.1 kd k i) :: st) M r := by
  intro o M' h hg H locs ls hls hW hS
  obtain ⟨f1, f2, f3, f4, f5⟩ := F
  have hts : ∀ w ∈ tblG, w.before K.2.2.2.2.2.2.1 K.2.2.2.2.1 = true := C.2.2.2.2.1
  have hK := C.2.2.2.2.2.1.1
  obtain ⟨cell, q1, q2, q3, q4⟩ := (hW kd k i hd).1 ci N f1
  obtain ⟨hSl, hfc, kC, hkC, hkind⟩ := hK.1 ci _ f2
  obtain ⟨cf, kf, fi, f, hi, hsl⟩ := hSl j f3
  have hst := (u_facts hfc hkC (u_lays hts f5 f3) hi).1
  dsimp only at hi hsl
  rw [f4] at hi
  dsimp only at hi
  have hq := q4 j f3
  dsimp only at hq
  rw [hv, ← hsl] at hq
  exact W.getf C.1 C.2.1 C.2.2.2.1 (C.w hl) hi hst q1 (by rw [q3]; exact fun h => by cases h) hq rfl rfl d (kk o M' h hg H locs ls hls hW hS)
theorem fv_wI {G : WT} {kd k i j : Nat} (h1 : ft kd k i j = none) (h2 : ks kd j = 0) (M : Mem) (v : Int32) (j' : Nat) : updV (fun j => fv G M kd k i j) j (.int v) j' = fv G (wI M kd k i j v) kd k i j' := by
  by_cases e : j' = j
  · subst e
    rw [fv_int h1 h2]
    show (if j' = j' then _ else _) = _
    rw [if_pos rfl]
    show _ = Value.int (up4 M.1 kd k i j' v kd k i j')
    rw [up4_same]
  · show (if j' = j then _ else _) = _
    rw [if_neg e]
    show fv G M kd k i j' = _
    unfold fv
    cases ft kd k i j' with
    | some c => rfl
    | none =>
      show fs G M (ks kd j') kd k i j' = fs G (wI M kd k i j v) (ks kd j') kd k i j'
      match ks kd j' with
      | 0 =>
        show Value.int (M.1 kd k i j') = Value.int (up4 M.1 kd k i j v kd k i j')
        rw [up4_ne (fun q => e q.2.2.2)]
      | 1 =>
        show (if M.1 kd k i j' = 0 then Value.null else _) = (if up4 M.1 kd k i j v kd k i j' = 0 then Value.null else _)
        rw [up4_ne (fun q => e q.2.2.2)]
      | 2 => rfl
      | n + 3 => rfl
theorem r_putv {kd k i j ci N : Nat} {nm ds Cn : String} {T : u_T} {index : Nat} {v : Value} {M1 : Mem} {ty : FieldType} (C : Cx K G own cc nL ret) (F : FF kd j nm ds ci N Cn T false) (hl : Cond.fieldLink own index Cn nm ds ∈ tblG) (hd : G.2.2.2.1 kd k i) (d : decode cc pc = .ok (.putfield index, 3))
    (ty0 : Nat → FieldType) (hty : ∀ k, k < N → parseFieldDescriptor (T k).2.2.1 = some (ty0 k)) (hnm : ∀ a, a < N → ∀ b, b < N → a ≠ b → (T a).2.1 ≠ (T b).2.1) (hds : parseFieldDescriptor ds = some ty) (hn : narrow ty v = v) (hfit : fits ty v = true)
    (hM : ∀ kd' k' i', ¬ (kd' = kd ∧ k' = k ∧ i' = i) → alikeAt M M1 kd' k' i') (hv : ∀ j', updV (fun j => fv G M kd k i j) j v j' = fv G M1 kd k i j')
    (kk : Run K G nL cs sl Fn (pc + 3) L st M1 r) : Run K G nL cs sl Fn pc L (v :: .ref (G.1 kd k i) :: st) M r := by
  intro o M' h hg H locs ls hls hW hS
  obtain ⟨f1, f2, f3, f4, f5⟩ := F
  have hts : ∀ w ∈ tblG, w.before K.2.2.2.2.2.2.1 K.2.2.2.2.1 = true := C.2.2.2.2.1
  have hK := C.2.2.2.2.2.1.1
  have hA := C.2.2.2.2.2.1.2.1
  have hap := va_apart (own := own) hts f5 ty0 hty hnm hK f2
  obtain ⟨cell, q1, q2, q3, q4⟩ := (hW kd k i hd).1 ci N f1
  obtain ⟨hSl, hfc, kC, hkC, hkind⟩ := hK.1 ci _ f2
  obtain ⟨cf, kf, fi, f, hi, hsl⟩ := hSl j f3
  have hlay := hts _ (f5 _ (u_in_lay f3))
  unfold u_lay at hlay
  rw [if_neg (by rw [f4]; exact Bool.false_ne_true)] at hlay
  have hst := (u_facts hfc hkC (u_lays hts f5 f3) hi).1
  have h6 := u_store hfc hkC hkind hlay hi (by rw [f4]; exact hds) hn hfit
  dsimp only at hi hsl
  rw [f4] at hi
  dsimp only at hi
  refine W.putK C.1 C.2.1 (f := f) ⟨C.2.2.2.1, C.w hl, ⟨_, _, _, hi⟩, hst⟩ (by rw [q2]; exact h6) q1 q3 (by rw [hsl]; exact k2_hasslot (q4 j f3)) rfl rfl d fun H' e1 e2 e3 => ?_
  rw [hsl] at e1 ⊢
  refine kk o M' h hg H' _ ls hls (hW.set hA hd hM e3 (Wc.obj f1 ?_)) (hS.put e2 e3 (hA.2.1 kd k i hd))
  exact t_OB.to (V := updV (fun j => fv G M kd k i j) j v) ⟨_, e1, q2, q3, t_set q4 hap f3 v⟩ (fun j' _ => hv j')
/-- an int field written -/
theorem r_putI {kd k i j ci N : Nat} {nm0 Cn : String} {T : u_T} {index : Nat} {v : Int32} {g : Mem → Option (ρ × Mem)} (C : Cx K G own cc nL ret) (F : FF kd j nm0 "I" ci N Cn T false) (hl : Cond.fieldLink own index Cn nm0 "I" ∈ tblG) (hd : G.2.2.2.1 kd k i) (ty0 : Nat → FieldType) (hty : ∀ k, k < N → parseFieldDescriptor (T k).2.2.1 = some (ty0 k)) (hnm : ∀ a, a < N → ∀ b, b < N → a ≠ b → (T a).2.1 ≠ (T b).2.1) (h1 : ∀ k i, ft kd k i j = none) (h2 : ks kd j = 0) (d : decode cc pc = .ok (.putfield index, 3))
    (kk : ∀ M1 : Mem, Run K G nL cs sl Fn (pc + 3) L st M1 (g M1)) : Run K G nL cs sl Fn pc L (.int v :: .ref (G.1 kd k i) :: st) M (nm (wI M kd k i j v) g) :=
  r_putv C F hl hd d ty0 hty hnm (ty := .int) (by decide +kernel) rfl rfl (fun _ _ _ h => wI_alike h) (fun j' => fv_wI (h1 k i) h2 M v j') (kk _)
/-- a boolean field written: only with 0 or 1 -/
theorem r_putZ {kd k i j ci N : Nat} {nm0 Cn : String} {T : u_T} {index : Nat} {v : Int32} {g : Mem → Option (ρ × Mem)} (C : Cx K G own cc nL ret) (F : FF kd j nm0 "Z" ci N Cn T false) (hl : Cond.fieldLink own index Cn nm0 "Z" ∈ tblG) (hd : G.2.2.2.1 kd k i) (ty0 : Nat → FieldType) (hty : ∀ k, k < N → parseFieldDescriptor (T k).2.2.1 = some (ty0 k)) (hnm : ∀ a, a < N → ∀ b, b < N → a ≠ b → (T a).2.1 ≠ (T b).2.1) (h1 : ∀ k i, ft kd k i j = none) (h2 : ks kd j = 0) (d : decode cc pc = .ok (.putfield index, 3))
    (kk : ∀ M1 : Mem, Run K G nL cs sl Fn (pc + 3) L st M1 (g M1)) : Run K G nL cs sl Fn pc L (.int v :: .ref (G.1 kd k i) :: st) M (chk (decide (v = 0 ∨ v = 1)) (nm (wI M kd k i j v) g)) :=
  r_chk (fun hb => r_putv C F hl hd d ty0 hty hnm (ty := .boolean) (by decide +kernel) (by rcases of_decide_eq_true hb with rfl | rfl <;> rfl) (by rcases of_decide_eq_true hb with rfl | rfl <;> rfl) (fun _ _ _ h => wI_alike h) (fun j' => fv_wI (h1 k i) h2 M v j') (kk _))

theorem Cx.to {kd k i j ci N a1 a2 a3 : Nat} {nm ds Cn : String} {T : u_T} {fin : Bool} (C : Cx K G own cc nL ret) (F : FF kd j nm ds ci N Cn T fin) (hd : G.2.2.2.1 kd k i) (hf : ft kd k i j = some (a1, a2, a3)) : G.2.2.2.1 a1 a2 a3 :=
  C.2.2.2.2.2.1.2.1.2.2 kd k i j (a1, a2, a3) hd (Or.inl ⟨ci, N, F.1, F.2.2.1⟩) hf
theorem r_getR {kd k i j ci N a1 a2 a3 : Nat} {nm ds Cn : String} {T : u_T} {fin : Bool} {index : Nat} (C : Cx K G own cc nL ret) (F : FF kd j nm ds ci N Cn T fin) (hl : Cond.fieldLink own index Cn nm ds ∈ tblG) (hd : G.2.2.2.1 kd k i) (hf : ft kd k i j = some (a1, a2, a3)) (d : decode cc pc = .ok (.getfield index, 3))
    (kk : G.2.2.2.1 a1 a2 a3 → Run K G nL cs sl Fn (pc + 3) L (.ref (G.1 a1 a2 a3) :: st) M r) : Run K G nL cs sl Fn pc L (.ref (G.1 kd k i) :: st) M r :=
  r_get C F hl hd d (fv_ref hf M) (kk (C.to F hd hf))
theorem r_getI {kd k i j ci N : Nat} {nm ds Cn : String} {T : u_T} {fin : Bool} {index : Nat} (C : Cx K G own cc nL ret) (F : FF kd j nm ds ci N Cn T fin) (hl : Cond.fieldLink own index Cn nm ds ∈ tblG) (hd : G.2.2.2.1 kd k i) (h1 : ft kd k i j = none) (h2 : ks kd j = 0) (d : decode cc pc = .ok (.getfield index, 3))
    (kk : Run K G nL cs sl Fn (pc + 3) L (.int (M.1 kd k i j) :: st) M r) : Run K G nL cs sl Fn pc L (.ref (G.1 kd k i) :: st) M r :=
  r_get C F hl hd d (fv_int h1 h2 M) kk
theorem inB_lt {x : Int32} {n : Nat} (h : inB x n = true) : x.toNatClampNeg < n := Nat.not_le.mp fun q => inB_in h (Or.inr q)
/-- an element of a row of the world is read -/
theorem r_aldv {kd k i ti n : Nat} {x : Int32} {v : Value} {ty : FieldType} (C : Cx K G own cc nL ret) (hk : ka kd = some (ti, n)) (hd : G.2.2.2.1 kd k i) (hty : (tysOf G.2.2.1)[ti]? = some (G.2.2.1 ti, ty)) (hv : fv G M kd k i x.toNatClampNeg = v) (hb : inB x n = true)
    (row : ∀ {cell : Cell}, ∀ {H : Heap} {locs : List Loc} {ls : Array Slot} {Q : State → Prop}, H[G.1 kd k i]? = some cell → K.2.2.2.2.1.isArrayOf cell ty → cell.vm ≠ .unknown → ¬ (x < 0 ∨ cell.slots.size ≤ x.toNatClampNeg) → cell.slots[x.toNatClampNeg]? = some v →
      W K.1 K.2.1 K.2.2.1 K.2.2.2.1 K.2.2.2.2.1 K.2.2.2.2.2.1 K.2.2.2.2.2.2.1 K.2.2.2.2.2.2.2.1 K.2.2.2.2.2.2.2.2.1 K.2.2.2.2.2.2.2.2.2 H locs cs sl Q (F0 K.2.2.2.2.2.1 (pc + 1) ls (v :: st)) →
      W K.1 K.2.1 K.2.2.1 K.2.2.2.1 K.2.2.2.2.1 K.2.2.2.2.2.1 K.2.2.2.2.2.2.1 K.2.2.2.2.2.2.2.1 K.2.2.2.2.2.2.2.2.1 K.2.2.2.2.2.2.2.2.2 H locs cs sl Q (F0 K.2.2.2.2.2.1 pc ls (.int x :: .ref (G.1 kd k i) :: st)))
    (kk : Run K G nL cs sl Fn (pc + 1) L (v :: st) M r) : Run K G nL cs sl Fn pc L (.int x :: .ref (G.1 kd k i) :: st) M r := by
  intro o M' h hg H locs ls hl hW hS
  have hK := C.2.2.2.2.2.1.1
  have hc := (hW kd k i hd).2 ti n hk
  have hlt := inB_lt hb
  exact row hc ((hK.2 ti _ hty).1 n _) (fun q => by cases q) (by rw [arrV_size]; exact inB_in hb) (by rw [arrV_read _ _ hlt]; exact congrArg some hv) (kk o M' h hg H locs ls hl hW hS)
theorem r_iald {kd k i n : Nat} {x : Int32} (C : Cx K G own cc nL ret) (hk : ka kd = some (0, n)) (hd : G.2.2.2.1 kd k i) (h1 : ∀ j, ft kd k i j = none) (h2 : ∀ j, ks kd j = 0) (d : decode cc pc = .ok (.iaload, 1))
    (kk : Run K G nL cs sl Fn (pc + 1) L (.int (M.1 kd k i x.toNatClampNeg) :: st) M r) : Run K G nL cs sl Fn pc L (.int x :: .ref (G.1 kd k i) :: st) M (chk (inB x n) r) :=
  r_chk (fun hb => r_aldv C hk hd rfl (fv_int (h1 _) (h2 _) M) hb (fun a1 a2 a3 a4 a5 a6 => W.iald C.1 C.2.1 a1 a2 a3 a4 a5 rfl rfl d a6) kk)
theorem r_bald {kd k i n : Nat} {x : Int32} (C : Cx K G own cc nL ret) (hk : ka kd = some (1, n)) (hd : G.2.2.2.1 kd k i) (h1 : ∀ j, ft kd k i j = none) (h2 : ∀ j, ks kd j = 0) (d : decode cc pc = .ok (.baload, 1))
    (kk : Run K G nL cs sl Fn (pc + 1) L (.int (M.1 kd k i x.toNatClampNeg) :: st) M r) : Run K G nL cs sl Fn pc L (.int x :: .ref (G.1 kd k i) :: st) M (chk (inB x n) r) :=
  r_chk (fun hb => r_aldv C hk hd rfl (fv_int (h1 _) (h2 _) M) hb (fun a1 a2 a3 a4 a5 a6 => W.bald C.1 C.2.1 a1 a2 a3 a4 a5 rfl rfl d a6) kk)
theorem r_zald {kd k i n : Nat} {x : Int32} (C : Cx K G own cc nL ret) (hk : ka kd = some (2, n)) (hd : G.2.2.2.1 kd k i) (h1 : ∀ j, ft kd k i j = none) (h2 : ∀ j, ks kd j = 0) (d : decode cc pc = .ok (.baload, 1))
    (kk : Run K G nL cs sl Fn (pc + 1) L (.int (M.1 kd k i x.toNatClampNeg) :: st) M r) : Run K G nL cs sl Fn pc L (.int x :: .ref (G.1 kd k i) :: st) M (chk (inB x n) r) :=
  r_chk (fun hb => r_aldv C hk hd rfl (fv_int (h1 _) (h2 _) M) hb (fun a1 a2 a3 a4 a5 a6 => W.zald C.1 C.2.1 a1 a2 a3 a4 a5 rfl rfl d a6) kk)
theorem r_aald {kd k i ti n a1 a2 a3 : Nat} {Cn : String} {x : Int32} (C : Cx K G own cc nL ret) (hk : ka kd = some (ti, n)) (hty : (tysOf G.2.2.1)[ti]? = some (G.2.2.1 ti, .object Cn)) (hd : G.2.2.2.1 kd k i) (hf : ft kd k i x.toNatClampNeg = some (a1, a2, a3)) (d : decode cc pc = .ok (.aaload, 1))
    (kk : G.2.2.2.1 a1 a2 a3 → Run K G nL cs sl Fn (pc + 1) L (.ref (G.1 a1 a2 a3) :: st) M r) : Run K G nL cs sl Fn pc L (.int x :: .ref (G.1 kd k i) :: st) M (chk (inB x n) r) :=
  r_chk (fun hb => r_aldv C hk hd hty (fv_ref hf M) hb (fun b1 b2 b3 b4 b5 b6 => W.aald C.1 C.2.1 b1 b2 rfl b3 b4 b5 rfl rfl d b6) (kk (C.2.2.2.2.2.1.2.1.2.2 kd k i _ (a1, a2, a3) hd (Or.inr ⟨ti, n, hk, inB_lt hb⟩) hf)))
theorem arrV_congr {cA : ClassId} {n : Nat} {f g : Nat → Value} (h : ∀ j, j < n → f j = g j) : arrV cA n f = arrV cA n g := by
  unfold arrV
  congr 1
  apply Array.ext_getElem?
  intro j
  by_cases hj : j < n
  · simp [hj, h j hj]
  · simp [hj]
/-- an element of a row of the world is written -/
theorem r_astv {kd k i ti n : Nat} {x : Int32} {v w : Value} {ty : FieldType} {M1 : Mem} (C : Cx K G own cc nL ret) (hk : ka kd = some (ti, n)) (hd : G.2.2.2.1 kd k i) (hty : (tysOf G.2.2.1)[ti]? = some (G.2.2.1 ti, ty)) (hb : inB x n = true)
    (hM : ∀ kd' k' i', ¬ (kd' = kd ∧ k' = k ∧ i' = i) → alikeAt M M1 kd' k' i') (hv : ∀ j', j' < n → updV (fun j => fv G M kd k i j) x.toNatClampNeg w j' = fv G M1 kd k i j')
    (row : ∀ {cell : Cell}, ∀ {H : Heap} {locs : List Loc} {ls : Array Slot} {Q : State → Prop}, H[G.1 kd k i]? = some cell → K.2.2.2.2.1.isArrayOf cell ty → cell.vm ≠ .unknown → ¬ (x < 0 ∨ cell.slots.size ≤ x.toNatClampNeg) →
      (∀ H' : Heap, H'[G.1 kd k i]? = some (cell.setSlot x.toNatClampNeg w) → H'.size = H.size → (∀ q, q ≠ G.1 kd k i → H'[q]? = H[q]?) → W K.1 K.2.1 K.2.2.1 K.2.2.2.1 K.2.2.2.2.1 K.2.2.2.2.2.1 K.2.2.2.2.2.2.1 K.2.2.2.2.2.2.2.1 K.2.2.2.2.2.2.2.2.1 K.2.2.2.2.2.2.2.2.2 H' (locs ++ [⟨G.1 kd k i, x.toNatClampNeg⟩]) cs sl Q (F0 K.2.2.2.2.2.1 (pc + 1) ls st)) →
      W K.1 K.2.1 K.2.2.1 K.2.2.2.1 K.2.2.2.2.1 K.2.2.2.2.2.1 K.2.2.2.2.2.2.1 K.2.2.2.2.2.2.2.1 K.2.2.2.2.2.2.2.2.1 K.2.2.2.2.2.2.2.2.2 H locs cs sl Q (F0 K.2.2.2.2.2.1 pc ls (v :: .int x :: .ref (G.1 kd k i) :: st)))
    (kk : Run K G nL cs sl Fn (pc + 1) L st M1 r) : Run K G nL cs sl Fn pc L (v :: .int x :: .ref (G.1 kd k i) :: st) M r := by
  intro o M' h hg H locs ls hl hW hS
  have hK := C.2.2.2.2.2.1.1
  have hA := C.2.2.2.2.2.1.2.1
  have hc := (hW kd k i hd).2 ti n hk
  refine row hc ((hK.2 ti _ hty).1 n _) (fun q => by cases q) (by rw [arrV_size]; exact inB_in hb) (fun H' e1 e2 e3 => ?_)
  refine kk o M' h hg H' _ ls hl (hW.set hA hd hM e3 (Wc.arr hk ?_)) (hS.put e2 e3 (hA.2.1 kd k i hd))
  rw [e1, arrV_store]
  exact congrArg some (arrV_congr hv)
theorem r_iast {kd k i n : Nat} {x v : Int32} {g : Mem → Option (ρ × Mem)} (C : Cx K G own cc nL ret) (hk : ka kd = some (0, n)) (hd : G.2.2.2.1 kd k i) (h1 : ∀ j, ft kd k i j = none) (h2 : ∀ j, ks kd j = 0) (d : decode cc pc = .ok (.iastore, 1))
    (kk : ∀ M1 : Mem, Run K G nL cs sl Fn (pc + 1) L st M1 (g M1)) : Run K G nL cs sl Fn pc L (.int v :: .int x :: .ref (G.1 kd k i) :: st) M (chk (inB x n) (nm (wI M kd k i x.toNatClampNeg v) g)) :=
  r_chk (fun hb => r_astv (w := .int v) C hk hd rfl hb (fun _ _ _ h => wI_alike h) (fun j' _ => fv_wI (h1 _) (h2 _) M v j') (fun a1 a2 a3 a4 a5 => W.iast C.1 C.2.1 a1 a2 a3 a4 rfl rfl d a5) (kk _))
theorem r_bast {kd k i n : Nat} {x v : Int32} {g : Mem → Option (ρ × Mem)} (C : Cx K G own cc nL ret) (hk : ka kd = some (1, n)) (hd : G.2.2.2.1 kd k i) (h1 : ∀ j, ft kd k i j = none) (h2 : ∀ j, ks kd j = 0) (d : decode cc pc = .ok (.bastore, 1))
    (kk : ∀ M1 : Mem, Run K G nL cs sl Fn (pc + 1) L st M1 (g M1)) : Run K G nL cs sl Fn pc L (.int v :: .int x :: .ref (G.1 kd k i) :: st) M (chk (inB x n) (nm (wI M kd k i x.toNatClampNeg v.toInt8.toInt32) g)) :=
  r_chk (fun hb => r_astv (w := .int v.toInt8.toInt32) C hk hd rfl hb (fun _ _ _ h => wI_alike h) (fun j' _ => fv_wI (h1 _) (h2 _) M _ j') (fun a1 a2 a3 a4 a5 => W.bast C.1 C.2.1 a1 a2 a3 a4 rfl rfl d a5) (kk _))
theorem r_zast {kd k i n : Nat} {x v : Int32} {g : Mem → Option (ρ × Mem)} (C : Cx K G own cc nL ret) (hk : ka kd = some (2, n)) (hd : G.2.2.2.1 kd k i) (h1 : ∀ j, ft kd k i j = none) (h2 : ∀ j, ks kd j = 0) (d : decode cc pc = .ok (.bastore, 1))
    (kk : ∀ M1 : Mem, Run K G nL cs sl Fn (pc + 1) L st M1 (g M1)) : Run K G nL cs sl Fn pc L (.int v :: .int x :: .ref (G.1 kd k i) :: st) M (chk (inB x n) (nm (wI M kd k i x.toNatClampNeg (v &&& 1)) g)) :=
  r_chk (fun hb => r_astv (w := .int (v &&& 1)) C hk hd rfl hb (fun _ _ _ h => wI_alike h) (fun j' _ => fv_wI (h1 _) (h2 _) M _ j') (fun a1 a2 a3 a4 a5 => W.zast C.1 C.2.1 a1 a2 a3 a4 rfl rfl d a5) (kk _))
theorem inB_1 {x : Int32} (h : inB x 1 = true) : x.toNatClampNeg = 0 := by have := inB_lt h; omega

/-! ===== ends, contracts, calls ===== -/
def QcR {σ : Type} (G : WT) (vo : σ → Option Value) (o : σ) (M' : Mem) : Array Value → State → Outcome → State → Prop := fun _ st oc t => oc = .returned (vo o) ∧ Wd G M' t.heap ∧ va_F G.2.2.2.2.1 st t
def FinM {σ : Type} (K : KT) (G : WT) (vo : σ → Option Value) (cs sl : Nat) : σ → Mem → Prop × (State → Prop) := fun o M' => (True, MQ K.2.2.2.2.2.2.2.1 (QcR G vo o M') K.2.2.2.2.2.2.1 K.2.2.2.2.1 cs sl G.2.2.2.2.1)
abbrev voI : Int32 → Option Value := fun o => some (.int o)
abbrev voL : Int64 → Option Value := fun o => some (.long o)
abbrev voF : UInt32 → Option Value := fun o => some (.float o)
abbrev voD : UInt64 → Option Value := fun o => some (.double o)
abbrev voV : Unit → Option Value := fun _ => none
abbrev voR (G : WT) (kd : Nat) : Nat × Nat → Option Value := fun o => some (.ref (G.1 kd o.1 o.2))
theorem r_iret {v : Int32} {ty : FieldType} (C : Cx K G own cc nL (some ty)) (hn : narrow ty (.int v) = .int v) (d : decode cc pc = .ok (.ireturn, 1)) : Run K G nL cs sl (FinM K G voI cs sl) pc L [.int v] M (some (v, M)) := by
  intro o M' h hg H locs ls hl hW hS
  cases h
  exact W.zret C.1 C.2.1 C.2.2.2.2.2.2.2 hn (fun t ht _ => ⟨rfl, by rw [ht]; exact hW, hS.F ht⟩) hS.2.2 d (hlocks := C.2.2.2.2.2.2.1)
theorem r_zret {v : Int32} (C : Cx K G own cc nL (some .boolean)) (d : decode cc pc = .ok (.ireturn, 1)) : Run K G nL cs sl (FinM K G voI cs sl) pc L [.int v] M (chk (decide (v = 0 ∨ v = 1)) (some (v, M))) :=
  r_chk (fun hb => r_iret C (by rcases of_decide_eq_true hb with rfl | rfl <;> rfl) d)
theorem r_vret (C : Cx K G own cc nL none) (d : decode cc pc = .ok (.return_, 1)) : Run K G nL cs sl (FinM K G voV cs sl) pc L [] M (some ((), M)) := by
  intro o M' h hg H locs ls hl hW hS
  cases h
  exact W.vret C.1 C.2.1 C.2.2.2.2.2.2.2 (fun t ht _ => ⟨rfl, by rw [ht]; exact hW, hS.F ht⟩) hS.2.2 d (hlocks := C.2.2.2.2.2.2.1)
theorem r_lret {v : Int64} (C : Cx K G own cc nL (some .long)) (d : decode cc pc = .ok (.lreturn, 1)) : Run K G nL cs sl (FinM K G voL cs sl) pc L [.long v] M (some (v, M)) := by
  intro o M' h hg H locs ls hl hW hS
  cases h
  exact W.lret C.1 C.2.1 C.2.2.2.2.2.2.2 (fun t ht _ => ⟨rfl, by rw [ht]; exact hW, hS.F ht⟩) hS.2.2 d (hlocks := C.2.2.2.2.2.2.1)
theorem r_fret {v : UInt32} (C : Cx K G own cc nL (some .float)) (d : decode cc pc = .ok (.freturn, 1)) : Run K G nL cs sl (FinM K G voF cs sl) pc L [.float v] M (some (v, M)) := by
  intro o M' h hg H locs ls hl hW hS
  cases h
  exact W.fret C.1 C.2.1 C.2.2.2.2.2.2.2 (fun t ht _ => ⟨rfl, by rw [ht]; exact hW, hS.F ht⟩) hS.2.2 d (hlocks := C.2.2.2.2.2.2.1)
theorem r_dret {v : UInt64} (C : Cx K G own cc nL (some .double)) (d : decode cc pc = .ok (.dreturn, 1)) : Run K G nL cs sl (FinM K G voD cs sl) pc L [.double v] M (some (v, M)) := by
  intro o M' h hg H locs ls hl hW hS
  cases h
  exact W.dret C.1 C.2.1 C.2.2.2.2.2.2.2 (fun t ht _ => ⟨rfl, by rw [ht]; exact hW, hS.F ht⟩) hS.2.2 d (hlocks := C.2.2.2.2.2.2.1)
theorem r_aret {kd k i : Nat} {cn : String} (C : Cx K G own cc nL (some (.object cn))) (d : decode cc pc = .ok (.areturn, 1)) : Run K G nL cs sl (FinM K G (voR G kd) cs sl) pc L [.ref (G.1 kd k i)] M (some ((k, i), M)) := by
  intro o M' h hg H locs ls hl hW hS
  cases h
  exact W.aret C.1 C.2.1 C.2.2.2.2.2.2.2 (Or.inl ⟨_, rfl⟩) (Or.inr ⟨_, rfl⟩) (fun t ht _ => ⟨rfl, by rw [ht]; exact hW, hS.F ht⟩) hS.2.2 d (hlocks := C.2.2.2.2.2.2.1)
def Pcw (G : WT) (As : List Value) (M : Mem) : Array Value → State → Prop := fun v U => v = As.toArray ∧ Wd G M U.heap ∧ Ws G U
theorem Pcw.blind {G : WT} {As : List Value} {M : Mem} : FrameBlind (Pcw G As M) := fun a U g mk q => by
  obtain ⟨h1, h2, h3, h4, h5, h6⟩ := q
  exact ⟨h1, h2, va_K.moved (u := U) (U := U.calling g mk a) (Vm.Alike.refl U.vm) h3, h4, Ext.moved (u := U) (U := U.calling g mk a) (Vm.Alike.refl U.vm) h5, Nw.warm (s := U) (U := U.calling g mk a) (State.WarmedH.refl U) h6⟩
abbrev rmM (fr lo : Nat) : Room := { frames := fr, cells := 0, slots := 0, locals := lo }
/-- a method's contract: what its picture answers, it answers -/
def Okm {σ : Type} (l : Launch) (G : WT) (y : MethodName) (cc : ByteArray) (maxL : Nat) (ret : Option FieldType) (fr lo : Nat) (As : List Value) (vo : σ → Option Value) (M : Mem) (res : Option (σ × Mem)) : Prop :=
  ∀ (o : σ) (M' : Mem), res = some (o, M') → Met l y (Cond.code y cc maxL ret :: tblG) (rmM fr lo) (Pcw G As M) (QcR G vo o M') 0 0 G.2.2.2.2.1
theorem Okm.of {σ : Type} {l : Launch} {G : WT} {y : MethodName} {cc : ByteArray} {maxL : Nat} {ret : Option FieldType} {fr lo : Nat} {As : List Value} {vo : σ → Option Value} {M : Mem} {res : Option (σ × Mem)} {L : List (Nat × Value)} (own : String) (hown : y.cls = own) (hy : plainName y.cls = true) (hn : (lg_sl As).length ≤ maxL) (hL : lv_args 0 As = L)
    (body : ∀ K : KT, K.2.1 = l → K.2.2.2.1 = rmM fr lo → Cx K G own cc maxL ret → Run K G maxL 0 0 (FinM K G vo 0 0) 0 L [] M res) : Okm l G y cc maxL ret fr lo As vo M res := by
  intro o M' hr
  refine Met.ofW (cc := cc) (maxL := maxL) (ret := ret) hy rfl ?_
  intro p e s m args below meth c s₁ B hml hv
  obtain ⟨rfl, hW, hWs⟩ := hv
  have hts := atoms_spec (ws := Cond.code y cc maxL ret :: tblG) B.pre
  have hl := lv_entry As (n := maxL) hn
  rw [lg_entry_eq]
  rw [hL] at hl
  subst hown
  exact body (p, l, e, rmM fr lo, s, m, As.toArray, below, meth, c) rfl rfl ⟨B.exec, B.bytes, hml, findClass_of_methodNamed B.named, fun w hw => hts w (List.mem_cons_of_mem _ hw), hWs, B.notSynchronized, B.returns⟩ o M' hr trivial s.heap [] _ hl hW va_S.rf
/-- the words of a callee -/
def Cw (y : MethodName) (cc : ByteArray) (maxL : Nat) (ret : Option FieldType) : Prop := Cond.initialized y.cls ∈ tblG ∧ Cond.code y cc maxL ret ∈ tblG
theorem gw_cons {y : MethodName} {cc : ByteArray} {maxL : Nat} {ret : Option FieldType} (h : Cond.code y cc maxL ret ∈ tblG) : GoodIn tblG (Cond.code y cc maxL ret :: tblG) := fun w hw => (List.mem_cons.mp hw).elim (fun e => by rw [e]; exact tblG_good _ h) (tblG_good w)
theorem r_go {σ : Type} {y : MethodName} {stk : List Value} {vo : σ → Option Value} {res : Option (σ × Mem)} {f : σ → Mem → Option (ρ × Mem)} {av : Array Value}
    (run : ∀ (o : σ) (M1 : Mem), res = some (o, M1) → ∀ (H : Heap) (locs : List Loc) (ls : Array Slot), lv_has ls nL L → Wd G M H → va_S G.2.2.2.2.1 K.2.2.2.2.1.heap H locs →
      va_Run K.1 K.2.1 K.2.2.1 K.2.2.2.1 K.2.2.2.2.1 K.2.2.2.2.2.1 K.2.2.2.2.2.2.1 K.2.2.2.2.2.2.2.1 K.2.2.2.2.2.2.2.2.1 K.2.2.2.2.2.2.2.2.2 H locs cs sl 0 0 (F0 K.2.2.2.2.2.1 pc ls stk) st (QcR G vo o M1 av) G.2.2.2.2.1)
    (kk : ∀ (o : σ) (M1 : Mem), Run K G nL cs sl Fn (pc + 3) L ((vo o).toList ++ st) M1 (f o M1)) : Run K G nL cs sl Fn pc L stk M (res.bind (fun x => f x.1 x.2)) := by
  intro o2 M2 h hg H locs ls hl hW hS T hT X
  cases hres : res with
  | none => rw [hres] at h; cases h
  | some x =>
    obtain ⟨o, M1⟩ := x
    rw [hres] at h
    have h : f o M1 = some (o2, M2) := h
    obtain ⟨v, st₀, t, T', L9, h0, X', hL, e1, e2, ⟨hv, hw, hz, hk⟩, stp⟩ := run o M1 hres H locs ls hl hW hS T hT X
    cases hv
    rw [h0] at hz hk
    obtain ⟨t2, a1, b1⟩ := kk o M1 o2 M2 h hg T'.heap (locs ++ L9) ls hl (by rw [e1]; exact hw)
      ⟨Nat.le_trans hS.1 (by rw [e1]; exact hz), fun q h1 h2 => by rw [e1, hk q (Nat.lt_of_lt_of_le h1 hS.1) h2]; exact hS.2.1 q h1 h2, fun q hq => by
        rcases List.mem_append.mp hq with h | h
        · exact hS.2.2 q h
        · exact hL q h⟩ T' rfl X'
    exact ⟨t2, stp t2 a1, b1⟩
theorem Ws.next {U : State} {H : Heap} {locs : List Loc} {s : State} (h : Ws G s) (hS : va_S G.2.2.2.2.1 s.heap H locs) (hU : U.heap = H) (hW : s.WarmedH U.vm) : Ws G U :=
  ⟨va_K.moved hW.alike h.1, h.2.1, Ext.moved hW.alike (by rw [hU]; exact h.2.2.1.kept hS.2.1), h.2.2.2.warm hW⟩
/-- the receiver is an object of the class C -/
def Rc (K : KT) (G : WT) (C : String) (b : Addr) : Prop := ∀ (M : Mem) (H : Heap) (locs : List Loc), Wd G M H → va_S G.2.2.2.2.1 K.2.2.2.2.1.heap H locs → ∃ cellB : Cell, H[b]? = some cellB ∧ cellB.vm.isStatics = false ∧ K.2.2.2.2.1.vm.findClass C = some cellB.cls
theorem Rc.of {kd k i ci N : Nat} {Cn : String} {T : u_T} (C : Cx K G own cc nL ret) (hk : kc kd = some (ci, N)) (hc : wCl[ci]? = some (Cn, T, N)) (hd : G.2.2.2.1 kd k i) : Rc K G Cn (G.1 kd k i) := fun M H locs hW hS => by
  obtain ⟨cell, q1, q2, q3, q4⟩ := (hW kd k i hd).1 ci N hk
  obtain ⟨-, hfc, -⟩ := C.2.2.2.2.2.1.1.1 ci _ hc
  exact ⟨cell, q1, by rw [q3]; rfl, by rw [q2]; exact hfc⟩
theorem r_callV {σ : Type} {y : MethodName} {bytes : ByteArray} {maxL fr lo fr0 lo0 index n : Nat} {ret' : Option FieldType} {b : Addr} {As : List Value} {stk : List Value} {vo : σ → Option Value} {res : Option (σ × Mem)} {f : σ → Mem → Option (ρ × Mem)} (C : Cx K G own cc nL ret) (hRm : K.2.2.2.1.frames = fr0 ∧ K.2.2.2.1.locals = lo0) (hM : Okm K.2.1 G y bytes maxL ret' fr lo (.ref b :: As) vo M res) (hrc : Rc K G y.cls b)
    (hl : Cond.methodLink own index y ∈ tblG) (hi : Cond.instanceMethod y ∈ tblG) (hs : Cond.selects y.cls y y ∈ tblG) (hcw : Cw y bytes maxL ret') (hy : y.cls ≠ "java/lang/invoke/MethodHandle" ∧ y.cls ≠ "java/lang/invoke/VarHandle" ∧ (parseMethodDescriptor y.desc).map (fun d => d.parameters.length) = some n) (hn : As.length = n) (hR : fr + 1 ≤ fr0 ∧ 8 + (maxL + 11) + lo ≤ lo0)
    (hst : stk = As.reverse ++ .ref b :: st) (h8 : (st.map fun v => v.category).sum ≤ 8) (d : decode cc pc = .ok (.invokevirtual index, 3)) (kk : ∀ (o : σ) (M1 : Mem), Run K G nL 0 0 Fn (pc + 3) L ((vo o).toList ++ st) M1 (f o M1)) : Run K G nL 0 0 Fn pc L stk M (res.bind (fun x => f x.1 x.2)) := by
  refine r_go (y := y) (av := (Value.ref b :: As).toArray) (fun o M1 hres H locs ls hls hW hS => ?_) kk
  have hts := C.2.2.2.2.1
  refine va_runV (n := n) ⟨C.1, C.2.1, C.2.2.1, C.2.2.2.1, hts⟩ (hM o M1 hres) (cwV n hts (fun w hw => ?_) rfl rfl rfl ⟨rfl, hy⟩ (by rw [hRm.1, hRm.2]; exact hR)) ⟨Pcw.blind, hrc M H locs hW hS, fun U hU hWm => ⟨rfl, by rw [hU]; exact hW, C.2.2.2.2.2.1.next hS hU hWm⟩⟩ rfl hn hls.1 hst (lv_room h8) d ⟨Nat.zero_le _, Nat.zero_le _⟩
  unfold wsV at hw
  rcases List.mem_append.mp hw with hw | hw
  · simp only [List.mem_cons, List.not_mem_nil, or_false] at hw
    rcases hw with rfl | rfl | rfl | rfl
    · exact tblG_good _ hl
    · exact tblG_good _ hi
    · exact tblG_good _ hs
    · exact tblG_good _ hcw.1
  · exact gw_cons hcw.2 w hw
theorem r_callS {σ : Type} {y : MethodName} {bytes : ByteArray} {maxL fr lo fr0 lo0 index n : Nat} {ret' : Option FieldType} {As : List Value} {stk : List Value} {vo : σ → Option Value} {res : Option (σ × Mem)} {f : σ → Mem → Option (ρ × Mem)} (C : Cx K G own cc nL ret) (hRm : K.2.2.2.1.frames = fr0 ∧ K.2.2.2.1.locals = lo0) (hM : Okm K.2.1 G y bytes maxL ret' fr lo As vo M res)
    (hl : Cond.methodLink own index y ∈ tblG) (hi : Cond.static y ∈ tblG) (hcw : Cw y bytes maxL ret') (hy : y.cls ≠ "java/lang/invoke/MethodHandle" ∧ y.cls ≠ "java/lang/invoke/VarHandle" ∧ (parseMethodDescriptor y.desc).map (fun d => d.parameters.length) = some n) (hn : As.length = n) (hR : fr + 1 ≤ fr0 ∧ 8 + (maxL + 11) + lo ≤ lo0)
    (hst : stk = As.reverse ++ st) (h8 : (st.map fun v => v.category).sum ≤ 8) (d : decode cc pc = .ok (.invokestatic index, 3)) (kk : ∀ (o : σ) (M1 : Mem), Run K G nL 0 0 Fn (pc + 3) L ((vo o).toList ++ st) M1 (f o M1)) : Run K G nL 0 0 Fn pc L stk M (res.bind (fun x => f x.1 x.2)) := by
  refine r_go (y := y) (av := As.toArray) (fun o M1 hres H locs ls hls hW hS => ?_) kk
  have hts := C.2.2.2.2.1
  refine va_runS (n := n) ⟨C.1, C.2.1, C.2.2.1, C.2.2.2.1, hts⟩ (hM o M1 hres) (va_cwS n hts (fun w hw => ?_) rfl rfl rfl hy (by rw [hRm.1, hRm.2]; exact hR)) ⟨Pcw.blind, fun U hU hWm => ⟨rfl, by rw [hU]; exact hW, C.2.2.2.2.2.1.next hS hU hWm⟩⟩ rfl hn hls.1 hst (lv_room h8) d ⟨Nat.zero_le _, Nat.zero_le _⟩
  unfold va_wsS at hw
  rcases List.mem_append.mp hw with hw | hw
  · simp only [List.mem_cons, List.not_mem_nil, or_false] at hw
    rcases hw with rfl | rfl | rfl
    · exact tblG_good _ hl
    · exact tblG_good _ hi
    · exact tblG_good _ hcw.1
  · exact gw_cons hcw.2 w hw

theorem r_i2c (C : Cx K G own cc nL ret) {x : Int32} (d : decode cc pc = .ok (.i2c, 1)) (k : Run K G nL cs sl Fn (pc + 1) L (.int (x.toUInt32 % 65536).toInt32 :: st) M r) : Run K G nL cs sl Fn pc L (.int x :: st) M r := fun o M' h hg H locs ls hl hW hS => lv_i2c C.1 C.2.1 d rfl (k o M' h hg H locs ls hl hW hS)
theorem ks_19 {kd j : Nat} (h : ks kd j = 1) : kd = 19 ∧ j = 1 := by
  unfold ks at h
  split at h
  · split at h
    · exact ⟨rfl, rfl⟩
    · cases h
  · cases h
theorem ks_1 (kd j : Nat) : ks kd j ≤ 1 := by
  unfold ks
  split
  · split <;> omega
  · omega
def W0 (G : WT) : Prop := ∀ kd k i, G.2.2.2.1 kd k i → 19 ≤ kd → k = 0 ∧ i = 0
/-! constants of the classes -/
theorem Cx.ext (C : Cx K G own cc nL ret) : Ext G K.2.2.2.2.1 K.2.2.2.2.1.heap := C.2.2.2.2.2.1.2.2.1
theorem Cx.nw (C : Cx K G own cc nL ret) : Nw G K.2.2.2.2.1 := C.2.2.2.2.2.1.2.2.2
theorem r_gets {Cn n ds : String} {v : Value} {index : Nat} (C : Cx K G own cc nL ret) (hZ : va_Z Cn n ds v G.2.2.2.2.1 K.2.2.2.2.1 K.2.2.2.2.1.heap) (hl : Cond.fieldLink own index Cn n ds ∈ tblG) (d : decode cc pc = .ok (.getstatic index, 3))
    (kk : Run K G nL cs sl Fn (pc + 3) L (v :: st) M r) : Run K G nL cs sl Fn pc L st M r := fun o M' h hg H locs ls hls hW hS =>
  va_gets C.1 C.2.1 hZ hS C.2.2.2.1 (C.w hl) (fun _ q => q) d (kk o M' h hg H locs ls hls hW hS)
theorem r_getsN {Cn n ds host : String} {v : Value} {index : Nat} (C : Cx K G own cc nL ret) (hZ : va_Z Cn n ds v G.2.2.2.2.1 K.2.2.2.2.1 K.2.2.2.2.1.heap) (hl : va_Nw (.fieldLinkNest own index Cn n ds host) K.2.2.2.2.1) (d : decode cc pc = .ok (.getstatic index, 3))
    (kk : Run K G nL cs sl Fn (pc + 3) L (v :: st) M r) : Run K G nL cs sl Fn pc L st M r := fun o M' h hg H locs ls hls hW hS =>
  va_getsN C.1 C.2.1 hZ hS C.2.2.2.1 (va_Nw.use rfl hl) (fun _ q => q) d (kk o M' h hg H locs ls hls hW hS)
theorem r_getx {o0 n ds : String} {v : Value} {index q : Nat} (C : Cx K G own cc nL ret) (hZ : va_OF o0 n ds v q G.2.2.2.2.1 K.2.2.2.2.1 K.2.2.2.2.1.heap) (hl : Cond.fieldLink own index o0 n ds ∈ tblG) (d : decode cc pc = .ok (.getfield index, 3))
    (kk : Run K G nL cs sl Fn (pc + 3) L (v :: st) M r) : Run K G nL cs sl Fn pc L (.ref q :: st) M r := fun o M' h hg H locs ls hls hW hS =>
  vk_getf C.1 C.2.1 hZ hS C.2.2.2.1 (C.w hl) (fun _ q => q) d (kk o M' h hg H locs ls hls hW hS)
theorem r_tlen {ty : FieldType} {t N : Nat} {f : Nat → Value} (C : Cx K G own cc nL ret) (hT : va_T ty t N f G.2.2.2.2.1 K.2.2.2.2.1 K.2.2.2.2.1.heap) (d : decode cc pc = .ok (.arraylength, 1))
    (kk : Run K G nL cs sl Fn (pc + 1) L (.int (Int32.ofNat N) :: st) M r) : Run K G nL cs sl Fn pc L (.ref t :: st) M r := fun o M' h hg H locs ls hls hW hS =>
  va_tlen C.1 C.2.1 hT hS rfl d (kk o M' h hg H locs ls hls hW hS)
theorem r_tq {cn : String} {t N : Nat} {f : Nat → Value} {x : Int32} (C : Cx K G own cc nL ret) (hT : va_T (.object cn) t N f G.2.2.2.2.1 K.2.2.2.2.1 K.2.2.2.2.1.heap) (d : decode cc pc = .ok (.aaload, 1))
    (kk : x.toNatClampNeg < N → Run K G nL cs sl Fn (pc + 1) L (f x.toNatClampNeg :: st) M r) : Run K G nL cs sl Fn pc L (.int x :: .ref t :: st) M (chk (inB x N) r) :=
  r_chk (fun hb o M' h hg H locs ls hls hW hS => vb_tq C.1 C.2.1 hT hS (inB_in hb) rfl d (kk (inB_lt hb) o M' h hg H locs ls hls hW hS))
theorem r_ti {t N : Nat} {f : Nat → Value} {x : Int32} (C : Cx K G own cc nL ret) (hT : va_T .int t N f G.2.2.2.2.1 K.2.2.2.2.1 K.2.2.2.2.1.heap) (d : decode cc pc = .ok (.iaload, 1))
    (kk : Run K G nL cs sl Fn (pc + 1) L (f x.toNatClampNeg :: st) M r) : Run K G nL cs sl Fn pc L (.int x :: .ref t :: st) M (chk (inB x N) r) :=
  r_chk (fun hb o M' h hg H locs ls hls hW hS => va_ti C.1 C.2.1 hT hS (inB_in hb) rfl d (kk o M' h hg H locs ls hls hW hS))
theorem r_tb {t N : Nat} {f : Nat → Value} {x : Int32} (C : Cx K G own cc nL ret) (hT : va_T .byte t N f G.2.2.2.2.1 K.2.2.2.2.1 K.2.2.2.2.1.heap) (d : decode cc pc = .ok (.baload, 1))
    (kk : Run K G nL cs sl Fn (pc + 1) L (f x.toNatClampNeg :: st) M r) : Run K G nL cs sl Fn pc L (.int x :: .ref t :: st) M (chk (inB x N) r) :=
  r_chk (fun hb o M' h hg H locs ls hls hW hS => va_tb C.1 C.2.1 hT hS (inB_in hb) rfl d (kk o M' h hg H locs ls hls hW hS))
theorem r_acmpE {a1 a2 : Nat} {off : Int} {tgt : Nat} (C : Cx K G own cc nL ret) (h1 : a1 < 11) (h2 : a2 < 11) (d : decode cc pc = .ok (.if_acmp .eq off, 3)) (ht : (pc : Int) + off = (tgt : Int)) (k1 : Run K G nL cs sl Fn tgt L st M r1) (k2 : Run K G nL cs sl Fn (pc + 3) L st M r2) :
    Run K G nL cs sl Fn pc L (.ref (G.2.2.2.2.2.1 a2) :: .ref (G.2.2.2.2.2.1 a1) :: st) M (if a1 = a2 then r1 else r2) := by
  intro o M' h hg H locs ls hls hW hS
  refine lv_acmp_eq (rx := some (G.2.2.2.2.2.1 a1)) (ry := some (G.2.2.2.2.2.1 a2)) C.1 C.2.1 d ht (fun hc => ?_) (fun hc => ?_)
  · rw [if_pos (C.ext.2.2.2.1 a1 a2 h1 h2 (Option.some.inj hc))] at h
    exact k1 o M' h hg H locs ls hls hW hS
  · rw [if_neg (fun e => hc (by rw [e]))] at h
    exact k2 o M' h hg H locs ls hls hW hS
theorem r_max {x y : Int32} {index : Nat} (C : Cx K G own cc nL ret) (hl : Cond.methodLink own index Lib.Math.max.name ∈ tblG) (hs : Cond.static Lib.Math.max.name ∈ tblG) (hi : Cond.initialized "java/lang/Math" ∈ tblG) (hc : Cond.code Lib.Math.max.name Lib.Math.max.code 2 (some .int) ∈ tblG) {fr0 lo0 : Nat} (hRm : K.2.2.2.1.frames = fr0 ∧ K.2.2.2.1.locals = lo0) (hR : 1 ≤ fr0 ∧ (st.map fun v => v.category).sum + 13 ≤ lo0) (d : decode cc pc = .ok (.invokestatic index, 3))
    (kk : Run K G nL 0 0 Fn (pc + 3) L (.int (if x < y then y else x) :: st) M r) : Run K G nL 0 0 Fn pc L (.int y :: .int x :: st) M r := fun o M' h hg H locs ls hls hW hS =>
  va_mmax C.1 C.2.1 (C.2.2.1.trans hls.1.symm) C.2.2.2.1 (C.w hl) (C.w hs) (C.w hi) (C.w hc) (by rw [hRm.1]; exact hR.1) (by rw [hRm.2]; exact hR.2) (Nat.zero_le _) (Nat.zero_le _) d (kk o M' h hg H locs ls hls hW hS)
/-- one row of ints copied whole over another -/
def cpI (M : Mem) (kd' k' i' kd k i : Nat) : Mem := (fun a b c d => if a = kd ∧ b = k ∧ c = i then M.1 kd' k' i' d else M.1 a b c d, M.2)
theorem cpI_alike {M : Mem} {kd' k' i' kd k i a b c : Nat} (h : ¬ (a = kd ∧ b = k ∧ c = i)) : alikeAt M (cpI M kd' k' i' kd k i) a b c := ⟨fun j => by simp [cpI, h], fun _ _ => rfl, fun _ _ => rfl, fun _ _ => rfl⟩
theorem i32_nn {z : Int32} (hz : ¬ z < 0) : z.toInt = (z.toNatClampNeg : Int) := by
  have hz0 : (0 : Int) ≤ z.toInt := by
    have := Int32.not_lt.mp hz
    simpa using Int32.le_iff_toInt_le.mp this
  show z.toInt = ((z.toInt.toNat : Nat) : Int)
  omega
theorem r_copy {kd' k' i' kd k i n index : Nat} {z : Int32} {g : Mem → Option (ρ × Mem)} (C : Cx K G own cc nL ret) (hk' : ka kd' = some (0, n)) (hk : ka kd = some (0, n)) (hd' : G.2.2.2.1 kd' k' i') (hd : G.2.2.2.1 kd k i) (h1 : ∀ j, ft kd' k' i' j = none) (h2 : ∀ j, ks kd' j = 0) (h3 : ∀ j, ft kd k i j = none) (h4 : ∀ j, ks kd j = 0) (hz : z.toNatClampNeg = n) (hz0 : ¬ z < 0)
    (hl : Cond.methodLink own index arraycopyName ∈ tblG) (hn : Cond.native arraycopyName ∈ tblG) (hs : Cond.static arraycopyName ∈ tblG) (hi : Cond.initialized "java/lang/System" ∈ tblG) {fr0 lo0 : Nat} (hRm : K.2.2.2.1.frames = fr0 ∧ K.2.2.2.1.locals = lo0) (hR : 1 ≤ fr0 ∧ (st.map fun v => v.category).sum + (nativeFrameWords "java/lang/System" "arraycopy" 5 + 11) ≤ lo0) (d : decode cc pc = .ok (.invokestatic index, 3))
    (kk : ∀ M1 : Mem, Run K G nL 0 0 Fn (pc + 3) L st M1 (g M1)) : Run K G nL 0 0 Fn pc L (.int z :: .int 0 :: .ref (G.1 kd k i) :: .int 0 :: .ref (G.1 kd' k' i') :: st) M (nm (cpI M kd' k' i' kd k i) g) := by
  intro o M' h hg H locs ls hls hW hS T hT X
  have hK := C.2.2.2.2.2.1.1
  have hA := C.2.2.2.2.2.1.2.1
  have c0 := (hW kd' k' i' hd').2 0 n hk'
  have c1 := (hW kd k i hd).2 0 n hk
  have g0 : (fun j => fv G M kd' k' i' j) = (fun j => Value.int (M.1 kd' k' i' j)) := funext fun j => fv_int (h1 j) (h2 j) M
  have g1 : (fun j => fv G M kd k i j) = (fun j => Value.int (M.1 kd k i j)) := funext fun j => fv_int (h3 j) (h4 j) M
  rw [g0] at c0
  rw [g1] at c1
  obtain ⟨-, k0, hk0, cm0, hkk0⟩ := (hK.2 0 _ rfl).1 n (fun j => Value.int (M.1 kd' k' i' j))
  obtain ⟨-, k1, hk1, cm1, hkk1⟩ := (hK.2 0 _ rfl).1 n (fun j => Value.int (M.1 kd k i j))
  obtain ⟨vm', X', step⟩ := X.arraycopy C.1 C.2.2.2.1 (C.w hl) (C.w hn) (C.w hs) (C.w hi) (src := G.1 kd' k' i') (dst := G.1 kd k i) (srcPos := 0) (destPos := 0) (n := z) (by rw [hT]; exact c0) (by rw [hT]; exact c1)
    (fun _ h => by cases h) (fun _ h => by cases h) (fun h => by cases h) (fun h => by cases h) hk0 hk1 hkk0 hkk1 (by rfl) (by decide) (by decide) hz0
    (by rw [i32_nn hz0, hz, arrV_size]; show ¬ (0 : Int) + n > n; omega) (by rw [i32_nn hz0, hz, arrV_size]; show ¬ (0 : Int) + n > n; omega)
    (fun vm₁ _ q hq => by
      have hq' : q < n := by rw [← hz]; exact hq
      have e : (arrV (G.2.2.1 0) n (fun j => Value.int (M.1 kd' k' i' j))).slots.getD ((0 : Int32).toNatClampNeg + q) .null = .int (M.1 kd' k' i' q) := by
        show (arrV _ _ _).slots.getD (0 + q) _ = _
        rw [Nat.zero_add, Array.getD_eq_getD_getElem?, arrV_read _ _ hq']
        rfl
      rw [e]
      exact ⟨rfl, trivial⟩)
    (g := F0 K.2.2.2.2.2.1 pc ls (.int z :: .int 0 :: .ref (G.1 kd k i) :: .int 0 :: .ref (G.1 kd' k' i') :: st)) rfl (hls.1.trans C.2.2.1.symm) (rest := st) rfl (by rw [C.2.1]; exact d) (by rw [hRm.1]; exact hR.1) (by rw [hRm.2]; show 2 * 0 + _ + _ ≤ _; have := hR.2; omega)
  have e1 : copied (arrV (G.2.2.1 0) n (fun j => Value.int (M.1 kd' k' i' j))) (arrV (G.2.2.1 0) n (fun j => Value.int (M.1 kd k i j))) 0 0 z = arrV (G.2.2.1 0) n (fun j => fv G (cpI M kd' k' i' kd k i) kd k i j) := by
    have := va_copied (fun q => Value.int q) (G.2.2.1 0) (G.2.2.1 0) (n1 := n) (sp := 0) (dp := 0) (n := n) (n0 := n) (M.1 kd' k' i') (M.1 kd k i) (by omega)
    have e2 : copied (arrV (G.2.2.1 0) n (fun j => Value.int (M.1 kd' k' i' j))) (arrV (G.2.2.1 0) n (fun j => Value.int (M.1 kd k i j))) 0 0 z = (arrV (G.2.2.1 0) n (fun j => Value.int (M.1 kd k i j))).storeRun 0 ((arrV (G.2.2.1 0) n (fun j => Value.int (M.1 kd' k' i' j))).stretch 0 n) := by
      rw [← hz]; rfl
    rw [e2, this]
    refine arrV_congr fun j hj => ?_
    rw [fv_int (h3 j) (h4 j)]
    show Value.int (va_cpy _ _ 0 0 n j) = Value.int ((cpI M kd' k' i' kd k i).1 kd k i j)
    have e3 : (cpI M kd' k' i' kd k i).1 kd k i j = M.1 kd' k' i' j := by simp [cpI]
    have e4 : va_cpy (M.1 kd' k' i') (M.1 kd k i) 0 0 n j = M.1 kd' k' i' j := by simp [va_cpy, hj]
    rw [e3, e4]
  rw [e1] at X' step
  have hl2 : G.1 kd k i < H.size := (Array.getElem?_eq_some_iff.mp c1).1
  have hH : ((T.setVm vm').setCell (G.1 kd k i) (arrV (G.2.2.1 0) n (fun j => fv G (cpI M kd' k' i' kd k i) kd k i j))).heap = H.setIfInBounds (G.1 kd k i) (arrV (G.2.2.1 0) n (fun j => fv G (cpI M kd' k' i' kd k i) kd k i j)) := by rw [← hT]; rfl
  have oq : ∀ q : Nat, q ≠ G.1 kd k i → (H.setIfInBounds (G.1 kd k i) (arrV (G.2.2.1 0) n (fun j => fv G (cpI M kd' k' i' kd k i) kd k i j)))[q]? = H[q]? := fun q hq => by simp [Array.getElem?_setIfInBounds, Ne.symm hq]
  obtain ⟨t, a1, b1⟩ := kk (cpI M kd' k' i' kd k i) o M' h hg _ _ ls hls (hW.set hA hd (fun _ _ _ hh => cpI_alike hh) oq (Wc.arr hk (by simp [Array.getElem?_setIfInBounds, hl2]))) ⟨by simp; exact hS.1, fun q g1 g2 => by
      rw [oq q (fun e => g2 (by rw [e]; exact hA.2.1 kd k i hd))]
      exact hS.2.1 q g1 g2, fun q hq => by
      rcases List.mem_append.mp hq with h | h
      · exact hS.2.2 q h
      · obtain ⟨w, -, hw⟩ := List.mem_map.mp h
        rw [← hw]
        exact hA.2.1 kd k i hd⟩ _ hH X'
  exact ⟨t, step t a1, b1⟩
/-! the script and the law's own object -/
def scr (G : WT) : Nat × (Nat → Int32) := (G.2.2.2.2.2.1 103, fun j => nI (G.2.2.2.2.2.2.2 j))
theorem r_xsN (C : Cx K G own cc nL ret) (d : decode cc pc = .ok (.arraylength, 1)) (kk : Run K G nL cs sl Fn (pc + 1) L (.int (Int32.ofNat (scr G).1) :: st) M r) : Run K G nL cs sl Fn pc L (.ref (G.2.2.2.2.2.1 102) :: st) M r := r_tlen C C.ext.2.2.2.2.2.2.2.1 d kk
theorem r_xsL {x : Int32} (C : Cx K G own cc nL ret) (d : decode cc pc = .ok (.iaload, 1)) (kk : Run K G nL cs sl Fn (pc + 1) L (.int ((scr G).2 x.toNatClampNeg) :: st) M r) : Run K G nL cs sl Fn pc L (.int x :: .ref (G.2.2.2.2.2.1 102) :: st) M (chk (inB x (scr G).1) r) := r_ti C C.ext.2.2.2.2.2.2.2.1 d kk
theorem r_getInts {ci N : Nat} {nm0 ds Cn : String} {T : u_T} {fin : Bool} {index : Nat} (C : Cx K G own cc nL ret) (F : FF 19 1 nm0 ds ci N Cn T fin) (hl : Cond.fieldLink own index Cn nm0 ds ∈ tblG) (hd : G.2.2.2.1 19 0 0) (d : decode cc pc = .ok (.getfield index, 3)) (kk : Run K G nL cs sl Fn (pc + 3) L (.ref (G.2.2.2.2.2.1 102) :: st) M r) : Run K G nL cs sl Fn pc L (.ref (G.1 19 0 0) :: st) M (chk (decide (¬ M.1 19 0 0 1 = 0)) r) :=
  r_chk (fun h => r_get C F hl hd d (by show (if M.1 19 0 0 1 = 0 then Value.null else .ref (G.2.2.2.2.2.1 102)) = _; rw [if_neg (of_decide_eq_true h)]) kk)
theorem r_putInts {ci N : Nat} {nm0 Cn : String} {T : u_T} {index : Nat} {g : Mem → Option (ρ × Mem)} (C : Cx K G own cc nL ret) (F : FF 19 1 nm0 "[I" ci N Cn T false) (hl : Cond.fieldLink own index Cn nm0 "[I" ∈ tblG) (hd : G.2.2.2.1 19 0 0) (ty0 : Nat → FieldType) (hty : ∀ k, k < N → parseFieldDescriptor (T k).2.2.1 = some (ty0 k)) (hnm : ∀ a, a < N → ∀ b, b < N → a ≠ b → (T a).2.1 ≠ (T b).2.1) (d : decode cc pc = .ok (.putfield index, 3))
    (kk : ∀ M1 : Mem, Run K G nL cs sl Fn (pc + 3) L st M1 (g M1)) : Run K G nL cs sl Fn pc L (.ref (G.2.2.2.2.2.1 102) :: .ref (G.1 19 0 0) :: st) M (nm (wI M 19 0 0 1 1) g) := by
  refine r_putv C F hl hd d ty0 hty hnm (ty := .array .int) (by decide +kernel) rfl rfl (fun _ _ _ h => wI_alike h) (fun j' => ?_) (kk _)
  by_cases e : j' = 1
  · subst e
    show (if (1 : Nat) = 1 then _ else _) = _
    rw [if_pos rfl]
    show _ = (if (wI M 19 0 0 1 1).1 19 0 0 1 = 0 then Value.null else .ref (G.2.2.2.2.2.1 102))
    have e1 : (wI M 19 0 0 1 1).1 19 0 0 1 = 1 := by
      show up4 M.1 19 0 0 1 1 19 0 0 1 = 1
      exact up4_same M.1 19 0 0 1 1
    rw [e1, if_neg (by decide)]
  · show (if j' = 1 then _ else _) = _
    rw [if_neg e]
    show fv G M 19 0 0 j' = _
    unfold fv
    cases ft 19 0 0 j' with
    | some c => rfl
    | none =>
      show fs G M (ks 19 j') 19 0 0 j' = fs G (wI M 19 0 0 1 1) (ks 19 j') 19 0 0 j'
      match hk : ks 19 j' with
      | 0 =>
        show Value.int (M.1 19 0 0 j') = Value.int (up4 M.1 19 0 0 1 1 19 0 0 j')
        rw [up4_ne (fun q => e q.2.2.2)]
      | 1 => exact absurd (ks_19 hk).2 e
      | n + 2 => have := ks_1 19 j'; omega

end RROWS
