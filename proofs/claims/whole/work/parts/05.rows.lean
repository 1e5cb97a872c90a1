/-! ===== what never changes in the heap, and pictures of runs ===== -/
def Ext (G : WT) (U : State) (H : Heap) : Prop :=
  va_Z "PermitPark" "OPS" "[LPermitPark$Op;" (.ref (G.2.2.2.2.2.1 100)) G.2.2.2.2.1 U H ∧
  va_T (.object "PermitPark$Op") (G.2.2.2.2.2.1 100) 11 (fun j => .ref (G.2.2.2.2.2.1 j)) G.2.2.2.2.1 U H ∧
  (∀ i, i < 11 → va_O "PermitPark$Op" (G.2.2.2.2.2.1 i) G.2.2.2.2.1 U H ∧ va_OF "java/lang/Enum" "ordinal" "I" (.int (nI i)) (G.2.2.2.2.2.1 i) G.2.2.2.2.1 U H ∧
    va_OF "PermitPark$Op" "word" "Ljava/lang/String;" (.ref (G.2.2.2.2.2.2.1 i)) (G.2.2.2.2.2.1 i) G.2.2.2.2.1 U H ∧
    va_OF "PermitPark$Op" "least" "I" (.int (xLeast.getD i 0)) (G.2.2.2.2.2.1 i) G.2.2.2.2.1 U H ∧ va_OF "PermitPark$Op" "most" "I" (.int (xMost.getD i 0)) (G.2.2.2.2.2.1 i) G.2.2.2.2.1 U H) ∧
  (∀ i j, i < 11 → j < 11 → G.2.2.2.2.2.1 i = G.2.2.2.2.2.1 j → i = j) ∧
  va_Z "PermitPark$Op" "PARK" "LPermitPark$Op;" (.ref (G.2.2.2.2.2.1 1)) G.2.2.2.2.1 U H ∧
  va_Z "PermitPark$1" "$SwitchMap$PermitPark$Op" "[I" (.ref (G.2.2.2.2.2.1 101)) G.2.2.2.2.1 U H ∧
  va_T .int (G.2.2.2.2.2.1 101) 11 (fun j => .int (nI (if j < 10 then j + 1 else 0))) G.2.2.2.2.1 U H ∧
  vk_S 14 xLen xByt G.2.2.2.2.2.2.1 G.2.2.2.2.2.2.2 G.2.2.2.2.1 U H ∧
  va_Z "java/lang/String" "COMPACT_STRINGS" "Z" (.int 1) G.2.2.2.2.1 U H ∧
  va_Zq "jdk/internal/util/Preconditions" "SIOOBE_FORMATTER" "Ljava/util/function/BiFunction;" G.2.2.2.2.1 U H ∧
  vx_Zq Bundle.tN "UNASSIGNED_STACK" Bundle.steD G.2.2.2.2.1 U H ∧ vx_Zq Bundle.tN "SUPPRESSED_SENTINEL" Bundle.listD G.2.2.2.2.1 U H
theorem Ext.moved {G : WT} {u U : State} {H : Heap} (hvm : u.vm.Alike U.vm) (h : Ext G u H) : Ext G U H := by
  obtain ⟨h1, h2, h3, h4, h5, h6, h7, h8, h9, h10, h11, h12⟩ := h
  exact ⟨h1.moved hvm, h2.moved hvm, fun i hi => ⟨(h3 i hi).1.moved hvm, (h3 i hi).2.1.moved hvm, (h3 i hi).2.2.1.moved hvm, (h3 i hi).2.2.2.1.moved hvm, (h3 i hi).2.2.2.2.moved hvm⟩, h4, h5.moved hvm, h6.moved hvm, h7.moved hvm, h8.moved hvm, h9.moved hvm, h10.moved hvm, h11.moved hvm, h12.moved hvm⟩
theorem Ext.kept {G : WT} {U : State} {H H1 : Heap} (h : Ext G U H) (hq : ∀ a : Nat, a < H.size → ¬ G.2.2.2.2.1 a → H1[a]? = H[a]?) : Ext G U H1 := by
  obtain ⟨h1, h2, h3, h4, h5, h6, h7, h8, h9, h10, h11, h12⟩ := h
  exact ⟨h1.kept hq, h2.kept hq, fun i hi => ⟨(h3 i hi).1.kept hq, (h3 i hi).2.1.kept hq, (h3 i hi).2.2.1.kept hq, (h3 i hi).2.2.2.1.kept hq, (h3 i hi).2.2.2.2.kept hq⟩, h4, h5.kept hq, h6.kept hq, h7.kept hq, h8.kept hq, h9.kept hq, h10.kept hq, h11.kept hq, h12.kept hq⟩
def Ws (G : WT) (U : State) : Prop := va_K G.2.1 wCl (tysOf G.2.2.1) U ∧ Wa G ∧ Ext G U U.heap
abbrev KT : Type := Program × Launch × Env × Room × State × MethodId × Array Value × List Frame × Method × Code
abbrev KT.s (K : KT) : State := K.2.2.2.2.1
def Cx (K : KT) (G : WT) (own : String) (cc : ByteArray) (nL : Nat) (ret : Option FieldType) : Prop :=
  K.1.tables.exec = Jvm.exec ∧ K.2.2.2.2.2.2.2.2.2.code = cc ∧ K.2.2.2.2.2.2.2.2.2.maxLocals = nL ∧ K.2.2.2.2.1.vm.findClass own = some K.2.2.2.2.2.1.cls ∧ (∀ w ∈ tblG, w.before K.2.2.2.2.2.2.1 K.2.2.2.2.1 = true) ∧ Ws G K.2.2.2.2.1 ∧ K.2.2.2.2.2.2.2.2.1.locks = false ∧ K.2.2.2.2.2.2.2.2.1.sig.returnType = ret
def Run {ρ : Type} (K : KT) (G : WT) (nL cs sl : Nat) (Fn : ρ → Mem → State → Prop) (pc : Nat) (L : List (Nat × Value)) (st : List Value) (M : Mem) (r : Option (ρ × Mem)) : Prop :=
  ∀ (o : ρ) (M' : Mem), r = some (o, M') → ∀ (H : Heap) (locs : List Loc) (ls : Array Slot), lv_has ls nL L → Wd G M H → va_S G.2.2.2.2.1 K.2.2.2.2.1.heap H locs →
    W K.1 K.2.1 K.2.2.1 K.2.2.2.1 K.2.2.2.2.1 K.2.2.2.2.2.1 K.2.2.2.2.2.2.1 K.2.2.2.2.2.2.2.1 K.2.2.2.2.2.2.2.2.1 K.2.2.2.2.2.2.2.2.2 H locs cs sl (Fn o M') (F0 K.2.2.2.2.2.1 pc ls st)
section RROWS
variable {ρ : Type} {K : KT} {G : WT} {own : String} {cc : ByteArray} {nL cs sl : Nat} {ret : Option FieldType} {Fn : ρ → Mem → State → Prop} {pc : Nat} {L L' : List (Nat × Value)} {st : List Value} {M : Mem} {r r1 r2 : Option (ρ × Mem)}
theorem Cx.w (C : Cx K G own cc nL ret) {w : Cond} (h : w ∈ tblG) : w.before K.2.2.2.2.2.2.1 K.2.2.2.2.1 = true := C.2.2.2.2.1 w h
theorem r_none : Run K G nL cs sl Fn pc L st M none := fun o M' h => by cases h
/-- a value named -/
theorem r_nmi {x : Int32} {f : Int32 → Option (ρ × Mem)} (k : ∀ y : Int32, Run K G nL cs sl Fn pc L (.int y :: st) M (f y)) : Run K G nL cs sl Fn pc L (.int x :: st) M (nm x f) := k x
theorem r_nml {x : Int64} {f : Int64 → Option (ρ × Mem)} (k : ∀ y : Int64, Run K G nL cs sl Fn pc L (.long y :: st) M (f y)) : Run K G nL cs sl Fn pc L (.long x :: st) M (nm x f) := k x
theorem r_sub (ks : List Nat) (hl : lv_pick L ks = L') (k : Run K G nL cs sl Fn pc L' st M r) : Run K G nL cs sl Fn pc L st M r := fun o M' h H locs ls h1 => k o M' h H locs ls (lv_sub h1 ks hl)
theorem r_ite {c : Prop} [Decidable c] (h1 : c → Run K G nL cs sl Fn pc L st M r1) (h2 : ¬ c → Run K G nL cs sl Fn pc L st M r2) : Run K G nL cs sl Fn pc L st M (if c then r1 else r2) := by
  by_cases h : c
  · rw [if_pos h]; exact h1 h
  · rw [if_neg h]; exact h2 h
theorem r_chk {b : Bool} (h1 : b = true → Run K G nL cs sl Fn pc L st M r) : Run K G nL cs sl Fn pc L st M (chk b r) := fun o M' h => h1 (chk_some h).1 o M' (chk_some h).2
theorem r_iconst (C : Cx K G own cc nL ret) {n : Int} {v : Int32} (d : decode cc pc = .ok (.iconst n, 1)) (hv : Int32.ofInt n = v) (k : Run K G nL cs sl Fn (pc + 1) L (.int v :: st) M r) : Run K G nL cs sl Fn pc L (st) M r := fun o M' h H locs ls hl hW hS => lv_iconst C.1 C.2.1 d hv (k o M' h H locs ls hl hW hS)
theorem r_bipush (C : Cx K G own cc nL ret) {n : Int} {v : Int32} (d : decode cc pc = .ok (.bipush n, 2)) (hv : (Int8.ofInt n).toInt32 = v) (k : Run K G nL cs sl Fn (pc + 2) L (.int v :: st) M r) : Run K G nL cs sl Fn pc L (st) M r := fun o M' h H locs ls hl hW hS => lv_bipush C.1 C.2.1 d hv (k o M' h H locs ls hl hW hS)
theorem r_sipush (C : Cx K G own cc nL ret) {n : Int} {v : Int32} (d : decode cc pc = .ok (.sipush n, 3)) (hv : (Int16.ofInt n).toInt32 = v) (k : Run K G nL cs sl Fn (pc + 3) L (.int v :: st) M r) : Run K G nL cs sl Fn pc L (st) M r := fun o M' h H locs ls hl hW hS => lv_sipush C.1 C.2.1 d hv (k o M' h H locs ls hl hW hS)
theorem r_lconst (C : Cx K G own cc nL ret) {n : Fin 2} {v : Int64} (d : decode cc pc = .ok (.lconst n, 1)) (hv : Int64.ofNat (n : Nat) = v) (k : Run K G nL cs sl Fn (pc + 1) L (.long v :: st) M r) : Run K G nL cs sl Fn pc L (st) M r := fun o M' h H locs ls hl hW hS => lv_lconst C.1 C.2.1 d hv (k o M' h H locs ls hl hW hS)
theorem r_fconst0 (C : Cx K G own cc nL ret) (d : decode cc pc = .ok (.fconst 0, 1)) (k : Run K G nL cs sl Fn (pc + 1) L (.float FP.fconst0 :: st) M r) : Run K G nL cs sl Fn pc L (st) M r := fun o M' h H locs ls hl hW hS => lv_fconst0 C.1 C.2.1 d (k o M' h H locs ls hl hW hS)
theorem r_dconst0 (C : Cx K G own cc nL ret) (d : decode cc pc = .ok (.dconst 0, 1)) (k : Run K G nL cs sl Fn (pc + 1) L (.double FP.dconst0 :: st) M r) : Run K G nL cs sl Fn pc L (st) M r := fun o M' h H locs ls hl hW hS => lv_dconst0 C.1 C.2.1 d (k o M' h H locs ls hl hW hS)
theorem r_iload_n (C : Cx K G own cc nL ret) {kk : Fin 4} {i : Nat} {x : Int32} (p : Nat) (hp : L[p]? = some (i, .int x)) (hi : (kk : Nat) = i) (d : decode cc pc = .ok (.iload_n kk, 1)) (k : Run K G nL cs sl Fn (pc + 1) L (.int x :: st) M r) : Run K G nL cs sl Fn pc L (st) M r := fun o M' h H locs ls hl hW hS => lv_iload_n C.1 C.2.1 d hi (lv_at hl p hp) (k o M' h H locs ls hl hW hS)
theorem r_iload (C : Cx K G own cc nL ret) {i : Nat} {x : Int32} (p : Nat) (hp : L[p]? = some (i, .int x)) (d : decode cc pc = .ok (.iload i, 2)) (k : Run K G nL cs sl Fn (pc + 2) L (.int x :: st) M r) : Run K G nL cs sl Fn pc L (st) M r := fun o M' h H locs ls hl hW hS => lv_iload C.1 C.2.1 d (lv_at hl p hp) (k o M' h H locs ls hl hW hS)
theorem r_lload_n (C : Cx K G own cc nL ret) {kk : Fin 4} {i : Nat} {x : Int64} (p : Nat) (hp : L[p]? = some (i, .long x)) (hi : (kk : Nat) = i) (d : decode cc pc = .ok (.lload_n kk, 1)) (k : Run K G nL cs sl Fn (pc + 1) L (.long x :: st) M r) : Run K G nL cs sl Fn pc L (st) M r := fun o M' h H locs ls hl hW hS => lv_lload_n C.1 C.2.1 d hi (lv_at hl p hp) (k o M' h H locs ls hl hW hS)
theorem r_lload (C : Cx K G own cc nL ret) {i : Nat} {x : Int64} (p : Nat) (hp : L[p]? = some (i, .long x)) (d : decode cc pc = .ok (.lload i, 2)) (k : Run K G nL cs sl Fn (pc + 2) L (.long x :: st) M r) : Run K G nL cs sl Fn pc L (st) M r := fun o M' h H locs ls hl hW hS => lv_lload C.1 C.2.1 d (lv_at hl p hp) (k o M' h H locs ls hl hW hS)
theorem r_fload_n (C : Cx K G own cc nL ret) {kk : Fin 4} {i : Nat} {x : UInt32} (p : Nat) (hp : L[p]? = some (i, .float x)) (hi : (kk : Nat) = i) (d : decode cc pc = .ok (.fload_n kk, 1)) (k : Run K G nL cs sl Fn (pc + 1) L (.float x :: st) M r) : Run K G nL cs sl Fn pc L (st) M r := fun o M' h H locs ls hl hW hS => lv_fload_n C.1 C.2.1 d hi (lv_at hl p hp) (k o M' h H locs ls hl hW hS)
theorem r_fload (C : Cx K G own cc nL ret) {i : Nat} {x : UInt32} (p : Nat) (hp : L[p]? = some (i, .float x)) (d : decode cc pc = .ok (.fload i, 2)) (k : Run K G nL cs sl Fn (pc + 2) L (.float x :: st) M r) : Run K G nL cs sl Fn pc L (st) M r := fun o M' h H locs ls hl hW hS => lv_fload C.1 C.2.1 d (lv_at hl p hp) (k o M' h H locs ls hl hW hS)
theorem r_dload_n (C : Cx K G own cc nL ret) {kk : Fin 4} {i : Nat} {x : UInt64} (p : Nat) (hp : L[p]? = some (i, .double x)) (hi : (kk : Nat) = i) (d : decode cc pc = .ok (.dload_n kk, 1)) (k : Run K G nL cs sl Fn (pc + 1) L (.double x :: st) M r) : Run K G nL cs sl Fn pc L (st) M r := fun o M' h H locs ls hl hW hS => lv_dload_n C.1 C.2.1 d hi (lv_at hl p hp) (k o M' h H locs ls hl hW hS)
theorem r_dload (C : Cx K G own cc nL ret) {i : Nat} {x : UInt64} (p : Nat) (hp : L[p]? = some (i, .double x)) (d : decode cc pc = .ok (.dload i, 2)) (k : Run K G nL cs sl Fn (pc + 2) L (.double x :: st) M r) : Run K G nL cs sl Fn pc L (st) M r := fun o M' h H locs ls hl hW hS => lv_dload C.1 C.2.1 d (lv_at hl p hp) (k o M' h H locs ls hl hW hS)
theorem r_aload_n (C : Cx K G own cc nL ret) {kk : Fin 4} {i : Nat} {x : Nat} (p : Nat) (hp : L[p]? = some (i, .ref x)) (hi : (kk : Nat) = i) (d : decode cc pc = .ok (.aload_n kk, 1)) (k : Run K G nL cs sl Fn (pc + 1) L (.ref x :: st) M r) : Run K G nL cs sl Fn pc L (st) M r := fun o M' h H locs ls hl hW hS => lv_aload_n C.1 C.2.1 d hi (lv_at hl p hp) (k o M' h H locs ls hl hW hS)
theorem r_aload (C : Cx K G own cc nL ret) {i : Nat} {x : Nat} (p : Nat) (hp : L[p]? = some (i, .ref x)) (d : decode cc pc = .ok (.aload i, 2)) (k : Run K G nL cs sl Fn (pc + 2) L (.ref x :: st) M r) : Run K G nL cs sl Fn pc L (st) M r := fun o M' h H locs ls hl hW hS => lv_aload C.1 C.2.1 d (lv_at hl p hp) (k o M' h H locs ls hl hW hS)
theorem r_istore_n (C : Cx K G own cc nL ret) {kk : Fin 4} {i : Nat} {x : Int32} (L' : List (Nat × Value)) (d : decode cc pc = .ok (.istore_n kk, 1)) (hi : (kk : Nat) = i) (hn : i < nL) (hf : (i, Value.int x) :: L.filter (fun q => !(q.1 == i) && !(q.1 + 1 == i && q.2.category == 2)) = L') (k : Run K G nL cs sl Fn (pc + 1) L' st M r) : Run K G nL cs sl Fn pc L (.int x :: st) M r := fun o M' h H locs ls hl hW hS => lv_istore_n C.1 C.2.1 d hi hl hn hf (fun ls' hl' => k o M' h H locs ls' hl' hW hS)
theorem r_istore (C : Cx K G own cc nL ret) {i : Nat} {x : Int32} (L' : List (Nat × Value)) (d : decode cc pc = .ok (.istore i, 2)) (hn : i < nL) (hf : (i, Value.int x) :: L.filter (fun q => !(q.1 == i) && !(q.1 + 1 == i && q.2.category == 2)) = L') (k : Run K G nL cs sl Fn (pc + 2) L' st M r) : Run K G nL cs sl Fn pc L (.int x :: st) M r := fun o M' h H locs ls hl hW hS => lv_istore C.1 C.2.1 d hl hn hf (fun ls' hl' => k o M' h H locs ls' hl' hW hS)
theorem r_lstore_n (C : Cx K G own cc nL ret) {kk : Fin 4} {i : Nat} {x : Int64} (L' : List (Nat × Value)) (d : decode cc pc = .ok (.lstore_n kk, 1)) (hi : (kk : Nat) = i) (hn : i + 1 < nL) (hf : (i, Value.long x) :: L.filter (fun q => !(q.1 == i) && (!(q.1 == i + 1) && !(q.1 + 1 == i && q.2.category == 2))) = L') (k : Run K G nL cs sl Fn (pc + 1) L' st M r) : Run K G nL cs sl Fn pc L (.long x :: st) M r := fun o M' h H locs ls hl hW hS => lv_lstore_n C.1 C.2.1 d hi hl hn hf (fun ls' hl' => k o M' h H locs ls' hl' hW hS)
theorem r_lstore (C : Cx K G own cc nL ret) {i : Nat} {x : Int64} (L' : List (Nat × Value)) (d : decode cc pc = .ok (.lstore i, 2)) (hn : i + 1 < nL) (hf : (i, Value.long x) :: L.filter (fun q => !(q.1 == i) && (!(q.1 == i + 1) && !(q.1 + 1 == i && q.2.category == 2))) = L') (k : Run K G nL cs sl Fn (pc + 2) L' st M r) : Run K G nL cs sl Fn pc L (.long x :: st) M r := fun o M' h H locs ls hl hW hS => lv_lstore C.1 C.2.1 d hl hn hf (fun ls' hl' => k o M' h H locs ls' hl' hW hS)
theorem r_fstore_n (C : Cx K G own cc nL ret) {kk : Fin 4} {i : Nat} {x : UInt32} (L' : List (Nat × Value)) (d : decode cc pc = .ok (.fstore_n kk, 1)) (hi : (kk : Nat) = i) (hn : i < nL) (hf : (i, Value.float x) :: L.filter (fun q => !(q.1 == i) && !(q.1 + 1 == i && q.2.category == 2)) = L') (k : Run K G nL cs sl Fn (pc + 1) L' st M r) : Run K G nL cs sl Fn pc L (.float x :: st) M r := fun o M' h H locs ls hl hW hS => lv_fstore_n C.1 C.2.1 d hi hl hn hf (fun ls' hl' => k o M' h H locs ls' hl' hW hS)
theorem r_fstore (C : Cx K G own cc nL ret) {i : Nat} {x : UInt32} (L' : List (Nat × Value)) (d : decode cc pc = .ok (.fstore i, 2)) (hn : i < nL) (hf : (i, Value.float x) :: L.filter (fun q => !(q.1 == i) && !(q.1 + 1 == i && q.2.category == 2)) = L') (k : Run K G nL cs sl Fn (pc + 2) L' st M r) : Run K G nL cs sl Fn pc L (.float x :: st) M r := fun o M' h H locs ls hl hW hS => lv_fstore C.1 C.2.1 d hl hn hf (fun ls' hl' => k o M' h H locs ls' hl' hW hS)
theorem r_dstore_n (C : Cx K G own cc nL ret) {kk : Fin 4} {i : Nat} {x : UInt64} (L' : List (Nat × Value)) (d : decode cc pc = .ok (.dstore_n kk, 1)) (hi : (kk : Nat) = i) (hn : i + 1 < nL) (hf : (i, Value.double x) :: L.filter (fun q => !(q.1 == i) && (!(q.1 == i + 1) && !(q.1 + 1 == i && q.2.category == 2))) = L') (k : Run K G nL cs sl Fn (pc + 1) L' st M r) : Run K G nL cs sl Fn pc L (.double x :: st) M r := fun o M' h H locs ls hl hW hS => lv_dstore_n C.1 C.2.1 d hi hl hn hf (fun ls' hl' => k o M' h H locs ls' hl' hW hS)
theorem r_dstore (C : Cx K G own cc nL ret) {i : Nat} {x : UInt64} (L' : List (Nat × Value)) (d : decode cc pc = .ok (.dstore i, 2)) (hn : i + 1 < nL) (hf : (i, Value.double x) :: L.filter (fun q => !(q.1 == i) && (!(q.1 == i + 1) && !(q.1 + 1 == i && q.2.category == 2))) = L') (k : Run K G nL cs sl Fn (pc + 2) L' st M r) : Run K G nL cs sl Fn pc L (.double x :: st) M r := fun o M' h H locs ls hl hW hS => lv_dstore C.1 C.2.1 d hl hn hf (fun ls' hl' => k o M' h H locs ls' hl' hW hS)
theorem r_astore_n (C : Cx K G own cc nL ret) {kk : Fin 4} {i : Nat} {x : Nat} (L' : List (Nat × Value)) (d : decode cc pc = .ok (.astore_n kk, 1)) (hi : (kk : Nat) = i) (hn : i < nL) (hf : (i, Value.ref x) :: L.filter (fun q => !(q.1 == i) && !(q.1 + 1 == i && q.2.category == 2)) = L') (k : Run K G nL cs sl Fn (pc + 1) L' st M r) : Run K G nL cs sl Fn pc L (.ref x :: st) M r := fun o M' h H locs ls hl hW hS => lv_astore_n C.1 C.2.1 d hi hl hn hf (fun ls' hl' => k o M' h H locs ls' hl' hW hS)
theorem r_astore (C : Cx K G own cc nL ret) {i : Nat} {x : Nat} (L' : List (Nat × Value)) (d : decode cc pc = .ok (.astore i, 2)) (hn : i < nL) (hf : (i, Value.ref x) :: L.filter (fun q => !(q.1 == i) && !(q.1 + 1 == i && q.2.category == 2)) = L') (k : Run K G nL cs sl Fn (pc + 2) L' st M r) : Run K G nL cs sl Fn pc L (.ref x :: st) M r := fun o M' h H locs ls hl hW hS => lv_astore C.1 C.2.1 d hl hn hf (fun ls' hl' => k o M' h H locs ls' hl' hW hS)
theorem r_iinc (C : Cx K G own cc nL ret) {i p : Nat} {n : Int} {x v : Int32} (L' : List (Nat × Value)) (d : decode cc pc = .ok (.iinc i n, 3)) (hk : L[p]? = some (i, .int x)) (hv : x + Int32.ofInt n = v) (hn : i < nL) (hf : (i, Value.int v) :: L.filter (fun q => !(q.1 == i) && !(q.1 + 1 == i && q.2.category == 2)) = L') (k : Run K G nL cs sl Fn (pc + 3) L' st M r) : Run K G nL cs sl Fn pc L st M r := fun o M' h H locs ls hl hW hS => lv_iinc C.1 C.2.1 d hl hk hv hn hf (fun ls' hl' => k o M' h H locs ls' hl' hW hS)
theorem r_iadd (C : Cx K G own cc nL ret) {x y : Int32} (d : decode cc pc = .ok (.iadd, 1)) (k : Run K G nL cs sl Fn (pc + 1) L (.int (x + y) :: st) M r) : Run K G nL cs sl Fn pc L (.int y :: .int x :: st) M r := fun o M' h H locs ls hl hW hS => lv_iadd C.1 C.2.1 d (k o M' h H locs ls hl hW hS)
theorem r_isub (C : Cx K G own cc nL ret) {x y : Int32} (d : decode cc pc = .ok (.isub, 1)) (k : Run K G nL cs sl Fn (pc + 1) L (.int (x - y) :: st) M r) : Run K G nL cs sl Fn pc L (.int y :: .int x :: st) M r := fun o M' h H locs ls hl hW hS => lv_isub C.1 C.2.1 d (k o M' h H locs ls hl hW hS)
theorem r_imul (C : Cx K G own cc nL ret) {x y : Int32} (d : decode cc pc = .ok (.imul, 1)) (k : Run K G nL cs sl Fn (pc + 1) L (.int (x * y) :: st) M r) : Run K G nL cs sl Fn pc L (.int y :: .int x :: st) M r := fun o M' h H locs ls hl hW hS => lv_imul C.1 C.2.1 d (k o M' h H locs ls hl hW hS)
theorem r_iand (C : Cx K G own cc nL ret) {x y : Int32} (d : decode cc pc = .ok (.iand, 1)) (k : Run K G nL cs sl Fn (pc + 1) L (.int (x &&& y) :: st) M r) : Run K G nL cs sl Fn pc L (.int y :: .int x :: st) M r := fun o M' h H locs ls hl hW hS => lv_iand C.1 C.2.1 d (k o M' h H locs ls hl hW hS)
theorem r_ior (C : Cx K G own cc nL ret) {x y : Int32} (d : decode cc pc = .ok (.ior, 1)) (k : Run K G nL cs sl Fn (pc + 1) L (.int (x ||| y) :: st) M r) : Run K G nL cs sl Fn pc L (.int y :: .int x :: st) M r := fun o M' h H locs ls hl hW hS => lv_ior C.1 C.2.1 d (k o M' h H locs ls hl hW hS)
theorem r_ixor (C : Cx K G own cc nL ret) {x y : Int32} (d : decode cc pc = .ok (.ixor, 1)) (k : Run K G nL cs sl Fn (pc + 1) L (.int (x ^^^ y) :: st) M r) : Run K G nL cs sl Fn pc L (.int y :: .int x :: st) M r := fun o M' h H locs ls hl hW hS => lv_ixor C.1 C.2.1 d (k o M' h H locs ls hl hW hS)
theorem r_ishl (C : Cx K G own cc nL ret) {x y : Int32} (d : decode cc pc = .ok (.ishl, 1)) (k : Run K G nL cs sl Fn (pc + 1) L (.int (x <<< (y &&& 31)) :: st) M r) : Run K G nL cs sl Fn pc L (.int y :: .int x :: st) M r := fun o M' h H locs ls hl hW hS => lv_ishl C.1 C.2.1 d (k o M' h H locs ls hl hW hS)
theorem r_ishr (C : Cx K G own cc nL ret) {x y : Int32} (d : decode cc pc = .ok (.ishr, 1)) (k : Run K G nL cs sl Fn (pc + 1) L (.int (x >>> (y &&& 31)) :: st) M r) : Run K G nL cs sl Fn pc L (.int y :: .int x :: st) M r := fun o M' h H locs ls hl hW hS => lv_ishr C.1 C.2.1 d (k o M' h H locs ls hl hW hS)
theorem r_ladd (C : Cx K G own cc nL ret) {x y : Int64} (d : decode cc pc = .ok (.ladd, 1)) (k : Run K G nL cs sl Fn (pc + 1) L (.long (x + y) :: st) M r) : Run K G nL cs sl Fn pc L (.long y :: .long x :: st) M r := fun o M' h H locs ls hl hW hS => lv_ladd C.1 C.2.1 d (k o M' h H locs ls hl hW hS)
theorem r_lsub (C : Cx K G own cc nL ret) {x y : Int64} (d : decode cc pc = .ok (.lsub, 1)) (k : Run K G nL cs sl Fn (pc + 1) L (.long (x - y) :: st) M r) : Run K G nL cs sl Fn pc L (.long y :: .long x :: st) M r := fun o M' h H locs ls hl hW hS => lv_lsub C.1 C.2.1 d (k o M' h H locs ls hl hW hS)
theorem r_lmul (C : Cx K G own cc nL ret) {x y : Int64} (d : decode cc pc = .ok (.lmul, 1)) (k : Run K G nL cs sl Fn (pc + 1) L (.long (x * y) :: st) M r) : Run K G nL cs sl Fn pc L (.long y :: .long x :: st) M r := fun o M' h H locs ls hl hW hS => lv_lmul C.1 C.2.1 d (k o M' h H locs ls hl hW hS)
theorem r_irem (C : Cx K G own cc nL ret) {x y : Int32} (d : decode cc pc = .ok (.irem, 1)) (hne : ¬ y = 0) (k : Run K G nL cs sl Fn (pc + 1) L (.int (x - x / y * y) :: st) M r) : Run K G nL cs sl Fn pc L (.int y :: .int x :: st) M r := fun o M' h H locs ls hl hW hS => lv_irem C.1 C.2.1 d hne (k o M' h H locs ls hl hW hS)
theorem r_lrem (C : Cx K G own cc nL ret) {x y : Int64} (d : decode cc pc = .ok (.lrem, 1)) (hne : ¬ y = 0) (k : Run K G nL cs sl Fn (pc + 1) L (.long (x - x / y * y) :: st) M r) : Run K G nL cs sl Fn pc L (.long y :: .long x :: st) M r := fun o M' h H locs ls hl hW hS => lv_lrem C.1 C.2.1 d hne (k o M' h H locs ls hl hW hS)
theorem r_ineg (C : Cx K G own cc nL ret) {x : Int32} (d : decode cc pc = .ok (.ineg, 1)) (k : Run K G nL cs sl Fn (pc + 1) L (.int (-x) :: st) M r) : Run K G nL cs sl Fn pc L (.int x :: st) M r := fun o M' h H locs ls hl hW hS => lv_ineg C.1 C.2.1 d (k o M' h H locs ls hl hW hS)
theorem r_i2l (C : Cx K G own cc nL ret) {x : Int32} (d : decode cc pc = .ok (.i2l, 1)) (k : Run K G nL cs sl Fn (pc + 1) L (.long x.toInt64 :: st) M r) : Run K G nL cs sl Fn pc L (.int x :: st) M r := fun o M' h H locs ls hl hW hS => lv_i2l C.1 C.2.1 d rfl (k o M' h H locs ls hl hW hS)
theorem r_l2i (C : Cx K G own cc nL ret) {x : Int64} (d : decode cc pc = .ok (.l2i, 1)) (k : Run K G nL cs sl Fn (pc + 1) L (.int x.toInt32 :: st) M r) : Run K G nL cs sl Fn pc L (.long x :: st) M r := fun o M' h H locs ls hl hW hS => lv_l2i C.1 C.2.1 d rfl (k o M' h H locs ls hl hW hS)
theorem r_i2b (C : Cx K G own cc nL ret) {x : Int32} (d : decode cc pc = .ok (.i2b, 1)) (k : Run K G nL cs sl Fn (pc + 1) L (.int x.toInt8.toInt32 :: st) M r) : Run K G nL cs sl Fn pc L (.int x :: st) M r := fun o M' h H locs ls hl hW hS => lv_i2b C.1 C.2.1 d rfl (k o M' h H locs ls hl hW hS)
theorem r_i2f (C : Cx K G own cc nL ret) {x : Int32} (d : decode cc pc = .ok (.i2f, 1)) (k : Run K G nL cs sl Fn (pc + 1) L (.float (FP.i2f x) :: st) M r) : Run K G nL cs sl Fn pc L (.int x :: st) M r := fun o M' h H locs ls hl hW hS => lv_i2f C.1 C.2.1 d (k o M' h H locs ls hl hW hS)
theorem r_i2d (C : Cx K G own cc nL ret) {x : Int32} (d : decode cc pc = .ok (.i2d, 1)) (k : Run K G nL cs sl Fn (pc + 1) L (.double (FP.i2d x) :: st) M r) : Run K G nL cs sl Fn pc L (.int x :: st) M r := fun o M' h H locs ls hl hW hS => lv_i2d C.1 C.2.1 d (k o M' h H locs ls hl hW hS)
theorem r_fcmp (C : Cx K G own cc nL ret) {x y : UInt32} {op : CmpOp} (d : decode cc pc = .ok (.fcmp op, 1)) (k : Run K G nL cs sl Fn (pc + 1) L (.int (Op.cmpValue (FP.fcmp x y) op) :: st) M r) : Run K G nL cs sl Fn pc L (.float y :: .float x :: st) M r := fun o M' h H locs ls hl hW hS => lv_fcmp C.1 C.2.1 d (k o M' h H locs ls hl hW hS)
theorem r_dcmp (C : Cx K G own cc nL ret) {x y : UInt64} {op : CmpOp} (d : decode cc pc = .ok (.dcmp op, 1)) (k : Run K G nL cs sl Fn (pc + 1) L (.int (Op.cmpValue (FP.dcmp x y) op) :: st) M r) : Run K G nL cs sl Fn pc L (.double y :: .double x :: st) M r := fun o M' h H locs ls hl hW hS => lv_dcmp C.1 C.2.1 d (k o M' h H locs ls hl hW hS)
theorem r_lcmp (C : Cx K G own cc nL ret) {x y : Int64} (d : decode cc pc = .ok (.lcmp, 1)) (k : Run K G nL cs sl Fn (pc + 1) L (.int (lg_cmp x y) :: st) M r) : Run K G nL cs sl Fn pc L (.long y :: .long x :: st) M r := fun o M' h H locs ls hl hW hS => W.lcmp C.1 C.2.1 d (k o M' h H locs ls hl hW hS)
theorem r_dup (C : Cx K G own cc nL ret) {v : Value} (d : decode cc pc = .ok (.dup, 1)) (hc : v.category = 1) (k : Run K G nL cs sl Fn (pc + 1) L (v :: v :: st) M r) : Run K G nL cs sl Fn pc L (v :: st) M r := fun o M' h H locs ls hl hW hS => lv_dup C.1 C.2.1 d hc (k o M' h H locs ls hl hW hS)
theorem r_pop (C : Cx K G own cc nL ret) {v : Value} (d : decode cc pc = .ok (.pop, 1)) (hc : v.category = 1) (k : Run K G nL cs sl Fn (pc + 1) L (st) M r) : Run K G nL cs sl Fn pc L (v :: st) M r := fun o M' h H locs ls hl hW hS => lv_pop C.1 C.2.1 d hc (k o M' h H locs ls hl hW hS)
theorem r_dup2_11 (C : Cx K G own cc nL ret) {v w : Value} (d : decode cc pc = .ok (.dup2, 1)) (hc : v.category = 1) (hc2 : w.category = 1) (k : Run K G nL cs sl Fn (pc + 1) L (v :: w :: v :: w :: st) M r) : Run K G nL cs sl Fn pc L (v :: w :: st) M r := fun o M' h H locs ls hl hW hS => lv_dup2_11 C.1 C.2.1 d hc hc2 (k o M' h H locs ls hl hW hS)
theorem r_fdiv (C : Cx K G own cc nL ret) {x y : UInt32} (d : decode cc pc = .ok (.fdiv, 1)) (k : Run K G nL cs sl Fn (pc + 1) L (.float (FP.fdiv x y) :: st) M r) : Run K G nL cs sl Fn pc L (.float y :: .float x :: st) M (chk (decide ((FP.fdiv x y) &&& 0x7fffffff ≤ 0x7f800000)) r) := fun o M' h H locs ls hl hW hS => lv_fdiv C.1 C.2.1 d (by have hh := of_decide_eq_true (chk_some h).1; exact hh) (k o M' (chk_some h).2 H locs ls hl hW hS)
theorem r_ddiv (C : Cx K G own cc nL ret) {x y : UInt64} (d : decode cc pc = .ok (.ddiv, 1)) (k : Run K G nL cs sl Fn (pc + 1) L (.double (FP.ddiv x y) :: st) M r) : Run K G nL cs sl Fn pc L (.double y :: .double x :: st) M (chk (decide ((FP.ddiv x y) &&& 0x7fffffffffffffff ≤ 0x7ff0000000000000)) r) := fun o M' h H locs ls hl hW hS => lv_ddiv C.1 C.2.1 d (by have hh := of_decide_eq_true (chk_some h).1; exact hh) (k o M' (chk_some h).2 H locs ls hl hW hS)
theorem r_f2d (C : Cx K G own cc nL ret) {x : UInt32} (d : decode cc pc = .ok (.f2d, 1)) (k : Run K G nL cs sl Fn (pc + 1) L (.double (FP.f2d x) :: st) M r) : Run K G nL cs sl Fn pc L (.float x :: st) M (chk (decide ((FP.f2d x) &&& 0x7fffffffffffffff ≤ 0x7ff0000000000000)) r) := fun o M' h H locs ls hl hW hS => lv_f2d C.1 C.2.1 d (by have hh := of_decide_eq_true (chk_some h).1; exact hh) (k o M' (chk_some h).2 H locs ls hl hW hS)
theorem r_if_eq (C : Cx K G own cc nL ret) {x : Int32} {off : Int} {tgt : Nat} (d : decode cc pc = .ok (.ifCond .eq off, 3)) (ht : (pc : Int) + off = (tgt : Int)) (k1 : Run K G nL cs sl Fn tgt L st M r1) (k2 : Run K G nL cs sl Fn (pc + 3) L st M r2) : Run K G nL cs sl Fn pc L (.int x :: st) M (if x = 0 then r1 else r2) := by
  intro o M' h H locs ls hl hW hS
  refine lv_if_eq C.1 C.2.1 d ht (fun hc => ?_) (fun hc => ?_)
  · rw [if_pos hc] at h; exact k1 o M' h H locs ls hl hW hS
  · rw [if_neg hc] at h; exact k2 o M' h H locs ls hl hW hS
theorem r_icmp_eq (C : Cx K G own cc nL ret) {x y : Int32} {off : Int} {tgt : Nat} (d : decode cc pc = .ok (.if_icmp .eq off, 3)) (ht : (pc : Int) + off = (tgt : Int)) (k1 : Run K G nL cs sl Fn tgt L st M r1) (k2 : Run K G nL cs sl Fn (pc + 3) L st M r2) : Run K G nL cs sl Fn pc L (.int y :: .int x :: st) M (if x = y then r1 else r2) := by
  intro o M' h H locs ls hl hW hS
  refine lv_icmp_eq C.1 C.2.1 d ht (fun hc => ?_) (fun hc => ?_)
  · rw [if_pos hc] at h; exact k1 o M' h H locs ls hl hW hS
  · rw [if_neg hc] at h; exact k2 o M' h H locs ls hl hW hS
theorem r_if_ne (C : Cx K G own cc nL ret) {x : Int32} {off : Int} {tgt : Nat} (d : decode cc pc = .ok (.ifCond .ne off, 3)) (ht : (pc : Int) + off = (tgt : Int)) (k1 : Run K G nL cs sl Fn tgt L st M r1) (k2 : Run K G nL cs sl Fn (pc + 3) L st M r2) : Run K G nL cs sl Fn pc L (.int x :: st) M (if ¬ x = 0 then r1 else r2) := by
  intro o M' h H locs ls hl hW hS
  refine lv_if_ne C.1 C.2.1 d ht (fun hc => ?_) (fun hc => ?_)
  · rw [if_pos hc] at h; exact k1 o M' h H locs ls hl hW hS
  · rw [if_neg (fun z => z hc)] at h; exact k2 o M' h H locs ls hl hW hS
theorem r_icmp_ne (C : Cx K G own cc nL ret) {x y : Int32} {off : Int} {tgt : Nat} (d : decode cc pc = .ok (.if_icmp .ne off, 3)) (ht : (pc : Int) + off = (tgt : Int)) (k1 : Run K G nL cs sl Fn tgt L st M r1) (k2 : Run K G nL cs sl Fn (pc + 3) L st M r2) : Run K G nL cs sl Fn pc L (.int y :: .int x :: st) M (if ¬ x = y then r1 else r2) := by
  intro o M' h H locs ls hl hW hS
  refine lv_icmp_ne C.1 C.2.1 d ht (fun hc => ?_) (fun hc => ?_)
  · rw [if_pos hc] at h; exact k1 o M' h H locs ls hl hW hS
  · rw [if_neg (fun z => z hc)] at h; exact k2 o M' h H locs ls hl hW hS
theorem r_if_lt (C : Cx K G own cc nL ret) {x : Int32} {off : Int} {tgt : Nat} (d : decode cc pc = .ok (.ifCond .lt off, 3)) (ht : (pc : Int) + off = (tgt : Int)) (k1 : Run K G nL cs sl Fn tgt L st M r1) (k2 : Run K G nL cs sl Fn (pc + 3) L st M r2) : Run K G nL cs sl Fn pc L (.int x :: st) M (if x < 0 then r1 else r2) := by
  intro o M' h H locs ls hl hW hS
  refine lv_if_lt C.1 C.2.1 d ht (fun hc => ?_) (fun hc => ?_)
  · rw [if_pos hc] at h; exact k1 o M' h H locs ls hl hW hS
  · rw [if_neg hc] at h; exact k2 o M' h H locs ls hl hW hS
theorem r_icmp_lt (C : Cx K G own cc nL ret) {x y : Int32} {off : Int} {tgt : Nat} (d : decode cc pc = .ok (.if_icmp .lt off, 3)) (ht : (pc : Int) + off = (tgt : Int)) (k1 : Run K G nL cs sl Fn tgt L st M r1) (k2 : Run K G nL cs sl Fn (pc + 3) L st M r2) : Run K G nL cs sl Fn pc L (.int y :: .int x :: st) M (if x < y then r1 else r2) := by
  intro o M' h H locs ls hl hW hS
  refine lv_icmp_lt C.1 C.2.1 d ht (fun hc => ?_) (fun hc => ?_)
  · rw [if_pos hc] at h; exact k1 o M' h H locs ls hl hW hS
  · rw [if_neg hc] at h; exact k2 o M' h H locs ls hl hW hS
theorem r_if_ge (C : Cx K G own cc nL ret) {x : Int32} {off : Int} {tgt : Nat} (d : decode cc pc = .ok (.ifCond .ge off, 3)) (ht : (pc : Int) + off = (tgt : Int)) (k1 : Run K G nL cs sl Fn tgt L st M r1) (k2 : Run K G nL cs sl Fn (pc + 3) L st M r2) : Run K G nL cs sl Fn pc L (.int x :: st) M (if 0 ≤ x then r1 else r2) := by
  intro o M' h H locs ls hl hW hS
  refine lv_if_ge C.1 C.2.1 d ht (fun hc => ?_) (fun hc => ?_)
  · rw [if_pos hc] at h; exact k1 o M' h H locs ls hl hW hS
  · rw [if_neg hc] at h; exact k2 o M' h H locs ls hl hW hS
theorem r_icmp_ge (C : Cx K G own cc nL ret) {x y : Int32} {off : Int} {tgt : Nat} (d : decode cc pc = .ok (.if_icmp .ge off, 3)) (ht : (pc : Int) + off = (tgt : Int)) (k1 : Run K G nL cs sl Fn tgt L st M r1) (k2 : Run K G nL cs sl Fn (pc + 3) L st M r2) : Run K G nL cs sl Fn pc L (.int y :: .int x :: st) M (if y ≤ x then r1 else r2) := by
  intro o M' h H locs ls hl hW hS
  refine lv_icmp_ge C.1 C.2.1 d ht (fun hc => ?_) (fun hc => ?_)
  · rw [if_pos hc] at h; exact k1 o M' h H locs ls hl hW hS
  · rw [if_neg hc] at h; exact k2 o M' h H locs ls hl hW hS
theorem r_if_gt (C : Cx K G own cc nL ret) {x : Int32} {off : Int} {tgt : Nat} (d : decode cc pc = .ok (.ifCond .gt off, 3)) (ht : (pc : Int) + off = (tgt : Int)) (k1 : Run K G nL cs sl Fn tgt L st M r1) (k2 : Run K G nL cs sl Fn (pc + 3) L st M r2) : Run K G nL cs sl Fn pc L (.int x :: st) M (if 0 < x then r1 else r2) := by
  intro o M' h H locs ls hl hW hS
  refine lv_if_gt C.1 C.2.1 d ht (fun hc => ?_) (fun hc => ?_)
  · rw [if_pos hc] at h; exact k1 o M' h H locs ls hl hW hS
  · rw [if_neg hc] at h; exact k2 o M' h H locs ls hl hW hS
theorem r_icmp_gt (C : Cx K G own cc nL ret) {x y : Int32} {off : Int} {tgt : Nat} (d : decode cc pc = .ok (.if_icmp .gt off, 3)) (ht : (pc : Int) + off = (tgt : Int)) (k1 : Run K G nL cs sl Fn tgt L st M r1) (k2 : Run K G nL cs sl Fn (pc + 3) L st M r2) : Run K G nL cs sl Fn pc L (.int y :: .int x :: st) M (if y < x then r1 else r2) := by
  intro o M' h H locs ls hl hW hS
  refine lv_icmp_gt C.1 C.2.1 d ht (fun hc => ?_) (fun hc => ?_)
  · rw [if_pos hc] at h; exact k1 o M' h H locs ls hl hW hS
  · rw [if_neg hc] at h; exact k2 o M' h H locs ls hl hW hS
theorem r_if_le (C : Cx K G own cc nL ret) {x : Int32} {off : Int} {tgt : Nat} (d : decode cc pc = .ok (.ifCond .le off, 3)) (ht : (pc : Int) + off = (tgt : Int)) (k1 : Run K G nL cs sl Fn tgt L st M r1) (k2 : Run K G nL cs sl Fn (pc + 3) L st M r2) : Run K G nL cs sl Fn pc L (.int x :: st) M (if x ≤ 0 then r1 else r2) := by
  intro o M' h H locs ls hl hW hS
  refine lv_if_le C.1 C.2.1 d ht (fun hc => ?_) (fun hc => ?_)
  · rw [if_pos hc] at h; exact k1 o M' h H locs ls hl hW hS
  · rw [if_neg hc] at h; exact k2 o M' h H locs ls hl hW hS
theorem r_icmp_le (C : Cx K G own cc nL ret) {x y : Int32} {off : Int} {tgt : Nat} (d : decode cc pc = .ok (.if_icmp .le off, 3)) (ht : (pc : Int) + off = (tgt : Int)) (k1 : Run K G nL cs sl Fn tgt L st M r1) (k2 : Run K G nL cs sl Fn (pc + 3) L st M r2) : Run K G nL cs sl Fn pc L (.int y :: .int x :: st) M (if x ≤ y then r1 else r2) := by
  intro o M' h H locs ls hl hW hS
  refine lv_icmp_le C.1 C.2.1 d ht (fun hc => ?_) (fun hc => ?_)
  · rw [if_pos hc] at h; exact k1 o M' h H locs ls hl hW hS
  · rw [if_neg hc] at h; exact k2 o M' h H locs ls hl hW hS
theorem r_goto (C : Cx K G own cc nL ret) {off : Int} {tgt : Nat} (d : decode cc pc = .ok (.goto off, 3)) (ht : (pc : Int) + off = (tgt : Int)) (k : Run K G nL cs sl Fn tgt L st M r) : Run K G nL cs sl Fn pc L st M r := fun o M' h H locs ls hl hW hS => lv_goto C.1 C.2.1 d ht (k o M' h H locs ls hl hW hS)
theorem r_tabIn (C : Cx K G own cc nL ret) {dflt lo hi : Int} {offs : Array Int} {len : Nat} {x : Int32} {off : Int} {tgt : Nat} (d : decode cc pc = .ok (.tableswitch dflt lo hi offs, len)) (h1 : ¬ x.toInt < lo) (h2 : ¬ hi < x.toInt) (ho : offs[(x.toInt - lo).toNat]? = some off) (ht : (pc : Int) + off = (tgt : Int)) (k : Run K G nL cs sl Fn tgt L st M r) : Run K G nL cs sl Fn pc L (.int x :: st) M r := fun o M' h H locs ls hl hW hS => lv_tableIn C.1 C.2.1 d h1 h2 ho ht (k o M' h H locs ls hl hW hS)
theorem r_tabOut (C : Cx K G own cc nL ret) {dflt lo hi : Int} {offs : Array Int} {len : Nat} {x : Int32} {tgt : Nat} (d : decode cc pc = .ok (.tableswitch dflt lo hi offs, len)) (h1 : x.toInt < lo ∨ hi < x.toInt) (ht : (pc : Int) + dflt = (tgt : Int)) (k : Run K G nL cs sl Fn tgt L st M r) : Run K G nL cs sl Fn pc L (.int x :: st) M r := fun o M' h H locs ls hl hW hS => lv_tableOut C.1 C.2.1 d h1 ht (k o M' h H locs ls hl hW hS)
theorem r_ldc (C : Cx K G own cc nL ret) {index : Nat} {v : Int32} (hc : Cond.constant own index v ∈ tblG) (d : decode cc pc = .ok (.ldc index, 2)) (k : Run K G nL cs sl Fn (pc + 2) L (.int v :: st) M r) : Run K G nL cs sl Fn pc L st M r := fun o M' h H locs ls hl hW hS => lv_ldc C.1 C.2.1 C.2.2.2.1 (C.w hc) d (k o M' h H locs ls hl hW hS)
theorem r_ldc2 (C : Cx K G own cc nL ret) {index : Nat} {v : Int64} (hc : Cond.constantLong own index v ∈ tblG) (d : decode cc pc = .ok (.ldc2_w index, 3)) (k : Run K G nL cs sl Fn (pc + 3) L (.long v :: st) M r) : Run K G nL cs sl Fn pc L st M r := fun o M' h H locs ls hl hW hS => lv_ldc2 C.1 C.2.1 C.2.2.2.1 (C.w hc) d (k o M' h H locs ls hl hW hS)

/-- a field of a kind: its class's table -/
def FF (kd j : Nat) (nm ds : String) (ci N : Nat) (Cn : String) (T : u_T) (fin : Bool) : Prop := kc kd = some (ci, N) ∧ wCl[ci]? = some (Cn, T, N) ∧ j < N ∧ T j = (Cn, nm, ds, fin) ∧ ∀ w ∈ u_ws Cn T N, w ∈ tblG
theorem r_get {kd k i j ci N : Nat} {nm ds Cn : String} {T : u_T} {fin : Bool} {index : Nat} {v : Value} (C : Cx K G own cc nL ret) (F : FF kd j nm ds ci N Cn T fin) (hl : Cond.fieldLink own index Cn nm ds ∈ tblG) (hd : G.2.2.2.1 kd k i) (d : decode cc pc = .ok (.getfield index, 3)) (hv : fv G M kd k i j = v)
    (kk : Run K G nL cs sl Fn (pc + 3) L (v :: st) M r) : Run K G nL cs sl Fn pc L (.ref (G.1 kd k i) :: st) M r := by
  intro o M' h H locs ls hls hW hS
  obtain ⟨f1, f2, f3, f4, f5⟩ := F
  have hts : ∀ w ∈ tblG, w.before K.2.2.2.2.2.2.1 K.2.2.2.2.1 = true := C.2.2.2.2.1
  have hK := C.2.2.2.2.2.1.1
  obtain ⟨cell, q1, q2, q3, q4⟩ := (hW kd k i hd).1 ci N f1
  obtain ⟨hSl, hfc, kC, hkC, hkind⟩ := hK.1 ci _ f2
  obtain ⟨cf, kf, fi, f, hi, hsl⟩ := hSl j f3
  have hst := (u_facts hfc hkC (u_lays hts f5 f3) hi).1
  dsimp only at hi hsl
  rw [f4] at hi
  dsimp only at hi
  have hq := q4 j f3
  dsimp only at hq
  rw [hv, ← hsl] at hq
  exact W.getf C.1 C.2.1 C.2.2.2.1 (C.w hl) hi hst q1 (by rw [q3]; exact fun h => by cases h) hq rfl rfl d (kk o M' h H locs ls hls hW hS)
theorem fv_wI {G : WT} {kd k i j : Nat} (h1 : ft kd k i j = none) (h2 : ks kd j = 0) (M : Mem) (v : Int32) (j' : Nat) : updV (fun j => fv G M kd k i j) j (.int v) j' = fv G (wI M kd k i j v) kd k i j' := by
  by_cases e : j' = j
  · subst e
    rw [fv_int h1 h2]
    show (if j' = j' then _ else _) = _
    rw [if_pos rfl]
    show _ = Value.int (up4 M.1 kd k i j' v kd k i j')
    rw [up4_same]
  · show (if j' = j then _ else _) = _
    rw [if_neg e]
    show fv G M kd k i j' = _
    unfold fv
    cases ft kd k i j' with
    | some c => rfl
    | none =>
      show fs M (ks kd j') kd k i j' = fs (wI M kd k i j v) (ks kd j') kd k i j'
      match ks kd j' with
      | 0 =>
        show Value.int (M.1 kd k i j') = Value.int (up4 M.1 kd k i j v kd k i j')
        rw [up4_ne (fun q => e q.2.2.2)]
      | 1 => rfl
      | 2 => rfl
      | n + 3 => rfl
theorem r_putv {kd k i j ci N : Nat} {nm ds Cn : String} {T : u_T} {index : Nat} {v : Value} {M1 : Mem} {ty : FieldType} (C : Cx K G own cc nL ret) (F : FF kd j nm ds ci N Cn T false) (hl : Cond.fieldLink own index Cn nm ds ∈ tblG) (hd : G.2.2.2.1 kd k i) (d : decode cc pc = .ok (.putfield index, 3))
    (ty0 : Nat → FieldType) (hty : ∀ k, k < N → parseFieldDescriptor (T k).2.2.1 = some (ty0 k)) (hnm : ∀ a, a < N → ∀ b, b < N → a ≠ b → (T a).2.1 ≠ (T b).2.1) (hds : parseFieldDescriptor ds = some ty) (hn : narrow ty v = v) (hfit : fits ty v = true)
    (hM : ∀ kd' k' i', ¬ (kd' = kd ∧ k' = k ∧ i' = i) → alikeAt M M1 kd' k' i') (hv : ∀ j', updV (fun j => fv G M kd k i j) j v j' = fv G M1 kd k i j')
    (kk : Run K G nL cs sl Fn (pc + 3) L st M1 r) : Run K G nL cs sl Fn pc L (v :: .ref (G.1 kd k i) :: st) M r := by
  intro o M' h H locs ls hls hW hS
  obtain ⟨f1, f2, f3, f4, f5⟩ := F
  have hts : ∀ w ∈ tblG, w.before K.2.2.2.2.2.2.1 K.2.2.2.2.1 = true := C.2.2.2.2.1
  have hK := C.2.2.2.2.2.1.1
  have hA := C.2.2.2.2.2.1.2.1
  have hap := va_apart (own := own) hts f5 ty0 hty hnm hK f2
  obtain ⟨cell, q1, q2, q3, q4⟩ := (hW kd k i hd).1 ci N f1
  obtain ⟨hSl, hfc, kC, hkC, hkind⟩ := hK.1 ci _ f2
  obtain ⟨cf, kf, fi, f, hi, hsl⟩ := hSl j f3
  have hlay := hts _ (f5 _ (u_in_lay f3))
  unfold u_lay at hlay
  rw [if_neg (by rw [f4]; exact Bool.false_ne_true)] at hlay
  have hst := (u_facts hfc hkC (u_lays hts f5 f3) hi).1
  have h6 := u_store hfc hkC hkind hlay hi (by rw [f4]; exact hds) hn hfit
  dsimp only at hi hsl
  rw [f4] at hi
  dsimp only at hi
  refine W.putK C.1 C.2.1 (f := f) ⟨C.2.2.2.1, C.w hl, ⟨_, _, _, hi⟩, hst⟩ (by rw [q2]; exact h6) q1 q3 (by rw [hsl]; exact k2_hasslot (q4 j f3)) rfl rfl d fun H' e1 e2 e3 => ?_
  rw [hsl] at e1 ⊢
  refine kk o M' h H' _ ls hls (hW.set hA hd hM e3 (Wc.obj f1 ?_)) (hS.put e2 e3 (hA.2.1 kd k i hd))
  exact t_OB.to (V := updV (fun j => fv G M kd k i j) j v) ⟨_, e1, q2, q3, t_set q4 hap f3 v⟩ (fun j' _ => hv j')
/-- an int field written -/
theorem r_putI {kd k i j ci N : Nat} {nm0 Cn : String} {T : u_T} {index : Nat} {v : Int32} {g : Mem → Option (ρ × Mem)} (C : Cx K G own cc nL ret) (F : FF kd j nm0 "I" ci N Cn T false) (hl : Cond.fieldLink own index Cn nm0 "I" ∈ tblG) (hd : G.2.2.2.1 kd k i) (ty0 : Nat → FieldType) (hty : ∀ k, k < N → parseFieldDescriptor (T k).2.2.1 = some (ty0 k)) (hnm : ∀ a, a < N → ∀ b, b < N → a ≠ b → (T a).2.1 ≠ (T b).2.1) (h1 : ∀ k i, ft kd k i j = none) (h2 : ks kd j = 0) (d : decode cc pc = .ok (.putfield index, 3))
    (kk : ∀ M1 : Mem, Run K G nL cs sl Fn (pc + 3) L st M1 (g M1)) : Run K G nL cs sl Fn pc L (.int v :: .ref (G.1 kd k i) :: st) M (nm (wI M kd k i j v) g) :=
  r_putv C F hl hd d ty0 hty hnm (ty := .int) (by decide +kernel) rfl rfl (fun _ _ _ h => wI_alike h) (fun j' => fv_wI (h1 k i) h2 M v j') (kk _)
/-- a boolean field written: only with 0 or 1 -/
theorem r_putZ {kd k i j ci N : Nat} {nm0 Cn : String} {T : u_T} {index : Nat} {v : Int32} {g : Mem → Option (ρ × Mem)} (C : Cx K G own cc nL ret) (F : FF kd j nm0 "Z" ci N Cn T false) (hl : Cond.fieldLink own index Cn nm0 "Z" ∈ tblG) (hd : G.2.2.2.1 kd k i) (ty0 : Nat → FieldType) (hty : ∀ k, k < N → parseFieldDescriptor (T k).2.2.1 = some (ty0 k)) (hnm : ∀ a, a < N → ∀ b, b < N → a ≠ b → (T a).2.1 ≠ (T b).2.1) (h1 : ∀ k i, ft kd k i j = none) (h2 : ks kd j = 0) (d : decode cc pc = .ok (.putfield index, 3))
    (kk : ∀ M1 : Mem, Run K G nL cs sl Fn (pc + 3) L st M1 (g M1)) : Run K G nL cs sl Fn pc L (.int v :: .ref (G.1 kd k i) :: st) M (chk (decide (v = 0 ∨ v = 1)) (nm (wI M kd k i j v) g)) :=
  r_chk (fun hb => r_putv C F hl hd d ty0 hty hnm (ty := .boolean) (by decide +kernel) (by rcases of_decide_eq_true hb with rfl | rfl <;> rfl) (by rcases of_decide_eq_true hb with rfl | rfl <;> rfl) (fun _ _ _ h => wI_alike h) (fun j' => fv_wI (h1 k i) h2 M v j') (kk _))

end RROWS
