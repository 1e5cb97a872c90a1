/-! THE CLAIM OUT OF ONE WALK OF THE LAW'S BODY. Your part is whole_start (and what it stands on); all else here is the same for every law, but numbers. -/
def R_law : String := "PermitParkLaw"
def lw_P (b : Addr) (xs : List Int32) (args : Array Value) (s : State) : Prop := args = #[.ref b] ∧ s.IntsAt b xs ∧ xs.length ≤ 2048 ∧ (Jvm.Cond.and given_1 narrow_1).before args s = true
/-- what a walk over the start with the record d0 says of its end, said of the start itself -/
theorem lw_closed {s t : State} {o : Outcome} {d0 : Drawn} {L : List Loc} {k n : Nat} (hd0 : s.drawn.sameBut d0 lw_cs) (hv : ∃ v, o = .returned v) (hW : (s.setDrawn d0).WarmedH t.vm) (hs : (s.setDrawn d0).sameButNew ({ t with vm := s.vm } : State) L k n) : State.butDraws s t lw_cs (fun t1 => Framed s o t1 L k n) := by
  have h2 : t.drawn = d0 := congrArg State.drawn hs.1
  refine ⟨⟨hv, hW, State.sameButNew.setDrawn hs s.drawn⟩, ?_, by decide⟩
  rw [h2]
  exact hd0
def lw_Q (_ : Array Value) (s : State) (o : Outcome) (t : State) : Prop := o = .returned (some (.int 1)) ∧ State.butDraws s t lw_cs (fun t1 => Framed s o t1 [] 601024 7293034)
def lw_Z (below : List Frame) (a : Array Value) (s : State) : State → Prop := fun t => ∃ o, t.status = .running ∧ Ended t below o ∧ lw_Q a s o t
/-- the law's own end, with 1 on the stack, nothing written that was there before, its room as the claim has it; d0: the record of draws at this point (at the entry s.drawn: begin with 'refine W.base ?_' and 'have hd0 := Drawn.sameBut.refl s.drawn lw_cs') -/
theorem lw_ret {p : Program} {l : Launch} {e : Env} {s : State} {m : MethodId} {below : List Frame} {meth : Method} {c : Code} {b : Nat} {d0 : Drawn} (hd0 : s.drawn.sameBut d0 lw_cs) (hx : p.tables.exec = Jvm.exec) (hb : c.code = code) (hr : meth.sig.returnType = ret) (hlocks : meth.locks = false) {pc : Nat} {H : Heap} {ls : Array Slot} (hdg : decode code pc = .ok (.ireturn, 1)) : W p l e room_1 (s.setDrawn d0) m #[Value.ref b] below meth c H [] 601024 7293034 (lw_Z below #[Value.ref b] s) (F0 m pc ls [.int 1]) := by
  intro T hT X
  obtain ⟨fs, hret, hrun, hended, hW, hframe⟩ := X.leave (v := some (.int 1)) (hlocks := hlocks) (fun h => by rw [hr] at h; cases h)
  have hmeth' : T.vm.method? m = some meth := X.method'
  refine ⟨T.setFrames fs, ?_, .returned (some (.int 1)), hrun, hended, rfl, lw_closed hd0 ⟨_, rfl⟩ hW hframe⟩
  jvm_step X.here [X.here.top, hx, hb, hdg, hmeth', hr, ret, narrow_b1]
  (try refine ⟨rfl, ?_⟩); (try refine ⟨rfl, ?_⟩)
  first | (intro acts; rw [hret _ acts rfl rfl rfl]) | rw [hret _ _ rfl rfl rfl]
  exact Steps.refl _
/-- what holds at the law's entry: the machine, the code, the tables' words (any of lw_tbl by 'hts w (by decide +kernel)'), the script of L ints xs at the cell b, what the Statement gives of the start (any of its parts by flat_of_before) -/
def lw_At (p : Program) (s : State) (m : MethodId) (meth : Method) (c : Code) (b L : Nat) (xs : Nat → Int32) : Prop :=
  p.tables.exec = Jvm.exec ∧ c.code = code ∧ meth.sig.returnType = ret ∧ c.maxLocals = 10 ∧ s.vm.findClass R_law = some m.cls ∧ (∀ w ∈ lw_tbl, w.before #[Value.ref b] s = true) ∧ va_X b L xs s s.heap ∧ b < s.heap.size ∧ meth.locks = false ∧ (Jvm.Cond.and given_1 narrow_1).before #[Value.ref b] s = true

section LAWROWS
variable {ρ : Type} {K : KT} {G : WT} {own : String} {cc : ByteArray} {nL cs sl : Nat} {ret : Option FieldType} {Fn : ρ → Mem → Prop × (State → Prop)} {pc : Nat} {L L' : List (Nat × Value)} {st : List Value} {M : Mem} {r r1 r2 : Option (ρ × Mem)} {b N : Nat} {xs : Nat → Int32}
def Lx (K : KT) (G : WT) (b N : Nat) (xs : Nat → Int32) : Prop := K.2.2.2.1 = room_1 ∧ K.2.2.2.2.2.2.1 = #[Value.ref b] ∧ va_X b N xs K.2.2.2.2.1 K.2.2.2.2.1.heap ∧ b < K.2.2.2.2.1.heap.size ∧ ∀ q, G.2.2.2.2.1 q → K.2.2.2.2.1.heap.size ≤ q
def FinL (K : KT) (b : Nat) : Int32 → Mem → Prop × (State → Prop) := fun o _ => (o = 1, lw_Z K.2.2.2.2.2.2.2.1 #[Value.ref b] K.2.2.2.2.1)
theorem l_ret {v : Int32} (C : Cx K G "PermitParkLaw" cL_law 10 (some .boolean)) (X : Lx K G b N xs) (hc : cs ≤ 601024) (hs : sl ≤ 7293034) (d : decode cL_law pc = .ok (.ireturn, 1)) : Run K G 10 cs sl (FinL K b) pc L [.int v] M (some (v, M)) := by
  intro o M' h hg H locs ls hl hW hS
  cases h
  have hg : v = 1 := hg
  subst hg
  refine va_forget (fun q hq => X.2.2.2.2 _ (hS.2.2 q hq)) ?_
  obtain ⟨pp, l, e, R, s, m, args, below, meth, c⟩ := K
  obtain ⟨hR, hargs, -⟩ := X
  have hR : R = room_1 := hR
  have hargs : args = #[Value.ref b] := hargs
  subst hR
  subst hargs
  intro T hT Xs
  exact lw_ret (s := s) (d0 := s.drawn) (b := b) (below := below) (Drawn.sameBut.refl s.drawn lw_cs) C.1 C.2.1 C.2.2.2.2.2.2.2 C.2.2.2.2.2.2.1 d T hT (stand_widen Xs hc hs)
theorem r_xsL {x : Int32} (C : Cx K G own cc nL ret) (X : Lx K G b N xs) (d : decode cc pc = .ok (.iaload, 1)) (kk : Run K G nL cs sl Fn (pc + 1) L (.int (xs x.toNatClampNeg) :: st) M r) : Run K G nL cs sl Fn pc L (.int x :: .ref b :: st) M (chk (inB x N) r) := by
  refine r_chk (fun hb => ?_)
  intro o M' h hg H locs ls hl hW hS
  exact va_sld C.1 C.2.1 X.2.2.1 X.2.2.2.1 (fun q => absurd (X.2.2.2.2 b q) (Nat.not_le.mpr X.2.2.2.1)) hS (inB_in hb) d (kk o M' h hg H locs ls hl hW hS)
theorem r_xsN (C : Cx K G own cc nL ret) (X : Lx K G b N xs) (d : decode cc pc = .ok (.arraylength, 1)) (kk : Run K G nL cs sl Fn (pc + 1) L (.int (Int32.ofNat N) :: st) M r) : Run K G nL cs sl Fn pc L (.ref b :: st) M r := by
  intro o M' h hg H locs ls hl hW hS
  exact va_slen C.1 C.2.1 X.2.2.1 X.2.2.2.1 (fun q => absurd (X.2.2.2.2 b q) (Nat.not_le.mpr X.2.2.2.1)) hS d (kk o M' h hg H locs ls hl hW hS)
theorem Rx.law {mc ms fr lo : Nat} (X : Lx K G b N xs) (h1 : cs + mc ≤ 601024) (h2 : sl + ms ≤ 7293034) (h3 : Nat.ble (fr + 1) 14 = true) (h4 : Nat.ble lo 560 = true) : Rx K cs sl mc ms fr lo := by
  refine ⟨?_, ?_, ?_, ?_⟩ <;> rw [X.1]
  · exact h1
  · exact h2
  · exact Nat.le_of_ble_eq_true h3
  · exact Nat.le_of_ble_eq_true h4
theorem r_nmF {x : UInt32} {f : UInt32 → Option (ρ × Mem)} (k : ∀ y : UInt32, Run K G nL cs sl Fn pc L (.float y :: st) M (f y)) : Run K G nL cs sl Fn pc L (.float x :: st) M (nm x f) := k x
theorem r_nmD {x : UInt64} {f : UInt64 → Option (ρ × Mem)} (k : ∀ y : UInt64, Run K G nL cs sl Fn pc L (.double y :: st) M (f y)) : Run K G nL cs sl Fn pc L (.double x :: st) M (nm x f) := k x
theorem r_nmJ {x : Int64} {f : Int64 → Option (ρ × Mem)} (k : ∀ y : Int64, Run K G nL cs sl Fn pc L (.long y :: st) M (f y)) : Run K G nL cs sl Fn pc L (.long x :: st) M (nm x f) := k x
/-- a wrapper's words -/
def CH (y : MethodName) (bytes : ByteArray) (maxL : Nat) (ret : Option FieldType) (hh : List (Nat × Nat × Nat × Nat)) (n : Nat) : Prop := Cond.static y ∈ tblG ∧ (Cond.initialized y.cls ∈ tblG ∧ Cond.codeWith y bytes maxL ret hh ∈ tblG) ∧ (y.cls ≠ "java/lang/invoke/MethodHandle" ∧ y.cls ≠ "java/lang/invoke/VarHandle" ∧ (parseMethodDescriptor y.desc).map (fun d => d.parameters.length) = some n)
theorem r_hS {σ : Type} {y : MethodName} {bytes : ByteArray} {maxL fr lo mc index n : Nat} {ret' : Option FieldType} {hh : List (Nat × Nat × Nat × Nat)} {As : List Value} {stk : List Value} {vo : σ → Option Value} {res : Option (Except Nat σ × Mem)} {f : σ → Mem → Option (ρ × Mem)} (C : Cx K G own cc nL ret) (Y : Cy0 K) (hR : Rx K cs sl mc (6 * mc) fr (8 + (maxL + 11) + lo)) (hM : OkH K.2.1 G y bytes maxL ret' hh fr lo mc As vo M res)
    (hl : Cond.methodLink own index y ∈ tblG) (cv : CH y bytes maxL ret' hh n) (hn : As.length = n)
    (hst : stk = As.reverse ++ st) (h8 : (st.map fun v => v.category).sum ≤ 8) (d : decode cc pc = .ok (.invokestatic index, 3)) (kk : ∀ (o : σ) (M1 : Mem), Run K G nL (cs + mc) (sl + 6 * mc) Fn (pc + 3) L ((vo o).toList ++ st) M1 (f o M1)) : Run K G nL cs sl Fn pc L stk M (bndc res f (fun _ _ => none)) := by
  refine r_goX (mc := mc) (vo := vo) (av := As.toArray) (fun o M1 hres H locs ls hls hW hS => ?_) kk (fun _ _ => t_none)
  have hts := C.2.2.2.2.1
  have hcw := vx_cwSW (R := K.2.2.2.1) (rm := rmX fr lo mc) (ws := Cond.codeWith y bytes maxL ret' hh :: tblG) n hts (own := own) (index := index) (y := y) (bytes := bytes) (maxL := maxL) (ret := ret') (hh := hh) (mc := mc) (ms := 6 * mc) (ws' := tblG) (fun w hw => ?_) rfl rfl rfl cv.2.2 ⟨hR.2.2.1, hR.2.2.2⟩
  · exact vx_runSX (n := n) ⟨C.1, C.2.1, C.2.2.1, C.2.2.2.1, hts⟩ (hM o M1 hres) hcw ⟨PcX.blind, fun U hU hWm => ⟨⟨rfl, by rw [hU]; exact hW, C.2.2.2.2.2.1.next hS hU hWm⟩, Y.2.warm hWm⟩⟩ rfl hn hls.1 hst (lv_room h8) d ⟨hR.1, hR.2.1⟩
  · unfold va_wsS at hw
    rcases List.mem_append.mp hw with hw | hw
    · simp only [List.mem_cons, List.not_mem_nil, or_false] at hw
      rcases hw with rfl | rfl | rfl
      · exact tblG_good _ hl
      · exact tblG_good _ cv.1
      · exact tblG_good _ cv.2.1.1
    · exact (List.mem_cons.mp hw).elim (fun e => by rw [e]; exact tblG_good _ cv.2.1.2) (tblG_good w)
theorem r_hSI {y : MethodName} {bytes : ByteArray} {maxL fr lo mc index n : Nat} {ret' : Option FieldType} {hh : List (Nat × Nat × Nat × Nat)} {As : List Value} {stk : List Value} {res : Option (Except Nat Int32 × Mem)} {f : Int32 → Mem → Option (ρ × Mem)} (C : Cx K G own cc nL ret) (Y : Cy0 K) (hR : Rx K cs sl mc (6 * mc) fr (8 + (maxL + 11) + lo)) (hM : OkH K.2.1 G y bytes maxL ret' hh fr lo mc As voI M res)
    (hl : Cond.methodLink own index y ∈ tblG) (cv : CH y bytes maxL ret' hh n) (hn : As.length = n)
    (hst : stk = As.reverse ++ st) (h8 : (st.map fun v => v.category).sum ≤ 8) (d : decode cc pc = .ok (.invokestatic index, 3)) (kk : ∀ (o : Int32) (M1 : Mem), Run K G nL (cs + mc) (sl + 6 * mc) Fn (pc + 3) L (.int o :: st) M1 (f o M1)) : Run K G nL cs sl Fn pc L stk M (bndc res f (fun _ _ => none)) := r_hS C Y hR hM hl cv hn hst h8 d kk
end LAWROWS
theorem mw_623 : (Jvm.Cond.codeWith ({ cls := "PermitParkLaw", name := "appendText", desc := "(LPermitPark;I[J)I" } : Jvm.MethodName) method_3_code (4 : Nat) (Option.some Jvm.ClassFile.FieldType.int) [((0 : Nat), (9 : Nat), (12 : Nat), (13 : Nat))]) ∈ tblG := tblG_t (List.mem_of_getElem? (i := 623) (by decide +kernel)) (by decide +kernel)
theorem cvL_appendText : CH yL_appendText cL_appendText 4 (some FieldType.int) [(0, 9, 12, 13)] 3 := ⟨mw_622, ⟨mw_0, mw_623⟩, by decide, by decide, by decide +kernel⟩
theorem mw_702 : (Jvm.Cond.codeWith ({ cls := "PermitParkLaw", name := "truncateText", desc := "(LPermitPark;I[J)I" } : Jvm.MethodName) method_4_code (4 : Nat) (Option.some Jvm.ClassFile.FieldType.int) [((0 : Nat), (9 : Nat), (12 : Nat), (18 : Nat))]) ∈ tblG := tblG_t (List.mem_of_getElem? (i := 702) (by decide +kernel)) (by decide +kernel)
theorem cvL_truncateText : CH yL_truncateText cL_truncateText 4 (some FieldType.int) [(0, 9, 12, 18)] 3 := ⟨mw_701, ⟨mw_0, mw_702⟩, by decide, by decide, by decide +kernel⟩
theorem mw_729 : (Jvm.Cond.codeWith ({ cls := "PermitParkLaw", name := "addThread", desc := "(LPermitPark;III[J)I" } : Jvm.MethodName) method_5_code (6 : Nat) (Option.some Jvm.ClassFile.FieldType.int) [((0 : Nat), (12 : Nat), (15 : Nat), (18 : Nat)), ((0 : Nat), (12 : Nat), (19 : Nat), (13 : Nat))]) ∈ tblG := tblG_t (List.mem_of_getElem? (i := 729) (by decide +kernel)) (by decide +kernel)
theorem cvL_addThread : CH yL_addThread cL_addThread 6 (some FieldType.int) [(0, 12, 15, 18), (0, 12, 19, 13)] 5 := ⟨mw_728, ⟨mw_0, mw_729⟩, by decide, by decide, by decide +kernel⟩
theorem mw_744 : (Jvm.Cond.codeWith ({ cls := "PermitParkLaw", name := "addInstruction", desc := "(LPermitPark;III[J)I" } : Jvm.MethodName) method_6_code (6 : Nat) (Option.some Jvm.ClassFile.FieldType.int) [((0 : Nat), (12 : Nat), (15 : Nat), (27 : Nat)), ((0 : Nat), (12 : Nat), (19 : Nat), (18 : Nat)), ((0 : Nat), (12 : Nat), (23 : Nat), (13 : Nat))]) ∈ tblG := tblG_t (List.mem_of_getElem? (i := 744) (by decide +kernel)) (by decide +kernel)
theorem cvL_addInstruction : CH yL_addInstruction cL_addInstruction 6 (some FieldType.int) [(0, 12, 15, 27), (0, 12, 19, 18), (0, 12, 23, 13)] 5 := ⟨mw_743, ⟨mw_0, mw_744⟩, by decide, by decide, by decide +kernel⟩
theorem mw_777 : (Jvm.Cond.codeWith ({ cls := "PermitParkLaw", name := "setBase", desc := "(LPermitPark;II[J)I" } : Jvm.MethodName) method_7_code (5 : Nat) (Option.some Jvm.ClassFile.FieldType.int) [((0 : Nat), (10 : Nat), (13 : Nat), (27 : Nat)), ((0 : Nat), (10 : Nat), (17 : Nat), (18 : Nat))]) ∈ tblG := tblG_t (List.mem_of_getElem? (i := 777) (by decide +kernel)) (by decide +kernel)
theorem cvL_setBase : CH yL_setBase cL_setBase 5 (some FieldType.int) [(0, 10, 13, 27), (0, 10, 17, 18)] 4 := ⟨mw_776, ⟨mw_0, mw_777⟩, by decide, by decide, by decide +kernel⟩
theorem mw_788 : (Jvm.Cond.codeWith ({ cls := "PermitParkLaw", name := "set", desc := "(LPermitPark;II[J)I" } : Jvm.MethodName) method_8_code (5 : Nat) (Option.some Jvm.ClassFile.FieldType.int) [((0 : Nat), (10 : Nat), (13 : Nat), (18 : Nat))]) ∈ tblG := tblG_t (List.mem_of_getElem? (i := 788) (by decide +kernel)) (by decide +kernel)
theorem cvL_set : CH yL_set cL_set 5 (some FieldType.int) [(0, 10, 13, 18)] 4 := ⟨mw_787, ⟨mw_0, mw_788⟩, by decide, by decide, by decide +kernel⟩
theorem mw_797 : (Jvm.Cond.codeWith ({ cls := "PermitParkLaw", name := "seed", desc := "(LPermitPark;I)I" } : Jvm.MethodName) method_9_code (3 : Nat) (Option.some Jvm.ClassFile.FieldType.int) [((0 : Nat), (5 : Nat), (8 : Nat), (18 : Nat))]) ∈ tblG := tblG_t (List.mem_of_getElem? (i := 797) (by decide +kernel)) (by decide +kernel)
theorem cvL_seed : CH yL_seed cL_seed 3 (some FieldType.int) [(0, 5, 8, 18)] 2 := ⟨mw_796, ⟨mw_0, mw_797⟩, by decide, by decide, by decide +kernel⟩
theorem mw_805 : (Jvm.Cond.codeWith ({ cls := "PermitParkLaw", name := "setFlag", desc := "(LPermitPark;IZ[J)I" } : Jvm.MethodName) method_10_code (5 : Nat) (Option.some Jvm.ClassFile.FieldType.int) [((0 : Nat), (17 : Nat), (20 : Nat), (27 : Nat))]) ∈ tblG := tblG_t (List.mem_of_getElem? (i := 805) (by decide +kernel)) (by decide +kernel)
theorem cvL_setFlag : CH yL_setFlag cL_setFlag 5 (some FieldType.int) [(0, 17, 20, 27)] 4 := ⟨mw_804, ⟨mw_0, mw_805⟩, by decide, by decide, by decide +kernel⟩
theorem mw_814 : (Jvm.Cond.codeWith ({ cls := "PermitParkLaw", name := "count", desc := "(LPermitPark;I[J)I" } : Jvm.MethodName) method_11_code (4 : Nat) (Option.some Jvm.ClassFile.FieldType.int) [((0 : Nat), (9 : Nat), (12 : Nat), (18 : Nat))]) ∈ tblG := tblG_t (List.mem_of_getElem? (i := 814) (by decide +kernel)) (by decide +kernel)
theorem cvL_count : CH yL_count cL_count 4 (some FieldType.int) [(0, 9, 12, 18)] 3 := ⟨mw_813, ⟨mw_0, mw_814⟩, by decide, by decide, by decide +kernel⟩
theorem mw_833 : (Jvm.Cond.codeWith ({ cls := "PermitParkLaw", name := "thread", desc := "(LPermitPark;II[J)I" } : Jvm.MethodName) method_12_code (5 : Nat) (Option.some Jvm.ClassFile.FieldType.int) [((0 : Nat), (10 : Nat), (13 : Nat), (27 : Nat)), ((0 : Nat), (10 : Nat), (17 : Nat), (18 : Nat))]) ∈ tblG := tblG_t (List.mem_of_getElem? (i := 833) (by decide +kernel)) (by decide +kernel)
theorem cvL_thread : CH yL_thread cL_thread 5 (some FieldType.int) [(0, 10, 13, 27), (0, 10, 17, 18)] 4 := ⟨mw_832, ⟨mw_0, mw_833⟩, by decide, by decide, by decide +kernel⟩
theorem mw_849 : (Jvm.Cond.codeWith ({ cls := "PermitParkLaw", name := "instruction", desc := "(LPermitPark;III[J)I" } : Jvm.MethodName) method_13_code (6 : Nat) (Option.some Jvm.ClassFile.FieldType.int) [((0 : Nat), (12 : Nat), (15 : Nat), (27 : Nat)), ((0 : Nat), (12 : Nat), (19 : Nat), (18 : Nat))]) ∈ tblG := tblG_t (List.mem_of_getElem? (i := 849) (by decide +kernel)) (by decide +kernel)
theorem cvL_instruction : CH yL_instruction cL_instruction 6 (some FieldType.int) [(0, 12, 15, 27), (0, 12, 19, 18)] 5 := ⟨mw_848, ⟨mw_0, mw_849⟩, by decide, by decide, by decide +kernel⟩
theorem mw_856 : (Jvm.Cond.codeWith ({ cls := "PermitParkLaw", name := "lock", desc := "(LPermitPark;II[J)I" } : Jvm.MethodName) method_14_code (5 : Nat) (Option.some Jvm.ClassFile.FieldType.int) [((0 : Nat), (10 : Nat), (13 : Nat), (27 : Nat))]) ∈ tblG := tblG_t (List.mem_of_getElem? (i := 856) (by decide +kernel)) (by decide +kernel)
theorem cvL_lock : CH yL_lock cL_lock 5 (some FieldType.int) [(0, 10, 13, 27)] 4 := ⟨mw_855, ⟨mw_0, mw_856⟩, by decide, by decide, by decide +kernel⟩
theorem mw_868 : (Jvm.Cond.codeWith ({ cls := "PermitParkLaw", name := "flag", desc := "(LPermitPark;I[J)I" } : Jvm.MethodName) method_15_code (4 : Nat) (Option.some Jvm.ClassFile.FieldType.int) [((0 : Nat), (16 : Nat), (19 : Nat), (27 : Nat))]) ∈ tblG := tblG_t (List.mem_of_getElem? (i := 868) (by decide +kernel)) (by decide +kernel)
theorem cvL_flag : CH yL_flag cL_flag 4 (some FieldType.int) [(0, 16, 19, 27)] 3 := ⟨mw_867, ⟨mw_0, mw_868⟩, by decide, by decide, by decide +kernel⟩
theorem mw_875 : (Jvm.Cond.codeWith ({ cls := "PermitParkLaw", name := "event", desc := "(LPermitPark;II[J)I" } : Jvm.MethodName) method_16_code (5 : Nat) (Option.some Jvm.ClassFile.FieldType.int) [((0 : Nat), (10 : Nat), (13 : Nat), (27 : Nat)), ((0 : Nat), (10 : Nat), (17 : Nat), (18 : Nat))]) ∈ tblG := tblG_t (List.mem_of_getElem? (i := 875) (by decide +kernel)) (by decide +kernel)
theorem cvL_event : CH yL_event cL_event 5 (some FieldType.int) [(0, 10, 13, 27), (0, 10, 17, 18)] 4 := ⟨mw_874, ⟨mw_0, mw_875⟩, by decide, by decide, by decide +kernel⟩
theorem mw_886 : (Jvm.Cond.codeWith ({ cls := "PermitParkLaw", name := "events", desc := "(LPermitPark;II[J)I" } : Jvm.MethodName) method_17_code (5 : Nat) (Option.some Jvm.ClassFile.FieldType.int) [((0 : Nat), (10 : Nat), (13 : Nat), (27 : Nat)), ((0 : Nat), (10 : Nat), (17 : Nat), (18 : Nat))]) ∈ tblG := tblG_t (List.mem_of_getElem? (i := 886) (by decide +kernel)) (by decide +kernel)
theorem cvL_events : CH yL_events cL_events 5 (some FieldType.int) [(0, 10, 13, 27), (0, 10, 17, 18)] 4 := ⟨mw_885, ⟨mw_0, mw_886⟩, by decide, by decide, by decide +kernel⟩
theorem mw_898 : (Jvm.Cond.codeWith ({ cls := "PermitParkLaw", name := "wake", desc := "(LPermitPark;I[J)I" } : Jvm.MethodName) method_18_code (4 : Nat) (Option.some Jvm.ClassFile.FieldType.int) [((0 : Nat), (9 : Nat), (12 : Nat), (27 : Nat))]) ∈ tblG := tblG_t (List.mem_of_getElem? (i := 898) (by decide +kernel)) (by decide +kernel)
theorem cvL_wake : CH yL_wake cL_wake 4 (some FieldType.int) [(0, 9, 12, 27)] 3 := ⟨mw_897, ⟨mw_0, mw_898⟩, by decide, by decide, by decide +kernel⟩
theorem mw_907 : (Jvm.Cond.codeWith ({ cls := "PermitParkLaw", name := "interrupt", desc := "(LPermitPark;I[J)I" } : Jvm.MethodName) method_19_code (4 : Nat) (Option.some Jvm.ClassFile.FieldType.int) [((0 : Nat), (9 : Nat), (12 : Nat), (27 : Nat))]) ∈ tblG := tblG_t (List.mem_of_getElem? (i := 907) (by decide +kernel)) (by decide +kernel)
theorem cvL_interrupt : CH yL_interrupt cL_interrupt 4 (some FieldType.int) [(0, 9, 12, 27)] 3 := ⟨mw_906, ⟨mw_0, mw_907⟩, by decide, by decide, by decide +kernel⟩
theorem mw_918 : (Jvm.Cond.codeWith ({ cls := "PermitParkLaw", name := "rouse", desc := "(LPermitPark;I[J)I" } : Jvm.MethodName) method_20_code (4 : Nat) (Option.some Jvm.ClassFile.FieldType.int) [((0 : Nat), (16 : Nat), (19 : Nat), (27 : Nat))]) ∈ tblG := tblG_t (List.mem_of_getElem? (i := 918) (by decide +kernel)) (by decide +kernel)
theorem cvL_rouse : CH yL_rouse cL_rouse 4 (some FieldType.int) [(0, 16, 19, 27)] 3 := ⟨mw_917, ⟨mw_0, mw_918⟩, by decide, by decide, by decide +kernel⟩
theorem mw_926 : (Jvm.Cond.codeWith ({ cls := "PermitParkLaw", name := "run", desc := "(LPermitPark;I[J)I" } : Jvm.MethodName) method_21_code (4 : Nat) (Option.some Jvm.ClassFile.FieldType.int) [((0 : Nat), (9 : Nat), (12 : Nat), (18 : Nat))]) ∈ tblG := tblG_t (List.mem_of_getElem? (i := 926) (by decide +kernel)) (by decide +kernel)
theorem cvL_run : CH yL_run cL_run 4 (some FieldType.int) [(0, 9, 12, 18)] 3 := ⟨mw_925, ⟨mw_0, mw_926⟩, by decide, by decide, by decide +kernel⟩
theorem mw_934 : (Jvm.Cond.codeWith ({ cls := "PermitParkLaw", name := "chain", desc := "(LPermitPark;II[J)I" } : Jvm.MethodName) method_22_code (5 : Nat) (Option.some Jvm.ClassFile.FieldType.int) [((0 : Nat), (10 : Nat), (13 : Nat), (27 : Nat))]) ∈ tblG := tblG_t (List.mem_of_getElem? (i := 934) (by decide +kernel)) (by decide +kernel)
theorem cvL_chain : CH yL_chain cL_chain 5 (some FieldType.int) [(0, 10, 13, 27)] 4 := ⟨mw_933, ⟨mw_0, mw_934⟩, by decide, by decide, by decide +kernel⟩
theorem mw_945 : (Jvm.Cond.codeWith ({ cls := "PermitParkLaw", name := "lent", desc := "(LPermitPark;I[D)I" } : Jvm.MethodName) method_23_code (4 : Nat) (Option.some Jvm.ClassFile.FieldType.int) [((0 : Nat), (9 : Nat), (12 : Nat), (27 : Nat))]) ∈ tblG := tblG_t (List.mem_of_getElem? (i := 945) (by decide +kernel)) (by decide +kernel)
theorem cvL_lent : CH yL_lent cL_lent 4 (some FieldType.int) [(0, 9, 12, 27)] 3 := ⟨mw_944, ⟨mw_0, mw_945⟩, by decide, by decide, by decide +kernel⟩
theorem mw_952 : (Jvm.Cond.codeWith ({ cls := "PermitParkLaw", name := "doneIn", desc := "(LPermitPark;II[J)I" } : Jvm.MethodName) method_24_code (5 : Nat) (Option.some Jvm.ClassFile.FieldType.int) [((0 : Nat), (10 : Nat), (13 : Nat), (27 : Nat)), ((0 : Nat), (10 : Nat), (17 : Nat), (18 : Nat))]) ∈ tblG := tblG_t (List.mem_of_getElem? (i := 952) (by decide +kernel)) (by decide +kernel)
theorem cvL_doneIn : CH yL_doneIn cL_doneIn 5 (some FieldType.int) [(0, 10, 13, 27), (0, 10, 17, 18)] 4 := ⟨mw_951, ⟨mw_0, mw_952⟩, by decide, by decide, by decide +kernel⟩
theorem mw_959 : (Jvm.Cond.codeWith ({ cls := "PermitParkLaw", name := "returnsIn", desc := "(LPermitPark;II[J)I" } : Jvm.MethodName) method_25_code (5 : Nat) (Option.some Jvm.ClassFile.FieldType.int) [((0 : Nat), (10 : Nat), (13 : Nat), (27 : Nat)), ((0 : Nat), (10 : Nat), (17 : Nat), (18 : Nat))]) ∈ tblG := tblG_t (List.mem_of_getElem? (i := 959) (by decide +kernel)) (by decide +kernel)
theorem cvL_returnsIn : CH yL_returnsIn cL_returnsIn 5 (some FieldType.int) [(0, 10, 13, 27), (0, 10, 17, 18)] 4 := ⟨mw_958, ⟨mw_0, mw_959⟩, by decide, by decide, by decide +kernel⟩
theorem mw_970 : (Jvm.Cond.codeWith ({ cls := "PermitParkLaw", name := "ahead", desc := "(LPermitPark;II[J)I" } : Jvm.MethodName) method_26_code (5 : Nat) (Option.some Jvm.ClassFile.FieldType.int) [((0 : Nat), (10 : Nat), (13 : Nat), (18 : Nat))]) ∈ tblG := tblG_t (List.mem_of_getElem? (i := 970) (by decide +kernel)) (by decide +kernel)
theorem cvL_ahead : CH yL_ahead cL_ahead 5 (some FieldType.int) [(0, 10, 13, 18)] 4 := ⟨mw_969, ⟨mw_0, mw_970⟩, by decide, by decide, by decide +kernel⟩
theorem mw_982 : (Jvm.Cond.codeWith ({ cls := "PermitParkLaw", name := "bestBase", desc := "(LPermitPark;II[J)I" } : Jvm.MethodName) method_27_code (5 : Nat) (Option.some Jvm.ClassFile.FieldType.int) [((0 : Nat), (10 : Nat), (13 : Nat), (27 : Nat)), ((0 : Nat), (10 : Nat), (17 : Nat), (18 : Nat))]) ∈ tblG := tblG_t (List.mem_of_getElem? (i := 982) (by decide +kernel)) (by decide +kernel)
theorem cvL_bestBase : CH yL_bestBase cL_bestBase 5 (some FieldType.int) [(0, 10, 13, 27), (0, 10, 17, 18)] 4 := ⟨mw_981, ⟨mw_0, mw_982⟩, by decide, by decide, by decide +kernel⟩
theorem mw_989 : (Jvm.Cond.codeWith ({ cls := "PermitParkLaw", name := "save", desc := "(LPermitPark;I)I" } : Jvm.MethodName) method_28_code (3 : Nat) (Option.some Jvm.ClassFile.FieldType.int) [((0 : Nat), (5 : Nat), (8 : Nat), (18 : Nat))]) ∈ tblG := tblG_t (List.mem_of_getElem? (i := 989) (by decide +kernel)) (by decide +kernel)
theorem cvL_save : CH yL_save cL_save 3 (some FieldType.int) [(0, 5, 8, 18)] 2 := ⟨mw_988, ⟨mw_0, mw_989⟩, by decide, by decide, by decide +kernel⟩
theorem mw_996 : (Jvm.Cond.codeWith ({ cls := "PermitParkLaw", name := "restore", desc := "(LPermitPark;I)I" } : Jvm.MethodName) method_29_code (3 : Nat) (Option.some Jvm.ClassFile.FieldType.int) [((0 : Nat), (5 : Nat), (8 : Nat), (18 : Nat)), ((0 : Nat), (5 : Nat), (11 : Nat), (13 : Nat))]) ∈ tblG := tblG_t (List.mem_of_getElem? (i := 996) (by decide +kernel)) (by decide +kernel)
theorem cvL_restore : CH yL_restore cL_restore 3 (some FieldType.int) [(0, 5, 8, 18), (0, 5, 11, 13)] 2 := ⟨mw_995, ⟨mw_0, mw_996⟩, by decide, by decide, by decide +kernel⟩
