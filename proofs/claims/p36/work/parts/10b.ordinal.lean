/-! ===== an enum constant's ordinal: a call of a method whose class isn't said to be initialised: its body is walked, not taken by a contract ===== -/
section ORD
theorem od_weaken {tb : Tables} {e : Env} {mid below : List Frame} {a b : State} (h : Steps tb e (mid ++ below) a b) : Steps tb e below a b := by
  obtain ⟨n, hn, w⟩ := h
  exact ⟨n, hn, fun k hk => (w k hk).weaken⟩
/-- the body's walk, in a stand of its own -/
theorem od_walk {p : Program} {l : Launch} {e : Env} {R : Room} {s : State} {mk : MethodId} {a : Array Value} {below : List Frame} {methY : Method} {cY : Code} {q : Nat} {v0 : Int32} {A0 : Nat → Prop}
    (hexec : p.tables.exec = Jvm.exec) (ha : a = #[Value.ref q]) (hb : cY.code = cJx29ce0_ordinal_8abf5) (hr : methY.sig.returnType = some .int) (hlk : methY.locks = false)
    (hown : s.vm.findClass "java/lang/Enum" = some mk.cls) (hf : (Cond.fieldLink "java/lang/Enum" 7 "java/lang/Enum" "ordinal" "I").before a s = true)
    (hE : va_OF "java/lang/Enum" "ordinal" "I" (.int v0) q A0 s s.heap) :
    W p l e R s mk a below methY cY s.heap [] 0 0 (MQ below (fun _ st o t => o = .returned (some (.int v0)) ∧ t.heap = st.heap) a s 0 0 (fun _ => False)) (entryFrame mk a 1) := by
  subst ha
  have hl := lv_entry [Value.ref q] (n := 1) (Nat.le_of_ble_eq_true rfl)
  have he : (#[Value.ref q] : Array Value) = ([Value.ref q] : List Value).toArray := rfl
  rw [he, lg_entry_eq]
  refine lv_aload_n hexec hb dJx29ce0_ordinal_8abf5_0 rfl (lv_at hl 0 rfl) ?_
  refine vk_getf hexec hb hE (va_S.rf (A := A0)) hown hf (fun _ h => h) dJx29ce0_ordinal_8abf5_1 ?_
  exact W.iret hexec hb hr (fun t ht _ => ⟨rfl, ht⟩) (fun _ h => nomatch h) dJx29ce0_ordinal_8abf5_4 hlk
theorem od_back {p : Program} {l : Launch} {e : Env} {R : Room} {s : State} {sargs : Array Value} {below : List Frame} {q : Nat} {v0 : Int32} {A0 : Nat → Prop}
    (hexec : p.tables.exec = Jvm.exec)
    (hc : ∀ (a' : Array Value) (U : State), s.WarmedH U.vm → (Cond.code yJx29ce0_ordinal_8abf5 cJx29ce0_ordinal_8abf5 1 (some .int)).before a' U = true)
    (hf : ∀ (a' : Array Value) (U : State), s.WarmedH U.vm → (Cond.fieldLink "java/lang/Enum" 7 "java/lang/Enum" "ordinal" "I").before a' U = true)
    (hR : 1 ≤ R.frames) (hL : 20 ≤ R.locals) :
    Back l R p e below s sargs yJx29ce0_ordinal_8abf5 3 8 (fun A a => a = #[Value.ref q] ∧ va_OF "java/lang/Enum" "ordinal" "I" (.int v0) q A0 A.U A.U.heap ∧ A.cells ≤ R.cells ∧ A.slots ≤ R.slots)
      (fun A a v B => v = some (.int v0) ∧ B.U.heap = A.U.heap ∧ B.locs = A.locs ∧ B.cells = A.cells ∧ B.slots = A.slots) := by
  intro m meth c A g ig mk a X hg hsize hdg hW hn hp
  obtain ⟨U, Ls, c0, s0⟩ := A
  dsimp only [Pt.U, Pt.locs, Pt.cells, Pt.slots] at X hn hp ⊢
  obtain ⟨ha, hE, hcl, hsl⟩ := hp
  obtain ⟨methY, cY, hmY, hcY, hbY, hlY, hrY, hlkY, -, -⟩ := Cond.code_spec hn (hc a U X.warmed)
  have hAt : At U g.method c below := by rw [hg]; exact X.here
  have hroom : (U.calling g mk a).hasRoom e.platform { frames := 0, cells := 0, slots := 0, locals := 0 } = true :=
    X.room_calling (g := g) (R' := { frames := 0, cells := 0, slots := 0, locals := 0 }) hsize hmY hcY hR (by rw [hlY]; show 2 * g.monitorRoom + (g.stack.map fun v => v.category).sum + (1 + 11) + 0 ≤ R.locals; omega) hcl hsl
  have hfC : (U.calling g mk a).frames = .invoking mk a :: .java g :: U.frames.tail := State.frames_calling hAt.top g mk a
  have hfg : (U.setTop g).frames = .java g :: U.frames.tail := State.frames_setTop' g hAt.top
  have hcurC := State.cur_lt_of_frames hfC
  have hplain : U.plainMethod mk := by
    refine State.plainMethod.of_name ?_
    intro k hk
    obtain ⟨k', hk', hn'⟩ := className_of_methodNamed hn
    cases (show U.vm.classes[mk.cls]? = some k from hk).symm.trans hk'
    rw [hn']
    decide +kernel
  obtain ⟨mid, hmid⟩ := hAt.above
  obtain ⟨tC, htC, -⟩ := State.frames_cons hfC
  have hs1 : (U.setTop g).pushFrame (.java (entryFrame mk a 1)) = (U.calling g mk a).setFrames (.java (entryFrame mk a 1) :: .java g :: U.frames.tail) := by
    rw [State.calling, State.pushFrame, State.pushFrame, State.setFrames_setFrames, hfg]
  have hAt1 : At ((U.setTop g).pushFrame (.java (entryFrame mk a 1))) mk cY below := by
    have := hAt.enter a hmY hcY hplain
    rw [hlY] at this
    exact this
  have hf1 : ((U.setTop g).pushFrame (.java (entryFrame mk a 1))).frames = .java (entryFrame mk a 1) :: .java g :: U.frames.tail := frames_entered hAt.top _
  have hAtC : At ((U.setTop g).pushFrame (.java (entryFrame mk a 1))) mk cY (.java g :: U.frames.tail) := ⟨hAt1.top, ⟨[], by rw [hf1]; rfl⟩, hAt1.running, hAt1.runnable, hAt1.alone, hAt1.code, hAt1.plain⟩
  have hcodeC : (U.calling g mk a).code? g.method = some c := by
    have := hAt.code
    rw [State.code?_eq] at this ⊢
    simpa [State.calling, State.pushFrame, State.setFrames] using this
  have XC : Stand p l e { frames := 0, cells := 0, slots := 0, locals := 0 } (U.calling g mk a) mk a (.java g :: U.frames.tail) methY cY ((U.calling g mk a).setFrames (.java (entryFrame mk a 1) :: .java g :: U.frames.tail)) [] 0 0 := by
    rw [hs1] at hAtC
    refine ⟨X.admits, X.cas, X.clock, hfC, hroom, ?_, hmY, hcY, hAtC, by rw [State.frames_setFrames _ hcurC]; rfl, State.WarmedH.refl _, State.stackLimits_setFrames _ _ _, State.stackBytes_setFrames _ _, ?_⟩
    · simp [State.hears, hcodeC, hdg, Except.toOption]
    · exact (State.sameButNew.refl (U.calling g mk a) htC).setFrames _ hcurC
  have hwk := od_walk (p := p) (l := l) (e := e) (R := { frames := 0, cells := 0, slots := 0, locals := 0 }) (s := U.calling g mk a) (below := .java g :: U.frames.tail) (A0 := A0) hexec ha hbY hrY hlkY (findClass_of_methodNamed hn) (hf a (U.calling g mk a) X.warmed) (va_OF.moved (Vm.Alike.refl U.vm) hE)
  obtain ⟨t, hsteps, o, -, hend, ⟨ho, hh⟩, L, hFE, hL0⟩ := hwk ((U.calling g mk a).setFrames (.java (entryFrame mk a 1) :: .java g :: U.frames.tail)) rfl XC
  subst ho
  obtain ⟨-, hW₂, e2, q2, q3, q4, q5, q6⟩ := hFE
  have hLn : L = [] := List.eq_nil_iff_forall_not_mem.mpr fun z hz => hL0 z hz
  subst hLn
  obtain ⟨c₂, i₂, len₂, hc₂, hd₂, hf₂⟩ := hend
  have hW' : U.WarmedH t.vm := hW₂
  have hcc : c₂ = c := by
    have h1 : t.code? g.method = U.code? g.method := by rw [State.code?_eq, State.code?_eq, hW'.alike.method?]
    exact Option.some.inj (hc₂.symm.trans (h1.trans hAt.code))
  subst hcc
  have hlen : len₂ = 3 := by rw [hdg] at hd₂; cases hd₂; rfl
  subst hlen
  have e3 : t = ({ (U.calling g mk a).setFrames t.frames with heap := t.heap, slotsUsed := t.slotsUsed } : State).setVm t.vm := by
    have : t = ({ t with vm := (U.calling g mk a).vm } : State).setVm t.vm := rfl
    rw [e2] at this
    exact this
  obtain ⟨g₀, hg0⟩ := Option.isSome_iff_exists.mp hAt.top
  obtain ⟨r, hr⟩ := State.topJava?_eq_some.mp hg0
  have hs₂ : t = (({ U with heap := t.heap, slotsUsed := t.slotsUsed } : State).setVm t.vm).setTop { g with pc := g.pc + 3, stack := (some (Value.int v0)).toList ++ g.stack } := by
    have hr' : (({ U with heap := t.heap, slotsUsed := t.slotsUsed } : State).setVm t.vm).frames = .java g₀ :: r := hr
    refine e3.trans ?_
    rw [hf₂, State.calling_eq hAt.top, State.setFrames_setFrames, State.setTop_of_frames _ hr', hr]
    rfl
  have hsame : U.sameButNew ({ U with heap := t.heap, slotsUsed := t.slotsUsed } : State) [] 0 0 := by
    refine ⟨?_, q2, q3, q4, q5, q6⟩
    obtain ⟨t', ht', -⟩ := State.frames_cons hr
    show ({ U with heap := t.heap, slotsUsed := t.slotsUsed } : State) = { U.setFrames U.frames with heap := t.heap, slotsUsed := t.slotsUsed }
    rw [State.setFrames_self ht']
  refine ⟨some (.int v0), ⟨(({ U with heap := t.heap, slotsUsed := t.slotsUsed } : State).setVm t.vm), Ls, c0, s0⟩, ?_, ⟨rfl, hh, rfl, rfl, rfl⟩, ?_⟩
  · have hX := X.same.trans (hsame.setVm s.vm)
    rw [List.append_nil] at hX
    subst hg
    exact ⟨X.admits, X.cas, X.clock, X.frames, X.room, X.hears, X.method, X.code, (X.here.setHeapUsed t.heap t.slotsUsed).setVm hW'.alike, X.tail, State.WarmedH.trans X.warmed hW', X.limits, X.bytes, hX⟩
  · show Steps p.tables e below _ ((({ U with heap := t.heap, slotsUsed := t.slotsUsed } : State).setVm t.vm).setTop { g with pc := g.pc + 3, stack := (some (Value.int v0)).toList ++ g.stack })
    rw [← hs₂, doInvoke_enter hAt.top [] hmY hcY hlkY (X.notFull hsize hR (by rw [hlY]; omega)), hlY, hs1]
    rw [hmid] at hsteps ⊢
    exact od_weaken (mid := .java g :: mid) hsteps
variable {ρ : Type} {K : KT} {G : WT} {own : String} {cc : ByteArray} {nL cs sl : Nat} {ret : Option FieldType} {Fn : ρ → Mem → Prop × (State → Prop)} {pc : Nat} {L L' : List (Nat × Value)} {st : List Value} {M : Mem} {r r1 r2 : Option (ρ × Mem)}
theorem r_ordinal {e fr0 lo0 index : Nat} {f : Int32 → Mem → Option (ρ × Mem)} (C : Cx K G own cc nL ret) (hRm : K.2.2.2.1.frames = fr0 ∧ K.2.2.2.1.locals = lo0) (he : e < 11) (hl : Cond.methodLink own index { cls := "PermitPark$Op", name := "ordinal", desc := "()I" } ∈ tblG) (hR : 0 + 1 ≤ fr0 ∧ 8 + (1 + 11) + 0 ≤ lo0) (h8 : (st.map fun v => v.category).sum ≤ 8) (d : decode cc pc = .ok (.invokevirtual index, 3))
    (kk : ∀ (o : Int32) (M1 : Mem), Run K G nL 0 0 Fn (pc + 3) L (.int o :: st) M1 (f o M1)) : Run K G nL 0 0 Fn pc L (.ref (G.2.2.2.2.2.1 e) :: st) M (bnd (some (nI e, M)) f) := by
  intro o M' h hg H locs ls hls hW hS T hT X
  have hts := C.2.2.2.2.1
  have hwords : ∀ w ∈ ([Cond.code yJx29ce0_ordinal_8abf5 cJx29ce0_ordinal_8abf5 1 (some .int), Cond.fieldLink "java/lang/Enum" 7 "java/lang/Enum" "ordinal" "I"] : List Cond), ∀ (a' : Array Value) (U : State), K.2.2.2.2.1.WarmedH U.vm → w.before a' U = true :=
    pay_in hts (fun w hw => by
      simp only [List.mem_cons, List.not_mem_nil, or_false] at hw
      rcases hw with rfl | rfl
      · exact tblG_good _ mw_596
      · exact tblG_good _ mw_881)
  obtain ⟨cellB, b1, b2, b3, -⟩ := ((C.ext.2.2.1 e he).1).kept hS.2.1
  have hK := od_back (p := K.1) (l := K.2.1) (e := K.2.2.1) (R := K.2.2.2.1) (s := K.2.2.2.2.1) (sargs := K.2.2.2.2.2.2.1) (below := K.2.2.2.2.2.2.2.1) (q := G.2.2.2.2.2.1 e) (v0 := nI e) (A0 := G.2.2.2.2.1) C.1 (fun a' U hw => hwords _ List.mem_cons_self a' U hw) (fun a' U hw => hwords _ (List.mem_cons_of_mem _ List.mem_cons_self) a' U hw) (by rw [hRm.1]; omega) (by rw [hRm.2]; omega)
  obtain ⟨v, vm₁, B, hw1, X', ⟨hv, hB1, hB2, hB3, hB4⟩, stp⟩ := va_callVU X C.1 (C := "PermitPark$Op") (owner := "java/lang/Enum") C.2.2.2.1 (C.w hl) (C.w mw_592) (va_Decl.of (C.w mw_595) (C.w mw_596)) ⟨by decide, by decide⟩ (C.w mw_594) (C.w mw_595) (C.w mw_596) hK (by rw [hT]; exact b1) b2 b3
    (g := F0 K.2.2.2.2.2.1 pc ls (.ref (G.2.2.2.2.2.1 e) :: st)) rfl (hls.1.trans C.2.2.1.symm) (argsL := []) (rest := st) (fun sig hs => by
      have h0 : (parseMethodDescriptor "()I").map (fun d => d.parameters.length) = some 0 := by decide +kernel
      have hs : parseMethodDescriptor "()I" = some sig := hs
      rw [hs] at h0
      exact (Option.some.inj h0).symm) rfl (lv_room h8) (by rw [C.2.1]; exact d)
    (fun vm₁ hw₁ => ⟨rfl, va_OF.moved hw₁.alike (((C.ext.2.2.1 e he).2.1).kept (by show ∀ a : Nat, _; rw [show (T.setVm vm₁).heap = H from hT]; exact hS.2.1)), Nat.zero_le _, Nat.zero_le _⟩)
  obtain ⟨BU, BL, Bc, Bs⟩ := B
  dsimp only [Pt.U, Pt.locs, Pt.cells, Pt.slots] at X' hB1 hB2 hB3 hB4 stp
  subst hB2; subst hB3; subst hB4; subst hv
  obtain ⟨t2, a1, b1⟩ := kk (nI e) M o M' h hg BU.heap BL ls hls (by rw [hB1, show (T.setVm vm₁).heap = H from hT]; exact hW) (by rw [hB1, show (T.setVm vm₁).heap = H from hT]; exact hS) BU rfl X'
  exact ⟨t2, stp t2 a1, b1⟩
end ORD
