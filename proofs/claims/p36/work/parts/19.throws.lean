/-! ===== methods that throw: contracts, throws, calls, handlers ===== -/
section XROWS
variable {ρ : Type} {K : KT} {G : WT} {own : String} {cc : ByteArray} {nL cs sl : Nat} {ret : Option FieldType} {Fn : ρ → Mem → Prop × (State → Prop)} {pc : Nat} {L L' : List (Nat × Value)} {st : List Value} {M : Mem} {r r1 r2 : Option (ρ × Mem)}
def NwDl : List Cond := [Cond.declares ({ cls := "java/lang/RuntimeException", name := "<init>", desc := "(Ljava/lang/String;)V" } : Jvm.MethodName), Cond.declares ({ cls := "java/lang/Exception", name := "<init>", desc := "(Ljava/lang/String;)V" } : Jvm.MethodName), Cond.declares ({ cls := "java/lang/Throwable", name := "<init>", desc := "(Ljava/lang/String;)V" } : Jvm.MethodName)]
def NwD (U : State) : Prop := ∀ w ∈ NwDl, va_Nw w U
theorem NwD.warm {s U : State} (hW : s.WarmedH U.vm) (h : NwD s) : NwD U := fun w hw => by
  have hz := h w hw
  simp only [NwDl, List.mem_cons, List.not_mem_nil, or_false] at hw
  rcases hw with rfl | rfl | rfl
  · exact hz.warmD hW
  · exact hz.warmD hW
  · exact hz.warmD hW
/-- no stack traces; the words of throws -/
def Cy0 (K : KT) : Prop := K.2.1.stackTraces = false ∧ NwD K.2.2.2.2.1
/-- .. and no handlers -/
def Cy (K : KT) : Prop := Cy0 K ∧ ∀ x ∈ K.2.2.2.2.2.2.2.2.2.exceptionTable.toList, False
abbrev rmX (fr lo mc : Nat) : Room := { frames := fr, cells := mc, slots := 6 * mc, locals := lo }
def xN (e : Nat) : String := match e with
  | 1 => "java/lang/IllegalStateException"
  | 2 => "java/lang/IllegalArgumentException"
  | _ => "java/lang/IndexOutOfBoundsException"
def QcX {σ : Type} (G : WT) (vo : σ → Option Value) (o : Except Nat σ) (M' : Mem) : Array Value → State → Outcome → State → Prop := fun _ st oc t => ∃ v, o = .ok v ∧ oc = .returned (vo v) ∧ Wd G M' t.heap ∧ va_F G.2.2.2.2.1 st t
def XcX {σ : Type} (G : WT) (o : Except Nat σ) (M' : Mem) : String → State → State → Prop := fun E st t => ∃ x, o = .error x ∧ E = xN x ∧ Wd G M' t.heap ∧ va_F G.2.2.2.2.1 st t
def FinX {σ : Type} (K : KT) (G : WT) (vo : σ → Option Value) (mc ms : Nat) : Except Nat σ → Mem → Prop × (State → Prop) := fun o M' => (True, vx_MQ K.2.2.2.2.2.2.2.1 (QcX G vo o M') (XcX G o M') K.2.2.2.2.2.2.1 K.2.2.2.2.1 mc ms G.2.2.2.2.1)
theorem r_wid {cs' sl' : Nat} (h1 : cs ≤ cs') (h2 : sl ≤ sl') (k : Run K G nL cs' sl' Fn pc L st M r) : Run K G nL cs sl Fn pc L st M r := fun o M' h hg H locs ls hl hW hS T hT X => k o M' h hg H locs ls hl hW hS T hT (stand_widen X h1 h2)
def xok {σ : Type} (r : Option (σ × Mem)) : Option (Except Nat σ × Mem) := r.map (fun x => (.ok x.1, x.2))
theorem r_xok {σ : Type} {vo : σ → Option Value} {r : Option (σ × Mem)} (k : Run K G nL cs sl (FinM K G vo cs sl) pc L st M r) : Run K G nL cs sl (FinX K G vo cs sl) pc L st M (xok r) := by
  intro o M' h hg H locs ls hl hW hS
  unfold xok at h
  cases hr : r with
  | none => rw [hr] at h; cases h
  | some x =>
    rw [hr] at h
    cases h
    intro T hT X
    obtain ⟨t, a, oc, b1, b2, b3, b4⟩ := k x.1 x.2 hr trivial H locs ls hl hW hS T hT X
    exact ⟨t, a, oc, b1, b2, Or.inl ⟨⟨x.1, rfl, b3.1, b3.2.1, b3.2.2⟩, b4⟩⟩
def PcX (G : WT) (As : List Value) (M : Mem) : Array Value → State → Prop := fun v U => (v = As.toArray ∧ Wd G M U.heap ∧ Ws G U) ∧ NwD U
theorem PcX.blind {As : List Value} : FrameBlind (PcX G As M) := by
  intro a U V hh h
  exact ⟨Pcw.blind a U V hh h.1, fun w hw => va_Nw.same (u := U) (by simp only [NwDl, List.mem_cons, List.not_mem_nil, or_false] at hw; rcases hw with rfl | rfl | rfl <;> rfl) rfl (h.2 w hw)⟩
/-- a method's contract, one that may throw -/
def OkX {σ : Type} (l : Launch) (G : WT) (y : MethodName) (cc : ByteArray) (maxL : Nat) (ret : Option FieldType) (fr lo mc : Nat) (As : List Value) (vo : σ → Option Value) (M : Mem) (res : Option (Except Nat σ × Mem)) : Prop :=
  ∀ (o : Except Nat σ) (M' : Mem), res = some (o, M') → vx_Met l y (Cond.code y cc maxL ret :: tblG) (rmX fr lo mc) (PcX G As M) (QcX G vo o M') (XcX G o M') mc (6 * mc) G.2.2.2.2.1
theorem OkX.of {σ : Type} {l : Launch} {y : MethodName} {cc : ByteArray} {maxL : Nat} {ret : Option FieldType} {fr lo mc : Nat} {As : List Value} {vo : σ → Option Value} {M : Mem} {res : Option (Except Nat σ × Mem)} {L : List (Nat × Value)} (own : String) (hown : y.cls = own) (hy : plainName y.cls = true) (hn : (lg_sl As).length ≤ maxL) (hL : lv_args 0 As = L) (hT : l.stackTraces = false)
    (body : ∀ K : KT, K.2.1 = l → K.2.2.2.1 = rmX fr lo mc → Cy K → Cx K G own cc maxL ret → Run K G maxL 0 0 (FinX K G vo mc (6 * mc)) 0 L [] M res) : OkX l G y cc maxL ret fr lo mc As vo M res := by
  intro o M' hr
  refine vx_ofW (cc := cc) (maxL := maxL) (ret := ret) hy rfl ?_
  intro p e s m args below meth c s₁ B hml ht hv
  obtain ⟨⟨rfl, hW, hWs⟩, hD⟩ := hv
  have hts := atoms_spec (ws := Cond.code y cc maxL ret :: tblG) B.pre
  have hl := lv_entry As (n := maxL) hn
  rw [lg_entry_eq]
  rw [hL] at hl
  subst hown
  exact body (p, l, e, rmX fr lo mc, s, m, As.toArray, below, meth, c) rfl rfl ⟨⟨hT, hD⟩, ht⟩ ⟨B.exec, B.bytes, hml, findClass_of_methodNamed B.named, fun w hw => hts w (List.mem_cons_of_mem _ hw), hWs, B.notSynchronized, B.returns⟩ o M' hr trivial s.heap [] _ hl hW va_S.rf
/-! throws -/
def xNames : List String := ["java/lang/RuntimeException", "java/lang/Exception"]
def xB (e : Nat) : List Cond := Cond.castable (xN e) (xN e) :: NwDl
def TW (e ik ic : Nat) : Prop := Bundle.fit (xN e) = true ∧ (∀ n ∈ xNames, Bundle.fit n = true) ∧ Cond.classLink "PermitPark" ik (xN e) ∈ tblG ∧ Cond.initialized (xN e) ∈ tblG ∧ (∀ w ∈ (vx_atS "PermitPark" ic (xN e) xNames).filter goodWord, w ∈ tblG) ∧ (∀ w ∈ (vx_atS "PermitPark" ic (xN e) xNames).filter (fun w => !goodWord w), w ∈ xB e) ∧
  (∀ w ∈ Cond.classLink "PermitPark" ik (xN e) :: Cond.initialized (xN e) :: vx_atS "PermitPark" ic (xN e) xNames, vx_ot w = true) ∧ Cond.castable (xN e) (xN e) ∈ NwL
theorem inG_all {l : List Cond} (h : l.all (fun w => decide (w ∈ tables_1) && goodWord w) = true) : ∀ w ∈ l, w ∈ tblG := fun w hw => by
  have h1 := List.all_eq_true.mp h w hw
  simp only [Bool.and_eq_true, decide_eq_true_eq] at h1
  exact tblG_t h1.1 h1.2
theorem Wd.lt {H : Heap} (h : Wd G M H) {kd k i : Nat} (hd : G.2.2.2.1 kd k i) (hk : (kc kd).isSome ∨ (ka kd).isSome) : G.1 kd k i < H.size := by
  have hc := h kd k i hd
  cases e : kc kd with
  | some x =>
    obtain ⟨cell, q1, -⟩ := hc.1 x.1 x.2 e
    exact (Array.getElem?_eq_some_iff.mp q1).1
  | none =>
    cases e2 : ka kd with
    | some x => exact (Array.getElem?_eq_some_iff.mp (hc.2 x.1 x.2 e2)).1
    | none => simp [e, e2] at hk
theorem Wd.grown {H H1 : Heap} (h : Wd G M H) (hq : ∀ q : Nat, q < H.size → H1[q]? = H[q]?) : Wd G M H1 := by
  intro kd k i hd
  by_cases hk : (kc kd).isSome ∨ (ka kd).isSome
  · exact (h kd k i hd).kept ⟨fun _ => rfl, fun _ _ => rfl, fun _ _ => rfl, fun _ _ => rfl⟩ (hq _ (h.lt hd hk))
  · constructor
    · intro ci N e
      exact absurd (Or.inl (by rw [e]; rfl)) hk
    · intro ti n e
      exact absurd (Or.inr (by rw [e]; rfl)) hk
theorem r_throw {σ : Type} {vo : σ → Option Value} {e ik ic is fr lo mc : Nat} {q : String × Nat × String × Nat} (C : Cx K G "PermitPark" cc nL ret) (Y : Cy K) (hRm : K.2.2.2.1 = rmX fr lo mc) (W : TW e ik ic) (hq : q ∈ NwS) (hqe : q.1 = "PermitPark" ∧ q.2.1 = is)
    (d0 : decode cc pc = .ok (.new ik, 3)) (d3 : decode cc (pc + 3) = .ok (.dup, 1)) (d4 : decode cc (pc + 4) = .ok (.ldc is, 2)) (d6 : decode cc (pc + 6) = .ok (.invokespecial ic, 3)) (d9 : decode cc (pc + 9) = .ok (.athrow, 1))
    (hc : cs + 1 ≤ mc) (hs : sl + 6 ≤ 6 * mc) (hfr : 5 < fr) (hlo : (st.map fun v => v.category).sum + 82 ≤ lo) : Run K G nL cs sl (FinX K G vo mc (6 * mc)) pc L st M (some (.error e, M)) := by
  intro o M' h hg H locs ls hl hW hS
  cases h
  obtain ⟨w1, w2, w3, w4, w5, w6, w7, w8⟩ := W
  have hstr := C.nw.2.2 q hq
  rw [hqe.1, hqe.2] at hstr
  refine vx_throwS (own := "PermitPark") (cls := xN e) (names := xNames) C.1 C.2.1 Y.1.1 C.2.2.2.1 w1 w2 (C.w w3) (C.w w4) hstr ?_ w7 C.ext.2.2.2.2.2.2.2.2.2.2.1 C.ext.2.2.2.2.2.2.2.2.2.2.2 hS (hl.1.trans C.2.2.1.symm) d0 d3 d4 d6 d9 (fun x hx => (Y.2 x hx).elim) (by rw [hRm]; exact hfr) (by rw [hRm]; exact hlo) (by rw [hRm]; exact hc) (by rw [hRm]; exact hs) C.2.2.2.2.2.2.1 ?_ hS.2.2 hc hs
  · refine vx_hat (B := xB e) (fun w hw => C.w (w5 w hw)) w6 (fun w hw => ?_)
    rcases List.mem_cons.mp hw with rfl | hw
    · exact va_Nw.use rfl (C.nw.1 _ w8)
    · have hz := Y.1.2 w hw
      simp only [NwDl, List.mem_cons, List.not_mem_nil, or_false] at hw
      rcases hw with rfl | rfl | rfl <;> exact va_Nw.use rfl hz
  · intro t hal hz hk
    exact ⟨e, rfl, rfl, hW.grown hk, ⟨Nat.le_trans hS.1 hz, fun q h1 h2 => by rw [hk q (Nat.lt_of_lt_of_le h1 hS.1)]; exact hS.2.1 q h1 h2⟩⟩
/-! calls of methods that may throw -/
def RunT (K : KT) (G : WT) (nL cs sl : Nat) (Fn : ρ → Mem → Prop × (State → Prop)) (pc : Nat) (L : List (Nat × Value)) (e : Nat) (M : Mem) (r : Option (ρ × Mem)) : Prop :=
  ∀ (o : ρ) (M' : Mem), r = some (o, M') → (Fn o M').1 → ∀ (H : Heap) (locs : List Loc) (ls : Array Slot) (q : Addr) (ce : Cell) (st : List Value), lv_has ls nL L → Wd G M H → va_S G.2.2.2.2.1 K.2.2.2.2.1.heap H locs → H[q]? = some ce → ce.vm = .none → K.2.2.2.2.1.vm.findClass (xN e) = some ce.cls →
    vx_W K.1 K.2.1 K.2.2.1 K.2.2.2.1 K.2.2.2.2.1 K.2.2.2.2.2.1 K.2.2.2.2.2.2.1 K.2.2.2.2.2.2.2.1 K.2.2.2.2.2.2.2.2.1 K.2.2.2.2.2.2.2.2.2 H locs cs sl (Fn o M').2 (F0 K.2.2.2.2.2.1 pc ls st) q
theorem t_none {e : Nat} : RunT K G nL cs sl Fn pc L e M none := fun _ _ h => nomatch h
theorem t_ite {e : Nat} {c : Prop} [Decidable c] (h1 : c → RunT K G nL cs sl Fn pc L e M r1) (h2 : ¬ c → RunT K G nL cs sl Fn pc L e M r2) : RunT K G nL cs sl Fn pc L e M (if c then r1 else r2) := by
  by_cases h : c
  · rw [if_pos h]; exact h1 h
  · rw [if_neg h]; exact h2 h
theorem t_out {σ : Type} {vo : σ → Option Value} {e mc ms : Nat} (C : Cx K G own cc nL ret) (Y : Cy K) (hc : cs ≤ mc) (hs : sl ≤ ms) : RunT K G nL cs sl (FinX K G vo mc ms) pc L e M (some (.error e, M)) := by
  intro o M' h hg H locs ls q ce st hl hW hS hq hv hcl
  cases h
  exact vx_out (E := xN e) (fun x hx => (Y.2 x hx).elim) C.2.2.2.2.2.2.1 hq hv hcl (fun t ht _ => ⟨e, rfl, rfl, by rw [ht]; exact hW, hS.F ht⟩) hS.2.2 hc hs
def bndc {σ ρ : Type} (res : Option (Except Nat σ × Mem)) (f : σ → Mem → Option (ρ × Mem)) (g : Nat → Mem → Option (ρ × Mem)) : Option (ρ × Mem) := res.bind (fun x => match x.1 with
  | .ok o => f o x.2
  | .error e => g e x.2)
def bndx {σ ρ : Type} (res : Option (Except Nat σ × Mem)) (f : σ → Mem → Option (Except Nat ρ × Mem)) : Option (Except Nat ρ × Mem) := bndc res f (fun e M => some (.error e, M))
theorem r_goX {σ : Type} {mc : Nat} {stk : List Value} {vo : σ → Option Value} {res : Option (Except Nat σ × Mem)} {f : σ → Mem → Option (ρ × Mem)} {g : Nat → Mem → Option (ρ × Mem)} {av : Array Value}
    (run : ∀ (o : Except Nat σ) (M1 : Mem), res = some (o, M1) → ∀ (H : Heap) (locs : List Loc) (ls : Array Slot), lv_has ls nL L → Wd G M H → va_S G.2.2.2.2.1 K.2.2.2.2.1.heap H locs →
      vx_Run K.1 K.2.1 K.2.2.1 K.2.2.2.1 K.2.2.2.2.1 K.2.2.2.2.2.1 K.2.2.2.2.2.2.1 K.2.2.2.2.2.2.2.1 K.2.2.2.2.2.2.2.2.1 K.2.2.2.2.2.2.2.2.2 H locs cs sl mc (6 * mc) (F0 K.2.2.2.2.2.1 pc ls stk) st (QcX G vo o M1 av) (XcX G o M1) G.2.2.2.2.1)
    (kk : ∀ (o : σ) (M1 : Mem), Run K G nL (cs + mc) (sl + 6 * mc) Fn (pc + 3) L ((vo o).toList ++ st) M1 (f o M1)) (kx : ∀ (e : Nat) (M1 : Mem), RunT K G nL (cs + mc) (sl + 6 * mc) Fn pc L e M1 (g e M1)) : Run K G nL cs sl Fn pc L stk M (bndc res f g) := by
  intro o2 M2 h hg H locs ls hl hW hS T hT X
  cases hres : res with
  | none => rw [hres] at h; cases h
  | some x =>
    obtain ⟨o, M1⟩ := x
    rw [hres] at h
    have keep : ∀ {t T' : State} {st₀ : State} {L9 : List Loc}, st₀.heap = H → T'.heap = t.heap → (∀ q ∈ L9, G.2.2.2.2.1 q.base) → va_F G.2.2.2.2.1 st₀ t → va_S G.2.2.2.2.1 K.2.2.2.2.1.heap T'.heap (locs ++ L9) := by
      intro t T' st₀ L9 h0 e1 hL hF
      exact (vx_keep (A0 := G.2.2.2.2.1) (A1 := G.2.2.2.2.1) h0 e1 hS (fun _ _ z => z) (fun _ z => z) hL hF).2.2
    rcases run o M1 hres H locs ls hl hW hS T hT X with ⟨v, st₀, t, T', L9, h0, X', hL, e1, e2, ⟨v', ho, hv, hw, hF⟩, stp⟩ | ⟨q, st₀, t, T', L9, E, ce, h0, X', hL, e1, e2, ⟨x, ho, hE, hw, hF⟩, hce, hcv, hcl, stp⟩
    · subst ho
      cases hv
      have h : f v' M1 = some (o2, M2) := h
      obtain ⟨t2, a1, b1⟩ := kk v' M1 o2 M2 h hg T'.heap (locs ++ L9) ls hl (by rw [e1]; exact hw) (keep h0 e1 hL hF) T' rfl X'
      exact ⟨t2, stp t2 a1, b1⟩
    · subst ho
      subst hE
      have h : g x M1 = some (o2, M2) := h
      obtain ⟨t2, a1, b1⟩ := kx x M1 o2 M2 h hg T'.heap (locs ++ L9) ls q ce st hl (by rw [e1]; exact hw) (keep h0 e1 hL hF) (by rw [e1]; exact hce) hcv hcl T' rfl X'
      exact ⟨t2, stp.trans a1, b1⟩
/-- room for a callee -/
def Rx (K : KT) (cs sl mc ms fr lo : Nat) : Prop := cs + mc ≤ K.2.2.2.1.cells ∧ sl + ms ≤ K.2.2.2.1.slots ∧ fr + 1 ≤ K.2.2.2.1.frames ∧ lo ≤ K.2.2.2.1.locals
theorem r_xV {σ : Type} {y : MethodName} {bytes : ByteArray} {maxL fr lo mc index n : Nat} {ret' : Option FieldType} {b : Addr} {As : List Value} {stk : List Value} {vo : σ → Option Value} {res : Option (Except Nat σ × Mem)} {f : σ → Mem → Option (ρ × Mem)} {g : Nat → Mem → Option (ρ × Mem)} (C : Cx K G own cc nL ret) (Y : Cy0 K) (hR : Rx K cs sl mc (6 * mc) fr (8 + (maxL + 11) + lo)) (hM : OkX K.2.1 G y bytes maxL ret' fr lo mc (.ref b :: As) vo M res) (hrc : Rc K G y.cls b)
    (hl : Cond.methodLink own index y ∈ tblG) (cv : CV y bytes maxL ret' n) (hn : As.length = n)
    (hst : stk = As.reverse ++ .ref b :: st) (h8 : (st.map fun v => v.category).sum ≤ 8) (d : decode cc pc = .ok (.invokevirtual index, 3)) (kk : ∀ (o : σ) (M1 : Mem), Run K G nL (cs + mc) (sl + 6 * mc) Fn (pc + 3) L ((vo o).toList ++ st) M1 (f o M1)) (kx : ∀ (e : Nat) (M1 : Mem), RunT K G nL (cs + mc) (sl + 6 * mc) Fn pc L e M1 (g e M1)) : Run K G nL cs sl Fn pc L stk M (bndc res f g) := by
  refine r_goX (mc := mc) (vo := vo) (av := (Value.ref b :: As).toArray) (fun o M1 hres H locs ls hls hW hS => ?_) kk kx
  have hts := C.2.2.2.2.1
  refine vx_runV (n := n) ⟨C.1, C.2.1, C.2.2.1, C.2.2.2.1, hts⟩ (hM o M1 hres) (cwV n hts (fun w hw => ?_) rfl rfl rfl ⟨rfl, cv.2.2.2⟩ ⟨hR.2.2.1, hR.2.2.2⟩) ⟨PcX.blind, hrc M H locs hW hS, fun U hU hWm => ⟨⟨rfl, by rw [hU]; exact hW, C.2.2.2.2.2.1.next hS hU hWm⟩, Y.2.warm hWm⟩⟩ rfl hn hls.1 hst (lv_room h8) d ⟨hR.1, hR.2.1⟩
  unfold wsV at hw
  rcases List.mem_append.mp hw with hw | hw
  · simp only [List.mem_cons, List.not_mem_nil, or_false] at hw
    rcases hw with rfl | rfl | rfl | rfl
    · exact tblG_good _ hl
    · exact tblG_good _ cv.1
    · exact tblG_good _ cv.2.1
    · exact tblG_good _ cv.2.2.1.1
  · exact gw_cons cv.2.2.1.2 w hw
theorem r_xS {σ : Type} {y : MethodName} {bytes : ByteArray} {maxL fr lo mc index n : Nat} {ret' : Option FieldType} {As : List Value} {stk : List Value} {vo : σ → Option Value} {res : Option (Except Nat σ × Mem)} {f : σ → Mem → Option (ρ × Mem)} {g : Nat → Mem → Option (ρ × Mem)} (C : Cx K G own cc nL ret) (Y : Cy0 K) (hR : Rx K cs sl mc (6 * mc) fr (8 + (maxL + 11) + lo)) (hM : OkX K.2.1 G y bytes maxL ret' fr lo mc As vo M res)
    (hl : Cond.methodLink own index y ∈ tblG) (cv : CS y bytes maxL ret' n) (hn : As.length = n)
    (hst : stk = As.reverse ++ st) (h8 : (st.map fun v => v.category).sum ≤ 8) (d : decode cc pc = .ok (.invokestatic index, 3)) (kk : ∀ (o : σ) (M1 : Mem), Run K G nL (cs + mc) (sl + 6 * mc) Fn (pc + 3) L ((vo o).toList ++ st) M1 (f o M1)) (kx : ∀ (e : Nat) (M1 : Mem), RunT K G nL (cs + mc) (sl + 6 * mc) Fn pc L e M1 (g e M1)) : Run K G nL cs sl Fn pc L stk M (bndc res f g) := by
  refine r_goX (mc := mc) (vo := vo) (av := As.toArray) (fun o M1 hres H locs ls hls hW hS => ?_) kk kx
  have hts := C.2.2.2.2.1
  have hcw := va_cwS (R := K.2.2.2.1) (rm := rmX fr lo mc) (ws := Cond.code y bytes maxL ret' :: tblG) n hts (own := own) (index := index) (y := y) (bytes := bytes) (maxL := maxL) (ret := ret') (mc := mc) (ms := 6 * mc) (ws' := tblG) (fun w hw => ?_) rfl rfl rfl cv.2.2 ⟨hR.2.2.1, hR.2.2.2⟩
  · refine vx_runS (n := n) ⟨C.1, C.2.1, C.2.2.1, C.2.2.2.1, hts⟩ (hM o M1 hres) hcw ⟨PcX.blind, fun U hU hWm => ⟨⟨rfl, by rw [hU]; exact hW, C.2.2.2.2.2.1.next hS hU hWm⟩, Y.2.warm hWm⟩⟩ rfl hn hls.1 hst (lv_room h8) d ⟨hR.1, hR.2.1⟩
  · unfold va_wsS at hw
    rcases List.mem_append.mp hw with hw | hw
    · simp only [List.mem_cons, List.not_mem_nil, or_false] at hw
      rcases hw with rfl | rfl | rfl
      · exact tblG_good _ hl
      · exact tblG_good _ cv.1
      · exact tblG_good _ cv.2.1.1
    · exact gw_cons cv.2.1.2 w hw
/-- calls of methods that don't throw, at any count of cells -/
theorem r_wV {σ : Type} {y : MethodName} {bytes : ByteArray} {maxL fr lo index n : Nat} {ret' : Option FieldType} {b : Addr} {As : List Value} {stk : List Value} {vo : σ → Option Value} {res : Option (σ × Mem)} {f : σ → Mem → Option (ρ × Mem)} (C : Cx K G own cc nL ret) (hR : Rx K cs sl 0 0 fr (8 + (maxL + 11) + lo)) (hM : Okm K.2.1 G y bytes maxL ret' fr lo (.ref b :: As) vo M res) (hrc : Rc K G y.cls b)
    (hl : Cond.methodLink own index y ∈ tblG) (cv : CV y bytes maxL ret' n) (hn : As.length = n)
    (hst : stk = As.reverse ++ .ref b :: st) (h8 : (st.map fun v => v.category).sum ≤ 8) (d : decode cc pc = .ok (.invokevirtual index, 3)) (kk : ∀ (o : σ) (M1 : Mem), Run K G nL cs sl Fn (pc + 3) L ((vo o).toList ++ st) M1 (f o M1)) : Run K G nL cs sl Fn pc L stk M (bnd res f) := by
  refine r_go (y := y) (av := (Value.ref b :: As).toArray) (fun o M1 hres H locs ls hls hW hS => ?_) kk
  have hts := C.2.2.2.2.1
  refine va_runV (n := n) ⟨C.1, C.2.1, C.2.2.1, C.2.2.2.1, hts⟩ (hM o M1 hres) (cwV n hts (fun w hw => ?_) rfl rfl rfl ⟨rfl, cv.2.2.2⟩ ⟨hR.2.2.1, hR.2.2.2⟩) ⟨Pcw.blind, hrc M H locs hW hS, fun U hU hWm => ⟨rfl, by rw [hU]; exact hW, C.2.2.2.2.2.1.next hS hU hWm⟩⟩ rfl hn hls.1 hst (lv_room h8) d ⟨hR.1, hR.2.1⟩
  unfold wsV at hw
  rcases List.mem_append.mp hw with hw | hw
  · simp only [List.mem_cons, List.not_mem_nil, or_false] at hw
    rcases hw with rfl | rfl | rfl | rfl
    · exact tblG_good _ hl
    · exact tblG_good _ cv.1
    · exact tblG_good _ cv.2.1
    · exact tblG_good _ cv.2.2.1.1
  · exact gw_cons cv.2.2.1.2 w hw
theorem r_wS {σ : Type} {y : MethodName} {bytes : ByteArray} {maxL fr lo index n : Nat} {ret' : Option FieldType} {As : List Value} {stk : List Value} {vo : σ → Option Value} {res : Option (σ × Mem)} {f : σ → Mem → Option (ρ × Mem)} (C : Cx K G own cc nL ret) (hR : Rx K cs sl 0 0 fr (8 + (maxL + 11) + lo)) (hM : Okm K.2.1 G y bytes maxL ret' fr lo As vo M res)
    (hl : Cond.methodLink own index y ∈ tblG) (cv : CS y bytes maxL ret' n) (hn : As.length = n)
    (hst : stk = As.reverse ++ st) (h8 : (st.map fun v => v.category).sum ≤ 8) (d : decode cc pc = .ok (.invokestatic index, 3)) (kk : ∀ (o : σ) (M1 : Mem), Run K G nL cs sl Fn (pc + 3) L ((vo o).toList ++ st) M1 (f o M1)) : Run K G nL cs sl Fn pc L stk M (bnd res f) := by
  refine r_go (y := y) (av := As.toArray) (fun o M1 hres H locs ls hls hW hS => ?_) kk
  have hts := C.2.2.2.2.1
  refine va_runS (n := n) ⟨C.1, C.2.1, C.2.2.1, C.2.2.2.1, hts⟩ (hM o M1 hres) (va_cwS n hts (fun w hw => ?_) rfl rfl rfl cv.2.2 ⟨hR.2.2.1, hR.2.2.2⟩) ⟨Pcw.blind, fun U hU hWm => ⟨rfl, by rw [hU]; exact hW, C.2.2.2.2.2.1.next hS hU hWm⟩⟩ rfl hn hls.1 hst (lv_room h8) d ⟨hR.1, hR.2.1⟩
  unfold va_wsS at hw
  rcases List.mem_append.mp hw with hw | hw
  · simp only [List.mem_cons, List.not_mem_nil, or_false] at hw
    rcases hw with rfl | rfl | rfl
    · exact tblG_good _ hl
    · exact tblG_good _ cv.1
    · exact tblG_good _ cv.2.1.1
  · exact gw_cons cv.2.1.2 w hw
/-- caught -/
theorem t_catch {e e0 : Nat} {name : String} {hpc : Nat} (C : Cx K G own cc nL ret) (he : e = e0) (hn : xN e0 = name) (pre : List ExceptionTableEntry) (x : ExceptionTableEntry) (suf : List ExceptionTableEntry) (hsplit : K.2.2.2.2.2.2.2.2.2.exceptionTable.toList = pre ++ x :: suf) (hpass : ∀ z ∈ pre, z.catchType ≠ 0 ∧ ∃ nm : String, Cond.classLink own z.catchType nm ∈ tblG ∧ (name, nm) ∈ NwC)
    (hx : covers x pc = true) (h0 : x.catchType ≠ 0) (hl : Cond.classLink own x.catchType name ∈ tblG) (hcast : Cond.castable name name ∈ NwL) (hh : x.handlerPc = hpc) (k : ∀ q : Nat, Run K G nL cs sl Fn hpc L [.ref q] M r) : RunT K G nL cs sl Fn pc L e M r := by
  subst he
  subst hn
  subst hh
  intro o M' h hg H locs ls q ce st hls hW hS hq hv hcl
  exact vx_catch (E := xN e) (name := xN e) C.2.2.2.1 pre x suf hsplit (fun z hz => Or.inr ⟨(hpass z hz).1, (hpass z hz).2.elim (fun nm hn => ⟨nm, C.w hn.1, C.nw.2.1 (xN e, nm) hn.2⟩)⟩) hx h0 (C.w hl) (va_Nw.use rfl (C.nw.1 _ hcast)) hq hv hcl (k q o M' h hg H locs ls hls hW hS)
/-- a method with handlers of its own -/
def OkH {σ : Type} (l : Launch) (G : WT) (y : MethodName) (cc : ByteArray) (maxL : Nat) (ret : Option FieldType) (hh : List (Nat × Nat × Nat × Nat)) (fr lo mc : Nat) (As : List Value) (vo : σ → Option Value) (M : Mem) (res : Option (Except Nat σ × Mem)) : Prop :=
  ∀ (o : Except Nat σ) (M' : Mem), res = some (o, M') → vx_Met l y (Cond.codeWith y cc maxL ret hh :: tblG) (rmX fr lo mc) (PcX G As M) (QcX G vo o M') (XcX G o M') mc (6 * mc) G.2.2.2.2.1
theorem OkH.of {σ : Type} {l : Launch} {y : MethodName} {cc : ByteArray} {maxL : Nat} {ret : Option FieldType} {hh : List (Nat × Nat × Nat × Nat)} {fr lo mc : Nat} {As : List Value} {vo : σ → Option Value} {M : Mem} {res : Option (Except Nat σ × Mem)} {L : List (Nat × Value)} (own : String) (hown : y.cls = own) (hy : plainName y.cls = true) (hn : (lg_sl As).length ≤ maxL) (hL : lv_args 0 As = L) (hT : l.stackTraces = false)
    (body : ∀ K : KT, K.2.1 = l → K.2.2.2.1 = rmX fr lo mc → Cy0 K → K.2.2.2.2.2.2.2.2.2.exceptionTable.toList = tableOf hh → Cx K G own cc maxL ret → Run K G maxL 0 0 (FinX K G vo mc (6 * mc)) 0 L [] M res) : OkH l G y cc maxL ret hh fr lo mc As vo M res := by
  intro o M' hr
  refine vx_ofWH (cc := cc) (maxL := maxL) (ret := ret) (hh := hh) hy rfl ?_
  intro p e s m args below meth c s₁ B hml hv
  obtain ⟨⟨rfl, hW, hWs⟩, hD⟩ := hv
  have hts := atoms_spec (ws := Cond.codeWith y cc maxL ret hh :: tblG) B.pre
  have htab := vx_table (x := y) B (hts _ List.mem_cons_self)
  have hl := lv_entry As (n := maxL) hn
  rw [lg_entry_eq]
  rw [hL] at hl
  subst hown
  exact body (p, l, e, rmX fr lo mc, s, m, As.toArray, below, meth, c) rfl rfl ⟨hT, hD⟩ htab ⟨B.exec, B.bytes, hml, findClass_of_methodNamed B.named, fun w hw => hts w (List.mem_cons_of_mem _ hw), hWs, B.notSynchronized, B.returns⟩ o M' hr trivial s.heap [] _ hl hW va_S.rf
theorem r_wVV {y : MethodName} {bytes : ByteArray} {maxL fr lo index n : Nat} {ret' : Option FieldType} {As : List Value} {stk : List Value} {b : Addr} {res : Option (Unit × Mem)} {f : Unit → Mem → Option (ρ × Mem)} (C : Cx K G own cc nL ret) (hR : Rx K cs sl 0 0 fr (8 + (maxL + 11) + lo)) (hM : Okm K.2.1 G y bytes maxL ret' fr lo (.ref b :: As) voV M res) (hrc : Rc K G y.cls b) (hl : Cond.methodLink own index y ∈ tblG) (cv : CV y bytes maxL ret' n) (hn : As.length = n) (hst : stk = As.reverse ++ .ref b :: st) (h8 : (st.map fun v => v.category).sum ≤ 8) (d : decode cc pc = .ok (.invokevirtual index, 3)) (kk : ∀ (o : Unit) (M1 : Mem), Run K G nL cs sl Fn (pc + 3) L st M1 (f o M1)) : Run K G nL cs sl Fn pc L stk M (bnd res f) := r_wV C hR hM hrc hl cv hn hst h8 d kk
theorem r_xVV {y : MethodName} {bytes : ByteArray} {maxL fr lo mc index n : Nat} {ret' : Option FieldType} {As : List Value} {stk : List Value} {b : Addr} {res : Option (Except Nat Unit × Mem)} {f : Unit → Mem → Option (ρ × Mem)} {g : Nat → Mem → Option (ρ × Mem)} (C : Cx K G own cc nL ret) (Y : Cy0 K) (hR : Rx K cs sl mc (6 * mc) fr (8 + (maxL + 11) + lo)) (hM : OkX K.2.1 G y bytes maxL ret' fr lo mc (.ref b :: As) voV M res) (hrc : Rc K G y.cls b) (hl : Cond.methodLink own index y ∈ tblG) (cv : CV y bytes maxL ret' n) (hn : As.length = n) (hst : stk = As.reverse ++ .ref b :: st) (h8 : (st.map fun v => v.category).sum ≤ 8) (d : decode cc pc = .ok (.invokevirtual index, 3)) (kk : ∀ (o : Unit) (M1 : Mem), Run K G nL (cs + mc) (sl + 6 * mc) Fn (pc + 3) L st M1 (f o M1)) (kx : ∀ (e : Nat) (M1 : Mem), RunT K G nL (cs + mc) (sl + 6 * mc) Fn pc L e M1 (g e M1)) : Run K G nL cs sl Fn pc L stk M (bndc res f g) := r_xV C Y hR hM hrc hl cv hn hst h8 d kk kx
theorem r_wSV {y : MethodName} {bytes : ByteArray} {maxL fr lo index n : Nat} {ret' : Option FieldType} {As : List Value} {stk : List Value} {res : Option (Unit × Mem)} {f : Unit → Mem → Option (ρ × Mem)} (C : Cx K G own cc nL ret) (hR : Rx K cs sl 0 0 fr (8 + (maxL + 11) + lo)) (hM : Okm K.2.1 G y bytes maxL ret' fr lo As voV M res) (hl : Cond.methodLink own index y ∈ tblG) (cv : CS y bytes maxL ret' n) (hn : As.length = n) (hst : stk = As.reverse ++ st) (h8 : (st.map fun v => v.category).sum ≤ 8) (d : decode cc pc = .ok (.invokestatic index, 3)) (kk : ∀ (o : Unit) (M1 : Mem), Run K G nL cs sl Fn (pc + 3) L st M1 (f o M1)) : Run K G nL cs sl Fn pc L stk M (bnd res f) := r_wS C hR hM hl cv hn hst h8 d kk
theorem r_xSV {y : MethodName} {bytes : ByteArray} {maxL fr lo mc index n : Nat} {ret' : Option FieldType} {As : List Value} {stk : List Value} {res : Option (Except Nat Unit × Mem)} {f : Unit → Mem → Option (ρ × Mem)} {g : Nat → Mem → Option (ρ × Mem)} (C : Cx K G own cc nL ret) (Y : Cy0 K) (hR : Rx K cs sl mc (6 * mc) fr (8 + (maxL + 11) + lo)) (hM : OkX K.2.1 G y bytes maxL ret' fr lo mc As voV M res) (hl : Cond.methodLink own index y ∈ tblG) (cv : CS y bytes maxL ret' n) (hn : As.length = n) (hst : stk = As.reverse ++ st) (h8 : (st.map fun v => v.category).sum ≤ 8) (d : decode cc pc = .ok (.invokestatic index, 3)) (kk : ∀ (o : Unit) (M1 : Mem), Run K G nL (cs + mc) (sl + 6 * mc) Fn (pc + 3) L st M1 (f o M1)) (kx : ∀ (e : Nat) (M1 : Mem), RunT K G nL (cs + mc) (sl + 6 * mc) Fn pc L e M1 (g e M1)) : Run K G nL cs sl Fn pc L stk M (bndc res f g) := r_xS C Y hR hM hl cv hn hst h8 d kk kx
theorem r_wVI {y : MethodName} {bytes : ByteArray} {maxL fr lo index n : Nat} {ret' : Option FieldType} {As : List Value} {stk : List Value} {b : Addr} {res : Option (Int32 × Mem)} {f : Int32 → Mem → Option (ρ × Mem)} (C : Cx K G own cc nL ret) (hR : Rx K cs sl 0 0 fr (8 + (maxL + 11) + lo)) (hM : Okm K.2.1 G y bytes maxL ret' fr lo (.ref b :: As) voI M res) (hrc : Rc K G y.cls b) (hl : Cond.methodLink own index y ∈ tblG) (cv : CV y bytes maxL ret' n) (hn : As.length = n) (hst : stk = As.reverse ++ .ref b :: st) (h8 : (st.map fun v => v.category).sum ≤ 8) (d : decode cc pc = .ok (.invokevirtual index, 3)) (kk : ∀ (o : Int32) (M1 : Mem), Run K G nL cs sl Fn (pc + 3) L (.int o :: st) M1 (f o M1)) : Run K G nL cs sl Fn pc L stk M (bnd res f) := r_wV C hR hM hrc hl cv hn hst h8 d kk
theorem r_xVI {y : MethodName} {bytes : ByteArray} {maxL fr lo mc index n : Nat} {ret' : Option FieldType} {As : List Value} {stk : List Value} {b : Addr} {res : Option (Except Nat Int32 × Mem)} {f : Int32 → Mem → Option (ρ × Mem)} {g : Nat → Mem → Option (ρ × Mem)} (C : Cx K G own cc nL ret) (Y : Cy0 K) (hR : Rx K cs sl mc (6 * mc) fr (8 + (maxL + 11) + lo)) (hM : OkX K.2.1 G y bytes maxL ret' fr lo mc (.ref b :: As) voI M res) (hrc : Rc K G y.cls b) (hl : Cond.methodLink own index y ∈ tblG) (cv : CV y bytes maxL ret' n) (hn : As.length = n) (hst : stk = As.reverse ++ .ref b :: st) (h8 : (st.map fun v => v.category).sum ≤ 8) (d : decode cc pc = .ok (.invokevirtual index, 3)) (kk : ∀ (o : Int32) (M1 : Mem), Run K G nL (cs + mc) (sl + 6 * mc) Fn (pc + 3) L (.int o :: st) M1 (f o M1)) (kx : ∀ (e : Nat) (M1 : Mem), RunT K G nL (cs + mc) (sl + 6 * mc) Fn pc L e M1 (g e M1)) : Run K G nL cs sl Fn pc L stk M (bndc res f g) := r_xV C Y hR hM hrc hl cv hn hst h8 d kk kx
theorem r_wSI {y : MethodName} {bytes : ByteArray} {maxL fr lo index n : Nat} {ret' : Option FieldType} {As : List Value} {stk : List Value} {res : Option (Int32 × Mem)} {f : Int32 → Mem → Option (ρ × Mem)} (C : Cx K G own cc nL ret) (hR : Rx K cs sl 0 0 fr (8 + (maxL + 11) + lo)) (hM : Okm K.2.1 G y bytes maxL ret' fr lo As voI M res) (hl : Cond.methodLink own index y ∈ tblG) (cv : CS y bytes maxL ret' n) (hn : As.length = n) (hst : stk = As.reverse ++ st) (h8 : (st.map fun v => v.category).sum ≤ 8) (d : decode cc pc = .ok (.invokestatic index, 3)) (kk : ∀ (o : Int32) (M1 : Mem), Run K G nL cs sl Fn (pc + 3) L (.int o :: st) M1 (f o M1)) : Run K G nL cs sl Fn pc L stk M (bnd res f) := r_wS C hR hM hl cv hn hst h8 d kk
theorem r_xSI {y : MethodName} {bytes : ByteArray} {maxL fr lo mc index n : Nat} {ret' : Option FieldType} {As : List Value} {stk : List Value} {res : Option (Except Nat Int32 × Mem)} {f : Int32 → Mem → Option (ρ × Mem)} {g : Nat → Mem → Option (ρ × Mem)} (C : Cx K G own cc nL ret) (Y : Cy0 K) (hR : Rx K cs sl mc (6 * mc) fr (8 + (maxL + 11) + lo)) (hM : OkX K.2.1 G y bytes maxL ret' fr lo mc As voI M res) (hl : Cond.methodLink own index y ∈ tblG) (cv : CS y bytes maxL ret' n) (hn : As.length = n) (hst : stk = As.reverse ++ st) (h8 : (st.map fun v => v.category).sum ≤ 8) (d : decode cc pc = .ok (.invokestatic index, 3)) (kk : ∀ (o : Int32) (M1 : Mem), Run K G nL (cs + mc) (sl + 6 * mc) Fn (pc + 3) L (.int o :: st) M1 (f o M1)) (kx : ∀ (e : Nat) (M1 : Mem), RunT K G nL (cs + mc) (sl + 6 * mc) Fn pc L e M1 (g e M1)) : Run K G nL cs sl Fn pc L stk M (bndc res f g) := r_xS C Y hR hM hl cv hn hst h8 d kk kx
theorem r_wVJ {y : MethodName} {bytes : ByteArray} {maxL fr lo index n : Nat} {ret' : Option FieldType} {As : List Value} {stk : List Value} {b : Addr} {res : Option (Int64 × Mem)} {f : Int64 → Mem → Option (ρ × Mem)} (C : Cx K G own cc nL ret) (hR : Rx K cs sl 0 0 fr (8 + (maxL + 11) + lo)) (hM : Okm K.2.1 G y bytes maxL ret' fr lo (.ref b :: As) voL M res) (hrc : Rc K G y.cls b) (hl : Cond.methodLink own index y ∈ tblG) (cv : CV y bytes maxL ret' n) (hn : As.length = n) (hst : stk = As.reverse ++ .ref b :: st) (h8 : (st.map fun v => v.category).sum ≤ 8) (d : decode cc pc = .ok (.invokevirtual index, 3)) (kk : ∀ (o : Int64) (M1 : Mem), Run K G nL cs sl Fn (pc + 3) L (.long o :: st) M1 (f o M1)) : Run K G nL cs sl Fn pc L stk M (bnd res f) := r_wV C hR hM hrc hl cv hn hst h8 d kk
theorem r_xVJ {y : MethodName} {bytes : ByteArray} {maxL fr lo mc index n : Nat} {ret' : Option FieldType} {As : List Value} {stk : List Value} {b : Addr} {res : Option (Except Nat Int64 × Mem)} {f : Int64 → Mem → Option (ρ × Mem)} {g : Nat → Mem → Option (ρ × Mem)} (C : Cx K G own cc nL ret) (Y : Cy0 K) (hR : Rx K cs sl mc (6 * mc) fr (8 + (maxL + 11) + lo)) (hM : OkX K.2.1 G y bytes maxL ret' fr lo mc (.ref b :: As) voL M res) (hrc : Rc K G y.cls b) (hl : Cond.methodLink own index y ∈ tblG) (cv : CV y bytes maxL ret' n) (hn : As.length = n) (hst : stk = As.reverse ++ .ref b :: st) (h8 : (st.map fun v => v.category).sum ≤ 8) (d : decode cc pc = .ok (.invokevirtual index, 3)) (kk : ∀ (o : Int64) (M1 : Mem), Run K G nL (cs + mc) (sl + 6 * mc) Fn (pc + 3) L (.long o :: st) M1 (f o M1)) (kx : ∀ (e : Nat) (M1 : Mem), RunT K G nL (cs + mc) (sl + 6 * mc) Fn pc L e M1 (g e M1)) : Run K G nL cs sl Fn pc L stk M (bndc res f g) := r_xV C Y hR hM hrc hl cv hn hst h8 d kk kx
theorem r_wSJ {y : MethodName} {bytes : ByteArray} {maxL fr lo index n : Nat} {ret' : Option FieldType} {As : List Value} {stk : List Value} {res : Option (Int64 × Mem)} {f : Int64 → Mem → Option (ρ × Mem)} (C : Cx K G own cc nL ret) (hR : Rx K cs sl 0 0 fr (8 + (maxL + 11) + lo)) (hM : Okm K.2.1 G y bytes maxL ret' fr lo As voL M res) (hl : Cond.methodLink own index y ∈ tblG) (cv : CS y bytes maxL ret' n) (hn : As.length = n) (hst : stk = As.reverse ++ st) (h8 : (st.map fun v => v.category).sum ≤ 8) (d : decode cc pc = .ok (.invokestatic index, 3)) (kk : ∀ (o : Int64) (M1 : Mem), Run K G nL cs sl Fn (pc + 3) L (.long o :: st) M1 (f o M1)) : Run K G nL cs sl Fn pc L stk M (bnd res f) := r_wS C hR hM hl cv hn hst h8 d kk
theorem r_xSJ {y : MethodName} {bytes : ByteArray} {maxL fr lo mc index n : Nat} {ret' : Option FieldType} {As : List Value} {stk : List Value} {res : Option (Except Nat Int64 × Mem)} {f : Int64 → Mem → Option (ρ × Mem)} {g : Nat → Mem → Option (ρ × Mem)} (C : Cx K G own cc nL ret) (Y : Cy0 K) (hR : Rx K cs sl mc (6 * mc) fr (8 + (maxL + 11) + lo)) (hM : OkX K.2.1 G y bytes maxL ret' fr lo mc As voL M res) (hl : Cond.methodLink own index y ∈ tblG) (cv : CS y bytes maxL ret' n) (hn : As.length = n) (hst : stk = As.reverse ++ st) (h8 : (st.map fun v => v.category).sum ≤ 8) (d : decode cc pc = .ok (.invokestatic index, 3)) (kk : ∀ (o : Int64) (M1 : Mem), Run K G nL (cs + mc) (sl + 6 * mc) Fn (pc + 3) L (.long o :: st) M1 (f o M1)) (kx : ∀ (e : Nat) (M1 : Mem), RunT K G nL (cs + mc) (sl + 6 * mc) Fn pc L e M1 (g e M1)) : Run K G nL cs sl Fn pc L stk M (bndc res f g) := r_xS C Y hR hM hl cv hn hst h8 d kk kx
theorem r_wVF {y : MethodName} {bytes : ByteArray} {maxL fr lo index n : Nat} {ret' : Option FieldType} {As : List Value} {stk : List Value} {b : Addr} {res : Option (UInt32 × Mem)} {f : UInt32 → Mem → Option (ρ × Mem)} (C : Cx K G own cc nL ret) (hR : Rx K cs sl 0 0 fr (8 + (maxL + 11) + lo)) (hM : Okm K.2.1 G y bytes maxL ret' fr lo (.ref b :: As) voF M res) (hrc : Rc K G y.cls b) (hl : Cond.methodLink own index y ∈ tblG) (cv : CV y bytes maxL ret' n) (hn : As.length = n) (hst : stk = As.reverse ++ .ref b :: st) (h8 : (st.map fun v => v.category).sum ≤ 8) (d : decode cc pc = .ok (.invokevirtual index, 3)) (kk : ∀ (o : UInt32) (M1 : Mem), Run K G nL cs sl Fn (pc + 3) L (.float o :: st) M1 (f o M1)) : Run K G nL cs sl Fn pc L stk M (bnd res f) := r_wV C hR hM hrc hl cv hn hst h8 d kk
theorem r_xVF {y : MethodName} {bytes : ByteArray} {maxL fr lo mc index n : Nat} {ret' : Option FieldType} {As : List Value} {stk : List Value} {b : Addr} {res : Option (Except Nat UInt32 × Mem)} {f : UInt32 → Mem → Option (ρ × Mem)} {g : Nat → Mem → Option (ρ × Mem)} (C : Cx K G own cc nL ret) (Y : Cy0 K) (hR : Rx K cs sl mc (6 * mc) fr (8 + (maxL + 11) + lo)) (hM : OkX K.2.1 G y bytes maxL ret' fr lo mc (.ref b :: As) voF M res) (hrc : Rc K G y.cls b) (hl : Cond.methodLink own index y ∈ tblG) (cv : CV y bytes maxL ret' n) (hn : As.length = n) (hst : stk = As.reverse ++ .ref b :: st) (h8 : (st.map fun v => v.category).sum ≤ 8) (d : decode cc pc = .ok (.invokevirtual index, 3)) (kk : ∀ (o : UInt32) (M1 : Mem), Run K G nL (cs + mc) (sl + 6 * mc) Fn (pc + 3) L (.float o :: st) M1 (f o M1)) (kx : ∀ (e : Nat) (M1 : Mem), RunT K G nL (cs + mc) (sl + 6 * mc) Fn pc L e M1 (g e M1)) : Run K G nL cs sl Fn pc L stk M (bndc res f g) := r_xV C Y hR hM hrc hl cv hn hst h8 d kk kx
theorem r_wSF {y : MethodName} {bytes : ByteArray} {maxL fr lo index n : Nat} {ret' : Option FieldType} {As : List Value} {stk : List Value} {res : Option (UInt32 × Mem)} {f : UInt32 → Mem → Option (ρ × Mem)} (C : Cx K G own cc nL ret) (hR : Rx K cs sl 0 0 fr (8 + (maxL + 11) + lo)) (hM : Okm K.2.1 G y bytes maxL ret' fr lo As voF M res) (hl : Cond.methodLink own index y ∈ tblG) (cv : CS y bytes maxL ret' n) (hn : As.length = n) (hst : stk = As.reverse ++ st) (h8 : (st.map fun v => v.category).sum ≤ 8) (d : decode cc pc = .ok (.invokestatic index, 3)) (kk : ∀ (o : UInt32) (M1 : Mem), Run K G nL cs sl Fn (pc + 3) L (.float o :: st) M1 (f o M1)) : Run K G nL cs sl Fn pc L stk M (bnd res f) := r_wS C hR hM hl cv hn hst h8 d kk
theorem r_xSF {y : MethodName} {bytes : ByteArray} {maxL fr lo mc index n : Nat} {ret' : Option FieldType} {As : List Value} {stk : List Value} {res : Option (Except Nat UInt32 × Mem)} {f : UInt32 → Mem → Option (ρ × Mem)} {g : Nat → Mem → Option (ρ × Mem)} (C : Cx K G own cc nL ret) (Y : Cy0 K) (hR : Rx K cs sl mc (6 * mc) fr (8 + (maxL + 11) + lo)) (hM : OkX K.2.1 G y bytes maxL ret' fr lo mc As voF M res) (hl : Cond.methodLink own index y ∈ tblG) (cv : CS y bytes maxL ret' n) (hn : As.length = n) (hst : stk = As.reverse ++ st) (h8 : (st.map fun v => v.category).sum ≤ 8) (d : decode cc pc = .ok (.invokestatic index, 3)) (kk : ∀ (o : UInt32) (M1 : Mem), Run K G nL (cs + mc) (sl + 6 * mc) Fn (pc + 3) L (.float o :: st) M1 (f o M1)) (kx : ∀ (e : Nat) (M1 : Mem), RunT K G nL (cs + mc) (sl + 6 * mc) Fn pc L e M1 (g e M1)) : Run K G nL cs sl Fn pc L stk M (bndc res f g) := r_xS C Y hR hM hl cv hn hst h8 d kk kx
theorem r_wVD {y : MethodName} {bytes : ByteArray} {maxL fr lo index n : Nat} {ret' : Option FieldType} {As : List Value} {stk : List Value} {b : Addr} {res : Option (UInt64 × Mem)} {f : UInt64 → Mem → Option (ρ × Mem)} (C : Cx K G own cc nL ret) (hR : Rx K cs sl 0 0 fr (8 + (maxL + 11) + lo)) (hM : Okm K.2.1 G y bytes maxL ret' fr lo (.ref b :: As) voD M res) (hrc : Rc K G y.cls b) (hl : Cond.methodLink own index y ∈ tblG) (cv : CV y bytes maxL ret' n) (hn : As.length = n) (hst : stk = As.reverse ++ .ref b :: st) (h8 : (st.map fun v => v.category).sum ≤ 8) (d : decode cc pc = .ok (.invokevirtual index, 3)) (kk : ∀ (o : UInt64) (M1 : Mem), Run K G nL cs sl Fn (pc + 3) L (.double o :: st) M1 (f o M1)) : Run K G nL cs sl Fn pc L stk M (bnd res f) := r_wV C hR hM hrc hl cv hn hst h8 d kk
theorem r_xVD {y : MethodName} {bytes : ByteArray} {maxL fr lo mc index n : Nat} {ret' : Option FieldType} {As : List Value} {stk : List Value} {b : Addr} {res : Option (Except Nat UInt64 × Mem)} {f : UInt64 → Mem → Option (ρ × Mem)} {g : Nat → Mem → Option (ρ × Mem)} (C : Cx K G own cc nL ret) (Y : Cy0 K) (hR : Rx K cs sl mc (6 * mc) fr (8 + (maxL + 11) + lo)) (hM : OkX K.2.1 G y bytes maxL ret' fr lo mc (.ref b :: As) voD M res) (hrc : Rc K G y.cls b) (hl : Cond.methodLink own index y ∈ tblG) (cv : CV y bytes maxL ret' n) (hn : As.length = n) (hst : stk = As.reverse ++ .ref b :: st) (h8 : (st.map fun v => v.category).sum ≤ 8) (d : decode cc pc = .ok (.invokevirtual index, 3)) (kk : ∀ (o : UInt64) (M1 : Mem), Run K G nL (cs + mc) (sl + 6 * mc) Fn (pc + 3) L (.double o :: st) M1 (f o M1)) (kx : ∀ (e : Nat) (M1 : Mem), RunT K G nL (cs + mc) (sl + 6 * mc) Fn pc L e M1 (g e M1)) : Run K G nL cs sl Fn pc L stk M (bndc res f g) := r_xV C Y hR hM hrc hl cv hn hst h8 d kk kx
theorem r_wSD {y : MethodName} {bytes : ByteArray} {maxL fr lo index n : Nat} {ret' : Option FieldType} {As : List Value} {stk : List Value} {res : Option (UInt64 × Mem)} {f : UInt64 → Mem → Option (ρ × Mem)} (C : Cx K G own cc nL ret) (hR : Rx K cs sl 0 0 fr (8 + (maxL + 11) + lo)) (hM : Okm K.2.1 G y bytes maxL ret' fr lo As voD M res) (hl : Cond.methodLink own index y ∈ tblG) (cv : CS y bytes maxL ret' n) (hn : As.length = n) (hst : stk = As.reverse ++ st) (h8 : (st.map fun v => v.category).sum ≤ 8) (d : decode cc pc = .ok (.invokestatic index, 3)) (kk : ∀ (o : UInt64) (M1 : Mem), Run K G nL cs sl Fn (pc + 3) L (.double o :: st) M1 (f o M1)) : Run K G nL cs sl Fn pc L stk M (bnd res f) := r_wS C hR hM hl cv hn hst h8 d kk
theorem r_xSD {y : MethodName} {bytes : ByteArray} {maxL fr lo mc index n : Nat} {ret' : Option FieldType} {As : List Value} {stk : List Value} {res : Option (Except Nat UInt64 × Mem)} {f : UInt64 → Mem → Option (ρ × Mem)} {g : Nat → Mem → Option (ρ × Mem)} (C : Cx K G own cc nL ret) (Y : Cy0 K) (hR : Rx K cs sl mc (6 * mc) fr (8 + (maxL + 11) + lo)) (hM : OkX K.2.1 G y bytes maxL ret' fr lo mc As voD M res) (hl : Cond.methodLink own index y ∈ tblG) (cv : CS y bytes maxL ret' n) (hn : As.length = n) (hst : stk = As.reverse ++ st) (h8 : (st.map fun v => v.category).sum ≤ 8) (d : decode cc pc = .ok (.invokestatic index, 3)) (kk : ∀ (o : UInt64) (M1 : Mem), Run K G nL (cs + mc) (sl + 6 * mc) Fn (pc + 3) L (.double o :: st) M1 (f o M1)) (kx : ∀ (e : Nat) (M1 : Mem), RunT K G nL (cs + mc) (sl + 6 * mc) Fn pc L e M1 (g e M1)) : Run K G nL cs sl Fn pc L stk M (bndc res f g) := r_xS C Y hR hM hl cv hn hst h8 d kk kx
theorem r_wVR {y : MethodName} {bytes : ByteArray} {maxL fr lo index n : Nat} {ret' : Option FieldType} {As : List Value} {stk : List Value} {b : Addr} {res : Option ((Nat × Nat) × Mem)} {f : (Nat × Nat) → Mem → Option (ρ × Mem)} (C : Cx K G own cc nL ret) (hR : Rx K cs sl 0 0 fr (8 + (maxL + 11) + lo)) (hM : Okm K.2.1 G y bytes maxL ret' fr lo (.ref b :: As) (voR G 5) M res) (hrc : Rc K G y.cls b) (hl : Cond.methodLink own index y ∈ tblG) (cv : CV y bytes maxL ret' n) (hn : As.length = n) (hst : stk = As.reverse ++ .ref b :: st) (h8 : (st.map fun v => v.category).sum ≤ 8) (d : decode cc pc = .ok (.invokevirtual index, 3)) (kk : ∀ (o : (Nat × Nat)) (M1 : Mem), Run K G nL cs sl Fn (pc + 3) L (.ref (G.1 5 o.1 o.2) :: st) M1 (f o M1)) : Run K G nL cs sl Fn pc L stk M (bnd res f) := r_wV C hR hM hrc hl cv hn hst h8 d kk
theorem r_xVR {y : MethodName} {bytes : ByteArray} {maxL fr lo mc index n : Nat} {ret' : Option FieldType} {As : List Value} {stk : List Value} {b : Addr} {res : Option (Except Nat (Nat × Nat) × Mem)} {f : (Nat × Nat) → Mem → Option (ρ × Mem)} {g : Nat → Mem → Option (ρ × Mem)} (C : Cx K G own cc nL ret) (Y : Cy0 K) (hR : Rx K cs sl mc (6 * mc) fr (8 + (maxL + 11) + lo)) (hM : OkX K.2.1 G y bytes maxL ret' fr lo mc (.ref b :: As) (voR G 5) M res) (hrc : Rc K G y.cls b) (hl : Cond.methodLink own index y ∈ tblG) (cv : CV y bytes maxL ret' n) (hn : As.length = n) (hst : stk = As.reverse ++ .ref b :: st) (h8 : (st.map fun v => v.category).sum ≤ 8) (d : decode cc pc = .ok (.invokevirtual index, 3)) (kk : ∀ (o : (Nat × Nat)) (M1 : Mem), Run K G nL (cs + mc) (sl + 6 * mc) Fn (pc + 3) L (.ref (G.1 5 o.1 o.2) :: st) M1 (f o M1)) (kx : ∀ (e : Nat) (M1 : Mem), RunT K G nL (cs + mc) (sl + 6 * mc) Fn pc L e M1 (g e M1)) : Run K G nL cs sl Fn pc L stk M (bndc res f g) := r_xV C Y hR hM hrc hl cv hn hst h8 d kk kx
theorem r_wSR {y : MethodName} {bytes : ByteArray} {maxL fr lo index n : Nat} {ret' : Option FieldType} {As : List Value} {stk : List Value} {res : Option ((Nat × Nat) × Mem)} {f : (Nat × Nat) → Mem → Option (ρ × Mem)} (C : Cx K G own cc nL ret) (hR : Rx K cs sl 0 0 fr (8 + (maxL + 11) + lo)) (hM : Okm K.2.1 G y bytes maxL ret' fr lo As (voR G 5) M res) (hl : Cond.methodLink own index y ∈ tblG) (cv : CS y bytes maxL ret' n) (hn : As.length = n) (hst : stk = As.reverse ++ st) (h8 : (st.map fun v => v.category).sum ≤ 8) (d : decode cc pc = .ok (.invokestatic index, 3)) (kk : ∀ (o : (Nat × Nat)) (M1 : Mem), Run K G nL cs sl Fn (pc + 3) L (.ref (G.1 5 o.1 o.2) :: st) M1 (f o M1)) : Run K G nL cs sl Fn pc L stk M (bnd res f) := r_wS C hR hM hl cv hn hst h8 d kk
theorem r_xSR {y : MethodName} {bytes : ByteArray} {maxL fr lo mc index n : Nat} {ret' : Option FieldType} {As : List Value} {stk : List Value} {res : Option (Except Nat (Nat × Nat) × Mem)} {f : (Nat × Nat) → Mem → Option (ρ × Mem)} {g : Nat → Mem → Option (ρ × Mem)} (C : Cx K G own cc nL ret) (Y : Cy0 K) (hR : Rx K cs sl mc (6 * mc) fr (8 + (maxL + 11) + lo)) (hM : OkX K.2.1 G y bytes maxL ret' fr lo mc As (voR G 5) M res) (hl : Cond.methodLink own index y ∈ tblG) (cv : CS y bytes maxL ret' n) (hn : As.length = n) (hst : stk = As.reverse ++ st) (h8 : (st.map fun v => v.category).sum ≤ 8) (d : decode cc pc = .ok (.invokestatic index, 3)) (kk : ∀ (o : (Nat × Nat)) (M1 : Mem), Run K G nL (cs + mc) (sl + 6 * mc) Fn (pc + 3) L (.ref (G.1 5 o.1 o.2) :: st) M1 (f o M1)) (kx : ∀ (e : Nat) (M1 : Mem), RunT K G nL (cs + mc) (sl + 6 * mc) Fn pc L e M1 (g e M1)) : Run K G nL cs sl Fn pc L stk M (bndc res f g) := r_xS C Y hR hM hl cv hn hst h8 d kk kx
theorem Rx.of {fr0 lo0 mc0 mc ms fr lo : Nat} (hRm : K.2.2.2.1 = rmX fr0 lo0 mc0) (h : Nat.ble (cs + mc) mc0 = true) (h2 : Nat.ble (sl + ms) (6 * mc0) = true) (h3 : Nat.ble (fr + 1) fr0 = true) (h4 : Nat.ble lo lo0 = true) : Rx K cs sl mc ms fr lo := by
  refine ⟨?_, ?_, ?_, ?_⟩ <;> rw [hRm]
  · exact Nat.le_of_ble_eq_true h
  · exact Nat.le_of_ble_eq_true h2
  · exact Nat.le_of_ble_eq_true h3
  · exact Nat.le_of_ble_eq_true h4
theorem t_catch0 {e e0 : Nat} {name : String} {hpc : Nat} {x : ExceptionTableEntry} {suf : List ExceptionTableEntry} (C : Cx K G own cc nL ret) (he : e = e0) (hn : xN e0 = name) (hsplit : K.2.2.2.2.2.2.2.2.2.exceptionTable.toList = x :: suf)
    (hx : covers x pc = true) (h0 : x.catchType ≠ 0) (hl : Cond.classLink own x.catchType name ∈ tblG) (hcast : Cond.castable name name ∈ NwL) (hh : x.handlerPc = hpc) (k : ∀ q : Nat, Run K G nL cs sl Fn hpc L [.ref q] M r) : RunT K G nL cs sl Fn pc L e M r := t_catch C he hn [] x suf hsplit (fun _ h => nomatch h) hx h0 hl hcast hh k
theorem t_catch1 {e e0 : Nat} {name n1 : String} {hpc : Nat} {z x : ExceptionTableEntry} {suf : List ExceptionTableEntry} (C : Cx K G own cc nL ret) (he : e = e0) (hn : xN e0 = name) (hsplit : K.2.2.2.2.2.2.2.2.2.exceptionTable.toList = z :: x :: suf)
    (a1 : Cond.classLink own z.catchType n1 ∈ tblG) (a2 : z.catchType ≠ 0) (a3 : (name, n1) ∈ NwC) (hx : covers x pc = true) (h0 : x.catchType ≠ 0) (hl : Cond.classLink own x.catchType name ∈ tblG) (hcast : Cond.castable name name ∈ NwL) (hh : x.handlerPc = hpc) (k : ∀ q : Nat, Run K G nL cs sl Fn hpc L [.ref q] M r) : RunT K G nL cs sl Fn pc L e M r :=
  t_catch C he hn [z] x suf hsplit (fun w h => by rcases List.mem_singleton.mp h with rfl; exact ⟨a2, n1, a1, a3⟩) hx h0 hl hcast hh k
theorem t_catch2 {e e0 : Nat} {name n1 n2 : String} {hpc : Nat} {z z2 x : ExceptionTableEntry} {suf : List ExceptionTableEntry} (C : Cx K G own cc nL ret) (he : e = e0) (hn : xN e0 = name) (hsplit : K.2.2.2.2.2.2.2.2.2.exceptionTable.toList = z :: z2 :: x :: suf)
    (a1 : Cond.classLink own z.catchType n1 ∈ tblG) (a2 : z.catchType ≠ 0) (a3 : (name, n1) ∈ NwC) (b1 : Cond.classLink own z2.catchType n2 ∈ tblG) (b2 : z2.catchType ≠ 0) (b3 : (name, n2) ∈ NwC) (hx : covers x pc = true) (h0 : x.catchType ≠ 0) (hl : Cond.classLink own x.catchType name ∈ tblG) (hcast : Cond.castable name name ∈ NwL) (hh : x.handlerPc = hpc) (k : ∀ q : Nat, Run K G nL cs sl Fn hpc L [.ref q] M r) : RunT K G nL cs sl Fn pc L e M r :=
  t_catch C he hn [z, z2] x suf hsplit (fun w h => by
    rcases List.mem_cons.mp h with rfl | h
    · exact ⟨a2, n1, a1, a3⟩
    · rcases List.mem_singleton.mp h with rfl
      exact ⟨b2, n2, b1, b3⟩) hx h0 hl hcast hh k
end XROWS
theorem mw_16 : (Jvm.Cond.classLink "PermitParkLaw" (11 : Nat) "PermitParkLaw") ∈ tblG := tblG_t (List.mem_of_getElem? (i := 16) (by decide +kernel)) (by decide +kernel)
theorem mw_17 : (Jvm.Cond.instantiable "PermitParkLaw" (3 : Nat)) ∈ tblG := tblG_t (List.mem_of_getElem? (i := 17) (by decide +kernel)) (by decide +kernel)
theorem mw_24 : (Jvm.Cond.classLink "PermitParkLaw" (7 : Nat) "PermitPark") ∈ tblG := tblG_t (List.mem_of_getElem? (i := 24) (by decide +kernel)) (by decide +kernel)
theorem mw_25 : (Jvm.Cond.instantiable "PermitPark" (5 : Nat)) ∈ tblG := tblG_t (List.mem_of_getElem? (i := 25) (by decide +kernel)) (by decide +kernel)
theorem mw_30 : (Jvm.Cond.classLink "PermitPark" (7 : Nat) "PermitPark$SetupText") ∈ tblG := tblG_t (List.mem_of_getElem? (i := 30) (by decide +kernel)) (by decide +kernel)
theorem mw_31 : (Jvm.Cond.instantiable "PermitPark$SetupText" (8 : Nat)) ∈ tblG := tblG_t (List.mem_of_getElem? (i := 31) (by decide +kernel)) (by decide +kernel)
theorem mw_56 : (Jvm.Cond.classLink "PermitPark" (16 : Nat) "PermitPark$Machine") ∈ tblG := tblG_t (List.mem_of_getElem? (i := 56) (by decide +kernel)) (by decide +kernel)
theorem mw_57 : (Jvm.Cond.instantiable "PermitPark$Machine" (16 : Nat)) ∈ tblG := tblG_t (List.mem_of_getElem? (i := 57) (by decide +kernel)) (by decide +kernel)
theorem mw_62 : (Jvm.Cond.classLink "PermitPark$Machine" (9 : Nat) "PermitPark$Strand") ∈ tblG := tblG_t (List.mem_of_getElem? (i := 62) (by decide +kernel)) (by decide +kernel)
theorem mw_64 : (Jvm.Cond.classLink "PermitPark$Machine" (17 : Nat) "PermitPark$Locks") ∈ tblG := tblG_t (List.mem_of_getElem? (i := 64) (by decide +kernel)) (by decide +kernel)
theorem mw_65 : (Jvm.Cond.instantiable "PermitPark$Locks" (3 : Nat)) ∈ tblG := tblG_t (List.mem_of_getElem? (i := 65) (by decide +kernel)) (by decide +kernel)
theorem mw_83 : (Jvm.Cond.classLink "PermitPark$Machine" (24 : Nat) "PermitPark$Log") ∈ tblG := tblG_t (List.mem_of_getElem? (i := 83) (by decide +kernel)) (by decide +kernel)
theorem mw_84 : (Jvm.Cond.instantiable "PermitPark$Log" (4 : Nat)) ∈ tblG := tblG_t (List.mem_of_getElem? (i := 84) (by decide +kernel)) (by decide +kernel)
theorem mw_105 : (Jvm.Cond.instantiable "PermitPark$Strand" (18 : Nat)) ∈ tblG := tblG_t (List.mem_of_getElem? (i := 105) (by decide +kernel)) (by decide +kernel)
theorem mw_309 : (Jvm.Cond.classLink "PermitParkLaw" (43 : Nat) "java/lang/IllegalArgumentException") ∈ tblG := tblG_t (List.mem_of_getElem? (i := 309) (by decide +kernel)) (by decide +kernel)
theorem mw_310 : (Jvm.Cond.classLink "PermitParkLaw" (45 : Nat) "java/lang/IllegalStateException") ∈ tblG := tblG_t (List.mem_of_getElem? (i := 310) (by decide +kernel)) (by decide +kernel)
theorem mw_318 : (Jvm.Cond.classLink "PermitPark" (242 : Nat) "java/lang/IllegalArgumentException") ∈ tblG := tblG_t (List.mem_of_getElem? (i := 318) (by decide +kernel)) (by decide +kernel)
theorem mw_319 : (Jvm.Cond.instantiable "java/lang/IllegalArgumentException" (6 : Nat)) ∈ tblG := tblG_t (List.mem_of_getElem? (i := 319) (by decide +kernel)) (by decide +kernel)
theorem mw_357 : (Jvm.Cond.instantiable "java/lang/Throwable" (6 : Nat)) ∈ tblG := tblG_t (List.mem_of_getElem? (i := 357) (by decide +kernel)) (by decide +kernel)
theorem mw_394 : (Jvm.Cond.classLink "PermitPark" (38 : Nat) "java/lang/IllegalStateException") ∈ tblG := tblG_t (List.mem_of_getElem? (i := 394) (by decide +kernel)) (by decide +kernel)
theorem mw_395 : (Jvm.Cond.instantiable "java/lang/IllegalStateException" (6 : Nat)) ∈ tblG := tblG_t (List.mem_of_getElem? (i := 395) (by decide +kernel)) (by decide +kernel)
theorem mw_425 : (Jvm.Cond.classLink "PermitParkLaw" (50 : Nat) "java/lang/IndexOutOfBoundsException") ∈ tblG := tblG_t (List.mem_of_getElem? (i := 425) (by decide +kernel)) (by decide +kernel)
theorem mw_437 : (Jvm.Cond.classLink "PermitPark" (235 : Nat) "java/lang/IndexOutOfBoundsException") ∈ tblG := tblG_t (List.mem_of_getElem? (i := 437) (by decide +kernel)) (by decide +kernel)
theorem mw_438 : (Jvm.Cond.instantiable "java/lang/IndexOutOfBoundsException" (6 : Nat)) ∈ tblG := tblG_t (List.mem_of_getElem? (i := 438) (by decide +kernel)) (by decide +kernel)
theorem tw_1 : TW 1 38 42 := ⟨by decide +kernel, by decide +kernel, mw_394, mw_12, inG_all (by decide +kernel), by decide +kernel, by decide +kernel, by decide +kernel⟩
theorem tw_2 : TW 2 242 246 := ⟨by decide +kernel, by decide +kernel, mw_318, mw_11, inG_all (by decide +kernel), by decide +kernel, by decide +kernel, by decide +kernel⟩
theorem tw_3 : TW 3 235 239 := ⟨by decide +kernel, by decide +kernel, mw_437, mw_13, inG_all (by decide +kernel), by decide +kernel, by decide +kernel, by decide +kernel⟩
