/-! THE CLAIM OUT OF ONE WALK OF THE LAW'S BODY. Your part is whole_start (and what it stands on); all else here is the same for every law, but numbers. -/
def R_law : String := "PermitParkLaw"
def lw_P (b : Addr) (xs : List Int32) (args : Array Value) (s : State) : Prop := args = #[.ref b] ∧ s.IntsAt b xs ∧ xs.length ≤ 260 ∧ (Jvm.Cond.and given_1 narrow_1).before args s = true
/-- what a walk over the start with the record d0 says of its end, said of the start itself -/
theorem lw_closed {s t : State} {o : Outcome} {d0 : Drawn} {L : List Loc} {k n : Nat} (hd0 : s.drawn.sameBut d0 lw_cs) (hv : ∃ v, o = .returned v) (hW : (s.setDrawn d0).WarmedH t.vm) (hs : (s.setDrawn d0).sameButNew ({ t with vm := s.vm } : State) L k n) : State.butDraws s t lw_cs (fun t1 => Framed s o t1 L k n) := by
  have h2 : t.drawn = d0 := congrArg State.drawn hs.1
  refine ⟨⟨hv, hW, State.sameButNew.setDrawn hs s.drawn⟩, ?_, by decide⟩
  rw [h2]
  exact hd0
def lw_Q (_ : Array Value) (s : State) (o : Outcome) (t : State) : Prop := o = .returned (some (.int 1)) ∧ State.butDraws s t lw_cs (fun t1 => Framed s o t1 [] 600130 7301080)
def lw_Z (below : List Frame) (a : Array Value) (s : State) : State → Prop := fun t => ∃ o, t.status = .running ∧ Ended t below o ∧ lw_Q a s o t
/-- the law's own end, with 1 on the stack, nothing written that was there before, its room as the claim has it; d0: the record of draws at this point (at the entry s.drawn: begin with 'refine W.base ?_' and 'have hd0 := Drawn.sameBut.refl s.drawn lw_cs') -/
theorem lw_ret {p : Program} {l : Launch} {e : Env} {s : State} {m : MethodId} {below : List Frame} {meth : Method} {c : Code} {b : Nat} {d0 : Drawn} (hd0 : s.drawn.sameBut d0 lw_cs) (hx : p.tables.exec = Jvm.exec) (hb : c.code = code) (hr : meth.sig.returnType = ret) (hlocks : meth.locks = false) {pc : Nat} {H : Heap} {ls : Array Slot} (hdg : decode code pc = .ok (.ireturn, 1)) : W p l e room_1 (s.setDrawn d0) m #[Value.ref b] below meth c H [] 600130 7301080 (lw_Z below #[Value.ref b] s) (F0 m pc ls [.int 1]) := by
  intro T hT X
  obtain ⟨fs, hret, hrun, hended, hW, hframe⟩ := X.leave (v := some (.int 1)) (hlocks := hlocks) (fun h => by rw [hr] at h; cases h)
  have hmeth' : T.vm.method? m = some meth := X.method'
  refine ⟨T.setFrames fs, ?_, .returned (some (.int 1)), hrun, hended, rfl, lw_closed hd0 ⟨_, rfl⟩ hW hframe⟩
  jvm_step X.here [X.here.top, hx, hb, hdg, hmeth', hr, ret, narrow_b1]
  (try refine ⟨rfl, ?_⟩); (try refine ⟨rfl, ?_⟩)
  first | (intro acts; rw [hret _ acts rfl rfl rfl]) | rw [hret _ _ rfl rfl rfl]
  exact Steps.refl _
/-- what holds at the law's entry: the machine, the code, the tables' words (any of lw_tbl by 'hts w (by decide +kernel)'), the script of L ints xs at the cell b, what the Statement gives of the start (any of its parts by flat_of_before) -/
def lw_At (p : Program) (s : State) (m : MethodId) (meth : Method) (c : Code) (b L : Nat) (xs : Nat → Int32) : Prop :=
  p.tables.exec = Jvm.exec ∧ c.code = code ∧ meth.sig.returnType = ret ∧ c.maxLocals = 1 ∧ s.vm.findClass R_law = some m.cls ∧ (∀ w ∈ lw_tbl, w.before #[Value.ref b] s = true) ∧ va_X b L xs s s.heap ∧ b < s.heap.size ∧ meth.locks = false ∧ (Jvm.Cond.and given_1 narrow_1).before #[Value.ref b] s = true

section LAWWALK
variable {K : KT} {G : WT} {cs sl : Nat} {pc : Nat} {L : List (Nat × Value)} {M : Mem} {b : Nat}
def Lx (K : KT) (G : WT) (b : Nat) : Prop := K.2.2.2.1 = room_1 ∧ K.2.2.2.2.2.2.1 = #[Value.ref b] ∧ ∀ q, G.2.2.2.2.1 q → K.2.2.2.2.1.heap.size ≤ q
def FinL (K : KT) (b : Nat) : Int32 → Mem → Prop × (State → Prop) := fun o _ => (o = 1, lw_Z K.2.2.2.2.2.2.2.1 #[Value.ref b] K.2.2.2.2.1)
theorem l_ret {v : Int32} (C : Cx K G "PermitParkLaw" cL_law 1 (some .boolean)) (X : Lx K G b) (hc : cs ≤ 600130) (hs : sl ≤ 7301080) (d : decode cL_law pc = .ok (.ireturn, 1)) : Run K G 1 cs sl (FinL K b) pc L [.int v] M (some (v, M)) := by
  intro o M' h hg H locs ls hl hW hS
  cases h
  have hg : v = 1 := hg
  subst hg
  refine va_forget (fun q hq => X.2.2 _ (hS.2.2 q hq)) ?_
  obtain ⟨pp, l, e, R, s, m, args, below, meth, c⟩ := K
  obtain ⟨hR, hargs, -⟩ := X
  have hR : R = room_1 := hR
  have hargs : args = #[Value.ref b] := hargs
  subst hR
  subst hargs
  intro T hT Xs
  exact lw_ret (s := s) (d0 := s.drawn) (b := b) (below := below) (Drawn.sameBut.refl s.drawn lw_cs) C.1 C.2.1 C.2.2.2.2.2.2.2 C.2.2.2.2.2.2.1 d T hT (stand_widen Xs hc hs)
theorem c_law8 {h0 : Nat} {X : GX} (hb : X.2.2.1 102 = b) (hN : X.2.2.1 103 ≤ 260) (C : Cx K (GN h0 X) "PermitParkLaw" cL_law 1 (some FieldType.boolean)) (Y : Cy0 K) (hX : Lx K (GN h0 X) b) : Rn K (GN h0 X) 1 206 4128 (lw_Z K.2.2.2.2.2.2.2.1 #[Value.ref b] K.2.2.2.2.1) 8 [(0, .ref b)] [.ref b, .ref h0] Mst h0 (h0 + 206) [] := by
  subst hb
  have hr : K.2.2.2.1 = room_1 := hX.1
  obtain ⟨M', e⟩ := law_1 (Z := scr (GN h0 X)) hN
  intro H locs ls hl hS hva
  have run : Run K (GN h0 X) 1 206 4128 (FinL K (X.2.2.1 102)) 8 [(0, .ref (X.2.2.1 102))] [.ref (X.2.2.1 102), .ref h0] Mst (bnd (pL_holds (scr (GN h0 X)) Mst) fun o M1 => some (o, M1)) := by
    refine r_nvI (pc := 8) (mc := 1) C Y ⟨(by rw [hr]; exact Nat.le_of_ble_eq_true rfl), (by rw [hr]; exact Nat.le_of_ble_eq_true rfl), (by rw [hr]; exact Nat.le_of_ble_eq_true rfl), (by rw [hr]; exact Nat.le_of_ble_eq_true rfl)⟩ (okL_holds w0_GN Y.1 Mst (show dmb 19 0 0 = true by decide)) (Rc.of C rfl rfl (show dmb 19 0 0 = true by decide)) mw_283 cvL_holds rfl rfl (Nat.le_of_ble_eq_true rfl) dL_law_8 (fun o M1 => ?_)
    exact l_ret (pc := 11) C hX (Nat.le_of_ble_eq_true rfl) (Nat.le_of_ble_eq_true rfl) dL_law_11
  refine run 1 M' (by rw [e]; rfl) rfl H locs ls hl (fun kd k i hd => ?_) hva
  have hd2 : dmb kd k i = true := hd
  obtain ⟨a1, a2, a3⟩ := dmb_lt hd2
  have h2 := off_lt kd a1 k a2 i a3 hd2
  refine hS.2.2.2 kd k i hd ?_ ?_ (fun r hr => by cases hr)
  · show h0 ≤ h0 + off kd k i
    omega
  · show h0 + off kd k i < h0 + 206
    omega
set_option maxRecDepth 4000 in
theorem c_law0 {h0 : Nat} {X : GX} (hb : X.2.2.1 102 = b) (hN : X.2.2.1 103 ≤ 260) (C : Cx K (GN h0 X) "PermitParkLaw" cL_law 1 (some FieldType.boolean)) (Y : Cy0 K) (hX : Lx K (GN h0 X) b) (hAO : AOs K.2.2.2.2.1) : Rn K (GN h0 X) 1 0 0 (lw_Z K.2.2.2.2.2.2.2.1 #[Value.ref b] K.2.2.2.2.1) 0 [(0, .ref b)] [] Mst h0 h0 [] := by
  have hr : K.2.2.2.1 = room_1 := hX.1
  have hlA : ∀ q, h0 ≤ q → (GN h0 X).2.2.2.2.1 q := fun q hq => hq
  refine c_new (pc := 0) (ci := 6) C wIn_9 tyX9 tyX9_ok mw_16 mw_17 mw_0 rfl (by rw [hr]; exact Nat.le_of_ble_eq_true rfl) (by rw [hr]; exact Nat.le_of_ble_eq_true rfl) dL_law_0 ?_
  refine c_dup (pc := 3) C dL_law_3 rfl ?_
  refine c_init (pc := 4) C hAO (okI_L (X := X) (a := h0) (h0 := h0) rfl (fun k _ => (clr_c k).1)) hlA mw_18 rfl mw_19 mw_0 mw_20 ⟨by decide, by decide, by decide +kernel⟩ ⟨(by rw [hr]; exact Nat.le_of_ble_eq_true rfl), (by rw [hr]; exact Nat.le_of_ble_eq_true rfl), (by rw [hr]; exact Nat.le_of_ble_eq_true rfl), (by rw [hr]; exact Nat.le_of_ble_eq_true rfl)⟩ (Nat.le_of_ble_eq_true rfl) rfl (by omega) (by omega) (fun _ _ _ _ _ _ => ⟨fun _ => rfl, fun _ _ => rfl, fun _ _ => rfl, fun _ _ => rfl⟩) dL_law_4 ?_
  refine c_aload_n (pc := 7) C 0 rfl rfl dL_law_7 ?_
  exact c_law8 hb hN C Y hX
end LAWWALK
/-! ===== the law's start, what the world is being given ===== -/
theorem whole_ws {p : Program} {e : Env} {s : State} {m : MethodId} {below : List Frame} {meth : Method} {c : Code} (l : Launch) {b L : Nat} {xs : Nat → Int32} {X : GX} (hb : X.2.2.1 102 = b) (hN : X.2.2.1 103 ≤ 260) (C0 : lw_At p s m meth c b L xs) (hcode : cL_law = code) (hret : ret = some FieldType.boolean) (htb : ∀ w ∈ tblG, w.before #[Value.ref b] s = true) (hWs : Ws (GN s.heap.size X) s) (hAO : AOs s) (hY : Cy0 (p, l, e, room_1, s, m, #[Value.ref b], below, meth, c)) : W p l e room_1 s m #[Value.ref b] below meth c s.heap [] 0 0 (lw_Z below #[Value.ref b] s) (entryFrame m ([Value.ref b] : List Value).toArray 1) := by
  obtain ⟨a1, a2, a3, a4, a5, a6, a7, a8, a9, a10⟩ := C0
  have hl := lv_entry [Value.ref b] (n := 1) (show 1 ≤ 1 by omega)
  rw [lg_entry_eq]
  refine c_law0 (K := (p, l, e, room_1, s, m, #[Value.ref b], below, meth, c)) (X := X) (h0 := s.heap.size) hb hN ⟨a1, a2.trans hcode.symm, a4, a5, htb, hWs, a9, a3.trans hret⟩ hY ⟨rfl, rfl, fun q hq => hq⟩ hAO s.heap [] _ hl ⟨rfl, fun r hr => (by cases hr), List.nodup_nil, fun kd k i hd h1 h2 _ => ?_⟩ va_S.rf
  exact absurd h2 (by omega)
