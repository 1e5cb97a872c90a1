/-! ===== constructors: cells that are being made ===== -/
section BORN
variable {K : KT} {G : WT} {own : String} {cc : ByteArray} {nL cs sl : Nat} {ret : Option FieldType} {pc : Nat} {L L' : List (Nat × Value)} {st : List Value} {M : Mem} {lo hi : Nat} {Q : State → Prop}
abbrev Dsc : Type := Nat × Nat × Nat × (Nat → Value)
def DH (G : WT) (a : Nat) (d : Dsc) (H : Heap) : Prop := match d.1 with
  | 0 => t_OB a (G.2.1.1 d.2.1) d.2.2.1 (G.2.1.2 d.2.1) H d.2.2.2
  | _ => H[a]? = some (arrV (G.2.2.1 d.2.1) d.2.2.1 d.2.2.2)
theorem DH.kept {a : Nat} {d : Dsc} {H H1 : Heap} (h : DH G a d H) (hq : H1[a]? = H[a]?) : DH G a d H1 := by
  obtain ⟨t, x⟩ := d
  match t with
  | 0 => exact t_OB.kept h hq
  | n + 1 => exact hq.trans h
/-- what is there from lo to hi: rws being made, all else as the memory says -/
def St (G : WT) (M : Mem) (lo hi : Nat) (rws : List (Nat × Dsc)) (H : Heap) : Prop := H.size = hi ∧ (∀ r ∈ rws, r.1 < hi ∧ DH G r.1 r.2 H) ∧ (rws.map fun r => r.1).Nodup ∧ ∀ kd k i, G.2.2.2.1 kd k i → lo ≤ G.1 kd k i → G.1 kd k i < hi → (∀ r ∈ rws, r.1 ≠ G.1 kd k i) → Wc G M H kd k i
def fromA (lo : Nat) : Nat → Prop := fun q => lo ≤ q
def Rn (K : KT) (G : WT) (nL cs sl : Nat) (Q : State → Prop) (pc : Nat) (L : List (Nat × Value)) (st : List Value) (M : Mem) (lo hi : Nat) (rws : List (Nat × Dsc)) : Prop :=
  ∀ (H : Heap) (locs : List Loc) (ls : Array Slot), lv_has ls nL L → St G M lo hi rws H → va_S (fromA lo) K.2.2.2.2.1.heap H locs →
    W K.1 K.2.1 K.2.2.1 K.2.2.2.1 K.2.2.2.2.1 K.2.2.2.2.2.1 K.2.2.2.2.2.2.1 K.2.2.2.2.2.2.2.1 K.2.2.2.2.2.2.2.2.1 K.2.2.2.2.2.2.2.2.2 H locs cs sl Q (F0 K.2.2.2.2.2.1 pc ls st)
variable {rws : List (Nat × Dsc)}
theorem c_iconst (C : Cx K G own cc nL ret) {n : Int} {v : Int32} (d : decode cc pc = .ok (.iconst n, 1)) (hv : Int32.ofInt n = v) (k : Rn K G nL cs sl Q (pc + 1) L (.int v :: st) M lo hi rws) : Rn K G nL cs sl Q pc L st M lo hi rws := fun H locs ls hl hW hS => lv_iconst C.1 C.2.1 d hv (k H locs ls hl hW hS)
theorem c_bipush (C : Cx K G own cc nL ret) {n : Int} {v : Int32} (d : decode cc pc = .ok (.bipush n, 2)) (hv : (Int8.ofInt n).toInt32 = v) (k : Rn K G nL cs sl Q (pc + 2) L (.int v :: st) M lo hi rws) : Rn K G nL cs sl Q pc L st M lo hi rws := fun H locs ls hl hW hS => lv_bipush C.1 C.2.1 d hv (k H locs ls hl hW hS)
theorem c_sipush (C : Cx K G own cc nL ret) {n : Int} {v : Int32} (d : decode cc pc = .ok (.sipush n, 3)) (hv : (Int16.ofInt n).toInt32 = v) (k : Rn K G nL cs sl Q (pc + 3) L (.int v :: st) M lo hi rws) : Rn K G nL cs sl Q pc L st M lo hi rws := fun H locs ls hl hW hS => lv_sipush C.1 C.2.1 d hv (k H locs ls hl hW hS)
theorem c_aload_n (C : Cx K G own cc nL ret) {kk : Fin 4} {i x : Nat} (p : Nat) (hp : L[p]? = some (i, .ref x)) (hi' : (kk : Nat) = i) (d : decode cc pc = .ok (.aload_n kk, 1)) (k : Rn K G nL cs sl Q (pc + 1) L (.ref x :: st) M lo hi rws) : Rn K G nL cs sl Q pc L st M lo hi rws := fun H locs ls hl hW hS => lv_aload_n C.1 C.2.1 d hi' (lv_at hl p hp) (k H locs ls hl hW hS)
theorem c_iload_n (C : Cx K G own cc nL ret) {kk : Fin 4} {i : Nat} {x : Int32} (p : Nat) (hp : L[p]? = some (i, .int x)) (hi' : (kk : Nat) = i) (d : decode cc pc = .ok (.iload_n kk, 1)) (k : Rn K G nL cs sl Q (pc + 1) L (.int x :: st) M lo hi rws) : Rn K G nL cs sl Q pc L st M lo hi rws := fun H locs ls hl hW hS => lv_iload_n C.1 C.2.1 d hi' (lv_at hl p hp) (k H locs ls hl hW hS)
theorem c_istore_n (C : Cx K G own cc nL ret) {kk : Fin 4} {i : Nat} {x : Int32} (L' : List (Nat × Value)) (d : decode cc pc = .ok (.istore_n kk, 1)) (hi' : (kk : Nat) = i) (hn : i < nL) (hf : (i, Value.int x) :: L.filter (fun q => !(q.1 == i) && !(q.1 + 1 == i && q.2.category == 2)) = L') (k : Rn K G nL cs sl Q (pc + 1) L' st M lo hi rws) : Rn K G nL cs sl Q pc L (.int x :: st) M lo hi rws := fun H locs ls hl hW hS => lv_istore_n C.1 C.2.1 d hi' hl hn hf (fun ls' hl' => k H locs ls' hl' hW hS)
theorem c_istore (C : Cx K G own cc nL ret) {i : Nat} {x : Int32} (L' : List (Nat × Value)) (d : decode cc pc = .ok (.istore i, 2)) (hn : i < nL) (hf : (i, Value.int x) :: L.filter (fun q => !(q.1 == i) && !(q.1 + 1 == i && q.2.category == 2)) = L') (k : Rn K G nL cs sl Q (pc + 2) L' st M lo hi rws) : Rn K G nL cs sl Q pc L (.int x :: st) M lo hi rws := fun H locs ls hl hW hS => lv_istore C.1 C.2.1 d hl hn hf (fun ls' hl' => k H locs ls' hl' hW hS)
theorem c_astore_n (C : Cx K G own cc nL ret) {kk : Fin 4} {i x : Nat} (L' : List (Nat × Value)) (d : decode cc pc = .ok (.astore_n kk, 1)) (hi' : (kk : Nat) = i) (hn : i < nL) (hf : (i, Value.ref x) :: L.filter (fun q => !(q.1 == i) && !(q.1 + 1 == i && q.2.category == 2)) = L') (k : Rn K G nL cs sl Q (pc + 1) L' st M lo hi rws) : Rn K G nL cs sl Q pc L (.ref x :: st) M lo hi rws := fun H locs ls hl hW hS => lv_astore_n C.1 C.2.1 d hi' hl hn hf (fun ls' hl' => k H locs ls' hl' hW hS)
theorem c_astore (C : Cx K G own cc nL ret) {i x : Nat} (L' : List (Nat × Value)) (d : decode cc pc = .ok (.astore i, 2)) (hn : i < nL) (hf : (i, Value.ref x) :: L.filter (fun q => !(q.1 == i) && !(q.1 + 1 == i && q.2.category == 2)) = L') (k : Rn K G nL cs sl Q (pc + 2) L' st M lo hi rws) : Rn K G nL cs sl Q pc L (.ref x :: st) M lo hi rws := fun H locs ls hl hW hS => lv_astore C.1 C.2.1 d hl hn hf (fun ls' hl' => k H locs ls' hl' hW hS)
theorem c_iinc (C : Cx K G own cc nL ret) {i p : Nat} {n : Int} {x v : Int32} (L' : List (Nat × Value)) (d : decode cc pc = .ok (.iinc i n, 3)) (hk : L[p]? = some (i, .int x)) (hv : x + Int32.ofInt n = v) (hn : i < nL) (hf : (i, Value.int v) :: L.filter (fun q => !(q.1 == i) && !(q.1 + 1 == i && q.2.category == 2)) = L') (k : Rn K G nL cs sl Q (pc + 3) L' st M lo hi rws) : Rn K G nL cs sl Q pc L st M lo hi rws := fun H locs ls hl hW hS => lv_iinc C.1 C.2.1 d hl hk hv hn hf (fun ls' hl' => k H locs ls' hl' hW hS)
theorem c_dup (C : Cx K G own cc nL ret) {v : Value} (d : decode cc pc = .ok (.dup, 1)) (hc : v.category = 1) (k : Rn K G nL cs sl Q (pc + 1) L (v :: v :: st) M lo hi rws) : Rn K G nL cs sl Q pc L (v :: st) M lo hi rws := fun H locs ls hl hW hS => lv_dup C.1 C.2.1 d hc (k H locs ls hl hW hS)
theorem c_goto (C : Cx K G own cc nL ret) {off : Int} {tgt : Nat} (d : decode cc pc = .ok (.goto off, 3)) (ht : (pc : Int) + off = (tgt : Int)) (k : Rn K G nL cs sl Q tgt L st M lo hi rws) : Rn K G nL cs sl Q pc L st M lo hi rws := fun H locs ls hl hW hS => lv_goto C.1 C.2.1 d ht (k H locs ls hl hW hS)
theorem c_geT (C : Cx K G own cc nL ret) {x y : Int32} {off : Int} {tgt : Nat} (d : decode cc pc = .ok (.if_icmp .ge off, 3)) (ht : (pc : Int) + off = (tgt : Int)) (hc : y ≤ x) (k : Rn K G nL cs sl Q tgt L st M lo hi rws) : Rn K G nL cs sl Q pc L (.int y :: .int x :: st) M lo hi rws := fun H locs ls hl hW hS => lv_icmp_ge C.1 C.2.1 d ht (fun _ => k H locs ls hl hW hS) (fun h => absurd hc h)
theorem c_geF (C : Cx K G own cc nL ret) {x y : Int32} {off : Int} (tgt : Nat) (d : decode cc pc = .ok (.if_icmp .ge off, 3)) (ht : (pc : Int) + off = (tgt : Int)) (hc : ¬ y ≤ x) (k : Rn K G nL cs sl Q (pc + 3) L st M lo hi rws) : Rn K G nL cs sl Q pc L (.int y :: .int x :: st) M lo hi rws := fun H locs ls hl hW hS => lv_icmp_ge C.1 C.2.1 d ht (fun h => absurd h hc) (fun _ => k H locs ls hl hW hS)
theorem c_sub (ks : List Nat) (hl : lv_pick L ks = L') (k : Rn K G nL cs sl Q pc L' st M lo hi rws) : Rn K G nL cs sl Q pc L st M lo hi rws := fun H locs ls hls hW hS => k H locs ls (lv_sub hls ks hl) hW hS
theorem va_S.grow {A : Nat → Prop} {H0 H H1 : Heap} {locs : List Loc} (h : va_S A H0 H locs) (hz : H.size ≤ H1.size) (hq : ∀ q : Nat, q < H.size → H1[q]? = H[q]?) : va_S A H0 H1 locs :=
  ⟨Nat.le_trans h.1 hz, fun q h1 h2 => (hq q (Nat.lt_of_lt_of_le h1 h.1)).trans (h.2.1 q h1 h2), h.2.2⟩
theorem Wc.same {H H1 : Heap} {kd k i : Nat} (h : Wc G M H kd k i) (hq : H1[G.1 kd k i]? = H[G.1 kd k i]?) : Wc G M H1 kd k i := h.kept ⟨fun _ => rfl, fun _ _ => rfl, fun _ _ => rfl, fun _ _ => rfl⟩ hq
theorem St.push {H H1 : Heap} (h : St G M lo hi rws H) (hz : H1.size = H.size + 1) (hq : ∀ q : Nat, q < H.size → H1[q]? = H[q]?) {d : Dsc} (hd : DH G hi d H1) : St G M lo (hi + 1) ((hi, d) :: rws) H1 := by
  obtain ⟨h1, h2, h3, h4⟩ := h
  refine ⟨by omega, fun r hr => ?_, ?_, fun kd k i hd' hlo hlt hne => ?_⟩
  · rcases List.mem_cons.mp hr with rfl | hr
    · exact ⟨Nat.lt_succ_self _, hd⟩
    · exact ⟨Nat.lt_succ_of_lt (h2 r hr).1, (h2 r hr).2.kept (hq _ (by rw [h1]; exact (h2 r hr).1))⟩
  · show (hi :: rws.map fun r => r.1).Nodup
    refine List.nodup_cons.mpr ⟨fun hm => ?_, h3⟩
    obtain ⟨r, hr, e⟩ := List.mem_map.mp hm
    have := (h2 r hr).1
    omega
  · have hn := hne _ List.mem_cons_self
    have hlt2 : G.1 kd k i < hi := by
      have hn : hi ≠ G.1 kd k i := hn
      omega
    exact (h4 kd k i hd' hlo hlt2 (fun r hr => hne r (List.mem_cons_of_mem _ hr))).same (hq _ (by rw [h1]; exact hlt2))
theorem St.write {H H1 : Heap} {a p : Nat} {d d' : Dsc} (h : St G M lo hi rws H) (hp : rws[p]? = some (a, d)) (hz : H1.size = H.size) (hq : ∀ q : Nat, q ≠ a → H1[q]? = H[q]?) (hd : DH G a d' H1) : St G M lo hi (rws.set p (a, d')) H1 := by
  obtain ⟨h1, h2, h3, h4⟩ := h
  have hpl : p < rws.length := (List.getElem?_eq_some_iff.mp hp).1
  have hm : (rws.set p (a, d')).map (fun r => r.1) = rws.map fun r => r.1 := by
    rw [List.map_set]
    refine List.ext_getElem? fun n => ?_
    by_cases e : n = p
    · subst e
      rw [List.getElem?_set_self (by simpa using hpl), List.getElem?_map, hp]
      rfl
    · rw [List.getElem?_set_ne (Ne.symm e)]
  have mem_iff : ∀ x : Nat, (∀ r ∈ rws.set p (a, d'), r.1 ≠ x) → ∀ r ∈ rws, r.1 ≠ x := by
    intro x hx r hr e
    have : x ∈ (rws.set p (a, d')).map fun r => r.1 := by rw [hm]; exact List.mem_map.mpr ⟨r, hr, e⟩
    obtain ⟨r', hr', e'⟩ := List.mem_map.mp this
    exact hx r' hr' e'
  refine ⟨hz.trans h1, fun r hr => ?_, by rw [hm]; exact h3, fun kd k i hd' hlo hlt hne => ?_⟩
  · obtain ⟨n, hn⟩ := List.getElem?_of_mem hr
    by_cases e : n = p
    · subst e
      rw [List.getElem?_set_self hpl] at hn
      cases hn
      exact ⟨(h2 _ (List.mem_of_getElem? hp)).1, hd⟩
    · rw [List.getElem?_set_ne (Ne.symm e)] at hn
      have hr' := List.mem_of_getElem? hn
      refine ⟨(h2 r hr').1, (h2 r hr').2.kept (hq _ (fun ea => ?_))⟩
      have hnd := h3
      have e1 : (rws.map fun r => r.1)[n]? = some a := by rw [List.getElem?_map, hn]; exact congrArg some ea
      have e2 : (rws.map fun r => r.1)[p]? = some a := by rw [List.getElem?_map, hp]; rfl
      have hnl : n < (rws.map fun r => r.1).length := (List.getElem?_eq_some_iff.mp e1).1
      exact e ((List.getElem?_inj hnl hnd).mp (e1.trans e2.symm))
  · have hne2 := mem_iff _ hne
    refine (h4 kd k i hd' hlo hlt hne2).same (hq _ (fun ea => ?_))
    exact hne2 _ (List.mem_of_getElem? hp) ea.symm
theorem St.done {H : Heap} {a p kd k i : Nat} {d : Dsc} (hA : Wa G) (h : St G M lo hi rws H) (hp : rws[p]? = some (a, d)) (hd : G.2.2.2.1 kd k i) (ha : G.1 kd k i = a) (hc : DH G a d H → Wc G M H kd k i) : St G M lo hi (rws.eraseIdx p) H := by
  obtain ⟨h1, h2, h3, h4⟩ := h
  have hpl : p < rws.length := (List.getElem?_eq_some_iff.mp hp).1
  have hsub : ∀ r ∈ rws.eraseIdx p, r ∈ rws := fun r hr => List.mem_of_mem_eraseIdx hr
  refine ⟨h1, fun r hr => h2 r (hsub r hr), ?_, fun kd' k' i' hd' hlo hlt hne => ?_⟩
  · exact h3.sublist ((List.eraseIdx_sublist rws p).map _)
  · by_cases e : G.1 kd' k' i' = a
    · obtain ⟨rfl, rfl, rfl⟩ := hA.1 _ _ _ _ _ _ hd' hd (e.trans ha.symm)
      exact hc (h2 _ (List.mem_of_getElem? hp)).2
    · refine h4 kd' k' i' hd' hlo hlt (fun r hr er => ?_)
      obtain ⟨n, hn⟩ := List.getElem?_of_mem hr
      by_cases en : n = p
      · subst en
        rw [hp] at hn
        cases hn
        exact e er.symm
      · exact hne r (List.mem_eraseIdx_iff_getElem?.mpr ⟨n, en, hn⟩) er
theorem c_done {a p kd k i : Nat} {d : Dsc} (C : Cx K G own cc nL ret) (hp : rws[p]? = some (a, d)) (hd : G.2.2.2.1 kd k i) (ha : G.1 kd k i = a) (hc : ∀ H, DH G a d H → Wc G M H kd k i) (k' : Rn K G nL cs sl Q pc L st M lo hi (rws.eraseIdx p)) : Rn K G nL cs sl Q pc L st M lo hi rws := fun H locs ls hl hW hS => k' H locs ls hl (St.done C.2.2.2.2.2.1.2.1 hW hp hd ha (hc H)) hS
theorem DH.obj {a kd k i ci N : Nat} {V : Nat → Value} (hk : kc kd = some (ci, N)) (ha : G.1 kd k i = a) (hv : ∀ j, j < N → V j = fv G M kd k i j) (H : Heap) (h : DH G a (0, ci, N, V) H) : Wc G M H kd k i := by
  subst ha
  exact Wc.obj hk (t_OB.to h hv)
theorem DH.arr {a kd k i ti n : Nat} {V : Nat → Value} (hk : ka kd = some (ti, n)) (ha : G.1 kd k i = a) (hv : ∀ j, j < n → V j = fv G M kd k i j) (H : Heap) (h : DH G a (1, ti, n, V) H) : Wc G M H kd k i := by
  subst ha
  refine Wc.arr hk ?_
  have h : H[G.1 kd k i]? = some (arrV (G.2.2.1 ti) n V) := h
  rw [h]
  exact congrArg some (arrV_congr hv)
theorem c_newa {n : Int32} {N ti : Nat} {atype : ArrayType} {ty : FieldType} (C : Cx K G own cc nL ret) (hat : newarray.typeOf atype = ty) (harr : Cond.arrayClass ty ∈ tblG) (hty : (tysOf G.2.2.1)[ti]? = some (G.2.2.1 ti, ty)) (hra : ∀ (U : State) (c : ClassId), va_RA U c ty → U.vm.findClass ("[" ++ ty.toString) = some c) (hn : ¬ n < 0) (hN : n.toNatClampNeg = N) (hbytes : N * componentBytes ty ≤ 536870912) (hcells : cs + 1 ≤ K.2.2.2.1.cells) (hslots : sl + N ≤ K.2.2.2.1.slots) (d : decode cc pc = .ok (.newarray atype, 2))
    (kk : Rn K G nL (cs + 1) (sl + N) Q (pc + 2) L (.ref hi :: st) M lo (hi + 1) ((hi, (1, ti, N, fun _ => defaultValue ty)) :: rws)) : Rn K G nL cs sl Q pc L (.int n :: st) M lo hi rws := by
  intro H locs ls hl hW hS
  subst hat
  refine va_newaK C.1 C.2.1 (C.w harr) rfl d rfl hn hN hbytes hcells hslots hW.1 fun H1 cA e1 z1 o1 hAr hNm => ?_
  have hcA : cA = G.2.2.1 ti := Option.some.inj (hNm.symm.trans (hra _ _ (C.2.2.2.2.2.1.1.2 ti _ hty).2))
  subst hcA
  exact kk H1 locs ls hl (hW.push (by rw [z1, hW.1]) (by rw [hW.1]; exact o1) (d := (1, ti, N, fun _ => defaultValue (newarray.typeOf atype))) e1) (hS.grow (by rw [z1, hW.1]; omega) (by rw [hW.1]; exact o1))
theorem c_anew {n : Int32} {N ti index : Nat} {Cn : String} (C : Cx K G own cc nL ret) (hcl : Cond.classLink own index Cn ∈ tblG) (hover : va_AO Cn K.2.2.2.2.1) (hty : (tysOf G.2.2.1)[ti]? = some (G.2.2.1 ti, .object Cn)) (hn : ¬ n < 0) (hN : n.toNatClampNeg = N) (hbytes : N * 4 ≤ 536870912) (hcells : cs + 1 ≤ K.2.2.2.1.cells) (hslots : sl + N ≤ K.2.2.2.1.slots) (d : decode cc pc = .ok (.anewarray index, 3))
    (kk : Rn K G nL (cs + 1) (sl + N) Q (pc + 3) L (.ref hi :: st) M lo (hi + 1) ((hi, (1, ti, N, fun _ => .null)) :: rws)) : Rn K G nL cs sl Q pc L (.int n :: st) M lo hi rws := by
  intro H locs ls hl hW hS
  subst hN
  refine W.anew C.1 C.2.1 C.2.2.2.1 (C.w hcl) (va_AO.use hover) rfl d rfl hn hbytes hcells hslots fun cA kA comp f1 f2 f3 f4 => ?_
  generalize hH1 : H.push ({ cls := cA, slots := Array.replicate n.toNatClampNeg .null, vm := .none } : Cell) = H1
  have z1 : H1.size = H.size + 1 := by rw [← hH1, Array.size_push]
  have e1 : H1[H.size]? = some (arrV cA n.toNatClampNeg (fun _ => .null)) := by rw [← hH1, Array.getElem?_push_size, ← arrV_new]
  have o1 : ∀ q : Nat, q < H.size → H1[q]? = H[q]? := fun q hq => by rw [← hH1, Array.getElem?_push, if_neg (Nat.ne_of_lt hq)]
  obtain ⟨kA', comp', g1, g2, g3, g4⟩ := (C.2.2.2.2.2.1.1.2 ti _ hty).2
  have hcA : cA = G.2.2.1 ti := Option.some.inj (f1.symm.trans g4)
  subst hcA
  have hz := hW.1
  rw [hz] at e1
  rw [hz]
  exact kk H1 locs ls hl (hW.push z1 o1 (d := (1, ti, n.toNatClampNeg, fun _ => .null)) e1) (hS.grow (by omega) o1)
theorem c_new {Cn : String} {T : u_T} {N ci index : Nat} (C : Cx K G own cc nL ret) (hw : ∀ w ∈ u_ws Cn T N, w ∈ tblG) (ty : Nat → FieldType) (hty : ∀ k, k < N → parseFieldDescriptor (T k).2.2.1 = some (ty k)) (hcl : Cond.classLink own index Cn ∈ tblG) (hinst : Cond.instantiable Cn N ∈ tblG) (hini : Cond.initialized Cn ∈ tblG) (hc : wCl[ci]? = some (Cn, T, N)) (hcells : cs + 1 ≤ K.2.2.2.1.cells) (hslots : sl + N ≤ K.2.2.2.1.slots) (d : decode cc pc = .ok (.new index, 3))
    (kk : Rn K G nL (cs + 1) (sl + N) Q (pc + 3) L (.ref hi :: st) M lo (hi + 1) ((hi, (0, ci, N, fun j => defaultValue (ty j))) :: rws)) : Rn K G nL cs sl Q pc L st M lo hi rws := by
  intro H locs ls hl hW hS
  have hKn := C.2.2.2.2.2.1.1.1 ci _ hc
  refine W.newcK C.1 C.2.1 C.2.2.2.1 (C.w hcl) (C.w hinst) (C.w hini) rfl d hcells hslots hKn.2.1 hW.1 fun H1 kC hkC e1 z1 o1 => ?_
  exact kk H1 locs ls hl (hW.push (by rw [z1, hW.1]) (by rw [hW.1]; exact o1) (d := (0, ci, N, fun j => defaultValue (ty j))) (u_born ty C.2.2.2.2.1 hw hKn hkC e1 hty)) (hS.grow (by rw [z1, hW.1]; omega) (by rw [hW.1]; exact o1))
theorem c_obj {a index : Nat} (C : Cx K G own cc nL ret) (hl : Cond.methodLink own index Lib.objectInit ∈ tblG) (hi' : Cond.instanceMethod Lib.objectInit ∈ tblG) (hcode : Cond.code Lib.objectInit ⟨#[0xb1]⟩ 1 none ∈ tblG) (hfr : 1 ≤ K.2.2.2.1.frames) (hlo : 12 ≤ K.2.2.2.1.locals) (d : decode cc pc = .ok (.invokespecial index, 3)) (kk : Rn K G nL cs sl Q (pc + 3) L [] M lo hi rws) : Rn K G nL cs sl Q pc L [.ref a] M lo hi rws := fun H locs ls hls hW hS =>
  W.objInit C.1 C.2.1 C.2.2.2.1 (C.w hl) (C.w hi') (C.w hcode) rfl (hls.1.trans C.2.2.1.symm) rfl d hfr hlo (kk H locs ls hls hW hS)
/-- a field of an object that is being made -/
theorem c_put {a p j ci N index : Nat} {nm ds Cn : String} {T : u_T} {fin : Bool} {V : Nat → Value} {v : Value} {ty : FieldType} (C : Cx K G own cc nL ret) (hown : own = Cn) (hinit : K.2.2.2.2.2.2.2.2.1.name = "<init>") (hc : wCl[ci]? = some (Cn, T, N)) (hj : j < N) (hT : T j = (Cn, nm, ds, fin)) (hw : ∀ w ∈ u_ws Cn T N, w ∈ tblG) (hl : Cond.fieldLink own index Cn nm ds ∈ tblG) (ty0 : Nat → FieldType) (hty : ∀ k, k < N → parseFieldDescriptor (T k).2.2.1 = some (ty0 k)) (hnm : ∀ a, a < N → ∀ b, b < N → a ≠ b → (T a).2.1 ≠ (T b).2.1) (hds : parseFieldDescriptor ds = some ty) (hn : narrow ty v = v) (hfit : fits ty v = true)
    (hp : rws[p]? = some (a, (0, ci, N, V))) (halo : lo ≤ a) (d : decode cc pc = .ok (.putfield index, 3)) (kk : Rn K G nL cs sl Q (pc + 3) L st M lo hi (rws.set p (a, (0, ci, N, updV V j v)))) : Rn K G nL cs sl Q pc L (v :: .ref a :: st) M lo hi rws := by
  intro H locs ls hls hW hS
  subst hown
  have hts : ∀ w ∈ tblG, w.before K.2.2.2.2.2.2.1 K.2.2.2.2.1 = true := C.2.2.2.2.1
  have hK := C.2.2.2.2.2.1.1
  have hap := va_apart (own := own) hts hw ty0 hty hnm hK hc
  obtain ⟨cell, q1, q2, q3, q4⟩ : t_OB a (G.2.1.1 ci) N (G.2.1.2 ci) H V := (hW.2.1 _ (List.mem_of_getElem? hp)).2
  obtain ⟨hSl, hfc, kC, hkC, hkind⟩ := hK.1 ci _ hc
  obtain ⟨cf, kf, fi, f, hi', hsl⟩ := hSl j hj
  have hlay := hts _ (hw _ (u_in_lay hj))
  have hst := (u_facts hfc hkC (u_lays hts hw hj) hi').1
  have fin_ : ∀ H' : Heap, H'[a]? = some (cell.setSlot f.slot v) → H'.size = H.size → (∀ q, q ≠ a → H'[q]? = H[q]?) → W K.1 K.2.1 K.2.2.1 K.2.2.2.1 K.2.2.2.2.1 K.2.2.2.2.2.1 K.2.2.2.2.2.2.1 K.2.2.2.2.2.2.2.1 K.2.2.2.2.2.2.2.2.1 K.2.2.2.2.2.2.2.2.2 H' (locs ++ [⟨a, f.slot⟩]) cs sl Q (F0 K.2.2.2.2.2.1 (pc + 3) ls st) := by
    intro H' e1 e2 e3
    rw [hsl] at e1
    exact kk H' _ ls hls (hW.write hp e2 e3 ⟨_, e1, q2, q3, t_set q4 hap hj v⟩) (hS.put e2 e3 halo)
  dsimp only at hi' hsl
  rw [hT] at hi'
  dsimp only at hi'
  unfold u_lay at hlay
  cases fin with
  | true =>
    rw [if_pos (by rw [hT])] at hlay
    rw [hT] at hlay
    dsimp only at hlay
    have hcf : K.2.2.2.2.2.1.cls = cf := by
      obtain ⟨_, _, c', _, _, _, -, -, hf', -, -, -, hown2, -⟩ := Cond.laysFinal_spec hlay
      have e1 : c' = cf := by have := hi'.symm.trans hf'; simp at this; exact this.1.symm
      rw [← e1]; exact Option.some.inj (C.2.2.2.1.symm.trans hown2)
    have h6 := u_fits hfc hkC hkind (Or.inr hlay) hi' hds hn hfit
    exact W.putFinK C.1 C.2.1 C.2.2.2.1 (C.w hl) hi' hst hcf hinit (by rw [q2]; exact h6) q1 q3 (by rw [hsl]; exact k2_hasslot (q4 j hj)) rfl rfl d fin_
  | false =>
    rw [if_neg (by rw [hT]; exact Bool.false_ne_true)] at hlay
    have h6 := u_store hfc hkC hkind hlay (by rw [hT]; exact hi') (by rw [hT]; exact hds) hn hfit
    exact W.putK C.1 C.2.1 (f := f) ⟨C.2.2.2.1, C.w hl, ⟨_, _, _, hi'⟩, hst⟩ (by rw [q2]; exact h6) q1 q3 (by rw [hsl]; exact k2_hasslot (q4 j hj)) rfl rfl d fin_
theorem c_get {a p j ci N index : Nat} {nm ds Cn : String} {T : u_T} {fin : Bool} {V : Nat → Value} {v : Value} (C : Cx K G own cc nL ret) (hc : wCl[ci]? = some (Cn, T, N)) (hj : j < N) (hT : T j = (Cn, nm, ds, fin)) (hw : ∀ w ∈ u_ws Cn T N, w ∈ tblG) (hl : Cond.fieldLink own index Cn nm ds ∈ tblG) (hp : rws[p]? = some (a, (0, ci, N, V))) (hv : V j = v) (d : decode cc pc = .ok (.getfield index, 3)) (kk : Rn K G nL cs sl Q (pc + 3) L (v :: st) M lo hi rws) : Rn K G nL cs sl Q pc L (.ref a :: st) M lo hi rws := by
  intro H locs ls hls hW hS
  have hts : ∀ w ∈ tblG, w.before K.2.2.2.2.2.2.1 K.2.2.2.2.1 = true := C.2.2.2.2.1
  have hK := C.2.2.2.2.2.1.1
  obtain ⟨cell, q1, q2, q3, q4⟩ : t_OB a (G.2.1.1 ci) N (G.2.1.2 ci) H V := (hW.2.1 _ (List.mem_of_getElem? hp)).2
  obtain ⟨hSl, hfc, kC, hkC, hkind⟩ := hK.1 ci _ hc
  obtain ⟨cf, kf, fi, f, hi', hsl⟩ := hSl j hj
  have hst := (u_facts hfc hkC (u_lays hts hw hj) hi').1
  dsimp only at hi' hsl
  rw [hT] at hi'
  dsimp only at hi'
  have hq := q4 j hj
  rw [hv, ← hsl] at hq
  exact W.getf C.1 C.2.1 C.2.2.2.1 (C.w hl) hi' hst q1 (by rw [q3]; exact fun h => by cases h) hq rfl rfl d (kk H locs ls hls hW hS)
/-- an element of a row of ints that is being made -/
theorem c_iast {a p n : Nat} {V : Nat → Value} {x v : Int32} (C : Cx K G own cc nL ret) (hp : rws[p]? = some (a, (1, 0, n, V))) (hb : inB x n = true) (halo : lo ≤ a) (d : decode cc pc = .ok (.iastore, 1)) (kk : Rn K G nL cs sl Q (pc + 1) L st M lo hi (rws.set p (a, (1, 0, n, updV V x.toNatClampNeg (.int v))))) : Rn K G nL cs sl Q pc L (.int v :: .int x :: .ref a :: st) M lo hi rws := by
  intro H locs ls hls hW hS
  have hK := C.2.2.2.2.2.1.1
  have hc : H[a]? = some (arrV (G.2.2.1 0) n V) := (hW.2.1 _ (List.mem_of_getElem? hp)).2
  refine W.iast C.1 C.2.1 hc ((hK.2 0 (G.2.2.1 0, .int) rfl).1 n _) (fun q => by cases q) (by rw [arrV_size]; exact inB_in hb) rfl rfl d fun H' e1 e2 e3 => ?_
  rw [arrV_store] at e1
  exact kk H' _ ls hls (hW.write hp e2 e3 (d' := (1, 0, n, updV V x.toNatClampNeg (.int v))) e1) (hS.put e2 e3 halo)
/-- a reference into a row that is being made; the object is made -/
theorem c_aast {a p n ti kd k i ci N : Nat} {Cn : String} {T : u_T} {V : Nat → Value} {x : Int32} (C : Cx K G own cc nL ret) (hp : rws[p]? = some (a, (1, ti, n, V))) (hty : (tysOf G.2.2.1)[ti]? = some (G.2.2.1 ti, .object Cn)) (hc : wCl[ci]? = some (Cn, T, N)) (hk : kc kd = some (ci, N)) (hd : G.2.2.2.1 kd k i) (hlo : lo ≤ G.1 kd k i) (hhi : G.1 kd k i < hi) (hne : ∀ r ∈ rws, r.1 ≠ G.1 kd k i) (hb : inB x n = true) (halo : lo ≤ a) (d : decode cc pc = .ok (.aastore, 1))
    (kk : Rn K G nL cs sl Q (pc + 1) L st M lo hi (rws.set p (a, (1, ti, n, updV V x.toNatClampNeg (.ref (G.1 kd k i)))))) : Rn K G nL cs sl Q pc L (.ref (G.1 kd k i) :: .int x :: .ref a :: st) M lo hi rws := by
  intro H locs ls hls hW hS
  have hK := C.2.2.2.2.2.1.1
  have hcA : H[a]? = some (arrV (G.2.2.1 ti) n V) := (hW.2.1 _ (List.mem_of_getElem? hp)).2
  obtain ⟨cellV, g1, g2, g3, -⟩ := (hW.2.2.2 kd k i hd hlo hhi hne).1 ci N hk
  have hcls := (hK.1 ci _ hc).2
  obtain ⟨kA, comp, k1, k2, k3, -⟩ := (hK.2 ti _ hty).2
  have hcomp : comp = G.2.1.1 ci := Option.some.inj (k3.symm.trans hcls.1)
  subst hcomp
  obtain ⟨kC, hkC, -⟩ := hcls.2
  have hin := inB_in hb
  have hlt : x.toNatClampNeg < n := inB_lt hb
  refine W.aast C.1 C.2.1 hcA (fun q h => by cases h) (fun h => by cases h) k1 k2 rfl hkC ⟨fun q => hin (Or.inl q), by rw [arrV_size]; exact hlt⟩ g1 (fun q h => by rw [g3] at h; cases h) (by rw [g2]; exact hkC) (by rw [g2]; exact va_assign hcls) rfl rfl d fun H' e1 e2 e3 => ?_
  rw [arrV_store] at e1
  exact kk H' _ ls hls (hW.write hp e2 e3 (d' := (1, ti, n, updV V x.toNatClampNeg (.ref (G.1 kd k i)))) e1) (hS.put e2 e3 halo)
/-! contracts of constructors -/
def AOs (U : State) : Prop := va_AO "PermitPark$Strand" U ∧ va_AO "PermitPark$Machine" U
def PcI (G : WT) (a ci N : Nat) (V0 : Nat → Value) (M : Mem) : Array Value → State → Prop := fun v U => (v = #[Value.ref a] ∧ St G M a (a + 1) [(a, (0, ci, N, V0))] U.heap ∧ Ws G U) ∧ AOs U
def QcI (G : WT) (M' : Mem) (a hi : Nat) : Array Value → State → Outcome → State → Prop := fun _ st oc t => oc = .returned none ∧ St G M' a hi [] t.heap ∧ va_F (fromA a) st t
abbrev rmI (fr lo mc ms : Nat) : Room := { frames := fr, cells := mc, slots := ms, locals := lo }
theorem PcI.blind {a ci N : Nat} {V0 : Nat → Value} : FrameBlind (PcI G a ci N V0 M) := fun v U g mk q => by
  obtain ⟨⟨h1, h2, h3, h4, h5, h6⟩, h7, h8⟩ := q
  exact ⟨⟨h1, h2, va_K.moved (u := U) (U := U.calling g mk v) (Vm.Alike.refl U.vm) h3, h4, Ext.moved (u := U) (U := U.calling g mk v) (Vm.Alike.refl U.vm) h5, Nw.warm (s := U) (U := U.calling g mk v) (State.WarmedH.refl U) h6⟩, va_AO.moved (u := U) (U := U.calling g mk v) (Vm.Alike.refl U.vm) h7, va_AO.moved (u := U) (U := U.calling g mk v) (Vm.Alike.refl U.vm) h8⟩
def OkI (l : Launch) (G : WT) (y : MethodName) (cc : ByteArray) (maxL : Nat) (fr lo mc ms a hi ci N : Nat) (V0 : Nat → Value) (M M' : Mem) : Prop := Met l y (Cond.code y cc maxL none :: tblG) (rmI fr lo mc ms) (PcI G a ci N V0 M) (QcI G M' a hi) mc ms (fromA a)
theorem OkI.of {l : Launch} {y : MethodName} {cc : ByteArray} {maxL fr lo mc ms a hi ci N : Nat} {V0 : Nat → Value} {M' : Mem} (own : String) (hown : y.cls = own) (hyn : y.name = "<init>") (hy : plainName y.cls = true) (hn : 1 ≤ maxL)
    (body : ∀ K : KT, K.2.1 = l → K.2.2.2.1 = rmI fr lo mc ms → Cx K G own cc maxL none → K.2.2.2.2.2.2.2.2.1.name = "<init>" → AOs K.2.2.2.2.1 → K.2.2.2.2.1.heap.size = a + 1 → Rn K G maxL 0 0 (MQ K.2.2.2.2.2.2.2.1 (QcI G M' a hi) K.2.2.2.2.2.2.1 K.2.2.2.2.1 mc ms (fromA a)) 0 [(0, .ref a)] [] M a (a + 1) [(a, (0, ci, N, V0))]) : OkI l G y cc maxL fr lo mc ms a hi ci N V0 M M' := by
  refine Met.ofW (cc := cc) (maxL := maxL) (ret := none) hy rfl ?_
  intro p e s m args below meth c s₁ B hml hv
  obtain ⟨⟨rfl, hW, hWs⟩, hAO⟩ := hv
  have hts := atoms_spec (ws := Cond.code y cc maxL none :: tblG) B.pre
  have hl := lv_entry [Value.ref a] (n := maxL) hn
  have he : (#[Value.ref a] : Array Value) = ([Value.ref a] : List Value).toArray := rfl
  rw [he, lg_entry_eq]
  subst hown
  exact body (p, l, e, rmI fr lo mc ms, s, m, #[Value.ref a], below, meth, c) rfl rfl ⟨B.exec, B.bytes, hml, findClass_of_methodNamed B.named, fun w hw => hts w (List.mem_cons_of_mem _ hw), hWs, B.notSynchronized, B.returns⟩ ((name_of_methodNamed B.named B.method).1.trans hyn) hAO hW.1 s.heap [] _ hl hW va_S.rf
theorem c_ret {M' : Mem} {a mc ms hi' : Nat} (C : Cx K G own cc nL none) (hM : M = M') (hlo : lo = a) (hhi : hi = hi') (hc : cs ≤ mc) (hs : sl ≤ ms) (d : decode cc pc = .ok (.return_, 1)) : Rn K G nL cs sl (MQ K.2.2.2.2.2.2.2.1 (QcI G M' a hi') K.2.2.2.2.2.2.1 K.2.2.2.2.1 mc ms (fromA a)) pc L [] M lo hi [] := by
  subst hM
  subst hlo
  subst hhi
  intro H locs ls hl hW hS T hT X
  exact W.vret (cells := mc) (slots := ms) C.1 C.2.1 C.2.2.2.2.2.2.2 (fun t ht _ => ⟨rfl, by rw [ht]; exact hW, hS.F ht⟩) hS.2.2 d (hlocks := C.2.2.2.2.2.2.1) T hT (stand_widen X hc hs)
/-- behind a constructor -/
theorem St.after {H H1 : Heap} {M1 M2 : Mem} {x hi' : Nat} {d : Dsc} (h : St G M lo hi ((x, d) :: rws) H) (hx : x + 1 = hi) (h2 : St G M2 x hi' [] H1) (hq : ∀ q : Nat, q < x → H1[q]? = H[q]?) (hle : x < hi') (hal : ∀ kd k i, G.2.2.2.1 kd k i → x ≤ G.1 kd k i → G.1 kd k i < hi' → alikeAt M2 M kd k i) : St G M lo hi' rws H1 := by
  obtain ⟨h1, h3, h4, h5⟩ := h
  have hnx : ∀ r ∈ rws, r.1 < x := fun r hr => by
    have h6 : r.1 < hi := (h3 r (List.mem_cons_of_mem _ hr)).1
    have h7 : x ∉ rws.map fun r => r.1 := (List.nodup_cons.mp h4).1
    have h8 : r.1 ≠ x := fun e => h7 (List.mem_map.mpr ⟨r, hr, e⟩)
    omega
  refine ⟨h2.1, fun r hr => ⟨Nat.lt_trans (hnx r hr) hle, (h3 r (List.mem_cons_of_mem _ hr)).2.kept (hq _ (hnx r hr))⟩, (List.nodup_cons.mp h4).2, fun kd k i hd hlo hlt hne => ?_⟩
  by_cases e : x ≤ G.1 kd k i
  · exact (h2.2.2.2 kd k i hd e hlt (fun _ h => nomatch h)).kept (hal kd k i hd e hlt) rfl
  · refine (h5 kd k i hd hlo (by omega) (fun r hr => ?_)).same (hq _ (by omega))
    rcases List.mem_cons.mp hr with rfl | hr
    · intro er
      have er : x = G.1 kd k i := er
      omega
    · exact hne r hr
theorem c_goI {y : MethodName} {M1 M2 : Mem} {x hi' ci N mc ms : Nat} {V0 : Nat → Value} {av : Array Value}
    (hx : x + 1 = hi) (hlx : lo ≤ x) (hle : x < hi') (hal : ∀ kd k i, G.2.2.2.1 kd k i → x ≤ G.1 kd k i → G.1 kd k i < hi' → alikeAt M2 M kd k i)
    (run : ∀ (H : Heap) (locs : List Loc) (ls : Array Slot), lv_has ls nL L → St G M1 x (x + 1) [(x, (0, ci, N, V0))] H → va_S (fromA lo) K.2.2.2.2.1.heap H locs →
      va_Run K.1 K.2.1 K.2.2.1 K.2.2.2.1 K.2.2.2.2.1 K.2.2.2.2.2.1 K.2.2.2.2.2.2.1 K.2.2.2.2.2.2.2.1 K.2.2.2.2.2.2.2.2.1 K.2.2.2.2.2.2.2.2.2 H locs cs sl mc ms (F0 K.2.2.2.2.2.1 pc ls (.ref x :: st)) st (QcI G M2 x hi' av) (fromA x))
    (kk : Rn K G nL (cs + mc) (sl + ms) Q (pc + 3) L st M lo hi' rws) : Rn K G nL cs sl Q pc L (.ref x :: st) M lo hi ((x, (0, ci, N, V0)) :: rws) := by
  intro H locs ls hl hW hS T hT X
  have hW1 : St G M1 x (x + 1) [(x, (0, ci, N, V0))] H := ⟨hW.1.trans hx.symm, fun r hr => by
    rcases List.mem_singleton.mp hr with rfl
    exact ⟨Nat.lt_succ_self _, (hW.2.1 _ List.mem_cons_self).2⟩, List.nodup_cons.mpr ⟨List.not_mem_nil, List.nodup_nil⟩, fun kd k i _ h1 h2 h3 => absurd (show x = G.1 kd k i by omega) (h3 _ List.mem_cons_self)⟩
  obtain ⟨v, st₀, t, T', L9, h0, X', hL, e1, e2, ⟨hv, hw, hz, hk⟩, stp⟩ := run H locs ls hl hW1 hS T hT X
  cases hv
  rw [h0] at hz hk
  have hq : ∀ q : Nat, q < x → T'.heap[q]? = H[q]? := fun q hq => by
    rw [e1]
    exact hk q (by rw [hW.1]; omega) (fun z => absurd (show x ≤ q from z) (by omega))
  obtain ⟨t2, a1, b1⟩ := kk T'.heap (locs ++ L9) ls hl (hW.after (M1 := M1) hx (by rw [e1]; exact hw) hq hle hal)
    ⟨Nat.le_trans hS.1 (by rw [e1]; exact hz), fun q h1 h2 => by rw [e1, hk q (Nat.lt_of_lt_of_le h1 hS.1) (fun z => h2 (Nat.le_trans hlx z))]; exact hS.2.1 q h1 h2, fun q hq => by
      rcases List.mem_append.mp hq with h | h
      · exact hS.2.2 q h
      · exact Nat.le_trans hlx (hL q h)⟩ T' rfl X'
  exact ⟨t2, stp t2 a1, b1⟩
theorem Ws.nextI {U : State} {H : Heap} {locs : List Loc} {s : State} {A : Nat → Prop} (h : Ws G s) (hA : ∀ q, A q → G.2.2.2.2.1 q) (hS : va_S A s.heap H locs) (hU : U.heap = H) (hW : s.WarmedH U.vm) : Ws G U :=
  h.next (locs := locs) ⟨hS.1, fun q h1 h2 => hS.2.1 q h1 (fun z => h2 (hA q z)), fun l hl => hA _ (hS.2.2 l hl)⟩ hU hW
theorem c_initN {y : MethodName} {bytes : ByteArray} {maxL fr lo' mc ms x hi' ci N index : Nat} {host : String} {V0 : Nat → Value} {M1 M2 : Mem} (C : Cx K G own cc nL ret) (hAO : AOs K.2.2.2.2.1) (hM : OkI K.2.1 G y bytes maxL fr lo' mc ms x hi' ci N V0 M1 M2) (hlA : ∀ q, lo ≤ q → G.2.2.2.2.1 q) (hl : Cond.methodLinkNest own index y host ∈ NwL) (hyn : y.name = "<init>") (hi0 : Cond.instanceMethod y ∈ tblG) (hini : Cond.initialized y.cls ∈ tblG) (hcode : Cond.code y bytes maxL none ∈ tblG) (hy : y.cls ≠ "java/lang/invoke/MethodHandle" ∧ y.cls ≠ "java/lang/invoke/VarHandle" ∧ (parseMethodDescriptor y.desc).map (fun d => d.parameters.length) = some 0) (hR : Rx K cs sl mc ms fr (8 + (maxL + 11) + lo'))
    (h8 : (st.map fun v => v.category).sum ≤ 8) (hx : x + 1 = hi) (hlx : lo ≤ x) (hle : x < hi') (hal : ∀ kd k i, G.2.2.2.1 kd k i → x ≤ G.1 kd k i → G.1 kd k i < hi' → alikeAt M2 M kd k i) (d : decode cc pc = .ok (.invokespecial index, 3)) (kk : Rn K G nL (cs + mc) (sl + ms) Q (pc + 3) L st M lo hi' rws) : Rn K G nL cs sl Q pc L (.ref x :: st) M lo hi ((x, (0, ci, N, V0)) :: rws) := by
  refine c_goI (y := y) (M1 := M1) (av := (Value.ref x :: []).toArray) hx hlx hle hal (fun H locs ls hls hW hS => ?_) kk
  have hts := C.2.2.2.2.1
  exact va_runIN (n := 0) (As := []) ⟨C.1, C.2.1, C.2.2.1, C.2.2.2.1, hts⟩ hM ⟨va_cnB 0 hts (gw_cons hcode) rfl rfl rfl (C.nw.1 _ hl) (hts _ hini) hy ⟨hR.2.2.1, hR.2.2.2⟩, hyn, hts _ hi0⟩ ⟨PcI.blind, fun U hU hWm => ⟨⟨rfl, by rw [hU]; exact hW, C.2.2.2.2.2.1.nextI hlA hS hU hWm⟩, va_AO.moved hWm.alike hAO.1, va_AO.moved hWm.alike hAO.2⟩⟩ rfl rfl hls.1 rfl (lv_room h8) d ⟨hR.1, hR.2.1⟩
theorem c_init {y : MethodName} {bytes : ByteArray} {maxL fr lo' mc ms x hi' ci N index : Nat} {V0 : Nat → Value} {M1 M2 : Mem} (C : Cx K G own cc nL ret) (hAO : AOs K.2.2.2.2.1) (hM : OkI K.2.1 G y bytes maxL fr lo' mc ms x hi' ci N V0 M1 M2) (hlA : ∀ q, lo ≤ q → G.2.2.2.2.1 q) (hl : Cond.methodLink own index y ∈ tblG) (hyn : y.name = "<init>") (hi0 : Cond.instanceMethod y ∈ tblG) (hini : Cond.initialized y.cls ∈ tblG) (hcode : Cond.code y bytes maxL none ∈ tblG) (hy : y.cls ≠ "java/lang/invoke/MethodHandle" ∧ y.cls ≠ "java/lang/invoke/VarHandle" ∧ (parseMethodDescriptor y.desc).map (fun d => d.parameters.length) = some 0) (hR : Rx K cs sl mc ms fr (8 + (maxL + 11) + lo'))
    (h8 : (st.map fun v => v.category).sum ≤ 8) (hx : x + 1 = hi) (hlx : lo ≤ x) (hle : x < hi') (hal : ∀ kd k i, G.2.2.2.1 kd k i → x ≤ G.1 kd k i → G.1 kd k i < hi' → alikeAt M2 M kd k i) (d : decode cc pc = .ok (.invokespecial index, 3)) (kk : Rn K G nL (cs + mc) (sl + ms) Q (pc + 3) L st M lo hi' rws) : Rn K G nL cs sl Q pc L (.ref x :: st) M lo hi ((x, (0, ci, N, V0)) :: rws) := by
  refine c_goI (y := y) (M1 := M1) (av := (Value.ref x :: []).toArray) hx hlx hle hal (fun H locs ls hls hW hS => ?_) kk
  have hts := C.2.2.2.2.1
  exact va_runI (n := 0) (As := []) ⟨C.1, C.2.1, C.2.2.1, C.2.2.2.1, hts⟩ hM ⟨callB_of 0 hts (gw_cons hcode) rfl rfl rfl (hts _ hini) (hts _ hl) hy ⟨hR.2.2.1, hR.2.2.2⟩, hyn, hts _ hi0⟩ ⟨PcI.blind, fun U hU hWm => ⟨⟨rfl, by rw [hU]; exact hW, C.2.2.2.2.2.1.nextI hlA hS hU hWm⟩, va_AO.moved hWm.alike hAO.1, va_AO.moved hWm.alike hAO.2⟩⟩ rfl rfl hls.1 rfl (lv_room h8) d ⟨hR.1, hR.2.1⟩
/-! a method called on what is made, in a world of its own -/
def subG (G : WT) (dm : Nat → Nat → Nat → Prop) (A : Nat → Prop) : WT := (G.1, G.2.1, G.2.2.1, dm, A, G.2.2.2.2.2)
theorem Ext.narrow {dm : Nat → Nat → Nat → Prop} {A : Nat → Prop} {U : State} {H : Heap} (h : Ext G U H) (hA : ∀ q, A q → G.2.2.2.2.1 q) : Ext (subG G dm A) U H := by
  obtain ⟨h1, h2, h3, h4, h5, h6, h7, h8, h9, h10, h11, h12⟩ := h
  exact ⟨h1.narrow hA, h2.narrow hA, fun i hi => ⟨(h3 i hi).1.narrow hA, (h3 i hi).2.1.narrow hA, trivial, (h3 i hi).2.2.2.1.narrow hA, (h3 i hi).2.2.2.2.narrow hA⟩, h4, trivial, h6.narrow hA, h7.narrow hA, h8.narrow hA, trivial, trivial, h11.narrow hA, h12.narrow hA⟩
theorem Ws.subw {dm : Nat → Nat → Nat → Prop} {A : Nat → Prop} {U : State} (h : Ws G U) (hA : ∀ q, A q → G.2.2.2.2.1 q) (hWa : Wa (subG G dm A)) : Ws (subG G dm A) U := ⟨h.1, hWa, h.2.2.1.narrow hA, h.2.2.2⟩
theorem c_clr {dm : Nat → Nat → Nat → Prop} {y : MethodName} {bytes : ByteArray} {maxL fr lo' x index kd k i ci N : Nat} {T : u_T} {M' : Mem} {res : Option (Unit × Mem)} (C : Cx K G own cc nL ret) (hcs : hi = K.2.2.2.2.1.heap.size + cs) (hM : Okm K.2.1 (subG G dm (fromA lo)) y bytes maxL none fr lo' [.ref x] voV M res) (hres : res = some ((), M')) (hlA : ∀ q, lo ≤ q → G.2.2.2.2.1 q) (hWa : Wa (subG G dm (fromA lo)))
    (h1 : ∀ kd k i, dm kd k i → G.2.2.2.1 kd k i ∧ lo ≤ G.1 kd k i ∧ G.1 kd k i < hi) (h2 : ∀ kd k i, G.2.2.2.1 kd k i → lo ≤ G.1 kd k i → G.1 kd k i < hi → dm kd k i) (hx : G.1 kd k i = x) (hd : dm kd k i) (hk : kc kd = some (ci, N)) (hc : wCl[ci]? = some (y.cls, T, N))
    (hl : Cond.methodLink own index y ∈ tblG) (cv : CV y bytes maxL none 0) (hR : Rx K cs sl 0 0 fr (8 + (maxL + 11) + lo')) (h8 : (st.map fun v => v.category).sum ≤ 8) (d : decode cc pc = .ok (.invokevirtual index, 3)) (kk : Rn K G nL cs sl Q (pc + 3) L st M' lo hi []) : Rn K G nL cs sl Q pc L (.ref x :: st) M lo hi [] := by
  intro H locs ls hls hW hS T0 hT X
  have hWd : Wd (subG G dm (fromA lo)) M H := fun kd k i hd => by
    obtain ⟨a1, a2, a3⟩ := h1 kd k i hd
    exact hW.2.2.2 kd k i a1 a2 a3 (fun _ h => nomatch h)
  have hts := C.2.2.2.2.1
  have hrc : ∃ cellB : Cell, H[x]? = some cellB ∧ cellB.vm.isStatics = false ∧ K.2.2.2.2.1.vm.findClass y.cls = some cellB.cls := by
    obtain ⟨cell, q1, q2, q3, q4⟩ := (hWd kd k i hd).1 ci N hk
    obtain ⟨-, hfc, -⟩ := C.2.2.2.2.2.1.1.1 ci _ hc
    have q1 : H[G.1 kd k i]? = some cell := q1
    rw [hx] at q1
    exact ⟨cell, q1, by rw [q3]; rfl, by rw [q2]; exact hfc⟩
  have hrun := va_runV (p := K.1) (l := K.2.1) (e := K.2.2.1) (R := K.2.2.2.1) (s := K.2.2.2.2.1) (m := K.2.2.2.2.2.1) (args := K.2.2.2.2.2.2.1) (below := K.2.2.2.2.2.2.2.1) (meth := K.2.2.2.2.2.2.2.2.1) (c := K.2.2.2.2.2.2.2.2.2) (H := H) (locs := locs) (cells := cs) (slots := sl) (g := F0 K.2.2.2.2.2.1 pc ls (.ref x :: st)) (rest := st) (n := 0) (As := []) (own := own) (C := y.cls) (index := index) ⟨C.1, C.2.1, C.2.2.1, C.2.2.2.1, hts⟩ (hM () M' hres) (cwV 0 hts (fun w hw => by
      unfold wsV at hw
      rcases List.mem_append.mp hw with hw | hw
      · simp only [List.mem_cons, List.not_mem_nil, or_false] at hw
        rcases hw with rfl | rfl | rfl | rfl
        · exact tblG_good _ hl
        · exact tblG_good _ cv.1
        · exact tblG_good _ cv.2.1
        · exact tblG_good _ cv.2.2.1.1
      · exact gw_cons cv.2.2.1.2 w hw) rfl rfl rfl ⟨rfl, cv.2.2.2⟩ ⟨hR.2.2.1, hR.2.2.2⟩) ⟨Pcw.blind, hrc, fun U hU hWm => ⟨rfl, by rw [hU]; exact hWd, (C.2.2.2.2.2.1.nextI hlA hS hU hWm).subw hlA hWa⟩⟩ rfl rfl hls.1 rfl (lv_room h8) d ⟨hR.1, hR.2.1⟩
  obtain ⟨v, st₀, t, T', L9, h0, X', hL, e1, e2, ⟨hv, hw, hz, hk'⟩, stp⟩ := hrun T0 hT X
  cases hv
  rw [h0] at hz hk'
  have hsz : T'.heap.size = hi := by
    have a1 : T'.heap.size ≤ K.2.2.2.2.1.heap.size + (cs + 0) := X'.same.2.2.1
    have a2 : H.size ≤ T'.heap.size := by rw [e1]; exact hz
    have a3 := hW.1
    omega
  have hW' : St G M' lo hi [] T'.heap := ⟨hsz, (fun _ h => nomatch h), List.nodup_nil, fun kd k i hd hlo hlt _ => by
    have := hw kd k i (h2 kd k i hd hlo hlt)
    rw [e1]
    exact this⟩
  obtain ⟨t2, a1, b1⟩ := kk T'.heap (locs ++ L9) ls hls hW'
    ⟨Nat.le_trans hS.1 (by rw [e1]; exact hz), fun q h1 h2 => by rw [e1, hk' q (Nat.lt_of_lt_of_le h1 hS.1) h2]; exact hS.2.1 q h1 h2, fun q hq => by
      rcases List.mem_append.mp hq with h | h
      · exact hS.2.2 q h
      · exact hL q h⟩ T' rfl X'
  exact ⟨t2, stp t2 a1, b1⟩
end BORN

