/-! ===== what the world is given at the start: out of the tables' words and the start's ===== -/
def jw_flat : Jvm.Cond → List Jvm.Cond → List Jvm.Cond
  | .and a b, acc => jw_flat a (jw_flat b acc)
  | c, acc => c :: acc
theorem jw_flat_before {args : Array Value} {s : State} (T : Jvm.Cond) : T.before args s = true → ∀ acc : List Jvm.Cond, (∀ c ∈ acc, c.before args s = true) → ∀ c ∈ jw_flat T acc, c.before args s = true := by
  induction T with
  | and a b iha ihb =>
    intro h acc ha c hc
    rw [Cond.before_and, Bool.and_eq_true] at h
    exact iha h.1 _ (ihb h.2 acc ha) c hc
  | _ =>
    intro h acc ha c hc
    rcases List.mem_cons.mp hc with hc | hc
    · rw [hc]; exact h
    · exact ha c hc
def jw_L : List Jvm.Cond := jw_flat narrow_1 []
def jw_ix : List Nat := [244, 86, 237, 108, 240, 233]
def jw_tm (i : Nat) : Term := .string "PermitPark" (jw_ix.getD (i - 14) 0)
def jw_sb : List Nat := [187, 214, 239, 267, 307, 335]
def jw_nm : List String := ["RUN", "PARK", "NAP", "AWAIT", "SET", "CLEAR", "WAKE", "TELL", "STEAL", "LOCK", "UNLOCK"]
def jw_op (i : Nat) : Term := .static "PermitPark$Op" (jw_nm.getD i "") "LPermitPark$Op;"
def jw_ob : List Nat := [34, 38, 43, 49, 56, 64, 73, 83, 94, 106, 119]
abbrev jw_tO : Term := .static "PermitPark" "OPS" "[LPermitPark$Op;"
abbrev jw_tS : Term := .static "PermitPark$1" "$SwitchMap$PermitPark$Op" "[I"
/-! their places, by the kernel -/
section JWPLACES
set_option maxRecDepth 100000
theorem jw_ex : ∀ i, i < 6 → jw_L[jw_sb.getD i 0]? = some (Cond.exactly (jw_tm (i + 14)) "java/lang/String") := by decide +kernel
theorem jw_oX : ∀ i, i < 11 → jw_L[jw_ob.getD i 0]? = some (Cond.exactly (jw_op i) "PermitPark$Op") := by decide +kernel
theorem jw_oR : ∀ i, i < 11 → jw_L[jw_ob.getD i 0 + 1]? = some (Cond.eq (.field (jw_op i) "java/lang/Enum" "ordinal" "I") (.int (nI i))) := by decide +kernel
theorem jw_oL : ∀ i, i < 11 → jw_L[jw_ob.getD i 0 + 2]? = some (Cond.eq (.field (jw_op i) "PermitPark$Op" "least" "I") (.int (xLeast.getD i 0))) := by decide +kernel
theorem jw_oM : ∀ i, i < 11 → jw_L[jw_ob.getD i 0 + 3]? = some (Cond.eq (.field (jw_op i) "PermitPark$Op" "most" "I") (.int (xMost.getD i 0))) := by decide +kernel
theorem jw_ord : ∀ i, i < 11 → ∀ j, j < 11 → nI i = nI j → i = j := by decide +kernel
theorem jw_pA : jw_L[6]? = some (Cond.arrayOf jw_tO (.object "PermitPark$Op")) := by decide +kernel
theorem jw_pL : jw_L[7]? = some (Cond.eq (.length jw_tO) (.int (Int32.ofNat 11))) := by decide +kernel
theorem jw_pE : ∀ j, j < 11 → jw_L[9 + j]? = some (Cond.eq (.elem jw_tO (.int (Int32.ofNat j))) (jw_op j)) := by decide +kernel
theorem jw_sA : jw_L[21]? = some (Cond.arrayOf jw_tS .int) := by decide +kernel
theorem jw_sL : jw_L[22]? = some (Cond.eq (.length jw_tS) (.int (Int32.ofNat 11))) := by decide +kernel
theorem jw_sE : ∀ j, j < 11 → jw_L[23 + j]? = some (Cond.eq (.elem jw_tS (.int (Int32.ofNat j))) (.int (nI (if j < 10 then j + 1 else 0)))) := by decide +kernel
theorem jw_pU : jw_L[2]? = some (Cond.isRef (.static Bundle.tN "UNASSIGNED_STACK" Bundle.steD)) := by decide +kernel
theorem jw_pS : jw_L[3]? = some (Cond.isRef (.static Bundle.tN "SUPPRESSED_SENTINEL" Bundle.listD)) := by decide +kernel
theorem jw_nL : ∀ w ∈ NwL, w.onTables = true ∧ w ∈ tables_1 := by decide +kernel
theorem jw_nD : ∀ w ∈ NwDl, w.onTables = true ∧ w ∈ tables_1 := by decide +kernel
theorem jw_nC : ∀ q ∈ NwC, Cond.not (.castable q.1 q.2) ∈ jw_L := by decide +kernel
theorem jw_nR : ∀ q ∈ NwS, Cond.stringRef q.1 q.2.1 q.2.2.1 ∈ tables_1 := by decide +kernel
theorem jw_nS : ∀ q ∈ NwS, 14 ≤ q.2.2.2 ∧ q.2.2.2 < 20 ∧ Term.string q.1 q.2.1 = jw_tm q.2.2.2 := by decide +kernel
theorem jw_tr : flags0.contains Jvm.noTraceFlag = true := by decide +kernel
end JWPLACES
/-! from words to facts -/
section JWFACTS
variable {args : Array Value} {s : State} {A : Nat → Prop}
theorem jw_h (h : (Jvm.Cond.and given_1 narrow_1).before args s = true) : ∀ w ∈ jw_L, w.before args s = true := by
  rw [Cond.before_and, Bool.and_eq_true] at h
  exact jw_flat_before narrow_1 h.2 [] (fun c hc => by cases hc)
theorem jw_at (hg : ∀ w ∈ jw_L, w.before args s = true) {i : Nat} {w : Cond} (e : jw_L[i]? = some w) : w.before args s = true := hg w (List.mem_of_getElem? e)
theorem jw_t (hts : ∀ w ∈ lw_tbl, w.before args s = true) (i : Nat) {w : Cond} (e : tables_1[i]? = some w) : w.before args s = true := hts w (List.mem_append_right _ (List.mem_of_getElem? e))
theorem jw_OFd {o n d : String} {v w : Value} {t : Nat} {U : State} {H : Heap} (h : va_OF o n d v t A U H) (k : va_OF o n d w t A U H) : v = w := by
  obtain ⟨cf, kk, i, f, cell, h1, h2, h3, h4, h5, h6⟩ := h
  obtain ⟨cf', kk', i', f', cell', g1, g2, g3, g4, g5, g6⟩ := k
  cases h1.symm.trans g1
  cases h3.symm.trans g3
  exact Option.some.inj (h5.symm.trans g5)
theorem jw_ev {t : Term} {nm : String} (hex : (Cond.exactly t nm).before args s = true) : ∃ a : Nat, t.eval args s none [] s = some (.ref a) := by
  obtain ⟨a, c, cA, kA, q1, -⟩ := Cond.exactly_spec (args := args) (first := s) (o := none) (s := s) (idx := []) (t := t) (cls := nm) hex
  exact ⟨a, q1⟩
theorem jw_strs (hg : ∀ w ∈ jw_L, w.before args s = true) : ∃ ad : Nat → Nat, ∀ i, 14 ≤ i → i < 20 → (jw_tm i).eval args s none [] s = some (.ref (ad i)) := by
  have h0 : ∀ i : Nat, ∃ a : Nat, 14 ≤ i → i < 20 → (jw_tm i).eval args s none [] s = some (.ref a) := by
    intro i
    by_cases hi : 14 ≤ i ∧ i < 20
    · obtain ⟨j, rfl⟩ : ∃ j, i = j + 14 := ⟨i - 14, by omega⟩
      obtain ⟨a, ha⟩ := jw_ev (jw_at hg (jw_ex j (by omega)))
      exact ⟨a, fun _ _ => ha⟩
    · exact ⟨0, fun h1 h2 => absurd ⟨h1, h2⟩ hi⟩
  obtain ⟨ad, had⟩ := Classical.axiomOfChoice h0
  exact ⟨ad, had⟩
theorem jw_nI (x : Int32) : nI x.toBitVec.toNat = x := by
  show Int32.ofNat x.toBitVec.toNat = x
  simp
theorem jw_ops (hg : ∀ w ∈ jw_L, w.before args s = true) : ∃ od : Nat → Nat, ∀ i, i < 11 → (jw_op i).eval args s none [] s = some (.ref (od i)) := by
  have h0 : ∀ i : Nat, ∃ a : Nat, i < 11 → (jw_op i).eval args s none [] s = some (.ref a) := by
    intro i
    by_cases hi : i < 11
    · obtain ⟨a, ha⟩ := jw_ev (jw_at hg (jw_oX i hi))
      exact ⟨a, fun _ => ha⟩
    · exact ⟨0, fun h => absurd h hi⟩
  exact Classical.axiomOfChoice h0
theorem jw_prim {ty : FieldType} (h : (Cond.arrayClass ty).before args s = true) : ∃ cA : ClassId, ArrOfT s cA ty ∧ s.vm.findClass ("[" ++ ty.toString) = some cA := by
  obtain ⟨c, k, comp, h1, h2, h3⟩ := Cond.arrayClass_spec h
  exact ⟨c, fun n z => ⟨fun k h => (by cases h), k, h2, comp, h3⟩, h1⟩
theorem jw_obj {C : String} (h : va_AO C s) : ∃ cA : ClassId, ArrOfT s cA (.object C) ∧ va_RA s cA (.object C) := by
  obtain ⟨comp, c, k, h1, h2, h3, h4, h5⟩ := Cond.arrayOver_spec h
  exact ⟨c, fun n z => ⟨fun k h => (by cases h), k, h3, comp, h4⟩, k, comp, h3, h4, h1, h5⟩
theorem jw_K (hts : ∀ w ∈ lw_tbl, w.before args s = true) : ∃ (D : va_G) (cy : Nat → ClassId), va_K D wCl (tysOf cy) s := by
  have htb : ∀ w ∈ tblG, w.before args s = true := fun w hw => hts w (tblG_sub hw)
  obtain ⟨c0, i0, k0⟩ := u_known htb wIn_1 (jw_t hts 65 (by decide +kernel) : (Cond.instantiable "PermitPark$Locks" 3).before args s = true)
  obtain ⟨c1, i1, k1⟩ := u_known htb wIn_2 (jw_t hts 84 (by decide +kernel) : (Cond.instantiable "PermitPark$Log" 4).before args s = true)
  obtain ⟨c2, i2, k2⟩ := u_known htb wIn_3 (jw_t hts 57 (by decide +kernel) : (Cond.instantiable "PermitPark$Machine" 16).before args s = true)
  obtain ⟨c3, i3, k3⟩ := u_known htb wIn_5 (jw_t hts 31 (by decide +kernel) : (Cond.instantiable "PermitPark$SetupText" 8).before args s = true)
  obtain ⟨c4, i4, k4⟩ := u_known htb wIn_6 (jw_t hts 105 (by decide +kernel) : (Cond.instantiable "PermitPark$Strand" 18).before args s = true)
  obtain ⟨c5, i5, k5⟩ := u_known htb wIn_7 (jw_t hts 25 (by decide +kernel) : (Cond.instantiable "PermitPark" 5).before args s = true)
  obtain ⟨c6, i6, k6⟩ := u_known htb wIn_9 (jw_t hts 17 (by decide +kernel) : (Cond.instantiable "PermitParkLaw" 3).before args s = true)
  obtain ⟨y0, a0, b0⟩ := jw_prim (jw_t hts 82 (by decide +kernel) : (Cond.arrayClass .int).before args s = true)
  obtain ⟨y1, a1, b1⟩ := jw_prim (jw_t hts 55 (by decide +kernel) : (Cond.arrayClass .byte).before args s = true)
  obtain ⟨y2, a2, b2⟩ := jw_prim (jw_t hts 272 (by decide +kernel) : (Cond.arrayClass .boolean).before args s = true)
  obtain ⟨y3, a3, b3⟩ := jw_obj (va_AO.of (jw_t hts 63 (by decide +kernel) : (Cond.arrayOver (.object "PermitPark$Strand")).before args s = true))
  obtain ⟨y4, a4, b4⟩ := jw_obj (va_AO.of (jw_t hts 255 (by decide +kernel) : (Cond.arrayOver (.object "PermitPark$Machine")).before args s = true))
  refine ⟨((fun k => match k with | 0 => c0 | 1 => c1 | 2 => c2 | 3 => c3 | 4 => c4 | 5 => c5 | _ => c6), (fun k => match k with | 0 => i0 | 1 => i1 | 2 => i2 | 3 => i3 | 4 => i4 | 5 => i5 | _ => i6)), (fun k => match k with | 0 => y0 | 1 => y1 | 2 => y2 | 3 => y3 | _ => y4), fun k q hq => ?_, fun k q hq => ?_⟩
  · match k, hq with
    | 0, hq => cases hq; exact k0
    | 1, hq => cases hq; exact k1
    | 2, hq => cases hq; exact k2
    | 3, hq => cases hq; exact k3
    | 4, hq => cases hq; exact k4
    | 5, hq => cases hq; exact k5
    | 6, hq => cases hq; exact k6
    | n + 7, hq => exact absurd (List.getElem?_eq_some_iff.mp hq).1 (by show ¬ n + 7 < 7; omega)
  · match k, hq with
    | 0, hq => cases hq; exact ⟨a0, b0⟩
    | 1, hq => cases hq; exact ⟨a1, b1⟩
    | 2, hq => cases hq; exact ⟨a2, b2⟩
    | 3, hq => cases hq; exact ⟨a3, b3⟩
    | 4, hq => cases hq; exact ⟨a4, b4⟩
    | n + 5, hq => exact absurd (List.getElem?_eq_some_iff.mp hq).1 (by show ¬ n + 5 < 5; omega)
theorem jw_Ext {b L : Nat} {xs : Nat → Int32} (hts : ∀ w ∈ lw_tbl, w.before args s = true) (hg : ∀ w ∈ jw_L, w.before args s = true) (hx : va_X b L xs s s.heap) (hb : b < s.heap.size) : ∃ O S V : Nat → Nat, (∀ (D : va_G) (cy : Nat → ClassId), Ext (GN s.heap.size (D, cy, O, S, V)) s s.heap) ∧ (∀ i, 14 ≤ i → i < 20 → (jw_tm i).eval args s none [] s = some (.ref (S i))) ∧ O 102 = b ∧ O 103 = L := by
  have hA : ∀ a : Nat, a < s.heap.size → ¬ fromA s.heap.size a := fun a h1 h2 => Nat.not_le.mpr h1 h2
  obtain ⟨S, hSe⟩ := jw_strs hg
  obtain ⟨od, hod⟩ := jw_ops hg
  obtain ⟨tO, eO, hO⟩ := va_Tof (ty := .object "PermitPark$Op") (N := 11) (f := fun j => .ref (od j)) (A := fromA s.heap.size) (by decide) (jw_at hg jw_pA) (va_eqt (jw_at hg jw_pL)) (fun j hj => va_eqv (jw_at hg (jw_pE j hj)) (hod j hj)) hA
  obtain ⟨tS, eS, hSw⟩ := va_Tof (ty := .int) (N := 11) (f := fun j => .int (nI (if j < 10 then j + 1 else 0))) (A := fromA s.heap.size) (by decide) (jw_at hg jw_sA) (va_eqt (jw_at hg jw_sL)) (fun j hj => va_eqt (jw_at hg (jw_sE j hj))) hA
  have hR : ∀ i, i < 11 → va_OF "java/lang/Enum" "ordinal" "I" (.int (nI i)) (od i) (fromA s.heap.size) s s.heap := fun i hi => vk_OFof (hod i hi) (va_eqt (jw_at hg (jw_oR i hi))) hA
  have e11 : ∀ j : Nat, j < 11 → (if j = 100 then tO else if j = 101 then tS else if j = 102 then b else if j = 103 then L else od j) = od j := fun j hj => by
    rw [if_neg (by omega), if_neg (by omega), if_neg (by omega), if_neg (by omega)]
  refine ⟨fun j => if j = 100 then tO else if j = 101 then tS else if j = 102 then b else if j = 103 then L else od j, S, fun j => (xs j).toBitVec.toNat, fun D cy => ⟨?_, ?_, fun i hi => ?_, fun i j hi hj e => ?_, trivial, ?_, hSw, ?_, trivial, trivial, ?_, ?_⟩, hSe, rfl, rfl⟩
  · exact va_Zref (jw_t hts 389 (by decide +kernel)) (jw_t hts 1 (by decide +kernel)) eO hA
  · obtain ⟨cell, h1, h2, h3, h4, h5, h6, h7⟩ := hO
    refine ⟨cell, h1, h2, h3, h4, h5, fun j hj => ?_, h7⟩
    show cell.slots[j]? = some (.ref (if j = 100 then tO else if j = 101 then tS else if j = 102 then b else if j = 103 then L else od j))
    rw [e11 j hj]
    exact h6 j hj
  · show va_O "PermitPark$Op" (if i = 100 then tO else if i = 101 then tS else if i = 102 then b else if i = 103 then L else od i) (fromA s.heap.size) s s.heap ∧ va_OF "java/lang/Enum" "ordinal" "I" (.int (nI i)) (if i = 100 then tO else if i = 101 then tS else if i = 102 then b else if i = 103 then L else od i) (fromA s.heap.size) s s.heap ∧ True ∧ va_OF "PermitPark$Op" "least" "I" (.int (xLeast.getD i 0)) (if i = 100 then tO else if i = 101 then tS else if i = 102 then b else if i = 103 then L else od i) (fromA s.heap.size) s s.heap ∧ va_OF "PermitPark$Op" "most" "I" (.int (xMost.getD i 0)) (if i = 100 then tO else if i = 101 then tS else if i = 102 then b else if i = 103 then L else od i) (fromA s.heap.size) s s.heap
    rw [e11 i hi]
    exact ⟨va_Oof (jw_at hg (jw_oX i hi)) (hod i hi) hA, hR i hi, trivial, vk_OFof (hod i hi) (va_eqt (jw_at hg (jw_oL i hi))) hA, vk_OFof (hod i hi) (va_eqt (jw_at hg (jw_oM i hi))) hA⟩
  · have e : (if i = 100 then tO else if i = 101 then tS else if i = 102 then b else if i = 103 then L else od i) = (if j = 100 then tO else if j = 101 then tS else if j = 102 then b else if j = 103 then L else od j) := e
    rw [e11 i hi, e11 j hj] at e
    have h1 := hR i hi
    rw [e] at h1
    exact jw_ord i hi j hj (Value.int.inj (jw_OFd h1 (hR j hj)))
  · exact va_Zref (jw_t hts 589 (by decide +kernel)) (jw_t hts 15 (by decide +kernel)) eS hA
  · obtain ⟨scr, x1, x2, x3, x4, x5⟩ := hx
    refine ⟨scr, x1, x2, x3, Nat.le_of_eq x4.symm, congrArg Nat.toInt32 x4, fun j hj => ?_, hA b hb⟩
    rw [x5 j hj]
    show some (Value.int (xs j)) = some (.int (nI (xs j).toBitVec.toNat))
    rw [jw_nI]
  · exact vx_Zqof (jw_t hts 345 (by decide +kernel)) (jw_t hts 8 (by decide +kernel)) (jw_at hg jw_pU) hA
  · exact vx_Zqof (jw_t hts 347 (by decide +kernel)) (jw_t hts 8 (by decide +kernel)) (jw_at hg jw_pS) hA
theorem jw_world {b L : Nat} {xs : Nat → Int32} (hts : ∀ w ∈ lw_tbl, w.before args s = true) (hgv : (Jvm.Cond.and given_1 narrow_1).before args s = true) (hx : va_X b L xs s s.heap) (hb : b < s.heap.size) : ∃ X : GX, Ws (GN s.heap.size X) s ∧ AOs s ∧ NwD s ∧ X.2.2.1 102 = b ∧ X.2.2.1 103 = L := by
  have hg := jw_h hgv
  have htt : ∀ w ∈ tables_1, w.before args s = true := fun w hw => hts w (List.mem_append_right _ hw)
  obtain ⟨D, cy, hK⟩ := jw_K hts
  obtain ⟨O, S, V, hE, hS, e1, e2⟩ := jw_Ext hts hg hx hb
  refine ⟨(D, cy, O, S, V), ⟨hK, wa_GN _ _, hE D cy, fun w hw => va_Nw.of (jw_nL w hw).1 (htt w (jw_nL w hw).2), fun q hq => va_Nc.of (hg _ (jw_nC q hq)), fun q hq => ?_⟩, ⟨?_, ?_⟩, fun w hw => va_Nw.of (jw_nD w hw).1 (htt w (jw_nD w hw).2), e1, e2⟩
  · obtain ⟨h14, h20, h⟩ := jw_nS q hq
    refine vk_R.of (A := args) (htt _ (jw_nR q hq)) ?_
    rw [h]; exact hS _ h14 h20
  · exact va_AO.of (jw_t hts 63 (by decide +kernel))
  · exact va_AO.of (jw_t hts 255 (by decide +kernel))
end JWFACTS
