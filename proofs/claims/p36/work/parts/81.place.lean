/-! ===== where the cells come to lie ===== -/
def mb (k : Nat) : Nat := match k with
  | 0 => 4
  | 1 => 54
  | 2 => 105
  | _ => 155
def off (kd k i : Nat) : Nat := match kd with
  | 0 => 1
  | 1 => 2
  | 2 => 3
  | 3 => mb k
  | 4 => mb k + 1
  | 5 => mb k + 10 + 4 * i
  | 6 => mb k + 11 + 4 * i
  | 7 => mb k + 12 + 4 * i
  | 8 => mb k + 13 + 4 * i
  | 9 => mb k + 2
  | 10 => mb k + 3
  | 11 => mb k + 4
  | 12 => mb k + 5
  | 13 => mb k + 6
  | 14 => mb k + 7
  | 15 => mb k + 8
  | 16 => mb k + 9
  | 17 => 104
  | 18 => 205
  | _ => 0
def dmb (kd k i : Nat) : Bool := match kd with
  | 0 => k == 0 && i == 0
  | 1 => k == 0 && i == 0
  | 2 => k == 0 && i == 0
  | 3 => decide (k < 4) && i == 0
  | 4 => decide (k < 4) && i == 0
  | 5 => decide (k < 4) && decide (i < 10)
  | 6 => decide (k < 4) && decide (i < 10)
  | 7 => decide (k < 4) && decide (i < 10)
  | 8 => decide (k < 4) && decide (i < 10)
  | 9 => decide (k < 4) && i == 0
  | 10 => decide (k < 4) && i == 0
  | 11 => decide (k < 4) && i == 0
  | 12 => decide (k < 4) && i == 0
  | 13 => decide (k < 4) && i == 0
  | 14 => decide (k < 4) && i == 0
  | 15 => decide (k < 4) && i == 0
  | 16 => decide (k < 4) && i == 0
  | 17 => k == 0 && i == 0
  | 18 => k == 0 && i == 0
  | 19 => k == 0 && i == 0
  | _ => false
def nmsL : List (Nat × Nat × Nat) := [(19, 0, 0), (0, 0, 0), (1, 0, 0), (2, 0, 0), (3, 0, 0), (4, 0, 0), (9, 0, 0), (10, 0, 0), (11, 0, 0), (12, 0, 0), (13, 0, 0), (14, 0, 0), (15, 0, 0), (16, 0, 0), (5, 0, 0), (6, 0, 0), (7, 0, 0), (8, 0, 0), (5, 0, 1), (6, 0, 1), (7, 0, 1), (8, 0, 1), (5, 0, 2), (6, 0, 2), (7, 0, 2), (8, 0, 2), (5, 0, 3), (6, 0, 3), (7, 0, 3), (8, 0, 3), (5, 0, 4), (6, 0, 4), (7, 0, 4), (8, 0, 4), (5, 0, 5), (6, 0, 5), (7, 0, 5), (8, 0, 5), (5, 0, 6), (6, 0, 6), (7, 0, 6), (8, 0, 6), (5, 0, 7), (6, 0, 7), (7, 0, 7), (8, 0, 7), (5, 0, 8), (6, 0, 8), (7, 0, 8), (8, 0, 8), (5, 0, 9), (6, 0, 9), (7, 0, 9), (8, 0, 9), (3, 1, 0), (4, 1, 0), (9, 1, 0), (10, 1, 0), (11, 1, 0), (12, 1, 0), (13, 1, 0), (14, 1, 0), (15, 1, 0), (16, 1, 0), (5, 1, 0), (6, 1, 0), (7, 1, 0), (8, 1, 0), (5, 1, 1), (6, 1, 1), (7, 1, 1), (8, 1, 1), (5, 1, 2), (6, 1, 2), (7, 1, 2), (8, 1, 2), (5, 1, 3), (6, 1, 3), (7, 1, 3), (8, 1, 3), (5, 1, 4), (6, 1, 4), (7, 1, 4), (8, 1, 4), (5, 1, 5), (6, 1, 5), (7, 1, 5), (8, 1, 5), (5, 1, 6), (6, 1, 6), (7, 1, 6), (8, 1, 6), (5, 1, 7), (6, 1, 7), (7, 1, 7), (8, 1, 7), (5, 1, 8), (6, 1, 8), (7, 1, 8), (8, 1, 8), (5, 1, 9), (6, 1, 9), (7, 1, 9), (8, 1, 9), (17, 0, 0), (3, 2, 0), (4, 2, 0), (9, 2, 0), (10, 2, 0), (11, 2, 0), (12, 2, 0), (13, 2, 0), (14, 2, 0), (15, 2, 0), (16, 2, 0), (5, 2, 0), (6, 2, 0), (7, 2, 0), (8, 2, 0), (5, 2, 1), (6, 2, 1), (7, 2, 1), (8, 2, 1), (5, 2, 2), (6, 2, 2), (7, 2, 2), (8, 2, 2), (5, 2, 3), (6, 2, 3), (7, 2, 3), (8, 2, 3), (5, 2, 4), (6, 2, 4), (7, 2, 4), (8, 2, 4), (5, 2, 5), (6, 2, 5), (7, 2, 5), (8, 2, 5), (5, 2, 6), (6, 2, 6), (7, 2, 6), (8, 2, 6), (5, 2, 7), (6, 2, 7), (7, 2, 7), (8, 2, 7), (5, 2, 8), (6, 2, 8), (7, 2, 8), (8, 2, 8), (5, 2, 9), (6, 2, 9), (7, 2, 9), (8, 2, 9), (3, 3, 0), (4, 3, 0), (9, 3, 0), (10, 3, 0), (11, 3, 0), (12, 3, 0), (13, 3, 0), (14, 3, 0), (15, 3, 0), (16, 3, 0), (5, 3, 0), (6, 3, 0), (7, 3, 0), (8, 3, 0), (5, 3, 1), (6, 3, 1), (7, 3, 1), (8, 3, 1), (5, 3, 2), (6, 3, 2), (7, 3, 2), (8, 3, 2), (5, 3, 3), (6, 3, 3), (7, 3, 3), (8, 3, 3), (5, 3, 4), (6, 3, 4), (7, 3, 4), (8, 3, 4), (5, 3, 5), (6, 3, 5), (7, 3, 5), (8, 3, 5), (5, 3, 6), (6, 3, 6), (7, 3, 6), (8, 3, 6), (5, 3, 7), (6, 3, 7), (7, 3, 7), (8, 3, 7), (5, 3, 8), (6, 3, 8), (7, 3, 8), (8, 3, 8), (5, 3, 9), (6, 3, 9), (7, 3, 9), (8, 3, 9), (18, 0, 0)]
abbrev GX : Type := va_G × (Nat → ClassId) × (Nat → Nat) × (Nat → Nat) × (Nat → Nat)
def GN (h0 : Nat) (X : GX) : WT := (fun kd k i => h0 + off kd k i, X.1, X.2.1, fun kd k i => dmb kd k i = true, fromA h0, X.2.2)
def allN (f : Nat → Nat → Nat → Bool) : Bool := (List.range 20).all fun kd => (List.range 4).all fun k => (List.range 10).all fun i => f kd k i
theorem allN_ok {f : Nat → Nat → Nat → Bool} (h : allN f = true) {kd k i : Nat} (h1 : kd < 20) (h2 : k < 4) (h3 : i < 10) : f kd k i = true := by
  have a := List.all_eq_true.mp h kd (List.mem_range.mpr h1)
  have b := List.all_eq_true.mp a k (List.mem_range.mpr h2)
  exact List.all_eq_true.mp b i (List.mem_range.mpr h3)
theorem nm_all : allN (fun kd k i => !dmb kd k i || nmsL[off kd k i]? == some (kd, k, i)) = true := by decide +kernel
theorem blk_all : (List.range 4).all (fun k => allN (fun kd k' i => !(dmb kd k' i && decide (mb k ≤ off kd k' i) && decide (off kd k' i < mb k + 50)) || (decide (k' = k) && decide (3 ≤ kd) && decide (kd ≤ 16)))) = true := by decide +kernel
theorem bin_all : allN (fun kd k i => !(dmb kd k i && decide (3 ≤ kd) && decide (kd ≤ 16)) || (decide (mb k ≤ off kd k i) && decide (off kd k i < mb k + 50))) = true := by decide +kernel
theorem olt_all : allN (fun kd k i => !dmb kd k i || decide (off kd k i < 206)) = true := by decide +kernel
theorem nm_ok : ∀ kd, kd < 20 → ∀ k, k < 4 → ∀ i, i < 10 → dmb kd k i = true → nmsL[off kd k i]? = some (kd, k, i) := fun kd a k b i c h => by
  have := allN_ok nm_all a b c
  simpa [h] using this
theorem dmb_lt {kd k i : Nat} (h : dmb kd k i = true) : kd < 20 ∧ k < 4 ∧ i < 10 := by
  unfold dmb at h
  split at h <;> first | exact absurd h Bool.false_ne_true | (simp only [Bool.and_eq_true, decide_eq_true_eq, beq_iff_eq] at h; omega)
theorem off_inj {kd k i kd' k' i' : Nat} (h : dmb kd k i = true) (h' : dmb kd' k' i' = true) (e : off kd k i = off kd' k' i') : kd = kd' ∧ k = k' ∧ i = i' := by
  obtain ⟨a1, a2, a3⟩ := dmb_lt h
  obtain ⟨b1, b2, b3⟩ := dmb_lt h'
  have e1 := nm_ok kd a1 k a2 i a3 h
  have e2 := nm_ok kd' b1 k' b2 i' b3 h'
  rw [e] at e1
  have := e1.symm.trans e2
  simp only [Option.some.injEq, Prod.mk.injEq] at this
  exact this
theorem off_lt : ∀ kd, kd < 20 → ∀ k, k < 4 → ∀ i, i < 10 → dmb kd k i = true → off kd k i < 206 := fun kd a k b i c h => by
  have := allN_ok olt_all a b c
  simpa [h] using this
/-- what a machine's cells refer to are its cells -/
def dmK (k : Nat) (kd k' i : Nat) : Prop := dmb kd k' i = true ∧ k' = k ∧ 3 ≤ kd ∧ kd ≤ 16
theorem blk_ok : ∀ k, k < 4 → ∀ kd, kd < 20 → ∀ k', k' < 4 → ∀ i, i < 10 → dmb kd k' i = true → mb k ≤ off kd k' i → off kd k' i < mb k + 50 → k' = k ∧ 3 ≤ kd ∧ kd ≤ 16 := fun k hk kd a k' b i c h h1 h2 => by
  have := allN_ok (List.all_eq_true.mp blk_all k (List.mem_range.mpr hk)) a b c
  simpa [h, h1, h2, and_assoc] using this
theorem blk_in : ∀ k, k < 4 → ∀ kd, kd < 20 → ∀ i, i < 10 → dmb kd k i = true → 3 ≤ kd → kd ≤ 16 → mb k ≤ off kd k i ∧ off kd k i < mb k + 50 := fun k b kd a i c h h1 h2 => by
  have := allN_ok bin_all a b c
  simpa [h, h1, h2] using this
theorem GN_cl {h0 : Nat} {X : GX} {kd k i j : Nat} {c : Nat × Nat × Nat} (h : dmb kd k i = true) (hj : (∃ ci N, kc kd = some (ci, N) ∧ j < N) ∨ (∃ ti n, ka kd = some (ti, n) ∧ j < n)) (hf : ft kd k i j = some c) : dmb c.1 c.2.1 c.2.2 = true := by
  have hlt := dmb_lt h
  unfold ft at hf
  split at hf
  · split at hf <;> cases hf <;> simp_all [dmb]
  · split at hf <;> cases hf <;> simp_all [dmb]
  · split at hf <;> cases hf <;> simp_all [dmb]
  · cases hf
    simp only [kc, ka, Option.some.injEq, Prod.mk.injEq, reduceCtorEq, false_and, exists_false, false_or] at hj
    obtain ⟨ti, n, ⟨rfl, rfl⟩, hj⟩ := hj
    simp_all [dmb]
  · split at hf <;> cases hf <;> simp_all [dmb]
  · split at hf <;> cases hf <;> simp_all [dmb]
  · split at hf <;> cases hf <;> simp_all [dmb]
  · cases hf
    simp only [kc, ka, Option.some.injEq, Prod.mk.injEq, reduceCtorEq, false_and, exists_false, false_or] at hj
    obtain ⟨ti, n, ⟨rfl, rfl⟩, hj⟩ := hj
    simp_all [dmb]
    omega
  · split at hf <;> cases hf <;> simp_all [dmb]
  · cases hf
theorem ft_same {kd k i j : Nat} {c : Nat × Nat × Nat} (h3 : 3 ≤ kd) (h16 : kd ≤ 16) (hf : ft kd k i j = some c) : c.2.1 = k ∧ 3 ≤ c.1 ∧ c.1 ≤ 16 := by
  unfold ft at hf
  split at hf
  · omega
  · omega
  · split at hf <;> cases hf <;> exact ⟨rfl, Nat.le_of_ble_eq_true rfl, Nat.le_of_ble_eq_true rfl⟩
  · cases hf; exact ⟨rfl, Nat.le_of_ble_eq_true rfl, Nat.le_of_ble_eq_true rfl⟩
  · split at hf <;> cases hf <;> exact ⟨rfl, Nat.le_of_ble_eq_true rfl, Nat.le_of_ble_eq_true rfl⟩
  · split at hf <;> cases hf <;> exact ⟨rfl, Nat.le_of_ble_eq_true rfl, Nat.le_of_ble_eq_true rfl⟩
  · split at hf <;> cases hf <;> exact ⟨rfl, Nat.le_of_ble_eq_true rfl, Nat.le_of_ble_eq_true rfl⟩
  · omega
  · omega
  · cases hf
theorem wa_GN (h0 : Nat) (X : GX) : Wa (GN h0 X) := by
  refine ⟨fun kd k i kd' k' i' h h' e => off_inj h h' ?_, fun kd k i h => Nat.le_add_right _ _, fun kd k i j c h hj hf => GN_cl (h0 := h0) (X := X) h hj hf⟩
  have e : h0 + off kd k i = h0 + off kd' k' i' := e
  omega
theorem wa_mach {h0 k : Nat} {X : GX} (hk : k < 4) : Wa (subG (GN h0 X) (dmK k) (fromA (h0 + mb k))) := by
  refine ⟨fun kd k' i kd' k'' i' h h' e => (wa_GN h0 X).1 _ _ _ _ _ _ h.1 h'.1 e, fun kd k' i h => ?_, fun kd k' i j c h hj hf => ?_⟩
  · obtain ⟨h1, rfl, h3, h4⟩ := h
    obtain ⟨a1, a2, a3⟩ := dmb_lt h1
    have := blk_in k' hk kd a1 i a3 h1 h3 h4
    show h0 + mb k' ≤ h0 + off kd k' i
    omega
  · obtain ⟨h1, rfl, h3, h4⟩ := h
    have hs := ft_same h3 h4 hf
    exact ⟨GN_cl (h0 := h0) (X := X) h1 hj hf, hs⟩
theorem w0_mach {h0 k : Nat} {X : GX} : W0 (subG (GN h0 X) (dmK k) (fromA (h0 + mb k))) := fun kd k' i h h19 => by
  obtain ⟨-, -, -, h4⟩ := h
  omega
theorem w0_GN {h0 : Nat} {X : GX} : W0 (GN h0 X) := fun kd k i h h19 => by
  have h : dmb kd k i = true := h
  unfold dmb at h
  split at h <;> first | omega | exact absurd h Bool.false_ne_true | (simp only [Bool.and_eq_true, decide_eq_true_eq, beq_iff_eq] at h; exact ⟨h.1, h.2⟩)
/-- the memory at the start; what the constructors leave -/
def M0 : Mem := (fun _ _ _ _ => 0, 0, 0, 0)
def getM (r : Option (Unit × Mem)) : Mem := match r with
  | some x => x.2
  | none => M0
def Mc (k : Nat) : Mem := getM (pX3_clear k M0)
def Mst : Mem := (fun kd k i j => if kd = 1 then (if j = 3 then -1 else 0) else if 3 ≤ kd ∧ kd ≤ 16 then (Mc k).1 kd k i j else 0, 0, 0, 0)
theorem c_rws {K : KT} {G : WT} {nL cs sl : Nat} {pc : Nat} {L : List (Nat × Value)} {st : List Value} {M : Mem} {lo hi : Nat} {Q : State → Prop} {rws rws' : List (Nat × Dsc)} (h : rws = rws') (k : Rn K G nL cs sl Q pc L st M lo hi rws') : Rn K G nL cs sl Q pc L st M lo hi rws := h ▸ k
theorem c_hi {K : KT} {G : WT} {nL cs sl : Nat} {pc : Nat} {L : List (Nat × Value)} {st : List Value} {M : Mem} {lo hi hi' : Nat} {Q : State → Prop} {rws : List (Nat × Dsc)} (h : hi = hi') (k : Rn K G nL cs sl Q pc L st M lo hi' rws) : Rn K G nL cs sl Q pc L st M lo hi rws := h ▸ k
theorem c_aastV {K : KT} {G : WT} {own : String} {cc : ByteArray} {nL cs sl : Nat} {ret : Option FieldType} {pc : Nat} {L : List (Nat × Value)} {st : List Value} {M : Mem} {lo hi : Nat} {Q : State → Prop} {rws : List (Nat × Dsc)} {a p n ti kd k i ci N q : Nat} {Cn : String} {T : u_T} {V : Nat → Value} {x : Int32} (C : Cx K G own cc nL ret) (hp : rws[p]? = some (a, (1, ti, n, V))) (hty : (tysOf G.2.2.1)[ti]? = some (G.2.2.1 ti, .object Cn)) (hc : wCl[ci]? = some (Cn, T, N)) (hk : kc kd = some (ci, N)) (hd : G.2.2.2.1 kd k i) (hq : G.1 kd k i = q) (hlo : lo ≤ q) (hhi : q < hi) (hne : ∀ r ∈ rws, r.1 ≠ q) (hb : inB x n = true) (halo : lo ≤ a) (d : decode cc pc = .ok (.aastore, 1))
    (kk : Rn K G nL cs sl Q (pc + 1) L st M lo hi (rws.set p (a, (1, ti, n, updV V x.toNatClampNeg (.ref q))))) : Rn K G nL cs sl Q pc L (.ref q :: .int x :: .ref a :: st) M lo hi rws := by
  subst hq
  exact c_aast C hp hty hc hk hd hlo hhi hne hb halo d kk
theorem aw_byte : (Jvm.Cond.arrayClass Jvm.ClassFile.FieldType.byte) ∈ tblG := tblG_t (List.mem_of_getElem? (i := 55) (by decide +kernel)) (by decide +kernel)
theorem aw_int : (Jvm.Cond.arrayClass Jvm.ClassFile.FieldType.int) ∈ tblG := tblG_t (List.mem_of_getElem? (i := 82) (by decide +kernel)) (by decide +kernel)
theorem aw_boolean : (Jvm.Cond.arrayClass Jvm.ClassFile.FieldType.boolean) ∈ tblG := tblG_t (List.mem_of_getElem? (i := 272) (by decide +kernel)) (by decide +kernel)
