/-! ===== who is done stays done; returns only grow ===== -/
section K3S
variable {T t u l x z q n d k : Nat} {A A' B : AS} {stk stk' : List Nat}
def K3 (A A' : AS) : Prop := ∀ u, u < 10 → A.1 u 3 = 3 → A'.1 u 3 = 3
theorem K3.refl (A : AS) : K3 A A := fun _ _ h => h
theorem K3.trans (h : K3 A B) (h2 : K3 B A') : K3 A A' := fun u hu e => h2 u hu (h u hu e)
theorem K3.of (e : ∀ u, u < 10 → A'.1 u 3 = A.1 u 3) : K3 A A' := fun u hu h => (e u hu).trans h
theorem K3.one (t : Nat) (h3 : ¬ A.1 t 3 = 3) (e : ∀ u, u < 10 → ¬ u = t → A'.1 u 3 = A.1 u 3) : K3 A A' := fun u hu h => (e u hu (fun z => h3 (by rw [← z]; exact h))).trans h
theorem k3_mk : K3 A (mk T A stk) := by
  cases stk with
  | nil => exact K3.refl A
  | cons t r =>
    show K3 A (if A.1 t 3 = 3 then A else note (up A t 3 3) 5 (nI t) 0)
    split
    · exact K3.refl A
    · intro u hu h
      rw [note_1]
      by_cases e : u = t
      · rw [e, up_s]
      · rw [up_a e]; exact h
theorem k3_fin (h : stk = [] ∨ SI T (mk T B stk) stk) : K3 B (fin T B stk) := by
  rcases h with h | h
  · subst h; exact K3.refl B
  · have hm := si_mes h
    obtain ⟨-, -, -, -, -, i6, -⟩ := stl_ok 64 _ _ h (by omega)
    refine (k3_mk (T := T) (A := B) (stk := stk)).trans (fun u hu e => ?_)
    exact (i6 u 3 hu (by rw [e]; decide)).trans e
theorem k3_cmA {c : Nat} (hc : 1 ≤ c) (h3 : A.1 t 3 = 1) : K3 A (cmA A t c) := K3.one t (by rw [h3]; decide) (fun u _ e => by rw [cmA_e hc, if_neg e])
theorem k3_cmb (hI : Inv T 10 A) (ht : t < T) (h3 : A.1 t 3 = 1) {c : Nat} (hc : 1 ≤ c) (hc4 : c ≤ 4) (hL : A.2.1.length ≤ LIM) : K3 A (cmb T A t c) := by
  obtain ⟨hS, -, -⟩ := fin_ok (cmA_inv hI ht h3 hc hc4 hL) ht (by rw [cmA_3 hc]; decide)
  exact (k3_cmA hc h3).trans (k3_fin (Or.inr hS))
theorem k3_wkA (w : Int32) : K3 A (wkA A x w) := by
  unfold wkA
  split
  · next h => exact k3_cmA (by omega) h
  · split
    · exact K3.of (A' := inc A 10 9) (fun u hu => by rw [inc_e, if_neg (by omega)])
    · split
      · exact K3.of (A' := up A x 4 1) (fun u hu => by rw [up_e, if_neg (by omega)])
      · exact K3.of (A' := note (inc A 10 8) 7 (nI x) w) (fun u hu => by rw [note_1, inc_e, if_neg (by omega)])
theorem k3_pk (h3 : A.1 t 3 = 0) (d : Int32) : K3 A (pk A t d) := by
  have n3 : ¬ A.1 t 3 = 3 := by rw [h3]; decide
  unfold pk
  split
  · split
    · exact K3.one (A' := note (inc (up (up A t 3 1) t 7 d) t 11) 0 (nI t) d) t n3 (fun u hu e => by rw [note_1, inc_e, if_neg (fun z => e z.1), up_a e, up_a e])
    · exact K3.of (A' := up (up A t 4 0) t 6 1) (fun u hu => by rw [up_b (by omega), up_b (by omega)])
  · exact K3.of (A' := up (up A t 5 0) t 6 4) (fun u hu => by rw [up_b (by omega), up_b (by omega)])
theorem k3_pfm (hI : Inv T 10 A) (ht : t < T) (h3 : A.1 t 3 = 0) {y : Int32} {k : Nat} (hk : k < 11) (hy : k = 10 → y.toNatClampNeg < 6) : K3 A (pfm T A t k y).1.1 := by
  have hT := hI.T10
  have n3 : ¬ A.1 t 3 = 3 := by rw [h3]; decide
  have fl : K3 A (flA A t) := K3.one t n3 (fun u hu e => by unfold flA; rw [note_1, up_a e])
  have hc : k = 0 ∨ k = 1 ∨ k = 2 ∨ k = 3 ∨ k = 4 ∨ k = 5 ∨ k = 6 ∨ k = 7 ∨ k = 8 ∨ k = 9 ∨ k = 10 := by omega
  rcases hc with rfl | rfl | rfl | rfl | rfl | rfl | rfl | rfl | rfl | rfl | rfl
  · exact K3.of (A' := inc A t 17) (fun u hu => by rw [inc_e, if_neg (by omega)])
  · exact k3_pk h3 _
  · exact k3_pk h3 _
  · show K3 A (if onF A y.toNatClampNeg = true then ((A, ([] : List Nat)), true) else ((pk A t (-1), []), false)).1.1
    split
    · exact K3.refl A
    · exact k3_pk h3 _
  · exact K3.of (A' := stF A _ true) (fun u hu => by unfold stF; rw [up_e, if_neg (by omega)])
  · exact K3.of (A' := stF A _ false) (fun u hu => by unfold stF; rw [up_e, if_neg (by omega)])
  · show K3 A (if y.toNatClampNeg < T then ((wkA A y.toNatClampNeg (nI t), wkS A y.toNatClampNeg), true) else ((A, []), true)).1.1
    split
    · exact k3_wkA _
    · exact K3.refl A
  · show K3 A (tlA T A t y.toNatClampNeg)
    unfold tlA
    split
    · split
      · refine K3.trans (B := tl0 A t y.toNatClampNeg) (K3.of (fun u hu => ?_)) (k3_wkA _)
        show (inc (up A t 6 0) 10 11).1 u 3 = _
        rw [inc_e, if_neg (by omega), up_e, if_neg (by omega)]
      · exact K3.of (A' := up A t 6 0) (fun u hu => by rw [up_e, if_neg (by omega)])
    · exact K3.refl A
  · show K3 A (slA T A t y.toNatClampNeg)
    unfold slA
    split
    · exact K3.refl A
    · split
      · exact K3.refl A
      · split
        · exact K3.refl A
        · exact K3.of (A' := note (inc (up (up A _ 4 0) t 4 1) 10 10) 8 (nI t) (nI _)) (fun u hu => by rw [note_1, inc_e, if_neg (by omega), up_e, if_neg (by omega), up_e, if_neg (by omega)])
  · show K3 A (lkA A t y.toNatClampNeg)
    unfold lkA
    split
    · exact K3.of (A' := note (up A 11 _ (nI t)) 3 (nI t) (nI _)) (fun u hu => by rw [note_1, up_e, if_neg (by omega)])
    · split
      · exact fl
      · exact K3.one (A' := note (adW (up (up A t 3 2) t 8 (nI _)) _ t) 2 (nI t) (nI _)) t n3 (fun u hu e => by rw [note_1, adW_1, up_a e, up_a e])
  · show K3 A (if A.1 11 y.toNatClampNeg = nI t then ((gv1 T A t y.toNatClampNeg, gvk T A t y.toNatClampNeg []), true) else ((flA A t, []), false)).1.1
    split
    · show K3 A (gv1 T A t y.toNatClampNeg)
      unfold gv1
      cases e : nx T A y.toNatClampNeg with
      | none => exact K3.of (A' := gv0 A t _) (fun u hu => by unfold gv0; rw [up_e, if_neg (by omega)]; rfl)
      | some w =>
        obtain ⟨hw, h8⟩ := ((hI.2.2.2.2.1 _ (hy rfl)).2 w).mp (nx_some e)
        have w2 : A.1 w 3 = 2 := st2_8 hI hw h8 (by have := hy rfl; omega)
        refine K3.one (A' := gvu A t _ w) w (by rw [w2]; decide) (fun u hu ne => ?_)
        show (goB (note (up (up (rmW (up (note A 4 (nI t) (nI y.toNatClampNeg)) 11 y.toNatClampNeg (nI w)) y.toNatClampNeg w) w 3 0) w 8 (-1)) 3 (nI w) (nI y.toNatClampNeg)) w).1 u 3 = _
        rw [goB_e, if_neg ne, note_1, up_a ne, up_a ne, rmW_1, up_e, if_neg (by omega)]
        rfl
    · exact fl
theorem k3_pfA (hI : Inv T 10 A) (ht : t < T) (h3 : A.1 t 3 = 0) (hL : A.2.1.length + 500 ≤ LIM) : K3 A (pfA T A t) := by
  have hT := hI.T10
  obtain ⟨k1, k2, k3, k4, k5, k6⟩ := pfx_ok hI ht h3 (by omega)
  obtain ⟨zz, qq, b1, b2, hqz, hz, k, hk, e1, e2, e3⟩ := place_of hI ht h3
  have ep : pfx T A t = pfm T A t k (A.1 13 (16 * t + qq)) := by
    unfold pfx
    rw [b2, cl (by omega), e1, cl (by omega)]
  have p1 : K3 A (fin T (pfx T A t).1.1 (pfx T A t).1.2) := by
    refine K3.trans ?_ (k3_fin k1)
    rw [ep]
    refine k3_pfm hI ht h3 hk (fun q => ?_)
    subst q
    have a1 : (xLeast.getD 10 0).toInt = 0 := by decide
    have a2 : (xMost.getD 10 0).toInt = 5 := by decide
    rw [i32_le] at e2 e3
    rw [Int32.toNatClampNeg]
    omega
  unfold pfA
  by_cases e : (pfx T A t).2 = true
  · rw [if_pos e]
    obtain ⟨m1, m2, m3, m4⟩ := k5 e
    have e3 : (goB (fin T (pfx T A t).1.1 (pfx T A t).1.2) t).1 t 3 = (fin T (pfx T A t).1.1 (pfx T A t).1.2).1 t 3 := by rw [goB_e, if_pos rfl, if_neg (by omega), if_neg (by omega)]
    obtain ⟨hS, -, -⟩ := fin_ok m3 ht (by rw [e3]; exact m4)
    refine p1.trans (K3.trans (B := goB (fin T (pfx T A t).1.1 (pfx T A t).1.2) t) (K3.of (fun u hu => ?_)) (k3_fin (Or.inr hS)))
    rw [goB_e]
    by_cases e : u = t
    · rw [if_pos e, if_neg (by omega), if_neg (by omega), e]
    · rw [if_neg e]
  · rw [if_neg e]; exact p1
theorem k3_wbT : ∀ (n : Nat) (A : AS), Inv T 10 A → A.2.1.length + 201 * n ≤ LIM → K3 A (wbT T n A) := by
  intro n
  induction n with
  | zero => intro A _ _; exact K3.refl A
  | succ n ih =>
    intro A hI hL
    rw [wbT]
    cases e : due T A with
    | none => exact K3.refl A
    | some t =>
      obtain ⟨ht, h3⟩ := due_some e
      obtain ⟨-, -, c1, c2, c3, -⟩ := cm_ok hI ht h3 (c := 2) (by omega) (by omega) (by omega)
      exact (k3_cmb hI ht h3 (by omega) (by omega) (by omega)).trans (ih _ c1 (by omega))
theorem k3_drw : K3 A (drw A) := K3.of (fun u hu => by unfold drw; rw [up_e, if_neg (by omega)])
theorem k3_wbS : ∀ (n i : Nat) (A : AS), i + n = T → Inv T 10 A → A.2.1.length + 201 * n ≤ LIM → K3 A (wbS T n i A) := by
  intro n
  induction n with
  | zero => intro i A _ _ _; exact K3.refl A
  | succ n ih =>
    intro i A hi hI hL
    have hT := hI.T10
    rw [wbS]
    by_cases e : A.1 i 3 = 1
    · have n1 := not_not_intro e
      rw [if_neg n1]
      have d1 := drw_inv hI
      have d3 : (drw A).2.1.length = A.2.1.length := rfl
      have h3 : (drw A).1 i 3 = 1 := (up_a (by omega)).trans e
      by_cases e2 : A.1 10 0 ≤ drv A
      · rw [if_pos e2]
        exact k3_drw.trans (ih (i + 1) (drw A) (by omega) d1 (by omega))
      · rw [if_neg e2]
        obtain ⟨-, -, c1, c2, c3, -⟩ := cm_ok d1 (t := i) (by omega) h3 (c := 3) (by omega) (by omega) (by omega)
        exact k3_drw.trans ((k3_cmb d1 (by omega) h3 (by omega) (by omega) (by omega)).trans (ih (i + 1) _ (by omega) c1 (by omega)))
    · rw [if_pos e]
      exact ih (i + 1) A (by omega) hI (by omega)
theorem k3_wbt (hI : Inv T 10 A) (hL : A.2.1.length + 4020 ≤ LIM) : K3 A (wbt T A) := by
  obtain ⟨i1, i2, i3⟩ := wbT_ok 10 A hI (by omega)
  have hT := hI.T10
  have h1 := k3_wbT 10 A hI (by omega)
  unfold wbt
  split
  · exact h1
  · exact h1.trans (k3_wbS T 0 _ (by omega) i1 (by omega))
theorem tick_done (hI : Inv T 10 A) (hL : A.2.1.length + 4600 ≤ LIM) : K3 A (tick T A) := by
  have hT := hI.T10
  have hNI := ntG_inv hI
  have eN : (ntG T A).2.1.length = A.2.1.length := rfl
  obtain ⟨w1, w2, w3⟩ := wbt_ok hNI (by omega)
  have kN : K3 A (ntG T A) := K3.of (fun u hu => ntG_e _ _ (by omega))
  have kW := kN.trans (k3_wbt hNI (by omega))
  refine kW.trans (K3.trans (B := tkB T (wbt T (ntG T A))) ?_ (K3.of (A' := inc (tkB T (wbt T (ntG T A))) 10 3) (fun u hu => by rw [inc_e, if_neg (by omega)])))
  cases e : chs T (wbt T (ntG T A)) with
  | none =>
    have eB : tkB T (wbt T (ntG T A)) = inc (wbt T (ntG T A)) 10 6 := by unfold tkB; rw [e]
    rw [eB]
    exact K3.of (fun u hu => by rw [inc_e, if_neg (by omega)])
  | some b =>
    obtain ⟨hb, hb3⟩ := chs_some e
    have eB : tkB T (wbt T (ntG T A)) = pfA T (pf0 (wbt T (ntG T A)) b) b := by unfold tkB; rw [e]
    rw [eB]
    refine K3.trans (B := pf0 (wbt T (ntG T A)) b) (K3.of (fun u hu => pf0_e _ _ (by omega))) ?_
    exact k3_pfA (pf0_inv w1 hb) hb ((pf0_e _ _ (by omega)).trans hb3) (by show (wbt T (ntG T A)).2.1.length + 500 ≤ LIM; omega)
theorem cf_mono {p q : Nat → Bool} : ∀ n i, (∀ j, i ≤ j → j < i + n → p j = true → q j = true) → cf p n i 0 ≤ cf q n i 0 := by
  intro n
  induction n with
  | zero => intro i _; exact Nat.le_refl _
  | succ n ih =>
    intro i h
    have h1 := ih i (fun j a b => h j a (by omega))
    rw [cf_last, cf_last]
    by_cases e : p (i + n) = true
    · rw [if_pos e, if_pos (h _ (by omega) (by omega) e)]; omega
    · rw [if_neg e]; omega
theorem inS_up (hT : T ≤ 10) (h : K3 A A') : 0 ≤ inS T A' 3 - inS T A 3 := by
  have h1 : cf (fun u => decide (A.1 u 3 = 3)) T 0 0 ≤ cf (fun u => decide (A'.1 u 3 = 3)) T 0 0 := cf_mono T 0 (fun j _ hj hp => decide_eq_true (h j (by omega) (of_decide_eq_true hp)))
  have h2 := cf_le (fun u => decide (A'.1 u 3 = 3)) T 0
  unfold inS
  rw [nI_sub h1]
  exact nI_le (a := 0) (by omega) (by omega)
/-- returns over ticks -/
theorem rsm_up (hI : Inv T 10 A) (hB : Bd n A) (hn : n ≤ 259999) (ht : t < T) : (rsm A t).toInt ≤ (rsm (tick T A) t).toInt := by
  obtain ⟨i1, b1, B, ev, eq⟩ := tick_bd hI hB (by omega)
  have l1 := hB.lim (by omega)
  have l2 := b1.lim (by omega)
  rw [rsm_i hI (by omega) ht, rsm_i i1 (by omega) ht]
  have hT := hI.T10
  have e : ∀ b, (tick T A).1 t b = B.1 t b := fun b => by rw [eq, inc_e, if_neg (by omega)]
  have a1 := ev.2.2.2.1 t 12 ht (by omega) (by omega)
  have a2 := ev.2.2.2.1 t 13 ht (by omega) (by omega)
  have a3 := ev.2.2.2.1 t 14 ht (by omega) (by omega)
  have a4 := ev.2.2.2.1 t 15 ht (by omega) (by omega)
  rw [e, e, e, e]
  omega
end K3S
