/-! ===== who ran: counts of runs through a tick; the law's ticks ===== -/
section K9S
variable {T t u l x z q n d k : Nat} {A A' B : AS} {stk stk' : List Nat} {M0 M M' : Mem}
def K9 (A A' : AS) : Prop := (∀ u, u < 10 → A'.1 u 9 = A.1 u 9 ∧ A'.1 u 10 = A.1 u 10) ∧ A'.1 10 6 = A.1 10 6
theorem K9.refl (A : AS) : K9 A A := ⟨fun _ _ => ⟨rfl, rfl⟩, rfl⟩
theorem K9.trans (h : K9 A B) (h2 : K9 B A') : K9 A A' := ⟨fun u hu => ⟨(h2.1 u hu).1.trans (h.1 u hu).1, (h2.1 u hu).2.trans (h.1 u hu).2⟩, h2.2.trans h.2⟩
theorem K9.of (e : ∀ a b, (a < 10 ∧ (b = 9 ∨ b = 10)) ∨ (a = 10 ∧ b = 6) → A'.1 a b = A.1 a b) : K9 A A' := ⟨fun u hu => ⟨e _ _ (by omega), e _ _ (by omega)⟩, e _ _ (by omega)⟩
theorem k9_mk : K9 A (mk T A stk) := by
  cases stk with
  | nil => exact K9.refl A
  | cons t r =>
    show K9 A (if A.1 t 3 = 3 then A else note (up A t 3 3) 5 (nI t) 0)
    split
    · exact K9.refl A
    · exact K9.of (fun a b h => by rw [note_1, up_e, if_neg (by omega)])
theorem k9_fin (h : stk = [] ∨ SI T (mk T B stk) stk) : K9 B (fin T B stk) := by
  rcases h with h | h
  · subst h; exact K9.refl B
  · have hm := si_mes h
    obtain ⟨-, -, -, i4, i5, -⟩ := stl_ok 64 _ _ h (by omega)
    refine (k9_mk (T := T) (A := B) (stk := stk)).trans (K9.of (fun a b q => ?_))
    by_cases ha : a < 10
    · exact i5 a b (by omega) (by omega) (by omega) (by omega) ha
    · exact i4 a b (by omega) (by omega)
theorem k9_cmA {c : Nat} (hc : 1 ≤ c) (ht : t < 10) : K9 A (cmA A t c) := K9.of (fun a b h => by
  rw [cmA_e hc]
  by_cases e : a = t
  · subst e
    rw [if_pos rfl, if_neg (by omega), if_neg (by omega), if_neg (by omega), if_neg (by omega)]
  · rw [if_neg e])
theorem k9_cmb (hI : Inv T 10 A) (ht : t < T) (h3 : A.1 t 3 = 1) {c : Nat} (hc : 1 ≤ c) (hc4 : c ≤ 4) (hL : A.2.1.length ≤ LIM) : K9 A (cmb T A t c) := by
  have hT := hI.T10
  obtain ⟨hS, -, -⟩ := fin_ok (cmA_inv hI ht h3 hc hc4 hL) ht (by rw [cmA_3 hc]; decide)
  exact (k9_cmA hc (by omega)).trans (k9_fin (Or.inr hS))
theorem k9_wkA (hx : x < 10) (w : Int32) : K9 A (wkA A x w) := by
  unfold wkA
  split
  · exact k9_cmA (by omega) hx
  · split
    · exact K9.of (fun a b h => by rw [inc_e, if_neg (by omega)])
    · split
      · exact K9.of (fun a b h => by rw [up_e, if_neg (by omega)])
      · exact K9.of (fun a b h => by rw [note_1, inc_e, if_neg (by omega)])
theorem k9_pk (ht : t < 10) (d : Int32) : K9 A (pk A t d) := by
  unfold pk
  split
  · split
    · exact K9.of (fun a b h => by rw [note_1, inc_e, if_neg (by omega), up_e, if_neg (by omega), up_e, if_neg (by omega)])
    · exact K9.of (A' := up (up A t 4 0) t 6 1) (fun a b h => by rw [up_e, if_neg (by omega), up_e, if_neg (by omega)])
  · exact K9.of (A' := up (up A t 5 0) t 6 4) (fun a b h => by rw [up_e, if_neg (by omega), up_e, if_neg (by omega)])
theorem k9_pfm (hI : Inv T 10 A) (ht : t < T) {y : Int32} {k : Nat} (hk : k < 11) : K9 A (pfm T A t k y).1.1 := by
  have hT := hI.T10
  have hc : k = 0 ∨ k = 1 ∨ k = 2 ∨ k = 3 ∨ k = 4 ∨ k = 5 ∨ k = 6 ∨ k = 7 ∨ k = 8 ∨ k = 9 ∨ k = 10 := by omega
  rcases hc with rfl | rfl | rfl | rfl | rfl | rfl | rfl | rfl | rfl | rfl | rfl
  · exact K9.of (A' := inc A t 17) (fun a b h => by rw [inc_e, if_neg (by omega)])
  · exact k9_pk (by omega) _
  · exact k9_pk (by omega) _
  · show K9 A (if onF A y.toNatClampNeg = true then ((A, ([] : List Nat)), true) else ((pk A t (-1), []), false)).1.1
    split
    · exact K9.refl A
    · exact k9_pk (by omega) _
  · exact K9.of (A' := stF A _ true) (fun a b h => by unfold stF; rw [up_e, if_neg (by omega)])
  · exact K9.of (A' := stF A _ false) (fun a b h => by unfold stF; rw [up_e, if_neg (by omega)])
  · show K9 A (if y.toNatClampNeg < T then ((wkA A y.toNatClampNeg (nI t), wkS A y.toNatClampNeg), true) else ((A, []), true)).1.1
    split
    · exact k9_wkA (by omega) _
    · exact K9.refl A
  · show K9 A (tlA T A t y.toNatClampNeg)
    unfold tlA
    split
    · split
      · refine K9.trans (B := tl0 A t y.toNatClampNeg) (K9.of (fun a b h => ?_)) (k9_wkA (by omega) _)
        show (inc (up A t 6 0) 10 11).1 a b = _
        rw [inc_e, if_neg (by omega), up_e, if_neg (by omega)]
      · exact K9.of (fun a b h => by rw [up_e, if_neg (by omega)])
    · exact K9.refl A
  · show K9 A (slA T A t y.toNatClampNeg)
    unfold slA
    split
    · exact K9.refl A
    · split
      · exact K9.refl A
      · split
        · exact K9.refl A
        · exact K9.of (fun a b h => by rw [note_1, inc_e, if_neg (by omega), up_e, if_neg (by omega), up_e, if_neg (by omega)])
  · show K9 A (lkA A t y.toNatClampNeg)
    unfold lkA flA
    split
    · exact K9.of (fun a b h => by rw [note_1, up_e, if_neg (by omega)])
    · split
      · exact K9.of (fun a b h => by rw [note_1, up_e, if_neg (by omega)])
      · exact K9.of (fun a b h => by rw [note_1, adW_1, up_e, if_neg (by omega), up_e, if_neg (by omega)])
  · show K9 A (if A.1 11 y.toNatClampNeg = nI t then ((gv1 T A t y.toNatClampNeg, gvk T A t y.toNatClampNeg []), true) else ((flA A t, []), false)).1.1
    split
    · show K9 A (gv1 T A t y.toNatClampNeg)
      unfold gv1
      cases e : nx T A y.toNatClampNeg with
      | none => exact K9.of (A' := gv0 A t _) (fun a b h => by unfold gv0; rw [up_e, if_neg (by omega)]; rfl)
      | some u =>
        refine K9.of (A' := gvu A t _ u) (fun a b h => ?_)
        show (goB (note (up (up (rmW (up (note A 4 (nI t) (nI y.toNatClampNeg)) 11 y.toNatClampNeg (nI u)) y.toNatClampNeg u) u 3 0) u 8 (-1)) 3 (nI u) (nI y.toNatClampNeg)) u).1 a b = _
        have e1 : ∀ X : AS, (goB X u).1 a b = X.1 a b := fun X => by
          rw [goB_e]
          by_cases e : a = u
          · rw [if_pos e, if_neg (by omega), if_neg (by omega), e]
          · rw [if_neg e]
        rw [e1, note_1, up_e, if_neg (by omega), up_e, if_neg (by omega), rmW_1, up_e, if_neg (by omega)]
        rfl
    · exact K9.of (A' := flA A t) (fun a b h => by unfold flA; rw [note_1, up_e, if_neg (by omega)])
theorem k9_pfA (hI : Inv T 10 A) (ht : t < T) (h3 : A.1 t 3 = 0) (hL : A.2.1.length + 500 ≤ LIM) : K9 A (pfA T A t) := by
  have hT := hI.T10
  obtain ⟨k1, k2, k3, k4, k5, k6⟩ := pfx_ok hI ht h3 (by omega)
  obtain ⟨zz, qq, b1, b2, hqz, hz, k, hk, e1, e2, e3⟩ := place_of hI ht h3
  have ep : pfx T A t = pfm T A t k (A.1 13 (16 * t + qq)) := by
    unfold pfx
    rw [b2, cl (by omega), e1, cl (by omega)]
  have p1 : K9 A (fin T (pfx T A t).1.1 (pfx T A t).1.2) := by
    refine K9.trans ?_ (k9_fin k1)
    rw [ep]
    exact k9_pfm hI ht hk
  unfold pfA
  by_cases e : (pfx T A t).2 = true
  · rw [if_pos e]
    obtain ⟨m1, m2, m3, m4⟩ := k5 e
    have e3 : (goB (fin T (pfx T A t).1.1 (pfx T A t).1.2) t).1 t 3 = (fin T (pfx T A t).1.1 (pfx T A t).1.2).1 t 3 := by rw [goB_e, if_pos rfl, if_neg (by omega), if_neg (by omega)]
    obtain ⟨hS, -, -⟩ := fin_ok m3 ht (by rw [e3]; exact m4)
    refine p1.trans (K9.trans (B := goB (fin T (pfx T A t).1.1 (pfx T A t).1.2) t) (K9.of (fun a b h => ?_)) (k9_fin (Or.inr hS)))
    rw [goB_e]
    by_cases e : a = t
    · rw [if_pos e, if_neg (by omega), if_neg (by omega), e]
    · rw [if_neg e]
  · rw [if_neg e]; exact p1
theorem k9_wbT : ∀ (n : Nat) (A : AS), Inv T 10 A → A.2.1.length + 201 * n ≤ LIM → K9 A (wbT T n A) := by
  intro n
  induction n with
  | zero => intro A _ _; exact K9.refl A
  | succ n ih =>
    intro A hI hL
    rw [wbT]
    cases e : due T A with
    | none => exact K9.refl A
    | some t =>
      obtain ⟨ht, h3⟩ := due_some e
      obtain ⟨-, -, c1, c2, c3, -⟩ := cm_ok hI ht h3 (c := 2) (by omega) (by omega) (by omega)
      exact (k9_cmb hI ht h3 (by omega) (by omega) (by omega)).trans (ih _ c1 (by omega))
theorem k9_drw : K9 A (drw A) := K9.of (fun a b h => by unfold drw; rw [up_e, if_neg (by omega)])
theorem k9_wbS : ∀ (n i : Nat) (A : AS), i + n = T → Inv T 10 A → A.2.1.length + 201 * n ≤ LIM → K9 A (wbS T n i A) := by
  intro n
  induction n with
  | zero => intro i A _ _ _; exact K9.refl A
  | succ n ih =>
    intro i A hi hI hL
    have hT := hI.T10
    rw [wbS]
    by_cases e : A.1 i 3 = 1
    · have n1 := not_not_intro e
      rw [if_neg n1]
      have d1 := drw_inv hI
      have d3 : (drw A).2.1.length = A.2.1.length := rfl
      have h3 : (drw A).1 i 3 = 1 := (up_a (by omega)).trans e
      by_cases e2 : A.1 10 0 ≤ drv A
      · rw [if_pos e2]
        exact k9_drw.trans (ih (i + 1) (drw A) (by omega) d1 (by omega))
      · rw [if_neg e2]
        obtain ⟨-, -, c1, c2, c3, -⟩ := cm_ok d1 (t := i) (by omega) h3 (c := 3) (by omega) (by omega) (by omega)
        exact k9_drw.trans ((k9_cmb d1 (by omega) h3 (by omega) (by omega) (by omega)).trans (ih (i + 1) _ (by omega) c1 (by omega)))
    · rw [if_pos e]
      exact ih (i + 1) A (by omega) hI (by omega)
theorem k9_wbt (hI : Inv T 10 A) (hL : A.2.1.length + 4020 ≤ LIM) : K9 A (wbt T A) := by
  obtain ⟨i1, i2, i3⟩ := wbT_ok 10 A hI (by omega)
  have hT := hI.T10
  have h1 := k9_wbT 10 A hI (by omega)
  unfold wbt
  split
  · exact h1
  · exact h1.trans (k9_wbS T 0 _ (by omega) i1 (by omega))
/-- who ran in a tick -/
theorem tick_run (hI : Inv T 10 A) (hL : A.2.1.length + 4600 ≤ LIM) : (chs T (wbt T (ntG T A)) = none → ((∀ u, u < 10 → (tick T A).1 u 9 = A.1 u 9) ∧ (tick T A).1 10 6 = A.1 10 6 + 1)) ∧
    (∀ b, chs T (wbt T (ntG T A)) = some b → (∀ u, u < 10 → (tick T A).1 u 9 = A.1 u 9 + (if u = b then 1 else 0)) ∧ (tick T A).1 b 10 = A.1 10 3 ∧ (tick T A).1 10 6 = A.1 10 6) ∧ (tick T A).1 10 3 = A.1 10 3 + 1 := by
  have hT := hI.T10
  have hNI := ntG_inv hI
  have eN : (ntG T A).2.1.length = A.2.1.length := rfl
  obtain ⟨w1, w2, w3⟩ := wbt_ok hNI (by omega)
  have kN : K9 A (ntG T A) := K9.of (fun a b h => ntG_e _ _ (by omega))
  have kW := kN.trans (k9_wbt hNI (by omega))
  have e3w : (wbt T (ntG T A)).1 10 3 = A.1 10 3 := (w2.1 3 (by omega)).trans (ntG_e _ _ (by omega))
  have r : ∀ a b, ¬ (a = 10 ∧ b = 3) → (tick T A).1 a b = (tkB T (wbt T (ntG T A))).1 a b := fun a b q => by
    show (inc (tkB T (wbt T (ntG T A))) 10 3).1 a b = _
    rw [inc_e, if_neg q]
  obtain ⟨t1, t2, t3⟩ := tkB_ok w1 (by omega)
  refine ⟨fun e => ?_, fun b e => ?_, ?_⟩
  · have eB : tkB T (wbt T (ntG T A)) = inc (wbt T (ntG T A)) 10 6 := by unfold tkB; rw [e]
    refine ⟨fun u hu => ?_, ?_⟩
    · rw [r _ _ (by omega), eB, inc_e, if_neg (by omega)]
      exact (kW.1 u hu).1
    · rw [r _ _ (by omega), eB, inc_e, if_pos ⟨rfl, rfl⟩, kW.2]
  · obtain ⟨hb, hb3⟩ := chs_some e
    have eB : tkB T (wbt T (ntG T A)) = pfA T (pf0 (wbt T (ntG T A)) b) b := by unfold tkB; rw [e]
    have kP := k9_pfA (pf0_inv w1 hb) hb ((pf0_e _ _ (by omega)).trans hb3) (by show (wbt T (ntG T A)).2.1.length + 500 ≤ LIM; omega)
    refine ⟨fun u hu => ?_, ?_, ?_⟩
    · rw [r _ _ (by omega), eB, (kP.1 u hu).1]
      by_cases eu : u = b
      · subst eu
        rw [if_pos rfl]
        show (up (inc (wbt T (ntG T A)) u 9) u 10 _).1 u 9 = _
        rw [up_b (by omega), inc_e, if_pos ⟨rfl, rfl⟩, (kW.1 u hu).1]
      · rw [if_neg eu, pf0_e _ _ (by omega), (kW.1 u hu).1, Int32.add_zero]
    · rw [r _ _ (by omega), eB, (kP.1 b (by omega)).2]
      show (up (inc (wbt T (ntG T A)) b 9) b 10 ((wbt T (ntG T A)).1 10 3)).1 b 10 = _
      rw [up_s, e3w]
    · rw [r _ _ (by omega), eB, kP.2, pf0_e _ _ (by omega), kW.2]
  · show (inc (tkB T (wbt T (ntG T A))) 10 3).1 10 3 = _
    rw [inc_e, if_pos ⟨rfl, rfl⟩, t2.1 3 (by omega), e3w]
def sm9 (A : AS) : Nat → Nat → Int32 → Int32
  | 0, _, v => v
  | m + 1, i, v => sm9 A m (i + 1) (v + A.1 i 9)
def sb9 (A : AS) : Nat → Nat → Int32 → Int32
  | 0, _, v => v
  | m + 1, i, v => sb9 A m (i + 1) (v - A.1 i 9)
theorem sm9_v (A : AS) : ∀ m i v, sm9 A m i v = v + sm9 A m i 0 := by
  intro m
  induction m with
  | zero => intro i v; exact (Int32.add_zero v).symm
  | succ m ih =>
    intro i v
    rw [sm9, sm9, ih (i + 1) (v + A.1 i 9), ih (i + 1) (0 + A.1 i 9), Int32.zero_add, Int32.add_assoc]
theorem sb9_v (A : AS) : ∀ m i v, sb9 A m i v = v - sm9 A m i 0 := by
  intro m
  induction m with
  | zero => intro i v; show v = v - 0; rw [Int32.sub_eq_add_neg]; have : -(0 : Int32) = 0 := by decide
            rw [this, Int32.add_zero]
  | succ m ih =>
    intro i v
    rw [sb9, sm9, ih, sm9_v A m (i + 1) (0 + A.1 i 9), Int32.zero_add, Int32.sub_eq_add_neg, Int32.sub_eq_add_neg, Int32.sub_eq_add_neg, Int32.neg_add, Int32.sub_eq_add_neg, Int32.add_assoc]
theorem sm9_same (h : ∀ u, u < 10 → A'.1 u 9 = A.1 u 9) : ∀ m i v, i + m ≤ 10 → sm9 A' m i v = sm9 A m i v := by
  intro m
  induction m with
  | zero => intro i v _; rfl
  | succ m ih => intro i v hi; rw [sm9, sm9, h i (by omega), ih _ _ (by omega)]
theorem sm9_one {b : Nat} (h : ∀ u, u < 10 → A'.1 u 9 = A.1 u 9 + (if u = b then 1 else 0)) : ∀ m i, i + m ≤ 10 → sm9 A' m i 0 = sm9 A m i 0 + (if i ≤ b ∧ b < i + m then 1 else 0) := by
  intro m
  induction m with
  | zero => intro i _; rw [sm9, sm9, if_neg (by omega)]; rfl
  | succ m ih =>
    intro i hi
    rw [sm9, sm9, sm9_v A' m, sm9_v A m, ih (i + 1) (by omega), h i (by omega), Int32.zero_add, Int32.zero_add]
    by_cases e : i = b
    · subst e
      rw [if_pos rfl, if_neg (by omega), if_pos (by omega), Int32.add_zero]
      ac_rfl
    · rw [if_neg e, Int32.add_zero]
      by_cases e2 : i + 1 ≤ b ∧ b < i + 1 + m
      · rw [if_pos e2, if_pos (by omega), Int32.add_assoc]
      · rw [if_neg e2, if_neg (by omega), Int32.add_zero, Int32.add_zero]
theorem s_m1 (S : Int32) : S - (S + 1) = -1 := by
  have e := Int32.sub_self S
  rw [Int32.sub_eq_add_neg] at e
  rw [Int32.sub_eq_add_neg, Int32.neg_add, Int32.sub_eq_add_neg, ← Int32.add_assoc, e, Int32.zero_add]
/-- the one whom next() names runs -/
theorem next_runs (h : C true true 0 M0 T A [] M) (hI : Inv T 10 A) (hL : A.2.1.length + 6000 ≤ LIM) : chs T (wbt T (ntG T A)) = chs T (wbt T A) := by
  have hT := hI.T10
  obtain ⟨o1, M1, e1, f1, -⟩ := c_tick h hI hL
  obtain ⟨o2, M2, e2, f2, -⟩ := c_tickN h hI hL
  rw [e1] at e2
  cases e2
  rw [f1] at f2
  cases ea : chs T (wbt T (ntG T A)) with
  | none =>
    cases eb : chs T (wbt T A) with
    | none => rfl
    | some b =>
      rw [ea, eb, onI_none, onI_some] at f2
      have := (chs_some eb).1
      exact absurd f2.symm (m1_ne (by omega))
  | some a =>
    have ha := (chs_some ea).1
    cases eb : chs T (wbt T A) with
    | none =>
      rw [ea, eb, onI_none, onI_some] at f2
      exact absurd f2 (m1_ne (by omega))
    | some b =>
      rw [ea, eb, onI_some, onI_some] at f2
      have := (chs_some eb).1
      rw [nI_inj (by omega) (by omega) f2]
end K9S
section TICKS
variable {T n d : Nat} {A A' : AS} {M0 M M' : Mem}
theorem tk113_loop {Q : Int32 → Mem → Prop} {v3 v4 v5 v6 v7 v8 : Int32} {v : Int32} (K : ∀ k M', Ls M0 d n T A M' → Sat (pL_ticks_113 (k + 1) (nI T) (sb9 A T 0 v) v3 v4 v5 v6 v7 v8 (nI T) M') Q) : ∀ (m k i : Nat) (w : Int32) (M : Mem), i + m = T → m < k → sb9 A m i w = sb9 A T 0 v → Ls M0 d n T A M → Sat (pL_ticks_113 k (nI T) w v3 v4 v5 v6 v7 v8 (nI i) M) Q := by
  intro m
  induction m with
  | zero =>
    intro k i w M hi hk hw h
    obtain ⟨k, rfl⟩ : ∃ k', k = k' + 1 := ⟨k - 1, by omega⟩
    have hiT : i = T := by omega
    subst hiT
    have hw : w = sb9 A i 0 v := hw
    rw [hw]
    exact K k M h
  | succ m ih =>
    intro k i w M hi hk hw h
    obtain ⟨k, rfl⟩ : ∃ k', k = k' + 1 := ⟨k - 1, by omega⟩
    have hT := h.T10
    rw [pL_ticks_113, if_neg (nI_ge (by omega) (by omega))]
    refine w_thread h (t := i) (c := 10) (by omega) (by omega) rfl rfl (fun M1 h1 => ?_)
    rw [show thV T A i 10 = A.1 i 9 from rfl, nm_def, nI_1]
    exact ih k (i + 1) _ M1 (by omega) (by omega) hw h1
theorem tk74_loop {Q : Int32 → Mem → Prop} {v3 v4 v5 v6 v7 : Int32} (K : ∀ k M', Ls M0 d n T A M' → Sat (pL_ticks_74 (k + 1) (nI T) (sm9 A T 0 0) v3 v4 v5 v6 v7 (nI T) M') Q) : ∀ (m k i : Nat) (w : Int32) (M : Mem), i + m = T → m < k → sm9 A m i w = sm9 A T 0 0 → Ls M0 d n T A M → Sat (pL_ticks_74 k (nI T) w v3 v4 v5 v6 v7 (nI i) M) Q := by
  intro m
  induction m with
  | zero =>
    intro k i w M hi hk hw h
    obtain ⟨k, rfl⟩ : ∃ k', k = k' + 1 := ⟨k - 1, by omega⟩
    have hiT : i = T := by omega
    subst hiT
    have hw : w = sm9 A i 0 0 := hw
    rw [hw]
    exact K k M h
  | succ m ih =>
    intro k i w M hi hk hw h
    obtain ⟨k, rfl⟩ : ∃ k', k = k' + 1 := ⟨k - 1, by omega⟩
    have hT := h.T10
    rw [pL_ticks_74, if_neg (nI_ge (by omega) (by omega))]
    refine w_thread h (t := i) (c := 10) (by omega) (by omega) rfl rfl (fun M1 h1 => ?_)
    rw [show thV T A i 10 = A.1 i 9 from rfl, nm_def, nI_1]
    exact ih k (i + 1) _ M1 (by omega) (by omega) hw h1
theorem ticks_ok (hn : n ≤ 250000) (h : Ls M0 d n T A M) : Sat (pL_ticks M) (fun o M' => o = 1 ∧ Ls M0 d (n + 1) T (tick T A) M') := by
  have hT := h.T10
  have hL := h.bd.lim (by omega)
  obtain ⟨r1, r2, r3⟩ := tick_run h.ii (by omega)
  rw [next_runs h.cc h.ii (by omega)] at r1 r2
  rw [pL_ticks]
  refine w_count h (c := 2) (by omega) rfl ?_
  rw [show cnV T A 2 = nI T from h.ii.1.2]
  refine w_next h (by omega) (fun M1 h1 => ?_)
  refine w_count h1 (c := 3) (by omega) rfl ?_
  refine w_count h1 (c := 12) (by omega) rfl ?_
  refine w_count h1 (c := 8) (by omega) rfl ?_
  rw [show cnV T A 3 = A.1 10 3 from rfl, show cnV T A 12 = A.1 10 6 from rfl, show cnV T A 8 = inS T A 3 from rfl]
  cases e : chs T (wbt T A) with
  | none =>
    rw [onI_none, if_neg (show ¬ (0 : Int32) ≤ -1 by decide)]
    refine tk74_loop (A := A) (fun k M2 h2 => ?_) T fu 0 0 M1 (by omega) (by show _ < 4096; omega) rfl h1
    rw [pL_ticks_74, if_pos (nI_le (Nat.le_refl _) (by omega))]
    refine w_run1 h2 (by omega) rfl (fun M3 h3 => ?_)
    refine tk113_loop (A := tick T A) (v := sm9 A T 0 0) (fun k M4 h4 => ?_) T fu 0 _ M3 (by omega) (by show _ < 4096; omega) rfl h3
    obtain ⟨hk, h6⟩ := r1 e
    rw [pL_ticks_113, if_pos (nI_le (Nat.le_refl _) (by omega))]
    refine w_count h4 (c := 3) (by omega) rfl ?_
    rw [show cnV T (tick T A) 3 = (tick T A).1 10 3 from rfl, r3, if_neg (not_not_intro rfl)]
    refine w_count h4 (c := 8) (by omega) rfl ?_
    rw [show cnV T (tick T A) 8 = inS T (tick T A) 3 from rfl, if_pos rfl, if_neg (show ¬ (0 : Int32) ≤ -1 by decide)]
    have es : sb9 (tick T A) T 0 (sm9 A T 0 0) = 0 := by
      rw [sb9_v, sm9_same hk T 0 0 (by omega), Int32.sub_self]
    rw [es, if_neg (show ¬ ¬ (0 : Int32) = 0 by decide)]
    refine w_count h4 (c := 12) (by omega) rfl ?_
    rw [show cnV T (tick T A) 12 = (tick T A).1 10 6 from rfl, h6, if_neg (not_not_intro rfl)]
    exact S_1 ⟨rfl, h4⟩
  | some b =>
    have hb := (chs_some e).1
    obtain ⟨k9, k10, k6⟩ := r2 b e
    rw [onI_some, if_pos (show (0 : Int32) ≤ nI b from nI_le (a := 0) (by omega) (by omega))]
    refine w_thread h1 (t := b) (c := 10) hb (by omega) rfl rfl (fun M1 h1 => ?_)
    rw [show thV T A b 10 = A.1 b 9 from rfl]
    refine tk74_loop (A := A) (fun k M2 h2 => ?_) T fu 0 0 M1 (by omega) (by show _ < 4096; omega) rfl h1
    rw [pL_ticks_74, if_pos (nI_le (Nat.le_refl _) (by omega))]
    refine w_run1 h2 (by omega) rfl (fun M3 h3 => ?_)
    refine tk113_loop (A := tick T A) (v := sm9 A T 0 0) (fun k M4 h4 => ?_) T fu 0 _ M3 (by omega) (by show _ < 4096; omega) rfl h3
    rw [pL_ticks_113, if_pos (nI_le (Nat.le_refl _) (by omega))]
    refine w_count h4 (c := 3) (by omega) rfl ?_
    rw [show cnV T (tick T A) 3 = (tick T A).1 10 3 from rfl, r3, if_neg (not_not_intro rfl)]
    refine w_count h4 (c := 8) (by omega) rfl ?_
    rw [show cnV T (tick T A) 8 = inS T (tick T A) 3 from rfl, if_pos rfl, if_pos (show (0 : Int32) ≤ nI b from nI_le (a := 0) (by omega) (by omega))]
    have es : sb9 (tick T A) T 0 (sm9 A T 0 0) = -1 := by
      rw [sb9_v, sm9_one k9 T 0 (by omega), if_pos (by omega), s_m1]
    rw [es, if_neg (show ¬ ¬ (-1 : Int32) = -1 by decide)]
    refine w_count h4 (c := 12) (by omega) rfl ?_
    rw [show cnV T (tick T A) 12 = (tick T A).1 10 6 from rfl, k6, if_neg (not_not_intro rfl)]
    refine w_thread h4 (t := b) (c := 10) hb (by omega) rfl rfl (fun M5 h5 => ?_)
    rw [show thV T (tick T A) b 10 = (tick T A).1 b 9 from rfl, k9 b (by omega), if_pos rfl, if_neg (not_not_intro rfl)]
    refine w_thread h5 (t := b) (c := 11) hb (by omega) rfl rfl (fun M6 h6 => ?_)
    rw [show thV T (tick T A) b 11 = (tick T A).1 b 10 from rfl, k10, if_neg (not_not_intro rfl)]
    exact S_1 ⟨rfl, h6⟩
end TICKS
