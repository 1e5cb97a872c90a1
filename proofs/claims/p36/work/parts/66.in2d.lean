/-! ===== a tick, and calls: what they keep of it ===== -/
section IN2D
variable {T c c' t u l x z q : Nat} {A A' B : AS} {stk stk' : List Nat} {s s' : SF}
theorem in2_fsh (h : In2 c T [] B) (hI : Inv T t (goB B t)) (ht : t < T) (h2 : ¬ B.1 t 3 = 2) (h3 : ¬ B.1 t 3 = 3) (h4 : ¬ B.1 t 3 = 4) : In2 c T [] (fsh T B t) := by
  have hT := hI.T10
  have g : ∀ b, ¬ b = 2 → ¬ b = 17 → (goB B t).1 t b = B.1 t b := fun b q1 q2 => by rw [goB_e, if_pos rfl, if_neg q2, if_neg q1]
  refine in2_fin (h.one t (Nat.le_refl _) (fun v b hv q => by rw [goB_e, if_neg q]) (fun l _ => by rw [goB_e, if_neg (by omega)]) (by rw [goB_e, if_neg (by omega)]) rfl (fun _ => ?_) (fun _ => gR_cong (h.2.2.1 t ht) (Nat.le_refl _) (g _ (by omega) (by omega)) (g _ (by omega) (by omega)) (by rw [goB_e, if_neg (by omega)])) (fun q => ?_) (fun q => absurd q h3) (fun q => absurd q h4)) hI ht (by rw [g 3 (by omega) (by omega)]; exact h2)
  · obtain ⟨a1, a2, a3, a4⟩ := h.1 t ht
    unfold gT
    rw [g 3 (by omega) (by omega), g 7 (by omega) (by omega), g 11 (by omega) (by omega), g 12 (by omega) (by omega), g 13 (by omega) (by omega), g 14 (by omega) (by omega), g 15 (by omega) (by omega)]
    exact ⟨a1, fun q => absurd q h3, fun q => absurd q h4, a4⟩
  · rw [g 3 (by omega) (by omega)] at q; exact absurd q h3
theorem in2_pfA (h : In2 c T [] A) (hI : Inv T 10 A) (ht : t < T) (h3 : A.1 t 3 = 0) (hL : A.2.1.length + 500 ≤ LIM) : In2 c T [] (pfA T A t) := by
  have hT := hI.T10
  obtain ⟨k1, k2, k3, k4, k5, k6⟩ := pfx_ok hI ht h3 (by omega)
  obtain ⟨zz, qq, b1, b2, hqz, hz, k, hk, e1, e2, e3⟩ := place_of hI ht h3
  have ep : pfx T A t = pfm T A t k (A.1 13 (16 * t + qq)) := by
    unfold pfx
    rw [b2, cl (by omega), e1, cl (by omega)]
  obtain ⟨p1, p2⟩ := in2_pfm h hI ht h3 hk e2 e3 (by omega)
  rw [← ep] at p1 p2
  unfold pfA
  by_cases e : (pfx T A t).2 = true
  · rw [if_pos e]
    obtain ⟨m1, m2, m3, m4⟩ := k5 e
    exact in2_fsh p1 m3 ht m4 (p2 e).1 (p2 e).2
  · rw [if_neg e]
    exact p1
theorem in2_pf0 (h : In2 0 T [] A) (hT : T ≤ 10) (ht : t < T) (h3 : A.1 t 3 = 0) (hb : (A.1 10 3).toInt < 2147483000) : In2 1 T [] (pf0 A t) := by
  have r9 : (pf0 A t).1 t 9 = A.1 t 9 + 1 := by
    show (up (inc A t 9) t 10 (A.1 10 3)).1 t 9 = _
    rw [up_b (by omega), inc_e, if_pos ⟨rfl, rfl⟩]
  have r10 : (pf0 A t).1 t 10 = A.1 10 3 := up_s
  have r : ∀ b, ¬ b = 9 → ¬ b = 10 → (pf0 A t).1 t b = A.1 t b := fun b q1 q2 => pf0_e _ _ (by omega)
  refine h.one t (Nat.zero_le _) (fun v b hv q => pf0_e _ _ (by omega)) (fun l _ => pf0_e _ _ (by omega)) (pf0_e _ _ (by omega)) rfl (fun _ => gT_cong (h.1 t ht) (fun b q => r b (by omega) (by omega))) (fun _ => ?_) (fun q => ?_) (fun q => ?_) (fun q => ?_)
  · obtain ⟨a1, a2, a3, a4, a5⟩ := h.2.2.1 t ht
    have e9 := i32_suc a1 (by omega)
    unfold gR
    rw [r9, r10, e9, pf0_e 10 3 (by omega)]
    refine ⟨by omega, by omega, by omega, by omega, ?_⟩
    constructor
    · intro q; omega
    · intro q; omega
  · rw [r 3 (by omega) (by omega)] at q; exact q
  · rw [r 3 (by omega) (by omega)]; exact q
  · rw [r 3 (by omega) (by omega)]; exact q
theorem in2_wbT : ∀ (n : Nat) (A : AS), Inv T 10 A → A.2.1.length + 201 * n ≤ LIM → In2 c T [] A → In2 c T [] (wbT T n A) := by
  intro n
  induction n with
  | zero => intro A _ _ h; exact h
  | succ n ih =>
    intro A hI hL h
    rw [wbT]
    cases e : due T A with
    | none => exact h
    | some t =>
      obtain ⟨ht, h3⟩ := due_some e
      obtain ⟨-, -, c1, c2, c3, -⟩ := cm_ok hI ht h3 (c := 2) (by omega) (by omega) (by omega)
      exact ih _ c1 (by omega) (in2_cmb h hI ht h3 (by omega) (by omega) (by omega))
theorem in2_drw (h : In2 c T stk A) (hT : T ≤ 10) : In2 c T stk (drw A) := h.up hT (by omega) (by omega) (by omega)
theorem in2_wbS : ∀ (n i : Nat) (A : AS), i + n = T → Inv T 10 A → A.2.1.length + 201 * n ≤ LIM → In2 c T [] A → In2 c T [] (wbS T n i A) := by
  intro n
  induction n with
  | zero => intro i A _ _ _ h; exact h
  | succ n ih =>
    intro i A hi hI hL h
    have hT := hI.T10
    rw [wbS]
    by_cases e : A.1 i 3 = 1
    · have n1 := not_not_intro e
      rw [if_neg n1]
      have d1 := drw_inv hI
      have d3 : (drw A).2.1.length = A.2.1.length := rfl
      have h3 : (drw A).1 i 3 = 1 := (up_a (by omega)).trans e
      by_cases e2 : A.1 10 0 ≤ drv A
      · rw [if_pos e2]
        exact ih (i + 1) (drw A) (by omega) d1 (by omega) (in2_drw h hT)
      · rw [if_neg e2]
        obtain ⟨-, -, c1, c2, c3, -⟩ := cm_ok d1 (t := i) (by omega) h3 (c := 3) (by omega) (by omega) (by omega)
        exact ih (i + 1) _ (by omega) c1 (by omega) (in2_cmb (in2_drw h hT) d1 (by omega) h3 (by omega) (by omega) (by omega))
    · rw [if_pos e]
      exact ih (i + 1) A (by omega) hI (by omega) h
theorem in2_wbt (h : In2 c T [] A) (hI : Inv T 10 A) (hL : A.2.1.length + 4020 ≤ LIM) : In2 c T [] (wbt T A) := by
  have hT := hI.T10
  obtain ⟨i1, i2, i3⟩ := wbT_ok 10 A hI (by omega)
  have h1 := in2_wbT 10 A hI (by omega) h
  unfold wbt
  split
  · exact h1
  · exact in2_wbS T 0 _ (by omega) i1 (by omega) h1
theorem in2_tkB (h : In2 0 T [] A) (hI : Inv T 10 A) (hL : A.2.1.length + 500 ≤ LIM) (hb : (A.1 10 3).toInt < 2147483000) : In2 1 T [] (tkB T A) := by
  have hT := hI.T10
  unfold tkB
  cases e : chs T A with
  | none => exact In2.le (A := inc A 10 6) (h.cong (A' := inc A 10 6) (fun a b ha hb => by rw [inc_e, if_neg (by omega)]) (fun l _ => by rw [inc_e, if_neg (by omega)]) (by rw [inc_e, if_neg (by omega)]) rfl) (Nat.zero_le _)
  | some t =>
    obtain ⟨ht, h3⟩ := chs_some e
    exact in2_pfA (in2_pf0 h hT ht h3 hb) (pf0_inv hI ht) ht ((pf0_e _ _ (by omega)).trans h3) hL
theorem in2_tick (h : In2 0 T [] A) (hI : Inv T 10 A) (hL : A.2.1.length + 4600 ≤ LIM) (hb : (A.1 10 3).toInt < 2147483000) : In2 0 T [] (tick T A) := by
  have hT := hI.T10
  have hN : In2 0 T [] (ntG T A) := h.cong (fun v b hv q => ntG_e _ _ (by omega)) (fun l _ => ntG_e _ _ (by omega)) (ntG_e _ _ (by omega)) rfl
  have hNI := ntG_inv hI
  have eN : (ntG T A).2.1.length = A.2.1.length := rfl
  have e3 : (ntG T A).1 10 3 = A.1 10 3 := ntG_e _ _ (by omega)
  obtain ⟨w1, w2, w3⟩ := wbt_ok hNI (by omega)
  have hW := in2_wbt hN hNI (by omega)
  have e3w : (wbt T (ntG T A)).1 10 3 = A.1 10 3 := (w2.1 3 (by omega)).trans e3
  have hB := in2_tkB hW w1 (by omega) (by rw [e3w]; exact hb)
  obtain ⟨t1, t2, t3⟩ := tkB_ok w1 (by omega)
  have e3b : (tkB T (wbt T (ntG T A))).1 10 3 = A.1 10 3 := (t2.1 3 (by omega)).trans e3w
  have h03 : 0 ≤ (A.1 10 3).toInt := hI.2.2.2.2.2.1.2.2
  have es : ((tick T A).1 10 3).toInt = (A.1 10 3).toInt + 1 := by
    show ((inc (tkB T (wbt T (ntG T A))) 10 3).1 10 3).toInt = _
    rw [inc_e, if_pos ⟨rfl, rfl⟩, e3b]
    exact i32_suc h03 (by omega)
  have r : ∀ a b, ¬ (a = 10 ∧ b = 3) → (tick T A).1 a b = (tkB T (wbt T (ntG T A))).1 a b := fun a b q => by
    show (inc (tkB T (wbt T (ntG T A))) 10 3).1 a b = _
    rw [inc_e, if_neg q]
  refine hB.chg (A' := tick T A) (fun v hv => gT_cong (hB.1 v hv) (fun b _ => r v b (by omega))) (fun v hv => ?_) (fun v hv q l hl q2 => ?_) (fun v hv q => ?_) (fun v hv q => ?_) ?_ rfl
  · obtain ⟨a1, a2, a3, a4, a5⟩ := hB.2.2.1 v hv
    rw [e3b] at a2 a4
    unfold gR
    rw [r v 9 (by omega), r v 10 (by omega), es]
    exact ⟨a1, by omega, a3, by omega, a5⟩
  · rw [r v 3 (by omega)] at q
    rw [r 11 l (by omega)] at q2
    exact hB.2.1 v hv q l hl q2
  · rw [r v 3 (by omega)]; exact q
  · rw [r v 3 (by omega)]; exact q
  · rw [es, e3b]; omega
theorem in2_tks : ∀ (m n : Nat) (A : AS), In2 0 T [] A → Inv T 10 A → Bd n A → n + m ≤ 270000 → In2 0 T [] (tks T m A) := by
  intro m
  induction m with
  | zero => intro n A h _ _ _; exact h
  | succ m ih =>
    intro n A h hI hB hn
    obtain ⟨k1, k2, -⟩ := tick_bd hI hB (by omega)
    have hl := hB.1
    have ht := hB.2
    rw [tks]
    exact ih (n + 1) _ (in2_tick h hI (by rw [LIM_eq]; omega) (by omega)) k1 k2 (by omega)
end IN2D
