/-! ===== acts and ticks: what they keep of it ===== -/
section IN2C
variable {T c c' t u l x z q : Nat} {A A' B : AS} {stk stk' : List Nat} {s s' : SF}
theorem in2_wk (h : In2 c T [] A) (hI : Inv T 10 A) (hx : x < T) (hL : A.2.1.length ≤ LIM) {w : Int32} (hw : ¬ w = -2) : In2 c T [] (fin T (wkA A x w) (wkS A x)) := by
  have hT := hI.T10
  unfold wkA wkS
  by_cases e : A.1 x 3 = 1
  · rw [if_pos e, if_pos e]
    exact in2_cmb h hI hx e (k := 1) (by omega) (by omega) hL
  · rw [if_neg e, if_neg e]
    show In2 c T [] (if A.1 x 3 = 3 ∨ A.1 x 3 = 4 then _ else _)
    split
    · exact h.cong (fun a b ha hb => by rw [inc_e, if_neg (by omega)]) (fun l _ => by rw [inc_e, if_neg (by omega)]) (by rw [inc_e, if_neg (by omega)]) rfl
    · split
      · exact h.up hT (by omega) (by omega) (by omega)
      · refine In2.nt ?_ (k := 7) rfl (by omega) hx (by omega) (fun _ => hw) (by omega) (by omega)
        exact h.cong (fun a b ha hb => by rw [inc_e, if_neg (by omega)]) (fun l _ => by rw [inc_e, if_neg (by omega)]) (by rw [inc_e, if_neg (by omega)]) rfl
theorem in2_ds (h : In2 c T [] A) (hI : Inv T 10 A) (hx : x < T) (hL : A.2.1.length ≤ LIM) : In2 c T [] (fin T (dsA A x) (dsS A x)) := by
  have hT := hI.T10
  unfold dsA dsS
  by_cases e : A.1 x 3 = 1
  · rw [if_pos e, if_pos e]
    exact in2_cmb h hI hx e (k := 4) (by omega) (by omega) hL
  · rw [if_neg e, if_neg e]
    show In2 c T [] (if A.1 x 3 = 3 ∨ A.1 x 3 = 4 then _ else _)
    split
    · exact h
    · split
      · exact h.up hT (by omega) (by omega) (by omega)
      · exact h
theorem in2_pk (h : In2 c T [] A) (hT : T ≤ 10) (ht : t < T) (h3 : A.1 t 3 = 0) (d : Int32) : In2 c T [] (pk A t d) := by
  unfold pk
  split
  · split
    · refine In2.nt ?_ (k := 0) rfl (by omega) ht (by omega) (by omega) (by omega) (by omega)
      have r : ∀ a b, (inc (up (up A t 3 1) t 7 d) t 11).1 a b = if a = t then (if b = 11 then A.1 t 11 + 1 else if b = 7 then d else if b = 3 then 1 else A.1 t b) else A.1 a b := fun a b => by
        have e1 : ∀ a b, (up (up A t 3 1) t 7 d).1 a b = if a = t then (if b = 7 then d else if b = 3 then 1 else A.1 t b) else A.1 a b := fun a b => by
          rw [up_e, up_e]
          by_cases ea : a = t
          · subst ea
            rw [if_pos rfl]
            by_cases e7 : b = 7
            · rw [if_pos ⟨rfl, e7⟩, if_pos e7]
            · rw [if_neg (fun q => e7 q.2), if_neg e7]
              by_cases e3 : b = 3
              · rw [if_pos ⟨rfl, e3⟩, if_pos e3]
              · rw [if_neg (fun q => e3 q.2), if_neg e3]
          · rw [if_neg (fun q => ea q.1), if_neg (fun q => ea q.1), if_neg ea]
        rw [inc_e, e1, e1]
        by_cases ea : a = t <;> by_cases e11 : b = 11 <;> simp [ea, e11]
      have r3 : (inc (up (up A t 3 1) t 7 d) t 11).1 t 3 = 1 := by rw [r, if_pos rfl, if_neg (by omega), if_neg (by omega), if_pos rfl]
      refine h.one t (Nat.le_refl _) (fun v b hv q => by rw [r, if_neg q]) (fun l hl => by rw [r, if_neg (by omega)]) (by rw [r, if_neg (by omega)]) rfl (fun _ => ?_) (fun _ => gR_cong (h.2.2.1 t ht) (Nat.le_refl _) ?_ ?_ ?_) (fun q => ?_) (fun q => ?_) (fun q => ?_)
      · obtain ⟨a1, a2, a3, a4⟩ := h.1 t ht
        rw [h3, if_neg (show ¬ (0 : Int32) = 1 by decide), Int32.add_zero] at a4
        unfold gT
        rw [r3, if_pos rfl]
        refine ⟨fun q => absurd rfl q, fun q => absurd q (by decide), fun q => absurd q (by decide), ?_⟩
        have r' : ∀ b, (inc (up (up A t 3 1) t 7 d) t 11).1 t b = if b = 11 then A.1 t 11 + 1 else if b = 7 then d else if b = 3 then 1 else A.1 t b := fun b => by rw [r, if_pos rfl]
        rw [r' 11, r' 12, r' 13, r' 14, r' 15, if_pos rfl, a4]
        rfl
      · rw [r, if_pos rfl, if_neg (by omega), if_neg (by omega), if_neg (by omega)]
      · rw [r, if_pos rfl, if_neg (by omega), if_neg (by omega), if_neg (by omega)]
      · rw [r, if_neg (by omega)]
      · rw [r3] at q; exact absurd q (by decide)
      · rw [h3] at q; exact absurd q (by decide)
      · rw [h3] at q; exact absurd q (by decide)
    · exact (h.up hT (by omega) (by omega) (by omega)).up hT (by omega) (by omega) (by omega)
  · exact (h.up hT (by omega) (by omega) (by omega)).up hT (by omega) (by omega) (by omega)
theorem in2_tl (h : In2 c T [] A) (hI : Inv T 10 A) (ht : t < T) (hL : A.2.1.length + 1 ≤ LIM) : In2 c T [] (fin T (tlA T A t x) (tlS T A t x)) := by
  have hT := hI.T10
  unfold tlA tlS
  split
  · split
    · rename_i hx
      refine in2_wk ?_ (tl0_inv hI ht) hx hL (fun q => ?_)
      · refine In2.nt ?_ (k := 9) rfl (by omega) ht (by omega) (by omega) (by omega) (by omega)
        exact h.cong (fun a b ha hb => by rw [inc_e, if_neg (by omega), up_e, if_neg (by omega)]) (fun l _ => by rw [inc_e, if_neg (by omega), up_e, if_neg (by omega)]) (by rw [inc_e, if_neg (by omega), up_e, if_neg (by omega)]) rfl
      · have h1 := congrArg Int32.toInt q
        rw [nI_toInt (by omega)] at h1
        have h2 : (-2 : Int32).toInt = -2 := by decide
        omega
    · exact h.up hT (by omega) (by omega) (by omega)
  · exact h
theorem in2_sl (h : In2 c T [] A) (hT : T ≤ 10) (ht : t < T) : In2 c T [] (slA T A t x) := by
  unfold slA
  split
  · exact h
  · split
    · exact h
    · split
      · exact h
      · refine In2.nt ?_ (k := 8) rfl (by omega) ht (by omega) (by omega) (by omega) (by omega)
        exact h.cong (fun a b ha hb => by rw [inc_e, if_neg (by omega), up_e, if_neg (by omega), up_e, if_neg (by omega)]) (fun l _ => by rw [inc_e, if_neg (by omega), up_e, if_neg (by omega), up_e, if_neg (by omega)]) (by rw [inc_e, if_neg (by omega), up_e, if_neg (by omega), up_e, if_neg (by omega)]) rfl
theorem in2_fl (h : In2 c T [] A) (hI : Inv T 10 A) (ht : t < T) (h3 : A.1 t 3 = 0) : In2 c T [] (flA A t) := by
  have hT := hI.T10
  have hz := hI.2.2.1 t ht (by omega) (Or.inl h3)
  refine In2.nt ?_ (k := 6) rfl (by omega) ht (by omega) (by omega) (by omega) (fun _ => up_s)
  refine h.one t (Nat.le_refl _) (fun v b hv q => up_a q) (fun l hl => up_a (by omega)) (up_a (by omega)) rfl (fun _ => ?_) (fun _ => gR_cong (h.2.2.1 t ht) (Nat.le_refl _) (up_b (by omega)) (up_b (by omega)) (up_a (by omega))) (fun q => ?_) (fun q => ?_) (fun q => up_s)
  · obtain ⟨a1, a2, a3, a4⟩ := h.1 t ht
    rw [h3, if_neg (show ¬ (0 : Int32) = 1 by decide)] at a4
    unfold gT
    rw [up_s, up_b (show ¬ 7 = 3 by omega), up_b (show ¬ 2 = 3 by omega), up_b (show ¬ 1 = 3 by omega), up_b (show ¬ 11 = 3 by omega), up_b (show ¬ 12 = 3 by omega), up_b (show ¬ 13 = 3 by omega), up_b (show ¬ 14 = 3 by omega), up_b (show ¬ 15 = 3 by omega)]
    exact ⟨fun _ => a1 (by rw [h3]; decide), fun q => absurd q (by decide), fun _ => hz, by rw [if_neg (by decide)]; exact a4⟩
  · rw [up_s] at q; exact absurd q (by decide)
  · rw [h3] at q; exact absurd q (by decide)
theorem in2_lk (h : In2 c T [] A) (hI : Inv T 10 A) (ht : t < T) (h3 : A.1 t 3 = 0) : In2 c T [] (lkA A t l) := by
  have hT := hI.T10
  unfold lkA
  split
  · refine In2.nt ?_ (k := 3) rfl (by omega) ht (by omega) (by omega) (by omega) (by omega)
    refine h.chg (fun v hv => gT_cong (h.1 v hv) (fun b _ => up_a (by omega))) (fun v hv => gR_cong (h.2.2.1 v hv) (Nat.le_refl _) (up_a (by omega)) (up_a (by omega)) (up_a (by omega))) (fun v hv q m hm q2 => ?_) (fun v hv q => ?_) (fun v hv q => ?_) ?_ rfl
    · rw [up_a (by omega)] at q
      by_cases em : m = l
      · subst em
        rw [up_s] at q2
        have : t = v := nI_inj (by omega) (by omega) q2
        subst this
        rw [h3] at q
        exact absurd q (by decide)
      · rw [up_b em] at q2
        exact h.2.1 v hv q m hm q2
    · rw [up_a (by omega)]; exact q
    · rw [up_a (by omega)]; exact q
    · rw [up_a (by omega)]; exact Int.le_refl _
  · split
    · exact in2_fl h hI ht h3
    · refine In2.nt ?_ (k := 2) rfl (by omega) ht (by omega) (by omega) (by omega) (by omega)
      have r3 : (adW (up (up A t 3 2) t 8 (nI l)) l t).1 t 3 = 2 := by rw [adW_1, up_e, if_neg (by omega), up_s]
      have r : ∀ b, ¬ b = 3 → ¬ b = 8 → (adW (up (up A t 3 2) t 8 (nI l)) l t).1 t b = A.1 t b := fun b q1 q2 => by rw [adW_1, up_b q2, up_b q1]
      have ra : ∀ a b, ¬ a = t → (adW (up (up A t 3 2) t 8 (nI l)) l t).1 a b = A.1 a b := fun a b q => by rw [adW_1, up_a q, up_a q]
      refine h.one t (Nat.le_refl _) (fun v b hv q => ra v b q) (fun l hl => ra _ _ (by omega)) (ra _ _ (by omega)) rfl (fun _ => ?_) (fun _ => gR_cong (h.2.2.1 t ht) (Nat.le_refl _) (r _ (by omega) (by omega)) (r _ (by omega) (by omega)) (ra _ _ (by omega))) (fun q => ?_) (fun q => ?_) (fun q => ?_)
      · obtain ⟨a1, a2, a3, a4⟩ := h.1 t ht
        rw [h3, if_neg (show ¬ (0 : Int32) = 1 by decide)] at a4
        unfold gT
        rw [r3, r 7 (by omega) (by omega), r 11 (by omega) (by omega), r 12 (by omega) (by omega), r 13 (by omega) (by omega), r 14 (by omega) (by omega), r 15 (by omega) (by omega)]
        exact ⟨fun _ => a1 (by rw [h3]; decide), fun q => absurd q (by decide), fun q => absurd q (by decide), by rw [if_neg (by decide)]; exact a4⟩
      · rw [r3] at q; exact absurd q (by decide)
      · rw [h3] at q; exact absurd q (by decide)
      · rw [h3] at q; exact absurd q (by decide)
/-- what a thread does -/
theorem in2_pfm (h : In2 c T [] A) (hI : Inv T 10 A) (ht : t < T) (h3 : A.1 t 3 = 0) {k : Nat} (hk : k < 11) {y : Int32} (hy1 : xLeast.getD k 0 ≤ y) (hy2 : y ≤ xMost.getD k 0) (hL : A.2.1.length + 10 ≤ LIM) : In2 c T [] (fin T (pfm T A t k y).1.1 (pfm T A t k y).1.2) ∧ ((pfm T A t k y).2 = true → ¬ (fin T (pfm T A t k y).1.1 (pfm T A t k y).1.2).1 t 3 = 3 ∧ ¬ (fin T (pfm T A t k y).1.1 (pfm T A t k y).1.2).1 t 3 = 4) := by
  have hT := hI.T10
  have n0 : ¬ A.1 t 3 = 3 ∧ ¬ A.1 t 3 = 4 := by rw [h3]; decide
  have npk : ∀ d, ¬ (pk A t d).1 t 3 = 3 ∧ ¬ (pk A t d).1 t 3 = 4 := fun d => by
    obtain ⟨-, -, k3, -⟩ := pk_t (d := d) (hI.p4 t ht) (hI.p5 t ht)
    rcases k3 with k3 | k3
    · rw [k3]; exact n0
    · rw [k3]; decide
  have hlm := lm k hk
  rw [i32_le] at hy1 hy2
  have nn : ∀ m : Nat, (xMost.getD k 0).toInt ≤ m → y.toNatClampNeg ≤ m := fun m hm => num_le (by omega) (by omega)
  have hc : k = 0 ∨ k = 1 ∨ k = 2 ∨ k = 3 ∨ k = 4 ∨ k = 5 ∨ k = 6 ∨ k = 7 ∨ k = 8 ∨ k = 9 ∨ k = 10 := by omega
  rcases hc with rfl | rfl | rfl | rfl | rfl | rfl | rfl | rfl | rfl | rfl | rfl
  · have r : ∀ a b, ¬ (a = t ∧ b = 17) → (inc A t 17).1 a b = A.1 a b := fun a b q => by rw [inc_e, if_neg q]
    refine ⟨?_, fun _ => ?_⟩
    · show In2 c T [] (inc A t 17)
      exact h.cong (fun a b ha hb => r _ _ (by omega)) (fun l _ => r _ _ (by omega)) (r _ _ (by omega)) rfl
    · show ¬ (inc A t 17).1 t 3 = 3 ∧ ¬ (inc A t 17).1 t 3 = 4
      rw [r _ _ (by omega)]; exact n0
  · exact ⟨in2_pk h hT ht h3 _, fun _ => npk _⟩
  · exact ⟨in2_pk h hT ht h3 _, fun _ => npk _⟩
  · show In2 c T [] (fin T (if onF A y.toNatClampNeg = true then ((A, []), true) else ((pk A t (-1), []), false)).1.1 (if onF A y.toNatClampNeg = true then ((A, []), true) else ((pk A t (-1), []), false)).1.2) ∧ ((if onF A y.toNatClampNeg = true then ((A, ([] : List Nat)), true) else ((pk A t (-1), []), false)).2 = true → _)
    by_cases e : onF A y.toNatClampNeg = true
    · simp only [if_pos e, pfm]
      exact ⟨h, fun _ => n0⟩
    · simp only [if_neg e, pfm]
      exact ⟨in2_pk h hT ht h3 _, fun q => absurd q Bool.false_ne_true⟩
  · refine ⟨h.up hT (by omega) (by omega) (by omega), fun _ => ?_⟩
    show ¬ (stF A _ true).1 t 3 = 3 ∧ ¬ (stF A _ true).1 t 3 = 4
    rw [show (stF A y.toNatClampNeg true).1 t 3 = A.1 t 3 from up_a (by omega)]; exact n0
  · refine ⟨h.up hT (by omega) (by omega) (by omega), fun _ => ?_⟩
    show ¬ (stF A _ false).1 t 3 = 3 ∧ ¬ (stF A _ false).1 t 3 = 4
    rw [show (stF A y.toNatClampNeg false).1 t 3 = A.1 t 3 from up_a (by omega)]; exact n0
  · by_cases e : y.toNatClampNeg < T
    · have ep : pfm T A t 6 y = ((wkA A y.toNatClampNeg (nI t), wkS A y.toNatClampNeg), true) := by
        show (if y.toNatClampNeg < T then _ else _) = _
        rw [if_pos e]
      rw [ep]
      have hw : ¬ nI t = (-2 : Int32) := fun q => by
        have h1 := congrArg Int32.toInt q
        rw [nI_toInt (by omega)] at h1
        have h2 : (-2 : Int32).toInt = -2 := by decide
        omega
      refine ⟨in2_wk h hI e (by omega) hw, fun _ => ?_⟩
      obtain ⟨-, -, -, -, -, k6⟩ := wk_ok (w := nI t) hI e (by omega)
      dsimp only
      rw [k6 t 3 ht (by omega) h3]; exact n0
    · have ep : pfm T A t 6 y = ((A, []), true) := by
        show (if y.toNatClampNeg < T then _ else _) = _
        rw [if_neg e]
      rw [ep]
      exact ⟨h, fun _ => n0⟩
  · refine ⟨in2_tl h hI ht (by omega), fun _ => ?_⟩
    show ¬ (fin T (tlA T A t y.toNatClampNeg) (tlS T A t y.toNatClampNeg)).1 t 3 = 3 ∧ ¬ (fin T (tlA T A t y.toNatClampNeg) (tlS T A t y.toNatClampNeg)).1 t 3 = 4
    unfold tlA tlS
    split
    · split
      · rename_i hx
        obtain ⟨-, -, -, -, -, k6⟩ := wk_ok (w := nI t) (tl0_inv (x := y.toNatClampNeg) hI ht) hx (by show A.2.1.length + 1 ≤ LIM; omega)
        have e0 : (tl0 A t y.toNatClampNeg).1 t 3 = A.1 t 3 := by
          show (inc (up A t 6 0) 10 11).1 t 3 = _
          rw [inc_e, if_neg (by omega), up_e, if_neg (by omega)]
        rw [k6 t 3 ht (by omega) (e0.trans h3), e0]; exact n0
      · show ¬ (up A t 6 0).1 t 3 = 3 ∧ ¬ (up A t 6 0).1 t 3 = 4
        rw [up_b (by omega)]; exact n0
    · exact n0
  · refine ⟨in2_sl h hT ht, fun _ => ?_⟩
    show ¬ (slA T A t y.toNatClampNeg).1 t 3 = 3 ∧ ¬ (slA T A t y.toNatClampNeg).1 t 3 = 4
    unfold slA
    split
    · exact n0
    · split
      · exact n0
      · split
        · exact n0
        · show ¬ (inc (up (up A y.toNatClampNeg 4 0) t 4 1) 10 10).1 t 3 = 3 ∧ ¬ (inc (up (up A y.toNatClampNeg 4 0) t 4 1) 10 10).1 t 3 = 4
          rw [inc_e, if_neg (by omega), up_b (by omega), up_b (by omega)]; exact n0
  · refine ⟨in2_lk h hI ht h3, fun q => ?_⟩
    have q : decide (A.1 11 y.toNatClampNeg = -1) = true := q
    have q := of_decide_eq_true q
    show ¬ (lkA A t y.toNatClampNeg).1 t 3 = 3 ∧ ¬ (lkA A t y.toNatClampNeg).1 t 3 = 4
    unfold lkA
    rw [if_pos q]
    show ¬ (up A 11 y.toNatClampNeg (nI t)).1 t 3 = 3 ∧ ¬ (up A 11 y.toNatClampNeg (nI t)).1 t 3 = 4
    rw [up_a (by omega)]; exact n0
  · have hl6 : y.toNatClampNeg < 6 := by have := nn 5 hlm.2; omega
    by_cases e : A.1 11 y.toNatClampNeg = nI t
    · have ep : pfm T A t 10 y = ((gv1 T A t y.toNatClampNeg, gvk T A t y.toNatClampNeg []), true) := by
        show (if A.1 11 y.toNatClampNeg = nI t then _ else _) = _
        rw [if_pos e]
      rw [ep]
      dsimp only
      have hS : SI T A [] := ⟨hI, fun v hv => (nomatch hv), by have := cnt_n (fun u => decide (A.1 u 3 = 2)) T; unfold bl; simp only [List.length_nil]; omega⟩
      obtain ⟨g1, g2, -, -, -, -, g7, -⟩ := gv_gen hS hl6 e ht
      have hm := si_mes g1
      obtain ⟨-, -, -, -, -, i6, -⟩ := stl_ok 64 _ _ g1 (by omega)
      refine ⟨in2_stl 64 _ _ g1 (by omega) (in2_gv h hI hl6 ht (fun v hv => (nomatch hv))), fun _ => ?_⟩
      have h2 : ¬ A.1 t 3 = 2 := by rw [h3]; decide
      have e3 : (fin T (gv1 T A t y.toNatClampNeg) (gvk T A t y.toNatClampNeg [])).1 t 3 = A.1 t 3 := by
        show (stl T 64 _ (mk T _ _)).1 t 3 = _
        rw [i6 t 3 (by omega) (by rw [g7 t 3 (by omega) h2]; exact h2), g7 t 3 (by omega) h2]
      rw [e3]; exact n0
    · have ep : pfm T A t 10 y = ((flA A t, []), false) := by
        show (if A.1 11 y.toNatClampNeg = nI t then _ else _) = _
        rw [if_neg e]
      rw [ep]
      exact ⟨in2_fl h hI ht h3, fun q => absurd q Bool.false_ne_true⟩
end IN2C
