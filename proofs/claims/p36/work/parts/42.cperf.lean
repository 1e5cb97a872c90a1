/-! ===== every instruction keeps a state; the class's perform ===== -/
theorem lm : ∀ c, c < 11 → 0 ≤ (xLeast.getD c 0).toInt ∧ (xMost.getD c 0).toInt ≤ (match c with | 0 => 20 | 1 => 0 | 2 => 200 | 3 => 7 | 4 => 7 | 5 => 7 | 6 => 9 | 7 => 9 | 8 => 9 | _ => 5 : Nat) := by decide
section PFM
variable {T t z q : Nat} {A : AS} {x : Int32}
theorem pfm_ok (h : Inv T 10 A) (ht : t < T) (h3 : A.1 t 3 = 0) (h1 : A.1 t 1 = nI z) (h2 : A.1 t 2 = nI q) (hqz : q < z) (hz : z ≤ 16) {c : Nat} (hc : c < 11) (hcode : A.1 12 (16 * t + q) = nI c) (hx : A.1 13 (16 * t + q) = x) (hx1 : xLeast.getD c 0 ≤ x) (hx2 : x ≤ xMost.getD c 0) (hL : A.2.1.length + 10 ≤ LIM) : Px T A t (pfm T A t c x) := by
  have hT := h.T10
  have hlm := lm c hc
  rw [i32_le] at hx1 hx2
  have h3' : ¬ A.1 t 3 = 2 := by rw [h3]; decide
  have keep : ∀ B : AS, Inv T 10 B → Evo T A B → B.2.1.length ≤ A.2.1.length + 5 → B.1 t 2 = A.1 t 2 → ¬ B.1 t 3 = 2 → Px T A t ((B, []), true) := fun B k1 k2 k3 k4 k5 => Px_t ht h1 h2 hqz hz (Or.inl rfl) k3 k2 (by show B.2.1.length ≤ _; omega) k1 k4 k5
  have keepf : ∀ B : AS, Inv T 10 B → Evo T A B → B.2.1.length ≤ A.2.1.length + 5 → Px T A t ((B, []), false) := fun B k1 k2 k3 => Px_f (Or.inl rfl) k3 k2 (by show B.2.1.length ≤ _; omega) k1
  have pkk : ∀ d, Inv T 10 (pk A t d) ∧ Evo T A (pk A t d) ∧ (pk A t d).2.1.length ≤ A.2.1.length + 5 ∧ (pk A t d).1 t 2 = A.1 t 2 ∧ ¬ (pk A t d).1 t 3 = 2 := fun d => by
    obtain ⟨k1, k2, k3, k4, k5, k6⟩ := pk_t (d := d) (h.p4 t ht) (h.p5 t ht)
    refine ⟨pk_inv h ht h3, pk_evo hT ht (h.p4 t ht) (h.p5 t ht), by omega, pk_e _ _ (by omega), ?_⟩
    rcases k3 with k3 | k3
    · rw [k3]; exact h3'
    · rw [k3]; decide
  have wkk : ∀ (B : AS) (y : Nat), Inv T 10 B → Evo T A B → B.2.1.length ≤ A.2.1.length + 2 → (∀ b, b < 4 → B.1 t b = A.1 t b) → y < T → Px T A t ((wkA B y (nI t), wkS B y), true) := fun B y k1 k2 k3 k4 hy => by
    obtain ⟨w1, w2, w3, w4, w5, w6⟩ := wk_ok (w := nI t) k1 hy (by omega)
    have w7 := fun b hb => w6 t b ht hb (by rw [k4 3 (by omega)]; exact h3)
    refine Px_t ht h1 h2 hqz hz w1 (by omega) (k2.trans w4) (by omega) w3 ?_ ?_
    · rw [w7 2 (by omega), k4 2 (by omega)]
    · rw [w7 3 (by omega), k4 3 (by omega)]; exact h3'
  have hcc : c = 0 ∨ c = 1 ∨ c = 2 ∨ c = 3 ∨ c = 4 ∨ c = 5 ∨ c = 6 ∨ c = 7 ∨ c = 8 ∨ c = 9 ∨ c = 10 := by omega
  rcases hcc with rfl | rfl | rfl | rfl | rfl | rfl | rfl | rfl | rfl | rfl | rfl
  · show Px T A t ((inc A t 17, []), decide (¬ (A.1 t 17 + 1 < x)))
    obtain ⟨a1, ⟨z', q', b1, b2, b3, b4, b5, b6⟩, a3, a4, a5, a6, a7⟩ := h.2.1 t ht
    have ez : z' = z := nI_inj (by omega) (by omega) (by rw [← b1, h1])
    have eq : q' = q := nI_inj (by omega) (by omega) (by rw [← b2, h2])
    subst ez
    subst eq
    have r : ∀ a b, ¬ (a = t ∧ b = 17) → (inc A t 17).1 a b = A.1 a b := fun a b q => by rw [inc_e, if_neg q]
    have ev : Evo T A (inc A t 17) := Evo.of (fun b hb => r _ _ (by omega)) (fun a b ha => r _ _ (by omega)) (fun u b hu hb => r _ _ (by omega)) (Nat.le_refl _)
    by_cases e : A.1 t 17 + 1 < x
    · rw [decide_eq_false (fun q => q e)]
      refine keepf _ ?_ ev (Nat.le_add_right _ _)
      refine h.thr (Or.inl rfl) (fun v b q1 q2 => r v b (by omega)) (r _ _ (by omega)) (r _ _ (by omega)) (r _ _ (by omega)) (r _ _ (by omega)) rfl (Nat.le_refl _) ht (r _ _ (by omega)) ?_ 10 (Or.inl rfl) (fun _ => ?_) (RI_mono (h.2.2.2.2.2.2 t ht) (fun b q1 q2 => r _ _ (by omega)) (Nat.le_refl _))
      · refine ⟨?_, ⟨z', q', ?_, ?_, b3, b4, Or.inr ⟨hqz, ?_, ?_, ?_⟩, fun j hj => ?_⟩, ?_, ?_, ?_, fun z => ?_, fun _ => ?_⟩
        · rw [r _ _ (by omega)]; exact a1
        · rw [r _ _ (by omega)]; exact b1
        · rw [r _ _ (by omega)]; exact b2
        · rw [r _ _ (by omega)]; exact hcode
        · have hq : (xMost.getD 0 0).toInt ≤ (20 : Nat) := hlm.2
          rw [inc_e, if_pos ⟨rfl, rfl⟩]
          rcases b5 with b5 | ⟨-, -, b7, b8⟩
          · rw [b5]; decide
          · rw [hx] at b8
            rw [i32_suc b7 (by omega)]; omega
        · have hq : (xMost.getD 0 0).toInt ≤ (20 : Nat) := hlm.2
          rw [inc_e, if_pos ⟨rfl, rfl⟩, r _ _ (by omega), hx]
          exact i32_lt.mp e
        · rw [r _ _ (by omega), r _ _ (by omega)]; exact b6 j hj
        · rw [r _ _ (by omega)]; exact a3
        · rw [r _ _ (by omega)]; exact a4
        · rw [r _ _ (by omega)]; exact a5
        · rw [r _ _ (by omega)] at z; exact absurd z h3'
        · rw [r _ _ (by omega)]; exact a7 h3'
      · have := h.2.2.1 t ht (by omega)
        unfold ZI at this ⊢
        rw [r _ _ (by omega), r _ _ (by omega), r _ _ (by omega)]; exact this
    · rw [decide_eq_true e]
      refine ⟨Or.inl rfl, Nat.le_add_right _ _, ev, Nat.le_add_right _ _, fun _ => ⟨?_, ?_, ?_, ?_⟩, fun e => (nomatch e)⟩
      · exact r _ _ (by omega)
      · exact r _ _ (by omega)
      · exact goB_inv h ht (Or.inr rfl) h1 h2 hqz hz h3'
      · show ¬ (inc A t 17).1 t 3 = 2
        rw [r _ _ (by omega)]; exact h3'
  · obtain ⟨p1, p2, p3, p4, p5⟩ := pkk (-1)
    exact keep _ p1 p2 p3 p4 p5
  · obtain ⟨p1, p2, p3, p4, p5⟩ := pkk (A.1 10 3 + x)
    exact keep _ p1 p2 p3 p4 p5
  · show Px T A t (if onF A x.toNatClampNeg = true then ((A, []), true) else ((pk A t (-1), []), false))
    split
    · exact keep A h (Evo.refl T A) (Nat.le_add_right _ _) rfl h3'
    · obtain ⟨p1, p2, p3, p4, p5⟩ := pkk (-1)
      exact keepf _ p1 p2 p3
  · have r : ∀ a c, ¬ (a = 10 ∧ c = 5) → (stF A x.toNatClampNeg true).1 a c = A.1 a c := fun a c q => by unfold stF; rw [up_e, if_neg q]
    have hf : x.toNatClampNeg < 8 := by
      have hq : (xMost.getD 4 0).toInt ≤ (7 : Nat) := hlm.2
      have := num_le (x := x) (m := 7) (by omega) (by omega)
      omega
    exact keep (stF A x.toNatClampNeg true) (stF_inv h hf true) (Evo.of (fun b hb => r _ _ (by omega)) (fun a b ha => r _ _ (by omega)) (fun u b hu hb => r _ _ (by omega)) (Nat.le_refl _)) (Nat.le_add_right _ _) (r _ _ (by omega)) (by rw [r _ _ (by omega)]; exact h3')
  · have r : ∀ a c, ¬ (a = 10 ∧ c = 5) → (stF A x.toNatClampNeg false).1 a c = A.1 a c := fun a c q => by unfold stF; rw [up_e, if_neg q]
    have hf : x.toNatClampNeg < 8 := by
      have hq : (xMost.getD 5 0).toInt ≤ (7 : Nat) := hlm.2
      have := num_le (x := x) (m := 7) (by omega) (by omega)
      omega
    exact keep (stF A x.toNatClampNeg false) (stF_inv h hf false) (Evo.of (fun b hb => r _ _ (by omega)) (fun a b ha => r _ _ (by omega)) (fun u b hu hb => r _ _ (by omega)) (Nat.le_refl _)) (Nat.le_add_right _ _) (r _ _ (by omega)) (by rw [r _ _ (by omega)]; exact h3')
  · show Px T A t (if x.toNatClampNeg < T then ((wkA A x.toNatClampNeg (nI t), wkS A x.toNatClampNeg), true) else ((A, []), true))
    split
    · rename_i e
      exact wkk A _ h (Evo.refl T A) (Nat.le_add_right _ _) (fun _ _ => rfl) e
    · exact keep A h (Evo.refl T A) (Nat.le_add_right _ _) rfl h3'
  · show Px T A t ((tlA T A t x.toNatClampNeg, tlS T A t x.toNatClampNeg), true)
    unfold tlA tlS
    by_cases e : A.1 t 6 = 1
    · rw [if_pos e, if_pos e]
      by_cases e2 : x.toNatClampNeg < T
      · rw [if_pos e2, if_pos e2]
        have r : ∀ a b, ¬ (a = t ∧ b = 6) → ¬ (a = 10 ∧ b = 11) → (tl0 A t x.toNatClampNeg).1 a b = A.1 a b := fun a b q1 q2 => by
          unfold tl0
          rw [note_1, inc_e, if_neg q2, up_e, if_neg q1]
        exact wkk _ _ (tl0_inv h ht) (Evo.of (fun b hb => r _ _ (by omega) (by omega)) (fun a b ha => r _ _ (by omega) (by omega)) (fun u b hu hb => r _ _ (by omega) (by omega)) (Nat.le_succ _)) (by show A.2.1.length + 1 ≤ _; omega) (fun b hb => r _ _ (by omega) (by omega)) e2
      · rw [if_neg e2, if_neg e2]
        have r : ∀ a b, ¬ (a = t ∧ b = 6) → (up A t 6 0).1 a b = A.1 a b := fun a b q => by rw [up_e, if_neg q]
        have iv : Inv T 10 (up A t 6 0) := Inv_min h (fun u b hu _ _ q _ _ _ _ _ => up_b q) (fun u hu => by rw [r _ _ (by omega)]; exact h.p4 u hu) (fun u hu => by rw [r _ _ (by omega)]; exact h.p5 u hu) (fun a b ha => up_a (by omega)) (r _ _ (by omega)) (by rw [r 10 4 (by omega), r 10 5 (by omega), r 10 3 (by omega)]; exact h.2.2.2.2.2.1) rfl (Nat.le_refl _)
        exact keep _ iv (Evo.of (fun b hb => r _ _ (by omega)) (fun a b ha => r _ _ (by omega)) (fun u b hu hb => r _ _ (by omega)) (Nat.le_refl _)) (Nat.le_add_right _ _) (r _ _ (by omega)) (by rw [r _ _ (by omega)]; exact h3')
    · rw [if_neg e, if_neg e]
      exact keep A h (Evo.refl T A) (Nat.le_add_right _ _) rfl h3'
  · show Px T A t ((slA T A t x.toNatClampNeg, []), true)
    unfold slA
    split
    · exact keep A h (Evo.refl T A) (Nat.le_add_right _ _) rfl h3'
    · split
      · exact keep A h (Evo.refl T A) (Nat.le_add_right _ _) rfl h3'
      · split
        · exact keep A h (Evo.refl T A) (Nat.le_add_right _ _) rfl h3'
        · rename_i e1 e2 e4
          generalize x.toNatClampNeg = y at e1 e2 e4 ⊢
          have r : ∀ a b, (¬ b = 4 ∨ 10 ≤ a) → ¬ (a = 10 ∧ b = 10) → (note (inc (up (up A y 4 0) t 4 1) 10 10) 8 (nI t) (nI y)).1 a b = A.1 a b := fun a b q1 q2 => by
            rw [note_1, inc_e, if_neg q2, up_e, if_neg (by omega), up_e, if_neg (by omega)]
          have r2 : ∀ a b, 11 ≤ a → (note (inc (up (up A y 4 0) t 4 1) 10 10) 8 (nI t) (nI y)).1 a b = A.1 a b := fun a b q => by
            rw [note_1, inc_e, if_neg (by omega), up_a (by omega), up_a (by omega)]
          have r4 : ∀ u, u < T → (note (inc (up (up A y 4 0) t 4 1) 10 10) 8 (nI t) (nI y)).1 u 4 = 0 ∨ (note (inc (up (up A y 4 0) t 4 1) 10 10) 8 (nI t) (nI y)).1 u 4 = 1 := fun u hu => by
            rw [note_1, inc_e, if_neg (by omega), up_e, up_e]
            have := h.p4 u hu
            split
            · right; rfl
            · split
              · left; rfl
              · exact this
          have eL : (note (inc (up (up A y 4 0) t 4 1) 10 10) 8 (nI t) (nI y)).2.1.length = A.2.1.length + 1 := rfl
          have eW : (note (inc (up (up A y 4 0) t 4 1) 10 10) 8 (nI t) (nI y)).2.2 = A.2.2 := rfl
          generalize note (inc (up (up A y 4 0) t 4 1) 10 10) 8 (nI t) (nI y) = B at r r2 r4 eL eW ⊢
          refine keep B ?_ (Evo.of (fun b hb => r _ _ (by omega) (by omega)) (fun a b ha => r2 _ _ (by omega)) (fun u b hu hb => r _ _ (by omega) (by omega)) (by omega)) (by omega) (r _ _ (by omega) (by omega)) (by rw [r _ _ (by omega) (by omega)]; exact h3')
          exact Inv_min h (fun u b hu q _ _ _ _ _ _ _ => r _ _ (Or.inl q) (by omega)) r4 (fun u hu => by rw [r _ _ (by omega) (by omega)]; exact h.p5 u hu) r2 (r _ _ (by omega) (by omega)) (by rw [r 10 4 (by omega) (by omega), r 10 5 (by omega) (by omega), r 10 3 (by omega) (by omega)]; exact h.2.2.2.2.2.1) eW (by omega)
  · show Px T A t ((lkA A t x.toNatClampNeg, []), decide (A.1 11 x.toNatClampNeg = -1))
    have hl : x.toNatClampNeg < 6 := by
      have hq : (xMost.getD 9 0).toInt ≤ (5 : Nat) := hlm.2
      have := num_le (x := x) (m := 5) (by omega) (by omega)
      omega
    unfold lkA
    by_cases e : A.1 11 x.toNatClampNeg = -1
    · rw [if_pos e, decide_eq_true e]
      have r : ∀ a b, ¬ a = 11 → (note (up A 11 x.toNatClampNeg (nI t)) 3 (nI t) (nI x.toNatClampNeg)).1 a b = A.1 a b := fun a b q => by rw [note_1, up_a q]
      exact keep _ (hld_inv h ht hl e) (Evo.of (fun b hb => r _ _ (by omega)) (fun a b ha => r _ _ (by omega)) (fun u b hu hb => r _ _ (by omega)) (Nat.le_succ _)) (by show A.2.1.length + 1 ≤ _; omega) (r _ _ (by omega)) (by rw [r _ _ (by omega)]; exact h3')
    · rw [if_neg e, decide_eq_false e]
      by_cases e2 : A.1 11 x.toNatClampNeg = nI t
      · rw [if_pos e2]
        exact keepf _ (flA_inv h ht h3) (flA_evo hT ht) (by show A.2.1.length + 1 ≤ _; omega)
      · rw [if_neg e2]
        have r : ∀ a b, ¬ (a = t ∧ (b = 3 ∨ b = 8)) → (note (adW (up (up A t 3 2) t 8 (nI x.toNatClampNeg)) x.toNatClampNeg t) 2 (nI t) (nI x.toNatClampNeg)).1 a b = A.1 a b := fun a b q => by
          rw [note_1, adW_1, up_e, if_neg (by omega), up_e, if_neg (by omega)]
        exact keepf _ (blk_inv h ht hl h3 e e2) (Evo.of (fun b hb => r _ _ (by omega)) (fun a b ha => r _ _ (by omega)) (fun u b hu hb => r _ _ (by omega)) (Nat.le_succ _)) (by show A.2.1.length + 1 ≤ _; omega)
  · show Px T A t (if A.1 11 x.toNatClampNeg = nI t then ((gv1 T A t x.toNatClampNeg, gvk T A t x.toNatClampNeg []), true) else ((flA A t, []), false))
    have hl : x.toNatClampNeg < 6 := by
      have hq : (xMost.getD 10 0).toInt ≤ (5 : Nat) := hlm.2
      have := num_le (x := x) (m := 5) (by omega) (by omega)
      omega
    split
    · rename_i e
      have hS : SI T A [] := ⟨h, fun u hu => (nomatch hu), by have := cnt_n (fun u => decide (A.1 u 3 = 2)) T; unfold bl; simp only [List.length_nil]; omega⟩
      obtain ⟨g1, g2, g3, g4, g5, g6, g7, g8⟩ := gv_gen hS hl e ht
      obtain ⟨i1, i2, i3, i4, i5, i6, i7⟩ := stl_ok 64 _ _ g1 (by have := si_mes g1; omega)
      have rt : ∀ b, (fin T (gv1 T A t x.toNatClampNeg) (gvk T A t x.toNatClampNeg [])).1 t b = A.1 t b := fun b => by
        unfold fin
        rw [i6 t b (by omega) (by rw [g7 t 3 (by omega) h3']; exact h3'), g7 t b (by omega) h3']
      refine Px_t ht h1 h2 hqz hz (Or.inr g1) (by omega) ?_ (by unfold fin; omega) i1 (rt 2) (by rw [rt]; exact h3')
      refine Evo.of (fun b hb => (i4 _ _ (by omega) (by omega)).trans (g5 _ _ (by omega) (by omega))) (fun a b ha => (i4 _ _ (by omega) (by omega)).trans (g5 _ _ (by omega) (by omega))) (fun u b hu hb => (i5 _ _ (by omega) (by omega) (by omega) (by omega) (by omega)).trans (g6 _ _ (by omega) (by omega) (by omega) (by omega) (by omega))) (by unfold fin; omega)
    · exact keepf _ (flA_inv h ht h3) (flA_evo hT ht) (by show A.2.1.length + 1 ≤ _; omega)
end PFM
