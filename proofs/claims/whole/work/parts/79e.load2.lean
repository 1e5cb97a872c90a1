/-! ===== load, both sides ===== -/
section LOAD2
variable {n : Nat} {M M1 M2 M3 M4 M5 : Mem}
theorem tx_get (h : Tx M) : ∃ l b, Txt M l b ∧ TxM M l b := by
  obtain ⟨l, l1, l2, l3, l4⟩ := h
  have e : ∀ i, i < l → (M.1 27 0 0 i).toNatClampNeg < 256 ∧ M.1 2 0 0 i = sb (M.1 27 0 0 i).toNatClampNeg ∧ M.1 27 0 0 i = nI (M.1 27 0 0 i).toNatClampNeg := fun i hi => by
    obtain ⟨x, x1, x2, x3⟩ := l4 i hi
    rw [x2, cl (by omega)]
    exact ⟨x1, x3, rfl⟩
  exact ⟨l, fun i => (M.1 27 0 0 i).toNatClampNeg, ⟨l1, l2, fun i hi => ⟨(e i hi).1, (e i hi).2.1⟩⟩, ⟨l1, l3, fun i hi => ⟨(e i hi).1, (e i hi).2.2⟩⟩⟩
def LdC (M M1 : Mem) (l : Nat) (b : Nat → Nat) (T : Nat) (A : AS) (o : Int32) : Prop := M1.1 1 0 0 1 = 0 ∧ M1.2 = M.2 ∧ (∀ kd k i j, ¬ (k < 2 ∧ 3 ≤ kd ∧ kd ≤ 16) → ¬ (kd = 1 ∧ 1 ≤ j) → M1.1 kd k i j = M.1 kd k i j) ∧ (match spLd l b 800 0 Az 0 with
  | .ok y => o = nI y.1 ∧ C true true 0 M1 y.1 y.2 [] M1 ∧ M1.1 1 0 0 2 = 0 ∧ M1.1 1 0 0 3 = -1
  | .error q => o = -1 ∧ C true true 0 M1 T A [] M1 ∧ M1.1 1 0 0 2 = nI q.1 ∧ M1.1 1 0 0 3 = nI q.2)
theorem c_load {T : Nat} {A : AS} (hC : C true true 0 M T A [] M) {l : Nat} {b : Nat → Nat} (hX : Txt M l b) : Sat (pX7_load M) (fun o M' => LdC M M' l b T A o) := by
  rw [pX7_load]
  refine S_bnd (c_clear (k := 1) (M := M)) (fun _ M2 h2 => ?_)
  have F2 := h2.fkk
  have f3 : Gf M (wI (wI (wI M2 1 0 0 2 0) 1 0 0 3 (-1)) 1 0 0 7 0) := ⟨F2.1, fun a c d e q1 q2 => by
    rw [wI_e, if_neg (by omega), wI_e, if_neg (by omega), wI_e, if_neg (by omega)]
    exact F2.2 _ _ _ _ (by omega)⟩
  have hst : Sat (pX5_startReading M2) (fun _ M' => Q7 M l b 0 Az 0 M') := by
    rw [pX5_startReading, nm_def, nm_def, nm_def]
    refine S_bnd (c_tok (n := l) (b := b) (p := 0) (Nat.zero_le _) (hX.gf f3) wI_s) (fun _ M4 h4 => ?_)
    obtain ⟨g1, g2⟩ := h4
    refine S_ret ⟨h2.mv (fun kd i j h1 h3 => ?_), f3.fc g1, g2, ?_, ?_⟩
    · rw [g1.2 _ _ _ _ (by omega), wI_kd (by omega), wI_kd (by omega), wI_kd (by omega)]
    · rw [g1.2 _ _ _ _ (by omega), wI_j (by omega), wI_j (by omega), wI_s]
    · rw [g1.2 _ _ _ _ (by omega), wI_j (by omega), wI_s]
  refine S_bnd hst (fun _ M5 h5 => ?_)
  refine c_ld16 hX 800 fu 0 0 Az 0 M5 (by omega) (by decide) (Nat.zero_le _) Az_inv h5 (fun M6 h6 => ?_)
  rw [pX7_load_50, nm_def, wI_j (by omega)]
  cases hr : spLd l b 800 0 Az 0 with
  | error q =>
    rw [hr] at h6
    obtain ⟨⟨g1, g2, g3⟩, g4⟩ := h6
    rw [if_neg g4]
    refine S_ret ⟨wI_s, g1.1, fun kd k i j q1 q2 => ?_, ?_⟩
    · rw [wI_e, if_neg (by omega)]
      exact g1.2 _ _ _ _ (by omega) (by omega)
    · rw [hr]
      refine ⟨rfl, hC.mv (fun kd i j h1 h3 => ?_), by rw [wI_j (by omega)]; exact g2, by rw [wI_j (by omega)]; exact g3⟩
      rw [wI_kd (by omega)]
      exact g1.2 _ _ _ _ (by omega) (by omega)
  | ok y =>
    rw [hr] at h6
    obtain ⟨p, q1, q2, q3, q4, q5⟩ := h6
    have hI := (spLd_ok 800 0 Az 0 y (Nat.zero_le _) Az_inv hr).1
    rw [if_pos q4]
    have hC1 : C true true 1 (wI M6 1 0 0 1 0) y.1 y.2 [] (wI M6 1 0 0 1 0) := q1.mv (fun kd i j h1 h3 => wI_kd (by omega))
    refine S_bnd (c_copy (k := 0) (k1 := 1) (by omega) hC1 hI) (fun _ M7 h7 => ?_)
    have F7' := h7.fkk
    rw [h7.cnt4]
    refine S_ret ⟨by rw [F7'.2 _ _ _ _ (by omega), wI_s], F7'.1.trans q2.1, fun kd k i j z1 z2 => ?_, ?_⟩
    · rw [F7'.2 _ _ _ _ (by omega), wI_e, if_neg (by omega)]
      exact q2.2 _ _ _ _ (by omega) (by omega)
    · rw [hr]
      exact ⟨rfl, h7.re, by rw [F7'.2 _ _ _ _ (by omega), wI_j (by omega)]; exact q4, by rw [F7'.2 _ _ _ _ (by omega), wI_j (by omega)]; exact q5⟩
def LdM (M M1 : Mem) (l : Nat) (b : Nat → Nat) (T : Nat) (A : AS) (o : Int32) : Prop := M1.1 19 0 0 9 = 0 ∧ (∀ kd k i j, ¬ kd = 20 → ¬ kd = 21 → ¬ kd = 28 → ¬ kd = 29 → ¬ (kd = 19 ∧ (j = 7 ∨ 9 ≤ j ∧ j ≤ 16 ∨ j = 20)) → M1.1 kd k i j = M.1 kd k i j) ∧ (match spLd l b 800 0 Az 0 with
  | .ok y => o = nI y.1 ∧ D M1 y.1 y.2 [] M1 ∧ M1.1 19 0 0 15 = 0 ∧ M1.1 19 0 0 16 = -1
  | .error q => o = -1 ∧ D M1 T A [] M1 ∧ M1.1 19 0 0 15 = nI q.1 ∧ M1.1 19 0 0 16 = nI q.2)
theorem m_load {T : Nat} {A : AS} (hD : D M T A [] M) {l : Nat} {b : Nat → Nat} (hX : TxM M l b) (hTb : Tb M) : Sat (pX8_load M) (fun o M' => LdM M M' l b T A o) := by
  rw [pX8_load, nm_def]
  refine S_bnd (cp_20_21 (M := wI M 19 0 0 7 0) (a := 0) (b := 0) (by omega) (by omega)) (fun _ M2 h2 => ?_)
  obtain ⟨c1, c2, c3⟩ := h2
  refine S_bnd (m_clear (M := M2)) (fun _ M3 h3 => ?_)
  obtain ⟨d1, d2, d3⟩ := h3
  rw [nm_def, nm_def, nm_def]
  have r3 : ∀ kd k i j, ¬ kd = 20 → ¬ kd = 21 → ¬ (kd = 19 ∧ j = 7) → M3.1 kd k i j = M.1 kd k i j := fun kd k i j z1 z2 z3 => by
    rw [d3 _ _ _ _ z1, c2 _ _ _ _ (by omega), wI_e, if_neg (by omega)]
  have s21 : ∀ j, j < 700 → M3.1 21 0 0 j = M.1 20 0 0 j := fun j hj => by
    have := c1 j hj
    rw [Nat.zero_add, wI_kd (by omega)] at this
    rw [d3 _ _ _ _ (by omega)]
    exact this
  have rE : ∀ kd k i j, ¬ (kd = 19 ∧ (j = 15 ∨ j = 16 ∨ j = 10)) → (wI (wI (wI M3 19 0 0 15 0) 19 0 0 16 (-1)) 19 0 0 10 0).1 kd k i j = M3.1 kd k i j := fun kd k i j z => by
    rw [wI_e, if_neg (by omega), wI_e, if_neg (by omega), wI_e, if_neg (by omega)]
  have e15 : (wI (wI (wI M3 19 0 0 15 0) 19 0 0 16 (-1)) 19 0 0 10 0).1 19 0 0 15 = 0 := by rw [wI_j (by omega), wI_j (by omega), wI_s]
  have e16 : (wI (wI (wI M3 19 0 0 15 0) 19 0 0 16 (-1)) 19 0 0 10 0).1 19 0 0 16 = -1 := by rw [wI_j (by omega), wI_s]
  have e10 : (wI (wI (wI M3 19 0 0 15 0) 19 0 0 16 (-1)) 19 0 0 10 0).1 19 0 0 10 = nI 0 := wI_s
  generalize wI (wI (wI M3 19 0 0 15 0) 19 0 0 16 (-1)) 19 0 0 10 0 = E at *
  have hXE : TxM E l b := ⟨hX.1, by rw [rE _ _ _ _ (by omega), r3 _ _ _ _ (by omega) (by omega) (by omega)]; exact hX.2.1, fun i hi => by rw [rE _ _ _ _ (by omega), r3 _ _ _ _ (by omega) (by omega) (by omega)]; exact hX.2.2 i hi⟩
  have hTE : Tb E := fun c hc => by rw [rE _ _ _ _ (by omega), rE _ _ _ _ (by omega), r3 _ _ _ _ (by omega) (by omega) (by omega), r3 _ _ _ _ (by omega) (by omega) (by omega)]; exact hTb c hc
  have hDE : D E 0 Az [] E := ⟨d1.cong (fun j _ => rE _ _ _ _ (by omega)), ⟨by rw [rE _ _ _ _ (by omega), r3 _ _ _ _ (by omega) (by omega) (by omega)]; exact hD.2.1.1, Nat.zero_le _, fun i hi => absurd hi (Nat.not_lt_zero i)⟩, Fm.refl E⟩
  refine S_bnd (m_tok (n := l) (b := b) (p := 0) (Nat.zero_le _) hXE e10) (fun _ M5 h5 => ?_)
  obtain ⟨f1, f2⟩ := h5
  have hf5 : Hf E M5 := ⟨f1.1, fun a c d e _ _ _ q4 => f1.2 _ _ _ _ (by omega)⟩
  have h8 : Q8 E l b 0 Az 0 M5 := ⟨hDE.mv (fun j => f1.2 _ _ _ _ (by omega)) (fun j => f1.2 _ _ _ _ (by omega)) (f1.2 _ _ _ _ (by omega)), hf5, f2, by rw [f1.2 _ _ _ _ (by omega)]; exact e15, by rw [f1.2 _ _ _ _ (by omega)]; exact e16⟩
  refine m_ld41 hXE hTE 800 fu 0 Az 0 M5 (by have := hX.1; omega) (by decide) (Nat.zero_le _) Az_inv h8 (fun M6 h6 => ?_)
  rw [pX8_load_62, nm_def]
  have fr : ∀ {M6 : Mem}, Hf E M6 → ∀ kd k i j, ¬ kd = 20 → ¬ kd = 21 → ¬ kd = 28 → ¬ kd = 29 → ¬ (kd = 19 ∧ (j = 7 ∨ 9 ≤ j ∧ j ≤ 16 ∨ j = 20)) → (wI M6 19 0 0 9 0).1 kd k i j = M.1 kd k i j := fun {M6} hf kd k i j z1 z2 z3 z4 z5 => by
    rw [wI_e, if_neg (by omega), hf.2 _ _ _ _ z1 z3 z4 (by omega), rE _ _ _ _ (by omega), r3 _ _ _ _ z1 z2 (by omega)]
  cases hr : spLd l b 800 0 Az 0 with
  | error q =>
    rw [hr] at h6
    obtain ⟨g1, g2, g3, g4, g5, g6⟩ := h6
    rw [z_fine (by rw [wI_j (by omega)]; exact g2), bnd_some, if_neg (not_not_intro rfl)]
    refine S_bnd (cp_21_20 (M := wI M6 19 0 0 9 0) (a := 0) (b := 0) (by omega) (by omega)) (fun _ M7 h7 => S_ret ?_)
    obtain ⟨k1, k2, k3⟩ := h7
    refine ⟨by rw [k2 _ _ _ _ (by omega), wI_s], fun kd k i j z1 z2 z3 z4 z5 => (k2 _ _ _ _ (by omega)).trans (fr g1 kd k i j z1 z2 z3 z4 z5), ?_⟩
    rw [hr]
    refine ⟨rfl, ⟨hD.1.cong (fun j hj => ?_), ⟨?_, Nat.zero_le _, fun i hi => absurd hi (Nat.not_lt_zero i)⟩, Fm.refl M7⟩, ?_, ?_⟩
    · have := k1 j hj
      rw [Nat.zero_add, wI_kd (by omega), g1.2 _ _ _ _ (by omega) (by omega) (by omega) (by omega), rE _ _ _ _ (by omega), s21 j hj] at this
      exact this
    · rw [k2 _ _ _ _ (by omega), wI_j (by omega)]
      exact g6
    · rw [k2 _ _ _ _ (by omega), wI_j (by omega)]
      exact g3
    · rw [k2 _ _ _ _ (by omega), wI_j (by omega)]
      exact g4
  | ok y =>
    rw [hr] at h6
    obtain ⟨p, q1, q2, q3, q4, q5⟩ := h6
    have hD9 : D (wI M6 19 0 0 9 0) y.1 y.2 [] (wI M6 19 0 0 9 0) := q1.mv (fun j => wI_kd (by omega)) (fun j => wI_kd (by omega)) (wI_j (by omega))
    rw [g_fine (by rw [wI_j (by omega)]; exact q4), bnd_some, if_pos (show ¬ (1 : Int32) = 0 by decide), chk_h ib_2, cl_2, hD9.cnt2]
    refine S_ret ⟨wI_s, fun kd k i j z1 z2 z3 z4 z5 => fr q2 kd k i j z1 z2 z3 z4 z5, ?_⟩
    rw [hr]
    exact ⟨rfl, hD9, by rw [wI_j (by omega)]; exact q4, by rw [wI_j (by omega)]; exact q5⟩
theorem call_load (hJ : J n M) : LC2 (pX7_load M) pX8_load n := by
  obtain ⟨T, A, hC, hD, hI, hB, hR⟩ := id hJ
  obtain ⟨l, b, hX, hXM⟩ := tx_get hR.2.2.1
  obtain ⟨o, M1, e1, l1, l2, l3, l4⟩ := c_load hC hX
  have hD1 : D M1 T A [] M1 := hD.mv (fun j => l3 _ _ _ _ (by omega) (by omega)) (fun j => l3 _ _ _ _ (by omega) (by omega)) (l3 _ _ _ _ (by omega) (by omega))
  have hX1 : TxM M1 l b := ⟨hXM.1, by rw [l3 _ _ _ _ (by omega) (by omega)]; exact hXM.2.1, fun i hi => by rw [l3 _ _ _ _ (by omega) (by omega)]; exact hXM.2.2 i hi⟩
  have hT1 : Tb M1 := fun c hc => by rw [l3 _ _ _ _ (by omega) (by omega), l3 _ _ _ _ (by omega) (by omega)]; exact hR.2.1 c hc
  obtain ⟨o2, M2, e2, k1, k2, k3⟩ := m_load hD1 hX1 hT1
  have tx : Tx M2 := ⟨0, by omega, by rw [k2 _ _ _ _ (by omega) (by omega) (by omega) (by omega) (by omega)]; exact l1, k1, fun i hi => absurd hi (Nat.not_lt_zero i)⟩
  have rst : Ex M2 → Rst n M2 := fun hx => hR.tx (fun kd k i j z1 z2 z3 => (k2 _ _ _ _ (by omega) (by omega) (by omega) (by omega) (by omega)).trans (l3 _ _ _ _ (by omega) (by omega))) (fun kd j z => (k2 _ _ _ _ (by omega) (by omega) (by omega) (by omega) (by omega)).trans (l3 _ _ _ _ (by omega) (by omega))) tx hx
  have cmv : ∀ {T' : Nat} {A' : AS}, C true true 0 M1 T' A' [] M1 → C true true 0 M2 T' A' [] M2 := fun h => h.mv (fun kd i j z1 z2 => k2 _ _ _ _ (by omega) (by omega) (by omega) (by omega) (by omega))
  have m2 : M2.1 1 0 0 2 = M1.1 1 0 0 2 := k2 _ _ _ _ (by omega) (by omega) (by omega) (by omega) (by omega)
  have m3 : M2.1 1 0 0 3 = M1.1 1 0 0 3 := k2 _ _ _ _ (by omega) (by omega) (by omega) (by omega) (by omega)
  cases hr : spLd l b 800 0 Az 0 with
  | error q =>
    rw [hr] at l4 k3
    obtain ⟨rfl, c1, c2, c3⟩ := l4
    obtain ⟨rfl, d1, d2, d3⟩ := k3
    exact ⟨-1, M1, M2, e1, e2, T, A, cmv c1, d1, hI, hB, rst ⟨by rw [m2, c2, d2], by rw [m3, c3, d3]⟩⟩
  | ok y =>
    rw [hr] at l4 k3
    obtain ⟨rfl, c1, c2, c3⟩ := l4
    obtain ⟨rfl, d1, d2, d3⟩ := k3
    obtain ⟨i1, i2, i3⟩ := spLd_ok 800 0 Az 0 y (Nat.zero_le _) Az_inv hr
    refine ⟨nI y.1, M1, M2, e1, e2, y.1, y.2, cmv c1, d1, i1, ⟨?_, ?_⟩, rst ⟨by rw [m2, c2, d2], by rw [m3, c3, d3]⟩⟩
    · rw [i2]
      exact Nat.zero_le _
    · rw [i3]
      show (0 : Int32).toInt ≤ n
      rw [i32_0]
      omega
end LOAD2
