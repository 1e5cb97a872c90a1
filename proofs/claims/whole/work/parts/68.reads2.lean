/-! ===== calls that only read: locks, flags, events, threads ===== -/
section READS2
variable {n : Nat} {T : Nat} {A : AS} {M M1 M2 M3 M4 M5 : Mem}
theorem c_nneg (v : Int32) : pX7_needNotNegative v M = if 0 ≤ v then some (.ok (), M) else some (.error 3, M) := by
  rw [pX7_needNotNegative]
  rfl
theorem isT_rng {v : Int32} {m : Nat} {hi : Int32} (hm : m < 1000) (he : nI m - 1 = hi) : rng v 0 hi = isT m v := by
  rw [← he]
  exact rng_isT v hm
theorem call_lock (hJ : J n M) (v w : Int32) : LC qI (pL_lock v w M) (pX8_lock v w) n := by
  obtain ⟨T, A, hC, hD, hI, hB, hR⟩ := id hJ
  have hT := hI.T10
  have i6 : ∀ M' : Mem, pX7_needIndex v (6 : Int32) M' = if isT 6 v = true then some (.ok (), M') else some (.error 3, M') := fun M' => c_idxT v 6
  rw [pL_lock]
  by_cases e : isT 6 v = true
  · obtain ⟨l, hl, rfl⟩ := isT_s (by omega) e
    by_cases e2 : 0 ≤ w
    · obtain ⟨x, hx, rfl⟩ := nI_of (x := w) (by rw [i32_lt]; rw [i32_le] at e2; omega)
      by_cases e0 : x = 0
      · subst e0
        refine LC_rd (o := A.1 11 l) hJ ?_ ?_
        · rw [pX7_lock, i6, if_pos e, bndx_ok, c_nneg, if_pos e2, bndx_ok, if_neg (show ¬ ¬ nI 0 = 0 from not_not_intro rfl), chk_h (inB_nI hl (by omega)), cl (by omega), hC.ho hl]
          rfl
        · have hD1 := J_mid hD (A.1 11 l).toInt64
          have e14 : (14 : Int32) + nI l = nI (14 + l) := nI_add 14 l
          rw [pX8_lock, nm_def, m_rng, isT_rng (m := 6) (hi := 5) (by omega) rfl, if_pos e, bnd_some, if_neg (show ¬ (1 : Int32) = 0 by decide), if_pos e2, if_neg (show ¬ ¬ nI 0 = 0 from not_not_intro rfl), e14, chk_h (inB_nI (by omega) (by omega)), cl (by omega), hD1.ho hl]
      · have e0' : ¬ nI x = 0 := fun q => e0 (nI_inj hx (b := 0) (by omega) q)
        have exm : nI x - (1 : Int32) = nI (x - 1) := nI_sub (b := 1) (by omega)
        by_cases e10 : x ≤ 10
        · refine LC_rd (o := wt A l (x - 1)) hJ ?_ ?_
          · rw [pX7_lock, i6, if_pos e, bndx_ok, c_nneg, if_pos e2, bndx_ok, if_pos e0', exm, c_waiter hC hl (by omega), bnd_some]
            rfl
          · have hD1 := J_mid hD (wt A l (x - 1)).toInt64
            rw [pX8_lock, nm_def, m_rng, isT_rng (m := 6) (hi := 5) (by omega) rfl, if_pos e, bnd_some, if_neg (show ¬ (1 : Int32) = 0 by decide), if_pos e2, if_pos e0', if_pos (show nI x ≤ (10 : Int32) from nI_le (b := 10) e10 (by omega)), m_waiter hD1 hI hl (by omega) (by omega), bnd_some]
        · refine LC_rd (o := -1) hJ ?_ ?_
          · have hw := hC.2.2.2.2.1 l hl
            rw [pX7_lock, i6, if_pos e, bndx_ok, c_nneg, if_pos e2, bndx_ok, if_pos e0', exm, pX1_waiter, chk_h (inB_nI hl (by omega)), cl (by omega), hw.1, if_pos (nI_le (by have := hw.2.1; omega) (by omega)), bnd_some]
            rfl
          · rw [pX8_lock, nm_def, m_rng, isT_rng (m := 6) (hi := 5) (by omega) rfl, if_pos e, bnd_some, if_neg (show ¬ (1 : Int32) = 0 by decide), if_pos e2, if_pos e0', if_neg (show ¬ nI x ≤ (10 : Int32) from nI_ge (a := 10) (by omega) hx)]
    · refine LC_re (e := 3) (k := 1) (b := 0) hJ (by rw [pX7_lock, i6, if_pos e, bndx_ok, c_nneg, if_neg e2, bndx_er]) rfl ?_ (by decide)
      rw [pX8_lock, nm_def, m_rng, isT_rng (m := 6) (hi := 5) (by omega) rfl, if_pos e, bnd_some, if_neg (show ¬ (1 : Int32) = 0 by decide), if_neg e2, pX8_lock_18, m_fail, bnd_some]
  · refine LC_re (e := 3) (k := 1) (b := 0) hJ (by rw [pX7_lock, i6, if_neg e, bndx_er]) rfl ?_ (by decide)
    rw [pX8_lock, nm_def, m_rng, isT_rng (m := 6) (hi := 5) (by omega) rfl, if_neg e, bnd_some, if_pos rfl, pX8_lock_18, m_fail, bnd_some]
theorem call_flag (hJ : J n M) (v : Int32) : LC qB (pL_flag v M) (pX8_flag v) n := by
  obtain ⟨T, A, hC, hD, hI, hB, hR⟩ := id hJ
  have hT := hI.T10
  have i8 : ∀ M' : Mem, pX7_needIndex v (8 : Int32) M' = if isT 8 v = true then some (.ok (), M') else some (.error 3, M') := fun M' => c_idxT v 8
  rw [pL_flag]
  by_cases e : isT 8 v = true
  · obtain ⟨f, hf, rfl⟩ := isT_s (by omega) e
    have h7 : pX7_flag (nI f) M = some (.ok (if onF A f = true then 1 else 0), M) := by
      rw [pX7_flag, i8, if_pos e, bndx_ok, c_flagOn hC, bnd_some, chk_h (b01_if (Or.inr rfl) (Or.inl rfl))]
      rfl
    have hm : ∀ x : Int64, pX8_flag (nI f) (wO M x) = some ((if onF A f = true then 1 else 0), wI (wO M x) 19 0 0 7 0) := fun x => by
      have hD1 := J_mid hD x
      rw [pX8_flag, m_rng, isT_rng (m := 8) (hi := 7) (by omega) rfl, if_pos e, bnd_some, if_neg (show ¬ (1 : Int32) = 0 by decide), pX8_flag_16, nm_def, wI_s, if_neg (not_not_intro rfl), m_isOn hD1, bnd_some]
      by_cases eo : onF A f = true
      · rw [if_pos eo, if_neg (show ¬ (1 : Int32) = 0 by decide), chk_h b01_1]
      · rw [if_neg eo, if_pos rfl, chk_h b01_0]
    by_cases eo : onF A f = true
    · rw [if_pos eo] at h7
      have hm1 := hm 1
      rw [if_pos eo] at hm1
      refine ⟨wO M 1, 0, 1, _, ?_, hm1, wI_s, fun _ => Or.inr ⟨rfl, rfl⟩, J_w7 (J_wo hJ 1) 0⟩
      rw [h7]
      exact okB_1 M
    · rw [if_neg eo] at h7
      have hm1 := hm 0
      rw [if_neg eo] at hm1
      refine ⟨wO M 0, 0, 0, _, ?_, hm1, wI_s, fun _ => Or.inl ⟨rfl, rfl⟩, J_w7 (J_wo hJ 0) 0⟩
      rw [h7]
      exact okB_0 M
  · refine LC_er (e := 3) (k := 1) (b := 0) (M2 := wI M 19 0 0 7 1) (by rw [pX7_flag, i8, if_neg e, bndx_er]) rfl ?_ wI_s (by decide) (J_w7 hJ 1)
    rw [pX8_flag, m_rng, isT_rng (m := 8) (hi := 7) (by omega) rfl, if_neg e, bnd_some, if_pos rfl, pX8_flag_16, nm_def, wI_s, if_pos (show ¬ (1 : Int32) = 0 by decide), chk_h b01_0]
/-! events -/
theorem kpt_40 (A : AS) : kpt A ≤ 40 := Nat.min_le_right _ _
def evF (A : AS) (j c : Nat) : Int32 := evc (A.2.1.getD (kpt A - 1 - j) ev0) c
theorem c_cell {g p : Bool} {k : Nat} {M0 : Mem} {stk : List Nat} (h : C g p k M0 T A stk M) {j c : Nat} (hj : j < kpt A) (hc : c < 4) : pX2_cell k (nI j) (nI c) M = some (evF A j c, M) := by
  have hl := h.2.2.2.1
  have h1 := hl.1
  rw [LIM_eq] at h1
  have hk : kpt A ≤ A.2.1.length := Nat.min_le_left _ _
  have hk40 := kpt_40 A
  have q := hl.2.2 (kpt A - 1 - j) c (by omega) (by omega) hc
  have e1 : A.2.1.length - 1 - (kpt A - 1 - j) = A.2.1.length - kpt A + j := by omega
  rw [e1] at q
  have hm : (A.2.1.length - kpt A + j) % 40 < 40 := Nat.mod_lt _ (by omega)
  have hn : A.2.1.length % 40 < 40 := Nat.mod_lt _ (by omega)
  have em : (A.2.1.length % 40 + 40 - kpt A + j) % 40 = (A.2.1.length - kpt A + j) % 40 := by
    have hk2 : kpt A = min A.2.1.length 40 := rfl
    omega
  have e2 : (((((((nI (A.2.1.length % 40)) + (40 : Int32)) - (nI (kpt A))) + nI j) - ((((nI (A.2.1.length % 40)) + (40 : Int32)) - (nI (kpt A))) + nI j) / (40 : Int32) * (40 : Int32)) * (4 : Int32)) + nI c) = nI (4 * ((A.2.1.length - kpt A + j) % 40) + c) := by
    have a0 : nI (A.2.1.length % 40) + (40 : Int32) = nI (A.2.1.length % 40 + 40) := nI_add _ 40
    rw [a0, nI_sub (show kpt A ≤ A.2.1.length % 40 + 40 by omega), nI_add]
    have a1 : nI (A.2.1.length % 40 + 40 - kpt A + j) - nI (A.2.1.length % 40 + 40 - kpt A + j) / (40 : Int32) * (40 : Int32) = nI ((A.2.1.length % 40 + 40 - kpt A + j) % 40) := nI_mod (m := 40) (by omega) (by omega)
    rw [a1, em]
    have a2 : nI ((A.2.1.length - kpt A + j) % 40) * (4 : Int32) = nI (((A.2.1.length - kpt A + j) % 40) * 4) := nI_mul _ 4
    rw [a2, nI_add, Nat.mul_comm]
  rw [pX2_cell, c_kept h, hl.nx, e2, chk_h (inB_nI (by omega) (by omega)), cl (by omega), q]
  rfl
theorem m_cell (h : D M3 T A [] M) {j c : Nat} (hj : j < kpt A) (hc : c < 4) : M.1 20 0 0 (540 + 4 * j + c) = evF A j c := by
  have hl := h.1.2.2.2.2.2.1
  have hk : kpt A ≤ A.2.1.length := Nat.min_le_left _ _
  have hk40 := kpt_40 A
  have q := hl.2.2.2 (kpt A - 1 - j) c (by omega) (by omega) hc
  have e1 : min A.2.1.length 40 - 1 - (kpt A - 1 - j) = j := by
    show kpt A - 1 - (kpt A - 1 - j) = j
    omega
  rw [e1] at q
  exact q
theorem call_event (hJ : J n M) (v w : Int32) : LC qI (pL_event v w M) (pX8_event v w) n := by
  obtain ⟨T, A, hC, hD, hI, hB, hR⟩ := id hJ
  have hk40 := kpt_40 A
  rw [pL_event]
  by_cases e : isT (kpt A) v = true
  · obtain ⟨j, hj, rfl⟩ := isT_s (by omega) e
    by_cases e2 : rng w 0 3 = true
    · obtain ⟨c, -, hc, rfl⟩ := rng_lo (lo := 0) (hi := 3) (by omega) (by omega) rfl rfl e2
      refine LC_rd (o := evF A j c) hJ ?_ ?_
      · rw [pX7_event, c_kept hC, c_idxT, if_pos e, bndx_ok, c_rng, if_pos e2, bndx_ok, c_cell hC hj (by omega), bnd_some]
        rfl
      · have hD1 := J_mid hD (evF A j c).toInt64
        have ecp : ((540 : Int32) + ((4 : Int32) * nI j)) + nI c = nI (540 + 4 * j + c) := by
          have a1 : (4 : Int32) * nI j = nI (4 * j) := nI_mul 4 j
          have a2 : (540 : Int32) + nI (4 * j) = nI (540 + 4 * j) := nI_add 540 _
          rw [a1, a2, nI_add]
        rw [pX8_event, nm_def, chk_h ib_7, cl_7, hD1.lg, m_rng, rng_isT _ (by omega), if_pos e, bnd_some, if_pos (show ¬ (1 : Int32) = 0 by decide), m_rng, if_pos e2, bnd_some, if_neg (show ¬ (1 : Int32) = 0 by decide), ecp, chk_h (inB_nI (by omega) (by omega)), cl (by omega), m_cell hD1 hj (by omega)]
    · refine LC_re (e := 2) (k := 2) (b := 0) hJ (by rw [pX7_event, c_kept hC, c_idxT, if_pos e, bndx_ok, c_rng, if_neg e2, bndx_er]) rfl ?_ (by decide)
      rw [pX8_event, nm_def, chk_h ib_7, cl_7, (hD.w7 0).lg, m_rng, rng_isT _ (by omega), if_pos e, bnd_some, if_pos (show ¬ (1 : Int32) = 0 by decide), m_rng, if_neg e2, bnd_some, if_pos rfl, m_fail, bnd_some]
  · refine LC_re (e := 3) (k := 1) (b := 0) hJ (by rw [pX7_event, c_kept hC, c_idxT, if_neg e, bndx_er]) rfl ?_ (by decide)
    rw [pX8_event, nm_def, chk_h ib_7, cl_7, (hD.w7 0).lg, m_rng, rng_isT _ (by omega), if_neg e, bnd_some, if_neg (not_not_intro rfl), m_fail, bnd_some]
def evP (A : AS) (v w : Int32) (j : Nat) : Bool := if evF A j 1 = v then (if w = -1 then true else decide (evF A j 2 = w)) else false
theorem c_ct5 {g p : Bool} {k : Nat} {M0 : Mem} {stk : List Nat} (h : C g p k M0 T A stk M) (v w : Int32) : ∀ (m n i a : Nat), i + m = kpt A → m < n → pX2_countOf_5 k n v w (nI a) (nI i) M = some (nI (cf (evP A v w) m i a), M) := by
  have hk40 := kpt_40 A
  intro m
  induction m with
  | zero =>
    intro n i a hi hn
    obtain ⟨n, rfl⟩ : ∃ n', n = n' + 1 := ⟨n - 1, by omega⟩
    rw [pX2_countOf_5, c_kept h, if_pos (nI_le (by omega) (by omega))]
    rfl
  | succ m ih =>
    intro n i a hi hn
    obtain ⟨n, rfl⟩ : ∃ n', n = n' + 1 := ⟨n - 1, by omega⟩
    have c1 : pX2_cell k (nI i) (1 : Int32) M = some (evF A i 1, M) := c_cell (c := 1) h (by omega) (by omega)
    have c2 : pX2_cell k (nI i) (2 : Int32) M = some (evF A i 2, M) := c_cell (c := 2) h (by omega) (by omega)
    rw [pX2_countOf_5, c_kept h, if_neg (nI_ge (by omega) (by omega)), c1, bnd_some, c2, nI_1, nI_1, cf]
    unfold evP
    by_cases e : evF A i 1 = v
    · rw [if_neg (not_not_intro e), if_pos e]
      by_cases e2 : w = -1
      · rw [if_pos e2, if_pos e2, if_pos rfl]
        exact ih n (i + 1) (a + 1) (by omega) (by omega)
      · rw [if_neg e2, if_neg e2, bnd_some]
        by_cases e3 : evF A i 2 = w
        · rw [if_neg (not_not_intro e3), if_pos (decide_eq_true e3)]
          exact ih n (i + 1) (a + 1) (by omega) (by omega)
        · rw [if_pos e3, if_neg (show ¬ decide (evF A i 2 = w) = true by simp [e3])]
          exact ih n (i + 1) a (by omega) (by omega)
    · rw [if_pos e, if_neg e, if_neg (by simp)]
      exact ih n (i + 1) a (by omega) (by omega)
theorem m_ev45 {M0 : Mem} (h : D M0 T A [] M) (v w : Int32) : ∀ (m n i a : Nat), i + m = kpt A → m < n → pX8_events_45 n v w (nI a) (nI i) M = some (nI (cf (evP A v w) m i a), M) := by
  have hk40 := kpt_40 A
  intro m
  induction m with
  | zero =>
    intro n i a hi hn
    obtain ⟨n, rfl⟩ : ∃ n', n = n' + 1 := ⟨n - 1, by omega⟩
    rw [pX8_events_45, chk_h ib_7, cl_7, h.lg, if_pos (nI_le (by omega) (by omega))]
    rfl
  | succ m ih =>
    intro n i a hi hn
    obtain ⟨n, rfl⟩ : ∃ n', n = n' + 1 := ⟨n - 1, by omega⟩
    have a1 : (4 : Int32) * nI i = nI (4 * i) := nI_mul 4 i
    have a2 : (540 : Int32) + nI (4 * i) = nI (540 + 4 * i) := nI_add 540 _
    have a3 : nI (540 + 4 * i) + (1 : Int32) = nI (540 + 4 * i + 1) := nI_1 _
    have a4 : nI (540 + 4 * i) + (2 : Int32) = nI (540 + 4 * i + 2) := nI_a2 _
    have z0 : ∀ (k45 : Int32 → Int32 → Int32 → Int32 → Mem → Option (Int32 × Mem)) (b : Nat), pX8_events_105 k45 v w (nI b) (nI i) 0 M = k45 v w (nI b) (nI (i + 1)) M := fun k45 b => by
      rw [pX8_events_105, if_pos rfl, nI_1]
      show k45 v w (nI b + nI 0) _ M = _
      rw [nI_add, Nat.add_zero]
    have z1 : ∀ (k45 : Int32 → Int32 → Int32 → Int32 → Mem → Option (Int32 × Mem)) (b : Nat), pX8_events_105 k45 v w (nI b) (nI i) 1 M = k45 v w (nI (b + 1)) (nI (i + 1)) M := fun k45 b => by
      rw [pX8_events_105, if_neg (show ¬ (1 : Int32) = 0 by decide), nI_1, nI_1, nm_def]
    rw [pX8_events_45, chk_h ib_7, cl_7, h.lg, if_neg (nI_ge (by omega) (by omega)), a1, a2, a3, a4, chk_h (inB_nI (by omega) (by omega)), cl (by omega), cl (by omega), m_cell h (by omega) (by omega), m_cell h (by omega) (by omega), z0, z1, chk_h (inB_nI (by omega) (by omega)), cf]
    unfold evP
    by_cases e : evF A i 1 = v
    · rw [if_neg (not_not_intro e), if_pos e]
      by_cases e2 : w = -1
      · rw [if_pos e2, if_pos e2, if_pos rfl]
        exact ih n (i + 1) (a + 1) (by omega) (by omega)
      · rw [if_neg e2, if_neg e2]
        by_cases e3 : evF A i 2 = w
        · rw [if_neg (not_not_intro e3), if_pos (decide_eq_true e3)]
          exact ih n (i + 1) (a + 1) (by omega) (by omega)
        · rw [if_pos e3, if_neg (show ¬ decide (evF A i 2 = w) = true by simp [e3])]
          exact ih n (i + 1) a (by omega) (by omega)
    · rw [if_pos e, if_neg e, if_neg (by simp)]
      exact ih n (i + 1) a (by omega) (by omega)
theorem call_events (hJ : J n M) (v w : Int32) : LC qI (pL_events v w M) (pX8_events v w) n := by
  obtain ⟨T, A, hC, hD, hI, hB, hR⟩ := id hJ
  have hk40 := kpt_40 A
  rw [pL_events]
  have go7 : pX7_events_10 v w M = if rng v 0 9 = true then some (.ok (nI (cf (evP A v w) (kpt A) 0 0)), M) else some (.error 2, M) := by
    rw [pX7_events_10, c_rng]
    by_cases e : rng v 0 9 = true
    · rw [if_pos e, if_pos e, bndx_ok]
      have := c_ct5 hC v w (kpt A) fu 0 0 (by omega) (by show _ < 4096; omega)
      rw [pX2_countOf]
      show bnd (pX2_countOf_5 0 fu v w (nI 0) (nI 0) M) _ = _
      rw [this, bnd_some]
      rfl
    · rw [if_neg e, if_neg e, bndx_er]
  have go8 : ∀ M' : Mem, D M' T A [] M' → pX8_events_24 v w M' = if rng v 0 9 = true then some (nI (cf (evP A v w) (kpt A) 0 0), M') else some (0, wI M' 19 0 0 7 2) := fun M' hD' => by
    rw [pX8_events_24, m_rng]
    by_cases e : rng v 0 9 = true
    · rw [if_pos e, if_pos e, bnd_some, if_pos (show ¬ (1 : Int32) = 0 by decide)]
      exact m_ev45 hD' v w (kpt A) fu 0 0 (by omega) (by show _ < 4096; omega)
    · rw [if_neg e, if_neg e, bnd_some, if_neg (not_not_intro rfl), m_fail, bnd_some]
  have ok : (w = -1 ∨ isT T w = true) → LC qI (bndc (pX7_events v w M) okO (fun e M1 => if e = 3 then (xok <| some ((1 : Int32), M1)) else if e = 2 then (xok <| some ((2 : Int32), M1)) else none)) (pX8_events v w) n := fun hw => by
    have h7 : pX7_events v w M = pX7_events_10 v w M := by
      rw [pX7_events]
      rcases hw with q | q
      · rw [if_pos q]
      · by_cases q1 : w = -1
        · rw [if_pos q1]
        · rw [if_neg q1, c_thr hC, if_pos q, bndx_ok]
    have h8 : ∀ M' : Mem, D (wI M' 19 0 0 7 0) T A [] (wI M' 19 0 0 7 0) → pX8_events v w M' = pX8_events_24 v w (wI M' 19 0 0 7 0) := fun M' hD' => by
      rw [pX8_events, nm_def]
      rcases hw with q | q
      · rw [if_pos q]
      · by_cases q1 : w = -1
        · rw [if_pos q1]
        · rw [if_neg q1, m_thr hD', if_pos q, bnd_some, if_pos (show ¬ (1 : Int32) = 0 by decide)]
    by_cases e : rng v 0 9 = true
    · rw [if_pos e] at go7
      refine LC_rd hJ (h7.trans go7) ?_
      rw [h8 _ (J_mid hD _), go8 _ (J_mid hD _), if_pos e]
    · rw [if_neg e] at go7
      refine LC_re (e := 2) (k := 2) (b := 0) hJ (h7.trans go7) rfl ?_ (by decide)
      rw [h8 _ (hD.w7 0), go8 _ (hD.w7 0), if_neg e]
  by_cases hw : w = -1 ∨ isT T w = true
  · exact ok hw
  · have n1 : ¬ w = -1 := fun q => hw (Or.inl q)
    have n2 : ¬ isT T w = true := fun q => hw (Or.inr q)
    refine LC_re (e := 3) (k := 1) (b := 0) hJ (by rw [pX7_events, if_neg n1, c_thr hC, if_neg n2, bndx_er]) rfl ?_ (by decide)
    rw [pX8_events, nm_def, if_neg n1, m_thr (hD.w7 0), if_neg n2, bnd_some, if_neg (not_not_intro rfl), m_fail, bnd_some]
/-! threads -/
def thV (T : Nat) (A : AS) (t c : Nat) : Int32 := if c = 0 then A.1 t 0 else if c = 1 then pr T A t else if c = 2 then A.1 t 3 else if c = 3 then A.1 t 2 else if c < 9 then A.1 t c else if c = 9 then nI (mkB (fun l => decide (A.1 11 l = nI t)) 6 0 0) else if c < 17 then A.1 t (c - 1) else if c = 17 then (if A.1 t 16 = -1 then A.1 t 0 else A.1 t 16) else A.1 t 1
theorem c_tnum (h : C true true 0 M3 T A [] M) (hI : Inv T 10 A) (hp : M.1 3 0 0 13 = 0) {t c : Nat} (ht : t < T) (hc : c ≤ 18) (h9 : ¬ c = 9) : pX6_number 0 t (nI c) M = some (thV T A t c, M) := by
  have hc18 : c = 0 ∨ c = 1 ∨ c = 2 ∨ c = 3 ∨ c = 4 ∨ c = 5 ∨ c = 6 ∨ c = 7 ∨ c = 8 ∨ c = 10 ∨ c = 11 ∨ c = 12 ∨ c = 13 ∨ c = 14 ∨ c = 15 ∨ c = 16 ∨ c = 17 ∨ c = 18 := by omega
  rcases hc18 with rfl | rfl | rfl | rfl | rfl | rfl | rfl | rfl | rfl | rfl | rfl | rfl | rfl | rfl | rfl | rfl | rfl | rfl
  · exact some_e (h.th ht 0 rfl)
  · exact some_e (c_pr h hp ht)
  · exact some_e (h.th ht 3 rfl)
  · exact some_e (h.th ht 2 rfl)
  · have e := h.th ht 4 rfl
    show (if M.1 5 0 t 10 = 0 then some ((0 : Int32), M) else some ((1 : Int32), M)) = some (A.1 t 4, M)
    have e' : M.1 5 0 t 10 = A.1 t 4 := e
    rw [e']
    rcases hI.p4 t ht with q | q
    · rw [q, if_pos rfl]
    · rw [q, if_neg (by decide)]
  · have e := h.th ht 5 rfl
    show (if M.1 5 0 t 11 = 0 then some ((0 : Int32), M) else some ((1 : Int32), M)) = some (A.1 t 5, M)
    have e' : M.1 5 0 t 11 = A.1 t 5 := e
    rw [e']
    rcases hI.p5 t ht with q | q
    · rw [q, if_pos rfl]
    · rw [q, if_neg (by decide)]
  · exact some_e (h.th ht 6 rfl)
  · exact some_e (h.th ht 7 rfl)
  · exact some_e (h.th ht 8 rfl)
  · exact some_e (h.th ht 9 rfl)
  · exact some_e (h.th ht 10 rfl)
  · exact some_e (h.th ht 11 rfl)
  · exact some_e (h.th ht 12 rfl)
  · exact some_e (h.th ht 13 rfl)
  · exact some_e (h.th ht 14 rfl)
  · exact some_e (h.th ht 15 rfl)
  · obtain ⟨g1, g2⟩ := h.2.1 rfl t ht
    have e0 : M.1 5 0 t 4 = A.1 t 0 := h.th ht 0 rfl
    show (if ¬ M.1 5 0 t 6 = 0 then some (M.1 5 0 t 6, M) else some (M.1 5 0 t 4, M)) = some ((if A.1 t 16 = -1 then A.1 t 0 else A.1 t 16), M)
    rw [e0, g1]
    by_cases q : A.1 t 16 = -1
    · rw [if_pos q, if_pos q, if_neg (not_not_intro rfl)]
    · rw [if_neg q, if_neg q, if_pos g2]
  · exact some_e (h.th ht 1 rfl)
theorem m_tnum (h : D M3 T A [] M) (hI : Inv T 10 A) {t c : Nat} (ht : t < T) (hc : c ≤ 18) {M0 : Mem} (e0 : wI M0 19 0 0 7 0 = M) : Sat (pX8_thread (nI t) (nI c) M0) (fun o M' => o = thV T A t c ∧ D M3 T A [] M') := by
  have hT := h.T10
  rw [pX8_thread, e0, nm_def, m_thr h, if_pos (isT_n ht hT), bnd_some, if_pos (show ¬ (1 : Int32) = 0 by decide)]
  have hc18 : c = 0 ∨ c = 1 ∨ c = 2 ∨ c = 3 ∨ c = 4 ∨ c = 5 ∨ c = 6 ∨ c = 7 ∨ c = 8 ∨ c = 9 ∨ c = 10 ∨ c = 11 ∨ c = 12 ∨ c = 13 ∨ c = 14 ∨ c = 15 ∨ c = 16 ∨ c = 17 ∨ c = 18 := by omega
  have fld : ∀ (f : Nat) (x : Int32), nI f = x → f < 18 → Sat (bnd (pX8_of (nI t) x M) fun o6 M5 => some (o6, M5)) (fun o M' => o = A.1 t f ∧ D M3 T A [] M') := fun f x hx hf => by
    rw [m_of h ht f hx hf, bnd_some]
    exact S_ret ⟨rfl, h⟩
  rcases hc18 with rfl | rfl | rfl | rfl | rfl | rfl | rfl | rfl | rfl | rfl | rfl | rfl | rfl | rfl | rfl | rfl | rfl | rfl | rfl
  · exact fld 0 0 rfl (by omega)
  · show Sat (bnd (pX8_priorityOf (nI t) M) fun o9 M8 => some (o9, M8)) (fun o M' => o = pr T A t ∧ D M3 T A [] M')
    exact S_bnd (m_prio h hI ht) (fun o M5 h5 => S_ret h5)
  · exact fld 3 3 rfl (by omega)
  · exact fld 2 2 rfl (by omega)
  · exact fld 4 4 rfl (by omega)
  · exact fld 5 5 rfl (by omega)
  · exact fld 6 6 rfl (by omega)
  · exact fld 7 7 rfl (by omega)
  · exact fld 8 8 rfl (by omega)
  · show Sat (bnd (pX8_locksOf (nI t) M) fun o33 M32 => some (o33, M32)) _
    rw [pX8_locksOf]
    show Sat (bnd (pX8_locksOf_4 fu (nI t) (nI 0) (nI 0) M) _) _
    rw [m_lo4 h (nI t) 6 fu 0 0 (by omega) (by decide) (by decide), bnd_some]
    exact S_ret ⟨rfl, h⟩
  · exact fld 9 (nI 10 - 1) rfl (by omega)
  · exact fld 10 (nI 11 - 1) rfl (by omega)
  · exact fld 11 (nI 12 - 1) rfl (by omega)
  · exact fld 12 (nI 13 - 1) rfl (by omega)
  · exact fld 13 (nI 14 - 1) rfl (by omega)
  · exact fld 14 (nI 15 - 1) rfl (by omega)
  · exact fld 15 (nI 16 - 1) rfl (by omega)
  · show Sat (bnd (pX8_of (nI t) (16 : Int32) M) fun o57 M56 => if ¬ o57 = (-1 : Int32) then (bnd (pX8_of (nI t) (16 : Int32) M56) fun o59 M58 => some (o59, M58)) else bnd (pX8_of (nI t) (0 : Int32) M56) fun o61 M60 => some (o61, M60)) (fun o M' => o = (if A.1 t 16 = -1 then A.1 t 0 else A.1 t 16) ∧ D M3 T A [] M')
    rw [m_of h ht 16 (x := 16) rfl (by omega), bnd_some]
    by_cases q : A.1 t 16 = -1
    · rw [if_neg (not_not_intro q), if_pos q]
      exact fld 0 0 rfl (by omega)
    · rw [if_pos q, if_neg q]
      exact fld 16 16 rfl (by omega)
  · exact fld 1 1 rfl (by omega)
theorem m_thno {c : Int32} (hD : D M3 T A [] (wI M 19 0 0 7 0)) {v : Int32} (e : isT T v = true) (ne : ¬ rng c 0 18 = true) : pX8_thread v c M = some (0, wI (wI M 19 0 0 7 0) 19 0 0 7 2) := by
  have ne2 : ∀ x : Nat, x ≤ 18 → ¬ c = nI x := fun x hx q => ne (by
    rw [q]
    exact decide_eq_true ⟨nI_pos (by omega), nI_le (b := 18) hx (by omega)⟩)
  rw [pX8_thread, nm_def, m_thr hD, if_pos e, bnd_some, if_pos (show ¬ (1 : Int32) = 0 by decide), if_neg (show ¬ c = 0 from ne2 0 (by omega)), if_neg (show ¬ c = 1 from ne2 1 (by omega)), if_neg (show ¬ c = 2 from ne2 2 (by omega)), if_neg (show ¬ c = 3 from ne2 3 (by omega)), if_neg (show ¬ c = 4 from ne2 4 (by omega)), if_neg (show ¬ c = 5 from ne2 5 (by omega)), if_neg (show ¬ c = 6 from ne2 6 (by omega)), if_neg (show ¬ c = 7 from ne2 7 (by omega)), if_neg (show ¬ c = 8 from ne2 8 (by omega)), if_neg (show ¬ c = 9 from ne2 9 (by omega)), if_neg (show ¬ c = 10 from ne2 10 (by omega)), if_neg (show ¬ c = 11 from ne2 11 (by omega)), if_neg (show ¬ c = 12 from ne2 12 (by omega)), if_neg (show ¬ c = 13 from ne2 13 (by omega)), if_neg (show ¬ c = 14 from ne2 14 (by omega)), if_neg (show ¬ c = 15 from ne2 15 (by omega)), if_neg (show ¬ c = 16 from ne2 16 (by omega)), if_neg (show ¬ c = 17 from ne2 17 (by omega)), if_neg (show ¬ c = 18 from ne2 18 (by omega)), m_fail, bnd_some]
theorem call_thread (hJ : J n M) (v w : Int32) : LC qI (pL_thread v w M) (pX8_thread v w) n := by
  obtain ⟨T, A, hC, hD, hI, hB, hR⟩ := id hJ
  have hT := hI.T10
  rw [pL_thread]
  by_cases e : isT T v = true
  · obtain ⟨t, ht, rfl⟩ := isT_t hT e
    by_cases e2 : rng w 0 18 = true
    · obtain ⟨c, -, hc, rfl⟩ := rng_lo (lo := 0) (hi := 18) (by omega) (by omega) rfl rfl e2
      have h7 : Sat (pX7_thread (nI t) (nI c) M) (fun o M' => o = .ok (thV T A t c) ∧ C true true 0 M T A [] M') := by
        rw [pX7_thread, c_thr hC, if_pos e, bndx_ok, c_rng, if_pos e2, bndx_ok]
        by_cases e9 : c = 9
        · subst e9
          rw [if_neg (show ¬ ¬ nI 9 = 9 from not_not_intro rfl), pX1_heldBy]
          show Sat (bnd (pX1_heldBy_4 0 fu (nI t) (nI 0) (nI 0) M) _) _
          rw [c_hb4 hC (nI t) 6 fu 0 0 (by omega) (by decide) (by decide), bnd_some]
          exact S_ret ⟨rfl, hC⟩
        · rw [if_pos (show ¬ nI c = 9 from fun q => e9 (nI_inj (by omega) (b := 9) (by omega) q))]
          refine S_bnd (c_refresh hC hI.hi hI.base) (fun _ M1 h1 => ?_)
          rw [chk_h (inB_nI (by omega) (by omega)), cl (by omega), c_tnum h1.1 hI h1.2 ht hc e9, bnd_some]
          exact S_ret ⟨rfl, h1.1⟩
      obtain ⟨_, M1, e7, rfl, h1⟩ := h7
      refine LC_ok (g := _) e7 ?_ rfl
      refine S_mono (m_tnum (J_mid (hD.fk h1.fkk) (thV T A t c).toInt64) hI ht hc rfl) (fun o M4 h4 => ?_)
      exact ⟨h4.1, J_fin h1.re (hR.fk (by omega) h1.fkk) hI hB _ h4.2⟩
    · refine LC_re (e := 2) (k := 2) (b := 0) hJ (by rw [pX7_thread, c_thr hC, if_pos e, bndx_ok, c_rng, if_neg e2, bndx_er]) rfl ?_ (by decide)
      exact m_thno (hD.w7 0) e e2
  · refine LC_re (e := 3) (k := 1) (b := 0) hJ (by rw [pX7_thread, c_thr hC, if_neg e, bndx_er]) rfl ?_ (by decide)
    rw [pX8_thread, nm_def, m_thr (hD.w7 0), if_neg e, bnd_some, if_neg (not_not_intro rfl), m_fail, bnd_some]
end READS2
