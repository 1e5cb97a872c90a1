/-! ===== bestBase, settings, flags, saved states ===== -/
section SETS2
variable {n : Nat} {T : Nat} {A : AS} {M M1 M2 M3 M4 M5 : Mem}
theorem call_bestBase (hJ : J n M) (hn : n ≤ 260000) (v w : Int32) : LC qI (pL_bestBase v w M) (pX8_bestBase v w) n := by
  obtain ⟨T, A, hC, hD, hI, hB, hR⟩ := id hJ
  have hT := hI.T10
  rw [pL_bestBase]
  by_cases e : isT T v = true
  · obtain ⟨t, ht, rfl⟩ := isT_t hT e
    by_cases e2 : rng w 1 200 = true
    · obtain ⟨most, q1, q2, rfl⟩ := rng_lo (lo := 1) (hi := 200) (by omega) (by omega) rfl rfl e2
      have h7 : Sat (pX7_bestBase (nI t) (nI most) M) (fun o M' => o = .ok (bb1 (bbF T t most A 9 1 none)) ∧ Fk 1 M M') := by
        rw [pX7_bestBase, c_thr hC, if_pos e, bndx_ok, c_rng, if_pos e2, bndx_ok, chk_h (inB_nI (by omega) (by omega)), cl (by omega), nm_def, nI_1]
        exact c_bb34 hC hI ht q2 hB hn 9 fu 1 none M (by omega) (by omega) (by decide) (Fk.refl 1 M) (Nat.le_refl _)
      obtain ⟨_, M1, e7, rfl, hF⟩ := h7
      refine LC_ok (g := _) e7 ?_ rfl
      have hC3 := (((hC.fk (k' := 1) (by omega) hF).wo (bb1 (bbF T t most A 9 1 none)).toInt64).w7 0)
      have hR3 := (((hR.fk (by omega) hF).wo (bb1 (bbF T t most A 9 1 none)).toInt64).w7 0)
      have hD3 := J_mid (hD.fk hF) (bb1 (bbF T t most A 9 1 none)).toInt64
      rw [pX8_bestBase, nm_def, m_thr hD3, if_pos e, bnd_some, if_pos (show ¬ (1 : Int32) = 0 by decide), m_rng, if_pos e2, bnd_some, if_pos (show ¬ (1 : Int32) = 0 by decide)]
      refine S_bnd (m_save22 hD3) (fun _ M4 h4 => ?_)
      obtain ⟨d4, f4, s4⟩ := h4
      refine S_mono (m_bb57 hI ht q2 hB hn hD3 9 fu 1 none 0 M4 (by omega) (by omega) (by decide) d4 s4 f4 (fun b' l z => (nomatch z))) (fun o M6 h6 => ?_)
      obtain ⟨rfl, d6, f6⟩ := h6
      obtain ⟨j1, j2, j3⟩ := J_fw hC3 hR3 hI hB f6 d6
      exact ⟨rfl, by rw [j1, wI_s], j2, j3⟩
    · refine LC_er (e := 2) (k := 2) (b := 0) (M2 := wI (wI M 19 0 0 7 0) 19 0 0 7 2) (by rw [pX7_bestBase, c_thr hC, if_pos e, bndx_ok, c_rng, if_neg e2, bndx_er]) rfl ?_ (w7w7 _ _) (by decide) (J_w7 (J_w7 hJ 0) 2)
      rw [pX8_bestBase, nm_def, m_thr (hD.w7 0), if_pos e, bnd_some, if_pos (show ¬ (1 : Int32) = 0 by decide), m_rng, if_neg e2, bnd_some, if_neg (not_not_intro rfl), m_fail, bnd_some]
  · refine LC_er (e := 3) (k := 1) (b := 0) (M2 := wI (wI M 19 0 0 7 0) 19 0 0 7 1) (by rw [pX7_bestBase, c_thr hC, if_neg e, bndx_er]) rfl ?_ (w7w7 _ _) (by decide) (J_w7 (J_w7 hJ 0) 1)
    rw [pX8_bestBase, nm_def, m_thr (hD.w7 0), if_neg e, bnd_some, if_neg (not_not_intro rfl), m_fail, bnd_some]
/-! settings -/
theorem g_inv {ex b : Nat} {v : Int32} (h : Inv T ex A) (hb : b < 2) : Inv T ex (up A 10 b v) := by
  have hT := h.T10
  have r : ∀ a c, ¬ (a = 10 ∧ c = b) → (up A 10 b v).1 a c = A.1 a c := fun a c q => by rw [up_e, if_neg q]
  exact Inv_min h (fun u c hu _ _ _ _ _ _ _ _ => r _ _ (by omega)) (fun u hu => by rw [r _ _ (by omega)]; exact h.p4 u hu) (fun u hu => by rw [r _ _ (by omega)]; exact h.p5 u hu) (fun a c ha => r _ _ (by omega)) (r _ _ (by omega)) (by rw [r 10 4 (by omega), r 10 5 (by omega), r 10 3 (by omega)]; exact h.2.2.2.2.2.1) rfl (Nat.le_refl _)
theorem c_cs {k : Nat} {M0 : Mem} (h : C true true k M0 T A [] M) {b : Nat} (hb : b < 2) (v : Int32) : Sat (pX3_changeSetting k (nI b) v M) (fun _ M' => C true true k M0 T (up A 10 b v) [] M') := by
  have hT := h.T10
  rw [pX3_changeSetting, chk_h (inB_nI hb (by omega)), cl (by omega)]
  have hb2 : b = 0 ∨ b = 1 := by omega
  have key : C true false k M0 T (up A 10 b v) [] (wI M 15 k 0 b v) := by
    rcases hb2 with rfl | rfl
    · exact h.weak.putg (b := 0) rfl (by omega) (fun q => (nomatch q)) v
    · exact h.weak.putg (b := 1) rfl (by omega) (fun q => (nomatch q)) v
  refine S_w key (fun M1 h1 => ?_)
  rw [chk_h b01_1]
  exact S_w (h1.mark (p' := true)) (fun M2 h2 => S_ret h2)
theorem okg_2 {b : Nat} (hb : b < 2) : okg b = true := decide_eq_true (by omega)
theorem C.g01 {g p : Bool} {k : Nat} {M0 : Mem} {stk : List Nat} (h : C g p k M0 T A stk M) {b : Nat} (hb : b < 2) : M.1 15 k 0 b = A.1 10 b := by
  have hb2 : b = 0 ∨ b = 1 := by omega
  rcases hb2 with rfl | rfl
  · exact h.gl 0 rfl
  · exact h.gl 1 rfl
theorem call_set (hJ : J n M) (v w : Int32) : LC qI (pL_set v w M) (pX8_set v w) n := by
  obtain ⟨T, A, hC, hD, hI, hB, hR⟩ := id hJ
  have hT := hI.T10
  rw [pL_set]
  by_cases e : rng v 0 1 = true
  · obtain ⟨b, -, hb, rfl⟩ := rng_lo (lo := 0) (hi := 1) (by omega) (by omega) rfl rfl e
    have e7m : ∀ M' : Mem, pX7_settingMost (nI b) M' = some ((if b = 0 then (1000 : Int32) else 1), M') := fun M' => by
      have hb2 : b = 0 ∨ b = 1 := by omega
      rcases hb2 with rfl | rfl
      · rw [pX7_settingMost, if_neg (show ¬ ¬ nI 0 = 0 from not_not_intro rfl)]; rfl
      · rw [pX7_settingMost, if_pos (show ¬ nI 1 = 0 by decide)]; rfl
    have e8m : ∀ M' : Mem, (if ¬ nI b = 0 then (pX8_set_27    (nI b) w (1 : Int32) (0 : Int32) w M') else pX8_set_27    (nI b) w (1000 : Int32) (0 : Int32) w M') = pX8_set_27 (nI b) w (if b = 0 then (1000 : Int32) else 1) 0 w M' := fun M' => by
      have hb2 : b = 0 ∨ b = 1 := by omega
      rcases hb2 with rfl | rfl
      · rw [if_neg (show ¬ ¬ nI 0 = 0 from not_not_intro rfl)]; rfl
      · rw [if_pos (show ¬ nI 1 = 0 by decide)]; rfl
    by_cases e2 : rng w 0 (if b = 0 then (1000 : Int32) else 1) = true
    · have h7 : Sat (pX7_set (nI b) w M) (fun o M' => o = .ok (A.1 10 b) ∧ C true true 0 M T (up A 10 b w) [] M') := by
        rw [pX7_set, c_rng, if_pos e, bndx_ok, e7m, bnd_some, c_rng, if_pos e2, bndx_ok, chk_h (inB_nI (by omega) (by omega)), cl (by omega), hC.g01 (by omega), nm_def]
        exact S_bnd (c_cs hC (by omega) w) (fun _ M1 h1 => S_ret ⟨rfl, h1⟩)
      obtain ⟨_, M1, e7, rfl, h1⟩ := h7
      refine LC_ok (g := _) e7 ?_ rfl
      have hD1 := J_mid (hD.fk h1.fkk) (A.1 10 b).toInt64
      rw [pX8_set, nm_def, m_rng, if_pos e, bnd_some, if_neg (show ¬ (1 : Int32) = 0 by decide), e8m, pX8_set_27, m_rng, if_pos e2, bnd_some, if_pos (show ¬ (1 : Int32) = 0 by decide), chk_h (inB_nI (by omega) (by omega)), cl (by omega), hD1.gl b (okg_2 (by omega)), nm_def, chk_h (inB_nI (by omega) (by omega))]
      refine S_w (hD1.putg (okg_2 (by omega)) (by omega) w) (fun M4 h4 => S_ret ⟨rfl, ?_⟩)
      exact J_fin h1.re (hR.fk (by omega) h1.fkk) (g_inv hI (by omega)) ⟨hB.1, by rw [up_b (by omega)]; exact hB.2⟩ _ h4
    · refine LC_er (e := 2) (k := 1) (b := 0) (M2 := wI (wI M 19 0 0 7 0) 19 0 0 7 1) (by rw [pX7_set, c_rng, if_pos e, bndx_ok, e7m, bnd_some, c_rng, if_neg e2, bndx_er]) rfl ?_ (w7w7 _ _) (by decide) (J_w7 (J_w7 hJ 0) 1)
      rw [pX8_set, nm_def, m_rng, if_pos e, bnd_some, if_neg (show ¬ (1 : Int32) = 0 by decide), e8m, pX8_set_27, m_rng, if_neg e2, bnd_some, if_neg (not_not_intro rfl), pX8_set_33, m_fail, bnd_some]
  · refine LC_er (e := 2) (k := 1) (b := 0) (M2 := wI (wI M 19 0 0 7 0) 19 0 0 7 1) (by rw [pX7_set, c_rng, if_neg e, bndx_er]) rfl ?_ (w7w7 _ _) (by decide) (J_w7 (J_w7 hJ 0) 1)
    rw [pX8_set, nm_def, m_rng, if_neg e, bnd_some, if_pos rfl, pX8_set_33, m_fail, bnd_some]
theorem x_inv {ex : Nat} {v : Int32} (h : Inv T ex A) (h1 : 0 ≤ v.toInt) (h2 : v.toInt ≤ 1000002) : Inv T ex (up A 10 4 v) := by
  have hT := h.T10
  have r : ∀ a c, ¬ (a = 10 ∧ c = 4) → (up A 10 4 v).1 a c = A.1 a c := fun a c q => by rw [up_e, if_neg q]
  exact Inv_min h (fun u c hu _ _ _ _ _ _ _ _ => r _ _ (by omega)) (fun u hu => by rw [r _ _ (by omega)]; exact h.p4 u hu) (fun u hu => by rw [r _ _ (by omega)]; exact h.p5 u hu) (fun a c ha => r _ _ (by omega)) (r _ _ (by omega)) (by rw [up_s, r 10 5 (by omega), r 10 3 (by omega)]; exact ⟨⟨h1, h2⟩, h.2.2.2.2.2.1.2⟩) rfl (Nat.le_refl _)
theorem LC_okU {r7 : Option (Except Nat Unit × Mem)} {g : Nat → Mem → Option (Except Nat Int32 × Mem)} {f : Mem → Option (Unit × Mem)} (h7 : r7 = some (.ok (), M1)) (hm : Sat (f M1) (fun _ M4 => M4.1 19 0 0 7 = 0 ∧ J n M4)) : LC qU (bndc r7 (fun _ M1 => xok <| some ((0 : Int32), M1)) g) f n := by
  obtain ⟨b, M4, e, h1, h3⟩ := hm
  refine ⟨M1, 0, b, M4, ?_, e, h1, fun _ => trivial, h3⟩
  rw [h7]
  rfl
theorem call_seed (hJ : J n M) (v : Int32) : LC qU (pL_seed v M) (pX8_seed v) n := by
  obtain ⟨T, A, hC, hD, hI, hB, hR⟩ := id hJ
  rw [pL_seed]
  by_cases e : rng v 0 1000002 = true
  · have hv := rng_t e
    have h2 : (1000002 : Int32).toInt = 1000002 := by decide
    rw [i32_0, h2] at hv
    have h1 : C true true 0 M T (up A 10 4 v) [] (wI M 3 0 0 6 v) := hC.putg (b := 4) rfl (by omega) (fun _ => by omega) v
    have e7 : pX7_seed v M = some (.ok (), wI M 3 0 0 6 v) := by
      rw [pX7_seed, c_rng, if_pos e, bndx_ok]
      rfl
    refine LC_okU e7 ?_
    have hD1 := (hD.fk h1.fkk).w7 0
    rw [pX8_seed, m_rng, if_pos e, bnd_some, if_neg (show ¬ (1 : Int32) = 0 by decide), pX8_seed_16, nm_def, wI_s, if_neg (not_not_intro rfl), chk_h ib_4, cl_4]
    refine S_w (hD1.putg (b := 4) rfl (by omega) v) (fun M4 h4 => S_ret ?_)
    have hF := h4.2.2
    refine ⟨?_, T, _, ((h1.re).w7 0).fm hF, h4.re, x_inv hI (by omega) (by omega), ⟨hB.1, by rw [up_b (by omega)]; exact hB.2⟩, ((hR.fk (by omega) h1.fkk).w7 0).fm hF⟩
    rw [hF.2 _ _ _ _ (by omega) (by omega) (by omega) (by omega), wI_s]
  · refine LC_er (e := 2) (k := 1) (b := ()) (M2 := wI (wI M 19 0 0 7 1) 20 0 0 4 ((wI M 19 0 0 7 1).1 20 0 0 4)) (by rw [pX7_seed, c_rng, if_neg e, bndx_er]) rfl ?_ (by rw [wI_kd (by omega), wI_s]) (by decide) ?_
    · rw [pX8_seed, m_rng, if_neg e, bnd_some, if_pos rfl, pX8_seed_16, nm_def, wI_s, if_pos (show ¬ (1 : Int32) = 0 by decide), chk_h ib_4, chk_h ib_4, cl_4]
      rfl
    · have : wI (wI M 19 0 0 7 1) 20 0 0 4 ((wI M 19 0 0 7 1).1 20 0 0 4) = wI M 19 0 0 7 1 := by
        refine Prod.ext ?_ rfl
        funext a b c d
        rw [wI_e]
        split
        · rename_i q; rw [q.1, q.2.1, q.2.2.1, q.2.2.2]
        · rfl
      rw [this]
      exact J_w7 hJ 1
theorem call_setFlag (hJ : J n M) (v : Int32) (b : Bool) : LC qB (pL_setFlag v (if b = true then 1 else 0) M) (pX8_setFlag v (if b = true then 1 else 0)) n := by
  obtain ⟨T, A, hC, hD, hI, hB, hR⟩ := id hJ
  have hT := hI.T10
  rw [pL_setFlag]
  by_cases e : decide (¬ v < 0 ∧ v < 8) = true
  · obtain ⟨e0, e8⟩ := of_decide_eq_true e
    obtain ⟨f, hf, rfl⟩ := nI_of e0
    have hf8 : f < 8 := (nI_ltI hf (b := 8) (by omega)).mp e8
    have em : rng (nI f) 0 7 = true := decide_eq_true ⟨e0, nI_le (b := 7) (by omega) (by omega)⟩
    have h7 : Sat (pX7_setFlag (nI f) (if b = true then 1 else 0) M) (fun o M' => o = .ok (if onF A f = true then 1 else 0) ∧ C true true 0 M T (stF A f b) [] M') := by
      rw [pX7_setFlag, c_idx, if_pos e, bndx_ok, c_flagOn hC, bnd_some]
      refine S_bnd (c_turn hC f b) (fun _ M1 h1 => ?_)
      rw [chk_h (b01_if (Or.inr rfl) (Or.inl rfl))]
      exact S_ret ⟨rfl, h1⟩
    obtain ⟨_, M1, e7, rfl, h1⟩ := h7
    have hm : ∀ x : Int64, Sat (pX8_setFlag (nI f) (if b = true then 1 else 0) (wO M1 x)) (fun o M4 => o = (if onF A f = true then 1 else 0) ∧ D (wI (wO M1 x) 19 0 0 7 0) T (stF A f b) [] M4) := fun x => by
      have hD1 := J_mid (hD.fk h1.fkk) x
      rw [pX8_setFlag, m_rng, if_pos em, bnd_some, if_neg (show ¬ (1 : Int32) = 0 by decide), pX8_setFlag_16, nm_def, wI_s, if_pos rfl, m_isOn hD1, bnd_some]
      refine S_bnd (m_turn hD1 hI hf8 b) (fun _ M4 h4 => ?_)
      rw [chk_h (b01_if (Or.inr rfl) (Or.inl rfl))]
      exact S_ret ⟨rfl, h4⟩
    have hB2 : Bd n (stF A f b) := ⟨hB.1, by unfold stF; rw [up_b (by omega)]; exact hB.2⟩
    by_cases eo : onF A f = true
    · rw [if_pos eo] at e7
      obtain ⟨_, M4, e4, rfl, h4⟩ := hm 1
      rw [if_pos eo] at e4
      obtain ⟨f1, f2, f3⟩ := J_fin h1.re (hR.fk (by omega) h1.fkk) (stF_inv hI hf8 b) hB2 _ h4
      refine ⟨wO M1 1, 0, 1, M4, ?_, e4, f1, fun _ => Or.inr ⟨rfl, by rw [f2]; rfl⟩, f3⟩
      rw [e7]
      exact okB_1 M1
    · rw [if_neg eo] at e7
      obtain ⟨_, M4, e4, rfl, h4⟩ := hm 0
      rw [if_neg eo] at e4
      obtain ⟨f1, f2, f3⟩ := J_fin h1.re (hR.fk (by omega) h1.fkk) (stF_inv hI hf8 b) hB2 _ h4
      refine ⟨wO M1 0, 0, 0, M4, ?_, e4, f1, fun _ => Or.inl ⟨rfl, by rw [f2]; rfl⟩, f3⟩
      rw [e7]
      exact okB_0 M1
  · have em : ¬ rng v 0 7 = true := fun q => e (by
      obtain ⟨q1, q2⟩ := of_decide_eq_true q
      refine decide_eq_true ⟨q1, ?_⟩
      rw [i32_le] at q2
      rw [i32_lt]
      have a7 : (7 : Int32).toInt = 7 := by decide
      have a8 : (8 : Int32).toInt = 8 := by decide
      omega)
    refine LC_er (e := 3) (k := 1) (b := 0) (M2 := wI M 19 0 0 7 1) (by rw [pX7_setFlag, c_idx, if_neg e, bndx_er]) rfl ?_ wI_s (by decide) (J_w7 hJ 1)
    rw [pX8_setFlag, m_rng, if_neg em, bnd_some, if_pos rfl, pX8_setFlag_16, nm_def, wI_s, if_neg (by decide), chk_h b01_0]
/-! saved states -/
theorem call_save (hJ : J n M) (v : Int32) : LC qU (pL_save v M) (pX8_save v) n := by
  obtain ⟨T, A, hC, hD, hI, hB, hR⟩ := id hJ
  have hT := hI.T10
  rw [pL_save]
  by_cases e : rng v 0 1 = true
  · obtain ⟨s, -, hs, rfl⟩ := rng_lo (lo := 0) (hi := 1) (by omega) (by omega) rfl rfl e
    have h7 : Sat (pX7_save (nI s) M) (fun o M' => o = .ok () ∧ ∃ Mc, C true true (s + 2) M T A [] Mc ∧ M' = wI Mc 18 0 0 s 1) := by
      rw [pX7_save, c_rng, if_pos e, bndx_ok, chk_h (inB_nI (by omega) (by omega)), cl (by omega)]
      refine S_bnd (c_copy (k := s + 2) (k1 := 0) (by omega) hC hI) (fun _ M1 h1 => ?_)
      rw [chk_h (inB_nI (by omega) (by omega)), and1_1]
      exact S_ret ⟨rfl, M1, h1, rfl⟩
    obtain ⟨_, M1, e7, rfl, Mc, hc, rfl⟩ := h7
    refine LC_okU e7 ?_
    have hFc := hc.fkk
    have sameC : ∀ kd k i j, (¬ k = s + 2 ∨ kd < 3 ∨ 16 < kd) → ¬ (kd = 18 ∧ k = 0 ∧ i = 0 ∧ j = s) → (wI Mc 18 0 0 s 1).1 kd k i j = M.1 kd k i j := fun kd k i j h1 h2 => by
      rw [wI_e, if_neg h2]; exact hFc.2 kd k i j h1
    have hD1 : D (wI (wI Mc 18 0 0 s 1) 19 0 0 7 0) T A [] (wI (wI Mc 18 0 0 s 1) 19 0 0 7 0) := by
      refine D.w7 (hD.mv (fun j => sameC _ _ _ _ (by omega) (by omega)) (fun j => sameC _ _ _ _ (by omega) (by omega)) (sameC _ _ _ _ (by omega) (by omega))) 0
    have e700 : (700 : Int32) * nI s = nI (700 * s) := nI_mul 700 s
    rw [pX8_save, m_rng, if_pos e, bnd_some, if_neg (show ¬ (1 : Int32) = 0 by decide), pX8_save_15, nm_def, wI_s, if_neg (not_not_intro rfl), e700]
    refine S_bnd (cp_20_23 (M := wI (wI Mc 18 0 0 s 1) 19 0 0 7 0) (a := 0) (b := 700 * s) (by omega) (by omega)) (fun _ M3 h3 => ?_)
    obtain ⟨p1, p2, p3⟩ := h3
    rw [chk_h (inB_nI (by omega) (by omega)), cl (by omega), and1_1, nm_def]
    refine S_ret ?_
    have all : ∀ kd k i j, (¬ k = s + 2 ∨ kd < 3 ∨ 16 < kd) → ¬ (kd = 18 ∧ k = 0 ∧ i = 0 ∧ j = s) → ¬ (kd = 24 ∧ k = 0 ∧ i = 0 ∧ j = s) → ¬ (kd = 19 ∧ k = 0 ∧ i = 0 ∧ j = 7) → ¬ (kd = 23 ∧ k = 0 ∧ i = 0 ∧ 700 * s ≤ j ∧ j < 700 * s + 700) → (wI M3 24 0 0 s 1).1 kd k i j = M.1 kd k i j := fun kd k i j h1 h2 h3 h4 h5 => by
      rw [wI_e, if_neg h3, p2 kd k i j h5, wI_e, if_neg h4]
      exact sameC kd k i j h1 h2
    refine ⟨?_, T, A, hC.mv (fun kd i j _ _ => all _ _ _ _ (by omega) (by omega) (by omega) (by omega) (by omega)), hD.mv (fun j => all _ _ _ _ (by omega) (by omega) (by omega) (by omega) (by omega)) (fun j => all _ _ _ _ (by omega) (by omega) (by omega) (by omega) (by omega)) (all _ _ _ _ (by omega) (by omega) (by omega) (by omega) (by omega)), hI, hB, ?_⟩
    · rw [wI_kd (by omega), p2 _ _ _ _ (by omega), wI_s]
    · obtain ⟨h1, h2, ⟨nn, t1, t2, t3, t4⟩, x1, x2⟩ := hR
      refine ⟨fun i hi => ?_, fun c hc => ?_, ⟨nn, t1, ?_, ?_, fun i hi => ?_⟩, ?_, ?_⟩
      · by_cases ei : i = s
        · subst ei
          have e18 : (wI M3 24 0 0 i 1).1 18 0 0 i = 1 := by
            rw [wI_kd (by omega), p2 _ _ _ _ (by omega), wI_kd (by omega), wI_s]
          refine ⟨by rw [e18, wI_s], Or.inr ⟨e18, T, A, hc.mv (fun kd i' j _ _ => ?_), ?_, hI, hB⟩⟩
          · rw [wI_kd (by omega), p2 _ _ _ _ (by omega), wI_kd (by omega), wI_kd (by omega)]
          · refine hD1.1.cong (fun j hj => ?_)
            show (wI M3 24 0 0 i 1).1 23 0 0 (700 * i + j) = _
            rw [wI_kd (by omega), p1 j hj, Nat.zero_add]
        · obtain ⟨s1, s2⟩ := h1 i hi
          refine ⟨by rw [all 18 _ _ _ (by omega) (by omega) (by omega) (by omega) (by omega), all 24 _ _ _ (by omega) (by omega) (by omega) (by omega) (by omega)]; exact s1, ?_⟩
          rcases s2 with s2 | ⟨s2, T', A', k1, k2, k3⟩
          · left; rw [all 18 _ _ _ (by omega) (by omega) (by omega) (by omega) (by omega)]; exact s2
          · right
            exact ⟨by rw [all 18 _ _ _ (by omega) (by omega) (by omega) (by omega) (by omega)]; exact s2, T', A', k1.mv (fun kd i' j _ _ => all _ _ _ _ (by omega) (by omega) (by omega) (by omega) (by omega)), k2.cong (fun j _ => all _ _ _ _ (by omega) (by omega) (by omega) (by omega) (by omega)), k3⟩
      · rw [all 25 _ _ _ (by omega) (by omega) (by omega) (by omega) (by omega), all 26 _ _ _ (by omega) (by omega) (by omega) (by omega) (by omega)]; exact h2 c hc
      · rw [all _ _ _ _ (by omega) (by omega) (by omega) (by omega) (by omega)]; exact t2
      · rw [all _ _ _ _ (by omega) (by omega) (by omega) (by omega) (by omega)]; exact t3
      · rw [all 2 _ _ _ (by omega) (by omega) (by omega) (by omega) (by omega), all 27 _ _ _ (by omega) (by omega) (by omega) (by omega) (by omega)]; exact t4 i hi
      · rw [all 1 _ _ _ (by omega) (by omega) (by omega) (by omega) (by omega), all 19 _ _ _ (by omega) (by omega) (by omega) (by omega) (by omega)]; exact x1
      · rw [all 1 _ _ _ (by omega) (by omega) (by omega) (by omega) (by omega), all 19 _ _ _ (by omega) (by omega) (by omega) (by omega) (by omega)]; exact x2
  · refine LC_er (e := 2) (k := 1) (b := ()) (M2 := wI M 19 0 0 7 1) (by rw [pX7_save, c_rng, if_neg e, bndx_er]) rfl ?_ wI_s (by decide) (J_w7 hJ 1)
    rw [pX8_save, m_rng, if_neg e, bnd_some, if_pos rfl, pX8_save_15, nm_def, wI_s, if_pos (show ¬ (1 : Int32) = 0 by decide)]
theorem call_restore (hJ : J n M) (v : Int32) : LC qU (pL_restore v M) (pX8_restore v) n := by
  obtain ⟨T, A, hC, hD, hI, hB, hR⟩ := id hJ
  rw [pL_restore]
  by_cases e : rng v 0 1 = true
  · obtain ⟨s, -, hs, rfl⟩ := rng_lo (lo := 0) (hi := 1) (by omega) (by omega) rfl rfl e
    obtain ⟨s1, s2⟩ := hR.1 s (by omega)
    rcases s2 with s2 | ⟨s2, T', A', k1, k2, k3, k4⟩
    · refine LC_er (e := 1) (k := 2) (b := ()) (M2 := wI M 19 0 0 7 2) (by rw [pX7_restore, c_rng, if_pos e, bndx_ok, chk_h (inB_nI (by omega) (by omega)), cl (by omega), s2, if_neg (not_not_intro rfl)]) rfl ?_ wI_s (by decide) (J_w7 hJ 2)
      rw [pX8_restore, m_rng, if_pos e, bnd_some, if_pos (show ¬ (1 : Int32) = 0 by decide), chk_h (inB_nI (by omega) (by omega)), cl (by omega), ← s1, s2, if_neg (not_not_intro rfl), pX8_restore_28, nm_def, wI_s, if_pos (show ¬ (2 : Int32) = 0 by decide)]
    · have h7 : Sat (pX7_restore (nI s) M) (fun o M' => o = .ok () ∧ C true true 0 M T' A' [] M') := by
        rw [pX7_restore, c_rng, if_pos e, bndx_ok, chk_h (inB_nI (by omega) (by omega)), cl (by omega), s2, if_pos (show ¬ (1 : Int32) = 0 by decide), chk_h (inB_nI (by omega) (by omega))]
        exact S_bnd (c_copy (k := 0) (k1 := s + 2) (by omega) k1 k3) (fun _ M1 h1 => S_ret ⟨rfl, h1⟩)
      obtain ⟨_, M1, e7, rfl, h1⟩ := h7
      refine LC_okU e7 ?_
      have e700 : (700 : Int32) * nI s = nI (700 * s) := nI_mul 700 s
      have e24 : M1.1 24 0 0 s = 1 := by rw [h1.fkk.2 _ _ _ _ (by omega), ← s1]; exact s2
      rw [pX8_restore, m_rng, if_pos e, bnd_some, if_pos (show ¬ (1 : Int32) = 0 by decide), chk_h (inB_nI (by omega) (by omega)), cl (by omega), e24, if_pos (show ¬ (1 : Int32) = 0 by decide), pX8_restore_28, nm_def, wI_s, if_neg (not_not_intro rfl), e700]
      refine S_bnd (cp_23_20 (M := wI M1 19 0 0 7 0) (a := 700 * s) (b := 0) (by omega) (by omega)) (fun _ M3 h3 => S_ret ?_)
      obtain ⟨p1, p2, p3⟩ := h3
      have hD1 := (hD.fk h1.fkk).w7 0
      have hFm : Fm (wI M1 19 0 0 7 0) M3 := ⟨p3, fun kd k i j q1 _ _ _ => p2 _ _ _ _ (by omega)⟩
      refine ⟨?_, T', A', ((h1.re).w7 0).fm hFm, ⟨k2.cong (fun j hj => ?_), ⟨by rw [p2 _ _ _ _ (by omega)]; exact hD1.2.1.1, hD1.2.1.2.1, fun i hi => absurd hi (Nat.not_lt_zero _)⟩, Fm.refl M3⟩, k3, k4, ((hR.fk (by omega) h1.fkk).w7 0).fm hFm⟩
      · rw [p2 _ _ _ _ (by omega), wI_s]
      · have := p1 j hj
        rw [Nat.zero_add, wI_kd (by omega), h1.fkk.2 _ _ _ _ (by omega)] at this
        exact this
  · refine LC_er (e := 2) (k := 1) (b := ()) (M2 := wI M 19 0 0 7 1) (by rw [pX7_restore, c_rng, if_neg e, bndx_er]) rfl ?_ wI_s (by decide) (J_w7 hJ 1)
    rw [pX8_restore, m_rng, if_neg e, bnd_some, if_neg (not_not_intro rfl), pX8_restore_28, nm_def, wI_s, if_pos (show ¬ (1 : Int32) = 0 by decide)]
end SETS2
