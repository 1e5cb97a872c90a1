/-! ===== the reference: an instruction ===== -/
section MDO
variable {M0 : Mem} {T : Nat} {A : AS} {gv : List Nat} {M : Mem}
theorem D.blk (h : D M0 T A gv M) {t l : Nat} (ht : t < T) (hl : l < 6) (hnW : ∀ l', l' < 6 → ¬ t ∈ A.2.2 l') (hn : A.2.1.length < LIM) : D1 M0 T (adW A l t) gv (wI (wI M 20 0 0 (38 + 20 * t) (M.1 20 0 0 12)) 20 0 0 12 (M.1 20 0 0 12 + 1)) := by
  obtain ⟨⟨hT, hth, hgl, hho, hco, ⟨l1, l2, l3, l4⟩, hw1, hw2, hw3⟩, hg, hF⟩ := h
  rw [LIM_eq] at hn
  have e12 := i32_suc hw1 (by omega)
  refine ⟨?_, hg.w20.w20, hF.w20.w20⟩
  rw [wI20, wI20]
  refine ⟨hT, fun u f hu hf => ?_, fun b hb => ?_, fun l' hl' => ?_, fun u j hu hj hj2 => ?_, ⟨l1, ?_, ?_, fun i c a1 a2 a3 => ?_⟩, ?_, ?_, fun l' hl' => ?_⟩
  · rw [upr_n (by omega), upr_n (by omega)]; exact hth u f hu hf
  · have := okg_n b hb
    rw [upr_n (by omega), upr_n (by omega)]; exact hgl b hb
  · rw [upr_n (by omega), upr_n (by omega)]; exact hho l' hl'
  · rw [upr_n (by omega), upr_n (by omega), upr_n (by omega), upr_n (by omega)]; exact hco u j hu hj hj2
  · rw [upr_n (by omega), upr_n (by omega)]; exact l2
  · rw [upr_n (by omega), upr_n (by omega)]; exact l3
  · rw [upr_n (by omega), upr_n (by omega)]; exact l4 i c a1 a2 a3
  · rw [upr_s, e12]; omega
  · rw [upr_s, e12]; show _ ≤ (A.2.1.length : Int) + 1; omega
  · have old : ∀ v, ¬ v = t → upr (upr (M.1 20 0 0) (38 + 20 * t) (M.1 20 0 0 12)) 12 (M.1 20 0 0 12 + 1) (38 + 20 * v) = M.1 20 0 0 (38 + 20 * v) := fun v hv => by
      rw [upr_n (by omega), upr_n (by omega)]
    have new : upr (upr (M.1 20 0 0) (38 + 20 * t) (M.1 20 0 0 12)) 12 (M.1 20 0 0 12 + 1) (38 + 20 * t) = M.1 20 0 0 12 := by
      rw [upr_n (by omega), upr_s]
    have hne : ∀ l', l' < 6 → ∀ v, v ∈ A.2.2 l' → ¬ v = t := fun l' hl' v hv e => hnW l' hl' (by rw [← e]; exact hv)
    have hpw : ∀ l', l' < 6 → (A.2.2 l').Pairwise (fun u v => (upr (upr (M.1 20 0 0) (38 + 20 * t) (M.1 20 0 0 12)) 12 (M.1 20 0 0 12 + 1) (38 + 20 * u)).toInt < (upr (upr (M.1 20 0 0) (38 + 20 * t) (M.1 20 0 0 12)) 12 (M.1 20 0 0 12 + 1) (38 + 20 * v)).toInt) := fun l' hl' => by
      refine List.Pairwise.imp_of_mem (fun {x y} hx hy q => ?_) (hw3 l' hl').2
      rw [old x (hne l' hl' x hx), old y (hne l' hl' y hy)]
      exact q
    rw [upr_s, e12]
    show (∀ v, v ∈ (if l' = l then A.2.2 l ++ [t] else A.2.2 l') → _) ∧ (if l' = l then A.2.2 l ++ [t] else A.2.2 l').Pairwise _
    by_cases e : l' = l
    · subst e
      rw [if_pos rfl]
      refine ⟨fun v hv => ?_, List.pairwise_append.mpr ⟨hpw l' hl', List.pairwise_singleton _ _, fun v hv w hw => ?_⟩⟩
      · rcases List.mem_append.mp hv with q | q
        · obtain ⟨k1, k2, k3⟩ := (hw3 l' hl').1 v q
          rw [old v (hne l' hl' v q)]
          exact ⟨k1, k2, by omega⟩
        · have : v = t := by simpa using q
          subst this
          rw [new]
          exact ⟨by omega, hw1, by omega⟩
      · have : w = t := by simpa using hw
        subst this
        rw [new, old v (hne l' hl' v hv)]
        exact ((hw3 l' hl').1 v hv).2.2
    · rw [if_neg e]
      refine ⟨fun v hv => ?_, hpw l' hl'⟩
      obtain ⟨k1, k2, k3⟩ := (hw3 l' hl').1 v hv
      rw [old v (hne l' hl' v hv)]
      exact ⟨k1, k2, by omega⟩
theorem m_lock (h : D M0 T A [] M) (hI : Inv T 10 A) {t l z q : Nat} (ht : t < T) (hl : l < 6) (h3 : A.1 t 3 = 0) (h1 : A.1 t 1 = nI z) (h2 : A.1 t 2 = nI q) (hqz : q < z) (hz : z ≤ 16) (hL : A.2.1.length + 500 ≤ LIM) : Sat (pX8_doLock (nI t) (nI l) M) (fun _ M' => D M0 T (if A.1 11 l = -1 then fsh T (lkA A t l) t else lkA A t l) [] M') := by
  have hT := h.T10
  have ead : (14 : Int32) + nI l = nI (14 + l) := nI_add 14 l
  rw [pX8_doLock, ead, chk_h (inB_nI (by omega) (by omega)), cl (by omega), h.ho hl, nm_def]
  unfold lkA
  by_cases e : A.1 11 l = -1
  · rw [if_neg (not_not_intro e), if_pos e, if_pos e, chk_h (inB_nI (by omega) (by omega))]
    refine S_w (h.puth hl (nI t)) (fun M1 h1' => ?_)
    refine S_bnd (m_note h1' (by show A.2.1.length < LIM; omega) 3 (nI t) (nI l)) (fun _ M2 h2' => ?_)
    have r : ∀ a b, ¬ a = 11 → (note (up A 11 l (nI t)) 3 (nI t) (nI l)).1 a b = A.1 a b := fun a b q => by rw [note_1, up_a q]
    have hI2 := hld_inv hI ht hl e
    refine S_bnd (m_finish h2' (goB_inv hI2 ht (Or.inl rfl) ((r _ _ (by omega)).trans h1) ((r _ _ (by omega)).trans h2) hqz hz (by rw [r _ _ (by omega), h3]; decide)) ht ((r _ _ (by omega)).trans h3) (by show A.2.1.length + 1 + 400 ≤ LIM; omega)) (fun _ M3 h3' => S_ret h3')
  · rw [if_pos e, if_neg e, if_neg e]
    by_cases e2 : A.1 11 l = nI t
    · rw [if_neg (not_not_intro e2), if_pos e2]
      exact S_bnd (m_fault h ht (by omega)) (fun _ M1 h1' => S_ret h1')
    · rw [if_pos e2, if_neg e2]
      refine S_bnd (m_put h ht 3 (x := 3) rfl (by omega) (by omega) 2) (fun _ M1 h1' => ?_)
      refine S_bnd (m_put h1' ht 8 (x := 8) rfl (by omega) (by omega) (nI l)) (fun _ M2 h2' => ?_)
      rw [chk_h (show inB (12 : Int32) 700 = true by decide), show (12 : Int32).toNatClampNeg = 12 by decide]
      rw [pX8_put, m_ad (f := 18) (x := 18) rfl, chk_h (inB_nI (by omega) (by omega)), cl (by omega), nm_def, bnd_some, chk_h (show inB (12 : Int32) 700 = true by decide), chk_h (show inB (12 : Int32) 700 = true by decide), wI_j (show ¬ 12 = 20 + 20 * t + 18 by omega), show 20 + 20 * t + 18 = 38 + 20 * t from by omega]
      have hd := h2'.blk ht hl (fun l' hl' q => by
        have := (hI.wat hl' q).2.2
        rw [h3] at this
        exact absurd this (by decide)) (by show A.2.1.length < LIM; omega)
      refine S_w hd (fun M3 h3' => ?_)
      exact S_bnd (m_note1 h3' (by show A.2.1.length < LIM; omega) 2 (nI t) (nI l)) (fun _ M4 h4 => S_ret h4)
end MDO
