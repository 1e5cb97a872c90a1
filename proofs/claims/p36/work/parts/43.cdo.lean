/-! ===== the class's perform ===== -/
theorem pf0_e {A : AS} {t : Nat} (a b : Nat) (h : ¬ a = t ∨ (¬ b = 9 ∧ ¬ b = 10)) : (pf0 A t).1 a b = A.1 a b := by
  unfold pf0
  rw [up_e, if_neg (by omega), inc_e, if_neg (by omega)]
theorem pf0_inv {T t : Nat} {A : AS} (h : Inv T 10 A) (ht : t < T) : Inv T 10 (pf0 A t) := by
  have hT := h.T10
  have r := pf0_e (A := A) (t := t)
  exact Inv_min h (fun u b hu _ _ _ _ q9 q10 _ _ => r _ _ (by omega)) (fun u hu => by rw [r _ _ (by omega)]; exact h.p4 u hu) (fun u hu => by rw [r _ _ (by omega)]; exact h.p5 u hu) (fun a b ha => r _ _ (by omega)) (r _ _ (by omega)) (by rw [r 10 4 (by omega), r 10 5 (by omega), r 10 3 (by omega)]; exact h.2.2.2.2.2.1) rfl (Nat.le_refl _)
theorem pf0_evo {T t : Nat} {A : AS} (hT : T ≤ 10) (ht : t < T) : Evo T A (pf0 A t) := by
  have r := pf0_e (A := A) (t := t)
  exact Evo.of (fun b hb => r _ _ (by omega)) (fun a b ha => r _ _ (by omega)) (fun u b hu hb => r _ _ (by omega)) (Nat.le_refl _)
section PFN
variable {T t f : Nat} {A : AS}
theorem pfm_3 (hf : f < 2147483648) : pfm T A t 3 (nI f) = if onF A f = true then ((A, []), true) else ((pk A t (-1), []), false) := by
  show (if onF A (nI f).toNatClampNeg = true then _ else _) = _
  rw [cl hf]
theorem pfm_4 (hf : f < 2147483648) : pfm T A t 4 (nI f) = ((stF A f true, []), true) := by
  show ((stF A (nI f).toNatClampNeg true, []), true) = _
  rw [cl hf]
theorem pfm_5 (hf : f < 2147483648) : pfm T A t 5 (nI f) = ((stF A f false, []), true) := by
  show ((stF A (nI f).toNatClampNeg false, []), true) = _
  rw [cl hf]
theorem pfm_6 (hf : f < 2147483648) : pfm T A t 6 (nI f) = if f < T then ((wkA A f (nI t), wkS A f), true) else ((A, []), true) := by
  show (if (nI f).toNatClampNeg < T then ((wkA A (nI f).toNatClampNeg (nI t), wkS A (nI f).toNatClampNeg), true) else ((A, []), true)) = _
  rw [cl hf]
theorem pfm_7 (hf : f < 2147483648) : pfm T A t 7 (nI f) = ((tlA T A t f, tlS T A t f), true) := by
  show ((tlA T A t (nI f).toNatClampNeg, tlS T A t (nI f).toNatClampNeg), true) = _
  rw [cl hf]
theorem pfm_8 (hf : f < 2147483648) : pfm T A t 8 (nI f) = ((slA T A t f, []), true) := by
  show ((slA T A t (nI f).toNatClampNeg, []), true) = _
  rw [cl hf]
theorem pfm_9 (hf : f < 2147483648) : pfm T A t 9 (nI f) = ((lkA A t f, []), decide (A.1 11 f = -1)) := by
  show ((lkA A t (nI f).toNatClampNeg, []), decide (A.1 11 (nI f).toNatClampNeg = -1)) = _
  rw [cl hf]
theorem pfm_10 (hf : f < 2147483648) : pfm T A t 10 (nI f) = if A.1 11 f = nI t then ((gv1 T A t f, gvk T A t f []), true) else ((flA A t, []), false) := by
  show (if A.1 11 (nI f).toNatClampNeg = nI t then ((gv1 T A t (nI f).toNatClampNeg, gvk T A t (nI f).toNatClampNeg []), true) else ((flA A t, []), false)) = _
  rw [cl hf]
end PFN
section CDO
variable {g : Bool} {k : Nat} {M0 : Mem} {T : Nat} {A : AS} {M : Mem}
def Pd (g : Bool) (k : Nat) (M0 : Mem) (T : Nat) (r : (AS × List Nat) × Bool) (o : Int32) (M' : Mem) : Prop := o = (if r.2 = true then 1 else 0) ∧ C g true k M0 T r.1.1 r.1.2 M'
set_option maxHeartbeats 4000000 in
theorem c_do (h : C g true k M0 T A [] M) (hI : Inv T 10 A) {t : Nat} (ht : t < T) (h30 : A.1 t 3 = 0) (hL : A.2.1.length + 10 ≤ LIM) : Sat (pX3_perform k (nI t) M) (Pd g k M0 T (pfx T (pf0 A t) t)) := by
  have hT := hI.T10
  have r15 : M.1 5 k t 15 = A.1 t 9 := h.th ht 9 rfl
  rw [pX3_perform, chk_h (inB_nI (by omega) (by omega)), cl (by omega), r15]
  refine S_w (h.put (f := 9) ht rfl _) (fun M1 h1 => ?_)
  have r5 : M1.1 3 k 0 5 = A.1 10 3 := (h1.gl 3 rfl).trans (up_a (by omega))
  rw [r5]
  refine S_w (h1.put (f := 10) ht rfl _) (fun M2 h2 => ?_)
  have h2 : C g true k M0 T (pf0 A t) [] M2 := h2
  have hB := pf0_inv hI ht
  have b30 : (pf0 A t).1 t 3 = 0 := (pf0_e _ _ (by omega)).trans h30
  have hLB : (pf0 A t).2.1.length + 10 ≤ LIM := hL
  generalize pf0 A t = B at h2 hB b30 hLB ⊢
  obtain ⟨-, ⟨z, q, b1, b2, b3, b4, -, b6⟩, -⟩ := hB.2.1 t ht
  have hqz : q < z := by
    have := hB.2.2.1 t ht (by omega) (Or.inl b30)
    rw [b1, b2] at this
    have : ¬ q = z := fun e => this (by rw [e])
    omega
  obtain ⟨c, hc, e1, e2, e3⟩ := b6 q hqz
  have r8 : M2.1 5 k t 8 = nI q := (h2.th ht 2 rfl).trans b2
  have r3 : M2.1 5 k t 3 = nI z := (h2.th ht 1 rfl).trans b1
  obtain ⟨o6, o7⟩ := h2.co ht (j := q) (by omega) (by rw [b1, cl (by omega)]; exact hqz)
  have ep : pfx T B t = pfm T B t c (B.1 13 (16 * t + q)) := by
    unfold pfx
    rw [b2, cl (by omega), e1, cl (by omega)]
  rw [r8, r3, if_pos (nI_lt hqz (by omega)), chk_h (inB_nI (by omega) (by omega)), cl (by omega), o7, nm_def, chk_h (inB_nI (by omega) (by omega)), o6, e1, chk_h (inB_nI hc (by omega)), cl (by omega), ep]
  rw [show pJx29ce0_ordinal_8abf5 c M2 = some (nI c, M2) from rfl, bnd_some, chk_h (inB_nI hc (by omega)), nm_def]
  generalize B.1 13 (16 * t + q) = x at e2 e3 ⊢
  have hlm := lm c hc
  rw [i32_le] at e2 e3
  have num : ∀ m : Nat, (xMost.getD c 0).toInt ≤ m → ∃ f, f ≤ m ∧ x = nI f := fun m hm => ⟨x.toNatClampNeg, num_le (by omega) (by omega), (nI_self (by omega)).symm⟩
  have hcc : c = 0 ∨ c = 1 ∨ c = 2 ∨ c = 3 ∨ c = 4 ∨ c = 5 ∨ c = 6 ∨ c = 7 ∨ c = 8 ∨ c = 9 ∨ c = 10 := by omega
  rcases hcc with rfl | rfl | rfl | rfl | rfl | rfl | rfl | rfl | rfl | rfl | rfl
  · rw [show swF (nI 0) = 1 from by decide, if_pos rfl]
    have r9 : M2.1 5 k t 9 = B.1 t 17 := h2.th ht 17 rfl
    rw [r9]
    refine S_w (h2.put (f := 17) ht rfl _) (fun M3 h3 => ?_)
    have r9' : M3.1 5 k t 9 = B.1 t 17 + 1 := (h3.th ht 17 rfl).trans up_s
    rw [r9', chk_h b01_0, chk_h b01_1]
    show Sat _ (Pd g k M0 T ((inc B t 17, []), decide (¬ (B.1 t 17 + 1 < x))))
    by_cases e : B.1 t 17 + 1 < x
    · rw [if_pos e, decide_eq_false (fun q => q e)]
      exact S_ret ⟨rfl, h3⟩
    · rw [if_neg e, decide_eq_true e]
      exact S_ret ⟨rfl, h3⟩
  · rw [show swF (nI 1) = 2 from by decide, if_neg (by decide), if_pos rfl]
    refine S_bnd (c_park h2 ht (-1) (by omega)) (fun _ M3 h3 => ?_)
    rw [chk_h b01_1]
    exact S_ret ⟨rfl, h3⟩
  · have r5' : M2.1 3 k 0 5 = B.1 10 3 := h2.gl 3 rfl
    rw [show swF (nI 2) = 3 from by decide, if_neg (by decide), if_neg (by decide), if_pos rfl, r5']
    refine S_bnd (c_park h2 ht (B.1 10 3 + x) (by omega)) (fun _ M3 h3 => ?_)
    rw [chk_h b01_1]
    exact S_ret ⟨rfl, h3⟩
  · obtain ⟨f, hf, rfl⟩ := num 7 hlm.2
    rw [show swF (nI 3) = 4 from by decide, if_neg (by decide), if_neg (by decide), if_neg (by decide), if_pos rfl, c_flagOn h2 f, bnd_some, pfm_3 (by omega)]
    by_cases e : onF B f = true
    · rw [if_pos e, if_pos e, if_neg (by decide), chk_h b01_1]
      exact S_ret ⟨rfl, h2⟩
    · rw [if_neg e, if_neg e, if_pos rfl]
      refine S_bnd (c_park h2 ht (-1) (by omega)) (fun _ M3 h3 => ?_)
      rw [chk_h b01_0]
      exact S_ret ⟨rfl, h3⟩
  · obtain ⟨f, hf, rfl⟩ := num 7 hlm.2
    rw [show swF (nI 4) = 5 from by decide, if_neg (by decide), if_neg (by decide), if_neg (by decide), if_neg (by decide), if_pos rfl, pfm_4 (by omega)]
    refine S_bnd (c_turn h2 f true) (fun _ M3 h3 => ?_)
    rw [chk_h b01_1]
    exact S_ret ⟨rfl, h3⟩
  · obtain ⟨f, hf, rfl⟩ := num 7 hlm.2
    rw [show swF (nI 5) = 6 from by decide, if_neg (by decide), if_neg (by decide), if_neg (by decide), if_neg (by decide), if_neg (by decide), if_pos rfl, pfm_5 (by omega)]
    refine S_bnd (c_turn h2 f false) (fun _ M3 h3 => ?_)
    rw [chk_h b01_1]
    exact S_ret ⟨rfl, h3⟩
  · obtain ⟨f, hf, rfl⟩ := num 9 hlm.2
    have r4 : M2.1 3 k 0 4 = nI T := (h2.gl 2 rfl).trans h2.1.1.2
    rw [show swF (nI 6) = 7 from by decide, if_neg (by decide), if_neg (by decide), if_neg (by decide), if_neg (by decide), if_neg (by decide), if_neg (by decide), if_pos rfl, r4, pfm_6 (by omega)]
    by_cases e : f < T
    · rw [if_pos e, if_neg (nI_ge e (by omega))]
      refine S_bnd (c_wake h2 hB e (nI t) (by omega)) (fun _ M3 h3 => ?_)
      rw [chk_h b01_1]
      exact S_ret ⟨rfl, h3.2⟩
    · rw [if_neg e, if_pos (nI_le (by omega) (by omega)), chk_h b01_1]
      exact S_ret ⟨rfl, h2⟩
  · obtain ⟨f, hf, rfl⟩ := num 9 hlm.2
    rw [show swF (nI 7) = 8 from by decide, if_neg (by decide), if_neg (by decide), if_neg (by decide), if_neg (by decide), if_neg (by decide), if_neg (by decide), if_neg (by decide), if_pos rfl, pfm_7 (by omega)]
    refine S_bnd (c_tell h2 hB ht (by omega) (by omega)) (fun _ M3 h3 => ?_)
    rw [chk_h b01_1]
    exact S_ret ⟨rfl, h3⟩
  · obtain ⟨f, hf, rfl⟩ := num 9 hlm.2
    rw [show swF (nI 8) = 9 from by decide, if_neg (by decide), if_neg (by decide), if_neg (by decide), if_neg (by decide), if_neg (by decide), if_neg (by decide), if_neg (by decide), if_neg (by decide), if_pos rfl, pfm_8 (by omega)]
    refine S_bnd (c_steal h2 ht (by omega) (by omega)) (fun _ M3 h3 => ?_)
    rw [chk_h b01_1]
    exact S_ret ⟨rfl, h3⟩
  · obtain ⟨f, hf, rfl⟩ := num 5 hlm.2
    rw [show swF (nI 9) = 10 from by decide, if_neg (by decide), if_neg (by decide), if_neg (by decide), if_neg (by decide), if_neg (by decide), if_neg (by decide), if_neg (by decide), if_neg (by decide), if_neg (by decide), if_pos rfl, pfm_9 (by omega)]
    refine S_bnd (c_lock h2 hB ht (by omega) b30 (by omega)) (fun o M3 h3 => ?_)
    obtain ⟨e, h3⟩ := h3
    by_cases e4 : B.1 11 f = -1
    · rw [if_pos e4] at e
      rw [e, chk_h b01_1, decide_eq_true e4]
      exact S_ret ⟨rfl, h3⟩
    · rw [if_neg e4] at e
      rw [e, chk_h b01_0, decide_eq_false e4]
      exact S_ret ⟨rfl, h3⟩
  · obtain ⟨f, hf, rfl⟩ := num 5 hlm.2
    rw [show swF (nI 10) = 0 from by decide, if_neg (by decide), if_neg (by decide), if_neg (by decide), if_neg (by decide), if_neg (by decide), if_neg (by decide), if_neg (by decide), if_neg (by decide), if_neg (by decide), if_neg (by decide), pfm_10 (by omega), pX3_unlock, chk_h (inB_nI (by omega) (by omega)), cl (by omega), h2.ho (by omega)]
    by_cases e : B.1 11 f = nI t
    · rw [if_pos e, if_pos e]
      refine S_bnd (P := fun o M' => Pd g k M0 T ((gv1 T B t f, gvk T B t f []), true) o M') ?_ (fun o M3 h3 => ?_)
      · refine S_bnd (c_giveUp h2 hB (by omega) e ht (by omega) (fun _ _ => by decide)) (fun _ M3 h3 => ?_)
        rw [chk_h b01_1]
        exact S_ret ⟨rfl, h3⟩
      · rw [h3.1]
        show Sat (chk (decide ((1 : Int32) = 0 ∨ (1 : Int32) = 1)) _) _
        rw [chk_h b01_1]
        exact S_ret ⟨rfl, h3.2⟩
    · rw [if_neg e, if_neg e]
      refine S_bnd (P := fun o M' => Pd g k M0 T ((flA B t, []), false) o M') ?_ (fun o M3 h3 => ?_)
      · refine S_bnd (c_fail h2 ht (by omega)) (fun _ M3 h3 => ?_)
        rw [chk_h b01_0]
        exact S_ret ⟨rfl, h3⟩
      · rw [h3.1]
        show Sat (chk (decide ((0 : Int32) = 0 ∨ (0 : Int32) = 1)) _) _
        rw [chk_h b01_0]
        exact S_ret ⟨rfl, h3.2⟩
end CDO
