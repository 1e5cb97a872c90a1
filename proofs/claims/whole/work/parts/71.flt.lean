/-! ===== lent, busy ===== -/
section FLT
variable {n : Nat} {T : Nat} {A : AS} {M M1 M2 M3 M4 M5 : Mem}
def LCD (r : Option (Except Nat Int32 × Mem)) (f : Mem → Option (UInt32 × Mem)) (n : Nat) : Prop := ∃ M1 k b M2, r = some (.ok k, M1) ∧ f M1 = some (b, M2) ∧ M2.1 19 0 0 7 = k ∧ (k = 0 → M2.2.2.2 = FP.f2d b ∧ (FP.f2d b) &&& 0x7fffffffffffffff ≤ 0x7ff0000000000000 ∧ (Op.cmpValue (FP.dcmp (FP.f2d b) (FP.f2d b)) .l) = 0) ∧ J n M2
theorem lent_t : ((List.range 10).all fun p => (List.range 10).all fun b => p == 0 || b == 0 || (decide ((FP.fdiv (FP.i2f (nI p)) (FP.i2f (nI b))) &&& 0x7fffffff ≤ 0x7f800000) && decide ((FP.f2d (FP.fdiv (FP.i2f (nI p)) (FP.i2f (nI b)))) &&& 0x7fffffffffffffff ≤ 0x7ff0000000000000) && decide ((Op.cmpValue (FP.dcmp (FP.f2d (FP.fdiv (FP.i2f (nI p)) (FP.i2f (nI b)))) (FP.f2d (FP.fdiv (FP.i2f (nI p)) (FP.i2f (nI b))))) .l) = 0))) = true := by decide +kernel
theorem lent_o {p b : Nat} (h1 : 1 ≤ p) (h2 : p ≤ 9) (h3 : 1 ≤ b) (h4 : b ≤ 9) : (FP.fdiv (FP.i2f (nI p)) (FP.i2f (nI b))) &&& 0x7fffffff ≤ 0x7f800000 ∧ (FP.f2d (FP.fdiv (FP.i2f (nI p)) (FP.i2f (nI b)))) &&& 0x7fffffffffffffff ≤ 0x7ff0000000000000 ∧ (Op.cmpValue (FP.dcmp (FP.f2d (FP.fdiv (FP.i2f (nI p)) (FP.i2f (nI b)))) (FP.f2d (FP.fdiv (FP.i2f (nI p)) (FP.i2f (nI b))))) .l) = 0 := by
  have := List.all_eq_true.mp (List.all_eq_true.mp lent_t p (List.mem_range.mpr (by omega))) b (List.mem_range.mpr (by omega))
  have n1 : (p == 0) = false := beq_false_of_ne (by omega)
  have n2 : (b == 0) = false := beq_false_of_ne (by omega)
  rw [n1, n2] at this
  simp only [Bool.false_or, Bool.and_eq_true, decide_eq_true_eq] at this
  exact ⟨this.1.1, this.1.2, this.2⟩
theorem n9 {x : Int32} (h1 : 1 ≤ x.toInt) (h2 : x.toInt ≤ 9) : ∃ p, 1 ≤ p ∧ p ≤ 9 ∧ x = nI p := by
  obtain ⟨p, hp, rfl⟩ := nI_of (x := x) (by rw [i32_lt, i32_0]; omega)
  rw [nI_toInt hp] at h1 h2
  exact ⟨p, by omega, by omega, rfl⟩
theorem pr_9 (hI : Inv T 10 A) {t : Nat} (ht : t < T) : 1 ≤ (pr T A t).toInt ∧ (pr T A t).toInt ≤ 9 := by
  refine ⟨pr_ge ht (hI.base t ht), ?_⟩
  by_cases h1 : A.1 10 1 = 1
  · obtain ⟨⟨u, ⟨hu, -⟩, e⟩, -⟩ := pr_isMx ht h1 (by have := hI.base t ht; omega)
    rw [e]
    exact (hI.2.1 u hu).1.2
  · rw [pr_no h1]
    exact (hI.2.1 t ht).1.2
theorem C.wd {g p : Bool} {k : Nat} {M0 : Mem} {stk : List Nat} (h : C g p k M0 T A stk M) (v : UInt64) : C g p k (wD M v) T A stk (wD M v) := h.mv (fun _ _ _ _ _ => rfl)
theorem D.wd (h : D M3 T A [] M) (v : UInt64) : D (wD M v) T A [] (wD M v) := h.mv (fun _ => rfl) (fun _ => rfl) rfl
theorem Rst.wd (h : Rst n M) (v : UInt64) : Rst n (wD M v) := h.mv (fun _ _ _ _ _ _ _ => rfl) (fun _ _ _ => rfl) (fun _ _ => rfl)
theorem call_lent (hJ : J n M) (v : Int32) : LCD (pL_lent v M) (pX8_lent v) n := by
  obtain ⟨T, A, hC, hD, hI, hB, hR⟩ := id hJ
  have hT := hI.T10
  rw [pL_lent]
  by_cases e : isT T v = true
  · obtain ⟨t, ht, rfl⟩ := isT_t hT e
    obtain ⟨p, p1, p2, ep⟩ := n9 (pr_9 hI ht).1 (pr_9 hI ht).2
    obtain ⟨b, b1, b2, eb⟩ := n9 (hI.2.1 t ht).1.1 (hI.2.1 t ht).1.2
    obtain ⟨f1, f2, f3⟩ := lent_o p1 p2 b1 b2
    have h7 : Sat (pX7_lent (nI t) M) (fun o M' => o = .ok (FP.fdiv (FP.i2f (nI p)) (FP.i2f (nI b))) ∧ C true true 0 M T A [] M') := by
      rw [pX7_lent, c_thr hC, if_pos e, bndx_ok]
      refine S_bnd (c_refresh hC hI.hi hI.base) (fun _ M1 h1 => ?_)
      have e4 : M1.1 5 0 t 4 = nI b := (h1.1.th ht 0 rfl).trans eb
      rw [chk_h (inB_nI (by omega) (by omega)), cl (by omega), c_pr h1.1 h1.2 ht, ep, e4, chk_h (decide_eq_true f1)]
      exact S_ret ⟨rfl, h1.1⟩
    obtain ⟨_, M1, e7, rfl, h1⟩ := h7
    have hC2 := h1.re.wd (FP.f2d (FP.fdiv (FP.i2f (nI p)) (FP.i2f (nI b))))
    have hD2 := (hD.fk h1.fkk).wd (FP.f2d (FP.fdiv (FP.i2f (nI p)) (FP.i2f (nI b))))
    have hR2 := (hR.fk (by omega) h1.fkk).wd (FP.f2d (FP.fdiv (FP.i2f (nI p)) (FP.i2f (nI b))))
    have hm : Sat (pX8_lent (nI t) (wD M1 (FP.f2d (FP.fdiv (FP.i2f (nI p)) (FP.i2f (nI b)))))) (fun o M4 => o = FP.fdiv (FP.i2f (nI p)) (FP.i2f (nI b)) ∧ D (wI (wD M1 (FP.f2d (FP.fdiv (FP.i2f (nI p)) (FP.i2f (nI b))))) 19 0 0 7 0) T A [] M4) := by
      rw [pX8_lent, m_thr hD2, if_pos e, bnd_some, if_neg (show ¬ (1 : Int32) = 0 by decide), pX8_lent_14, nm_def, wI_s, if_neg (not_not_intro rfl)]
      refine S_bnd (m_prio (hD2.w7 0) hI ht) (fun o M4 h4 => ?_)
      obtain ⟨rfl, h4⟩ := h4
      rw [m_of h4 ht 0 (x := 0) rfl (by omega), bnd_some, ep, eb, chk_h (decide_eq_true f1)]
      exact S_ret ⟨rfl, h4⟩
    obtain ⟨_, M4, e4, rfl, h4⟩ := hm
    have hF := h4.2.2
    refine ⟨_, 0, _, M4, ?_, e4, ?_, fun _ => ⟨?_, f2, f3⟩, T, A, (hC2.w7 0).fm hF, h4.re, hI, hB, (hR2.w7 0).fm hF⟩
    · rw [e7]
      show chk _ _ = _
      rw [chk_h (decide_eq_true f2)]
      rfl
    · rw [hF.2 _ _ _ _ (by omega) (by omega) (by omega) (by omega), wI_s]
    · rw [hF.1]
      rfl
  · refine ⟨M, 1, FP.fconst0, wI M 19 0 0 7 1, ?_, ?_, wI_s, fun q => absurd q (by decide), J_w7 hJ 1⟩
    · rw [pX7_lent, c_thr hC, if_neg e, bndx_er]
      rfl
    · rw [pX8_lent, m_thr hD, if_neg e, bnd_some, if_pos rfl, pX8_lent_14, nm_def, wI_s, if_pos (show ¬ (1 : Int32) = 0 by decide)]
theorem nan_b {a : UInt64} (h : a.toNat % 2 ^ 63 ≤ 9218868437227405312) : a &&& 0x7fffffffffffffff ≤ 0x7ff0000000000000 := by
  rw [UInt64.le_iff_toNat_le, UInt64.toNat_and]
  have h1 : (0x7fffffffffffffff : UInt64).toNat = 2 ^ 63 - 1 := by decide
  have h2 : (0x7ff0000000000000 : UInt64).toNat = 9218868437227405312 := by decide
  rw [h1, h2, Nat.and_two_pow_sub_one_eq_mod]
  exact h
theorem busy_o (x y : Int32) (h : ¬ y = 0) : (FP.ddiv (FP.i2d x) (FP.i2d y)) &&& 0x7fffffffffffffff ≤ 0x7ff0000000000000 ∧ (Op.cmpValue (FP.dcmp (FP.ddiv (FP.i2d x) (FP.i2d y)) (FP.ddiv (FP.i2d x) (FP.i2d y))) .l) = 0 := by
  have hx := Jvm.FP.Core.i2d_fin x
  have hy := Jvm.FP.Core.i2d_fin y
  have hz : ¬ Jvm.FP.Core.DZero (Jvm.FP.Core.i2d y) := fun q => Jvm.FP.Core.i2d_ne_zero h ((Jvm.FP.Core.zero_bits2 _).mp q)
  have hn := Jvm.FP.Core.ddiv_out ((Jvm.FP.Core.notNaN_iff _).mpr hx.ne_nan) hy hz
  have hn2 := (Jvm.FP.Core.notNaN_iff _).mp hn
  refine ⟨nan_b ((Jvm.FP.Core.ne_nan _).mp hn2), ?_⟩
  have := Jvm.FP.Core.dcmp_self hn2
  show Op.cmpValue (Jvm.FP.Core.dcmp _ _) .l = 0
  rw [this]
  rfl
def LCB (r : Option (UInt64 × Mem)) (f : Mem → Option (UInt64 × Mem)) (n : Nat) : Prop := ∃ o M1 M2, r = some (o, M1) ∧ f M1 = some (o, M2) ∧ (Op.cmpValue (FP.dcmp o o) .l) = 0 ∧ J n M2
theorem d00 : (Op.cmpValue (FP.dcmp FP.dconst0 FP.dconst0) .l) = 0 := by decide +kernel
theorem call_busy (hJ : J n M) : LCB (pX7_busy M) pX8_busy n := by
  obtain ⟨T, A, hC, hD, hI, hB, hR⟩ := id hJ
  have c5 : M.1 3 0 0 5 = A.1 10 3 := hC.gl 3 rfl
  have c7 : M.1 3 0 0 7 = A.1 10 6 := hC.gl 6 rfl
  have m3 : (wI M 19 0 0 7 0).1 20 0 0 3 = A.1 10 3 := (hD.w7 0).gl 3 rfl
  have m6 : (wI M 19 0 0 7 0).1 20 0 0 6 = A.1 10 6 := (hD.w7 0).gl 6 rfl
  by_cases e : A.1 10 3 = 0
  · refine ⟨FP.dconst0, M, wI M 19 0 0 7 0, ?_, ?_, d00, J_w7 hJ 0⟩
    · rw [pX7_busy, c5, if_neg (not_not_intro e)]
    · rw [pX8_busy, nm_def, chk_h ib_3, cl_3, m3, if_neg (not_not_intro e)]
  · obtain ⟨f1, f2⟩ := busy_o (A.1 10 3 - A.1 10 6) (A.1 10 3) e
    refine ⟨FP.ddiv (FP.i2d (A.1 10 3 - A.1 10 6)) (FP.i2d (A.1 10 3)), M, wI M 19 0 0 7 0, ?_, ?_, f2, J_w7 hJ 0⟩
    · rw [pX7_busy, c5, c7, if_pos e, chk_h (decide_eq_true f1)]
    · rw [pX8_busy, nm_def, chk_h ib_3, cl_3, cl_6, m3, m6, if_pos e, chk_h ib_3, chk_h ib_6, chk_h ib_3, chk_h (decide_eq_true f1)]
end FLT
