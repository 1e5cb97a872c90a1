/-! ===== the reference: perform, a tick ===== -/
section MTICK
variable {M0 : Mem} {T : Nat} {A : AS} {M : Mem}
theorem pfA_t {t : Nat} {r : (AS × List Nat) × Bool} (e : pfx T A t = r) (h : r.2 = true) : pfA T A t = fsh T (fin T r.1.1 r.1.2) t := by
  unfold pfA
  rw [e, if_pos h]
theorem pfA_f {t : Nat} {r : (AS × List Nat) × Bool} (e : pfx T A t = r) (h : ¬ r.2 = true) : pfA T A t = fin T r.1.1 r.1.2 := by
  unfold pfA
  rw [e, if_neg h]
theorem inc_s {a b : Nat} : (inc A a b).1 a b = A.1 a b + 1 := by rw [inc_e, if_pos ⟨rfl, rfl⟩]
theorem pk_17 {t : Nat} {d : Int32} : (pk A t d).1 t 17 = A.1 t 17 := pk_e _ _ (by omega)
theorem m_behind (h : D M0 T A [] M) {t : Nat} (hI : Inv T t (goB A t)) (ht : t < T) (h3 : A.1 t 3 = 0 ∨ A.1 t 3 = 1) (h17 : A.1 t 17 = 0) (hL : A.2.1.length + 400 ≤ LIM) : Sat (pX8_goBehind (nI t) M) (fun _ M' => D M0 T (fsh T A t) [] M') := by
  have hT := h.T10
  rw [pX8_goBehind, m_of h ht 3 (x := 3) rfl (by omega), bnd_some]
  by_cases e : A.1 t 3 = 0
  · rw [if_neg (not_not_intro e)]
    exact S_bnd (m_finish h hI ht e hL) (fun _ M1 h1 => S_ret h1)
  · rw [if_pos e]
    refine S_bnd (m_grow h ht 2 (x := 2) rfl (by omega) (by omega)) (fun _ M1 h1 => S_ret ?_)
    have e3 : (goB A t).1 t 3 = A.1 t 3 := by rw [goB_e, if_pos rfl, if_neg (by omega), if_neg (by omega)]
    have ep : ps (goB A t) t [] = [] := by
      unfold ps
      rw [if_neg (fun q => e (by rw [← e3]; exact q.1))]
    unfold fsh
    rw [ep]
    show D M0 T (goB A t) [] M1
    unfold goB
    rw [up_self (by rw [inc_e, if_neg (by omega)]; exact h17)]
    exact h1
set_option maxHeartbeats 4000000 in
theorem m_do (h : D M0 T A [] M) (hI : Inv T 10 A) {t : Nat} (ht : t < T) (h30 : A.1 t 3 = 0) (hL : A.2.1.length + 1000 ≤ LIM) : Sat (pX8_perform (nI t) M) (fun _ M' => D M0 T (pfA T A t) [] M') := by
  have hT := hI.T10
  obtain ⟨z, q, b1, b2, hqz, hz, c, hc, e1, e2, e3⟩ := place_of hI ht h30
  have ep : pfx T A t = pfm T A t c (A.1 13 (16 * t + q)) := by
    unfold pfx
    rw [b2, cl (by omega), e1, cl (by omega)]
  have hP := pfm_ok hI ht h30 b1 b2 hqz hz hc e1 rfl e2 e3 (by omega)
  obtain ⟨o6, o7⟩ := h.co ht (j := q) (by omega) (by rw [b1, cl (by omega)]; exact hqz)
  have ecp : pX8_codePlace (nI t) (nI q) M = some (nI (220 + 2 * (16 * t + q)), M) := by
    rw [pX8_codePlace]
    show some (nI 220 + nI 2 * (nI 16 * nI t + nI q), M) = _
    rw [nI_mul, nI_add, nI_mul, nI_add]
  have h17 : ¬ c = 0 → A.1 t 17 = 0 := fun hne => by
    obtain ⟨-, ⟨z', q', f1, f2, f3, f4, f5, -⟩, -⟩ := hI.2.1 t ht
    rcases f5 with f5 | ⟨-, f6, -⟩
    · exact f5
    · have : q' = q := nI_inj (by omega) (by omega) (by rw [← f2, b2])
      rw [this, e1] at f6
      exact absurd (nI_inj (b := 0) (by omega) (by omega) f6) hne
  rw [pX8_perform, m_of h ht 2 (x := 2) rfl (by omega), bnd_some, b2, ecp, bnd_some, nI_1, chk_h (inB_nI (by omega) (by omega)), cl (by omega), o7, nm_def, chk_h (inB_nI (by omega) (by omega)), cl (by omega), o6, e1, nm_def]
  have hprog : c = 0 → 0 ≤ (A.1 t 17).toInt ∧ (A.1 t 17).toInt < (A.1 13 (16 * t + q)).toInt ∧ (A.1 13 (16 * t + q)).toInt ≤ 20 := fun hc0 => by
    subst hc0
    have hlm := (lm 0 (by omega)).2
    rw [i32_le] at e2 e3
    have h20 : (xMost.getD 0 0).toInt ≤ (20 : Nat) := hlm
    have h1 : (xLeast.getD 0 0).toInt = 1 := by decide
    obtain ⟨-, ⟨z', q', f1, f2, f3, f4, f5, -⟩, -⟩ := hI.2.1 t ht
    have : q' = q := nI_inj (by omega) (by omega) (by rw [← f2, b2])
    subst this
    rcases f5 with f5 | ⟨-, -, f6, f7⟩
    · rw [f5, i32_0]; omega
    · exact ⟨f6, f7, by omega⟩
  generalize A.1 13 (16 * t + q) = x at e2 e3 ep hP hprog ⊢
  have hlm := lm c hc
  rw [i32_le] at e2 e3
  have num : ∀ m : Nat, (xMost.getD c 0).toInt ≤ m → ∃ f, f ≤ m ∧ x = nI f := fun m hm => ⟨x.toNatClampNeg, num_le (by omega) (by omega), (nI_self (by omega)).symm⟩
  have fsh_of : ∀ (B : AS) (M1 : Mem), pfm T A t c x = ((B, []), true) → D M0 T B [] M1 → B.1 t 3 = 0 → B.2.1.length ≤ A.2.1.length + 2 → Sat (pX8_finish (nI t) M1) (fun _ M' => D M0 T (pfA T A t) [] M') := fun B M1 k1 k2 k3 k4 => by
    rw [k1] at hP ep
    obtain ⟨-, -, -, -, p5, -⟩ := hP
    obtain ⟨m1, m2, m3, m4⟩ := p5 rfl
    rw [pfA_t ep rfl]
    exact m_finish k2 m3 ht k3 (by omega)
  have bh_of : ∀ (d : Int32) (M1 : Mem), ¬ c = 0 → pfm T A t c x = ((pk A t d, []), true) → D M0 T (pk A t d) [] M1 → Sat (pX8_goBehind (nI t) M1) (fun _ M' => D M0 T (pfA T A t) [] M') := fun d M1 k0 k1 k2 => by
    rw [k1] at hP ep
    obtain ⟨-, -, -, -, p5, -⟩ := hP
    obtain ⟨m1, m2, m3, m4⟩ := p5 rfl
    rw [pfA_t ep rfl]
    obtain ⟨g1, g2, g3, g4, g5, g6⟩ := pk_t (d := d) (hI.p4 t ht) (hI.p5 t ht)
    refine m_behind k2 m3 ht ?_ ((pk_17 (A := A) (t := t) (d := d)).trans (h17 k0)) (by show (pk A t d).2.1.length + 400 ≤ LIM; omega)
    rcases g3 with g3 | g3
    · left; rw [g3]; exact h30
    · right; exact g3
  have hcc : c = 0 ∨ c = 1 ∨ c = 2 ∨ c = 3 ∨ c = 4 ∨ c = 5 ∨ c = 6 ∨ c = 7 ∨ c = 8 ∨ c = 9 ∨ c = 10 := by omega
  rcases hcc with rfl | rfl | rfl | rfl | rfl | rfl | rfl | rfl | rfl | rfl | rfl
  · obtain ⟨p1, p2, p3⟩ := hprog rfl
    rw [if_pos (show nI 0 = 0 from rfl), pX8_doRun]
    refine S_bnd (P := fun _ M' => D M0 T (pfA T A t) [] M') ?_ (fun _ M1 h1 => S_ret h1)
    refine S_bnd (m_grow h ht 17 (x := 17) rfl (by omega) (by omega)) (fun _ M1 h1 => ?_)
    rw [m_of h1 ht 17 (x := 17) rfl (by omega), bnd_some, inc_s]
    have es := i32_suc p1 (by omega)
    by_cases e : A.1 t 17 + 1 = x
    · rw [if_neg (not_not_intro e)]
      have er : pfm T A t 0 x = ((inc A t 17, []), true) := by
        show ((inc A t 17, []), decide (¬ (A.1 t 17 + 1 < x))) = _
        rw [decide_eq_true (by rw [i32_lt, e]; omega)]
      exact S_bnd (fsh_of _ M1 er h1 (by rw [inc_e, if_neg (by omega)]; exact h30) (Nat.le_add_right _ _)) (fun _ M2 h2 => S_ret h2)
    · rw [if_pos e]
      have er : pfm T A t 0 x = ((inc A t 17, []), false) := by
        show ((inc A t 17, []), decide (¬ (A.1 t 17 + 1 < x))) = _
        rw [decide_eq_false (fun q => q (by
          rw [i32_lt, es]
          have : ¬ (A.1 t 17 + 1).toInt = x.toInt := fun z => e (i32_eq.mpr z)
          omega))]
      rw [pfA_f (ep.trans er) (fun q => Bool.false_ne_true q)]
      exact S_ret h1
  · rw [if_neg (show ¬ nI 1 = 0 by decide), if_pos (show nI 1 = 1 from rfl)]
    refine S_bnd (m_park h ht (hI.p4 t ht) (hI.p5 t ht) (-1) (by omega)) (fun _ M1 h1 => ?_)
    exact S_bnd (bh_of (-1) M1 (by omega) rfl h1) (fun _ M2 h2 => S_ret h2)
  · rw [if_neg (show ¬ nI 2 = 0 by decide), if_neg (show ¬ nI 2 = 1 by decide), if_pos (show nI 2 = 2 from rfl), chk_h ib_3, cl_3, show M.1 20 0 0 3 = A.1 10 3 from h.gl 3 rfl]
    refine S_bnd (m_park h ht (hI.p4 t ht) (hI.p5 t ht) (A.1 10 3 + x) (by omega)) (fun _ M1 h1 => ?_)
    exact S_bnd (bh_of _ M1 (by omega) rfl h1) (fun _ M2 h2 => S_ret h2)
  · obtain ⟨f, hf, rfl⟩ := num 7 hlm.2
    rw [if_neg (show ¬ nI 3 = 0 by decide), if_neg (show ¬ nI 3 = 1 by decide), if_neg (show ¬ nI 3 = 2 by decide), if_pos (show nI 3 = 3 from rfl), pX8_doAwait, m_isOn h, bnd_some]
    have er := pfm_3 (T := T) (A := A) (t := t) (f := f) (by omega)
    refine S_bnd (P := fun _ M' => D M0 T (pfA T A t) [] M') ?_ (fun _ M1 h1 => S_ret h1)
    by_cases e : onF A f = true
    · rw [if_pos e] at er
      rw [if_pos e, if_neg (by decide)]
      exact S_bnd (fsh_of _ M er h h30 (Nat.le_add_right _ _)) (fun _ M2 h2 => S_ret h2)
    · rw [if_neg e] at er
      rw [if_neg e, if_pos rfl, pfA_f (ep.trans er) (fun q => Bool.false_ne_true q)]
      exact S_bnd (m_park h ht (hI.p4 t ht) (hI.p5 t ht) (-1) (by omega)) (fun _ M1 h1 => S_ret h1)
  · obtain ⟨f, hf, rfl⟩ := num 7 hlm.2
    rw [if_neg (show ¬ nI 4 = 0 by decide), if_neg (show ¬ nI 4 = 1 by decide), if_neg (show ¬ nI 4 = 2 by decide), if_neg (show ¬ nI 4 = 3 by decide), if_pos (show nI 4 = 4 from rfl), chk_h (inB_nI (by omega) (by omega)), if_neg (not_not_intro (show nI 4 = 4 from rfl)), pX8_perform_150]
    refine S_bnd (m_turn h hI (by omega) true) (fun _ M1 h1 => ?_)
    exact S_bnd (fsh_of _ M1 (pfm_4 (by omega)) h1 (by unfold stF; rw [up_a (by omega)]; exact h30) (Nat.le_add_right _ _)) (fun _ M2 h2 => S_ret h2)
  · obtain ⟨f, hf, rfl⟩ := num 7 hlm.2
    rw [if_neg (show ¬ nI 5 = 0 by decide), if_neg (show ¬ nI 5 = 1 by decide), if_neg (show ¬ nI 5 = 2 by decide), if_neg (show ¬ nI 5 = 3 by decide), if_neg (show ¬ nI 5 = 4 by decide), if_pos (show nI 5 = 5 from rfl), chk_h (inB_nI (by omega) (by omega)), if_pos (show ¬ nI 5 = 4 by decide), pX8_perform_150]
    refine S_bnd (m_turn h hI (by omega) false) (fun _ M1 h1 => ?_)
    exact S_bnd (fsh_of _ M1 (pfm_5 (by omega)) h1 (by unfold stF; rw [up_a (by omega)]; exact h30) (Nat.le_add_right _ _)) (fun _ M2 h2 => S_ret h2)
  · obtain ⟨f, hf, rfl⟩ := num 9 hlm.2
    rw [if_neg (show ¬ nI 6 = 0 by decide), if_neg (show ¬ nI 6 = 1 by decide), if_neg (show ¬ nI 6 = 2 by decide), if_neg (show ¬ nI 6 = 3 by decide), if_neg (show ¬ nI 6 = 4 by decide), if_neg (show ¬ nI 6 = 5 by decide), if_pos (show nI 6 = 6 from rfl), pX8_doWake, m_isT h (by omega), bnd_some]
    have er := pfm_6 (T := T) (A := A) (t := t) (f := f) (by omega)
    refine S_bnd (P := fun _ M' => D M0 T (pfA T A t) [] M') ?_ (fun _ M1 h1 => S_ret h1)
    by_cases e : f < T
    · rw [if_pos e] at er
      rw [if_pos e, if_neg (by decide)]
      refine S_bnd (m_wake h hI e (nI t) (by omega)) (fun o M1 h1 => ?_)
      rw [pX8_doWake_15, pfA_t (ep.trans er) rfl]
      rw [er] at hP
      obtain ⟨m1, m2, m3, m4⟩ := hP.2.2.2.2.1 rfl
      obtain ⟨-, -, w3, w4, w5, w6⟩ := wk_ok (w := nI t) hI e (by omega)
      exact S_bnd (m_finish h1.2 m3 ht ((w6 t 3 ht (by omega) h30).trans h30) (by omega)) (fun _ M2 h2 => S_ret h2)
    · rw [if_neg e] at er
      rw [if_neg e, if_pos rfl, pX8_doWake_15]
      exact S_bnd (fsh_of _ M er h h30 (Nat.le_add_right _ _)) (fun _ M2 h2 => S_ret h2)
  · obtain ⟨f, hf, rfl⟩ := num 9 hlm.2
    rw [if_neg (show ¬ nI 7 = 0 by decide), if_neg (show ¬ nI 7 = 1 by decide), if_neg (show ¬ nI 7 = 2 by decide), if_neg (show ¬ nI 7 = 3 by decide), if_neg (show ¬ nI 7 = 4 by decide), if_neg (show ¬ nI 7 = 5 by decide), if_neg (show ¬ nI 7 = 6 by decide), if_pos (show nI 7 = 7 from rfl), pX8_doTell, m_of h ht 6 (x := 6) rfl (by omega), bnd_some]
    have er := pfm_7 (T := T) (A := A) (t := t) (f := f) (by omega)
    unfold tlA tlS at er
    refine S_bnd (P := fun _ M' => D M0 T (pfA T A t) [] M') ?_ (fun _ M1 h1 => S_ret h1)
    by_cases e6 : A.1 t 6 = 1
    · rw [if_pos e6, if_pos e6] at er
      rw [if_neg (not_not_intro e6)]
      refine S_bnd (m_put h ht 6 (x := 6) rfl (by omega) (by omega) 0) (fun _ M1 h1 => ?_)
      rw [m_isT h1 (by omega), bnd_some]
      by_cases e : f < T
      · rw [if_pos e, if_pos e] at er
        rw [if_pos e, if_neg (by decide), chk_h ib_11, chk_h ib_11, cl_11, show M1.1 20 0 0 11 = _ from h1.gl 11 rfl]
        refine S_w (h1.putg (b := 11) rfl (by omega) _) (fun M2 h2 => ?_)
        refine S_bnd (m_note h2 (by show A.2.1.length < LIM; omega) 9 (nI t) (nI f)) (fun _ M3 h3 => ?_)
        have h3 : D M0 T (tl0 A t f) [] M3 := h3
        have hI3 := tl0_inv (x := f) hI ht
        have eL : (tl0 A t f).2.1.length = A.2.1.length + 1 := rfl
        have r30 : (tl0 A t f).1 t 3 = 0 := by
          unfold tl0
          rw [note_1, inc_e, if_neg (by omega), up_b (by omega)]; exact h30
        refine S_bnd (m_wake h3 hI3 e (nI t) (by omega)) (fun o M4 h4 => ?_)
        rw [pX8_doTell_53, pfA_t (ep.trans er) rfl]
        rw [er] at hP
        obtain ⟨m1, m2, m3, m4⟩ := hP.2.2.2.2.1 rfl
        obtain ⟨-, -, w3, w4, w5, w6⟩ := wk_ok (w := nI t) hI3 e (by omega)
        exact S_bnd (m_finish h4.2 m3 ht ((w6 t 3 ht (by omega) r30).trans r30) (by omega)) (fun _ M2 h2 => S_ret h2)
      · rw [if_neg e, if_neg e] at er
        rw [if_neg e, if_pos rfl, pX8_doTell_53]
        exact S_bnd (fsh_of _ M1 er h1 (by rw [up_b (by omega)]; exact h30) (Nat.le_add_right _ _)) (fun _ M2 h2 => S_ret h2)
    · rw [if_neg e6, if_neg e6] at er
      rw [if_pos e6, pX8_doTell_53]
      exact S_bnd (fsh_of _ M er h h30 (Nat.le_add_right _ _)) (fun _ M2 h2 => S_ret h2)
  · obtain ⟨f, hf, rfl⟩ := num 9 hlm.2
    rw [if_neg (show ¬ nI 8 = 0 by decide), if_neg (show ¬ nI 8 = 1 by decide), if_neg (show ¬ nI 8 = 2 by decide), if_neg (show ¬ nI 8 = 3 by decide), if_neg (show ¬ nI 8 = 4 by decide), if_neg (show ¬ nI 8 = 5 by decide), if_neg (show ¬ nI 8 = 6 by decide), if_neg (show ¬ nI 8 = 7 by decide), if_pos (show nI 8 = 8 from rfl), pX8_doSteal, m_isT h (by omega), bnd_some]
    have er := pfm_8 (T := T) (A := A) (t := t) (f := f) (by omega)
    unfold slA at er
    refine S_bnd (P := fun _ M' => D M0 T (pfA T A t) [] M') ?_ (fun _ M1 h1 => S_ret h1)
    by_cases e : T ≤ f
    · rw [if_pos e] at er
      rw [if_neg (show ¬ f < T by omega), if_pos rfl, pX8_doSteal_56]
      exact S_bnd (fsh_of _ M er h h30 (Nat.le_add_right _ _)) (fun _ M2 h2 => S_ret h2)
    · rw [if_neg e] at er
      rw [if_pos (show f < T by omega), if_neg (by decide)]
      by_cases e2 : f = t
      · rw [if_pos e2] at er
        rw [if_pos (by rw [e2]), pX8_doSteal_56]
        exact S_bnd (fsh_of _ M er h h30 (Nat.le_add_right _ _)) (fun _ M2 h2 => S_ret h2)
      · rw [if_neg e2] at er
        rw [if_neg (fun q => e2 (nI_inj (by omega) (by omega) q)), m_of h (t := f) (by omega) 4 (x := 4) rfl (by omega), bnd_some]
        by_cases e4 : A.1 f 4 = 0
        · rw [if_pos e4] at er
          rw [if_pos (show ¬ A.1 f 4 = 1 by rw [e4]; decide), pX8_doSteal_56]
          exact S_bnd (fsh_of _ M er h h30 (Nat.le_add_right _ _)) (fun _ M2 h2 => S_ret h2)
        · rw [if_neg e4] at er
          have q4 : A.1 f 4 = 1 := by rcases hI.p4 f (by omega) with z | z; exact absurd z e4; exact z
          rw [if_neg (not_not_intro q4)]
          refine S_bnd (m_put h (t := f) (by omega) 4 (x := 4) rfl (by omega) (by omega) 0) (fun _ M1 h1 => ?_)
          refine S_bnd (m_put h1 ht 4 (x := 4) rfl (by omega) (by omega) 1) (fun _ M2 h2 => ?_)
          rw [chk_h ib_10, chk_h ib_10, cl_10, show M2.1 20 0 0 10 = _ from h2.gl 10 rfl]
          refine S_w (h2.putg (b := 10) rfl (by omega) _) (fun M3 h3 => ?_)
          refine S_bnd (m_note h3 (by show A.2.1.length < LIM; omega) 8 (nI t) (nI f)) (fun _ M4 h4 => ?_)
          rw [pX8_doSteal_56]
          exact S_bnd (fsh_of _ M4 er h4 (by rw [note_1, inc_e, if_neg (by omega), up_b (by omega), up_b (by omega)]; exact h30) (by show A.2.1.length + 1 ≤ _; omega)) (fun _ M2 h2 => S_ret h2)
  · obtain ⟨f, hf, rfl⟩ := num 5 hlm.2
    rw [if_neg (show ¬ nI 9 = 0 by decide), if_neg (show ¬ nI 9 = 1 by decide), if_neg (show ¬ nI 9 = 2 by decide), if_neg (show ¬ nI 9 = 3 by decide), if_neg (show ¬ nI 9 = 4 by decide), if_neg (show ¬ nI 9 = 5 by decide), if_neg (show ¬ nI 9 = 6 by decide), if_neg (show ¬ nI 9 = 7 by decide), if_neg (show ¬ nI 9 = 8 by decide), if_pos (show nI 9 = 9 from rfl)]
    have er := pfm_9 (T := T) (A := A) (t := t) (f := f) (by omega)
    refine S_bnd (m_lock h hI ht (by omega) h30 b1 b2 hqz hz (by omega)) (fun _ M1 h1 => S_ret ?_)
    by_cases e : A.1 11 f = -1
    · rw [if_pos e] at h1
      rw [decide_eq_true e] at er
      rw [pfA_t (ep.trans er) rfl]
      exact h1
    · rw [if_neg e] at h1
      rw [decide_eq_false e] at er
      rw [pfA_f (ep.trans er) (fun q => Bool.false_ne_true q)]
      exact h1
  · obtain ⟨f, hf, rfl⟩ := num 5 hlm.2
    have ead : (14 : Int32) + nI f = nI (14 + f) := nI_add 14 f
    rw [if_neg (show ¬ nI 10 = 0 by decide), if_neg (show ¬ nI 10 = 1 by decide), if_neg (show ¬ nI 10 = 2 by decide), if_neg (show ¬ nI 10 = 3 by decide), if_neg (show ¬ nI 10 = 4 by decide), if_neg (show ¬ nI 10 = 5 by decide), if_neg (show ¬ nI 10 = 6 by decide), if_neg (show ¬ nI 10 = 7 by decide), if_neg (show ¬ nI 10 = 8 by decide), if_neg (show ¬ nI 10 = 9 by decide), pX8_doUnlock, ead, chk_h (inB_nI (by omega) (by omega)), cl (by omega), h.ho (by omega)]
    have er := pfm_10 (T := T) (A := A) (t := t) (f := f) (by omega)
    refine S_bnd (P := fun _ M' => D M0 T (pfA T A t) [] M') ?_ (fun _ M1 h1 => S_ret h1)
    by_cases e : A.1 11 f = nI t
    · rw [if_pos e] at er
      rw [if_pos e, pfA_t (ep.trans er) rfl]
      rw [er] at hP
      obtain ⟨m1, m2, m3, m4⟩ := hP.2.2.2.2.1 rfl
      have h3' : ¬ A.1 t 3 = 2 := by rw [h30]; decide
      have hS : SI T A [] := ⟨hI, fun u hu => (nomatch hu), by have := cnt_n (fun u => decide (A.1 u 3 = 2)) T; unfold bl; simp only [List.length_nil]; omega⟩
      obtain ⟨g1, g2, g3, g4, g5, g6, g7, g8⟩ := gv_gen hS (by omega) e ht
      obtain ⟨i1, i2, i3, i4, i5, i6, i7⟩ := stl_ok 64 _ _ g1 (by have := si_mes g1; omega)
      refine S_bnd (m_giveUp h hI (by omega) e ht (fun v hv => (nomatch hv)) (fun _ _ => by decide) (by omega)) (fun _ M1 h1 => ?_)
      refine S_bnd (m_settle h1 g1 (by omega)) (fun _ M2 h2 => ?_)
      have h2 : D M0 T (fin T (gv1 T A t f) (gvk T A t f [])) [] M2 := h2
      refine S_bnd (m_finish h2 m3 ht ?_ (by unfold fin; omega)) (fun _ M3 h3 => S_ret h3)
      unfold fin
      rw [i6 t 3 (by omega) (by rw [g7 t 3 (by omega) h3']; exact h3'), g7 t 3 (by omega) h3']
      exact h30
    · rw [if_neg e] at er
      rw [if_neg e, pfA_f (ep.trans er) (fun q => Bool.false_ne_true q)]
      exact S_bnd (m_fault h ht (by omega)) (fun _ M1 h1 => S_ret h1)
end MTICK
