/-! ===== the reference reads instructions, threads, statements; what statements keep ===== -/
section MPARSE2
variable {n : Nat} {b : Nat → Nat} {T : Nat} {A : AS} {p : Nat} {M M' M0 M1 M2 M3 : Mem}
theorem Tb.hf (h : Tb M0) (hF : Hf M0 M) : Tb M := fun c hc => by rw [hF.2 _ _ _ _ (by omega) (by omega) (by omega) (by omega), hF.2 _ _ _ _ (by omega) (by omega) (by omega) (by omega)]; exact h c hc
theorem m_code (w : ∀ e, e < 14 → pX8_isWord e M = some ((if isW n b p e = true then 1 else 0), M)) : pX8_codeHere M = some (onI (codeF n b p 11 0), M) := by
  rw [pX8_codeHere, w 0 (by omega), bnd_some, codeF]
  by_cases e0 : isW n b p 0 = true
  · rw [if_pos e0, if_pos e0, if_neg (show ¬ (1 : Int32) = 0 by decide)]; rfl
  rw [if_neg e0, if_neg e0, if_pos rfl, w 1 (by omega), bnd_some, codeF]
  by_cases e1 : isW n b p 1 = true
  · rw [if_pos e1, if_pos e1, if_neg (show ¬ (1 : Int32) = 0 by decide)]; rfl
  rw [if_neg e1, if_neg e1, if_pos rfl, w 2 (by omega), bnd_some, codeF]
  by_cases e2 : isW n b p 2 = true
  · rw [if_pos e2, if_pos e2, if_neg (show ¬ (1 : Int32) = 0 by decide)]; rfl
  rw [if_neg e2, if_neg e2, if_pos rfl, w 3 (by omega), bnd_some, codeF]
  by_cases e3 : isW n b p 3 = true
  · rw [if_pos e3, if_pos e3, if_neg (show ¬ (1 : Int32) = 0 by decide)]; rfl
  rw [if_neg e3, if_neg e3, if_pos rfl, w 4 (by omega), bnd_some, codeF]
  by_cases e4 : isW n b p 4 = true
  · rw [if_pos e4, if_pos e4, if_neg (show ¬ (1 : Int32) = 0 by decide)]; rfl
  rw [if_neg e4, if_neg e4, if_pos rfl, w 5 (by omega), bnd_some, codeF]
  by_cases e5 : isW n b p 5 = true
  · rw [if_pos e5, if_pos e5, if_neg (show ¬ (1 : Int32) = 0 by decide)]; rfl
  rw [if_neg e5, if_neg e5, if_pos rfl, pX8_laterCodeHere, w 6 (by omega), bnd_some, codeF]
  by_cases e6 : isW n b p 6 = true
  · rw [if_pos e6, if_pos e6, if_neg (show ¬ (1 : Int32) = 0 by decide)]; rfl
  rw [if_neg e6, if_neg e6, if_pos rfl, w 7 (by omega), bnd_some, codeF]
  by_cases e7 : isW n b p 7 = true
  · rw [if_pos e7, if_pos e7, if_neg (show ¬ (1 : Int32) = 0 by decide)]; rfl
  rw [if_neg e7, if_neg e7, if_pos rfl, w 8 (by omega), bnd_some, codeF]
  by_cases e8 : isW n b p 8 = true
  · rw [if_pos e8, if_pos e8, if_neg (show ¬ (1 : Int32) = 0 by decide)]; rfl
  rw [if_neg e8, if_neg e8, if_pos rfl, w 9 (by omega), bnd_some, codeF]
  by_cases e9 : isW n b p 9 = true
  · rw [if_pos e9, if_pos e9, if_neg (show ¬ (1 : Int32) = 0 by decide)]; rfl
  rw [if_neg e9, if_neg e9, if_pos rfl, w 10 (by omega), bnd_some, codeF]
  by_cases e10 : isW n b p 10 = true
  · rw [if_pos e10, if_pos e10, if_neg (show ¬ (1 : Int32) = 0 by decide)]; rfl
  rw [if_neg e10, if_neg e10, if_pos rfl]
  rfl
theorem z_37 (h : ¬ M.1 19 0 0 15 = 0) (v1 v2 s0 : Int32) : pX8_parseInstruction_37 v1 v2 s0 M = some ((), M) := by
  rw [pX8_parseInstruction_37, z_req h, bnd_some, z_adv h, bnd_some, z_fine h, bnd_some, if_pos rfl, pX8_parseInstruction_76, z_fine h, bnd_some, if_pos rfl]
theorem m_instS (h : Q8 M0 n b T A p M) (hT : TxM M0 n b) (hTb : Tb M0) (hp : p ≤ n) {t z : Nat} (ht : t < T) (h1 : A.1 t 1 = nI z) (hz : z ≤ 16) : Sat (pX8_parseInstruction (nI t) M) (fun _ M' => R8 M0 (fun x M' => Q8 M0 n b T x.1 x.2 M') (spInst n b A t p) M') := by
  have hT10 := h.1.T10
  have hb : ∀ i, i < n → b i < 256 := fun i hi => (hT.2.2 i hi).1
  have ez : (A.1 t 1).toNatClampNeg = z := by rw [h1, cl (by omega)]
  rw [pX8_parseInstruction, m_code (fun e he => m_word hp hT.1 hb he h.2.2.1), bnd_some]
  unfold spInst
  cases hc : codeF n b p 11 0 with
  | none =>
    rw [onI_none, if_pos rfl, pX8_parseInstruction_16]
    refine S_bnd (m_rq h hT hp (e := 1) (by omega) (by omega)) (fun _ M1 h2 => ?_)
    rw [m_ofr (f := 1) (x := 1) rfl (by omega) (by omega), bnd_some]
    split
    · rw [z_37 h2.2.1]; exact S_ret h2
    · rw [z_37 h2.2.1]; exact S_ret h2
  | some c =>
    have hc11 := codeF_lt 11 0 c hc
    obtain ⟨m1, m2, m3, m4⟩ := lm_ok (show c < 11 by omega)
    dsimp only
    rw [onI_some, if_neg (m1_ne (by omega)), pX8_parseInstruction_16, g_req 1 1 (by decide), bnd_some, m_of h.1 ht 1 (x := 1) rfl (by omega), bnd_some, h1, cl (by omega)]
    by_cases e16 : 16 ≤ z
    · rw [if_pos (show (16 : Int32) ≤ nI z from nI_le (a := 16) e16 (by omega)), if_pos e16, pX8_parseInstruction_37]
      refine S_bnd (m_rq h hT hp (e := 3) (by omega) (by omega)) (fun _ M1 h2 => ?_)
      rw [z_adv h2.2.1, bnd_some, z_fine h2.2.1, bnd_some, if_pos rfl, pX8_parseInstruction_76, z_fine h2.2.1, bnd_some, if_pos rfl]
      exact S_ret h2
    · rw [if_neg (show ¬ (16 : Int32) ≤ nI z from nI_ge (b := 16) (by omega) (by omega)), if_neg e16, pX8_parseInstruction_37, g_req 1 3 (by decide), bnd_some]
      refine S_bnd (m_rd h hT hp) (fun _ M1 h2 => ?_)
      have go : ∀ {p' : Nat} {M2 : Mem} (x : Int32), Q8 M0 n b T A p' M2 → Sat (pX8_parseInstruction_76 (nI t) (nI c) x M2) (fun _ M' => Q8 M0 n b T (stA A t z (nI c) x) p' M') := fun {p'} {M2} x h3 => by
        rw [pX8_parseInstruction_76, g_fine h3.2.2.2.1, bnd_some, if_neg (show ¬ (1 : Int32) = 0 by decide)]
        exact S_bnd (m_addStep h3.1 ht h1 (by omega) (nI c) x) (fun _ M4 h4 => S_ret (h3.fm h4))
      rw [g_fine h2.2.2.2.1, bnd_some, if_neg (show ¬ (1 : Int32) = 0 by decide)]
      by_cases e1 : c = 1
      · rw [if_pos (show nI c = 1 from congrArg nI e1), if_pos e1]
        exact go 0 h2
      · obtain ⟨t1, t2⟩ := (hTb.hf h2.2.1) c (by omega)
        rw [if_neg (show ¬ nI c = 1 from fun q => e1 (nI_inj (by omega) (b := 1) (by omega) q)), if_neg e1, chk_h (inB_nI (by omega) (by omega)), chk_h (inB_nI (by omega) (by omega)), cl (by omega), t1, t2]
        refine S_bnd (m_numS h2 hT (nxt_le hp).2.1 m1 m2 (by omega) (by omega)) (fun o M2 h3 => ?_)
        cases hr : spN n b (xLeast.getD c 0).toNatClampNeg (xMost.getD c 0).toNatClampNeg (nxt n b p) with
        | error q =>
          rw [hr] at h3
          rw [pX8_parseInstruction_76, z_fine h3.2.1, bnd_some, if_pos rfl]
          exact S_ret h3
        | ok v =>
          rw [hr] at h3
          obtain ⟨rfl, h3⟩ := h3
          exact go (nI v) h3
theorem m_lpS (hT : TxM M0 n b) (hTb : Tb M0) {t : Nat} (ht : t < T) (hT10 : T ≤ 10) : ∀ (m f j : Nat) (A : AS) (p : Nat) (M : Mem), j + m = 17 → m < f → j + 1 ≤ 16 → A.1 t 1 = nI (j + 1) → p ≤ n → Q8 M0 n b T A p M → Sat (pX8_parseThread_58 f (nI t) M) (fun _ M' => R8 M0 (fun x M' => Q8 M0 n b T x.1 x.2 M') (spLp n b t m A p) M') := by
  intro m
  induction m with
  | zero => intro f j A p M hj _ h16; omega
  | succ m ih =>
    intro f j A p M hj hf h16 h1 hp h
    obtain ⟨f, rfl⟩ : ∃ f', f = f' + 1 := ⟨f - 1, by omega⟩
    have e44 : pX8_isSymbol (44 : Int32) M = some ((if Kd n b p = 44 then 1 else 0), M) := m_symS h hT hp (c := 44) (by omega)
    rw [pX8_parseThread_58, g_fine h.2.2.2.1, bnd_some, if_neg (show ¬ (1 : Int32) = 0 by decide), e44, bnd_some, spLp]
    by_cases e : Kd n b p = 44
    · rw [if_pos e, if_pos e, if_neg (show ¬ (1 : Int32) = 0 by decide)]
      refine S_bnd (m_rd h hT hp) (fun _ M1 h2 => ?_)
      refine S_bnd (m_instS h2 hT hTb (nxt_le hp).2.1 ht h1 h16) (fun _ M2 h3 => ?_)
      cases hr : spInst n b A t (nxt n b p) with
      | error q =>
        rw [hr] at h3
        obtain ⟨f, rfl⟩ : ∃ f', f = f' + 1 := ⟨f - 1, by omega⟩
        rw [pX8_parseThread_58, z_fine h3.2.1, bnd_some, if_pos rfl]
        exact S_ret h3
      | ok x =>
        rw [hr] at h3
        obtain ⟨z1, z2, c, v, z3, z4⟩ := spInst_ok (nxt_le hp).2.1 h1 h16 hr
        exact ih f (j + 1) x.1 x.2 M2 (by omega) (by omega) (by omega) (by rw [z4]; exact stA_1 (by omega)) z2 h3
    · rw [if_neg e, if_neg e, if_pos rfl]
      exact S_ret h
theorem m_thrS (h : Q8 M0 n b T A p M) (hT : TxM M0 n b) (hTb : Tb M0) (hp : p ≤ n) (hI : Inv T 10 A) : Sat (pX8_parseThread M) (fun _ M' => R8 M0 (fun x M' => Q8 M0 n b x.1 x.2.1 x.2.2 M') (spThr n b T A p) M') := by
  have hT10 := h.1.T10
  rw [pX8_parseThread, chk_h ib_2, cl_2, h.1.cnt2]
  unfold spThr
  by_cases e : 10 ≤ T
  · rw [if_pos (show (10 : Int32) ≤ nI T from nI_le (a := 10) e (by omega)), if_pos e, pX8_parseThread_17]
    refine S_bnd (m_rq h hT hp (e := 3) (by omega) (by omega)) (fun _ M1 h2 => ?_)
    rw [z_adv h2.2.1, bnd_some, z_num h2.2.1, bnd_some, z_sym h2.2.1 h2.2.2.2.2.1, bnd_some, z_fine h2.2.1, bnd_some, if_neg (not_not_intro rfl)]
    exact S_ret h2
  · rw [if_neg (show ¬ (10 : Int32) ≤ nI T from nI_ge (b := 10) (by omega) (by omega)), if_neg e, pX8_parseThread_17, g_req 1 3 (by decide), bnd_some]
    refine S_bnd (m_rd h hT hp) (fun _ M1 h1 => ?_)
    refine S_bnd (m_numS h1 hT (nxt_le hp).2.1 (lo := 1) (hi := 9) rfl rfl (by omega) (by omega)) (fun o M2 h2 => ?_)
    have hp2 := (nxt_le (b := b) (nxt_le (b := b) hp).2.1).2.1
    cases hr : spN n b 1 9 (nxt n b p) with
    | error q =>
      rw [hr] at h2
      rw [z_sym h2.2.1 h2.2.2.2.2.1, bnd_some, z_fine h2.2.1, bnd_some, if_neg (not_not_intro rfl)]
      exact S_ret h2
    | ok v =>
      rw [hr] at h2
      obtain ⟨rfl, h2⟩ := h2
      refine S_bnd (m_symP h2 hT hp2 (c := 58) (by omega)) (fun _ M3 h3 => ?_)
      dsimp only
      cases hr2 : spSym n b 58 (nxt n b (nxt n b p)) with
      | error q =>
        rw [hr2] at h3
        rw [z_fine h3.2.1, bnd_some, if_neg (not_not_intro rfl)]
        exact S_ret h3
      | ok p3 =>
        rw [hr2] at h3
        have ep3 := spSym_ok hr2
        have hp3 : p3 ≤ n := by rw [ep3]; exact (nxt_le hp2).2.1
        have h3' : Q8 M0 n b T A p3 M3 := h3
        rw [g_fine h3'.2.2.2.1, bnd_some, if_pos (show ¬ (1 : Int32) = 0 by decide)]
        refine S_bnd (m_newThread h3'.1 hI (by omega) (nI v)) (fun o M4 h4 => ?_)
        obtain ⟨rfl, h4⟩ := h4
        have z0 : (nwA T A (nI v)).1 T 1 = nI 0 := nwA_s
        refine S_bnd (m_instS (h3'.fm h4) hT hTb hp3 (t := T) (by omega) z0 (by omega)) (fun _ M5 h5 => ?_)
        dsimp only
        cases hr3 : spInst n b (nwA T A (nI v)) T p3 with
        | error q =>
          rw [hr3] at h5
          show Sat (pX8_parseThread_58 (4095 + 1) (nI T) M5) _
          rw [pX8_parseThread_58, z_fine h5.2.1, bnd_some, if_pos rfl]
          exact S_ret h5
        | ok x =>
          rw [hr3] at h5
          obtain ⟨z1, z2, c, w, z3, z4⟩ := spInst_ok hp3 z0 (by omega) hr3
          refine S_mono (m_lpS hT hTb (t := T) (T := T + 1) (by omega) (by omega) 17 fu 0 x.1 x.2 M5 (by omega) (by decide) (by omega) (by rw [z4]; exact stA_1 (by omega)) z2 h5) (fun _ M6 h6 => ?_)
          dsimp only
          cases hr4 : spLp n b T 17 x.1 x.2 with
          | error q => rw [hr4] at h6; exact h6
          | ok y => rw [hr4] at h6; exact h6
def U8 (M0 : Mem) (n : Nat) (b : Nat → Nat) (r : Except PE PS) (M : Mem) : Prop := match r with
  | .ok x => Q8 M0 n b x.1 x.2.1 x.2.2 M
  | .error q => F8 M0 q.1 q.2 M
theorem m_stmS (h : Q8 M0 n b T A p M) (hT : TxM M0 n b) (hTb : Tb M0) (hp : p ≤ n) (hI : Inv T 10 A) : Sat (pX8_parseStatement M) (fun _ M' => U8 M0 n b (spStm n b T A p) M') := by
  have hb : ∀ i, i < n → b i < 256 := fun i hi => (hT.2.2 i hi).1
  have w : ∀ e, e < 14 → pX8_isWord e M = some ((if isW n b p e = true then 1 else 0), M) := fun e he => m_word hp hT.1 hb he h.2.2.1
  have tail : ∀ (M1 : Mem), R8 M0 (fun x M' => Q8 M0 n b x.1 x.2.1 x.2.2 M') (spBody n b T A p) M1 → Sat (pX8_parseStatement_52 M1) (fun _ M' => U8 M0 n b (spStm n b T A p) M') := fun M1 h1 => by
    rw [pX8_parseStatement_52]
    unfold spStm
    cases hr : spBody n b T A p with
    | error q =>
      rw [hr] at h1
      rw [z_sym h1.2.1 h1.2.2.2.2.1, bnd_some]
      exact S_ret h1
    | ok x =>
      rw [hr] at h1
      have h1' : Q8 M0 n b x.1 x.2.1 x.2.2 M1 := h1
      refine S_bnd (m_symP h1' hT (spB_le hp hr) (c := 59) (by omega)) (fun _ M2 h2 => ?_)
      dsimp only
      cases hr2 : spSym n b 59 x.2.2 with
      | error q => rw [hr2] at h2; exact S_ret h2
      | ok p' => rw [hr2] at h2; exact S_ret h2
  rw [pX8_parseStatement, w 11 (by omega), bnd_some]
  unfold spBody at tail
  by_cases e1 : isW n b p 11 = true
  · rw [if_pos e1] at tail ⊢
    rw [if_neg (show ¬ (1 : Int32) = 0 by decide)]
    exact S_bnd (m_thrS h hT hTb hp hI) (fun _ M1 h1 => tail M1 h1)
  · rw [if_neg e1] at tail ⊢
    rw [if_pos rfl, w 12 (by omega), bnd_some]
    by_cases e2 : isW n b p 12 = true
    · rw [if_pos e2] at tail ⊢
      rw [if_neg (show ¬ (1 : Int32) = 0 by decide)]
      exact S_bnd (m_flagS h hT hp hI) (fun _ M1 h1 => tail M1 h1)
    · rw [if_neg e2] at tail ⊢
      rw [if_pos rfl, w 4 (by omega), bnd_some]
      by_cases e3 : isW n b p 4 = true
      · rw [if_pos e3] at tail ⊢
        rw [if_neg (show ¬ (1 : Int32) = 0 by decide)]
        exact S_bnd (m_setS h hT hp) (fun _ M1 h1 => tail M1 h1)
      · rw [if_neg e3] at tail ⊢
        rw [if_pos rfl]
        exact S_bnd (m_seedS h hT hp) (fun _ M1 h1 => tail M1 h1)
end MPARSE2
