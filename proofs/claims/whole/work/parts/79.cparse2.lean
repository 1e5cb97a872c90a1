/-! ===== the class reads threads, statements, texts ===== -/
section CPARSE2
variable {n : Nat} {b : Nat → Nat} {T : Nat} {A : AS} {p : Nat} {M M' M0 M1 M2 M3 : Mem}
theorem spN_ok {lo hi v : Nat} (h : spN n b lo hi p = .ok v) : lo ≤ v ∧ v ≤ hi := by
  unfold spN at h
  split at h
  · split at h
    · rename_i q
      cases h
      exact q
    · cases h
  · cases h
theorem spSym_ok {c p' : Nat} (h : spSym n b c p = .ok p') : p' = nxt n b p := by
  unfold spSym at h
  split at h
  · cases h; rfl
  · cases h
theorem spInst_ok {t z : Nat} {x : AS × Nat} (hp : p ≤ n) (h1 : A.1 t 1 = nI z) (hz : z ≤ 16) (h : spInst n b A t p = .ok x) : z < 16 ∧ x.2 ≤ n ∧ ∃ c v, okc c v ∧ x.1 = stA A t z c v := by
  have ez : (A.1 t 1).toNatClampNeg = z := by rw [h1, cl (by omega)]
  unfold spInst at h
  cases hc : codeF n b p 11 0 with
  | none => rw [hc] at h; cases h
  | some c =>
    rw [hc] at h
    have hc11 := codeF_lt 11 0 c hc
    obtain ⟨m1, m2, m3, m4⟩ := lm_ok (show c < 11 by omega)
    dsimp only at h
    rw [ez] at h
    by_cases e16 : 16 ≤ z
    · rw [if_pos e16] at h; cases h
    · rw [if_neg e16] at h
      by_cases e1 : c = 1
      · rw [if_pos e1] at h
        cases h
        refine ⟨by omega, (nxt_le hp).2.1, nI c, 0, ⟨c, by omega, rfl, ?_, ?_⟩, rfl⟩
        · rw [e1]; decide
        · rw [e1]; decide
      · rw [if_neg e1] at h
        cases hr : spN n b (xLeast.getD c 0).toNatClampNeg (xMost.getD c 0).toNatClampNeg (nxt n b p) with
        | error q => rw [hr] at h; cases h
        | ok v =>
          rw [hr] at h
          cases h
          obtain ⟨v1, v2⟩ := spN_ok hr
          refine ⟨by omega, (nxt_le (nxt_le hp).2.1).2.1, nI c, nI v, ⟨c, by omega, rfl, ?_, ?_⟩, rfl⟩
          · rw [← m1]; exact nI_le v1 (by omega)
          · rw [← m2]; exact nI_le v2 (by omega)
theorem stA_1 {t z : Nat} {c x : Int32} (ht : t < 10) : (stA A t z c x).1 t 1 = nI (z + 1) := by rw [stA_e ht, if_pos ⟨rfl, rfl⟩]
theorem c_lpS (hT : Txt M0 n b) {t : Nat} (ht : t < T) (hT10 : T ≤ 10) : ∀ (m f j : Nat) (A : AS) (p : Nat) (M : Mem), j + m = 17 → m < f → j + 1 ≤ 16 → A.1 t 1 = nI (j + 1) → p ≤ n → Q7 M0 n b T A p M → Sat (pX5_readThread_59 1 f 1 t 1 (nI j) M) (R7 M0 (fun x M' => Q7 M0 n b T x.1 x.2 M') (spLp n b t m A p)) := by
  intro m
  induction m with
  | zero => intro f j A p M hj _ h16; omega
  | succ m ih =>
    intro f j A p M hj hf h16 h1 hp h
    obtain ⟨f, rfl⟩ : ∃ f', f = f' + 1 := ⟨f - 1, by omega⟩
    have hk := Kd_lt hT p
    rw [pX5_readThread_59, if_neg (show ¬ (16 : Int32) < nI j from nI_nlt (a := 16) (by omega) (by omega)), if_neg (show ¬ (1 : Int32) = 0 by decide), h.2.2.1.1, chk_h b01_1, spLp]
    by_cases e : Kd n b p = 44
    · rw [if_neg (not_not_intro (show nI (Kd n b p) = 44 from congrArg nI e)), if_pos e, nI_1]
      refine S_bnd (c_rd h hT hp) (fun _ M1 h2 => ?_)
      refine S_bnd (c_instS h2 hT (nxt_le hp).2.1 ht h1 h16) (fun o M2 h3 => ?_)
      cases hr : spInst n b A t (nxt n b p) with
      | error q =>
        rw [hr] at h3
        obtain ⟨rfl, h3⟩ := h3
        obtain ⟨f, rfl⟩ : ∃ f', f = f' + 1 := ⟨f - 1, by omega⟩
        rw [pX5_readThread_59, if_pos rfl, chk_h b01_0]
        split
        · exact S_ret ⟨rfl, h3⟩
        · exact S_ret ⟨rfl, h3⟩
      | ok x =>
        rw [hr] at h3
        obtain ⟨rfl, h3⟩ := h3
        obtain ⟨z1, z2, c, v, z3, z4⟩ := spInst_ok (nxt_le hp).2.1 h1 h16 hr
        exact ih f (j + 1) x.1 x.2 M2 (by omega) (by omega) (by omega) (by rw [z4]; exact stA_1 (by omega)) z2 h3
    · rw [if_pos (show ¬ nI (Kd n b p) = 44 from fun z => e (nI_inj (by omega) (b := 44) (by omega) z)), if_neg e]
      exact S_ret ⟨rfl, h⟩
theorem c_thrS (h : Q7 M0 n b T A p M) (hT : Txt M0 n b) (hp : p ≤ n) : Sat (pX5_readThread 1 M) (R7 M0 (fun x M' => Q7 M0 n b x.1 x.2.1 x.2.2 M') (spThr n b T A p)) := by
  have hT10 := h.1.T10
  rw [pX5_readThread, pX3_isFull, h.1.cnt4]
  unfold spThr
  by_cases e : 10 ≤ T
  · rw [if_neg (show ¬ nI T < (10 : Int32) from nI_nlt (a := T) (b := 10) e (by omega)), chk_h b01_1, bnd_some, if_neg (show ¬ (1 : Int32) = 0 by decide), if_pos e]
    refine S_bnd (c_rf h 3) (fun o M3 h3 => ?_)
    obtain ⟨rfl, h3⟩ := h3
    rw [chk_h b01_0]
    exact S_ret ⟨rfl, h3⟩
  · rw [if_pos (show nI T < (10 : Int32) from nI_lt (b := 10) (by omega) (by omega)), chk_h b01_0, bnd_some, if_pos rfl, if_neg e]
    refine S_bnd (c_rd h hT hp) (fun _ M1 h1 => ?_)
    rw [nm_def]
    refine S_bnd (c_num7 h1 hT (nxt_le hp).2.1 (lo := 1) (hi := 9) rfl rfl (by omega) (by omega)) (fun o M2 h2 => ?_)
    cases hr : spN n b 1 9 (nxt n b p) with
    | error q =>
      rw [hr] at h2
      obtain ⟨rfl, h2⟩ := h2
      rw [if_pos rfl, chk_h b01_0]
      exact S_ret ⟨rfl, h2⟩
    | ok v =>
      rw [hr] at h2
      obtain ⟨rfl, v1, -, -, h2⟩ := h2
      rw [if_neg (show ¬ (1 : Int32) = 0 by decide), v1]
      have hp2 := (nxt_le (b := b) (nxt_le (b := b) hp).2.1).2.1
      refine S_bnd (c_sym h2 hT hp2 (c := 58) (by omega)) (fun o M3 h3 => ?_)
      dsimp only
      cases hr2 : spSym n b 58 (nxt n b (nxt n b p)) with
      | error q =>
        rw [hr2] at h3
        obtain ⟨rfl, h3⟩ := h3
        rw [if_neg (not_not_intro rfl), chk_h b01_0]
        exact S_ret ⟨rfl, h3⟩
      | ok p3 =>
        rw [hr2] at h3
        obtain ⟨rfl, h3⟩ := h3
        have ep3 := spSym_ok hr2
        have hp3 : p3 ≤ n := by rw [ep3]; exact (nxt_le hp2).2.1
        rw [if_pos (show ¬ (1 : Int32) = 0 by decide)]
        refine S_bnd (c_newThread h3.1 (by omega) (nI v)) (fun o M4 h4 => ?_)
        obtain ⟨rfl, h4⟩ := h4
        rw [chk_h (decide_eq_true ⟨rfl, by omega⟩)]
        have z0 : (nwA T A (nI v)).1 T 1 = nI 0 := nwA_s
        refine S_bnd (c_instS (h3.fk h4) hT hp3 (t := T) (by omega) z0 (by omega)) (fun o M5 h5 => ?_)
        dsimp only
        cases hr3 : spInst n b (nwA T A (nI v)) T p3 with
        | error q =>
          rw [hr3] at h5
          obtain ⟨rfl, h5⟩ := h5
          show Sat (pX5_readThread_59 1 (4095 + 1) 1 T 0 0 M5) _
          rw [pX5_readThread_59, if_neg (show ¬ (16 : Int32) < 0 by decide), if_pos rfl, chk_h b01_0]
          exact S_ret ⟨rfl, h5⟩
        | ok x =>
          rw [hr3] at h5
          obtain ⟨rfl, h5⟩ := h5
          obtain ⟨z1, z2, c, w, z3, z4⟩ := spInst_ok hp3 z0 (by omega) hr3
          have q := c_lpS hT (t := T) (T := T + 1) (by omega) (by omega) 17 fu 0 x.1 x.2 M5 (by omega) (by decide) (by omega) (by rw [z4]; exact stA_1 (by omega)) z2 h5
          refine S_mono q (fun o M6 h6 => ?_)
          dsimp only
          cases hr4 : spLp n b T 17 x.1 x.2 with
          | error q => rw [hr4] at h6; exact h6
          | ok y => rw [hr4] at h6; exact h6
def U7 (M0 : Mem) (n : Nat) (b : Nat → Nat) (r : Except PE PS) (M : Mem) : Prop := match r with
  | .ok x => Q7 M0 n b x.1 x.2.1 x.2.2 M
  | .error q => F7 M0 q.1 q.2 M
theorem spB_le {x : PS} (hp : p ≤ n) (h : spBody n b T A p = .ok x) : x.2.2 ≤ n := by
  have n1 := (nxt_le (b := b) hp).2.1
  have n2 := (nxt_le (b := b) n1).2.1
  have n3 := (nxt_le (b := b) n2).2.1
  unfold spBody at h
  split at h
  · unfold spThr at h
    split at h
    · cases h
    · cases h1 : spN n b 1 9 (nxt n b p) with
      | error q => rw [h1] at h; cases h
      | ok v =>
        rw [h1] at h
        dsimp only at h
        cases h2 : spSym n b 58 (nxt n b (nxt n b p)) with
        | error q => rw [h2] at h; cases h
        | ok p3 =>
          rw [h2] at h
          dsimp only at h
          have ep3 := spSym_ok h2
          cases h3 : spInst n b (nwA T A (nI v)) T p3 with
          | error q => rw [h3] at h; cases h
          | ok y =>
            rw [h3] at h
            dsimp only at h
            have z0 : (nwA T A (nI v)).1 T 1 = nI 0 := nwA_s
            have y2 := (spInst_ok (by rw [ep3]; exact n3) z0 (by omega) h3).2.1
            cases h4 : spLp n b T 17 y.1 y.2 with
            | error q => rw [h4] at h; cases h
            | ok w =>
              rw [h4] at h
              cases h
              have lp : ∀ (m : Nat) (A : AS) (p : Nat) (w : AS × Nat), p ≤ n → spLp n b T m A p = .ok w → (∀ t p x, p ≤ n → spInst n b A t p = .ok x → True) → w.2 ≤ n := by
                intro m
                induction m with
                | zero => intro A p w hp h _; cases h; exact hp
                | succ m ih =>
                  intro A p w hp h _
                  rw [spLp] at h
                  split at h
                  · cases h5 : spInst n b A T (nxt n b p) with
                    | error q => rw [h5] at h; cases h
                    | ok x =>
                      rw [h5] at h
                      refine ih x.1 x.2 w ?_ h (fun _ _ _ _ _ => trivial)
                      have hn := (nxt_le (b := b) hp).2.1
                      have hn2 := (nxt_le (b := b) hn).2.1
                      have hn3 := (nxt_le (b := b) hn2).2.1
                      unfold spInst at h5
                      split at h5
                      · cases h5
                      · split at h5
                        · cases h5
                        · split at h5
                          · cases h5; exact hn2
                          · split at h5
                            · cases h5
                            · cases h5; exact hn3
                  · cases h; exact hp
              exact lp 17 y.1 y.2 w y2 h4 (fun _ _ _ _ _ => trivial)
  · split at h
    · unfold spFlag at h
      split at h
      · cases h
      · split at h
        · cases h
        · cases h; exact n2
    · split at h
      · unfold spSet at h
        split at h
        · cases h
        · split at h
          · cases h
          · cases h; exact n3
      · split at h
        · unfold spSeed at h
          split at h
          · cases h
          · cases h; exact n2
        · cases h
theorem c_stmS (h : Q7 M0 n b T A p M) (hT : Txt M0 n b) (hp : p ≤ n) : Sat (pX5_readStatement 1 M) (fun _ M' => U7 M0 n b (spStm n b T A p) M') := by
  have hTM := hT.gf h.2.1
  have w : ∀ e, e < 14 → pX5_isWord e M = some ((if isW n b p e = true then 1 else 0), M) := fun e he => c_word hp he hTM h.2.2.1
  have tail : ∀ (o : Int32) (M1 : Mem), R7 M0 (fun x M' => Q7 M0 n b x.1 x.2.1 x.2.2 M') (spBody n b T A p) o M1 → Sat (pX5_readStatement_78 1 o M1) (fun _ M' => U7 M0 n b (spStm n b T A p) M') := fun o M1 h1 => by
    rw [pX5_readStatement_78]
    unfold spStm
    cases hr : spBody n b T A p with
    | error q =>
      rw [hr] at h1
      obtain ⟨rfl, h1⟩ := h1
      rw [if_pos rfl]
      exact S_ret h1
    | ok x =>
      rw [hr] at h1
      obtain ⟨rfl, h1⟩ := h1
      rw [if_neg (show ¬ (1 : Int32) = 0 by decide)]
      refine S_bnd (c_sym h1 hT (spB_le hp hr) (c := 59) (by omega)) (fun o M2 h2 => ?_)
      dsimp only
      cases hr2 : spSym n b 59 x.2.2 with
      | error q => rw [hr2] at h2; exact S_ret h2.2
      | ok p' => rw [hr2] at h2; exact S_ret h2.2
  rw [pX5_readStatement, w 11 (by omega), bnd_some]
  unfold spBody at tail
  by_cases e1 : isW n b p 11 = true
  · rw [if_pos e1] at tail ⊢
    rw [if_neg (show ¬ (1 : Int32) = 0 by decide)]
    exact S_bnd (c_thrS h hT hp) (fun o M1 h1 => tail o M1 h1)
  · rw [if_neg e1] at tail ⊢
    rw [if_pos rfl, w 12 (by omega), bnd_some]
    by_cases e2 : isW n b p 12 = true
    · rw [if_pos e2] at tail ⊢
      rw [if_neg (show ¬ (1 : Int32) = 0 by decide)]
      exact S_bnd (c_flagS h hT hp) (fun o M1 h1 => tail o M1 h1)
    · rw [if_neg e2] at tail ⊢
      rw [if_pos rfl, w 4 (by omega), bnd_some]
      by_cases e3 : isW n b p 4 = true
      · rw [if_pos e3] at tail ⊢
        rw [if_neg (show ¬ (1 : Int32) = 0 by decide)]
        exact S_bnd (c_setS h hT hp) (fun o M1 h1 => tail o M1 h1)
      · rw [if_neg e3] at tail ⊢
        rw [if_pos rfl, w 13 (by omega), bnd_some]
        by_cases e4 : isW n b p 13 = true
        · rw [if_pos e4] at tail ⊢
          rw [if_neg (show ¬ (1 : Int32) = 0 by decide)]
          exact S_bnd (c_seedS h hT hp) (fun o M1 h1 => tail o M1 h1)
        · rw [if_neg e4] at tail ⊢
          rw [if_pos rfl]
          exact S_bnd (c_rf h 1) (fun o M1 h1 => tail o M1 h1)
end CPARSE2
