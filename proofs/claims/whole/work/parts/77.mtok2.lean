/-! ===== the reference's tokens: a whole token, words; what is idle after an error ===== -/
section MTOK2
variable {n : Nat} {b : Nat → Nat} {M M' M0 M1 M2 M3 : Mem}
theorem m_tok {p : Nat} (hp : p ≤ n) (hT : TxM M n b) (h10 : M.1 19 0 0 10 = nI p) : Sat (pX8_nextToken M) (fun _ M' => Fr M M' ∧ Tm n b p M') := by
  have hn := hT.1
  have hb : ∀ i, i < n → b i < 256 := fun i hi => (hT.2.2 i hi).1
  have hs := sk_le (b := b) hp
  rw [pX8_nextToken]
  refine m_sk hb 800 fu p M hp (by omega) (by decide) hT h10 (fun M1 f1 h1 => ?_)
  have h1' : M1.1 19 0 0 10 = nI (sk n b p) := h1
  unfold mMain
  rw [h1', nm_def, nm_def, nm_def, nm_def]
  have hF : Fr M (wI (wW (wI (wI M1 19 0 0 11 (nI (sk n b p))) 19 0 0 13 0) 0) 19 0 0 14 0) := ((((f1.wI (by omega) (by omega)).wI (by omega) (by omega)).wW).wI (by omega) (by omega))
  have g10 : (wI (wW (wI (wI M1 19 0 0 11 (nI (sk n b p))) 19 0 0 13 0) 0) 19 0 0 14 0).1 19 0 0 10 = nI (sk n b p) := by
    rw [wI_j (by omega)]
    show (wI (wI M1 19 0 0 11 (nI (sk n b p))) 19 0 0 13 0).1 19 0 0 10 = _
    rw [wI_j (by omega), wI_j (by omega)]
    exact h1'
  have g11 : (wI (wW (wI (wI M1 19 0 0 11 (nI (sk n b p))) 19 0 0 13 0) 0) 19 0 0 14 0).1 19 0 0 11 = nI (sk n b p) := by
    rw [wI_j (by omega)]
    show (wI (wI M1 19 0 0 11 (nI (sk n b p))) 19 0 0 13 0).1 19 0 0 11 = _
    rw [wI_j (by omega), wI_s]
  have g13 : (wI (wW (wI (wI M1 19 0 0 11 (nI (sk n b p))) 19 0 0 13 0) 0) 19 0 0 14 0).1 19 0 0 13 = 0 := by
    rw [wI_j (by omega)]
    show (wI (wI M1 19 0 0 11 (nI (sk n b p))) 19 0 0 13 0).1 19 0 0 13 = _
    rw [wI_s]
  have g14 : (wI (wW (wI (wI M1 19 0 0 11 (nI (sk n b p))) 19 0 0 13 0) 0) 19 0 0 14 0).1 19 0 0 14 = 0 := wI_s
  have gw : (wI (wW (wI (wI M1 19 0 0 11 (nI (sk n b p))) 19 0 0 13 0) 0) 19 0 0 14 0).2.1 = lN 0 := rfl
  generalize hE : wI (wW (wI (wI M1 19 0 0 11 (nI (sk n b p))) 19 0 0 13 0) 0) 19 0 0 14 0 = E at *
  rw [g10, m_byte (hT.fr hF) hs.2, bnd_some]
  by_cases e : sk n b p < n
  · have hx := hb _ e
    have eb : bt8 n b (sk n b p) = nI (b (sk n b p)) := if_pos e
    have eK : Kd n b p = kdB (b (sk n b p)) := if_pos e
    rw [if_pos (show ¬ bt8 n b (sk n b p) = -1 by rw [eb]; exact m1_ne (by omega)), m_let, bnd_some]
    have r801 : ∀ P : Nat → Bool, P (b (sk n b p)) = true → rn n b P 801 (sk n b p) = rn n b P 800 (sk n b p + 1) := fun P hP => by
      show (if sk n b p < n then (if P (b (sk n b p)) = true then rn n b P 800 (sk n b p + 1) else sk n b p) else sk n b p) = _
      rw [if_pos e, if_pos hP]
    by_cases e1 : kdB (b (sk n b p)) = 1
    · have eN : nxt n b p = rn n b (fun x => decide (kdB x = 1)) 801 (sk n b p) := by
        unfold nxt
        rw [if_pos e, eK, e1, if_pos (Or.inl rfl), r801 _ (decide_eq_true e1)]
      rw [if_pos ((b8_l hb).mpr ⟨e, e1⟩), if_neg (show ¬ (1 : Int32) = 0 by decide), nm_def]
      have hF2 : Fr M (wI E 19 0 0 12 2) := hF.wI (by omega) (by omega)
      refine S_mono (m_let96 hb (s := sk n b p) 801 fu (sk n b p) _ (Nat.le_refl _) hs.2 (by omega) (by decide) (hT.fr hF2) (by rw [wI_j (by omega)]; exact g10) (by rw [wI_j (by omega), g13, Nat.sub_self]; rfl) ⟨0, gw, fun r => by rw [Nat.sub_self, Nat.zero_add]⟩) (fun _ M' h' => ?_)
      obtain ⟨q1, q2, q3, q4, q5, q6⟩ := h'
      rw [← eN] at q2 q5 q6
      refine ⟨hF2.trans q1, ?_, by rw [q3, wI_j (by omega)]; exact g11, q2, fun _ => ⟨q5, q6⟩, fun z => absurd z (by omega)⟩
      rw [q4, wI_s, eK, e1]
      rfl
    · rw [if_neg (fun q => e1 ((b8_l hb).mp q).2), if_pos rfl, m_dig, bnd_some]
      by_cases e2 : kdB (b (sk n b p)) = 2
      · have eN : nxt n b p = rn n b (fun x => decide (kdB x = 2)) 801 (sk n b p) := by
          unfold nxt
          rw [if_pos e, eK, e2, if_pos (Or.inr rfl), r801 _ (decide_eq_true e2)]
        rw [if_pos ((b8_d hb).mpr ⟨e, e2⟩), if_neg (show ¬ (1 : Int32) = 0 by decide), nm_def]
        have hF2 : Fr M (wI E 19 0 0 12 3) := hF.wI (by omega) (by omega)
        refine S_mono (m_dg187 hb (s := sk n b p) 801 fu (sk n b p) 0 _ (Nat.le_refl _) hs.2 (by omega) (by decide) (hT.fr hF2) (by rw [wI_j (by omega)]; exact g10) (by rw [wI_j (by omega)]; exact g14) (by omega) (fun _ _ => trivial) 0 (Or.inl ⟨rfl, by omega⟩)) (fun _ M' h' => ?_)
        obtain ⟨q1, q2, q3, q4, q5⟩ := h'
        rw [← eN] at q2 q5
        refine ⟨hF2.trans q1, ?_, by rw [q3, wI_j (by omega)]; exact g11, q2, fun z => absurd z (by omega), fun _ => q5⟩
        rw [q4, wI_s, eK, e2]
        rfl
      · have eN : nxt n b p = sk n b p + 1 := by
          unfold nxt
          rw [if_pos e, eK, if_neg (fun q => by omega)]
        have fin : ∀ k : Int32, k = nI (k8 (kdB (b (sk n b p)))) → Fr M (wI (wI E 19 0 0 12 k) 19 0 0 10 ((wI E 19 0 0 12 k).1 19 0 0 10 + 1)) ∧ Tm n b p (wI (wI E 19 0 0 12 k) 19 0 0 10 ((wI E 19 0 0 12 k).1 19 0 0 10 + 1)) := fun k hk => by
          refine ⟨(hF.wI (by omega) (by omega)).wI (by omega) (by omega), by rw [wI_j (by omega), wI_s, eK]; exact hk, by rw [wI_j (by omega), wI_j (by omega)]; exact g11, by rw [wI_s, wI_j (by omega), g10, nI_1, eN], fun z => absurd z (by omega), fun z => absurd z (by omega)⟩
        rw [if_neg (fun q => e2 ((b8_d hb).mp q).2), if_pos rfl]
        simp only [nm_def]
        have hk : kdB (b (sk n b p)) = if b (sk n b p) = 59 ∨ b (sk n b p) = 44 ∨ b (sk n b p) = 58 then b (sk n b p) else 3 := by
          unfold kdB at e1 e2 ⊢
          by_cases z1 : 97 ≤ b (sk n b p) ∧ b (sk n b p) ≤ 122
          · rw [if_pos z1] at e1; exact absurd rfl e1
          · rw [if_neg z1] at e2 ⊢
            by_cases z2 : 48 ≤ b (sk n b p) ∧ b (sk n b p) ≤ 57
            · rw [if_pos z2] at e2; exact absurd rfl e2
            · rw [if_neg z2]
        by_cases y1 : b (sk n b p) = 59
        · rw [if_pos (show bt8 n b (sk n b p) = 59 from (b8_c (c := 59) hb (by omega)).mpr ⟨e, y1⟩)]
          exact S_ret (fin 4 (by rw [hk, y1]; rfl))
        · rw [if_neg (show ¬ bt8 n b (sk n b p) = 59 from fun q => y1 ((b8_c (c := 59) hb (by omega)).mp q).2)]
          by_cases y2 : b (sk n b p) = 44
          · rw [if_pos (show bt8 n b (sk n b p) = 44 from (b8_c (c := 44) hb (by omega)).mpr ⟨e, y2⟩)]
            exact S_ret (fin 4 (by rw [hk, y2]; rfl))
          · rw [if_neg (show ¬ bt8 n b (sk n b p) = 44 from fun q => y2 ((b8_c (c := 44) hb (by omega)).mp q).2)]
            by_cases y3 : b (sk n b p) = 58
            · rw [if_neg (not_not_intro (show bt8 n b (sk n b p) = 58 from (b8_c (c := 58) hb (by omega)).mpr ⟨e, y3⟩))]
              exact S_ret (fin 4 (by rw [hk, y3]; rfl))
            · rw [if_pos (show ¬ bt8 n b (sk n b p) = 58 from fun q => y3 ((b8_c (c := 58) hb (by omega)).mp q).2)]
              exact S_ret (fin 1 (by rw [hk, if_neg (by omega)]; rfl))
  · have eK : Kd n b p = 0 := if_neg e
    rw [if_neg (not_not_intro (show bt8 n b (sk n b p) = -1 from if_neg e)), nm_def]
    refine S_ret ⟨hF.wI (by omega) (by omega), by rw [wI_s, eK]; rfl, by rw [wI_j (by omega)]; exact g11, ?_, fun z => absurd z (by omega), fun z => absurd z (by omega)⟩
    rw [wI_j (by omega), g10]
    unfold nxt
    rw [if_neg e]
theorem lg_0 (x y : Int64) : lg_cmp x y = 0 ↔ x = y := by
  constructor
  · intro h
    unfold lg_cmp at h
    by_cases e : x > y
    · rw [if_pos e] at h; exact absurd h (by decide)
    · rw [if_neg e] at h
      by_cases e2 : x = y
      · exact e2
      · rw [if_neg e2] at h; exact absurd h (by decide)
  · intro h
    rw [h]
    unfold lg_cmp
    rw [if_neg (by
      show ¬ y < y
      rw [Int64.lt_iff_toInt_lt]
      omega), if_pos rfl]
theorem m_w26 {e : Nat} (he : e < 14) : ∀ (m f j w : Nat), j + m = wl e → m < f → pX8_isWord_26 e f e (lN w) (nI j) M = some ((if lg_cmp M.2.1 (lN (ww (wb e) m j w)) = 0 then 1 else 0), M) := by
  intro m
  induction m with
  | zero =>
    intro f j w hj hf
    obtain ⟨f, rfl⟩ : ∃ f', f = f' + 1 := ⟨f - 1, by omega⟩
    have hw6 := (w_ok he).2.1
    rw [pX8_isWord_26, s_len he, bnd_some, if_pos (nI_le (by omega) (by omega)), chk_h b01_0, chk_h b01_1]
    show _ = some ((if lg_cmp M.2.1 (lN w) = 0 then 1 else 0), M)
    by_cases q : lg_cmp M.2.1 (lN w) = 0
    · rw [if_neg (not_not_intro q), if_pos q]
    · rw [if_pos q, if_neg q]
  | succ m ih =>
    intro f j w hj hf
    obtain ⟨f, rfl⟩ : ∃ f', f = f' + 1 := ⟨f - 1, by omega⟩
    have hw6 := (w_ok he).2.1
    have hwb := ((w_ok he).2.2.2 j (by omega)).2.2
    rw [pX8_isWord_26, s_len he, bnd_some, if_neg (nI_ge (by omega) (by omega)), s_chr he (by omega), bnd_some, lN_st (by omega) (by omega), nm_def, nI_1, ih f (j + 1) _ (by omega) (by omega)]
    rfl
theorem m_word {p e : Nat} (hp : p ≤ n) (hn : n ≤ 800) (hb : ∀ i, i < n → b i < 256) (he : e < 14) (hK : Tm n b p M) : pX8_isWord e M = some ((if isW n b p e = true then 1 else 0), M) := by
  obtain ⟨k12, k11, k10, kw, -⟩ := hK
  have hs := sk_le (b := b) hp
  have hx := nxt_le (b := b) hp
  obtain ⟨-, hw6, hw1, hwc⟩ := w_ok he
  unfold isW
  rw [pX8_isWord, k12]
  by_cases e1 : Kd n b p = 1
  · obtain ⟨k13, kp⟩ := kw e1
    rw [if_neg (not_not_intro (show nI (k8 (Kd n b p)) = 2 by rw [e1]; rfl)), s_len he, bnd_some, k13, decide_eq_true e1, Bool.true_and]
    by_cases e2 : nxt n b p - sk n b p = wl e
    · have h26 : pX8_isWord_26 e fu e 0 0 M = _ := m_w26 he (wl e) fu 0 0 (by omega) (by show _ < 4096; omega)
      rw [if_pos (congrArg nI e2), h26, decide_eq_true e2, Bool.true_and, kp, e2, wv_ww b (wl e) _ _ _ (by omega)]
      have hg : ∀ x, x < wl e → 97 ≤ b (sk n b p + x) ∧ b (sk n b p + x) ≤ 122 := fun x hx2 => lt_of ((tok_in hp (Or.inl e1) (by omega) (by omega)).trans e1)
      have hh : ∀ x, x < wl e → 97 ≤ wb e (0 + x) ∧ wb e (0 + x) ≤ 122 := fun x hx2 => by rw [Nat.zero_add]; exact (hwc x hx2).2.2
      have p27 : 27 ^ wl e ≤ 27 ^ 6 := Nat.pow_le_pow_right (by omega) hw6
      have p6 : 27 ^ 6 = 387420489 := by decide
      have bd1 := ww_bd (g := b) (wl e) (sk n b p) 0 1 (fun x hx2 => (hg x hx2).2) (Nat.le_refl _)
      have bd2 := ww_bd (g := wb e) (wl e) 0 0 1 (fun x hx2 => (hh x hx2).2) (Nat.le_refl _)
      have key : lg_cmp (lN (ww b (wl e) (sk n b p) 0)) (lN (ww (wb e) (wl e) 0 0)) = 0 ↔ (List.range (wl e)).all (fun j => decide (b (sk n b p + j) = wb e j)) = true := by
        rw [lg_0, lN_eq (by omega) (by omega), List.all_eq_true]
        constructor
        · intro q x hx2
          have := (ww_inj (wl e) _ _ _ _ hg hh q).2 x (List.mem_range.mp hx2)
          rw [Nat.zero_add] at this
          exact decide_eq_true this
        · intro q
          refine ww_cg (wl e) _ _ _ (fun x hx2 => ?_)
          rw [Nat.zero_add]
          exact of_decide_eq_true (q x (List.mem_range.mpr hx2))
      by_cases z : (List.range (wl e)).all (fun j => decide (b (sk n b p + j) = wb e j)) = true
      · rw [if_pos (key.mpr z), if_pos z]
      · rw [if_neg (fun q => z (key.mp q)), if_neg z]
    · rw [if_neg (fun z => e2 (nI_inj (by omega) (by omega) z)), decide_eq_false e2, Bool.false_and, chk_h b01_0, if_neg (by decide)]
  · have hne : ¬ nI (k8 (Kd n b p)) = 2 := fun q => by
      have hk : k8 (Kd n b p) = 2 := nI_inj (by unfold k8; (repeat' split) <;> omega) (b := 2) (by omega) q
      unfold k8 at hk
      rw [if_neg e1] at hk
      revert hk
      (repeat' split) <;> omega
    rw [if_pos hne, decide_eq_false e1, Bool.false_and, Bool.false_and, chk_h b01_0, if_neg (by decide)]
/-! after an error -/
theorem z_fine (h : ¬ M.1 19 0 0 15 = 0) : pX8_isFine M = some (0, M) := by rw [pX8_isFine, if_pos h, chk_h b01_0]
theorem g_fine (h : M.1 19 0 0 15 = 0) : pX8_isFine M = some (1, M) := by rw [pX8_isFine, if_neg (not_not_intro h), chk_h b01_1]
theorem z_req (h : ¬ M.1 19 0 0 15 = 0) (v e : Int32) : pX8_require v e M = some ((), M) := by
  rw [pX8_require, if_pos h]
  split <;> rfl
theorem g_req (v e : Int32) (hv : ¬ v = 0) : pX8_require v e M = some ((), M) := by rw [pX8_require, if_pos hv]
theorem z_adv (h : ¬ M.1 19 0 0 15 = 0) : pX8_advance M = some ((), M) := by rw [pX8_advance, z_fine h, bnd_some, if_pos rfl]
theorem z_look (h : ¬ M.1 19 0 0 15 = 0) (lo hi : Int32) : pX8_look lo hi M = some ((), M) := by
  have z : ∀ s0, pX8_look_14 lo hi s0 M = some ((), M) := fun s0 => by rw [pX8_look_14, z_req h, bnd_some, m_rng, bnd_some, z_req h, bnd_some]
  rw [pX8_look]
  split <;> exact z _
theorem z_num (h : ¬ M.1 19 0 0 15 = 0) (lo hi : Int32) : pX8_parseNumber lo hi M = some (M.1 19 0 0 14, M) := by
  rw [pX8_parseNumber, z_look h, bnd_some, nm_def, z_adv h, bnd_some]
theorem z_sym (h : ¬ M.1 19 0 0 15 = 0) (hk : M.1 19 0 0 12 = 4 → inB (M.1 19 0 0 11) 800 = true) (c : Int32) : pX8_parseSymbol c M = some ((), M) := by
  have z : ∃ o, pX8_isSymbol c M = some (o, M) := by
    rw [pX8_isSymbol]
    by_cases e : M.1 19 0 0 12 = 4
    · rw [if_neg (not_not_intro e), chk_h (hk e), chk_h b01_0, chk_h b01_1]
      split
      · exact ⟨_, rfl⟩
      · exact ⟨_, rfl⟩
    · rw [if_pos e, chk_h b01_0]
      exact ⟨_, rfl⟩
  obtain ⟨o, ho⟩ := z
  rw [pX8_parseSymbol, ho, bnd_some, z_req h, bnd_some, z_adv h, bnd_some]
end MTOK2
