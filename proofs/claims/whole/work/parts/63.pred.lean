/-! ===== predictions ===== -/
def Fw (M M' : Mem) : Prop := M'.2 = M.2 ∧ ∀ kd k i j, ¬ kd = 20 → ¬ kd = 21 → ¬ kd = 22 → ¬ kd = 28 → ¬ kd = 29 → ¬ (kd = 19 ∧ j = 20) → M'.1 kd k i j = M.1 kd k i j
def LC2 (r : Option (Int32 × Mem)) (f : Mem → Option (Int32 × Mem)) (n : Nat) : Prop := ∃ o M1 M2, r = some (o, M1) ∧ f M1 = some (o, M2) ∧ J n M2
section PRED
variable {n : Nat} {T : Nat} {A : AS} {M M1 M2 M3 M4 M5 : Mem}
theorem Fw.refl (M : Mem) : Fw M M := ⟨rfl, fun _ _ _ _ _ _ _ _ _ _ => rfl⟩
theorem Fw.trans (h : Fw M M1) (h2 : Fw M1 M2) : Fw M M2 := ⟨h2.1.trans h.1, fun a b c d q1 q2 q3 q4 q5 q6 => (h2.2 a b c d q1 q2 q3 q4 q5 q6).trans (h.2 a b c d q1 q2 q3 q4 q5 q6)⟩
theorem Fm.fw (h : Fm M M1) : Fw M M1 := ⟨h.1, fun a b c d q1 _ _ q4 q5 q6 => h.2 a b c d q1 q4 q5 q6⟩
theorem C.fw {g p : Bool} {k : Nat} {M0 : Mem} {stk : List Nat} (h : C g p k M0 T A stk M) (hF : Fw M M1) : C g p k M1 T A stk M1 := h.mv (fun kd i j _ _ => hF.2 _ _ _ _ (by omega) (by omega) (by omega) (by omega) (by omega) (by omega))
theorem Rst.fw (h : Rst n M) (hF : Fw M M1) : Rst n M1 := h.mv (fun kd k i j _ q1 q2 => hF.2 _ _ _ _ (by omega) (by omega) (by omega) (by omega) (by omega) (by omega)) (fun kd j q => hF.2 _ _ _ _ (by omega) (by omega) (by omega) (by omega) (by omega) (by omega)) (fun j q => hF.2 _ _ _ _ (by omega) (by omega) (by omega) (by omega) (by omega) (by omega))
theorem J_fw (hC : C true true 0 M3 T A [] M3) (hR : Rst n M3) (hI : Inv T 10 A) (hB : Bd n A) (hF : Fw M3 M4) (hD : D M4 T A [] M4) : M4.1 19 0 0 7 = M3.1 19 0 0 7 ∧ M4.2 = M3.2 ∧ J n M4 :=
  ⟨hF.2 _ _ _ _ (by omega) (by omega) (by omega) (by omega) (by omega) (by omega), hF.1, T, A, hC.fw hF, hD, hI, hB, hR.fw hF⟩
theorem m_save22 (hD : D M3 T A [] M3) : Sat (pX8_copy_20_22 0 0 M3) (fun _ M4 => D M4 T A [] M4 ∧ Fw M3 M4 ∧ ∀ j, j < 700 → M4.1 22 0 0 j = M3.1 20 0 0 j) := by
  refine S_mono (cp_20_22 (M := M3) (a := 0) (b := 0) (by omega) (by omega)) (fun _ M4 h4 => ?_)
  obtain ⟨c1, c2, c3⟩ := h4
  refine ⟨hD.mv (fun j => c2 _ _ _ _ (by omega)) (fun j => c2 _ _ _ _ (by omega)) (c2 _ _ _ _ (by omega)), ⟨c3, fun kd k i j _ _ q3 _ _ _ => c2 _ _ _ _ (by omega)⟩, fun j hj => ?_⟩
  have := c1 j hj
  rw [Nat.zero_add] at this
  exact this
theorem m_back22 {T' : Nat} {A' : AS} (hD5 : D M4 T' A' [] M5) (hs : ∀ j, j < 700 → M4.1 22 0 0 j = M3.1 20 0 0 j) (hv : D M3 T A [] M3) : Sat (pX8_copy_22_20 0 0 M5) (fun _ M6 => D M6 T A [] M6 ∧ Fw M4 M6) := by
  have hF := hD5.2.2
  refine S_mono (cp_22_20 (M := M5) (a := 0) (b := 0) (by omega) (by omega)) (fun _ M6 h6 => ?_)
  obtain ⟨c1, c2, c3⟩ := h6
  refine ⟨⟨hv.1.cong (fun j hj => ?_), ⟨by rw [c2 _ _ _ _ (by omega)]; exact hD5.2.1.1, hD5.2.1.2.1, fun i hi => absurd hi (Nat.not_lt_zero _)⟩, Fm.refl _⟩, ⟨c3.trans hF.1, fun kd k i j q1 _ _ q4 q5 q6 => ?_⟩⟩
  · have := c1 j hj
    rw [Nat.zero_add, hF.2 _ _ _ _ (by omega) (by omega) (by omega) (by omega), hs j hj] at this
    exact this
  · rw [c2 _ _ _ _ (by omega)]
    exact hF.2 _ _ _ _ q1 q4 q5 q6
/-- the class's tick, the greatest priorities being no matter -/
theorem C.unnt {g p : Bool} {k : Nat} {M0 : Mem} {stk : List Nat} (h : C g p k M0 T (ntG T A) stk M) : C false p k M0 T A stk M := by
  have hT := h.T10
  obtain ⟨⟨hT2, hth, hgl, hho, hco⟩, -, hpp, hl, hw, hs, hF⟩ := h
  refine ⟨⟨⟨hT, by rw [← hT2.2, ntG_e _ _ (by omega)]⟩, fun t f ht hf => ?_, fun b hb => ?_, fun l hl => ?_, fun t j ht hj hj2 => ?_⟩, fun e => (nomatch e), fun e e2 t ht => ?_, hl, hw, hs, hF⟩
  · have : ¬ f = 16 := by simp [okf] at hf; omega
    rw [hth t f ht hf, ntG_e _ _ (by omega)]
  · rw [hgl b hb, ntG_e _ _ (by omega)]
  · rw [hho l hl, ntG_e _ _ (by omega)]
  · have := hco t j ht hj (by rw [ntG_e _ _ (by omega)]; exact hj2)
    rw [ntG_e _ _ (by omega), ntG_e _ _ (by omega)] at this
    exact this
  · rw [hpp e e2 t ht, pr_ntG hT ht]
theorem c_tickN {k : Nat} {M0 : Mem} (h : C true true k M0 T A [] M) (hI : Inv T 10 A) (hL : A.2.1.length + 6000 ≤ LIM) : Sat (pX3_tick k M) (fun o M' => o = onI (chs T (wbt T A)) ∧ Fk k M0 M') := by
  have hT := hI.T10
  obtain ⟨i1, i2, i3⟩ := wbT_ok 10 _ hI (by omega)
  obtain ⟨w1, w2, w3⟩ := wbt_ok hI (by omega)
  rw [pX3_tick]
  refine S_bnd (c_note h hI) (fun _ M1 h1 => ?_)
  have h1 := h1.unnt
  rw [c_late h1, bnd_some]
  refine c_tick11 10 fu 0 _ M1 (by omega) (by decide) h1 hI (by omega) (fun M2 h2 => ?_)
  exact c_tick43 h2 i1 (by omega) (fun M3 h3 => S_mono (c_tick104 (A := wbt T A) h3 w1 (by omega)) (fun o M' h' => ⟨h'.1, h'.2.fkk⟩))
theorem call_next (hJ : J n M) (hn : n ≤ 260000) : LC2 (pX7_next M) pX8_next n := by
  obtain ⟨T, A, hC, hD, hI, hB, hR⟩ := id hJ
  have hL := hB.lim hn
  have h7 : Sat (pX7_next M) (fun o M' => o = onI (chs T (wbt T A)) ∧ Fk 1 M M') := by
    rw [pX7_next]
    refine S_bnd (c_copy (k := 1) (k1 := 0) (by omega) hC hI) (fun _ M1 h1 => ?_)
    exact S_bnd (c_tickN h1 hI (by omega)) (fun o M2 h2 => S_ret h2)
  obtain ⟨_, M1, e7, rfl, hF⟩ := h7
  have hC3 := ((hC.fk (k' := 1) (by omega) hF).w7 0)
  have hR3 := ((hR.fk (by omega) hF).w7 0)
  have hD3 := ((hD.fk hF).w7 0)
  have hm : Sat (pX8_next M1) (fun b M6 => b = onI (chs T (wbt T A)) ∧ D M6 T A [] M6 ∧ Fw (wI M1 19 0 0 7 0) M6) := by
    rw [pX8_next, nm_def]
    refine S_bnd (m_save22 hD3) (fun _ M4 h4 => ?_)
    obtain ⟨d4, f4, s4⟩ := h4
    refine S_bnd (m_wbt d4 hI (by have := hB.2; omega) (by omega)) (fun _ M5 h5 => ?_)
    obtain ⟨w1, w2, w3⟩ := wbt_ok hI (by omega)
    refine S_bnd (m_chosen h5 w1) (fun o M6 h6 => ?_)
    obtain ⟨rfl, h6⟩ := h6
    refine S_bnd (m_back22 h6 s4 hD3) (fun _ M7 h7 => ?_)
    exact S_ret ⟨rfl, h7.1, f4.trans h7.2⟩
  obtain ⟨_, M6, e6, rfl, d6, f6⟩ := hm
  exact ⟨_, M1, M6, e7, e6, (J_fw hC3 hR3 hI hB f6 d6).2.2⟩
/-! doneIn -/
def dnF (T t : Nat) : Nat → Nat → AS → Option Nat
  | 0, j, A => if A.1 t 3 = 3 then some j else none
  | m + 1, j, A => if A.1 t 3 = 3 then some j else dnF T t m (j + 1) (tick T A)
theorem dnF_le {t : Nat} : ∀ m j A d, dnF T t m j A = some d → j ≤ d ∧ d ≤ j + m := by
  intro m
  induction m with
  | zero => intro j A d h; rw [dnF] at h; split at h <;> cases h; omega
  | succ m ih =>
    intro j A d h
    rw [dnF] at h
    split at h
    · cases h; omega
    · have := ih _ _ _ h; omega
theorem c_dn {M0 : Mem} {t most : Nat} (ht : t < T) (hm500 : most ≤ 500) : ∀ (m n j b : Nat) (A : AS) (M : Mem), j + m = most → m + 1 < n → C true true 1 M0 T A [] M → Inv T 10 A → Bd b A → b + m + 1 ≤ 270000 → Sat (pX7_doneIn_37 n (nI most) t (nI j) M) (fun o M' => o = .ok (onI (dnF T t m j A)) ∧ Fk 1 M0 M') := by
  intro m
  induction m with
  | zero =>
    intro n j b A M hj hn h hI hB hb
    obtain ⟨n, rfl⟩ : ∃ n', n = n' + 1 := ⟨n - 1, by omega⟩
    have r7 : M.1 5 1 t 7 = A.1 t 3 := h.th ht 3 rfl
    rw [pX7_doneIn_37, if_neg (nI_nlt (by omega) (by omega)), r7, nI_1, dnF]
    by_cases e : A.1 t 3 = 3
    · rw [if_neg (not_not_intro e), if_pos e]
      exact S_ret ⟨rfl, h.fkk⟩
    · rw [if_pos e, if_neg e]
      refine S_bnd (c_tickB h hI hB (by omega)) (fun _ M1 h1 => ?_)
      obtain ⟨n, rfl⟩ : ∃ n', n = n' + 1 := ⟨n - 1, by omega⟩
      rw [pX7_doneIn_37, if_pos (nI_lt (by omega) (by omega))]
      exact S_ret ⟨rfl, h1.fkk⟩
  | succ m ih =>
    intro n j b A M hj hn h hI hB hb
    obtain ⟨n, rfl⟩ : ∃ n', n = n' + 1 := ⟨n - 1, by omega⟩
    have r7 : M.1 5 1 t 7 = A.1 t 3 := h.th ht 3 rfl
    rw [pX7_doneIn_37, if_neg (nI_nlt (by omega) (by omega)), r7, nI_1, dnF]
    by_cases e : A.1 t 3 = 3
    · rw [if_neg (not_not_intro e), if_pos e]
      exact S_ret ⟨rfl, h.fkk⟩
    · rw [if_pos e, if_neg e]
      obtain ⟨k1, k2, -⟩ := tick_bd hI hB (by omega)
      exact S_bnd (c_tickB h hI hB (by omega)) (fun _ M1 h1 => ih n (j + 1) (b + 1) _ M1 (by omega) (by omega) h1 k1 k2 (by omega))
theorem m_dn {M0 : Mem} {t most : Nat} (ht : t < T) (hm500 : most ≤ 500) : ∀ (m n j b : Nat) (A : AS) (M : Mem), j + m = most → m < n → D M0 T A [] M → Inv T 10 A → Bd b A → b + m ≤ 270000 → Sat (pX8_ticksToDone_2 n (nI t) (nI most) (nI j) M) (fun o M' => o = onI (dnF T t m j A) ∧ ∃ A', D M0 T A' [] M') := by
  intro m
  induction m with
  | zero =>
    intro n j b A M hj hn h hI hB hb
    obtain ⟨n, rfl⟩ : ∃ n', n = n' + 1 := ⟨n - 1, by omega⟩
    rw [pX8_ticksToDone_2, if_pos (nI_le (by omega) (by omega)), pX8_ticksToDone_27, m_of h ht 3 (x := 3) rfl (by omega), bnd_some, dnF]
    by_cases e : A.1 t 3 = 3
    · rw [if_neg (not_not_intro e), if_pos e]
      exact S_ret ⟨rfl, A, h⟩
    · rw [if_pos e, if_neg e]
      exact S_ret ⟨rfl, A, h⟩
  | succ m ih =>
    intro n j b A M hj hn h hI hB hb
    obtain ⟨n, rfl⟩ : ∃ n', n = n' + 1 := ⟨n - 1, by omega⟩
    rw [pX8_ticksToDone_2, if_neg (nI_ge (by omega) (by omega)), m_of h ht 3 (x := 3) rfl (by omega), bnd_some, nI_1, dnF]
    by_cases e : A.1 t 3 = 3
    · rw [if_pos e, if_pos e, pX8_ticksToDone_27, m_of h ht 3 (x := 3) rfl (by omega), bnd_some, if_neg (not_not_intro e)]
      exact S_ret ⟨rfl, A, h⟩
    · rw [if_neg e, if_neg e]
      obtain ⟨k1, k2, -⟩ := tick_bd hI hB (by omega)
      exact S_bnd (m_tickB h hI hB (by omega)) (fun _ M1 h1 => ih n (j + 1) (b + 1) _ M1 (by omega) (by omega) h1 k1 k2 (by omega))
theorem call_doneIn (hJ : J n M) (hn : n ≤ 260000) (v w : Int32) : LC qI (pL_doneIn v w M) (pX8_doneIn v w) n := by
  obtain ⟨T, A, hC, hD, hI, hB, hR⟩ := id hJ
  have hT := hI.T10
  have hL := hB.lim hn
  rw [pL_doneIn]
  by_cases e : isT T v = true
  · obtain ⟨t, ht, rfl⟩ := isT_t hT e
    by_cases e2 : rng w 1 500 = true
    · obtain ⟨most, q1, q2, rfl⟩ := rng_lo (lo := 1) (hi := 500) (by omega) (by omega) rfl rfl e2
      have h7 : Sat (pX7_doneIn (nI t) (nI most) M) (fun o M' => o = .ok (onI (dnF T t most 0 A)) ∧ Fk 1 M M') := by
        rw [pX7_doneIn, c_thr hC, if_pos e, bndx_ok, c_rng, if_pos e2, bndx_ok]
        refine S_bnd (c_copy (k := 1) (k1 := 0) (by omega) hC hI) (fun _ M1 h1 => ?_)
        rw [chk_h (inB_nI (by omega) (by omega)), cl (by omega)]
        exact c_dn ht q2 most fu 0 n A M1 (by omega) (by show _ < 4096; omega) h1 hI hB (by omega)
      obtain ⟨_, M1, e7, rfl, hF⟩ := h7
      refine LC_ok (g := _) e7 ?_ rfl
      have hC3 := (((hC.fk (k' := 1) (by omega) hF).wo (onI (dnF T t most 0 A)).toInt64).w7 0)
      have hR3 := (((hR.fk (by omega) hF).wo (onI (dnF T t most 0 A)).toInt64).w7 0)
      have hD3 := J_mid (hD.fk hF) (onI (dnF T t most 0 A)).toInt64
      rw [pX8_doneIn, nm_def, m_thr hD3, if_pos e, bnd_some, if_pos (show ¬ (1 : Int32) = 0 by decide), m_rng, if_pos e2, bnd_some, if_pos (show ¬ (1 : Int32) = 0 by decide)]
      refine S_bnd (m_save22 hD3) (fun _ M4 h4 => ?_)
      obtain ⟨d4, f4, s4⟩ := h4
      refine S_bnd (m_dn ht q2 most fu 0 n A M4 (by omega) (by show _ < 4096; omega) d4 hI hB (by omega)) (fun o M5 h5 => ?_)
      obtain ⟨rfl, A', h5⟩ := h5
      refine S_bnd (m_back22 h5 s4 hD3) (fun _ M6 h6 => ?_)
      obtain ⟨j1, j2, j3⟩ := J_fw hC3 hR3 hI hB (f4.trans h6.2) h6.1
      exact S_ret ⟨rfl, by rw [j1, wI_s], j2, j3⟩
    · refine LC_er (e := 2) (k := 2) (b := 0) (M2 := wI (wI M 19 0 0 7 0) 19 0 0 7 2) (by rw [pX7_doneIn, c_thr hC, if_pos e, bndx_ok, c_rng, if_neg e2, bndx_er]) rfl ?_ (w7w7 _ _) (by decide) (J_w7 (J_w7 hJ 0) 2)
      rw [pX8_doneIn, nm_def, m_thr (hD.w7 0), if_pos e, bnd_some, if_pos (show ¬ (1 : Int32) = 0 by decide), m_rng, if_neg e2, bnd_some, if_neg (not_not_intro rfl), m_fail, bnd_some]
  · refine LC_er (e := 3) (k := 1) (b := 0) (M2 := wI (wI M 19 0 0 7 0) 19 0 0 7 1) (by rw [pX7_doneIn, c_thr hC, if_neg e, bndx_er]) rfl ?_ (w7w7 _ _) (by decide) (J_w7 (J_w7 hJ 0) 1)
    rw [pX8_doneIn, nm_def, m_thr (hD.w7 0), if_neg e, bnd_some, if_neg (not_not_intro rfl), m_fail, bnd_some]
end PRED
