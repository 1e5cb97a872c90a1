/-! ===== the reference: ends ===== -/
section MEND
variable {M0 : Mem} {T : Nat} {A : AS} {gv : List Nat} {M : Mem}
theorem bst_app (f : Nat → Int32) (w : List Nat) (v : Nat) : bst f (w ++ [v]) = match bst f w with
    | none => some v
    | some b => some (if f v ≤ f b then b else v) := by
  cases w with
  | nil => rfl
  | cons u us =>
    show some ((us ++ [v]).foldl (fun b v => if f v ≤ f b then b else v) u) = _
    rw [List.foldl_append]
    rfl
def pv (f : Nat → Int32) (b : Option Nat) : Int32 := match b with
  | none => 0
  | some u => f u
theorem m_sc7 (hI : Inv T 10 A) {l : Nat} (hl : l < 6) : ∀ (m n i : Nat) (M : Mem), i + m = 11 → 1 ≤ i → m < n → D M0 T A gv M → Sat (pX8_successor_7 n (nI l) (onI (bst (pr T A) ((A.2.2 l).take (i - 1)))) (pv (pr T A) (bst (pr T A) ((A.2.2 l).take (i - 1)))) (nI i) M) (fun o M' => o = onI (nx T A l) ∧ D M0 T A gv M') := by
  have hT := hI.T10
  have hlen : (A.2.2 l).length ≤ 10 := by
    have := nodup_len (hI.2.2.2.2.1 l hl).1 (hI.wlt hl)
    omega
  intro m
  induction m with
  | zero =>
    intro n i M hi h1 hn h
    obtain ⟨n, rfl⟩ : ∃ n', n = n' + 1 := ⟨n - 1, by omega⟩
    rw [pX8_successor_7, if_pos (show (10 : Int32) < nI i from nI_lt (a := 10) (by omega) (by omega)), List.take_of_length_le (by omega)]
    exact S_ret ⟨rfl, h⟩
  | succ m ih =>
    intro n i M hi h1 hn h
    obtain ⟨n, rfl⟩ : ∃ n', n = n' + 1 := ⟨n - 1, by omega⟩
    rw [pX8_successor_7, if_neg (show ¬ (10 : Int32) < nI i from nI_nlt (a := 10) (by omega) (by omega)), m_waiter h hI hl h1 (by omega), bnd_some]
    unfold wt
    by_cases e : i - 1 < (A.2.2 l).length
    · have hm := getD_mem e
      have hw := hI.wlt hl _ hm
      rw [if_pos e, if_pos (m1_ne (by omega))]
      refine S_bnd (m_prio h hI hw) (fun o M1 h1' => ?_)
      obtain ⟨rfl, h1'⟩ := h1'
      have ta : (A.2.2 l).take (i + 1 - 1) = (A.2.2 l).take (i - 1) ++ [(A.2.2 l).getD (i - 1) 0] := by
        rw [show i + 1 - 1 = (i - 1) + 1 from by omega]
        exact take_s e
      have := ih n (i + 1) M1 (by omega) (by omega) (by omega) h1'
      rw [ta, bst_app] at this
      rw [pX8_successor_39, nI_1]
      have hp := pr_ge hw (hI.base _ hw)
      cases eb : bst (pr T A) ((A.2.2 l).take (i - 1)) with
      | none =>
        rw [eb] at this
        rw [if_neg (show ¬ pr T A ((A.2.2 l).getD (i - 1) 0) ≤ pv (pr T A) none from fun q => by
          have q2 := i32_le.mp q
          have : (pv (pr T A) none).toInt = 0 := i32_0
          omega)]
        exact this
      | some b =>
        rw [eb] at this
        show Sat (if pr T A ((A.2.2 l).getD (i - 1) 0) ≤ pr T A b then _ else _) _
        by_cases e2 : pr T A ((A.2.2 l).getD (i - 1) 0) ≤ pr T A b
        · rw [if_pos e2]
          dsimp only at this
          rw [if_pos e2] at this
          exact this
        · rw [if_neg e2]
          dsimp only at this
          rw [if_neg e2] at this
          exact this
    · rw [if_neg e, if_neg (not_not_intro rfl), pX8_successor_39, nI_1]
      have hge : (0 : Int32) ≤ pv (pr T A) (bst (pr T A) ((A.2.2 l).take (i - 1))) := by
        cases eb : bst (pr T A) ((A.2.2 l).take (i - 1)) with
        | none => exact i32_le.mpr (Int.le_refl _)
        | some b =>
          have hb := hI.wlt hl b (List.mem_of_mem_take (bst_mem eb))
          have hp := pr_ge hb (hI.base _ hb)
          exact i32_le.mpr (by rw [i32_0]; show 0 ≤ (pr T A b).toInt; omega)
      rw [if_pos hge]
      have := ih n (i + 1) M (by omega) (by omega) (by omega) h
      rw [List.take_of_length_le (by omega)] at this
      rw [List.take_of_length_le (by omega)]
      exact this
theorem m_succ (h : D M0 T A gv M) (hI : Inv T 10 A) {l : Nat} (hl : l < 6) : Sat (pX8_successor (nI l) M) (fun o M' => o = onI (nx T A l) ∧ D M0 T A gv M') :=
  m_sc7 hI hl 10 fu 1 M (by omega) (by omega) (by decide) h
theorem m_lowF (h : D M0 T A gv M) {t : Nat} : ∀ (m n i : Nat), i + m = 6 → m < n → pX8_lowestLock_2 n (nI t) (nI i) M = some (onI (lowF (A.1 11) (nI t) m i), M) := by
  intro m
  induction m with
  | zero =>
    intro n i hi hn
    obtain ⟨n, rfl⟩ : ∃ n', n = n' + 1 := ⟨n - 1, by omega⟩
    rw [pX8_lowestLock_2, if_pos (show (6 : Int32) ≤ nI i from nI_le (a := 6) (by omega) (by omega))]
    rfl
  | succ m ih =>
    intro n i hi hn
    obtain ⟨n, rfl⟩ : ∃ n', n = n' + 1 := ⟨n - 1, by omega⟩
    have ead : (14 : Int32) + nI i = nI (14 + i) := nI_add 14 i
    rw [pX8_lowestLock_2, if_neg (show ¬ (6 : Int32) ≤ nI i from nI_ge (b := 6) (by omega) (by omega)), ead, chk_h (inB_nI (by omega) (by omega)), cl (by omega), h.ho (by omega), lowF]
    by_cases e : A.1 11 i = nI t
    · rw [if_neg (not_not_intro e), if_pos e]
      rfl
    · rw [if_pos e, if_neg e, nI_1]
      exact ih n (i + 1) (by omega) (by omega)
theorem m_low (h : D M0 T A gv M) (t : Nat) : pX8_lowestLock (nI t) M = some (onI (low A t), M) := m_lowF h 6 fu 0 rfl (by decide)
theorem D.g15 (h : D M0 T A gv M) : M.1 19 0 0 20 = nI gv.length := h.2.1.1
theorem D.g10 (h : D M0 T A gv M) : gv.length ≤ 10 := h.2.1.2.1
theorem D.top {t : Nat} (h : D M0 T A (t :: gv) M) : M.1 19 0 0 20 = nI (gv.length + 1) ∧ M.1 29 0 0 gv.length = nI t := by
  have hst := h.2.1
  have := hst.2.2 0 (by rw [List.length_cons]; omega)
  rw [List.length_cons, show gv.length + 1 - 1 - 0 = gv.length from by omega] at this
  exact ⟨hst.1, this⟩
theorem D.push (h : D M0 T A gv M) (t : Nat) (hs : gv.length < 10) : D M0 T A (t :: gv) (wI (wI M 29 0 0 gv.length (nI t)) 19 0 0 20 (nI (gv.length + 1))) := by
  obtain ⟨hv, hg, hF⟩ := h
  have e : (wI (wI M 29 0 0 gv.length (nI t)) 19 0 0 20 (nI (gv.length + 1))).1 20 0 0 = M.1 20 0 0 := by
    funext j
    rw [wI_kd (by omega), wI_kd (by omega)]
  refine ⟨by rw [e]; exact hv, ⟨?_, ?_, fun i hi => ?_⟩, hF.w29.w19⟩
  · rw [wI_s]; rfl
  · rw [List.length_cons]; omega
  · rw [List.length_cons] at hi
    rw [wI_kd (by omega), List.length_cons, wI_e]
    cases i with
    | zero => rw [if_pos ⟨rfl, rfl, rfl, by omega⟩]; rfl
    | succ i =>
      rw [if_neg (by omega), show gv.length + 1 - 1 - (i + 1) = gv.length - 1 - i from by omega]
      exact hg.2.2 i (by omega)
theorem D.pop {t : Nat} (h : D M0 T A (t :: gv) M) : D M0 T A gv (wI M 19 0 0 20 (nI gv.length)) := by
  obtain ⟨hv, hg, hF⟩ := h
  have e : (wI M 19 0 0 20 (nI gv.length)).1 20 0 0 = M.1 20 0 0 := by
    funext j
    rw [wI_kd (by omega)]
  have h10 := hg.2.1
  rw [List.length_cons] at h10
  refine ⟨by rw [e]; exact hv, ⟨wI_s, by omega, fun i hi => ?_⟩, hF.w19⟩
  have := hg.2.2 (i + 1) (by rw [List.length_cons]; omega)
  rw [List.length_cons, show gv.length + 1 - 1 - (i + 1) = gv.length - 1 - i from by omega] at this
  rw [wI_kd (by omega)]
  exact this
theorem D.rm (h : D M0 T A gv M) (l u : Nat) : D M0 T (rmW A l u) gv M := by
  obtain ⟨⟨hT, hth, hgl, hho, hco, hl, hw1, hw2, hw3⟩, hg, hF⟩ := h
  refine ⟨⟨hT, hth, hgl, hho, hco, hl, hw1, hw2, fun l' hl' => ?_⟩, hg, hF⟩
  show (∀ v, v ∈ (if l' = l then (A.2.2 l).filter (fun v => decide (¬ v = u)) else A.2.2 l') → _) ∧ (if l' = l then (A.2.2 l).filter (fun v => decide (¬ v = u)) else A.2.2 l').Pairwise _
  by_cases e : l' = l
  · subst e
    rw [if_pos rfl]
    exact ⟨fun v hv => (hw3 l' hl').1 v (List.mem_filter.mp hv).1, (hw3 l' hl').2.filter _⟩
  · rw [if_neg e]
    exact hw3 l' hl'
theorem m_end (h : D M0 T A gv M) {t : Nat} (ht : t < T) (h3 : A.1 t 3 = 0) (hd : ∀ v, v ∈ gv → A.1 v 3 = 3) (hs : gv.length < 10 ∨ ¬ A.1 t 2 = A.1 t 1) (hL : A.2.1.length < LIM) : Sat (pX8_endIfBehind (nI t) M) (fun _ M' => D M0 T (mk T A (ps A t gv)) (ps A t gv) M') := by
  have hT := h.T10
  rw [pX8_endIfBehind, m_of h ht 2 (x := 2) rfl (by omega), bnd_some, m_of h ht 1 (x := 1) rfl (by omega), bnd_some]
  unfold ps
  by_cases e : A.1 t 2 = A.1 t 1
  · have hs' : gv.length < 10 := by
      rcases hs with q | q
      · exact q
      · exact absurd e q
    rw [if_neg (not_not_intro e), if_pos ⟨h3, e⟩]
    have em : mk T A (t :: gv) = note (up A t 3 3) 5 (nI t) 0 := by
      show (if A.1 t 3 = 3 then A else _) = _
      rw [if_neg (by rw [h3]; decide)]
    rw [em]
    refine S_bnd (m_put h ht 3 (x := 3) rfl (by omega) (by omega) 3) (fun _ M1 h1 => ?_)
    refine S_bnd (m_note h1 hL 5 (nI t) 0) (fun _ M2 h2 => ?_)
    rw [h2.g15, chk_h (inB_nI (by omega) (by omega)), cl (by omega), nm_def, wI_kd (by omega), h2.g15, nI_1, nm_def]
    exact S_ret (h2.push t hs')
  · rw [if_pos e, if_neg (fun q => e q.2), mk_done hd]
    exact S_ret h
theorem m_goOn (h : D M0 T A gv M) {t : Nat} (ht : t < T) (h3 : A.1 t 3 = 0) (hd : ∀ v, v ∈ gv → A.1 v 3 = 3) (hs : gv.length < 10 ∨ ¬ (goB A t).1 t 2 = (goB A t).1 t 1) (hL : A.2.1.length < LIM) : Sat (pX8_goOn (nI t) M) (fun _ M' => D M0 T (mk T (goB A t) (ps (goB A t) t gv)) (ps (goB A t) t gv) M') := by
  have hT := h.T10
  rw [pX8_goOn]
  refine S_bnd (m_grow h ht 2 (x := 2) rfl (by omega) (by omega)) (fun _ M1 h1 => ?_)
  refine S_bnd (m_put h1 ht 17 (x := 17) rfl (by omega) (by omega) 0) (fun _ M2 h2 => ?_)
  have g3 : ∀ v, (goB A t).1 v 3 = A.1 v 3 := fun v => by
    rw [goB_e]
    by_cases e : v = t
    · rw [if_pos e, if_neg (by omega), if_neg (by omega), e]
    · rw [if_neg e]
  exact S_bnd (m_end (A := goB A t) h2 ht (by rw [g3]; exact h3) (fun v hv => by rw [g3]; exact hd v hv) hs hL) (fun _ M3 h3 => S_ret h3)
theorem m_giveUp (h : D M0 T A gv M) (hI : Inv T 10 A) {t l : Nat} (hl : l < 6) (htl : A.1 11 l = nI t) (ht : t < T) (hd : ∀ v, v ∈ gv → v < T ∧ A.1 v 3 = 3) (hs : ∀ u, nx T A l = some u → gv.length < 10) (hL : A.2.1.length + 3 ≤ LIM) : Sat (pX8_giveUp (nI t) (nI l) M) (fun _ M' => D M0 T (mk T (gv1 T A t l) (gvk T A t l gv)) (gvk T A t l gv) M') := by
  have hT := h.T10
  have ead : (14 : Int32) + nI l = nI (14 + l) := nI_add 14 l
  rw [pX8_giveUp, ead]
  refine S_bnd (m_succ h hI hl) (fun o M1 h1 => ?_)
  obtain ⟨rfl, h1⟩ := h1
  refine S_bnd (m_note h1 (by omega) 4 (nI t) (nI l)) (fun _ M2 h2 => ?_)
  rw [chk_h (inB_nI (by omega) (by omega)), cl (by omega)]
  unfold gv1 gvk
  cases e : nx T A l with
  | none =>
    rw [onI_none]
    refine S_w (h2.puth hl (-1)) (fun M3 h3 => ?_)
    rw [if_pos rfl]
    have : mk T (gv0 A t l) gv = gv0 A t l := mk_done (fun v hv => (up_a (by have := (hd v hv).1; omega)).trans (hd v hv).2)
    show Sat _ (fun _ M' => D M0 T (mk T (gv0 A t l) gv) gv M')
    rw [this]
    exact S_ret h3
  | some u =>
    obtain ⟨hu, hu8, hu3⟩ := hI.wat hl (nx_some e)
    rw [onI_some]
    refine S_w (h2.puth hl (nI u)) (fun M3 h3 => ?_)
    rw [if_neg (m1_ne (by omega))]
    refine S_bnd (m_put (h3.rm l u) hu 3 (x := 3) rfl (by omega) (by omega) 0) (fun _ M4 h4 => ?_)
    refine S_bnd (m_put h4 hu 8 (x := 8) rfl (by omega) (by omega) (-1)) (fun _ M5 h5 => ?_)
    refine S_bnd (m_note h5 (by show A.2.1.length + 1 < LIM; omega) 3 (nI u) (nI l)) (fun _ M6 h6 => ?_)
    have r3 : ∀ v, v < 10 → ¬ v = u → (note (up (up (rmW (up (note A 4 (nI t) (nI l)) 11 l (nI u)) l u) u 3 0) u 8 (-1)) 3 (nI u) (nI l)).1 v 3 = A.1 v 3 := fun v q1 q2 => by
      rw [note_1, up_b (by omega), up_a q2, rmW_1, up_a (by omega), note_1]
    have ru : (note (up (up (rmW (up (note A 4 (nI t) (nI l)) 11 l (nI u)) l u) u 3 0) u 8 (-1)) 3 (nI u) (nI l)).1 u 3 = 0 := by
      rw [note_1, up_b (by omega), up_s]
    refine S_bnd (m_goOn h6 hu ru (fun v hv => ?_) (Or.inl (hs u e)) (by show A.2.1.length + 2 < LIM; omega)) (fun _ M7 h7 => S_ret h7)
    have hne : ¬ v = u := fun z => by
      have := (hd v hv).2
      rw [z, hu3] at this
      exact absurd this (by decide)
    rw [r3 v (by have := (hd v hv).1; omega) hne]
    exact (hd v hv).2
theorem m_stl (m : Nat) : ∀ (n : Nat) (A : AS) (stk : List Nat) (M : Mem) (j : Nat), ms T A stk ≤ m → m ≤ j → SI T A stk → D M0 T A stk M → m < n → A.2.1.length + 3 * m + 3 ≤ LIM → Sat (pX8_settle_0 n M) (fun _ M' => D M0 T (stl T j stk A) [] M') := by
  induction m with
  | zero =>
    intro n A stk M j hm hj hS h hn hL
    obtain ⟨n, rfl⟩ : ∃ n', n = n' + 1 := ⟨n - 1, by omega⟩
    cases stk with
    | nil =>
      rw [pX8_settle_0, h.g15, if_pos (show nI ([] : List Nat).length ≤ (0 : Int32) from nI_le (b := 0) (Nat.le_refl 0) (by omega))]
      have : stl T j [] A = A := by cases j <;> rfl
      rw [this]
      exact S_ret h
    | cons t r => unfold ms at hm; rw [List.length_cons] at hm; omega
  | succ m ih =>
    intro n A stk M j hm hj hS h hn hL
    obtain ⟨n, rfl⟩ : ∃ n', n = n' + 1 := ⟨n - 1, by omega⟩
    cases stk with
    | nil =>
      rw [pX8_settle_0, h.g15, if_pos (show nI ([] : List Nat).length ≤ (0 : Int32) from nI_le (b := 0) (Nat.le_refl 0) (by omega))]
      have : stl T j [] A = A := by cases j <;> rfl
      rw [this]
      exact S_ret h
    | cons t r =>
      obtain ⟨j, rfl⟩ : ∃ j', j = j' + 1 := ⟨j - 1, by omega⟩
      have hT := hS.1.T10
      have htT := (hS.2.1 t List.mem_cons_self).1
      have hs10 := h.g10
      rw [List.length_cons] at hs10
      rw [pX8_settle_0, h.top.1, if_neg (show ¬ nI (r.length + 1) ≤ (0 : Int32) from nI_ge (a := 0) (by omega) (by omega)), nI_pred, chk_h (inB_nI (by omega) (by omega)), cl (by omega), h.top.2, nm_def, m_low h, bnd_some, stl]
      cases e : low A t with
      | none =>
        rw [onI_none, if_neg (not_not_intro rfl), h.top.1, nI_pred]
        refine S_w h.pop (fun M1 h1 => ?_)
        have hlen : (t :: r).length = r.length + 1 := rfl
        exact ih n A r M1 j (by unfold ms at hm ⊢; omega) (by omega) ⟨hS.1, fun u hu => hS.2.1 u (List.mem_cons_of_mem _ hu), by have := hS.2.2; omega⟩ h1 (by omega) (by omega)
      | some l =>
        obtain ⟨hl, htl⟩ := low_some e
        obtain ⟨g1, g2, g3, g4, -⟩ := gv_step hS e
        have hs9 : ∀ u, nx T A l = some u → (t :: r).length < 10 := by
          intro u hu
          have hw := hS.1.wat hl (nx_some hu)
          have hb : 0 < bl T A := by
            have := cnt_lt (p := fun _ => false) (q := fun u => decide (A.1 u 3 = 2)) (t := u) T (fun _ _ q => (nomatch q)) hw.1 (by simp only [decide_eq_true_eq]; exact hw.2.2) (by decide)
            unfold bl
            omega
          have := hS.2.2
          omega
        rw [onI_some, if_pos (m1_ne (by omega))]
        exact S_bnd (m_giveUp h hS.1 hl htl htT hS.2.1 hs9 (by omega)) (fun _ M1 h1 => ih n _ _ M1 j (by omega) (by omega) g1 h1 (by omega) (by omega))
theorem m_settle (h : D M0 T A gv M) (hS : SI T A gv) (hL : A.2.1.length + 200 ≤ LIM) : Sat (pX8_settle M) (fun _ M' => D M0 T (stl T 64 gv A) [] M') := by
  have := si_mes hS
  exact m_stl 46 fu A gv M 64 this (by omega) hS h (by decide) (by omega)
end MEND
