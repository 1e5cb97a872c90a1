/-! ===== calls: what they share; wakeups, interrupts, ticks ===== -/
section CALL1
variable {n : Nat} {T T' : Nat} {A A' : AS} {M M1 M2 M4 : Mem}
theorem J_w7 (h : J n M) (v : Int32) : J n (wI M 19 0 0 7 v) := by
  obtain ⟨T, A, hC, hD, hI, hB, hR⟩ := h
  exact ⟨T, A, hC.w7 v, hD.w7 v, hI, hB, hR.w7 v⟩
theorem J_le {m : Nat} (h : J n M) (hm : n ≤ m) : J m M := by
  obtain ⟨T, A, hC, hD, hI, hB, hR⟩ := h
  exact ⟨T, A, hC, hD, hI, hB.le hm, hR.le hm⟩
/-- the reference's start -/
theorem J_mid (hD : D M1 T A [] M1) (x : Int64) : D (wI (wO M1 x) 19 0 0 7 0) T A [] (wI (wO M1 x) 19 0 0 7 0) := (hD.wo x).w7 0
theorem J_fin (hC : C true true 0 M1 T' A' [] M1) (hR : Rst n M1) (hI : Inv T' 10 A') (hB : Bd n A') (x : Int64) (hD : D (wI (wO M1 x) 19 0 0 7 0) T' A' [] M4) : M4.1 19 0 0 7 = 0 ∧ M4.2 = (wO M1 x).2 ∧ J n M4 := by
  have hF := hD.2.2
  refine ⟨?_, hF.1, T', A', ((hC.wo x).w7 0).fm hF, hD.re, hI, hB, ((hR.wo x).w7 0).fm hF⟩
  rw [hF.2 _ _ _ _ (by omega) (by omega) (by omega) (by omega), wI_s]
abbrev okO (o2 : Int32) (M1 : Mem) : Option (Except Nat Int32 × Mem) := chk (inB (0 : Int32) 1) <| nm (wO M1 (o2.toInt64)) fun M3 => xok <| some ((0 : Int32), M3)
theorem LC_ok {q : Int32 → Int64 → Prop} {r7 : Option (Except Nat Int32 × Mem)} {g : Nat → Mem → Option (Except Nat Int32 × Mem)} {f : Mem → Option (Int32 × Mem)} {o : Int32} (h7 : r7 = some (.ok o, M1)) (hm : Sat (f (wO M1 o.toInt64)) (fun b M4 => b = o ∧ M4.1 19 0 0 7 = 0 ∧ M4.2 = (wO M1 o.toInt64).2 ∧ J n M4)) (hq : q o o.toInt64) : LC q (bndc r7 okO g) f n := by
  obtain ⟨b, M4, e, rfl, h1, h2, h3⟩ := hm
  refine ⟨_, 0, b, M4, ?_, e, h1, fun _ => ?_, h3⟩
  · rw [h7]
    show okO b M1 = _
    show chk (inB (0 : Int32) 1) _ = _
    rw [chk_h (by decide)]
    rfl
  · rw [h2]; exact hq
theorem LC_er {β : Type} {q : β → Int64 → Prop} {σ : Type} {r7 : Option (Except Nat σ × Mem)} {F : σ → Mem → Option (Except Nat Int32 × Mem)} {g : Nat → Mem → Option (Except Nat Int32 × Mem)} {f : Mem → Option (β × Mem)} {e : Nat} {k : Int32} {b : β} (h7 : r7 = some (.error e, M)) (hg : g e M = some (.ok k, M)) (hm : f M = some (b, M2)) (hk : M2.1 19 0 0 7 = k) (hk0 : ¬ k = 0) (hJ : J n M2) : LC q (bndc r7 F g) f n := by
  refine ⟨M, k, b, M2, ?_, hm, hk, fun z => absurd z hk0, hJ⟩
  rw [h7]
  exact hg
theorem m_fail (v : Int32) : pX8_fail v M = some (0, wI M 19 0 0 7 v) := rfl
theorem w7w7 (a b : Int32) : (wI (wI M 19 0 0 7 a) 19 0 0 7 b).1 19 0 0 7 = b := wI_s
theorem c_settle2 {g : Bool} {k : Nat} {M0 : Mem} {stk : List Nat} (h : C g true k M0 T A stk M) (hS : stk = [] ∨ SI T (mk T A stk) stk) (hL : (mk T A stk).2.1.length + 200 ≤ LIM) : Sat (pX3_settle k M) (fun _ M' => C g true k M0 T (fin T A stk) [] M') := by
  rcases hS with q | q
  · subst q
    rw [pX3_settle]
    show Sat (pX3_settle_2 k (4095 + 1) 0 M) _
    rw [pX3_settle_2, if_neg (show ¬ (1000 : Int32) ≤ 0 by decide), h.s15, if_pos (show nI ([] : List Nat).length ≤ (0 : Int32) from nI_le (b := 0) (Nat.le_refl 0) (by omega))]
    exact S_ret h
  · exact c_settle h q hL
theorem bndx_ok {σ ρ : Type} (o : σ) (M : Mem) (f : σ → Mem → Option (Except Nat ρ × Mem)) : bndx (some (.ok o, M)) f = f o M := rfl
theorem bndx_er {σ ρ : Type} (e : Nat) (M : Mem) (f : σ → Mem → Option (Except Nat ρ × Mem)) : bndx (some (.error e, M)) f = some (.error e, M) := rfl
theorem xok_s {σ : Type} (o : σ) (M : Mem) : xok (some (o, M)) = some (.ok o, M) := rfl
/-- the budgets -/
theorem Bd.lim (h : Bd n A) (hn : n ≤ 260000) : A.2.1.length + 800000000 ≤ LIM := by
  have := h.1
  rw [LIM_eq]
  omega
theorem Bd.ev (h : Bd n A) (h1 : A'.2.1.length ≤ A.2.1.length + 4600) (h2 : A'.1 10 3 = A.1 10 3) : Bd (n + 1) A' := ⟨by have := h.1; omega, by rw [h2]; have := h.2; omega⟩
theorem call_wake (hJ : J n M) (hn : n ≤ 260000) (v : Int32) : LC qI (pL_wake v M) (pX8_wake v) (n + 1) := by
  obtain ⟨T, A, hC, hD, hI, hB, hR⟩ := id hJ
  have hT := hI.T10
  have hL := hB.lim hn
  rw [pL_wake]
  by_cases e : isT T v = true
  · obtain ⟨t, ht, rfl⟩ := isT_t hT e
    obtain ⟨w1, w2, w3, w4, w5, w6⟩ := wk_ok (w := -1) hI ht (by omega)
    have h7 : Sat (pX7_wake (nI t) M) (fun o M' => o = .ok (wkR A t) ∧ C true true 0 M T (fin T (wkA A t (-1)) (wkS A t)) [] M') := by
      rw [pX7_wake, c_thr hC, if_pos e, bndx_ok]
      refine S_bnd (c_wake hC hI ht (-1) (by omega)) (fun o M1 h1 => ?_)
      obtain ⟨rfl, h1⟩ := h1
      refine S_bnd (c_settle2 h1 w1 (by omega)) (fun _ M2 h2 => ?_)
      exact S_ret ⟨rfl, h2⟩
    obtain ⟨_, M1, e7, rfl, h1⟩ := h7
    refine LC_ok (g := _) e7 ?_ rfl
    rw [pX8_wake, nm_def]
    have hD1 := J_mid (hD.fk h1.fkk) (wkR A t).toInt64
    rw [m_thr hD1, if_pos e, bnd_some, if_neg (by decide)]
    refine S_bnd (m_wake hD1 hI ht (-1) (by omega)) (fun o M4 h4 => ?_)
    obtain ⟨rfl, h4⟩ := h4
    exact S_ret ⟨rfl, J_fin h1.re ((hR.fk (by omega) h1.fkk).le (Nat.le_succ n)) w3 (hB.ev (by omega) (w4.1 3 (by omega))) _ h4⟩
  · refine LC_er (e := 3) (k := 1) (b := 0) (M2 := wI (wI M 19 0 0 7 0) 19 0 0 7 1) (by rw [pX7_wake, c_thr hC, if_neg e, bndx_er]) rfl ?_ (w7w7 _ _) (by decide) (J_le (J_w7 (J_w7 hJ 0) 1) (Nat.le_succ n))
    rw [pX8_wake, nm_def, m_thr (hD.w7 0), if_neg e, bnd_some, if_pos rfl, m_fail, bnd_some]
theorem ds_ok {t : Nat} (h : Inv T 10 A) (ht : t < T) (hL : A.2.1.length ≤ LIM) : (dsS A t = [] ∨ SI T (mk T (dsA A t) (dsS A t)) (dsS A t)) ∧ (mk T (dsA A t) (dsS A t)).2.1.length ≤ A.2.1.length + 2 ∧ Inv T 10 (fin T (dsA A t) (dsS A t)) ∧ Evo T A (fin T (dsA A t) (dsS A t)) ∧ (fin T (dsA A t) (dsS A t)).2.1.length ≤ A.2.1.length + 201 := by
  have hT := h.T10
  unfold dsA dsS
  by_cases e : A.1 t 3 = 1
  · rw [if_pos e, if_pos e]
    obtain ⟨s1, s2, s3⟩ := cm_ok h ht e (c := 4) (by omega) (by omega) hL
    exact ⟨Or.inr s1, s2, s3.1, s3.2.1, s3.2.2.1⟩
  · rw [if_neg e, if_neg e, fin_nil, mk_nil]
    refine ⟨Or.inl rfl, ?_⟩
    split
    · exact ⟨Nat.le_add_right _ _, h, Evo.refl T A, Nat.le_add_right _ _⟩
    · split
      · have r : ∀ a b, ¬ (a = t ∧ b = 5) → (up A t 5 1).1 a b = A.1 a b := fun a b q => by rw [up_e, if_neg q]
        refine ⟨Nat.le_add_right _ _, ?_, Evo.of (fun b hb => r _ _ (by omega)) (fun a b ha => r _ _ (by omega)) (fun u b hu hb => r _ _ (by omega)) (Nat.le_refl _), Nat.le_add_right _ _⟩
        refine Inv_min h (fun u b hu _ q _ _ _ _ _ _ => r _ _ (by omega)) (fun u hu => by rw [r _ _ (by omega)]; exact h.p4 u hu) (fun u hu => ?_) (fun a b ha => r _ _ (by omega)) (r _ _ (by omega)) (by rw [r 10 4 (by omega), r 10 5 (by omega), r 10 3 (by omega)]; exact h.2.2.2.2.2.1) rfl (Nat.le_refl _)
        by_cases eu : u = t
        · subst eu; rw [up_s]; right; rfl
        · rw [r _ _ (fun z => eu z.1)]; exact h.p5 u hu
      · exact ⟨Nat.le_add_right _ _, h, Evo.refl T A, Nat.le_add_right _ _⟩
theorem m_disturb {M0 : Mem} (h : D M0 T A [] M) (hI : Inv T 10 A) {t : Nat} (ht : t < T) (hL : A.2.1.length + 400 ≤ LIM) : Sat (bnd (pX8_of (nI t) (3 : Int32) M) fun o5 M4 => if ¬ o5 = (1 : Int32) then (bnd (pX8_of (nI t) (3 : Int32) M4) fun o7 M6 => if o7 < (3 : Int32) then (bnd (pX8_of (nI t) (5 : Int32) M6) fun o9 M8 => bnd (pX8_put (nI t) (5 : Int32) (1 : Int32) M8) fun o11 M10 => if ¬ o9 = (1 : Int32) then (some ((1 : Int32), M10))
    else some ((2 : Int32), M10))
    else some ((3 : Int32), M6))
    else bnd (pX8_comeBack (nI t) (4 : Int32) M4) fun o13 M12 => some ((0 : Int32), M12)) (fun o M' => o = dsR A t ∧ D M0 T (fin T (dsA A t) (dsS A t)) [] M') := by
  have hT := h.T10
  have sl := st_lt (A := A) rfl (hI.st ht)
  rw [m_of h ht 3 (x := 3) rfl (by omega), bnd_some]
  unfold dsR dsA dsS
  by_cases e1 : A.1 t 3 = 1
  · rw [if_neg (not_not_intro e1), if_pos e1, if_pos e1, if_pos e1]
    exact S_bnd (m_come h hI ht e1 (c := 4) (by omega) (by omega) (by omega)) (fun _ M4 h4 => S_ret ⟨rfl, h4⟩)
  · rw [if_pos e1, if_neg e1, if_neg e1, if_neg e1, m_of h ht 3 (x := 3) rfl (by omega), bnd_some]
    by_cases e2 : A.1 t 3 = 3 ∨ A.1 t 3 = 4
    · rw [if_pos e2, if_pos e2, if_neg (fun q => sl.mp q e2)]
      exact S_ret ⟨rfl, h⟩
    · rw [if_neg e2, if_neg e2, if_pos (sl.mpr e2), m_of h ht 5 (x := 5) rfl (by omega), bnd_some]
      refine S_bnd (m_put h ht 5 (x := 5) rfl (by omega) (by omega) 1) (fun _ M4 h4 => ?_)
      by_cases e5 : A.1 t 5 = 0
      · rw [if_pos e5, if_pos e5, if_pos (show ¬ A.1 t 5 = 1 by rw [e5]; decide)]
        exact S_ret ⟨rfl, h4⟩
      · have q5 : A.1 t 5 = 1 := by rcases hI.p5 t ht with z | z; exact absurd z e5; exact z
        rw [if_neg e5, if_neg e5, if_neg (not_not_intro q5)]
        rw [up_self q5] at h4
        exact S_ret ⟨rfl, h4⟩
theorem call_interrupt (hJ : J n M) (hn : n ≤ 260000) (v : Int32) : LC qI (pL_interrupt v M) (pX8_interrupt v) (n + 1) := by
  obtain ⟨T, A, hC, hD, hI, hB, hR⟩ := id hJ
  have hT := hI.T10
  have hL := hB.lim hn
  rw [pL_interrupt]
  by_cases e : isT T v = true
  · obtain ⟨t, ht, rfl⟩ := isT_t hT e
    obtain ⟨w1, w2, w3, w4, w5⟩ := ds_ok hI ht (by omega)
    have h7 : Sat (pX7_interrupt (nI t) M) (fun o M' => o = .ok (dsR A t) ∧ C true true 0 M T (fin T (dsA A t) (dsS A t)) [] M') := by
      rw [pX7_interrupt, c_thr hC, if_pos e, bndx_ok]
      refine S_bnd (c_disturb hC hI ht (by omega)) (fun o M1 h1 => ?_)
      obtain ⟨rfl, h1⟩ := h1
      refine S_bnd (c_settle2 h1 w1 (by omega)) (fun _ M2 h2 => ?_)
      exact S_ret ⟨rfl, h2⟩
    obtain ⟨_, M1, e7, rfl, h1⟩ := h7
    refine LC_ok (g := _) e7 ?_ rfl
    rw [pX8_interrupt, nm_def]
    have hD1 := J_mid (hD.fk h1.fkk) (dsR A t).toInt64
    rw [m_thr hD1, if_pos e, bnd_some, if_pos (show ¬ (1 : Int32) = 0 by decide)]
    refine S_mono (m_disturb hD1 hI ht (by omega)) (fun o M4 h4 => ?_)
    obtain ⟨rfl, h4⟩ := h4
    exact ⟨rfl, J_fin h1.re ((hR.fk (by omega) h1.fkk).le (Nat.le_succ n)) w3 (hB.ev (by omega) (w4.1 3 (by omega))) _ h4⟩
  · refine LC_er (e := 3) (k := 1) (b := 0) (M2 := wI (wI M 19 0 0 7 0) 19 0 0 7 1) (by rw [pX7_interrupt, c_thr hC, if_neg e, bndx_er]) rfl ?_ (w7w7 _ _) (by decide) (J_le (J_w7 (J_w7 hJ 0) 1) (Nat.le_succ n))
    rw [pX8_interrupt, nm_def, m_thr (hD.w7 0), if_neg e, bnd_some, if_neg (not_not_intro rfl), m_fail, bnd_some]
end CALL1
