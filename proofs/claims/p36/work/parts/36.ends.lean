/-! ===== ends: what one step keeps, what all keep ===== -/
theorem RI_mono {A A' : AS} {t : Nat} (h : RI A t) (e : ∀ b, 12 ≤ b → b < 16 → A'.1 t b = A.1 t b) (hl : A.2.1.length ≤ A'.2.1.length) : RI A' t := by
  unfold RI at h ⊢
  rw [e 12 (by omega) (by omega), e 13 (by omega) (by omega), e 14 (by omega) (by omega), e 15 (by omega) (by omega)]
  omega
theorem mk_done {T : Nat} {A : AS} {stk : List Nat} (h : ∀ t, t ∈ stk → A.1 t 3 = 3) : mk T A stk = A := by
  cases stk with
  | nil => rfl
  | cons t r =>
    show (if A.1 t 3 = 3 then A else _) = A
    rw [if_pos (h t List.mem_cons_self)]
theorem mk_ps {T u : Nat} {A : AS} {stk : List Nat} (h : Inv T u A) (hu : u < T) (h3 : ¬ A.1 u 3 = 2) (hs : ∀ t, t ∈ stk → t < T ∧ A.1 t 3 = 3) :
    Inv T 10 (mk T A (ps A u stk)) ∧ (∀ a b, ¬ (a = u ∧ b = 3) → (mk T A (ps A u stk)).1 a b = A.1 a b) ∧ ((mk T A (ps A u stk)).1 u 3 = A.1 u 3 ∨ (A.1 u 3 = 0 ∧ (mk T A (ps A u stk)).1 u 3 = 3)) ∧ (∀ t, t ∈ ps A u stk → t < T ∧ (mk T A (ps A u stk)).1 t 3 = 3) ∧ (mk T A (ps A u stk)).2.2 = A.2.2 ∧ A.2.1.length ≤ (mk T A (ps A u stk)).2.1.length ∧ (mk T A (ps A u stk)).2.1.length ≤ A.2.1.length + 1 ∧ (ps A u stk).length ≤ stk.length + 1 := by
  have hT := h.T10
  unfold ps
  by_cases e : A.1 u 3 = 0 ∧ A.1 u 2 = A.1 u 1
  · rw [if_pos e]
    have em : mk T A (u :: stk) = note (up A u 3 3) 5 (nI u) 0 := by
      show (if A.1 u 3 = 3 then A else _) = _
      rw [if_neg (by rw [e.1]; decide)]
    have rn : ∀ a b, ¬ (a = u ∧ b = 3) → (note (up A u 3 3) 5 (nI u) 0).1 a b = A.1 a b := fun a b q => by
      show (up A u 3 3).1 a b = _
      rw [up_e, if_neg q]
    have r3 : (note (up A u 3 3) 5 (nI u) 0).1 u 3 = 3 := up_s
    rw [em]
    refine ⟨?_, rn, Or.inr ⟨e.1, r3⟩, fun t ht => ?_, rfl, Nat.le_succ _, Nat.le_refl _, Nat.le_refl _⟩
    · obtain ⟨a1, ⟨z, q, b1, b2, b3, b4, b5, b6⟩, a3, a4, a5, a6, a7⟩ := h.2.1 u hu
      refine h.thr (Or.inr rfl) (fun v b q1 q2 => rn v b (by omega)) (rn _ _ (by omega)) (rn _ _ (by omega)) (rn _ _ (by omega)) (rn _ _ (by omega)) rfl (Nat.le_succ _) hu (rn _ _ (by omega)) ?_ 10 (Or.inl rfl) (fun _ z => ?_) (RI_mono (h.2.2.2.2.2.2 u hu) (fun b q1 q2 => rn _ _ (by omega)) (Nat.le_succ _))
      · refine ⟨?_, ⟨z, q, ?_, ?_, b3, b4, ?_, fun j hj => ?_⟩, ?_, ?_, ?_, fun z => ?_, fun _ => ?_⟩
        · rw [rn _ _ (by omega)]; exact a1
        · rw [rn _ _ (by omega)]; exact b1
        · rw [rn _ _ (by omega)]; exact b2
        · rw [rn _ _ (by omega), rn _ _ (by omega), rn _ _ (by omega)]; exact b5
        · rw [rn _ _ (by omega), rn _ _ (by omega)]; exact b6 j hj
        · rw [r3]; simp
        · rw [rn _ _ (by omega)]; exact a4
        · rw [rn _ _ (by omega)]; exact a5
        · rw [r3] at z; exact absurd z (by decide)
        · rw [rn _ _ (by omega)]; exact a7 h3
      · rw [r3] at z
        exact absurd z (by decide)
    · rcases List.mem_cons.mp ht with q | q
      · subst q; exact ⟨hu, r3⟩
      · refine ⟨(hs t q).1, ?_⟩
        by_cases e2 : t = u
        · subst e2; exact r3
        · rw [rn _ _ (fun z => e2 z.1)]; exact (hs t q).2
  · rw [if_neg e, mk_done (fun t ht => (hs t ht).2)]
    refine ⟨?_, fun _ _ _ => rfl, Or.inl rfl, hs, rfl, Nat.le_refl _, Nat.le_succ _, Nat.le_succ _⟩
    refine h.thr (Or.inr rfl) (fun v b _ _ => rfl) rfl rfl rfl rfl rfl (Nat.le_refl _) hu rfl (h.2.1 u hu) 10 (Or.inl rfl) (fun _ z => ?_) (h.2.2.2.2.2.2 u hu)
    rcases z with z | z
    · exact fun q => e ⟨z, q⟩
    · exact absurd z h3
/-- what stays through ends: all but states, places, progress and locks of those who waited -/
def Sm (A A' : AS) : Prop := (∀ a b, 10 ≤ a → ¬ a = 11 → A'.1 a b = A.1 a b) ∧ (∀ u b, ¬ b = 2 → ¬ b = 3 → ¬ b = 8 → ¬ b = 17 → u < 10 → A'.1 u b = A.1 u b) ∧ (∀ u b, u < 10 → ¬ A.1 u 3 = 2 → (b = 3 → ¬ A.1 u 3 = 0 ∨ ¬ A.1 u 2 = A.1 u 1) → A'.1 u b = A.1 u b) ∧ (∀ u, u < 10 → A'.1 u 3 = 1 → A.1 u 3 = 1) ∧ A.2.1.length ≤ A'.2.1.length
theorem gv_gen {T t l : Nat} {A : AS} {stk : List Nat} (h : SI T A stk) (hl : l < 6) (htl : A.1 11 l = nI t) (htT : t < T) : SI T (mk T (gv1 T A t l) (gvk T A t l stk)) (gvk T A t l stk) ∧ ms T (mk T (gv1 T A t l) (gvk T A t l stk)) (gvk T A t l stk) < ms T A stk ∧
    (mk T (gv1 T A t l) (gvk T A t l stk)).2.1.length ≤ A.2.1.length + 3 ∧ A.2.1.length ≤ (mk T (gv1 T A t l) (gvk T A t l stk)).2.1.length ∧ (∀ a b, 10 ≤ a → ¬ a = 11 → (mk T (gv1 T A t l) (gvk T A t l stk)).1 a b = A.1 a b) ∧ (∀ u b, ¬ b = 2 → ¬ b = 3 → ¬ b = 8 → ¬ b = 17 → u < 10 → (mk T (gv1 T A t l) (gvk T A t l stk)).1 u b = A.1 u b) ∧
    (∀ u b, u < 10 → ¬ A.1 u 3 = 2 → (mk T (gv1 T A t l) (gvk T A t l stk)).1 u b = A.1 u b) ∧ (∀ u, u < 10 → (mk T (gv1 T A t l) (gvk T A t l stk)).1 u 3 = 1 → A.1 u 3 = 1) := by
  obtain ⟨hI, hs, h10⟩ := h
  have hT := hI.T10
  unfold gv1 gvk
  cases en : nx T A l with
  | none =>
    have hw := nx_none en
    have r1 : ∀ a b, ¬ a = 11 → (gv0 A t l).1 a b = A.1 a b := fun a b ha => up_a ha
    have r11 : ∀ l', (gv0 A t l).1 11 l' = if l' = l then -1 else A.1 11 l' := fun l' => by
      show (up (note A 4 (nI t) (nI l)) 11 l (-1)).1 11 l' = _
      rw [up_e]
      by_cases e : l' = l
      · rw [if_pos ⟨rfl, e⟩, if_pos e]
      · rw [if_neg (fun q => e q.2), if_neg e]; rfl
    have hs' : ∀ u, u ∈ stk → u < T ∧ (gv0 A t l).1 u 3 = 3 := fun u hu => ⟨(hs u hu).1, by rw [r1 _ _ (by have := (hs u hu).1; omega)]; exact (hs u hu).2⟩
    show SI T (mk T (gv0 A t l) stk) stk ∧ ms T (mk T (gv0 A t l) stk) stk < _ ∧ (mk T (gv0 A t l) stk).2.1.length ≤ _ ∧ _ ≤ (mk T (gv0 A t l) stk).2.1.length ∧ (∀ a b, 10 ≤ a → ¬ a = 11 → (mk T (gv0 A t l) stk).1 a b = A.1 a b) ∧ (∀ u b, ¬ b = 2 → ¬ b = 3 → ¬ b = 8 → ¬ b = 17 → u < 10 → (mk T (gv0 A t l) stk).1 u b = A.1 u b) ∧ (∀ u b, u < 10 → ¬ A.1 u 3 = 2 → (mk T (gv0 A t l) stk).1 u b = A.1 u b) ∧ (∀ u, u < 10 → (mk T (gv0 A t l) stk).1 u 3 = 1 → A.1 u 3 = 1)
    rw [mk_done (fun u hu => (hs' u hu).2)]
    have hbl : bl T (gv0 A t l) ≤ bl T A := cnt_le T (fun u hu q => by rw [r1 _ _ (by omega)] at q; exact q)
    have hhd : hd (gv0 A t l) < hd A := cnt_lt (t := l) 6 (fun u hu q => by
      simp only [decide_eq_true_eq] at q ⊢
      rw [r11] at q
      by_cases e2 : u = l
      · rw [if_pos e2] at q; exact absurd rfl q
      · rw [if_neg e2] at q; exact q) hl (by
        simp only [decide_eq_true_eq]
        rw [htl]; exact m1_ne (by omega)) (by
        simp only [decide_eq_true_eq]
        rw [r11, if_pos rfl]; exact fun q => q rfl)
    refine ⟨⟨gv0_inv hI hl hw, hs', by omega⟩, by unfold ms; omega, ?_, ?_, fun a b q1 q2 => r1 a b q2, fun u b _ _ _ _ hu => r1 u b (by omega), fun u b hu _ => r1 u b (by omega), fun u hu q => by rw [r1 _ _ (by omega)] at q; exact q⟩
    · show A.2.1.length + 1 ≤ _
      omega
    · show _ ≤ A.2.1.length + 1
      omega
  | some u =>
    have hw := nx_some en
    obtain ⟨hu, hu8, hu3⟩ := hI.wat hl hw
    have rr := gvu_e (A := A) (t := t) (l := l) (show u < 10 by omega)
    have rn : ∀ a b, ¬ a = u → ¬ a = 11 → (gvu A t l u).1 a b = A.1 a b := fun a b q1 q2 => by
      rw [rr, if_neg q1, if_neg (fun z => q2 z.1)]
    have r11 : ∀ l', (gvu A t l u).1 11 l' = if l' = l then nI u else A.1 11 l' := fun l' => by
      rw [rr, if_neg (by omega)]
      by_cases e : l' = l
      · rw [if_pos ⟨rfl, e⟩, if_pos e]
      · rw [if_neg (fun z => e z.2), if_neg e]
    have ru3 : (gvu A t l u).1 u 3 = 0 := by rw [rr]; simp
    have hne : ∀ v, v ∈ stk → ¬ v = u := fun v hv z => by
      have := (hs v hv).2
      rw [z, hu3] at this
      exact absurd this (by decide)
    have hs' : ∀ v, v ∈ stk → v < T ∧ (gvu A t l u).1 v 3 = 3 := fun v hv => ⟨(hs v hv).1, by rw [rn _ _ (hne v hv) (by have := (hs v hv).1; omega)]; exact (hs v hv).2⟩
    obtain ⟨m1, m2, m3, m4, m5, m6, m7, m8⟩ := mk_ps (gvu_inv (t := t) hI hl hw) hu (by rw [ru3]; decide) hs'
    show SI T (mk T (gvu A t l u) (ps (gvu A t l u) u stk)) (ps (gvu A t l u) u stk) ∧ ms T (mk T (gvu A t l u) (ps (gvu A t l u) u stk)) (ps (gvu A t l u) u stk) < _ ∧ (mk T (gvu A t l u) (ps (gvu A t l u) u stk)).2.1.length ≤ _ ∧ _ ≤ (mk T (gvu A t l u) (ps (gvu A t l u) u stk)).2.1.length ∧ (∀ a b, 10 ≤ a → ¬ a = 11 → (mk T (gvu A t l u) (ps (gvu A t l u) u stk)).1 a b = A.1 a b) ∧ (∀ v b, ¬ b = 2 → ¬ b = 3 → ¬ b = 8 → ¬ b = 17 → v < 10 → (mk T (gvu A t l u) (ps (gvu A t l u) u stk)).1 v b = A.1 v b) ∧ (∀ v b, v < 10 → ¬ A.1 v 3 = 2 → (mk T (gvu A t l u) (ps (gvu A t l u) u stk)).1 v b = A.1 v b) ∧ (∀ v, v < 10 → (mk T (gvu A t l u) (ps (gvu A t l u) u stk)).1 v 3 = 1 → A.1 v 3 = 1)
    generalize mk T (gvu A t l u) (ps (gvu A t l u) u stk) = B at m1 m2 m3 m4 m5 m6 m7 ⊢
    have bn : ∀ a b, ¬ a = u → ¬ a = 11 → B.1 a b = A.1 a b := fun a b q1 q2 => by
      rw [m2 _ _ (fun z => q1 z.1), rn _ _ q1 q2]
    have hB3 : B.1 u 3 = 0 ∨ B.1 u 3 = 3 := by
      rcases m3 with q | q
      · left; rw [q, ru3]
      · right; exact q.2
    have hbl : bl T B < bl T A := cnt_lt (t := u) T (fun v hv q => by
      simp only [decide_eq_true_eq] at q ⊢
      by_cases e2 : v = u
      · rw [e2]; exact hu3
      · rw [bn _ _ e2 (by omega)] at q; exact q) hu (by
        simp only [decide_eq_true_eq]; exact hu3) (by
        simp only [decide_eq_true_eq]
        rcases hB3 with q | q <;> rw [q] <;> decide)
    have hhd : hd B ≤ hd A := cnt_le 6 (fun l' hl' q => by
      simp only [decide_eq_true_eq] at q ⊢
      rw [m2 _ _ (by omega), r11] at q
      by_cases e2 : l' = l
      · rw [e2, htl]; exact m1_ne (by omega)
      · rw [if_neg e2] at q; exact q)
    refine ⟨⟨m1, m4, by omega⟩, by unfold ms; omega, ?_, ?_, fun a b q1 q2 => bn a b (by omega) q2, fun v b q2 q3 q8 q17 hv => ?_, fun v b hv q => bn v b (fun z => q (by rw [z]; exact hu3)) (by omega), fun v hv q => ?_⟩
    · rw [gvu_2] at m7; omega
    · rw [gvu_2] at m6; omega
    · by_cases e2 : v = u
      · subst e2
        rw [m2 _ _ (fun z => q3 z.2), rr, if_pos rfl, if_neg q17, if_neg q2, if_neg q8, if_neg q3]
      · exact bn v b e2 (by omega)
    · by_cases e2 : v = u
      · subst e2
        rcases hB3 with z | z <;> rw [z] at q <;> exact absurd q (by decide)
      · rw [bn _ _ e2 (by omega)] at q; exact q
theorem gv_step {T t l : Nat} {A : AS} {r : List Nat} (h : SI T A (t :: r)) (e : low A t = some l) : SI T (mk T (gv1 T A t l) (gvk T A t l (t :: r))) (gvk T A t l (t :: r)) ∧ ms T (mk T (gv1 T A t l) (gvk T A t l (t :: r))) (gvk T A t l (t :: r)) < ms T A (t :: r) ∧
    (mk T (gv1 T A t l) (gvk T A t l (t :: r))).2.1.length ≤ A.2.1.length + 3 ∧ A.2.1.length ≤ (mk T (gv1 T A t l) (gvk T A t l (t :: r))).2.1.length ∧ (∀ a b, 10 ≤ a → ¬ a = 11 → (mk T (gv1 T A t l) (gvk T A t l (t :: r))).1 a b = A.1 a b) ∧ (∀ u b, ¬ b = 2 → ¬ b = 3 → ¬ b = 8 → ¬ b = 17 → u < 10 → (mk T (gv1 T A t l) (gvk T A t l (t :: r))).1 u b = A.1 u b) ∧
    (∀ u b, u < 10 → ¬ A.1 u 3 = 2 → (mk T (gv1 T A t l) (gvk T A t l (t :: r))).1 u b = A.1 u b) ∧ (∀ u, u < 10 → (mk T (gv1 T A t l) (gvk T A t l (t :: r))).1 u 3 = 1 → A.1 u 3 = 1) := gv_gen h (low_some e).1 (low_some e).2 (h.2.1 t List.mem_cons_self).1
theorem stl_ok {T : Nat} : ∀ (n : Nat) (stk : List Nat) (A : AS), SI T A stk → ms T A stk ≤ n → Inv T 10 (stl T n stk A) ∧ (stl T n stk A).2.1.length ≤ A.2.1.length + 3 * n ∧ A.2.1.length ≤ (stl T n stk A).2.1.length ∧ (∀ a b, 10 ≤ a → ¬ a = 11 → (stl T n stk A).1 a b = A.1 a b) ∧ (∀ u b, ¬ b = 2 → ¬ b = 3 → ¬ b = 8 → ¬ b = 17 → u < 10 → (stl T n stk A).1 u b = A.1 u b) ∧
    (∀ u b, u < 10 → ¬ A.1 u 3 = 2 → (stl T n stk A).1 u b = A.1 u b) ∧ (∀ u, u < 10 → (stl T n stk A).1 u 3 = 1 → A.1 u 3 = 1) := by
  intro n
  induction n with
  | zero => intro stk A h _; exact ⟨h.1, Nat.le_refl _, Nat.le_refl _, fun _ _ _ _ => rfl, fun _ _ _ _ _ _ _ => rfl, fun _ _ _ _ => rfl, fun _ _ q => q⟩
  | succ n ih =>
    intro stk A h hm
    cases stk with
    | nil => exact ⟨h.1, Nat.le_add_right _ _, Nat.le_refl _, fun _ _ _ _ => rfl, fun _ _ _ _ _ _ _ => rfl, fun _ _ _ _ => rfl, fun _ _ q => q⟩
    | cons t r =>
      rw [stl]
      cases e : low A t with
      | none =>
        have hlen : (t :: r).length = r.length + 1 := rfl
        unfold ms at hm
        have := ih r A ⟨h.1, fun u hu => h.2.1 u (List.mem_cons_of_mem _ hu), by have := h.2.2; omega⟩ (by unfold ms; omega)
        exact ⟨this.1, by have := this.2.1; dsimp only; omega, this.2.2⟩
      | some l =>
        obtain ⟨g1, g2, g3, g4, g5, g6, g7, g8⟩ := gv_step h e
        obtain ⟨i1, i2, i3, i4, i5, i6, i7⟩ := ih _ _ g1 (by omega)
        dsimp only
        refine ⟨i1, by omega, by omega, fun a b q1 q2 => (i4 a b q1 q2).trans (g5 a b q1 q2), fun u b q1 q2 q3 q4 q5 => (i5 u b q1 q2 q3 q4 q5).trans (g6 u b q1 q2 q3 q4 q5), fun u b q1 q2 => ?_, fun u q1 q2 => g8 u q1 (i7 u q1 q2)⟩
        rw [i6 u b q1 (by rw [g7 u 3 q1 q2]; exact q2), g7 u b q1 q2]
theorem si_mes {T : Nat} {A : AS} {stk : List Nat} (h : SI T A stk) : ms T A stk ≤ 46 := by
  have h1 := h.2.2
  have h2 : hd A ≤ 6 := cnt_n _ _
  unfold ms
  omega
