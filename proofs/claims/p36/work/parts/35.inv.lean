/-! ===== what ends keep ===== -/
def cnt (p : Nat → Bool) : Nat → Nat
  | 0 => 0
  | n + 1 => (if p n = true then 1 else 0) + cnt p n
theorem cnt_n (p : Nat → Bool) : ∀ n, cnt p n ≤ n := by
  intro n
  induction n with
  | zero => exact Nat.le_refl 0
  | succ n ih => rw [cnt]; split <;> omega
theorem cnt_le {p q : Nat → Bool} : ∀ n, (∀ u, u < n → p u = true → q u = true) → cnt p n ≤ cnt q n := by
  intro n
  induction n with
  | zero => intro _; exact Nat.le_refl 0
  | succ n ih =>
    intro h
    have a := ih (fun u hu => h u (by omega))
    have b := h n (by omega)
    rw [cnt, cnt]
    by_cases e : p n = true
    · rw [if_pos e, if_pos (b e)]; omega
    · rw [if_neg e]; split <;> omega
theorem cnt_lt {p q : Nat → Bool} {t : Nat} : ∀ n, (∀ u, u < n → p u = true → q u = true) → t < n → q t = true → ¬ p t = true → cnt p n < cnt q n := by
  intro n
  induction n with
  | zero => intro _ h; omega
  | succ n ih =>
    intro h ht hq hp
    rw [cnt, cnt]
    by_cases e : t = n
    · subst e
      have a := cnt_le t (fun u hu => h u (by omega))
      rw [if_neg hp, if_pos hq]; omega
    · have a := ih (fun u hu => h u (by omega)) (by omega) hq hp
      have b := h n (by omega)
      by_cases e2 : p n = true
      · rw [if_pos e2, if_pos (b e2)]; omega
      · rw [if_neg e2]; split <;> omega
def bl (T : Nat) (A : AS) : Nat := cnt (fun u => decide (A.1 u 3 = 2)) T
def hd (A : AS) : Nat := cnt (fun l => decide (¬ A.1 11 l = -1)) 6
def ms (T : Nat) (A : AS) (stk : List Nat) : Nat := 3 * bl T A + hd A + stk.length
def SI (T : Nat) (A : AS) (stk : List Nat) : Prop := Inv T 10 A ∧ (∀ t, t ∈ stk → t < T ∧ A.1 t 3 = 3) ∧ bl T A + stk.length ≤ 10
theorem TI_cong {T : Nat} {s s' : SF} {t : Nat} (h : TI T s t) (e0 : s' t 0 = s t 0) (e1 : s' t 1 = s t 1) (e2 : s' t 2 = s t 2) (e3 : s' t 3 = s t 3) (e4 : s' t 4 = s t 4) (e5 : s' t 5 = s t 5) (e8 : s' t 8 = s t 8) (e17 : s' t 17 = s t 17) (ec : ∀ j, s' 12 j = s 12 j) (en : ∀ j, s' 13 j = s 13 j)
    (eh : ∀ l v, l < 6 → s t 8 = nI l → v < T → s 11 l = nI v → ¬ v = t → ∃ w, w < T ∧ s' 11 l = nI w ∧ ¬ w = t) : TI T s' t := by
  obtain ⟨a1, ⟨z, q, b1, b2, b3, b4, b5, b6⟩, a3, a4, a5, a6, a7⟩ := h
  refine ⟨by rw [e0]; exact a1, ⟨z, q, by rw [e1]; exact b1, by rw [e2]; exact b2, b3, b4, ?_, fun j hj => ?_⟩, by rw [e3]; exact a3, by rw [e4]; exact a4, by rw [e5]; exact a5, fun e => ?_, fun e => ?_⟩
  · rw [e17, ec, en]; exact b5
  · rw [ec, en]; exact b6 j hj
  · rw [e3] at e
    obtain ⟨l, v, c1, c2, c3, c4, c5⟩ := a6 e
    obtain ⟨w, d1, d2, d3⟩ := eh l v c1 c2 c3 c4 c5
    exact ⟨l, w, c1, by rw [e8]; exact c2, d1, d2, d3⟩
  · rw [e3] at e
    rw [e8]; exact a7 e
/-- one thread is changed (and what is one for all, but for the number of threads, the time, x and the flags) -/
theorem Inv.thr {T ex t : Nat} {A A' : AS} (h : Inv T ex A) (hex : ex = 10 ∨ ex = t) (e1 : ∀ u b, ¬ u = t → ¬ u = 10 → A'.1 u b = A.1 u b) (e2 : A'.1 10 2 = A.1 10 2) (e3 : A'.1 10 3 = A.1 10 3) (e4 : A'.1 10 4 = A.1 10 4) (e5 : A'.1 10 5 = A.1 10 5) (eW : A'.2.2 = A.2.2) (eL : A.2.1.length ≤ A'.2.1.length) (ht : t < T)
    (e8 : A'.1 t 8 = A.1 t 8) (hTI : TI T A'.1 t) (ex' : Nat) (hex' : ex' = 10 ∨ ex' = t) (hZ : ¬ t = ex' → ZI A'.1 t) (hR : RI A' t) : Inv T ex' A' := by
  obtain ⟨h1, h2, h3, h4, h5, h6, h7⟩ := h
  have hT := h1.1
  refine ⟨⟨hT, by rw [e2]; exact h1.2⟩, fun u hu => ?_, fun u hu hue => ?_, fun l hl => ?_, fun l hl => ?_, ?_, fun u hu => ?_⟩
  · by_cases e : u = t
    · subst e; exact hTI
    · have g := fun b => e1 u b e (by omega)
      refine TI_cong (h2 u hu) (g _) (g _) (g _) (g _) (g _) (g _) (g _) (g _) (fun j => e1 12 j (by omega) (by omega)) (fun j => e1 13 j (by omega) (by omega)) (fun l v c1 c2 c3 c4 c5 => ⟨v, c3, ?_, c5⟩)
      rw [e1 11 l (by omega) (by omega)]; exact c4
  · by_cases e : u = t
    · subst e; exact hZ hue
    · have g := fun b => e1 u b e (by omega)
      have := h3 u hu (by omega)
      unfold ZI at this ⊢
      rw [g, g, g]
      exact this
  · rw [e1 11 l (by omega) (by omega)]; exact h4 l hl
  · rw [eW]
    refine ⟨(h5 l hl).1, fun u => ?_⟩
    rw [(h5 l hl).2 u]
    refine and_congr_right (fun hu => ?_)
    by_cases e : u = t
    · subst e; rw [e8]
    · rw [e1 u 8 e (by omega)]
  · rw [e3, e4, e5]; exact h6
  · by_cases e : u = t
    · subst e; exact hR
    · have g := fun b => e1 u b e (by omega)
      have := h7 u hu
      unfold RI at this ⊢
      rw [g, g, g, g]
      omega
theorem Inv.T10 {T ex : Nat} {A : AS} (h : Inv T ex A) : T ≤ 10 := h.1.1
theorem Inv.base {T ex : Nat} {A : AS} (h : Inv T ex A) : ∀ t, t < T → 1 ≤ (A.1 t 0).toInt := fun t ht => (h.2.1 t ht).1.1
theorem Inv.wlt {T ex : Nat} {A : AS} (h : Inv T ex A) {l : Nat} (hl : l < 6) : ∀ w, w ∈ A.2.2 l → w < T := fun w hw => (((h.2.2.2.2.1 l hl).2 w).mp hw).1
/-- one who waits at l -/
theorem Inv.wat {T ex : Nat} {A : AS} (h : Inv T ex A) {l u : Nat} (hl : l < 6) (hu : u ∈ A.2.2 l) : u < T ∧ A.1 u 8 = nI l ∧ A.1 u 3 = 2 := by
  obtain ⟨h1, h2⟩ := ((h.2.2.2.2.1 l hl).2 u).mp hu
  refine ⟨h1, h2, ?_⟩
  obtain ⟨-, -, -, -, -, -, a7⟩ := h.2.1 u h1
  by_cases e : A.1 u 3 = 2
  · exact e
  · have := a7 e
    rw [h2] at this
    exact absurd this (m1_ne (by omega))
theorem Inv.none {T ex : Nat} {A : AS} (h : Inv T ex A) {l : Nat} (hl : l < 6) (hw : A.2.2 l = []) {u : Nat} (hu : u < T) : ¬ A.1 u 8 = nI l := by
  intro e
  have := ((h.2.2.2.2.1 l hl).2 u).mpr ⟨hu, e⟩
  rw [hw] at this
  cases this
theorem lowF_some {f : Nat → Int32} {x : Int32} {l : Nat} : ∀ n i, lowF f x n i = some l → i ≤ l ∧ l < i + n ∧ f l = x := by
  intro n
  induction n with
  | zero => intro i h; cases h
  | succ n ih =>
    intro i h
    rw [lowF] at h
    by_cases e : f i = x
    · rw [if_pos e] at h; cases h; exact ⟨Nat.le_refl _, by omega, e⟩
    · rw [if_neg e] at h
      have := ih (i + 1) h
      exact ⟨by omega, by omega, this.2.2⟩
theorem low_some {A : AS} {t l : Nat} (h : low A t = some l) : l < 6 ∧ A.1 11 l = nI t := by
  have := lowF_some 6 0 h
  exact ⟨by omega, this.2.2⟩
theorem nx_none {T : Nat} {A : AS} {l : Nat} (h : nx T A l = none) : A.2.2 l = [] := by
  unfold nx bst at h
  split at h
  · assumption
  · cases h
theorem nx_some {T : Nat} {A : AS} {l u : Nat} (h : nx T A l = some u) : u ∈ A.2.2 l := bst_mem h
/-! a lock given up with nobody waiting -/
theorem gv0_inv {T t l : Nat} {A : AS} (h : Inv T 10 A) (hl : l < 6) (hw : A.2.2 l = []) : Inv T 10 (gv0 A t l) := by
  obtain ⟨h1, h2, h3, h4, h5, h6, h7⟩ := id h
  have hT := h1.1
  have r : ∀ a b, ¬ a = 11 → (gv0 A t l).1 a b = A.1 a b := fun a b ha => up_a ha
  have r11 : ∀ l', (gv0 A t l).1 11 l' = if l' = l then -1 else A.1 11 l' := fun l' => by
    show (up (note A 4 (nI t) (nI l)) 11 l (-1)).1 11 l' = _
    rw [up_e]
    by_cases e : l' = l
    · rw [if_pos ⟨rfl, e⟩, if_pos e]
    · rw [if_neg (fun q => e q.2), if_neg e]; rfl
  have hn : ∀ u, u < T → ¬ A.1 u 8 = nI l := fun u hu => h.none hl hw hu
  refine ⟨⟨hT, by rw [r _ _ (by omega)]; exact h1.2⟩, fun u hu => ?_, fun u hu hue => ?_, fun l' hl' => ?_, fun l' hl' => ⟨(h5 l' hl').1, fun u => ?_⟩, ?_, fun u hu => ?_⟩
  · have g := fun b => r u b (by omega)
    refine TI_cong (h2 u hu) (g _) (g _) (g _) (g _) (g _) (g _) (g _) (g _) (fun j => r _ _ (by omega)) (fun j => r _ _ (by omega)) (fun l' v c1 c2 c3 c4 c5 => ⟨v, c3, ?_, c5⟩)
    rw [r11, if_neg (fun e => hn u hu (by rw [← e]; exact c2))]; exact c4
  · have g := fun b => r u b (by omega)
    have := h3 u hu hue
    unfold ZI at this ⊢
    rw [g, g, g]; exact this
  · rw [r11]
    by_cases e : l' = l
    · rw [if_pos e]; exact Or.inl rfl
    · rw [if_neg e]; exact h4 l' hl'
  · rw [show (gv0 A t l).2.2 = A.2.2 from rfl, (h5 l' hl').2 u]
    exact and_congr_right (fun hu => by rw [r _ _ (by omega)])
  · rw [r _ _ (by omega), r _ _ (by omega), r _ _ (by omega)]; exact h6
  · have g := fun b => r u b (by omega)
    have := h7 u hu
    unfold RI at this ⊢
    rw [g, g, g, g, show (gv0 A t l).2.1.length = A.2.1.length + 1 from rfl]
    omega
/-! a lock handed on to u; its end told, if it ends -/
theorem gvu_e {A : AS} {t l u : Nat} (hu10 : u < 10) (a b : Nat) : (gvu A t l u).1 a b = if a = u then (if b = 17 then 0 else if b = 2 then A.1 u 2 + 1 else if b = 8 then -1 else if b = 3 then 0 else A.1 u b) else if a = 11 ∧ b = l then nI u else A.1 a b := by
  have e0 : (rmW (up (note A 4 (nI t) (nI l)) 11 l (nI u)) l u).1 = (up A 11 l (nI u)).1 := rfl
  unfold gvu goB
  simp only [up_e, inc_e, note_1, e0]
  by_cases ea : a = u
  · subst ea
    simp only [true_and, if_true]
    have : ¬ a = 11 := by omega
    by_cases e17 : b = 17
    · simp [e17]
    · by_cases e2 : b = 2
      · subst e2; simp [this]
      · simp [e17, e2, this]
  · simp [ea]
theorem gvu_2 {A : AS} {t l u : Nat} : (gvu A t l u).2.1.length = A.2.1.length + 2 := rfl
theorem gvu_w {A : AS} {t l u : Nat} (l' : Nat) : (gvu A t l u).2.2 l' = if l' = l then (A.2.2 l).filter (fun v => decide (¬ v = u)) else A.2.2 l' := rfl
theorem gvu_inv {T t l u : Nat} {A : AS} (h : Inv T 10 A) (hl : l < 6) (hw : u ∈ A.2.2 l) : Inv T u (gvu A t l u) := by
  obtain ⟨h1, h2, h3, h4, h5, h6, h7⟩ := id h
  have hT := h1.1
  obtain ⟨hu, hu8, hu3⟩ := h.wat hl hw
  have r := gvu_e (A := A) (t := t) (l := l) (show u < 10 by omega)
  have rn : ∀ a b, ¬ a = u → ¬ a = 11 → (gvu A t l u).1 a b = A.1 a b := fun a b q1 q2 => by
    rw [r, if_neg q1, if_neg (fun z => q2 z.1)]
  have r11 : ∀ l', (gvu A t l u).1 11 l' = if l' = l then nI u else A.1 11 l' := fun l' => by
    rw [r, if_neg (by omega)]
    by_cases e : l' = l
    · rw [if_pos ⟨rfl, e⟩, if_pos e]
    · rw [if_neg (fun z => e z.2), if_neg e]
  refine ⟨⟨hT, by rw [rn _ _ (by omega) (by omega)]; exact h1.2⟩, fun v hv => ?_, fun v hv hve => ?_, fun l' hl' => ?_, fun l' hl' => ?_, ?_, fun v hv => ?_⟩
  · by_cases e : v = u
    · subst e
      obtain ⟨a1, ⟨z, q, b1, b2, b3, b4, b5, b6⟩, a3, a4, a5, a6, a7⟩ := h2 v hv
      have hq : q < z := by
        have := h3 v hv (by omega) (Or.inr hu3)
        rw [b1, b2] at this
        have : ¬ q = z := fun e => this (by rw [e])
        omega
      refine ⟨?_, ⟨z, q + 1, ?_, ?_, by omega, b4, Or.inl ?_, fun j hj => ?_⟩, Or.inl ?_, ?_, ?_, fun e => ?_, fun _ => ?_⟩
      · rw [r]; simpa using a1
      · rw [r]; simpa using b1
      · rw [r]; simp [b2, nI_1]
      · rw [r]; simp
      · rw [rn _ _ (by omega) (by omega), rn _ _ (by omega) (by omega)]; exact b6 j hj
      · rw [r]; simp
      · rw [r]; simpa using a4
      · rw [r]; simpa using a5
      · rw [r] at e
        exact absurd e (by simp)
      · rw [r]; simp
    · have g := fun b => rn v b e (by omega)
      refine TI_cong (h2 v hv) (g _) (g _) (g _) (g _) (g _) (g _) (g _) (g _) (fun j => rn _ _ (by omega) (by omega)) (fun j => rn _ _ (by omega) (by omega)) (fun l' w c1 c2 c3 c4 c5 => ?_)
      rw [r11]
      by_cases e2 : l' = l
      · rw [if_pos e2]; exact ⟨u, hu, rfl, fun z => e z.symm⟩
      · rw [if_neg e2]; exact ⟨w, c3, c4, c5⟩
  · have g := fun b => rn v b hve (by omega)
    have := h3 v hv (by omega)
    unfold ZI at this ⊢
    rw [g, g, g]; exact this
  · rw [r11]
    by_cases e : l' = l
    · rw [if_pos e]; exact Or.inr ⟨u, hu, rfl⟩
    · rw [if_neg e]; exact h4 l' hl'
  · rw [gvu_w]
    by_cases e : l' = l
    · subst e
      rw [if_pos rfl]
      refine ⟨(h5 l' hl').1.filter _, fun v => ?_⟩
      rw [List.mem_filter, (h5 l' hl').2 v]
      by_cases e2 : v = u
      · subst e2
        rw [r]
        simp only [not_true, decide_false, Bool.false_eq_true, and_false, if_true, false_iff, not_and]
        intro _
        simp
        exact fun z => m1_ne (n := l') (by omega) z.symm
      · constructor
        · rintro ⟨⟨q1, q2⟩, -⟩
          exact ⟨q1, by rw [rn _ _ e2 (by omega)]; exact q2⟩
        · rintro ⟨q1, q2⟩
          rw [rn _ _ e2 (by omega)] at q2
          exact ⟨⟨q1, q2⟩, by simp [e2]⟩
    · rw [if_neg e]
      refine ⟨(h5 l' hl').1, fun v => ?_⟩
      rw [(h5 l' hl').2 v]
      refine and_congr_right (fun hv => ?_)
      by_cases e2 : v = u
      · subst e2
        rw [r, hu8]
        simp
        constructor
        · exact fun z => absurd (nI_inj (by omega) (by omega) z).symm e
        · exact fun z => absurd z.symm (m1_ne (by omega))
      · rw [rn _ _ e2 (by omega)]
  · rw [rn _ _ (by omega) (by omega), rn _ _ (by omega) (by omega), rn _ _ (by omega) (by omega)]; exact h6
  · have := h7 v hv
    unfold RI at this ⊢
    rw [gvu_2]
    by_cases e : v = u
    · subst e
      rw [r, r, r, r]
      simp
      omega
    · have g := fun b => rn v b e (by omega)
      rw [g, g, g, g]
      omega
