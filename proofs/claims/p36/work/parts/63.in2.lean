/-! ===== more of what a state keeps: deadlines, places of ends, parks and returns, runs, the locks of those that are done, the log ===== -/
section IN2
variable {T c c' t u l : Nat} {A A' B : AS} {stk stk' : List Nat} {s s' : SF}
def gE (T : Nat) (s : SF) (e : Ev) : Prop := ∃ k v, k < 10 ∧ v < T ∧ e.2.1 = nI k ∧ e.2.2.1 = nI v ∧ e.1.toInt ≤ (s 10 3).toInt ∧ (k = 1 → ∃ c, 1 ≤ c ∧ c ≤ 4 ∧ e.2.2.2 = nI c) ∧ (k = 7 → ¬ e.2.2.2 = -2) ∧ (k = 5 → s v 3 = 3) ∧ (k = 6 → s v 3 = 4)
def gT (s : SF) (t : Nat) : Prop := (¬ s t 3 = 1 → s t 7 = -1) ∧ (s t 3 = 3 → s t 2 = s t 1) ∧ (s t 3 = 4 → ¬ s t 2 = s t 1) ∧ s t 11 = (((s t 12 + s t 13) + s t 14) + s t 15) + (if s t 3 = 1 then 1 else 0)
def gR (c : Nat) (s : SF) (t : Nat) : Prop := 0 ≤ (s t 9).toInt ∧ (s t 9).toInt ≤ (s 10 3).toInt + c ∧ -1 ≤ (s t 10).toInt ∧ (s t 10).toInt < (s 10 3).toInt + c ∧ ((s t 9).toInt = 0 ↔ (s t 10).toInt < 0)
def In2 (c T : Nat) (stk : List Nat) (A : AS) : Prop := (∀ t, t < T → gT A.1 t) ∧ (∀ t, t < T → A.1 t 3 = 3 → ∀ l, l < 6 → A.1 11 l = nI t → t ∈ stk) ∧ (∀ t, t < T → gR c A.1 t) ∧ (∀ e, e ∈ A.2.1 → gE T A.1 e) ∧ A.2.1.Pairwise (fun a b => b.1.toInt ≤ a.1.toInt)
theorem gE.mono {e : Ev} (h : gE T s e) (e3 : (s 10 3).toInt ≤ (s' 10 3).toInt) (h3 : ∀ v, v < T → s v 3 = 3 → s' v 3 = 3) (h4 : ∀ v, v < T → s v 3 = 4 → s' v 3 = 4) : gE T s' e := by
  obtain ⟨k, v, a1, a2, a3, a4, a5, a6, a7, a8, a9⟩ := h
  exact ⟨k, v, a1, a2, a3, a4, Int.le_trans a5 e3, a6, a7, fun q => h3 v a2 (a8 q), fun q => h4 v a2 (a9 q)⟩
theorem gT_cong (h : gT s t) (e : ∀ b, b = 1 ∨ b = 2 ∨ b = 3 ∨ b = 7 ∨ (11 ≤ b ∧ b < 16) → s' t b = s t b) : gT s' t := by
  unfold gT
  rw [e 1 (by omega), e 2 (by omega), e 3 (by omega), e 7 (by omega), e 11 (by omega), e 12 (by omega), e 13 (by omega), e 14 (by omega), e 15 (by omega)]
  exact h
theorem gR_cong (h : gR c s t) (hc : c ≤ c') (e9 : s' t 9 = s t 9) (e10 : s' t 10 = s t 10) (et : s' 10 3 = s 10 3) : gR c' s' t := by
  obtain ⟨h1, h2, h3, h4, h5⟩ := h
  unfold gR
  rw [e9, e10, et]
  exact ⟨h1, by omega, h3, by omega, h5⟩
theorem In2.chg (h : In2 c T stk A) (hT : ∀ t, t < T → gT A'.1 t) (hR : ∀ t, t < T → gR c' A'.1 t) (hH : ∀ t, t < T → A'.1 t 3 = 3 → ∀ l, l < 6 → A'.1 11 l = nI t → t ∈ stk') (h3 : ∀ v, v < T → A.1 v 3 = 3 → A'.1 v 3 = 3) (h4 : ∀ v, v < T → A.1 v 3 = 4 → A'.1 v 3 = 4) (he : (A.1 10 3).toInt ≤ (A'.1 10 3).toInt) (eL : A'.2.1 = A.2.1) : In2 c' T stk' A' := by
  refine ⟨hT, hH, hR, ?_, ?_⟩
  · rw [eL]; exact fun e q => (h.2.2.2.1 e q).mono he h3 h4
  · rw [eL]; exact h.2.2.2.2
theorem In2.nt (h : In2 c T stk A) {k v : Nat} {kk its : Int32} (hkk : kk = nI k) (hk : k < 10) (hv : v < T) (h1 : k = 1 → ∃ c, 1 ≤ c ∧ c ≤ 4 ∧ its = nI c) (h7 : k = 7 → ¬ its = -2) (h5 : k = 5 → A.1 v 3 = 3) (h6 : k = 6 → A.1 v 3 = 4) : In2 c T stk (note A kk (nI v) its) := by
  refine ⟨h.1, h.2.1, h.2.2.1, ?_, ?_⟩
  · intro e q
    rcases List.mem_cons.mp q with q | q
    · subst q
      exact ⟨k, v, hk, hv, hkk, rfl, Int.le_refl _, h1, h7, h5, h6⟩
    · exact h.2.2.2.1 e q
  · refine List.pairwise_cons.mpr ⟨fun e q => ?_, h.2.2.2.2⟩
    obtain ⟨k', v', -, -, -, -, a5, -⟩ := h.2.2.2.1 e q
    exact a5
/-- one thread is changed -/
theorem In2.one (h : In2 c T stk A) (t : Nat) (hc : c ≤ c') (e1 : ∀ v b, v < T → ¬ v = t → A'.1 v b = A.1 v b) (e11 : ∀ l, l < 6 → A'.1 11 l = A.1 11 l) (e3 : A'.1 10 3 = A.1 10 3) (eL : A'.2.1 = A.2.1) (g1 : t < T → gT A'.1 t) (g2 : t < T → gR c' A'.1 t) (g3 : A'.1 t 3 = 3 → A.1 t 3 = 3) (k3 : A.1 t 3 = 3 → A'.1 t 3 = 3) (k4 : A.1 t 3 = 4 → A'.1 t 3 = 4) : In2 c' T stk A' := by
  refine h.chg (fun v hv => ?_) (fun v hv => ?_) (fun v hv q l hl q2 => ?_) (fun v hv q => ?_) (fun v hv q => ?_) (by rw [e3]; exact Int.le_refl _) eL
  · by_cases e : v = t
    · subst e; exact g1 hv
    · exact gT_cong (h.1 v hv) (fun b _ => e1 v b hv e)
  · by_cases e : v = t
    · subst e; exact g2 hv
    · exact gR_cong (h.2.2.1 v hv) hc (e1 v _ hv e) (e1 v _ hv e) e3
  · rw [e11 l hl] at q2
    by_cases e : v = t
    · subst e; exact h.2.1 v hv (g3 q) l hl q2
    · rw [e1 v 3 hv e] at q; exact h.2.1 v hv q l hl q2
  · by_cases e : v = t
    · subst e; exact k3 q
    · rw [e1 v 3 hv e]; exact q
  · by_cases e : v = t
    · subst e; exact k4 q
    · rw [e1 v 3 hv e]; exact q
/-- what bears on nothing of it -/
theorem In2.cong (h : In2 c T stk A) (e1 : ∀ v b, v < T → b = 1 ∨ b = 2 ∨ b = 3 ∨ b = 7 ∨ (9 ≤ b ∧ b < 16) → A'.1 v b = A.1 v b) (e11 : ∀ l, l < 6 → A'.1 11 l = A.1 11 l) (e3 : A'.1 10 3 = A.1 10 3) (eL : A'.2.1 = A.2.1) : In2 c T stk A' := by
  refine h.chg (fun v hv => gT_cong (h.1 v hv) (fun b q => e1 v b hv (by omega))) (fun v hv => gR_cong (h.2.2.1 v hv) (Nat.le_refl _) (e1 v _ hv (by omega)) (e1 v _ hv (by omega)) e3) (fun v hv q l hl q2 => ?_) (fun v hv q => ?_) (fun v hv q => ?_) (by rw [e3]; exact Int.le_refl _) eL
  · rw [e11 l hl] at q2; rw [e1 v 3 hv (by omega)] at q; exact h.2.1 v hv q l hl q2
  · rw [e1 v 3 hv (by omega)]; exact q
  · rw [e1 v 3 hv (by omega)]; exact q
theorem In2.up (h : In2 c T stk A) {a b : Nat} {v : Int32} (hT : T ≤ 10) (ha : ¬ a = 11) (hb : ¬ (a = 10 ∧ b = 3)) (hab : 10 ≤ a ∨ (¬ b = 1 ∧ ¬ b = 2 ∧ ¬ b = 3 ∧ ¬ b = 7 ∧ (b < 9 ∨ 16 ≤ b))) : In2 c T stk (up A a b v) :=
  h.cong (fun x y hx hy => by rw [up_e, if_neg (by omega)]) (fun l _ => by rw [up_e, if_neg (by omega)]) (by rw [up_e, if_neg (by omega)]) rfl
theorem In2.le (h : In2 c T stk A) (hc : c ≤ c') : In2 c' T stk A := ⟨h.1, h.2.1, fun t ht => gR_cong (h.2.2.1 t ht) hc rfl rfl rfl, h.2.2.2.1, h.2.2.2.2⟩
/-! ends -/
theorem in2_mk (h : In2 c T stk A) (hT : T ≤ 10) (hu : u < T) (hs : ∀ t, t ∈ stk → A.1 t 3 = 3) : In2 c T (ps A u stk) (mk T A (ps A u stk)) := by
  unfold ps
  by_cases e : A.1 u 3 = 0 ∧ A.1 u 2 = A.1 u 1
  · rw [if_pos e]
    have em : mk T A (u :: stk) = note (up A u 3 3) 5 (nI u) 0 := by
      show (if A.1 u 3 = 3 then A else _) = _
      rw [if_neg (by rw [e.1]; decide)]
    rw [em]
    have r3 : (up A u 3 3).1 u 3 = 3 := up_s
    have rn : ∀ b, ¬ b = 3 → (up A u 3 3).1 u b = A.1 u b := fun b q => up_b q
    refine In2.nt ?_ (k := 5) rfl (by omega) hu (by omega) (by omega) (fun _ => r3) (by omega)
    refine h.chg (fun v hv => ?_) (fun v hv => gR_cong (h.2.2.1 v hv) (Nat.le_refl _) ?_ ?_ ?_) (fun v hv q l hl q2 => ?_) (fun v hv q => ?_) (fun v hv q => ?_) ?_ rfl
    · by_cases ev : v = u
      · subst ev
        obtain ⟨a1, a2, a3, a4⟩ := h.1 v hv
        unfold gT
        rw [r3, rn 1 (by omega), rn 2 (by omega), rn 7 (by omega), rn 11 (by omega), rn 12 (by omega), rn 13 (by omega), rn 14 (by omega), rn 15 (by omega)]
        rw [e.1, if_neg (by decide)] at a4
        exact ⟨fun _ => a1 (by rw [e.1]; decide), fun _ => e.2, fun q => absurd q (by decide), by rw [if_neg (by decide)]; exact a4⟩
      · exact gT_cong (h.1 v hv) (fun b _ => up_a ev)
    · rw [up_e, if_neg (by omega)]
    · rw [up_e, if_neg (by omega)]
    · rw [up_e, if_neg (by omega)]
    · rw [up_e, if_neg (by omega)] at q2
      by_cases ev : v = u
      · subst ev; exact List.mem_cons_self
      · rw [up_a ev] at q
        exact List.mem_cons_of_mem _ (h.2.1 v hv q l hl q2)
    · by_cases ev : v = u
      · subst ev; rw [e.1] at q; exact absurd q (by decide)
      · rw [up_a ev]; exact q
    · by_cases ev : v = u
      · subst ev; rw [e.1] at q; exact absurd q (by decide)
      · rw [up_a ev]; exact q
    · rw [up_e, if_neg (by omega)]; exact Int.le_refl _
  · rw [if_neg e, mk_done hs]
    exact h
end IN2
