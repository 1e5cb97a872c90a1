/-! ===== the class's priorities ===== -/
def Qs (h : Nat → Option Nat) (i j t u : Nat) : Prop := u = t ∨ (u < i ∧ ∃ m, 1 ≤ m ∧ m ≤ 10 ∧ wk h m u = some t) ∨ (u = i ∧ ∃ m, 1 ≤ m ∧ m ≤ j ∧ wk h m u = some t)
section REFR
variable {g p : Bool} {k : Nat} {M0 : Mem} {T : Nat} {A : AS} {stk : List Nat} {M : Mem}
theorem c_blocker (h : C g p k M0 T A stk M) (hi : Hi T A.1) {u : Nat} (hu : u < T) : pX3_blockerOf k (nI u) M = some (onI (hop T A.1 u), M) := by
  have hT := h.T10
  have r : M.1 5 k u 14 = A.1 u 8 := h.th hu 8 rfl
  rw [pX3_blockerOf, chk_h (inB_nI (by omega) (by omega)), cl (by omega), nm_def, r]
  rcases hiHop hi hT hu with ⟨e1, e2⟩ | ⟨l, hl, e1, ⟨e3, e2⟩ | ⟨v, hv, e3, e2⟩⟩
  · rw [if_neg (fun c => c e1), e2]; rfl
  · rw [if_pos (by rw [e1]; exact m1_ne (by omega)), e1, chk_h (inB_nI (by omega) (by omega)), cl (by omega), h.ho hl, e2, e3]; rfl
  · rw [if_pos (by rw [e1]; exact m1_ne (by omega)), e1, chk_h (inB_nI (by omega) (by omega)), cl (by omega), h.ho hl, e2, e3]; rfl
def Pz (k T i j : Nat) (A : AS) (M : Mem) : Prop := ∀ t, t < T → isMx (Qs (hop T A.1) i j t) (fun u => A.1 u 0) (M.1 5 k t 5)
theorem Qs_end {h : Nat → Option Nat} {i j t u : Nat} (e : j = 10 ∨ wk h (j + 1) i = none) (hj : j ≤ 10) : Qs h i j t u ↔ Qs h (i + 1) 0 t u := by
  unfold Qs
  constructor
  · rintro (h1 | ⟨h1, h2⟩ | ⟨h1, m, h2, h3, h4⟩)
    · exact Or.inl h1
    · exact Or.inr (Or.inl ⟨by omega, h2⟩)
    · exact Or.inr (Or.inl ⟨by omega, m, h2, by omega, h4⟩)
  · rintro (h1 | ⟨h1, m, h2, h3, h4⟩ | ⟨h1, m, h2, h3, h4⟩)
    · exact Or.inl h1
    · by_cases e2 : u = i
      · subst e2
        refine Or.inr (Or.inr ⟨rfl, m, h2, ?_, h4⟩)
        rcases e with e | e
        · omega
        · by_cases e3 : m ≤ j
          · exact e3
          · rw [wk_none e m (by omega)] at h4; cases h4
      · exact Or.inr (Or.inl ⟨by omega, m, h2, h3, h4⟩)
    · omega
theorem Qs_step {h : Nat → Option Nat} {i j t v u : Nat} (e : wk h (j + 1) i = some v) : Qs h i (j + 1) t u ↔ (Qs h i j t u ∨ (v = t ∧ u = i)) := by
  unfold Qs
  constructor
  · rintro (h1 | h1 | ⟨h1, m, h2, h3, h4⟩)
    · exact Or.inl (Or.inl h1)
    · exact Or.inl (Or.inr (Or.inl h1))
    · by_cases e2 : m ≤ j
      · exact Or.inl (Or.inr (Or.inr ⟨h1, m, h2, e2, h4⟩))
      · have : m = j + 1 := by omega
        subst this
        subst h1
        rw [e] at h4
        cases h4
        exact Or.inr ⟨rfl, rfl⟩
  · rintro ((h1 | h1 | ⟨h1, m, h2, h3, h4⟩) | ⟨h1, h2⟩)
    · exact Or.inl h1
    · exact Or.inr (Or.inl h1)
    · exact Or.inr (Or.inr ⟨h1, m, h2, by omega, h4⟩)
    · subst h1
      exact Or.inr (Or.inr ⟨h2, j + 1, by omega, by omega, by rw [h2]; exact e⟩)
theorem c_ref70 (hi : Hi T A.1) {ρ : Type} {Q : ρ → Mem → Prop} {i : Nat} (hiT : i < T) : ∀ (n j : Nat) (M : Mem) (k54 : Int32 → Mem → Option (Unit × Mem)) (Q : Unit → Mem → Prop), j ≤ 10 → 10 - j < n → C g false k M0 T A stk M → Pz k T i j A M → (∀ M', C g false k M0 T A stk M' → Pz k T (i + 1) 0 A M' → Sat (k54 (nI i + 1) M') Q) → Sat (pX3_refreshPriorities_70 k k54 n (nI i) (onI (wk (hop T A.1) (j + 1) i)) (nI j) M) Q := by
  intro n
  induction n with
  | zero => intro j M k54 Q _ hn; omega
  | succ n ih =>
    intro j M k54 Q hj hn h hP K
    have hT := h.T10
    rw [pX3_refreshPriorities_70]
    by_cases e : j = 10
    · subst e
      rw [if_pos (show (10 : Int32) ≤ nI 10 from nI_le (a := 10) (by omega) (by omega))]
      exact K M h (fun t ht => isMx_iff (hP t ht) (fun u => Qs_end (Or.inl rfl) hj))
    · rw [if_neg (show ¬ (10 : Int32) ≤ nI j from nI_ge (b := 10) (by omega) (by omega))]
      cases e2 : wk (hop T A.1) (j + 1) i with
      | none =>
        rw [if_pos onI_none]
        exact K M h (fun t ht => isMx_iff (hP t ht) (fun u => Qs_end (Or.inr e2) hj))
      | some v =>
        have hv : v < T := hiWkLt hi hT hiT _ _ e2
        have hb : M.1 5 k i 4 = A.1 i 0 := h.th hiT 0 rfl
        rw [onI_some, if_neg (m1_ne (by omega)), chk_h (inB_nI (by omega) (by omega)), chk_h (inB_nI (by omega) (by omega)), chk_h (inB_nI (by omega) (by omega)), cl (by omega), cl (by omega), hb]
        have h2 := h.scr (kd := 5) (i := v) (j := 5) (v := if M.1 5 k v 5 < A.1 i 0 then A.1 i 0 else M.1 5 k v 5) (Or.inl ⟨rfl, rfl⟩)
        rw [nm_def, c_blocker h2 hi hv, bnd_some, nI_1]
        have e3 : hop T A.1 v = wk (hop T A.1) (j + 1 + 1) i := by rw [wk_succ, e2]; rfl
        rw [e3]
        refine ih (j + 1) _ k54 Q (by omega) (by omega) h2 (fun t ht => ?_) K
        by_cases e4 : t = v
        · subst e4
          rw [wI_s]
          exact isMx_iff (isMx_add (hP t ht) i) (fun u => by
            rw [Qs_step e2]
            constructor
            · rintro (q | q)
              · exact Or.inl q
              · exact Or.inr ⟨rfl, q⟩
            · rintro (q | ⟨-, q⟩)
              · exact Or.inl q
              · exact Or.inr q)
        · rw [wI_i e4]
          exact isMx_iff (hP t ht) (fun u => by
            rw [Qs_step e2]
            constructor
            · exact Or.inl
            · rintro (q | ⟨q, -⟩)
              · exact q
              · exact absurd q.symm e4)
theorem C.fresh (h : C g false k M0 T A stk M) (hp : ∀ t, t < T → M.1 5 k t 5 = pr T A t) : C g true k M0 T A stk M := ⟨h.1, h.2.1, fun _ _ => hp, h.2.2.2⟩
theorem c_ref54 (hi : Hi T A.1) (hb : ∀ t, t < T → 1 ≤ (A.1 t 0).toInt) (hl1 : A.1 10 1 = 1) : ∀ (n i : Nat) (M : Mem), i ≤ T → T - i < n → C g false k M0 T A stk M → Pz k T i 0 A M → Sat (pX3_refreshPriorities_54 k n (nI i) M) (fun _ M' => C g true k M0 T A stk M' ∧ M'.1 3 k 0 13 = 0) := by
  intro n
  induction n with
  | zero => intro i M _ hn; omega
  | succ n ih =>
    intro i M hiT hn h hP
    have hT := h.T10
    have r4 : M.1 3 k 0 4 = nI T := (h.gl 2 rfl).trans h.1.1.2
    rw [pX3_refreshPriorities_54, r4]
    by_cases e : i = T
    · subst e
      rw [if_pos (nI_le (Nat.le_refl _) (by omega)), chk_h b01_0, nm_def]
      refine S_ret ⟨(h.scr (Or.inr ⟨rfl, rfl⟩)).fresh (fun t ht => ?_), wI_s⟩
      rw [wI_kd (by omega)]
      refine isMx_uniq (hP t ht) (isMx_iff (pr_isMx ht hl1 (by have := hb t ht; omega)) (fun u => ?_))
      unfold Qs
      constructor
      · rintro ⟨h1, m, h2, h3⟩
        by_cases e : m = 0
        · subst e
          cases h3
          exact Or.inl rfl
        · exact Or.inr (Or.inl ⟨h1, m, by omega, by omega, h3⟩)
      · rintro (h1 | ⟨h1, m, h2, h3, h4⟩ | ⟨h1, m, h2, h3, h4⟩)
        · subst h1
          exact ⟨ht, 0, by omega, rfl⟩
        · exact ⟨h1, m, by omega, h4⟩
        · omega
    · rw [if_neg (nI_ge (by omega) (by omega)), c_blocker h hi (by omega), bnd_some]
      have e3 : hop T A.1 i = wk (hop T A.1) (0 + 1) i := by rw [wk_succ]; rfl
      rw [e3]
      refine c_ref70 (ρ := Unit) (Q := fun _ _ => True) hi (by omega) fu 0 M _ _ (by omega) (by decide) h hP (fun M' h' hP' => ?_)
      rw [nI_1]
      exact ih (i + 1) M' (by omega) (by omega) h' hP'
theorem c_ref10 (hi : Hi T A.1) (hb : ∀ t, t < T → 1 ≤ (A.1 t 0).toInt) : ∀ (n i : Nat) (M : Mem), i ≤ T → T - i < n → C g false k M0 T A stk M → (∀ u, u < i → M.1 5 k u 5 = A.1 u 0) → Sat (pX3_refreshPriorities_10 k n (nI i) M) (fun _ M' => C g true k M0 T A stk M' ∧ M'.1 3 k 0 13 = 0) := by
  intro n
  induction n with
  | zero => intro i M _ hn; omega
  | succ n ih =>
    intro i M hiT hn h hP
    have hT := h.T10
    have r4 : M.1 3 k 0 4 = nI T := (h.gl 2 rfl).trans h.1.1.2
    rw [pX3_refreshPriorities_10, r4]
    by_cases e : i = T
    · subst e
      have rl : M.1 15 k 0 1 = A.1 10 1 := h.gl 1 rfl
      rw [if_pos (nI_le (Nat.le_refl _) (by omega)), chk_h (show inB (1 : Int32) 2 = true by decide), show (1 : Int32).toNatClampNeg = 1 by decide, rl]
      by_cases e2 : A.1 10 1 = 1
      · rw [if_neg (fun q => q e2)]
        refine c_ref54 hi hb e2 fu 0 M (by omega) (by show _ < 4096; omega) h (fun t ht => ?_)
        rw [hP t ht]
        refine isMx_iff (isMx_one t _) (fun u => ?_)
        unfold Qs
        constructor
        · exact Or.inl
        · rintro (h1 | ⟨h1, -⟩ | ⟨-, m, h2, h3, -⟩)
          · exact h1
          · omega
          · omega
      · rw [if_pos e2, chk_h b01_0, nm_def]
        refine S_ret ⟨(h.scr (Or.inr ⟨rfl, rfl⟩)).fresh (fun t ht => ?_), wI_s⟩
        rw [wI_kd (by omega), hP t ht, pr_no e2]
    · have hb4 : M.1 5 k i 4 = A.1 i 0 := h.th (by omega) 0 rfl
      rw [if_neg (nI_ge (by omega) (by omega)), chk_h (inB_nI (by omega) (by omega)), chk_h (inB_nI (by omega) (by omega)), cl (by omega), hb4, nm_def, nI_1]
      refine ih (i + 1) _ (by omega) (by omega) (h.scr (Or.inl ⟨rfl, rfl⟩)) (fun u hu => ?_)
      by_cases e2 : u = i
      · subst e2; rw [wI_s]
      · rw [wI_i e2]; exact hP u (by omega)
theorem c_refresh (h : C g true k M0 T A stk M) (hi : Hi T A.1) (hb : ∀ t, t < T → 1 ≤ (A.1 t 0).toInt) : Sat (pX3_refreshPriorities k M) (fun _ M' => C g true k M0 T A stk M' ∧ M'.1 3 k 0 13 = 0) := by
  rw [pX3_refreshPriorities]
  by_cases e : M.1 3 k 0 13 = 0
  · rw [if_neg (fun q => q e)]
    exact S_ret ⟨h, e⟩
  · rw [if_pos e]
    exact c_ref10 hi hb fu 0 M (by omega) (by have := h.T10; show _ < 4096; omega) h.weak (fun u hu => absurd hu (by omega))
theorem c_pr (h : C g true k M0 T A stk M) (e : M.1 3 k 0 13 = 0) {t : Nat} (ht : t < T) : M.1 5 k t 5 = pr T A t := h.2.2.1 rfl e t ht
end REFR
