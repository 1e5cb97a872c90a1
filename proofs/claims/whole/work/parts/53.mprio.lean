/-! ===== the reference: priorities ===== -/
section MPRIO
variable {M0 : Mem} {T : Nat} {A : AS} {gv : List Nat} {M : Mem}
def Xm (X : Nat → Bool) (M : Mem) : Prop := ∀ u, u < 10 → M.1 28 0 0 u = if X u = true then 1 else 0
def setX (X : Nat → Bool) (i : Nat) (b : Bool) : Nat → Bool := fun u => if u = i then b else X u
theorem Xm.set {X : Nat → Bool} (h : Xm X M) (i : Nat) (b : Bool) : Xm (setX X i b) (wI M 28 0 0 i (if b = true then 1 else 0)) := by
  intro u hu
  rw [wI_e]
  unfold setX
  by_cases e : u = i
  · rw [if_pos ⟨rfl, rfl, rfl, e⟩, if_pos e]
  · rw [if_neg (fun q => e q.2.2.2), if_neg e]; exact h u hu
theorem and1_0 : ((0 : Int32) &&& 1) = 0 := by decide
theorem and1_1 : ((1 : Int32) &&& 1) = 1 := by decide
def Sx (T : Nat) (A : AS) (t : Nat) (X : Nat → Bool) : Prop := ∀ u, u < T → X u = true → ∃ n, wk (hop T A.1) n u = some t
def Cx0 (T : Nat) (A : AS) (X : Nat → Bool) : Prop := ∀ u w, u < T → hop T A.1 u = some w → X w = true → X u = true
theorem m_p54 (h0 : D M0 T A gv M) (hI : Inv T 10 A) {t : Nat} {Q : Int32 → Mem → Prop} (k46 : Int32 → Mem → Option (Int32 × Mem)) : ∀ (m n i : Nat) (X : Nat → Bool) (v2 : Int32) (M : Mem), i + m = T → m < n → D M0 T A gv M → Xm X M → Sx T A t X → (v2 = 0 ∨ v2 = 1) →
    (∀ X' v2' M', D M0 T A gv M' → Xm X' M' → Sx T A t X' → (∀ u, X u = true → X' u = true) → ((v2' = v2 ∧ X' = X ∧ ∀ u w, i ≤ u → u < T → hop T A.1 u = some w → X w = true → X u = true) ∨ (v2' = 1 ∧ cnt (fun u => !(X' u)) T < cnt (fun u => !(X u)) T)) → Sat (k46 v2' M') Q) → Sat (pX8_priorityOf_54 k46 n v2 (nI i) M) Q := by
  have hT := h0.T10
  intro m
  induction m with
  | zero =>
    intro n i X v2 M hi hn h hX hS hv K
    obtain ⟨n, rfl⟩ : ∃ n', n = n' + 1 := ⟨n - 1, by omega⟩
    rw [pX8_priorityOf_54, chk_h ib_2, cl_2, h.cnt2, if_pos (nI_le (by omega) (by omega))]
    exact K X v2 M h hX hS (fun _ q => q) (Or.inl ⟨rfl, rfl, fun u w h1 h2 => by omega⟩)
  | succ m ih =>
    intro n i X v2 M hi hn h hX hS hv K
    obtain ⟨n, rfl⟩ : ∃ n', n = n' + 1 := ⟨n - 1, by omega⟩
    rw [pX8_priorityOf_54, chk_h ib_2, cl_2, h.cnt2, if_neg (nI_ge (by omega) (by omega)), chk_h (inB_nI (by omega) (by omega)), cl (by omega), hX i (by omega), nI_1]
    have skip : (∀ w, hop T A.1 i = some w → X w = true → X i = true) → Sat (pX8_priorityOf_54 k46 n v2 (nI (i + 1)) M) Q := fun hs => by
      refine ih n (i + 1) X v2 M (by omega) (by omega) h hX hS hv (fun X' v2' M' d1 d2 d3 d4 d5 => K X' v2' M' d1 d2 d3 d4 ?_)
      rcases d5 with ⟨e1, e2, e3⟩ | d5
      · refine Or.inl ⟨e1, e2, fun u w q1 q2 q3 q4 => ?_⟩
        by_cases e : u = i
        · subst e; exact hs w q3 q4
        · exact e3 u w (by omega) q2 q3 q4
      · exact Or.inr d5
    by_cases eX : X i = true
    · rw [if_pos eX, if_pos (show ¬ (1 : Int32) = 0 by decide)]
      exact skip (fun _ _ _ => eX)
    · have n0 : ¬ ¬ (0 : Int32) = 0 := by decide
      rw [if_neg eX, if_neg n0, m_of h (by omega) 3 (x := 3) rfl (by omega), bnd_some]
      obtain ⟨-, -, -, -, -, a6, a7⟩ := hI.2.1 i (by omega)
      by_cases e3 : A.1 i 3 = 2
      · obtain ⟨l, w, hl, e8, hw, e11, -⟩ := a6 e3
        have n3 := not_not_intro e3
        have ehop : hop T A.1 i = some w := by
          unfold hop
          rw [if_pos (by omega), if_neg (by rw [e8]; exact m1_ne (by omega)), e8, cl (by omega), if_neg (by rw [e11]; exact m1_ne (by omega)), e11, cl (by omega)]
        have ead : (14 : Int32) + nI l = nI (14 + l) := nI_add 14 l
        rw [if_neg n3, m_of h (by omega) 8 (x := 8) rfl (by omega), bnd_some, e8, ead, chk_h (inB_nI (by omega) (by omega)), cl (by omega), h.ho hl, e11, chk_h (inB_nI (by omega) (by omega)), cl (by omega), hX w (by omega)]
        by_cases eW : X w = true
        · rw [if_pos eW, if_neg (show ¬ (1 : Int32) = 0 by decide), chk_h (inB_nI (by omega) (by omega)), and1_1]
          refine S_w (P := fun M1 => D M0 T A gv M1 ∧ Xm (setX X i true) M1) ⟨h.w28, hX.set i true⟩ (fun M1 h1 => ?_)
          have hS1 : Sx T A t (setX X i true) := fun u hu q => by
            unfold setX at q
            by_cases e : u = i
            · subst e
              obtain ⟨n', hn'⟩ := hS w hw eW
              refine ⟨n' + 1, ?_⟩
              show (match hop T A.1 u with | none => none | some v => wk (hop T A.1) n' v) = some t
              rw [ehop]
              exact hn'
            · rw [if_neg e] at q
              exact hS u hu q
          have hc : cnt (fun u => !(setX X i true u)) T < cnt (fun u => !(X u)) T := by
            refine cnt_lt (t := i) T (fun u hu q => ?_) (by omega) (by simp [eX]) (by simp [setX])
            unfold setX at q
            by_cases e : u = i
            · subst e; simp at q
            · rw [if_neg e] at q; exact q
          refine ih n (i + 1) _ 1 M1 (by omega) (by omega) h1.1 h1.2 hS1 (Or.inr rfl) (fun X' v2' M' d1 d2 d3 d4 d5 => K X' v2' M' d1 d2 d3 (fun u q => d4 u ?_) ?_)
          · unfold setX
            by_cases e : u = i
            · rw [if_pos e]
            · rw [if_neg e]; exact q
          · rcases d5 with ⟨e1, e2, -⟩ | ⟨e1, e2⟩
            · exact Or.inr ⟨e1, by rw [e2]; exact hc⟩
            · exact Or.inr ⟨e1, by omega⟩
        · rw [if_neg eW, if_pos rfl]
          exact skip (fun w' q1 q2 => by
            rw [ehop] at q1
            cases q1
            exact absurd q2 eW)
      · rw [if_pos e3]
        exact skip (fun w q1 _ => by
          exfalso
          unfold hop at q1
          rw [if_pos (by omega), if_pos (a7 e3)] at q1
          cases q1)
/-- the greatest BASE of a set -/
theorem m_p129 (h : D M0 T A gv M) {X : Nat → Bool} (hX : Xm X M) : ∀ (m n i : Nat), i + m = T → m < n → pX8_priorityOf_129 n (mxf X (fun u => A.1 u 0) i) (nI i) M = some (mxf X (fun u => A.1 u 0) T, M) := by
  have hT := h.T10
  intro m
  induction m with
  | zero =>
    intro n i hi hn
    obtain ⟨n, rfl⟩ : ∃ n', n = n' + 1 := ⟨n - 1, by omega⟩
    have : i = T := by omega
    subst this
    rw [pX8_priorityOf_129, chk_h ib_2, cl_2, h.cnt2, if_pos (nI_le (by omega) (by omega))]
  | succ m ih =>
    intro n i hi hn
    obtain ⟨n, rfl⟩ : ∃ n', n = n' + 1 := ⟨n - 1, by omega⟩
    have := ih n (i + 1) (by omega) (by omega)
    rw [mxf] at this
    rw [pX8_priorityOf_129, chk_h ib_2, cl_2, h.cnt2, if_neg (nI_ge (by omega) (by omega)), chk_h (inB_nI (by omega) (by omega)), cl (by omega), hX i (by omega), nI_1]
    by_cases e : X i = true
    · rw [if_pos e] at this
      rw [if_pos e, if_neg (show ¬ (1 : Int32) = 0 by decide), m_of h (by omega) 0 (x := 0) rfl (by omega), bnd_some, nm_def]
      exact this
    · rw [if_neg e] at this
      rw [if_neg e, if_pos rfl]
      exact this
theorem m_p46 (h0 : D M0 T A gv M) (hI : Inv T 10 A) {t : Nat} {Q : Int32 → Mem → Prop} : ∀ (c n : Nat) (X : Nat → Bool) (M : Mem), cnt (fun u => !(X u)) T ≤ c → c + 1 < n → D M0 T A gv M → Xm X M → Sx T A t X →
    (∀ X' M', D M0 T A gv M' → Xm X' M' → Sx T A t X' → (∀ u, X u = true → X' u = true) → Cx0 T A X' → Sat (pX8_priorityOf_129 fu 0 0 M') Q) → Sat (pX8_priorityOf_46 n 1 M) Q := by
  have hT := h0.T10
  intro c
  induction c with
  | zero =>
    intro n X M hc hn h hX hS K
    obtain ⟨n, rfl⟩ : ∃ n', n = n' + 1 := ⟨n - 1, by omega⟩
    rw [pX8_priorityOf_46, if_neg (by decide)]
    refine m_p54 h0 hI _ T fu 0 X 0 M (by omega) (by show _ < 4096; omega) h hX hS (Or.inl rfl) (fun X' v2' M' d1 d2 d3 d4 d5 => ?_)
    rcases d5 with ⟨e1, e2, e3⟩ | ⟨-, d5⟩
    · subst e1
      obtain ⟨n, rfl⟩ : ∃ n', n = n' + 1 := ⟨n - 1, by omega⟩
      rw [pX8_priorityOf_46, if_pos rfl]
      exact K X' M' d1 d2 d3 d4 (fun u w q1 q2 q3 => by rw [e2] at q3 ⊢; exact e3 u w (by omega) q1 q2 q3)
    · omega
  | succ c ih =>
    intro n X M hc hn h hX hS K
    obtain ⟨n, rfl⟩ : ∃ n', n = n' + 1 := ⟨n - 1, by omega⟩
    rw [pX8_priorityOf_46, if_neg (by decide)]
    refine m_p54 h0 hI _ T fu 0 X 0 M (by omega) (by show _ < 4096; omega) h hX hS (Or.inl rfl) (fun X' v2' M' d1 d2 d3 d4 d5 => ?_)
    rcases d5 with ⟨e1, e2, e3⟩ | ⟨e1, d5⟩
    · subst e1
      obtain ⟨n, rfl⟩ : ∃ n', n = n' + 1 := ⟨n - 1, by omega⟩
      rw [pX8_priorityOf_46, if_pos rfl]
      exact K X' M' d1 d2 d3 d4 (fun u w q1 q2 q3 => by rw [e2] at q3 ⊢; exact e3 u w (by omega) q1 q2 q3)
    · subst e1
      exact ih n X' M' (by omega) (by omega) d1 d2 d3 (fun X2 M2 f1 f2 f3 f4 f5 => K X2 M2 f1 f2 f3 (fun u q => f4 u (d4 u q)) f5)
theorem closed_all {X : Nat → Bool} {t : Nat} (hc : Cx0 T A X) (ht : X t = true) (hh : Hi T A.1) (hT : T ≤ 10) : ∀ n u, u < T → wk (hop T A.1) n u = some t → X u = true := by
  intro n
  induction n with
  | zero => intro u _ e; cases e; exact ht
  | succ n ih =>
    intro u hu e
    have e' : (match hop T A.1 u with | none => none | some v => wk (hop T A.1) n v) = some t := e
    cases e2 : hop T A.1 u with
    | none => rw [e2] at e'; cases e'
    | some v =>
      rw [e2] at e'
      exact hc u v hu e2 (ih v (hiHopLt hh hT hu e2) e')
theorem m_p2 (h0 : D M0 T A gv M) (hI : Inv T 10 A) {t : Nat} (ht : t < T) {Q : Int32 → Mem → Prop} (K : ∀ M', D M0 T A gv M' → Q (pr T A t) M') : ∀ (m n i : Nat) (M : Mem), i + m = 10 → m < n → D M0 T A gv M → (∀ u, u < i → M.1 28 0 0 u = if decide (u = t) = true then 1 else 0) → Sat (pX8_priorityOf_2 n (nI t) (nI i) M) Q := by
  have hT := h0.T10
  have hb := hI.base
  intro m
  induction m with
  | zero =>
    intro n i M hi hn h hX
    obtain ⟨n, rfl⟩ : ∃ n', n = n' + 1 := ⟨n - 1, by omega⟩
    have hX0 : Xm (fun u => decide (u = t)) M := fun u hu => hX u (by omega)
    have hS0 : Sx T A t (fun u => decide (u = t)) := fun u hu q => ⟨0, by
      have : u = t := of_decide_eq_true q
      rw [this]
      rfl⟩
    rw [pX8_priorityOf_2, if_pos (show (10 : Int32) ≤ nI i from nI_le (a := 10) (by omega) (by omega)), chk_h ib_1, cl_1, show M.1 20 0 0 1 = A.1 10 1 from h.gl 1 rfl]
    by_cases e1 : A.1 10 1 = 1
    · have n1 := not_not_intro e1
      rw [if_neg n1]
      refine m_p46 h0 hI 10 fu _ M (Nat.le_trans (cnt_n _ _) hT) (by decide) h hX0 hS0 (fun X' M' d1 d2 d3 d4 d5 => ?_)
      have e := m_p129 d1 d2 T fu 0 (by omega) (by show _ < 4096; omega)
      have hXt : X' t = true := d4 t (by simp)
      have ev : mxf X' (fun u => A.1 u 0) T = pr T A t := by
        refine isMx_uniq (mxf_isMx ht hXt (by have := hb t ht; omega)) (isMx_iff (pr_isMx ht e1 (by have := hb t ht; omega)) (fun u => and_congr_right (fun hu => ?_)))
        constructor
        · rintro ⟨m, -, q⟩
          exact closed_all d5 hXt hI.hi hT m u hu q
        · intro q
          obtain ⟨n', hn'⟩ := d3 u hu q
          exact wk_short hT n' u hn'
      rw [ev] at e
      exact ⟨_, M', e, K M' d1⟩
    · rw [if_pos e1, show pX8_priorityOf_46 fu 0 M = pX8_priorityOf_129 fu 0 0 M from rfl]
      have e := m_p129 h hX0 T fu 0 (by omega) (by show _ < 4096; omega)
      have ev : mxf (fun u => decide (u = t)) (fun u => A.1 u 0) T = pr T A t := by
        rw [pr_no e1]
        refine isMx_uniq (mxf_isMx ht (by simp) (by have := hb t ht; omega)) (isMx_iff (isMx_one t (fun u => A.1 u 0)) (fun u => ?_))
        constructor
        · intro q; subst q; exact ⟨ht, by simp⟩
        · rintro ⟨-, q⟩; exact of_decide_eq_true q
      rw [ev] at e
      exact ⟨_, M, e, K M h⟩
  | succ m ih =>
    intro n i M hi hn h hX
    obtain ⟨n, rfl⟩ : ∃ n', n = n' + 1 := ⟨n - 1, by omega⟩
    rw [pX8_priorityOf_2, if_neg (show ¬ (10 : Int32) ≤ nI i from nI_ge (b := 10) (by omega) (by omega)), chk_h (inB_nI (by omega) (by omega)), cl (by omega), and1_0, and1_1, nI_1, nm_def, nm_def]
    have step : ∀ v : Int32, (v = if decide (i = t) = true then 1 else 0) → ∀ u, u < i + 1 → (wI M 28 0 0 i v).1 28 0 0 u = if decide (u = t) = true then 1 else 0 := fun v hv u hu => by
      rw [wI_e]
      by_cases e : u = i
      · rw [if_pos ⟨rfl, rfl, rfl, e⟩, hv, e]
      · rw [if_neg (fun q => e q.2.2.2)]; exact hX u (by omega)
    by_cases e : i = t
    · subst e
      rw [if_neg (not_not_intro rfl), chk_h (inB_nI (by omega) (by omega))]
      exact ih n (i + 1) _ (by omega) (by omega) h.w28 (step 1 (by simp))
    · rw [if_pos (fun q => e (nI_inj (by omega) (by omega) q))]
      exact ih n (i + 1) _ (by omega) (by omega) h.w28 (step 0 (by simp [e]))
theorem m_prio (h : D M0 T A gv M) (hI : Inv T 10 A) {t : Nat} (ht : t < T) : Sat (pX8_priorityOf (nI t) M) (fun o M' => o = pr T A t ∧ D M0 T A gv M') :=
  m_p2 h hI ht (fun M' h' => ⟨rfl, h'⟩) 10 fu 0 M (by omega) (by decide) h (fun u hu => absurd hu (by omega))
end MPRIO
