/-! ===== the law's predictions ===== -/
section FOR1
variable {T t n d : Nat} {A A' : AS} {r0 : Int32}
theorem tks_last : ∀ (m : Nat) (A : AS), tks T (m + 1) A = tick T (tks T m A) := by
  intro m
  induction m with
  | zero => intro A; rfl
  | succ m ih => intro A; rw [tks, ih]; rfl
theorem dnF_last : ∀ (m j : Nat) (A : AS), dnF T t (m + 1) j A = match dnF T t m j A with
    | some d => some d
    | none => if (tks T (m + 1) A).1 t 3 = 3 then some (j + (m + 1)) else none := by
  intro m
  induction m with
  | zero =>
    intro j A
    rw [dnF, dnF, dnF]
    by_cases e : A.1 t 3 = 3
    · rw [if_pos e, if_pos e]
    · rw [if_neg e, if_neg e]
      rfl
  | succ m ih =>
    intro j A
    have e1 : dnF T t (m + 1 + 1) j A = if A.1 t 3 = 3 then some j else dnF T t (m + 1) (j + 1) (tick T A) := rfl
    have e2 : dnF T t (m + 1) j A = if A.1 t 3 = 3 then some j else dnF T t m (j + 1) (tick T A) := rfl
    rw [e1, e2]
    by_cases e : A.1 t 3 = 3
    · rw [if_pos e, if_pos e]
    · rw [if_neg e, if_neg e, ih (j + 1) (tick T A)]
      rw [show tks T (m + 1 + 1) A = tks T (m + 1) (tick T A) from rfl, show j + 1 + (m + 1) = j + (m + 1 + 1) by omega]
theorem rnF_last : ∀ (m j : Nat) (A : AS), rnF T t r0 (m + 1) j A = match rnF T t r0 m j A with
    | some d => some d
    | none => if rsm (tks T (m + 1) A) t = r0 then none else some (j + (m + 1)) := by
  intro m
  induction m with
  | zero =>
    intro j A
    rw [rnF, rnF, rnF]
    rfl
  | succ m ih =>
    intro j A
    have e1 : rnF T t r0 (m + 1 + 1) j A = if rsm (tick T A) t = r0 then rnF T t r0 (m + 1) (j + 1) (tick T A) else some (j + 1) := rfl
    have e2 : rnF T t r0 (m + 1) j A = if rsm (tick T A) t = r0 then rnF T t r0 m (j + 1) (tick T A) else some (j + 1) := rfl
    rw [e1, e2]
    by_cases e : rsm (tick T A) t = r0
    · rw [if_pos e, if_pos e, ih (j + 1) (tick T A)]
      rw [show tks T (m + 1 + 1) A = tks T (m + 1) (tick T A) from rfl, show j + 1 + (m + 1) = j + (m + 1 + 1) by omega]
    · rw [if_neg e, if_neg e]
theorem rnF_le : ∀ m j A d, rnF T t r0 m j A = some d → j ≤ d ∧ d ≤ j + m := by
  intro m
  induction m with
  | zero => intro j A d h; rw [rnF] at h; cases h
  | succ m ih =>
    intro j A d h
    rw [rnF] at h
    split at h
    · have := ih _ _ _ h; omega
    · cases h; omega
theorem rsm_tks (hI : Inv T 10 A) (hB : Bd n A) (ht : t < T) : ∀ m, n + m ≤ 259999 → (rsm A t).toInt ≤ (rsm (tks T m A) t).toInt := by
  intro m
  induction m with
  | zero => intro _; exact Int.le_refl _
  | succ m ih =>
    intro hm
    obtain ⟨k1, k2⟩ := tks_bd m n A hI hB (by omega)
    rw [tks_last]
    exact Int.le_trans (ih (by omega)) (rsm_up k1 k2 (by omega) ht)
theorem x_yx (x y : Int32) : x + (y - x) = y := by
  have e := Int32.sub_self x
  rw [Int32.sub_eq_add_neg] at e
  rw [Int32.sub_eq_add_neg, Int32.add_comm y, ← Int32.add_assoc, e, Int32.zero_add]
theorem up_up {a b : Nat} {v w : Int32} : up (up A a b v) a b w = up A a b w := by
  refine Prod.ext ?_ rfl
  funext x y
  rw [up_e, up_e, up_e]
  split <;> rfl
def bbL (s : Option (Nat × Nat)) : Int32 := match s with
  | none => 0
  | some (_, l) => nI l
end FOR1
section FOR2
variable {T n d t : Nat} {A A' : AS} {M0 M M' : Mem} {Z : Nat × (Nat → Int32)}
def Pst (d n T : Nat) : Int32 → Mem → Prop := fun o M' => o = 1 ∧ ∃ d' A', d' ≤ d + 2 ∧ Ls M' d' n T A' M'
theorem Ls.self (h : Ls M0 d n T A M) : Ls M d n T A M := ⟨h.1, Kp.refl M, h.2.2⟩
theorem f328 {K D b0 : Nat} (hn : n ≤ 250000) (hd : d ≤ D + 2) (ht : t < T) (K1 : 1 ≤ K) (K2 : K ≤ 50) (q1 : 1 ≤ b0) (q2 : b0 ≤ 9) {R : Option (Nat × Nat)} : ∀ (m g b : Nat) (s : Option (Nat × Nat)) (X : AS) (M : Mem), b + m = 10 → 1 ≤ b → m < g → (∀ v, up X t 0 v = up A t 0 v) → 1 ≤ (X.1 t 0).toInt → (b = 10 → X.1 t 0 = 9) → bbF T t K A m b s = R → (∀ p, s = some p → 1 ≤ p.1 ∧ p.1 < 10 ∧ p.2 ≤ K) → Ls M0 d n T X M → Sat (pL_foretells_328 Z g (nI K) (nI t) (bb1 R) (bb1 s) (bbL s) (nI b0) (nI b) M) (Pst D n T) := by
  intro m
  induction m with
  | zero =>
    intro g b s X M hb hb1 hg hX x1 x9 hR hs h
    obtain ⟨g, rfl⟩ : ∃ g', g = g' + 1 := ⟨g - 1, by omega⟩
    have hR : s = R := hR
    rw [pL_foretells_328, if_pos (show (10 : Int32) ≤ nI b from nI_le (a := 10) (by omega) (by omega)), hR, if_neg (not_not_intro rfl)]
    refine w_setBase h ht (b := b0) q1 q2 rfl rfl (fun M1 h1 => ?_)
    rw [x9 (by omega), if_neg (not_not_intro rfl)]
    exact S_1 ⟨rfl, _, _, hd, h1.self⟩
  | succ m ih =>
    intro g b s X M hb hb1 hg hX x1 x9 hR hs h
    obtain ⟨g, rfl⟩ : ∃ g', g = g' + 1 := ⟨g - 1, by omega⟩
    rw [pL_foretells_328, if_neg (show ¬ (10 : Int32) ≤ nI b from nI_ge (b := 10) (by omega) (by omega))]
    refine w_setBase h ht (b := b) hb1 (by omega) rfl rfl (fun M1 h1 => ?_)
    rw [hX] at h1
    refine w_doneIn h1 (by omega) ht K1 (by omega) rfl rfl (fun M2 h2 => ?_)
    rw [if_neg (show ¬ X.1 t 0 < (1 : Int32) by
      rw [i32_lt]
      have : (1 : Int32).toInt = 1 := by decide
      omega), nI_1]
    have go : ∀ s', bbS T t K A b s = s' → (∀ p, s' = some p → 1 ≤ p.1 ∧ p.1 < 10 ∧ p.2 ≤ K) → Sat (pL_foretells_328 Z g (nI K) (nI t) (bb1 R) (bb1 s') (bbL s') (nI b0) (nI (b + 1)) M2) (Pst D n T) := fun s' e1 e2 => by
      subst e1
      refine ih g (b + 1) _ (up A t 0 (nI b)) M2 (by omega) (by omega) (by omega) (fun v => up_up) ?_ (fun e => ?_) hR e2 h2
      · rw [up_s, nI_toInt (by omega)]; omega
      · rw [up_s, show b = 9 by omega]; rfl
    unfold bbS at go
    cases ed : dnF T t K 0 (up A t 0 (nI b)) with
    | none =>
      rw [ed] at go
      rw [onI_none, if_pos (show (-1 : Int32) < 0 by decide)]
      exact go s rfl hs
    | some dd =>
      have hdd := dnF_le _ _ _ _ ed
      rw [ed] at go
      rw [onI_some, if_neg (show ¬ nI dd < (0 : Int32) by rw [Int32.not_lt]; exact nI_le (a := 0) (by omega) (by omega))]
      cases s with
      | none =>
        rw [if_pos (show bb1 none ≤ (0 : Int32) by decide)]
        exact go (some (b, dd)) rfl (fun p hp => by cases hp; exact ⟨hb1, by show b < 10; omega, by show dd ≤ K; omega⟩)
      | some p =>
        obtain ⟨b', l⟩ := p
        obtain ⟨p1, p2, p3⟩ := hs _ rfl
        have p1 : 1 ≤ b' := p1
        have p2 : b' < 10 := p2
        have p3 : l ≤ K := p3
        rw [if_neg (show ¬ bb1 (some (b', l)) ≤ (0 : Int32) from nI_ge (a := 0) (b := b') (by omega) (by omega))]
        by_cases q : dd < l
        · rw [if_pos (show nI dd < bbL (some (b', l)) from nI_lt q (by omega))]
          refine go (some (b, dd)) ?_ (fun p hp => by cases hp; exact ⟨hb1, by show b < 10; omega, by show dd ≤ K; omega⟩)
          show (if dd < l then some (b, dd) else some (b', l)) = _
          rw [if_pos q]
        · rw [if_neg (show ¬ nI dd < bbL (some (b', l)) from nI_nlt (a := dd) (b := l) (by omega) (by omega))]
          refine go (some (b', l)) ?_ hs
          show (if dd < l then some (b, dd) else some (b', l)) = _
          rw [if_neg q]
theorem f160 {K D : Nat} (hn : n ≤ 250000) (hd : d ≤ D + 2) (ht : t < T) (K1 : 1 ≤ K) (K2 : K ≤ 50) (hs : C true true 3 M0 T A [] M0) (h18 : M0.1 18 0 0 1 = 1) (hI : Inv T 10 A) (h2 : In2 0 T [] A) (hB : Bd n A) : ∀ (m g i : Nat) (M : Mem), i + m = K → m < g → Ls M0 d (n + i) T (tks T i A) M → Sat (pL_foretells_160 Z g (nI K) (nI t) (onI (dnF T t K 0 A)) (onI (rnF T t (rsm A t) K 0 A)) (ahV T A (tks T K A) 0) (ahV T A (tks T K A) 1) (ahV T A (tks T K A) 2) (bb1 (bbF T t K A 9 1 none)) (arF A T 0 0) (rsm A t) (A.1 10 6) (A.1 10 4) (onI (dnF T t i 0 A)) (onI (rnF T t (rsm A t) i 0 A)) (nI (i + 1)) M) (Pst D n T) := by
  intro m
  induction m with
  | zero =>
    intro g i M hi hg h
    obtain ⟨g, rfl⟩ : ∃ g', g = g' + 1 := ⟨g - 1, by omega⟩
    have hi : i = K := hi
    subst hi
    have hT := h.T10
    rw [pL_foretells_160, if_pos (nI_lt (by omega) (by omega)), if_neg (not_not_intro rfl), if_neg (not_not_intro rfl)]
    refine w_count h (c := 8) (by omega) rfl ?_
    rw [if_neg (not_not_intro (show cnV T (tks T i A) 8 = ahV T A (tks T i A) 0 from rfl))]
    refine w_count h (c := 12) (by omega) rfl ?_
    rw [if_neg (not_not_intro (show cnV T (tks T i A) 12 = A.1 10 6 + ahV T A (tks T i A) 1 from (x_yx _ _).symm))]
    refine w_returns h (fun M1 h1 => ?_)
    rw [if_neg (not_not_intro (show arF (tks T i A) T 0 0 = arF A T 0 0 + ahV T A (tks T i A) 2 from (x_yx _ _).symm))]
    refine w_restore1 h1 hs h18 hI h2 hB rfl (fun M2 h2' => ?_)
    rw [if_neg (not_not_intro rfl)]
    refine w_count h2' (c := 4) (by omega) rfl ?_
    rw [show cnV T A 4 = A.1 10 4 from rfl, if_pos rfl]
    refine w_thread h2' (c := 0) ht (by omega) rfl rfl (fun M3 h3 => ?_)
    obtain ⟨b0, y1, y2, y3⟩ := n9 (hI.base t ht) ((hI.2.1 t ht).1.2)
    rw [show thV T A t 0 = A.1 t 0 from rfl, y3]
    exact f328 (D := D) hn hd ht K1 K2 y1 y2 9 fu 1 none A M3 (by omega) (by omega) (by decide) (fun _ => rfl) (hI.base t ht) (fun e => by omega) rfl (fun p hp => by cases hp) h3
  | succ m ih =>
    intro g i M hi hg h
    obtain ⟨g, rfl⟩ : ∃ g', g = g' + 1 := ⟨g - 1, by omega⟩
    have hT := h.T10
    rw [pL_foretells_160, if_neg (nI_nlt (a := K) (b := i + 1) (by omega) (by omega))]
    refine w_run1 h (by omega) rfl (fun M1 h1 => ?_)
    rw [if_pos (inS_up hT (tick_done h.ii (by have := h.bd.lim (by omega); omega)))]
    rw [← tks_last] at h1
    have hr := rsm_tks hI hB ht (i + 1) (by omega)
    have k201 : ∀ M2, Ls M0 d (n + (i + 1)) T (tks T (i + 1) A) M2 → ∀ v13, v13 = onI (dnF T t (i + 1) 0 A) → Sat (pL_foretells_201 Z (fun v1 v2 v3 v4 v5 v6 v7 v8 v9 v10 v11 v12 v13 v14 v15 M => pL_foretells_160 Z g v1 v2 v3 v4 v5 v6 v7 v8 v9 v10 v11 v12 v13 v14 v15 M) (nI K) (nI t) (onI (dnF T t K 0 A)) (onI (rnF T t (rsm A t) K 0 A)) (ahV T A (tks T K A) 0) (ahV T A (tks T K A) 1) (ahV T A (tks T K A) 2) (bb1 (bbF T t K A 9 1 none)) (arF A T 0 0) (rsm A t) (A.1 10 6) (A.1 10 4) v13 (onI (rnF T t (rsm A t) i 0 A)) (nI (i + 1)) M2) (Pst D n T) := fun M2 h2 v13 e13 => by
      subst e13
      have go := fun M3 (h3 : Ls M0 d (n + (i + 1)) T (tks T (i + 1) A) M3) => ih g (i + 1) M3 (by omega) (by omega) h3
      have el := rnF_last (T := T) (t := t) (r0 := rsm A t) i 0 A
      rw [pL_foretells_201, nI_1]
      cases er : rnF T t (rsm A t) i 0 A with
      | some r =>
        rw [er] at el
        rw [el] at go
        have hrl := rnF_le _ _ _ _ er
        rw [onI_some, if_pos (show (0 : Int32) ≤ nI r from nI_le (a := 0) (by omega) (by omega))]
        exact go M2 h2
      | none =>
        rw [er] at el
        rw [onI_none, if_neg (show ¬ (0 : Int32) ≤ -1 by decide)]
        refine w_mine h2 ht rfl (fun M3 h3 => ?_)
        by_cases q : rsm (tks T (i + 1) A) t = rsm A t
        · have el : rnF T t (rsm A t) (i + 1) 0 A = none := el.trans (if_pos q)
          rw [el] at go
          rw [if_pos (by rw [q]; exact Int32.le_refl _)]
          exact go M3 h3
        · have el : rnF T t (rsm A t) (i + 1) 0 A = some (0 + (i + 1)) := el.trans (if_neg q)
          rw [el, onI_some, Nat.zero_add] at go
          rw [if_neg (fun z => q (Int32.toInt_inj.mp (by rw [i32_le] at z; omega)))]
          exact go M3 h3
    have el := dnF_last (T := T) (t := t) i 0 A
    cases er : dnF T t i 0 A with
    | some r =>
      rw [er] at el
      have hrl := dnF_le _ _ _ _ er
      rw [onI_some, if_pos (show (0 : Int32) ≤ nI r from nI_le (a := 0) (by omega) (by omega))]
      exact k201 M1 h1 _ (by rw [el]; rfl)
    | none =>
      rw [er] at el
      rw [onI_none, if_neg (show ¬ (0 : Int32) ≤ -1 by decide)]
      refine w_thread h1 (c := 2) ht (by omega) rfl rfl (fun M2 h2 => ?_)
      rw [show thV T (tks T (i + 1) A) t 2 = (tks T (i + 1) A).1 t 3 from rfl]
      by_cases q : (tks T (i + 1) A).1 t 3 = 3
      · have el : dnF T t (i + 1) 0 A = some (0 + (i + 1)) := el.trans (if_pos q)
        rw [if_neg (not_not_intro q)]
        exact k201 M2 h2 _ (by rw [el, Nat.zero_add]; rfl)
      · have el : dnF T t (i + 1) 0 A = none := el.trans (if_neg q)
        rw [if_pos q]
        exact k201 M2 h2 _ (by rw [el]; rfl)
theorem foretells_ok (hZ : Z.1 ≤ 260) (hd : d < 900000) (hn : n ≤ 250000) (hT1 : 1 ≤ T) (h : Ls M0 d n T A M) : Sat (pL_foretells Z M) (Pst d n T) := by
  have hT := h.T10
  rw [pL_foretells]
  refine w_draw h hZ (by omega) (m := 50) (by omega) (by omega) rfl (fun y M1 hy h1 => ?_)
  rw [show (1 : Int32) + nI y = nI (1 + y) from nI_add 1 y, nm_def]
  refine w_count h1 (c := 2) (by omega) rfl ?_
  rw [show cnV T A 2 = nI T from h.ii.1.2]
  refine w_draw h1 hZ (by omega) (m := T) hT1 (by omega) rfl (fun t M2 ht h2 => ?_)
  refine w_doneIn h2 (by omega) ht (most := 1 + y) (by omega) (by omega) rfl rfl (fun M3 h3 => ?_)
  refine w_returnsIn h3 (by omega) ht (most := 1 + y) (by omega) (by omega) rfl rfl (fun M4 h4 => ?_)
  refine w_ahead h4 (by omega) (tk := 1 + y) (x := 0) (by omega) (by omega) (by omega) rfl rfl (fun M5 h5 => ?_)
  refine w_ahead h5 (by omega) (tk := 1 + y) (x := 1) (by omega) (by omega) (by omega) rfl rfl (fun M6 h6 => ?_)
  refine w_ahead h6 (by omega) (tk := 1 + y) (x := 2) (by omega) (by omega) (by omega) rfl rfl (fun M7 h7 => ?_)
  refine w_bestBase h7 (by omega) ht (most := 1 + y) (by omega) (by omega) rfl rfl (fun M8 h8 => ?_)
  refine w_returns h8 (fun M9 h9 => ?_)
  refine w_mine h9 ht rfl (fun M10 h10 => ?_)
  refine w_count h10 (c := 12) (by omega) rfl ?_
  refine w_count h10 (c := 4) (by omega) rfl ?_
  refine w_save1 h10 rfl (fun M11 h11 hs h18 => ?_)
  rw [if_pos rfl]
  refine w_thread h11 (c := 2) ht (by omega) rfl rfl (fun M12 h12 => ?_)
  rw [show thV T A t 2 = A.1 t 3 from rfl]
  have go := fun M13 (h13 : Ls M11 (d + 1 + 1) n T A M13) => f160 (Z := Z) (K := 1 + y) (D := d) hn (by omega) ht (by omega) (by omega) hs h18 h.ii h.i2 h.bd (1 + y) fu 0 M13 (by omega) (by show _ < 4096; omega) h13
  by_cases q : A.1 t 3 = 3
  · have e : dnF T t 0 0 A = some 0 := by rw [dnF, if_pos q]
    rw [e] at go
    rw [if_neg (not_not_intro q)]
    exact go M12 h12
  · have e : dnF T t 0 0 A = none := by rw [dnF, if_neg q]
    rw [e] at go
    rw [if_pos q]
    exact go M12 h12
end FOR2
