/-! ===== who is ready keeps his priority through returns; the one who runs is one of the greatest ===== -/
section RDY
variable {T t u l R k : Nat} {A A' B : AS} {stk : List Nat}
theorem wk_same {h h' : Nat → Option Nat} (W : Nat → Prop) (h1 : ∀ v, ¬ W v → h' v = h v) (h2 : ∀ v, W v → h v = some t ∧ (h' v = none ∨ h' v = some u)) (ht : h t = none) (hu : h' u = none) (Rt : ¬ R = t) (Ru : ¬ R = u) : ∀ m v, wk h' m v = some R ↔ wk h m v = some R := by
  intro m
  induction m with
  | zero => intro v; exact Iff.rfl
  | succ m ih =>
    intro v
    by_cases e : W v
    · obtain ⟨e1, e2⟩ := h2 v e
      have f1 : ¬ wk h (m + 1) v = some R := by
        rw [wk, e1]
        dsimp only
        cases m with
        | zero => rw [wk]; intro q; exact Rt (Option.some.inj q).symm
        | succ m => rw [wk, ht]; intro q; cases q
      have f2 : ¬ wk h' (m + 1) v = some R := by
        rw [wk]
        rcases e2 with e2 | e2
        · rw [e2]; intro q; cases q
        · rw [e2]
          dsimp only
          cases m with
          | zero => rw [wk]; intro q; exact Ru (Option.some.inj q).symm
          | succ m => rw [wk, hu]; intro q; cases q
      exact ⟨fun q => absurd q f2, fun q => absurd q f1⟩
    · rw [wk, wk, h1 v e]
      cases h v with
      | none => exact Iff.rfl
      | some w => exact ih w
theorem mxf_p {p p' : Nat → Bool} {bs : Nat → Int32} (h : ∀ u, p' u = p u) : ∀ n, mxf p' bs n = mxf p bs n := by
  have : p' = p := funext h
  intro n
  rw [this]
theorem pr_rc (h0 : ∀ v, v < T → A'.1 v 0 = A.1 v 0) (h1 : A'.1 10 1 = A.1 10 1) (hR : R < T) (h : ∀ m v, wk (hop T A'.1) m v = some R ↔ wk (hop T A.1) m v = some R) : pr T A' R = pr T A R := by
  unfold pr prf
  rw [h1]
  have e : (fun u => rc (hop T A'.1) u R) = (fun u => rc (hop T A.1) u R) := by
    funext v
    have : rc (hop T A'.1) v R = true ↔ rc (hop T A.1) v R = true := by
      rw [rc_iff, rc_iff]
      exact ⟨fun ⟨m, a, b⟩ => ⟨m, a, (h m v).mp b⟩, fun ⟨m, a, b⟩ => ⟨m, a, (h m v).mpr b⟩⟩
    cases e1 : rc (hop T A'.1) v R <;> cases e2 : rc (hop T A.1) v R <;> simp_all
  rw [e, mxf_congr T h0]
  dsimp only
  rw [h0 R hR]
theorem pr_gvu (hI : Inv T 10 A) (hl : l < 6) (ht : t < T) (h3 : A.1 t 3 = 3) (htl : A.1 11 l = nI t) (hu : u ∈ A.2.2 l) (hR : R < T) (R0 : A.1 R 3 = 0) : pr T (gvu A t l u) R = pr T A R := by
  have hT := hI.T10
  obtain ⟨w1, w2, w3⟩ := hI.wat hl hu
  have Rt : ¬ R = t := fun q => by subst q; rw [h3] at R0; exact absurd R0 (by decide)
  have Ru : ¬ R = u := fun q => by subst q; rw [w3] at R0; exact absurd R0 (by decide)
  have r : ∀ a b, ¬ a = u → ¬ (a = 11 ∧ b = l) → (gvu A t l u).1 a b = A.1 a b := fun a b q1 q2 => by rw [gvu_e (by omega), if_neg q1, if_neg q2]
  have ru : ∀ b, ¬ b = 17 → ¬ b = 2 → ¬ b = 8 → ¬ b = 3 → (gvu A t l u).1 u b = A.1 u b := fun b q1 q2 q3 q4 => by rw [gvu_e (by omega), if_pos rfl, if_neg q1, if_neg q2, if_neg q3, if_neg q4]
  have ru8 : (gvu A t l u).1 u 8 = -1 := by rw [gvu_e (by omega), if_pos rfl, if_neg (by omega), if_neg (by omega), if_pos rfl]
  have rl : (gvu A t l u).1 11 l = nI u := by rw [gvu_e (by omega), if_neg (by omega), if_pos ⟨rfl, rfl⟩]
  have hu' : hop T (gvu A t l u).1 u = none := by
    unfold hop
    rw [if_pos w1, if_pos ru8]
  refine pr_rc (fun v hv => ?_) (r _ _ (by omega) (by omega)) hR (wk_same (t := t) (u := u) (fun v => v < T ∧ A.1 v 8 = nI l) (fun v hv => ?_) (fun v hv => ?_) (hop_n2 hI ht (by rw [h3]; decide)) hu' Rt Ru)
  · by_cases e : v = u
    · subst e; exact ru 0 (by omega) (by omega) (by omega) (by omega)
    · exact r v 0 e (by omega)
  · by_cases hvT : v < T
    · have hv8 : ¬ A.1 v 8 = nI l := fun q => hv ⟨hvT, q⟩
      have e : ¬ v = u := fun q => by subst q; exact hv8 w2
      unfold hop
      rw [if_pos hvT, if_pos hvT, r v 8 e (by omega)]
      by_cases e8 : A.1 v 8 = -1
      · rw [if_pos e8, if_pos e8]
      · rw [if_neg e8, if_neg e8]
        rcases (hI.hi).1 v hvT with q | ⟨l', hl', q⟩
        · exact absurd q e8
        · have e2 : ¬ l' = l := fun z => by subst z; exact hv8 q
          rw [q, cl (by omega), r 11 l' (by omega) (by omega)]
    · unfold hop
      rw [if_neg hvT, if_neg hvT]
  · obtain ⟨hvT, hv8⟩ := hv
    constructor
    · unfold hop
      rw [if_pos hvT, hv8, if_neg (m1_ne (by omega)), cl (by omega), htl, if_neg (m1_ne (by omega)), cl (by omega)]
    · by_cases e : v = u
      · subst e; exact Or.inl hu'
      · right
        unfold hop
        rw [if_pos hvT, r v 8 e (by omega), hv8, if_neg (m1_ne (by omega)), cl (by omega), rl, if_neg (m1_ne (by omega)), cl (by omega)]
theorem pr_mk (hT : T ≤ 10) (hs : ∀ v, v ∈ stk → v < T) (hR : R < T) : pr T (mk T A stk) R = pr T A R := by
  cases stk with
  | nil => rfl
  | cons t r =>
    show pr T (if A.1 t 3 = 3 then A else note (up A t 3 3) 5 (nI t) 0) R = _
    have := hs t List.mem_cons_self
    split
    · rfl
    · rw [pr_fst (A' := note (up A t 3 3) 5 (nI t) 0) (A := up A t 3 3) rfl]
      exact pr_up (by omega) (by omega) (by omega) hT hR
theorem pr_gv (hI : Inv T 10 A) (hl : l < 6) (ht : t < T) (h3 : A.1 t 3 = 3) (htl : A.1 11 l = nI t) (hR : R < T) (R0 : A.1 R 3 = 0) : pr T (gv1 T A t l) R = pr T A R := by
  unfold gv1
  cases e : nx T A l with
  | none =>
    dsimp only
    have hw := nx_none e
    have h1 : pr T (up (note A 4 (nI t) (nI l)) 11 l (-1)) R = pr T (note A 4 (nI t) (nI l)) R := pr_hold hI.T10 (A := note A 4 (nI t) (nI l)) hI.hi (fun u hu => hI.none hl hw hu) hR
    show pr T (up (note A 4 (nI t) (nI l)) 11 l (-1)) R = _
    rw [h1]
    exact pr_fst rfl R
  | some u =>
    dsimp only
    exact pr_gvu hI hl ht h3 htl (nx_some e) hR R0
theorem rdy_stl (hR : R < T) : ∀ (n : Nat) (stk : List Nat) (A : AS), SI T A stk → A.1 R 3 = 0 → (stl T n stk A).1 R 3 = 0 ∧ pr T (stl T n stk A) R = pr T A R := by
  intro n
  induction n with
  | zero => intro stk A _ h; exact ⟨h, rfl⟩
  | succ n ih =>
    intro stk A h R0
    have hT := h.1.T10
    cases stk with
    | nil => exact ⟨R0, rfl⟩
    | cons t r =>
      rw [stl]
      cases e : low A t with
      | none =>
        have hlen : (t :: r).length = r.length + 1 := rfl
        exact ih r A ⟨h.1, fun u hu => h.2.1 u (List.mem_cons_of_mem _ hu), by have := h.2.2; omega⟩ R0
      | some l =>
        obtain ⟨g1, g2, g3, g4, g5, g6, g7, g8⟩ := gv_step h e
        obtain ⟨hl, htl⟩ := low_some e
        obtain ⟨ht, ht3⟩ := h.2.1 t List.mem_cons_self
        dsimp only
        have R1 : (mk T (gv1 T A t l) (gvk T A t l (t :: r))).1 R 3 = 0 := by
          rw [g7 R 3 (by omega) (by rw [R0]; decide)]; exact R0
        obtain ⟨i1, i2⟩ := ih _ _ g1 R1
        refine ⟨i1, i2.trans ?_⟩
        rw [pr_mk hT (fun v hv => (g1.2.1 v hv).1) hR]
        exact pr_gv h.1 hl ht ht3 htl hR R0
theorem rdy_cmb (hI : Inv T 10 A) (ht : t < T) (h3 : A.1 t 3 = 1) (hk : 1 ≤ k) (hk4 : k ≤ 4) (hL : A.2.1.length ≤ LIM) (hR : R < T) (R0 : A.1 R 3 = 0) : (cmb T A t k).1 R 3 = 0 ∧ pr T (cmb T A t k) R = pr T A R := by
  have hT := hI.T10
  have Rt : ¬ R = t := fun q => by subst q; rw [h3] at R0; exact absurd R0 (by decide)
  obtain ⟨hS, -, -⟩ := fin_ok (cmA_inv hI ht h3 hk hk4 hL) ht (by rw [cmA_3 hk]; decide)
  have e1 : (cmA A t k).1 R 3 = 0 := by rw [cmA_e hk, if_neg Rt]; exact R0
  have e2 : pr T (cmA A t k) R = pr T A R := by
    have c1 := pr_up (T := T) (A := A) (a := t) (b := 3) (v := 0) (by omega) (by omega) (by omega) hT hR
    have c2 := pr_up (T := T) (A := up A t 3 0) (a := t) (b := 7) (v := -1) (by omega) (by omega) (by omega) hT hR
    have c3 := pr_up (T := T) (A := up (up A t 3 0) t 7 (-1)) (a := t) (b := 6) (v := nI k) (by omega) (by omega) (by omega) hT hR
    have c4 := pr_up (T := T) (A := up (up (up A t 3 0) t 7 (-1)) t 6 (nI k)) (a := t) (b := 11 + k) (v := (up (up (up A t 3 0) t 7 (-1)) t 6 (nI k)).1 t (11 + k) + 1) (by omega) (by omega) (by omega) hT hR
    exact (pr_fst rfl R).trans (c4.trans (c3.trans (c2.trans c1)))
  have hs : ∀ v, v ∈ ps (cmA A t k) t [] → v < T ∧ ¬ v = R := fun v hv => by
    unfold ps at hv
    split at hv
    · rcases List.mem_singleton.mp hv with rfl
      exact ⟨ht, fun q => Rt q.symm⟩
    · cases hv
  have e3 : (mk T (cmA A t k) (ps (cmA A t k) t [])).1 R 3 = 0 := by
    cases hp : ps (cmA A t k) t [] with
    | nil => exact e1
    | cons a r =>
      show (if (cmA A t k).1 a 3 = 3 then cmA A t k else note (up (cmA A t k) a 3 3) 5 (nI a) 0).1 R 3 = 0
      have := (hs a (by rw [hp]; exact List.mem_cons_self)).2
      split
      · exact e1
      · show (up (cmA A t k) a 3 3).1 R 3 = 0
        rw [up_a (fun q => this q.symm)]; exact e1
  obtain ⟨i1, i2⟩ := rdy_stl hR 64 _ _ hS e3
  refine ⟨i1, i2.trans ?_⟩
  rw [pr_mk hT (fun v hv => (hs v hv).1) hR]
  exact e2
theorem rdy_wbT (hR : R < T) : ∀ (n : Nat) (A : AS), Inv T 10 A → A.2.1.length + 201 * n ≤ LIM → A.1 R 3 = 0 → (wbT T n A).1 R 3 = 0 ∧ pr T (wbT T n A) R = pr T A R := by
  intro n
  induction n with
  | zero => intro A _ _ h; exact ⟨h, rfl⟩
  | succ n ih =>
    intro A hI hL R0
    rw [wbT]
    cases e : due T A with
    | none => exact ⟨R0, rfl⟩
    | some t =>
      obtain ⟨ht, h3⟩ := due_some e
      obtain ⟨-, -, c1, c2, c3, -⟩ := cm_ok hI ht h3 (c := 2) (by omega) (by omega) (by omega)
      obtain ⟨r1, r2⟩ := rdy_cmb hI ht h3 (k := 2) (by omega) (by omega) (by omega) hR R0
      obtain ⟨i1, i2⟩ := ih _ c1 (by omega) r1
      exact ⟨i1, i2.trans r2⟩
/-- the one who runs -/
def Bst (T : Nat) (A : AS) (i : Nat) (b : Option Nat) : Prop := match b with
  | none => ∀ t, t < i → ¬ A.1 t 3 = 0
  | some j => ∀ t, t < i → A.1 t 3 = 0 → pr T A t ≤ pr T A j
theorem i32_tr {a b c : Int32} (h1 : a ≤ b) (h2 : b ≤ c) : a ≤ c := by
  rw [i32_le] at *
  omega
theorem bst_chN {i : Nat} {b : Option Nat} (h : Bst T A i b) : Bst T A (i + 1) (chN T A i b) := by
  cases b with
  | none =>
    intro t ht q
    by_cases e : t = i
    · subst e; exact i32_le.mpr (Int.le_refl _)
    · exact absurd q (h t (by omega))
  | some j =>
    show Bst T A (i + 1) (if ahd T A i j = true then some i else some j)
    by_cases e : ahd T A i j = true
    · rw [if_pos e]
      have hij : pr T A j ≤ pr T A i := by
        unfold ahd at e
        by_cases e2 : pr T A i = pr T A j
        · rw [e2]; exact i32_le.mpr (Int.le_refl _)
        · rw [if_neg e2] at e
          have := of_decide_eq_true e
          rw [i32_le] at this ⊢
          omega
      intro t ht q
      by_cases et : t = i
      · subst et; exact i32_le.mpr (Int.le_refl _)
      · exact i32_tr (h t (by omega) q) hij
    · rw [if_neg e]
      have hij : pr T A i ≤ pr T A j := by
        unfold ahd at e
        by_cases e2 : pr T A i = pr T A j
        · rw [e2]; exact i32_le.mpr (Int.le_refl _)
        · rw [if_neg e2] at e
          by_cases e3 : pr T A i ≤ pr T A j
          · exact e3
          · exact absurd (decide_eq_true e3) e
      intro t ht q
      by_cases et : t = i
      · subst et; exact hij
      · exact h t (by omega) q
theorem bst_chF : ∀ (n i : Nat) (b : Option Nat), Bst T A i b → Bst T A (i + n) (chF T A n i b) := by
  intro n
  induction n with
  | zero => intro i b h; exact h
  | succ n ih =>
    intro i b h
    rw [chF]
    have e : i + (n + 1) = (i + 1) + n := by omega
    rw [e]
    by_cases e3 : A.1 i 3 = 0
    · have n1 := not_not_intro e3
      rw [if_neg n1]
      exact ih _ _ (bst_chN h)
    · rw [if_pos e3]
      refine ih _ _ ?_
      cases b with
      | none =>
        intro t ht
        by_cases et : t = i
        · subst et; exact e3
        · exact h t (by omega)
      | some j =>
        intro t ht q
        by_cases et : t = i
        · subst et; exact absurd q e3
        · exact h t (by omega) q
theorem bst_chs : Bst T A T (chs T A) := by
  have := bst_chF (T := T) (A := A) T 0 none (fun t ht => absurd ht (Nat.not_lt_zero t))
  rw [Nat.zero_add] at this
  exact this
/-- nobody who is ready is ahead of the one who will run -/
theorem nobody (hI : Inv T 10 A) (h0 : A.1 10 0 ≤ 0) (hL : A.2.1.length + 4020 ≤ LIM) : (chs T (wbt T A) = none → ∀ t, t < T → ¬ A.1 t 3 = 0) ∧ ∀ b, chs T (wbt T A) = some b → A.1 b 3 = 0 → ∀ t, t < T → A.1 t 3 = 0 → pr T A t ≤ pr T A b := by
  have hw : wbt T A = wbT T 10 A := by
    obtain ⟨-, i2, -⟩ := wbT_ok 10 A hI (by omega)
    unfold wbt
    rw [i2.1 0 (by omega), if_pos h0]
  rw [hw]
  have hb := bst_chs (T := T) (A := wbT T 10 A)
  constructor
  · intro e t ht q
    rw [e] at hb
    exact hb t ht (rdy_wbT ht 10 A hI (by omega) q).1
  · intro b e b0 t ht q
    have hbT := (chs_some e).1
    rw [e] at hb
    obtain ⟨r1, r2⟩ := rdy_wbT ht 10 A hI (by omega) q
    obtain ⟨s1, s2⟩ := rdy_wbT hbT 10 A hI (by omega) b0
    have := hb t ht r1
    rw [r2, s2] at this
    exact this
end RDY
