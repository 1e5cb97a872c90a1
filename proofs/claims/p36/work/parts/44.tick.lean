/-! ===== a tick ===== -/
def ntG (T : Nat) (A : AS) : AS := (fun a b => if a < T ∧ b = 16 then (if A.1 a 16 < pr T A a then pr T A a else A.1 a 16) else A.1 a b, A.2)
def duF (A : AS) : Nat → Nat → Option Nat → Int32 → Option Nat
  | 0, _, b, _ => b
  | n + 1, i, b, e => if ¬ A.1 i 3 = 1 then duF A n (i + 1) b e else if A.1 i 7 = -1 then duF A n (i + 1) b e else if e ≤ A.1 i 7 then duF A n (i + 1) b e else duF A n (i + 1) (some i) (A.1 i 7)
def due (T : Nat) (A : AS) : Option Nat := duF A T 0 none (A.1 10 3 + 1)
def ahd (T : Nat) (A : AS) (i j : Nat) : Bool := if pr T A i = pr T A j then decide (¬ A.1 j 10 ≤ A.1 i 10) else decide (¬ pr T A i ≤ pr T A j)
def chN (T : Nat) (A : AS) (i : Nat) (b : Option Nat) : Option Nat := match b with
  | none => some i
  | some j => if ahd T A i j = true then some i else some j
def chF (T : Nat) (A : AS) : Nat → Nat → Option Nat → Option Nat
  | 0, _, b => b
  | n + 1, i, b => if ¬ A.1 i 3 = 0 then chF T A n (i + 1) b else chF T A n (i + 1) (chN T A i b)
def chs (T : Nat) (A : AS) : Option Nat := chF T A T 0 none
def drn (A : AS) : Nat := (1103 * (A.1 10 4).toNatClampNeg + 12345) % 1000003
def drw (A : AS) : AS := up A 10 4 (nI (drn A))
def drv (A : AS) : Int32 := nI (drn A % 1000)
def wbT (T : Nat) : Nat → AS → AS
  | 0, A => A
  | n + 1, A => match due T A with
    | none => A
    | some t => wbT T n (cmb T A t 2)
def wbS (T : Nat) : Nat → Nat → AS → AS
  | 0, _, A => A
  | n + 1, i, A => if ¬ A.1 i 3 = 1 then wbS T n (i + 1) A else if A.1 10 0 ≤ drv A then wbS T n (i + 1) (drw A) else wbS T n (i + 1) (cmb T (drw A) i 3)
def wbt (T : Nat) (A : AS) : AS := if (wbT T 10 A).1 10 0 ≤ 0 then wbT T 10 A else wbS T T 0 (wbT T 10 A)
def tkB (T : Nat) (A : AS) : AS := match chs T A with
  | none => inc A 10 6
  | some t => pfA T (pf0 A t) t
def tick (T : Nat) (A : AS) : AS := inc (tkB T (wbt T (ntG T A))) 10 3
theorem duF_some {A : AS} {t : Nat} : ∀ n i b e, (b = some t → t < i ∧ A.1 t 3 = 1) → duF A n i b e = some t → t < i + n ∧ A.1 t 3 = 1 := by
  intro n
  induction n with
  | zero => intro i b e hb h; have := hb h; exact ⟨by omega, this.2⟩
  | succ n ih =>
    intro i b e hb h
    rw [duF] at h
    have hb' : b = some t → t < i + 1 ∧ A.1 t 3 = 1 := fun z => ⟨by have := (hb z).1; omega, (hb z).2⟩
    split at h
    · have := ih _ _ _ hb' h; exact ⟨by omega, this.2⟩
    · rename_i e3
      split at h
      · have := ih _ _ _ hb' h; exact ⟨by omega, this.2⟩
      · split at h
        · have := ih _ _ _ hb' h; exact ⟨by omega, this.2⟩
        · have := ih _ _ _ (fun z => by
            cases z
            exact ⟨by omega, Classical.not_not.mp e3⟩) h
          exact ⟨by omega, this.2⟩
theorem due_some {T t : Nat} {A : AS} (h : due T A = some t) : t < T ∧ A.1 t 3 = 1 := by
  have := duF_some T 0 none _ (fun z => (nomatch z)) h
  exact ⟨by omega, this.2⟩
theorem chF_some {T t : Nat} {A : AS} : ∀ n i b, (b = some t → t < i ∧ A.1 t 3 = 0) → chF T A n i b = some t → t < i + n ∧ A.1 t 3 = 0 := by
  intro n
  induction n with
  | zero => intro i b hb h; have := hb h; exact ⟨by omega, this.2⟩
  | succ n ih =>
    intro i b hb h
    rw [chF] at h
    have hb' : b = some t → t < i + 1 ∧ A.1 t 3 = 0 := fun z => ⟨by have := (hb z).1; omega, (hb z).2⟩
    split at h
    · have := ih _ _ hb' h; exact ⟨by omega, this.2⟩
    · rename_i e3
      have hi : some i = some t → t < i + 1 ∧ A.1 t 3 = 0 := fun z => by
        cases z
        exact ⟨by omega, Classical.not_not.mp e3⟩
      have hn : chN T A i b = some t → t < i + 1 ∧ A.1 t 3 = 0 := fun z => by
        unfold chN at z
        split at z
        · exact hi z
        · split at z
          · exact hi z
          · exact hb' z
      have := ih _ _ hn h
      exact ⟨by omega, this.2⟩
theorem chs_some {T t : Nat} {A : AS} (h : chs T A = some t) : t < T ∧ A.1 t 3 = 0 := by
  have := chF_some T 0 none (fun z => (nomatch z)) h
  exact ⟨by omega, this.2⟩
section TICK
variable {T : Nat} {A : AS}
theorem drn_lt (A : AS) : drn A < 1000003 := Nat.mod_lt _ (by decide)
theorem drw_inv {ex : Nat} (h : Inv T ex A) : Inv T ex (drw A) := by
  have hT := h.T10
  have r : ∀ a b, ¬ (a = 10 ∧ b = 4) → (drw A).1 a b = A.1 a b := fun a b q => by unfold drw; rw [up_e, if_neg q]
  have hn := drn_lt A
  refine Inv_min h (fun u b hu _ _ _ _ _ _ _ _ => r _ _ (by omega)) (fun u hu => by rw [r _ _ (by omega)]; exact h.p4 u hu) (fun u hu => by rw [r _ _ (by omega)]; exact h.p5 u hu) (fun a b ha => r _ _ (by omega)) (r _ _ (by omega)) ?_ rfl (Nat.le_refl _)
  rw [r 10 5 (by omega), r 10 3 (by omega), show (drw A).1 10 4 = nI (drn A) from up_s, nI_toInt (by omega)]
  exact ⟨by omega, h.2.2.2.2.2.1.2⟩
theorem drw_evo (hT : T ≤ 10) : Evo T A (drw A) := by
  have r : ∀ a b, ¬ (a = 10 ∧ b = 4) → (drw A).1 a b = A.1 a b := fun a b q => by unfold drw; rw [up_e, if_neg q]
  exact Evo.of (fun b hb => r _ _ (by omega)) (fun a b ha => r _ _ (by omega)) (fun u b hu hb => r _ _ (by omega)) (Nat.le_refl _)
theorem ntG_e (a b : Nat) (h : ¬ b = 16 ∨ T ≤ a) : (ntG T A).1 a b = A.1 a b := by
  show (if a < T ∧ b = 16 then _ else _) = _
  rw [if_neg (by omega)]
theorem ntG_inv (h : Inv T 10 A) : Inv T 10 (ntG T A) := by
  have hT := h.T10
  exact Inv_min h (fun u b hu _ _ _ _ _ _ _ q => ntG_e _ _ (by omega)) (fun u hu => by rw [ntG_e _ _ (by omega)]; exact h.p4 u hu) (fun u hu => by rw [ntG_e _ _ (by omega)]; exact h.p5 u hu) (fun a b ha => ntG_e _ _ (by omega)) (ntG_e _ _ (by omega)) (by rw [ntG_e 10 4 (by omega), ntG_e 10 5 (by omega), ntG_e 10 3 (by omega)]; exact h.2.2.2.2.2.1) rfl (Nat.le_refl _)
theorem ntG_evo (hT : T ≤ 10) : Evo T A (ntG T A) := Evo.of (fun b hb => ntG_e _ _ (by omega)) (fun a b ha => ntG_e _ _ (by omega)) (fun u b hu hb => ntG_e _ _ (by omega)) (Nat.le_refl _)
theorem wbT_ok : ∀ (n : Nat) (A : AS), Inv T 10 A → A.2.1.length + 201 * n ≤ LIM → Inv T 10 (wbT T n A) ∧ Evo T A (wbT T n A) ∧ (wbT T n A).2.1.length ≤ A.2.1.length + 201 * n := by
  intro n
  induction n with
  | zero => intro A h _; exact ⟨h, Evo.refl T A, Nat.le_refl _⟩
  | succ n ih =>
    intro A h hL
    rw [wbT]
    cases e : due T A with
    | none => exact ⟨h, Evo.refl T A, Nat.le_add_right _ _⟩
    | some t =>
      obtain ⟨ht, h3⟩ := due_some e
      obtain ⟨-, -, c1, c2, c3, -⟩ := cm_ok h ht h3 (c := 2) (by omega) (by omega) (by omega)
      obtain ⟨i1, i2, i3⟩ := ih _ c1 (by omega)
      exact ⟨i1, c2.trans i2, by dsimp only; omega⟩
def pcn (T : Nat) (A : AS) : Nat := cnt (fun u => decide (A.1 u 3 = 1)) T
/-- all that are due have come back -/
theorem wbT_end : ∀ (n : Nat) (A : AS), Inv T 10 A → A.2.1.length + 201 * n ≤ LIM → pcn T A ≤ n → due T (wbT T n A) = none := by
  intro n
  induction n with
  | zero =>
    intro A h _ hp
    cases e : due T (wbT T 0 A) with
    | none => rfl
    | some t =>
      exfalso
      obtain ⟨ht, h3⟩ := due_some e
      have := cnt_lt (p := fun _ => false) (q := fun u => decide (A.1 u 3 = 1)) (t := t) T (fun _ _ q => (nomatch q)) ht (by simp only [decide_eq_true_eq]; exact h3) (by decide)
      unfold pcn at hp
      omega
  | succ n ih =>
    intro A h hL hp
    rw [wbT]
    cases e : due T A with
    | none => exact e
    | some t =>
      obtain ⟨ht, h3⟩ := due_some e
      have hT := h.T10
      obtain ⟨-, -, c1, c2, c3, -, -, c6⟩ := cm_ok h ht h3 (c := 2) (by omega) (by omega) (by omega)
      refine ih _ c1 (by omega) ?_
      have := cnt_lt (p := fun u => decide ((cmb T A t 2).1 u 3 = 1)) (q := fun u => decide (A.1 u 3 = 1)) (t := t) T (fun u hu q => by
        simp only [decide_eq_true_eq] at q ⊢
        exact (c6 u (by omega) q).1) ht (by simp only [decide_eq_true_eq]; exact h3) (by
        simp only [decide_eq_true_eq]
        exact fun q => (c6 t (by omega) q).2 rfl)
      unfold pcn at hp ⊢
      omega
theorem wbS_ok : ∀ (n i : Nat) (A : AS), i + n = T → Inv T 10 A → A.2.1.length + 201 * n ≤ LIM → Inv T 10 (wbS T n i A) ∧ Evo T A (wbS T n i A) ∧ (wbS T n i A).2.1.length ≤ A.2.1.length + 201 * n := by
  intro n
  induction n with
  | zero => intro i A _ h _; exact ⟨h, Evo.refl T A, Nat.le_refl _⟩
  | succ n ih =>
    intro i A hi h hL
    have hT := h.T10
    rw [wbS]
    by_cases e : A.1 i 3 = 1
    · rw [if_neg (fun q => q e)]
      have d1 := drw_inv h
      have d2 := drw_evo (A := A) hT
      have d3 : (drw A).2.1.length = A.2.1.length := rfl
      by_cases e2 : A.1 10 0 ≤ drv A
      · rw [if_pos e2]
        obtain ⟨i1, i2, i3⟩ := ih (i + 1) (drw A) (by omega) d1 (by omega)
        exact ⟨i1, d2.trans i2, by omega⟩
      · rw [if_neg e2]
        obtain ⟨-, -, c1, c2, c3, -⟩ := cm_ok d1 (t := i) (by omega) ((up_a (by omega)).trans e) (c := 3) (by omega) (by omega) (by omega)
        obtain ⟨i1, i2, i3⟩ := ih (i + 1) _ (by omega) c1 (by omega)
        exact ⟨i1, d2.trans (c2.trans i2), by omega⟩
    · rw [if_pos e]
      obtain ⟨i1, i2, i3⟩ := ih (i + 1) A (by omega) h (by omega)
      exact ⟨i1, i2, by omega⟩
theorem wbt_ok (h : Inv T 10 A) (hL : A.2.1.length + 4020 ≤ LIM) : Inv T 10 (wbt T A) ∧ Evo T A (wbt T A) ∧ (wbt T A).2.1.length ≤ A.2.1.length + 4020 := by
  have hT := h.T10
  obtain ⟨i1, i2, i3⟩ := wbT_ok 10 A h (by omega)
  unfold wbt
  split
  · exact ⟨i1, i2, by omega⟩
  · obtain ⟨j1, j2, j3⟩ := wbS_ok T 0 _ (by omega) i1 (by omega)
    exact ⟨j1, i2.trans j2, by omega⟩
theorem place_of {t : Nat} (h : Inv T 10 A) (ht : t < T) (h3 : A.1 t 3 = 0) : ∃ z q, A.1 t 1 = nI z ∧ A.1 t 2 = nI q ∧ q < z ∧ z ≤ 16 ∧ okc (A.1 12 (16 * t + q)) (A.1 13 (16 * t + q)) := by
  obtain ⟨-, ⟨z, q, b1, b2, b3, b4, -, b6⟩, -⟩ := h.2.1 t ht
  have hT := h.T10
  have hqz : q < z := by
    have := h.2.2.1 t ht (by omega) (Or.inl h3)
    rw [b1, b2] at this
    have : ¬ q = z := fun e => this (by rw [e])
    omega
  exact ⟨z, q, b1, b2, hqz, b4, b6 q hqz⟩
theorem pfx_ok {t : Nat} (h : Inv T 10 A) (ht : t < T) (h3 : A.1 t 3 = 0) (hL : A.2.1.length + 10 ≤ LIM) : Px T A t (pfx T A t) := by
  have hT := h.T10
  obtain ⟨z, q, b1, b2, hqz, hz, c, hc, e1, e2, e3⟩ := place_of h ht h3
  have ep : pfx T A t = pfm T A t c (A.1 13 (16 * t + q)) := by
    unfold pfx
    rw [b2, cl (by omega), e1, cl (by omega)]
  rw [ep]
  exact pfm_ok h ht h3 b1 b2 hqz hz hc e1 rfl e2 e3 hL
theorem pfA_ok {t : Nat} (h : Inv T 10 A) (ht : t < T) (h3 : A.1 t 3 = 0) (hL : A.2.1.length + 500 ≤ LIM) : Inv T 10 (pfA T A t) ∧ Evo T A (pfA T A t) ∧ (pfA T A t).2.1.length ≤ A.2.1.length + 405 := by
  have hT := h.T10
  obtain ⟨k1, k2, k3, k4, k5, k6⟩ := pfx_ok h ht h3 (by omega)
  unfold pfA
  by_cases e : (pfx T A t).2 = true
  · rw [if_pos e]
    obtain ⟨m1, m2, m3, m4⟩ := k5 e
    have e3 : (goB (fin T (pfx T A t).1.1 (pfx T A t).1.2) t).1 t 3 = (fin T (pfx T A t).1.1 (pfx T A t).1.2).1 t 3 := by rw [goB_e, if_pos rfl, if_neg (by omega), if_neg (by omega)]
    obtain ⟨-, -, s3⟩ := fin_ok m3 ht (by rw [e3]; exact m4)
    have ev := s3.evo hT
    have el : (goB (fin T (pfx T A t).1.1 (pfx T A t).1.2) t).2.1.length = (fin T (pfx T A t).1.1 (pfx T A t).1.2).2.1.length := rfl
    exact ⟨s3.1, k3.trans ((goB_evo hT ht).trans ev), by have := s3.2.1; show (fin T _ _).2.1.length ≤ _; omega⟩
  · rw [if_neg e]
    exact ⟨k6 (by simpa using e), k3, by omega⟩
theorem tkB_ok (h : Inv T 10 A) (hL : A.2.1.length + 500 ≤ LIM) : Inv T 10 (tkB T A) ∧ Evo T A (tkB T A) ∧ (tkB T A).2.1.length ≤ A.2.1.length + 405 := by
  have hT := h.T10
  unfold tkB
  cases e : chs T A with
  | none =>
    have r : ∀ a b, ¬ (a = 10 ∧ b = 6) → (inc A 10 6).1 a b = A.1 a b := fun a b q => by rw [inc_e, if_neg q]
    refine ⟨?_, Evo.of (fun b hb => r _ _ (by omega)) (fun a b ha => r _ _ (by omega)) (fun u b hu hb => r _ _ (by omega)) (Nat.le_refl _), Nat.le_add_right _ _⟩
    exact Inv_min h (fun u b hu _ _ _ _ _ _ _ _ => r _ _ (by omega)) (fun u hu => by rw [r _ _ (by omega)]; exact h.p4 u hu) (fun u hu => by rw [r _ _ (by omega)]; exact h.p5 u hu) (fun a b ha => r _ _ (by omega)) (r _ _ (by omega)) (by rw [r 10 4 (by omega), r 10 5 (by omega), r 10 3 (by omega)]; exact h.2.2.2.2.2.1) rfl (Nat.le_refl _)
  | some t =>
    obtain ⟨ht, h3⟩ := chs_some e
    have el : (pf0 A t).2.1.length = A.2.1.length := rfl
    obtain ⟨p1, p2, p3⟩ := pfA_ok (pf0_inv h ht) ht ((pf0_e _ _ (by omega)).trans h3) (by omega)
    exact ⟨p1, (pf0_evo hT ht).trans p2, by dsimp only; omega⟩
/-- a tick keeps the state; what it counts -/
theorem tick_ok (h : Inv T 10 A) (hL : A.2.1.length + 4600 ≤ LIM) (ht : (A.1 10 3).toInt < 2147483000) : Inv T 10 (tick T A) ∧ (∃ B, Evo T A B ∧ tick T A = inc B 10 3) ∧ (tick T A).2.1.length ≤ A.2.1.length + 4500 ∧ ((tick T A).1 10 3).toInt = (A.1 10 3).toInt + 1 := by
  have hT := h.T10
  have n1 := ntG_inv h
  have n2 := ntG_evo (A := A) hT
  have n3 : (ntG T A).2.1.length = A.2.1.length := rfl
  obtain ⟨w1, w2, w3⟩ := wbt_ok n1 (by omega)
  obtain ⟨b1, b2, b3⟩ := tkB_ok w1 (by omega)
  have ev := n2.trans (w2.trans b2)
  have et : (tkB T (wbt T (ntG T A))).1 10 3 = A.1 10 3 := ev.1 3 (by omega)
  have el : (tick T A).2.1.length = (tkB T (wbt T (ntG T A))).2.1.length := rfl
  have h0 := h.2.2.2.2.2.1.2.2
  have e3 : (tick T A).1 10 3 = A.1 10 3 + 1 := by
    unfold tick
    rw [inc_e, if_pos ⟨rfl, rfl⟩, et]
  have e3' : ((tick T A).1 10 3).toInt = (A.1 10 3).toInt + 1 := by rw [e3, i32_suc h0 (by omega)]
  have r : ∀ a b, ¬ (a = 10 ∧ b = 3) → (tick T A).1 a b = (tkB T (wbt T (ntG T A))).1 a b := fun a b q => by
    unfold tick
    rw [inc_e, if_neg q]
  refine ⟨?_, ⟨_, ev, rfl⟩, by omega, e3'⟩
  exact Inv_min b1 (fun u b hu _ _ _ _ _ _ _ _ => r _ _ (by omega)) (fun u hu => by rw [r _ _ (by omega)]; exact b1.p4 u hu) (fun u hu => by rw [r _ _ (by omega)]; exact b1.p5 u hu) (fun a b ha => r _ _ (by omega)) (r _ _ (by omega)) (by
    rw [r 10 4 (by omega), r 10 5 (by omega)]
    exact ⟨b1.2.2.2.2.2.1.1, b1.2.2.2.2.2.1.2.1, by omega⟩) rfl (Nat.le_refl _)
end TICK
