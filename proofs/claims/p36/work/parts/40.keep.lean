/-! ===== what a tick's parts keep ===== -/
def Evo (T : Nat) (A A' : AS) : Prop := (∀ b, b < 4 → A'.1 10 b = A.1 10 b) ∧ (∀ b, A'.1 12 b = A.1 12 b ∧ A'.1 13 b = A.1 13 b) ∧ (∀ u, u < T → A'.1 u 0 = A.1 u 0 ∧ A'.1 u 1 = A.1 u 1) ∧ (∀ u b, u < T → 12 ≤ b → b < 16 → (A.1 u b).toInt ≤ (A'.1 u b).toInt) ∧ A.2.1.length ≤ A'.2.1.length
theorem Evo.refl (T : Nat) (A : AS) : Evo T A A := ⟨fun _ _ => rfl, fun _ => ⟨rfl, rfl⟩, fun _ _ => ⟨rfl, rfl⟩, fun _ _ _ _ _ => Int.le_refl _, Nat.le_refl _⟩
theorem Evo.trans {T : Nat} {A B D : AS} (h : Evo T A B) (h2 : Evo T B D) : Evo T A D :=
  ⟨fun b hb => (h2.1 b hb).trans (h.1 b hb), fun b => ⟨(h2.2.1 b).1.trans (h.2.1 b).1, (h2.2.1 b).2.trans (h.2.1 b).2⟩, fun u hu => ⟨(h2.2.2.1 u hu).1.trans (h.2.2.1 u hu).1, (h2.2.2.1 u hu).2.trans (h.2.2.1 u hu).2⟩, fun u b hu h3 h4 => Int.le_trans (h.2.2.2.1 u b hu h3 h4) (h2.2.2.2.1 u b hu h3 h4), Nat.le_trans h.2.2.2.2 h2.2.2.2.2⟩
theorem Evo.of {T : Nat} {A A' : AS} (h1 : ∀ b, b < 4 → A'.1 10 b = A.1 10 b) (h2 : ∀ a b, 12 ≤ a → A'.1 a b = A.1 a b) (h3 : ∀ u b, u < T → b < 2 ∨ (12 ≤ b ∧ b < 16) → A'.1 u b = A.1 u b) (h4 : A.2.1.length ≤ A'.2.1.length) : Evo T A A' :=
  ⟨h1, fun b => ⟨h2 _ _ (by omega), h2 _ _ (by omega)⟩, fun u hu => ⟨h3 _ _ hu (by omega), h3 _ _ hu (by omega)⟩, fun u b hu q1 q2 => by rw [h3 u b hu (by omega)]; exact Int.le_refl _, h4⟩
theorem Fo.evo {T t : Nat} {B A' : AS} (h : Fo T t B A') (hT : T ≤ 10) : Evo T B A' := by
  obtain ⟨-, -, h3, h4, h5, -⟩ := h
  exact Evo.of (fun b hb => h4 _ _ (by omega) (by omega)) (fun a b ha => h4 _ _ (by omega) (by omega)) (fun u b hu hb => h5 u b (by omega) (by omega) (by omega) (by omega) (by omega)) h3
theorem cmA_evo {T t c : Nat} {A : AS} (h : Inv T 10 A) (ht : t < T) (hc : 1 ≤ c) (hc4 : c ≤ 4) (hL : A.2.1.length ≤ LIM) : Evo T A (cmA A t c) := by
  have hT := h.T10
  rw [LIM_eq] at hL
  have r := cmA_e (A := A) (t := t) hc
  have rn : ∀ a b, ¬ a = t → (cmA A t c).1 a b = A.1 a b := fun a b q => by rw [r, if_neg q]
  refine ⟨fun b hb => rn _ _ (by omega), fun b => ⟨rn _ _ (by omega), rn _ _ (by omega)⟩, fun u hu => ?_, fun u b hu h1 h2 => ?_, Nat.le_succ _⟩
  · rw [r, r]
    by_cases e : u = t
    · subst e
      simp
      omega
    · simp [e]
  · have hr := h.2.2.2.2.2.2 t ht
    unfold RI at hr
    rw [r]
    by_cases e : u = t
    · subst e
      rw [if_pos rfl]
      by_cases e2 : b = 11 + c
      · rw [if_pos e2, e2]
        have hcc : c = 1 ∨ c = 2 ∨ c = 3 ∨ c = 4 := by omega
        rcases hcc with rfl | rfl | rfl | rfl
        · have := i32_suc hr.1 (by omega); show (A.1 u 12).toInt ≤ (A.1 u 12 + 1).toInt; omega
        · have := i32_suc hr.2.1 (by omega); show (A.1 u 13).toInt ≤ (A.1 u 13 + 1).toInt; omega
        · have := i32_suc hr.2.2.1 (by omega); show (A.1 u 14).toInt ≤ (A.1 u 14 + 1).toInt; omega
        · have := i32_suc hr.2.2.2.1 (by omega); show (A.1 u 15).toInt ≤ (A.1 u 15 + 1).toInt; omega
      · rw [if_neg e2, if_neg (by omega), if_neg (by omega), if_neg (by omega)]
        exact Int.le_refl _
    · rw [if_neg e]; exact Int.le_refl _
/-- a return, with all its ends -/
def Cm (T t : Nat) (A A' : AS) : Prop := Inv T 10 A' ∧ Evo T A A' ∧ A'.2.1.length ≤ A.2.1.length + 201 ∧ (∀ b, 4 ≤ b → b < 12 → A'.1 10 b = A.1 10 b) ∧ (∀ u b, u < 10 → ¬ u = t → ¬ A.1 u 3 = 2 → A'.1 u b = A.1 u b) ∧ (∀ u, u < 10 → A'.1 u 3 = 1 → A.1 u 3 = 1 ∧ ¬ u = t)
theorem cm_ok {T t c : Nat} {A : AS} (h : Inv T 10 A) (ht : t < T) (h3 : A.1 t 3 = 1) (hc : 1 ≤ c) (hc4 : c ≤ 4) (hL : A.2.1.length ≤ LIM) : SI T (mk T (cmA A t c) (ps (cmA A t c) t [])) (ps (cmA A t c) t []) ∧ (mk T (cmA A t c) (ps (cmA A t c) t [])).2.1.length ≤ A.2.1.length + 2 ∧ Cm T t A (cmb T A t c) := by
  have hT := h.T10
  have r := cmA_e (A := A) (t := t) hc
  have rn : ∀ a b, ¬ a = t → (cmA A t c).1 a b = A.1 a b := fun a b q => by rw [r, if_neg q]
  have r3 := cmA_3 (A := A) (t := t) hc
  obtain ⟨s1, s2, s3⟩ := fin_ok (cmA_inv h ht h3 hc hc4 hL) ht (by rw [r3]; decide)
  have el : (cmA A t c).2.1.length = A.2.1.length + 1 := rfl
  refine ⟨s1, by omega, ?_⟩
  have ev := s3.evo hT
  obtain ⟨f1, f2, f3, f4, f5, f6, f7, f8⟩ := s3
  refine ⟨f1, (cmA_evo h ht hc hc4 hL).trans ev, by show (fin T _ _).2.1.length ≤ _; omega, fun b q1 q2 => ?_, fun u b q1 q2 q3 => ?_, fun u q1 q2 => ?_⟩
  · exact (f4 10 b (by omega) (by omega)).trans (rn _ _ (by omega))
  · exact (f6 u b q1 (fun z => q2 z.1) (by rw [rn _ _ q2]; exact q3)).trans (rn _ _ q2)
  · have := f8 u q1 q2
    by_cases e : u = t
    · subst e
      rw [r3] at this
      exact absurd this (by decide)
    · rw [rn _ _ e] at this
      exact ⟨this, e⟩
theorem goB_e {A : AS} {t : Nat} (a b : Nat) : (goB A t).1 a b = if a = t then (if b = 17 then 0 else if b = 2 then A.1 t 2 + 1 else A.1 t b) else A.1 a b := by
  unfold goB
  rw [up_e, inc_e]
  by_cases ea : a = t
  · subst ea
    simp
  · simp [ea]
/-- what goes on: its thread's row but for progress being sound -/
theorem goB_inv {T t z q : Nat} {A A0 : AS} (h : Inv T 10 A0) (ht : t < T) (e17 : A = A0 ∨ A = inc A0 t 17) (h1 : A0.1 t 1 = nI z) (h2 : A0.1 t 2 = nI q) (hqz : q < z) (hz : z ≤ 16) (h3 : ¬ A0.1 t 3 = 2) : Inv T t (goB A t) := by
  have hT := h.T10
  have r : ∀ a b, (goB A t).1 a b = if a = t then (if b = 17 then 0 else if b = 2 then A0.1 t 2 + 1 else A0.1 t b) else A0.1 a b := fun a b => by
    rw [goB_e]
    rcases e17 with e | e
    · rw [e]
    · subst e
      by_cases ea : a = t
      · rw [if_pos ea, if_pos ea]
        by_cases eb : b = 17
        · rw [if_pos eb, if_pos eb]
        · rw [if_neg eb, if_neg eb]
          by_cases e2 : b = 2
          · rw [if_pos e2, if_pos e2, inc_e, if_neg (by omega)]
          · rw [if_neg e2, if_neg e2, inc_e, if_neg (fun z => eb z.2)]
      · rw [if_neg ea, if_neg ea, inc_e, if_neg (fun z => ea z.1)]
  have rn : ∀ a b, ¬ a = t → (goB A t).1 a b = A0.1 a b := fun a b q => by rw [r, if_neg q]
  have rt : ∀ b, ¬ b = 17 → ¬ b = 2 → (goB A t).1 t b = A0.1 t b := fun b q1 q2 => by rw [r, if_pos rfl, if_neg q1, if_neg q2]
  have ew : (goB A t).2 = A0.2 := by
    rcases e17 with e | e
    · rw [e]; rfl
    · rw [e]; rfl
  obtain ⟨a1, ⟨z', q', b1, b2, b3, b4, b5, b6⟩, a3, a4, a5, a6, a7⟩ := h.2.1 t ht
  rw [h1] at b1
  have hzz : z = z' := nI_inj (by omega) (by omega) b1
  subst hzz
  have hz16 : z ≤ 16 ∧ ∀ j, j < z → okc (A0.1 12 (16 * t + j)) (A0.1 13 (16 * t + j)) := ⟨b4, b6⟩
  refine h.thr (Or.inl rfl) (fun v b q1 q2 => rn v b q1) (rn _ _ (by omega)) (rn _ _ (by omega)) (rn _ _ (by omega)) (rn _ _ (by omega)) (by rw [ew]) (by rw [ew]; exact Nat.le_refl _) ht (rt _ (by omega) (by omega)) ?_ t (Or.inr rfl) (fun e => absurd rfl e) ?_
  · refine ⟨?_, ⟨z, q + 1, ?_, ?_, by omega, hz16.1, Or.inl ?_, fun j hj => ?_⟩, ?_, ?_, ?_, fun z => ?_, fun _ => ?_⟩
    · rw [rt _ (by omega) (by omega)]; exact a1
    · rw [rt _ (by omega) (by omega)]; exact h1
    · rw [r, if_pos rfl, if_neg (by omega), if_pos rfl, h2, nI_1]
    · rw [r, if_pos rfl, if_pos rfl]
    · rw [rn _ _ (by omega), rn _ _ (by omega)]; exact hz16.2 j hj
    · rw [rt _ (by omega) (by omega)]; exact a3
    · rw [rt _ (by omega) (by omega)]; exact a4
    · rw [rt _ (by omega) (by omega)]; exact a5
    · rw [rt _ (by omega) (by omega)] at z; exact absurd z h3
    · rw [rt _ (by omega) (by omega)]; exact a7 h3
  · have := h.2.2.2.2.2.2 t ht
    unfold RI at this ⊢
    rw [rt _ (by omega) (by omega), rt _ (by omega) (by omega), rt _ (by omega) (by omega), rt _ (by omega) (by omega), ew]
    exact this
theorem goB_evo {T t : Nat} {A : AS} (hT : T ≤ 10) (ht : t < T) : Evo T A (goB A t) := by
  refine Evo.of (fun b hb => ?_) (fun a b ha => ?_) (fun u b hu hb => ?_) (Nat.le_refl _)
  · rw [goB_e, if_neg (by omega)]
  · rw [goB_e, if_neg (by omega)]
  · rw [goB_e]
    by_cases e : u = t
    · subst e; rw [if_pos rfl, if_neg (by omega), if_neg (by omega)]
    · rw [if_neg e]
/-- a thread that isn't parked parks, or goes on -/
theorem pk_e {A : AS} {t : Nat} {d : Int32} (a b : Nat) (h : ¬ a = t ∨ b = 0 ∨ b = 1 ∨ b = 2 ∨ b = 8 ∨ b = 9 ∨ b = 10 ∨ (12 ≤ b)) : (pk A t d).1 a b = A.1 a b := by
  unfold pk
  split
  · split
    · rw [note_1, inc_e, if_neg (by omega), up_e, if_neg (by omega), up_e, if_neg (by omega)]
    · rw [up_e, if_neg (by omega), up_e, if_neg (by omega)]
  · rw [up_e, if_neg (by omega), up_e, if_neg (by omega)]
theorem pk_t {A : AS} {t : Nat} {d : Int32} (h4 : A.1 t 4 = 0 ∨ A.1 t 4 = 1) (h5 : A.1 t 5 = 0 ∨ A.1 t 5 = 1) : ((pk A t d).1 t 4 = 0 ∨ (pk A t d).1 t 4 = 1) ∧ ((pk A t d).1 t 5 = 0 ∨ (pk A t d).1 t 5 = 1) ∧ ((pk A t d).1 t 3 = A.1 t 3 ∨ (pk A t d).1 t 3 = 1) ∧ (pk A t d).2.2 = A.2.2 ∧ A.2.1.length ≤ (pk A t d).2.1.length ∧ (pk A t d).2.1.length ≤ A.2.1.length + 1 := by
  unfold pk
  split
  · split
    · refine ⟨?_, ?_, ?_, rfl, Nat.le_succ _, Nat.le_refl _⟩
      · simp [note, inc, up, up2, h4]
      · simp [note, inc, up, up2, h5]
      · right; simp [note, inc, up, up2]
    · refine ⟨?_, ?_, ?_, rfl, Nat.le_refl _, Nat.le_succ _⟩
      · simp [up, up2]
      · simp [up, up2, h5]
      · left; simp [up, up2]
  · refine ⟨?_, ?_, ?_, rfl, Nat.le_refl _, Nat.le_succ _⟩
    · simp [up, up2, h4]
    · simp [up, up2]
    · left; simp [up, up2]
theorem pk_inv {T t : Nat} {A : AS} {d : Int32} (h : Inv T 10 A) (ht : t < T) (h3 : A.1 t 3 = 0) : Inv T 10 (pk A t d) := by
  have hT := h.T10
  obtain ⟨k1, k2, k3, k4, k5, k6⟩ := pk_t (d := d) (h.p4 t ht) (h.p5 t ht)
  have hz := h.2.2.1 t ht (by omega) (Or.inl h3)
  obtain ⟨a1, ⟨z, q, b1, b2, b3, b4, b5, b6⟩, a3, a4, a5, a6, a7⟩ := h.2.1 t ht
  have r := pk_e (A := A) (t := t) (d := d)
  refine h.thr (Or.inl rfl) (fun v b q1 q2 => r v b (Or.inl q1)) (r _ _ (by omega)) (r _ _ (by omega)) (r _ _ (by omega)) (r _ _ (by omega)) k4 k5 ht (r _ _ (by omega)) ?_ 10 (Or.inl rfl) (fun _ _ => ?_) (RI_mono (h.2.2.2.2.2.2 t ht) (fun b q1 q2 => r _ _ (by omega)) k5)
  · have k3' : ¬ (pk A t d).1 t 3 = 2 := by
      rcases k3 with z | z
      · rw [z, h3]; decide
      · rw [z]; decide
    refine ⟨?_, ⟨z, q, ?_, ?_, b3, b4, ?_, fun j hj => ?_⟩, ?_, k1, k2, fun z => absurd z k3', fun _ => ?_⟩
    · rw [r _ _ (by omega)]; exact a1
    · rw [r _ _ (by omega)]; exact b1
    · rw [r _ _ (by omega)]; exact b2
    · rw [r _ _ (by omega), r _ _ (by omega), r _ _ (by omega)]; exact b5
    · rw [r _ _ (by omega), r _ _ (by omega)]; exact b6 j hj
    · rcases k3 with z | z
      · rw [z, h3]; simp
      · rw [z]; simp
    · rw [r _ _ (by omega)]; exact a7 (by rw [h3]; decide)
  · rw [r _ _ (by omega), r _ _ (by omega)]; exact hz
theorem pk_evo {T t : Nat} {A : AS} {d : Int32} (hT : T ≤ 10) (ht : t < T) (h4 : A.1 t 4 = 0 ∨ A.1 t 4 = 1) (h5 : A.1 t 5 = 0 ∨ A.1 t 5 = 1) : Evo T A (pk A t d) := by
  have r := pk_e (A := A) (t := t) (d := d)
  exact Evo.of (fun b hb => r _ _ (by omega)) (fun a b ha => r _ _ (by omega)) (fun u b hu hb => r _ _ (by omega)) (pk_t h4 h5).2.2.2.2.1
/-- a wakeup, with all its ends -/
theorem wk_ok {T x : Nat} {A : AS} {w : Int32} (h : Inv T 10 A) (hx : x < T) (hL : A.2.1.length ≤ LIM) : (wkS A x = [] ∨ SI T (mk T (wkA A x w) (wkS A x)) (wkS A x)) ∧ (mk T (wkA A x w) (wkS A x)).2.1.length ≤ A.2.1.length + 2 ∧ Inv T 10 (fin T (wkA A x w) (wkS A x)) ∧ Evo T A (fin T (wkA A x w) (wkS A x)) ∧ (fin T (wkA A x w) (wkS A x)).2.1.length ≤ A.2.1.length + 201 ∧ (∀ t b, t < T → b < 4 → A.1 t 3 = 0 → (fin T (wkA A x w) (wkS A x)).1 t b = A.1 t b) := by
  have hT := h.T10
  unfold wkA wkS
  by_cases e : A.1 x 3 = 1
  · rw [if_pos e, if_pos e]
    obtain ⟨s1, s2, s3⟩ := cm_ok h hx e (c := 1) (by omega) (by omega) hL
    refine ⟨Or.inr s1, s2, s3.1, s3.2.1, s3.2.2.1, fun t b ht hb h0 => s3.2.2.2.2.1 t b (by omega) (fun z => ?_) (by rw [h0]; decide)⟩
    rw [z, e] at h0
    exact absurd h0 (by decide)
  · rw [if_neg e, if_neg e]
    have fn : ∀ B : AS, fin T B [] = B := fun B => rfl
    have mn : ∀ B : AS, mk T B [] = B := fun B => rfl
    rw [fn, mn]
    refine ⟨Or.inl rfl, ?_⟩
    split
    · have r : ∀ a b, ¬ (a = 10 ∧ b = 9) → (inc A 10 9).1 a b = A.1 a b := fun a b q => by rw [inc_e, if_neg q]
      refine ⟨Nat.le_add_right _ _, ?_, Evo.of (fun b hb => r _ _ (by omega)) (fun a b ha => r _ _ (by omega)) (fun u b hu hb => r _ _ (by omega)) (Nat.le_refl _), Nat.le_add_right _ _, fun t b ht hb _ => r _ _ (by omega)⟩
      exact Inv_min h (fun u b hu _ _ _ _ _ _ _ _ => r _ _ (by omega)) (fun u hu => by rw [r _ _ (by omega)]; exact h.p4 u hu) (fun u hu => by rw [r _ _ (by omega)]; exact h.p5 u hu) (fun a b ha => r _ _ (by omega)) (r _ _ (by omega)) (by rw [r _ _ (by omega), r _ _ (by omega), r _ _ (by omega)]; exact h.2.2.2.2.2.1) rfl (Nat.le_refl _)
    · split
      · have r : ∀ a b, ¬ (a = x ∧ b = 4) → (up A x 4 1).1 a b = A.1 a b := fun a b q => by rw [up_e, if_neg q]
        refine ⟨Nat.le_add_right _ _, ?_, Evo.of (fun b hb => r _ _ (by omega)) (fun a b ha => r _ _ (by omega)) (fun u b hu hb => r _ _ (by omega)) (Nat.le_refl _), Nat.le_add_right _ _, fun t b ht hb _ => r _ _ (by omega)⟩
        refine Inv_min h (fun u b hu q _ _ _ _ _ _ _ => r _ _ (by omega)) (fun u hu => ?_) (fun u hu => by rw [r _ _ (by omega)]; exact h.p5 u hu) (fun a b ha => r _ _ (by omega)) (r _ _ (by omega)) (by rw [r _ _ (by omega), r _ _ (by omega), r _ _ (by omega)]; exact h.2.2.2.2.2.1) rfl (Nat.le_refl _)
        by_cases eu : u = x
        · subst eu; rw [up_s]; right; rfl
        · rw [r _ _ (fun z => eu z.1)]; exact h.p4 u hu
      · have r : ∀ a b, ¬ (a = 10 ∧ b = 8) → (note (inc A 10 8) 7 (nI x) w).1 a b = A.1 a b := fun a b q => by rw [note_1, inc_e, if_neg q]
        have el : (note (inc A 10 8) 7 (nI x) w).2.1.length = A.2.1.length + 1 := rfl
        refine ⟨by omega, ?_, Evo.of (fun b hb => r _ _ (by omega)) (fun a b ha => r _ _ (by omega)) (fun u b hu hb => r _ _ (by omega)) (by omega), by omega, fun t b ht hb _ => r _ _ (by omega)⟩
        exact Inv_min h (fun u b hu _ _ _ _ _ _ _ _ => r _ _ (by omega)) (fun u hu => by rw [r _ _ (by omega)]; exact h.p4 u hu) (fun u hu => by rw [r _ _ (by omega)]; exact h.p5 u hu) (fun a b ha => r _ _ (by omega)) (r _ _ (by omega)) (by rw [r _ _ (by omega), r _ _ (by omega), r _ _ (by omega)]; exact h.2.2.2.2.2.1) rfl (by omega)
