/-! ===== greatest of a set, chains of waits ===== -/
def isMx (P : Nat → Prop) (bs : Nat → Int32) (v : Int32) : Prop := (∃ u, P u ∧ v = bs u) ∧ ∀ u, P u → bs u ≤ v
theorem i32_le {a b : Int32} : a ≤ b ↔ a.toInt ≤ b.toInt := Int32.le_iff_toInt_le
theorem i32_lt {a b : Int32} : a < b ↔ a.toInt < b.toInt := Int32.lt_iff_toInt_lt
theorem i32_eq {a b : Int32} : a = b ↔ a.toInt = b.toInt := Int32.toInt_inj.symm
theorem isMx_uniq {P : Nat → Prop} {bs : Nat → Int32} {v w : Int32} (hv : isMx P bs v) (hw : isMx P bs w) : v = w := by
  obtain ⟨⟨a, ha, rfl⟩, h1⟩ := hv
  obtain ⟨⟨b, hb, rfl⟩, h2⟩ := hw
  have q1 := i32_le.mp (h1 b hb)
  have q2 := i32_le.mp (h2 a ha)
  exact i32_eq.mpr (by omega)
theorem isMx_iff {P Q : Nat → Prop} {bs : Nat → Int32} {v : Int32} (h : isMx P bs v) (e : ∀ u, P u ↔ Q u) : isMx Q bs v := by
  obtain ⟨⟨a, ha, h0⟩, h1⟩ := h
  exact ⟨⟨a, (e a).mp ha, h0⟩, fun u hu => h1 u ((e u).mpr hu)⟩
theorem isMx_one (t : Nat) (bs : Nat → Int32) : isMx (fun u => u = t) bs (bs t) := ⟨⟨t, rfl, rfl⟩, fun u hu => by subst hu; exact i32_le.mpr (by omega)⟩
theorem isMx_add {P : Nat → Prop} {bs : Nat → Int32} {v : Int32} (h : isMx P bs v) (i : Nat) : isMx (fun u => P u ∨ u = i) bs (if v < bs i then bs i else v) := by
  obtain ⟨⟨a, ha, h0⟩, h1⟩ := h
  by_cases e : v < bs i
  · rw [if_pos e]
    refine ⟨⟨i, Or.inr rfl, rfl⟩, fun u hu => ?_⟩
    rcases hu with hu | hu
    · have q1 := i32_le.mp (h1 u hu)
      have q2 := i32_lt.mp e
      exact i32_le.mpr (by omega)
    · subst hu; exact i32_le.mpr (by omega)
  · rw [if_neg e]
    refine ⟨⟨a, Or.inl ha, h0⟩, fun u hu => ?_⟩
    rcases hu with hu | hu
    · exact h1 u hu
    · subst hu
      rw [i32_lt] at e
      exact i32_le.mpr (by omega)
theorem mxf_ge {p : Nat → Bool} {bs : Nat → Int32} : ∀ n u, u < n → p u = true → bs u ≤ mxf p bs n := by
  intro n
  induction n with
  | zero => intro u h; omega
  | succ n ih =>
    intro u hu hp
    rw [mxf]
    by_cases e : u = n
    · subst e
      rw [if_pos hp]
      split
      · exact i32_le.mpr (by omega)
      · rename_i h; rw [i32_lt] at h; exact i32_le.mpr (by omega)
    · have q := i32_le.mp (ih u (by omega) hp)
      split
      · split
        · rename_i h; rw [i32_lt] at h; exact i32_le.mpr (by omega)
        · exact i32_le.mpr q
      · exact i32_le.mpr q
theorem mxf_in {p : Nat → Bool} {bs : Nat → Int32} : ∀ n, mxf p bs n = 0 ∨ ∃ u, u < n ∧ p u = true ∧ mxf p bs n = bs u := by
  intro n
  induction n with
  | zero => exact Or.inl rfl
  | succ n ih =>
    rw [mxf]
    have k : mxf p bs n = 0 ∨ ∃ u, u < n + 1 ∧ p u = true ∧ mxf p bs n = bs u := by
      rcases ih with h | ⟨u, h1, h2, h3⟩
      · exact Or.inl h
      · exact Or.inr ⟨u, by omega, h2, h3⟩
    by_cases e : p n = true
    · rw [if_pos e]
      by_cases e2 : mxf p bs n < bs n
      · rw [if_pos e2]; exact Or.inr ⟨n, by omega, e, rfl⟩
      · rw [if_neg e2]; exact k
    · rw [if_neg e]; exact k
theorem mxf_isMx {p : Nat → Bool} {bs : Nat → Int32} {T t : Nat} (ht : t < T) (hp : p t = true) (h0 : 0 ≤ (bs t).toInt) : isMx (fun u => u < T ∧ p u = true) bs (mxf p bs T) := by
  refine ⟨?_, fun u hu => mxf_ge T u hu.1 hu.2⟩
  rcases mxf_in (p := p) (bs := bs) T with h | ⟨u, h1, h2, h3⟩
  · have q := i32_le.mp (mxf_ge (bs := bs) T t ht hp)
    rw [h] at q
    have z : (0 : Int32).toInt = 0 := by decide
    exact ⟨t, ⟨ht, hp⟩, by rw [h]; exact i32_eq.mpr (by omega)⟩
  · exact ⟨u, ⟨h1, h2⟩, h3⟩
/-! chains -/
theorem wk_succ {h : Nat → Option Nat} : ∀ n u, wk h (n + 1) u = (wk h n u).bind h := by
  intro n
  induction n with
  | zero =>
    intro u
    show (match h u with | none => none | some v => wk h 0 v) = h u
    cases h u <;> rfl
  | succ n ih =>
    intro u
    show (match h u with | none => none | some v => wk h (n + 1) v) = _
    rw [wk]
    cases h u with
    | none => rfl
    | some v => exact ih v
theorem wk_add {h : Nat → Option Nat} : ∀ n m u, wk h (n + m) u = (wk h n u).bind (wk h m) := by
  intro n
  induction n with
  | zero =>
    intro m u
    rw [Nat.zero_add]
    rfl
  | succ n ih =>
    intro m u
    rw [show n + 1 + m = (n + m) + 1 from by omega]
    show (match h u with | none => none | some v => wk h (n + m) v) = _
    rw [wk]
    cases h u with
    | none => rfl
    | some v => exact ih m v
theorem wk_none {h : Nat → Option Nat} {n u : Nat} (e : wk h n u = none) (m : Nat) (hm : n ≤ m) : wk h m u = none := by
  obtain ⟨d, rfl⟩ := Nat.exists_eq_add_of_le hm
  rw [wk_add, e]
  rfl
theorem php : ∀ (m : Nat) (f : Nat → Nat), (∀ i, i ≤ m → f i < m) → ∃ i j, i < j ∧ j ≤ m ∧ f i = f j := by
  intro m
  induction m with
  | zero =>
    intro f h
    exact absurd (h 0 (Nat.le_refl 0)) (by omega)
  | succ m ih =>
    intro f h
    by_cases e : ∃ i, i ≤ m ∧ f i = f (m + 1)
    · obtain ⟨i, h1, h2⟩ := e
      exact ⟨i, m + 1, by omega, by omega, h2⟩
    · have e' : ∀ i, i ≤ m → ¬ f i = f (m + 1) := fun i hi q => e ⟨i, hi, q⟩
      obtain ⟨i, j, h1, h2, h3⟩ := ih (fun i => if f i = m then f (m + 1) else f i) (fun i hi => by
        have a1 := h i (by omega)
        have a2 := h (m + 1) (by omega)
        have a3 := e' i hi
        show (if f i = m then f (m + 1) else f i) < m
        split <;> omega)
      refine ⟨i, j, h1, by omega, ?_⟩
      have b1 := e' i (by omega)
      have b2 := e' j (by omega)
      split at h3 <;> split at h3 <;> omega
theorem hop_lt {T : Nat} {s : SF} {u v : Nat} (h : hop T s u = some v) : u < T := by
  unfold hop at h
  split at h
  · assumption
  · cases h
theorem wk_short {T : Nat} (hT : T ≤ 10) {s : SF} {t : Nat} : ∀ n u, wk (hop T s) n u = some t → ∃ m, m < 11 ∧ wk (hop T s) m u = some t := by
  intro n
  induction n using Nat.strongRecOn with
  | ind n ih =>
    intro u h
    by_cases hn : n < 11
    · exact ⟨n, hn, h⟩
    · have hx : ∀ i, i < n → ∃ v, wk (hop T s) i u = some v ∧ v < 10 := by
        intro i hi
        cases e : wk (hop T s) i u with
        | none => rw [wk_none e n (by omega)] at h; cases h
        | some v =>
          cases e2 : hop T s v with
          | none =>
            have : wk (hop T s) (i + 1) u = none := by rw [wk_succ, e]; exact e2
            rw [wk_none this n (by omega)] at h
            cases h
          | some w => exact ⟨v, rfl, by have := hop_lt e2; omega⟩
      obtain ⟨i, j, h1, h2, h3⟩ := php 10 (fun i => (wk (hop T s) i u).getD 0) (fun i hi => by
        obtain ⟨v, hv, hv2⟩ := hx i (by omega)
        show (wk (hop T s) i u).getD 0 < 10
        rw [hv]
        exact hv2)
      obtain ⟨v, hv, -⟩ := hx i (by omega)
      obtain ⟨w, hw, -⟩ := hx j (by omega)
      rw [hv, hw] at h3
      have h4 : v = w := h3
      subst h4
      refine ih (i + (n - j)) (by omega) u ?_
      rw [wk_add, hv]
      rw [show n = j + (n - j) from by omega, wk_add, hw] at h
      exact h
theorem rc_iff {h : Nat → Option Nat} {u t : Nat} : rc h u t = true ↔ ∃ m, m < 11 ∧ wk h m u = some t := by
  unfold rc
  rw [List.any_eq_true]
  constructor
  · rintro ⟨m, h1, h2⟩
    exact ⟨m, List.mem_range.mp h1, of_decide_eq_true h2⟩
  · rintro ⟨m, h1, h2⟩
    exact ⟨m, List.mem_range.mpr h1, decide_eq_true h2⟩
theorem rc_self (h : Nat → Option Nat) (t : Nat) : rc h t t = true := rc_iff.mpr ⟨0, by omega, rfl⟩
/-- the priority is the greatest BASE of those who reach the thread -/
theorem pr_isMx {T : Nat} {A : AS} {t : Nat} (ht : t < T) (h1 : A.1 10 1 = 1) (h0 : 0 ≤ (A.1 t 0).toInt) : isMx (fun u => u < T ∧ ∃ m, m < 11 ∧ wk (hop T A.1) m u = some t) (fun u => A.1 u 0) (pr T A t) := by
  have : pr T A t = mxf (fun u => rc (hop T A.1) u t) (fun u => A.1 u 0) T := by
    unfold pr prf
    rw [if_pos h1]
  rw [this]
  exact isMx_iff (mxf_isMx ht (rc_self _ t) h0) (fun u => and_congr_right (fun _ => rc_iff))
theorem pr_no {T : Nat} {A : AS} {t : Nat} (h1 : ¬ A.1 10 1 = 1) : pr T A t = A.1 t 0 := by
  unfold pr prf
  rw [if_neg h1]
theorem pr_ge {T : Nat} {A : AS} {t : Nat} (ht : t < T) (h0 : 1 ≤ (A.1 t 0).toInt) : 1 ≤ (pr T A t).toInt := by
  by_cases e : A.1 10 1 = 1
  · have h5 : A.1 t 0 ≤ pr T A t := (pr_isMx ht e (by omega)).2 t ⟨ht, 0, by omega, rfl⟩
    rw [i32_le] at h5
    omega
  · rw [pr_no e]; exact h0
/-! ===== what a state keeps ===== -/
def okc (c x : Int32) : Prop := ∃ n, n < 11 ∧ c = nI n ∧ xLeast.getD n 0 ≤ x ∧ x ≤ xMost.getD n 0
def TI (T : Nat) (s : SF) (t : Nat) : Prop :=
  (1 ≤ (s t 0).toInt ∧ (s t 0).toInt ≤ 9) ∧
  (∃ z q, s t 1 = nI z ∧ s t 2 = nI q ∧ q ≤ z ∧ z ≤ 16 ∧ (s t 17 = 0 ∨ (q < z ∧ s 12 (16 * t + q) = 0 ∧ 0 ≤ (s t 17).toInt ∧ (s t 17).toInt < (s 13 (16 * t + q)).toInt)) ∧ ∀ j, j < z → okc (s 12 (16 * t + j)) (s 13 (16 * t + j))) ∧
  (s t 3 = 0 ∨ s t 3 = 1 ∨ s t 3 = 2 ∨ s t 3 = 3 ∨ s t 3 = 4) ∧ (s t 4 = 0 ∨ s t 4 = 1) ∧ (s t 5 = 0 ∨ s t 5 = 1) ∧
  (s t 3 = 2 → ∃ l v, l < 6 ∧ s t 8 = nI l ∧ v < T ∧ s 11 l = nI v ∧ ¬ v = t) ∧ (¬ s t 3 = 2 → s t 8 = -1)
def ZI (s : SF) (t : Nat) : Prop := s t 3 = 0 ∨ s t 3 = 2 → ¬ s t 2 = s t 1
def RI (A : AS) (t : Nat) : Prop := 0 ≤ (A.1 t 12).toInt ∧ 0 ≤ (A.1 t 13).toInt ∧ 0 ≤ (A.1 t 14).toInt ∧ 0 ≤ (A.1 t 15).toInt ∧ (A.1 t 12).toInt + (A.1 t 13).toInt + (A.1 t 14).toInt + (A.1 t 15).toInt ≤ A.2.1.length
def Inv (T ex : Nat) (A : AS) : Prop := (T ≤ 10 ∧ A.1 10 2 = nI T) ∧ (∀ t, t < T → TI T A.1 t) ∧ (∀ t, t < T → ¬ t = ex → ZI A.1 t) ∧ (∀ l, l < 6 → A.1 11 l = -1 ∨ ∃ v, v < T ∧ A.1 11 l = nI v) ∧
  (∀ l, l < 6 → (A.2.2 l).Nodup ∧ ∀ u, u ∈ A.2.2 l ↔ u < T ∧ A.1 u 8 = nI l) ∧ ((0 ≤ (A.1 10 4).toInt ∧ (A.1 10 4).toInt ≤ 1000002) ∧ (∃ n, n < 256 ∧ A.1 10 5 = nI n) ∧ 0 ≤ (A.1 10 3).toInt) ∧ (∀ t, t < T → RI A t)
/-- what chains need -/
def Hi (T : Nat) (s : SF) : Prop := (∀ u, u < T → s u 8 = -1 ∨ ∃ l, l < 6 ∧ s u 8 = nI l) ∧ (∀ l, l < 6 → s 11 l = -1 ∨ ∃ v, v < T ∧ s 11 l = nI v)
theorem Inv.hi {T ex : Nat} {A : AS} (h : Inv T ex A) : Hi T A.1 := by
  refine ⟨fun u hu => ?_, h.2.2.2.1⟩
  obtain ⟨-, -, -, -, -, h1, h2⟩ := h.2.1 u hu
  by_cases e : A.1 u 3 = 2
  · obtain ⟨l, v, hl, e1, -⟩ := h1 e
    exact Or.inr ⟨l, hl, e1⟩
  · exact Or.inl (h2 e)
theorem hiHop {T : Nat} {s : SF} (h : Hi T s) (hT : T ≤ 10) {u : Nat} (hu : u < T) : (s u 8 = -1 ∧ hop T s u = none) ∨ ∃ l, l < 6 ∧ s u 8 = nI l ∧ ((s 11 l = -1 ∧ hop T s u = none) ∨ ∃ v, v < T ∧ s 11 l = nI v ∧ hop T s u = some v) := by
  rcases h.1 u hu with e | ⟨l, hl, e⟩
  · refine Or.inl ⟨e, ?_⟩
    unfold hop
    rw [if_pos hu, if_pos e]
  · refine Or.inr ⟨l, hl, e, ?_⟩
    have c1 : (nI l).toNatClampNeg = l := cl (by omega)
    rcases h.2 l hl with e2 | ⟨v, hv, e2⟩
    · refine Or.inl ⟨e2, ?_⟩
      unfold hop
      rw [if_pos hu, if_neg (by rw [e]; exact m1_ne (by omega)), e, c1, if_pos e2]
    · refine Or.inr ⟨v, hv, e2, ?_⟩
      unfold hop
      rw [if_pos hu, if_neg (by rw [e]; exact m1_ne (by omega)), e, c1, if_neg (by rw [e2]; exact m1_ne (by omega)), e2, cl (by omega)]
theorem hiHopLt {T : Nat} {s : SF} (h : Hi T s) (hT : T ≤ 10) {u v : Nat} (hu : u < T) (e : hop T s u = some v) : v < T := by
  rcases hiHop h hT hu with ⟨-, e2⟩ | ⟨l, -, -, ⟨-, e2⟩ | ⟨w, hw, -, e2⟩⟩
  · rw [e] at e2; cases e2
  · rw [e] at e2; cases e2
  · rw [e] at e2; cases e2; exact hw
theorem hiWkLt {T : Nat} {s : SF} (h : Hi T s) (hT : T ≤ 10) {u : Nat} (hu : u < T) : ∀ n v, wk (hop T s) n u = some v → v < T := by
  intro n
  induction n with
  | zero => intro v e; cases e; exact hu
  | succ n ih =>
    intro v e
    rw [wk_succ] at e
    cases e2 : wk (hop T s) n u with
    | none => rw [e2] at e; cases e
    | some w => rw [e2] at e; exact hiHopLt h hT (ih w e2) e
