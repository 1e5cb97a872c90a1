/-! ===== the law builds its threads; nobody is ahead ===== -/
section BUILDS
variable {T n d k : Nat} {A A' : AS} {M0 M M' : Mem} {ρ : Type} {Q : ρ → Mem → Prop} {Z : Nat × (Nat → Int32)}
theorem S_1 {Q : Int32 → Mem → Prop} (h : Q 1 M) : Sat (chk (decide ((1 : Int32) = 0 ∨ (1 : Int32) = 1)) (some ((1 : Int32), M))) Q := by
  rw [chk_h (by decide)]; exact S_ret h
theorem its_ok {c l h y : Nat} (hl : (xLeast.getD c 0).toInt = l) (hh : (xMost.getD c 0).toInt = h) (h1 : l ≤ y) (h2 : y ≤ h) (hb : h < 1000) : xLeast.getD c 0 ≤ nI y ∧ nI y ≤ xMost.getD c 0 := by
  rw [i32_le, i32_le, hl, hh, nI_toInt (by omega)]
  omega
theorem m1_sub (k : Nat) : nI (k + 1) + (-1 : Int32) = nI k := by
  have : nI (k + 1) = nI k + 1 := (nI_1 k).symm
  rw [this, Int32.add_assoc]
  have e : (1 : Int32) + (-1) = 0 := by decide
  rw [e, Int32.add_zero]
/-- what holds while it builds -/
def Bg (t z : Nat) (A : AS) : Prop := A.1 t 1 = nI z ∧ A.1 t 3 = 0 ∧ A.1 10 0 = 0 ∧ A.1 10 1 = 1
theorem b156 {Q : Int32 → Mem → Prop} {k11 : Int32 → Int32 → Mem → Option (Int32 × Mem)} {k67 : Int32 → Int32 → Int32 → Mem → Option (Int32 × Mem)} {N t z k c : Nat} {x : Int32} (h : Ls M0 d n (t + 1) A M) (hg : Bg t z A) (hz1 : 1 ≤ z) (hz : z < 16) (hc : c < 11) (hx : xLeast.getD c 0 ≤ x ∧ x ≤ xMost.getD c 0)
    (K : ∀ A' M', Ls M0 d n (t + 1) A' M' → Bg t (z + 1) A' → Sat (k67 (nI N) (nI t) (nI k) M') Q) : Sat (pL_builds_156 Z k11 k67 (nI N) (nI t) (nI (k + 1)) (nI c) x M) Q := by
  have hT := h.T10
  obtain ⟨g1, g2, g3, g4⟩ := hg
  rw [pL_builds_156]
  refine w_addInstruction h (t := t) (c := c) (z := z) (by omega) g1 hz (by rw [g2]; decide) (by rw [g2]; decide) hc hx.1 hx.2 rfl rfl (fun M1 h1 => ?_)
  rw [if_pos (show (2 : Int32) ≤ nI (z + 1) from nI_le (a := 2) (by omega) (by omega)), m1_sub]
  refine K _ M1 h1 ⟨by rw [stA_e (by omega), if_pos ⟨rfl, rfl⟩], ?_, ?_, ?_⟩
  · rw [stA_n (by omega) (by omega) (by omega) (by omega)]; exact g2
  · rw [stA_n (by omega) (by omega) (by omega) (by omega)]; exact g3
  · rw [stA_n (by omega) (by omega) (by omega) (by omega)]; exact g4
theorem b67 (hZ : Z.1 ≤ 260) {Q : Int32 → Mem → Prop} {k11 : Int32 → Int32 → Mem → Option (Int32 × Mem)} {N t : Nat} (hN : N ≤ 10) (hN1 : 1 ≤ N) {D : Nat} (hD : D ≤ 900000)
    (K : ∀ d' z' A' M', d' ≤ D → Ls M0 d' n (t + 1) A' M' → Bg t z' A' → Sat (k11 (nI N) (nI (t + 1)) M') Q) :
    ∀ (k m z d : Nat) (A : AS) (M : Mem), k < m → d + 2 * k ≤ D → 1 ≤ z → z + k ≤ 16 → Ls M0 d n (t + 1) A M → Bg t z A → Sat (pL_builds_67 Z k11 m (nI N) (nI t) (nI k) M) Q := by
  intro k
  induction k with
  | zero =>
    intro m z d A M hm hd hz1 hz h hg
    obtain ⟨m, rfl⟩ : ∃ m', m = m' + 1 := ⟨m - 1, by omega⟩
    rw [pL_builds_67, if_pos (show nI 0 ≤ 0 by decide), nI_1]
    exact K d z A M (by omega) h hg
  | succ k ih =>
    intro m z d A M hm hd hz1 hz h hg
    obtain ⟨m, rfl⟩ : ∃ m', m = m' + 1 := ⟨m - 1, by omega⟩
    have hT := h.T10
    rw [pL_builds_67, if_neg (show ¬ nI (k + 1) ≤ 0 from nI_ge (a := 0) (by omega) (by omega))]
    refine w_draw h hZ (by omega) (m := 11) (by omega) (by omega) rfl (fun c M1 hc h1 => ?_)
    have go : ∀ (d2 : Nat) (x : Int32) (A2 : AS) (M2 : Mem), d2 + 2 * k ≤ D → Ls M0 d2 n (t + 1) A2 M2 → Bg t z A2 → xLeast.getD c 0 ≤ x ∧ x ≤ xMost.getD c 0 → Sat (pL_builds_156 Z k11 (fun v1 v2 v3 M => pL_builds_67 Z k11 m v1 v2 v3 M) (nI N) (nI t) (nI (k + 1)) (nI c) x M2) Q := fun d2 x A2 M2 q1 q2 q3 q4 => b156 q2 q3 hz1 (by omega) hc q4 (fun A' M' h' g' => ih m (z + 1) d2 A' M' (by omega) q1 (by omega) (by omega) h' g')
    have hc11 : c = 0 ∨ c = 1 ∨ c = 2 ∨ c = 3 ∨ c = 4 ∨ c = 5 ∨ c = 6 ∨ c = 7 ∨ c = 8 ∨ c = 9 ∨ c = 10 := by omega
    have e1 : ∀ y : Nat, (1 : Int32) + nI y = nI (1 + y) := fun y => nI_add 1 y
    rcases hc11 with rfl | rfl | rfl | rfl | rfl | rfl | rfl | rfl | rfl | rfl | rfl
    · rw [if_neg (show ¬ ¬ nI 0 = 0 by decide)]
      refine w_draw h1 hZ (by omega) (m := 5) (by omega) (by omega) rfl (fun y M2 hy h2 => ?_)
      rw [e1]
      exact go _ _ _ _ (by omega) h2 hg (its_ok (l := 1) (h := 20) (by decide) (by decide) (by omega) (by omega) (by omega))
    · rw [if_pos (show ¬ nI 1 = 0 by decide), if_neg (show ¬ ¬ nI 1 = (1 : Int32) by decide)]
      exact go _ _ _ _ (by omega) h1 hg (its_ok (l := 0) (h := 0) (y := 0) (by decide) (by decide) (by omega) (by omega) (by omega))
    · rw [if_pos (show ¬ nI 2 = 0 by decide), if_pos (show ¬ nI 2 = (1 : Int32) by decide), if_neg (show ¬ ¬ nI 2 = (2 : Int32) by decide)]
      refine w_draw h1 hZ (by omega) (m := 20) (by omega) (by omega) rfl (fun y M2 hy h2 => ?_)
      rw [e1]
      exact go _ _ _ _ (by omega) h2 hg (its_ok (l := 1) (h := 200) (by decide) (by decide) (by omega) (by omega) (by omega))
    · rw [if_pos (show ¬ nI 3 = 0 by decide), if_pos (show ¬ nI 3 = (1 : Int32) by decide), if_pos (show ¬ nI 3 = (2 : Int32) by decide), if_neg (show ¬ (6 : Int32) ≤ nI 3 by decide)]
      refine w_draw h1 hZ (by omega) (m := 3) (by omega) (by omega) rfl (fun y M2 hy h2 => ?_)
      exact go _ _ _ _ (by omega) h2 hg (its_ok (l := 0) (h := 7) (by decide) (by decide) (by omega) (by omega) (by omega))
    · rw [if_pos (show ¬ nI 4 = 0 by decide), if_pos (show ¬ nI 4 = (1 : Int32) by decide), if_pos (show ¬ nI 4 = (2 : Int32) by decide), if_neg (show ¬ (6 : Int32) ≤ nI 4 by decide)]
      refine w_draw h1 hZ (by omega) (m := 3) (by omega) (by omega) rfl (fun y M2 hy h2 => ?_)
      exact go _ _ _ _ (by omega) h2 hg (its_ok (l := 0) (h := 7) (by decide) (by decide) (by omega) (by omega) (by omega))
    · rw [if_pos (show ¬ nI 5 = 0 by decide), if_pos (show ¬ nI 5 = (1 : Int32) by decide), if_pos (show ¬ nI 5 = (2 : Int32) by decide), if_neg (show ¬ (6 : Int32) ≤ nI 5 by decide)]
      refine w_draw h1 hZ (by omega) (m := 3) (by omega) (by omega) rfl (fun y M2 hy h2 => ?_)
      exact go _ _ _ _ (by omega) h2 hg (its_ok (l := 0) (h := 7) (by decide) (by decide) (by omega) (by omega) (by omega))
    · rw [if_pos (show ¬ nI 6 = 0 by decide), if_pos (show ¬ nI 6 = (1 : Int32) by decide), if_pos (show ¬ nI 6 = (2 : Int32) by decide), if_pos (show (6 : Int32) ≤ nI 6 by decide), if_neg (show ¬ (9 : Int32) ≤ nI 6 by decide)]
      refine w_draw h1 hZ (by omega) (m := N) (by omega) (by omega) rfl (fun y M2 hy h2 => ?_)
      exact go _ _ _ _ (by omega) h2 hg (its_ok (l := 0) (h := 9) (by decide) (by decide) (by omega) (by omega) (by omega))
    · rw [if_pos (show ¬ nI 7 = 0 by decide), if_pos (show ¬ nI 7 = (1 : Int32) by decide), if_pos (show ¬ nI 7 = (2 : Int32) by decide), if_pos (show (6 : Int32) ≤ nI 7 by decide), if_neg (show ¬ (9 : Int32) ≤ nI 7 by decide)]
      refine w_draw h1 hZ (by omega) (m := N) (by omega) (by omega) rfl (fun y M2 hy h2 => ?_)
      exact go _ _ _ _ (by omega) h2 hg (its_ok (l := 0) (h := 9) (by decide) (by decide) (by omega) (by omega) (by omega))
    · rw [if_pos (show ¬ nI 8 = 0 by decide), if_pos (show ¬ nI 8 = (1 : Int32) by decide), if_pos (show ¬ nI 8 = (2 : Int32) by decide), if_pos (show (6 : Int32) ≤ nI 8 by decide), if_neg (show ¬ (9 : Int32) ≤ nI 8 by decide)]
      refine w_draw h1 hZ (by omega) (m := N) (by omega) (by omega) rfl (fun y M2 hy h2 => ?_)
      exact go _ _ _ _ (by omega) h2 hg (its_ok (l := 0) (h := 9) (by decide) (by decide) (by omega) (by omega) (by omega))
    · rw [if_pos (show ¬ nI 9 = 0 by decide), if_pos (show ¬ nI 9 = (1 : Int32) by decide), if_pos (show ¬ nI 9 = (2 : Int32) by decide), if_pos (show (6 : Int32) ≤ nI 9 by decide), if_pos (show (9 : Int32) ≤ nI 9 by decide)]
      refine w_draw h1 hZ (by omega) (m := 4) (by omega) (by omega) rfl (fun y M2 hy h2 => ?_)
      exact go _ _ _ _ (by omega) h2 hg (its_ok (l := 0) (h := 5) (by decide) (by decide) (by omega) (by omega) (by omega))
    · rw [if_pos (show ¬ nI 10 = 0 by decide), if_pos (show ¬ nI 10 = (1 : Int32) by decide), if_pos (show ¬ nI 10 = (2 : Int32) by decide), if_pos (show (6 : Int32) ≤ nI 10 by decide), if_pos (show (9 : Int32) ≤ nI 10 by decide)]
      refine w_draw h1 hZ (by omega) (m := 4) (by omega) (by omega) rfl (fun y M2 hy h2 => ?_)
      exact go _ _ _ _ (by omega) h2 hg (its_ok (l := 0) (h := 5) (by decide) (by decide) (by omega) (by omega) (by omega))
theorem b42 (hZ : Z.1 ≤ 260) {Q : Int32 → Mem → Prop} {k11 : Int32 → Int32 → Mem → Option (Int32 × Mem)} {N T b c : Nat} (hN : N ≤ 10) (hN1 : 1 ≤ N) (hT : T < 10) {D : Nat} (hD : D ≤ 900000) (b1 : 1 ≤ b) (b9 : b ≤ 9) (hc : c = 0 ∨ c = 9) (hd : d + 18 ≤ D) (h : Ls M0 d n T A M) (g0 : A.1 10 0 = 0) (g1 : A.1 10 1 = 1)
    (K : ∀ d' A' M', d' ≤ D → Ls M0 d' n (T + 1) A' M' → A'.1 10 0 = 0 → A'.1 10 1 = 1 → Sat (k11 (nI N) (nI (T + 1)) M') Q) : Sat (pL_builds_42 Z k11 (nI N) (nI T) (nI c) (nI b) M) Q := by
  rw [pL_builds_42]
  refine w_draw h hZ (by omega) (m := 3) (by omega) (by omega) rfl (fun y M1 hy h1 => ?_)
  have e1 : ∀ y : Nat, (1 : Int32) + nI y = nI (1 + y) := fun y => nI_add 1 y
  have hx : xLeast.getD c 0 ≤ nI (1 + y) ∧ nI (1 + y) ≤ xMost.getD c 0 := by
    rcases hc with rfl | rfl
    · exact its_ok (l := 1) (h := 20) (by decide) (by decide) (by omega) (by omega) (by omega)
    · exact its_ok (l := 0) (h := 5) (by decide) (by decide) (by omega) (by omega) (by omega)
  rw [e1]
  refine w_addThread h1 hT b1 b9 (c := c) (by omega) hx.1 hx.2 rfl rfl (fun M2 h2 => ?_)
  rw [if_pos rfl]
  refine w_draw h2 hZ (by omega) (m := 8) (by omega) (by omega) rfl (fun k M3 hk h3 => ?_)
  rw [e1, nm_def]
  have r : ∀ a b', ¬ a = T → a < 12 → ¬ (a = 10 ∧ b' = 2) → (stA (nwA T A (nI b)) T 0 (nI c) (nI (1 + y))).1 a b' = A.1 a b' := fun a b' q1 q2 q3 => (stA_n (by omega) (by omega) (by omega) (by omega)).trans (nwA_n q1 q3)
  refine b67 hZ hN hN1 hD (fun d' z' A' M' q1 q2 q3 => K d' A' M' q1 q2 q3.2.2.1 q3.2.2.2) (1 + k) fu 1 _ _ _ (by show _ < 4096; omega) (by omega) (by omega) (by omega) h3 ⟨?_, ?_, ?_, ?_⟩
  · rw [stA_e (by omega), if_pos ⟨rfl, rfl⟩]
  · rw [stA_n (by omega) (by omega) (by omega) (by omega)]; exact nwA_s (c := 3)
  · rw [r 10 0 (by omega) (by omega) (by omega)]; exact g0
  · rw [r 10 1 (by omega) (by omega) (by omega)]; exact g1
def Bq (M0 : Mem) (n D N : Nat) (o : Int32) (M' : Mem) : Prop := o = 1 ∧ ∃ d' A', d' ≤ D ∧ Ls M0 d' n N A' M'
theorem b235 (hZ : Z.1 ≤ 260) {N x D : Nat} (hD : D ≤ 900000) (hd : d + 1 ≤ D) (hx : x ≤ 1) (h : Ls M0 d n N A M) (g1 : A.1 10 1 = 1) : Sat (pL_builds_235 Z (nI x) 1 M) (Bq M0 n D N) := by
  rw [pL_builds_235]
  refine w_set h (b := 1) (x := x) (by omega) (by rw [if_neg (by omega)]; exact hx) rfl rfl (fun M1 h1 => ?_)
  rw [g1, if_neg (show ¬ ¬ (1 : Int32) = 1 by decide)]
  refine w_draw h1 hZ (by omega) (m := 1000003) (by omega) (by omega) rfl (fun y M2 hy h2 => ?_)
  refine w_seed h2 (x := y) (by omega) rfl (fun M3 h3 => ?_)
  rw [if_neg (show ¬ ¬ (0 : Int32) = 0 by decide)]
  exact S_1 ⟨rfl, _, _, by omega, h3⟩
theorem b211 (hZ : Z.1 ≤ 260) {N x D : Nat} (hD : D ≤ 900000) (hd : d + 2 ≤ D) (hx : x ≤ 1000) (h : Ls M0 d n N A M) (g0 : A.1 10 0 = 0) (g1 : A.1 10 1 = 1) : Sat (pL_builds_211 Z (nI x) 0 M) (Bq M0 n D N) := by
  rw [pL_builds_211]
  refine w_set h (b := 0) (x := x) (by omega) (by rw [if_pos rfl]; exact hx) rfl rfl (fun M1 h1 => ?_)
  rw [g0, if_neg (show ¬ ¬ (0 : Int32) = 0 by decide)]
  have g1' : (up A 10 0 (nI x)).1 10 1 = 1 := (up_b (by omega)).trans g1
  refine w_draw h1 hZ (by omega) (m := 3) (by omega) (by omega) rfl (fun y M2 hy h2 => ?_)
  split
  · exact b235 hZ (x := 1) hD (by omega) (by omega) h2 g1'
  · exact b235 hZ (x := 0) hD (by omega) (by omega) h2 g1'
theorem b11 (hZ : Z.1 ≤ 260) {N D : Nat} (hN : N ≤ 10) (hN1 : 1 ≤ N) (hD : D ≤ 900000) : ∀ (m k i d : Nat) (A : AS) (M : Mem), i + m = N → m < k → d + 20 * m + 4 ≤ D → Ls M0 d n i A M → A.1 10 0 = 0 → A.1 10 1 = 1 → Sat (pL_builds_11 Z k (nI N) (nI i) M) (Bq M0 n D N) := by
  intro m
  induction m with
  | zero =>
    intro k i d A M hi hk hd h g0 g1
    obtain ⟨k, rfl⟩ : ∃ k', k = k' + 1 := ⟨k - 1, by omega⟩
    have hiN : i = N := by omega
    subst hiN
    rw [pL_builds_11, if_pos (nI_le (Nat.le_refl i) (by omega))]
    refine w_draw h hZ (by omega) (m := 2) (by omega) (by omega) rfl (fun y M1 hy h1 => ?_)
    split
    · refine w_draw h1 hZ (by omega) (m := 80) (by omega) (by omega) rfl (fun x M2 hx h2 => ?_)
      exact b211 hZ hD (by omega) (by omega) h2 g0 g1
    · exact b211 hZ (x := 0) hD (by omega) (by omega) h1 g0 g1
  | succ m ih =>
    intro k i d A M hi hk hd h g0 g1
    obtain ⟨k, rfl⟩ : ∃ k', k = k' + 1 := ⟨k - 1, by omega⟩
    rw [pL_builds_11, if_neg (nI_ge (by omega) (by omega))]
    refine w_draw h hZ (by omega) (m := 9) (by omega) (by omega) rfl (fun b M1 hb h1 => ?_)
    refine w_draw h1 hZ (by omega) (m := 2) (by omega) (by omega) rfl (fun y M2 hy h2 => ?_)
    have e1 : (1 : Int32) + nI b = nI (1 + b) := nI_add 1 b
    rw [e1]
    have K : ∀ d' A' M', d' ≤ d + 20 → Ls M0 d' n (i + 1) A' M' → A'.1 10 0 = 0 → A'.1 10 1 = 1 → Sat (pL_builds_11 Z k (nI N) (nI (i + 1)) M') (Bq M0 n D N) := fun d' A' M' q1 q2 q3 q4 => ih k (i + 1) d' A' M' (by omega) (by omega) (by omega) q2 q3 q4
    split
    · exact b42 hZ (c := 0) (D := d + 20) hN hN1 (by omega) (by omega) (by omega) (by omega) (Or.inl rfl) (by omega) h2 g0 g1 K
    · exact b42 hZ (c := 9) (D := d + 20) hN hN1 (by omega) (by omega) (by omega) (by omega) (Or.inr rfl) (by omega) h2 g0 g1 K
theorem builds_ok (hZ : Z.1 ≤ 260) (hd : d ≤ 100) (h : Ls M0 d n 0 A M) (g0 : A.1 10 0 = 0) (g1 : A.1 10 1 = 1) : Sat (pL_builds Z M) (fun o M' => o = 1 ∧ ∃ d' T A', d' ≤ 400 ∧ 2 ≤ T ∧ Ls M0 d' n T A' M') := by
  rw [pL_builds]
  refine w_draw h hZ (by omega) (m := 9) (by omega) (by omega) rfl (fun y M1 hy h1 => ?_)
  have e2 : (2 : Int32) + nI y = nI (2 + y) := nI_add 2 y
  rw [e2, nm_def]
  refine S_mono (b11 hZ (N := 2 + y) (D := 400) (by omega) (by omega) (by omega) (2 + y) fu 0 _ _ _ (by omega) (by show _ < 4096; omega) (by omega) h1 g0 g1) (fun o M' hh => ?_)
  obtain ⟨rfl, d', A', q1, q2⟩ := hh
  exact ⟨rfl, d', 2 + y, A', q1, by omega, q2⟩
/-! nobody ahead -/
theorem na39 {v1 : Int32} (H : ∀ t, t < T → A.1 t 3 = 0 → ∃ b, b < T ∧ v1 = nI b ∧ pr T A t ≤ pr T A b) : ∀ (m k i : Nat) (M : Mem), i + m = T → m < k → Ls M0 d n T A M → Sat (pL_nobodyAhead_39 k v1 (nI i) M) (fun o M' => o = 1 ∧ Ls M0 d n T A M') := by
  intro m
  induction m with
  | zero =>
    intro k i M hi hk h
    obtain ⟨k, rfl⟩ : ∃ k', k = k' + 1 := ⟨k - 1, by omega⟩
    have hT := h.T10
    rw [pL_nobodyAhead_39]
    refine w_count h (c := 2) (by omega) rfl ?_
    rw [show cnV T A 2 = nI T from h.ii.1.2, if_pos (nI_le (by omega) (by omega))]
    exact S_1 ⟨rfl, h⟩
  | succ m ih =>
    intro k i M hi hk h
    obtain ⟨k, rfl⟩ : ∃ k', k = k' + 1 := ⟨k - 1, by omega⟩
    have hT := h.T10
    rw [pL_nobodyAhead_39]
    refine w_count h (c := 2) (by omega) rfl ?_
    rw [show cnV T A 2 = nI T from h.ii.1.2, if_neg (nI_ge (by omega) (by omega))]
    refine w_thread h (t := i) (c := 2) (by omega) (by omega) rfl rfl (fun M1 h1 => ?_)
    rw [show thV T A i 2 = A.1 i 3 from rfl, nI_1]
    by_cases e : A.1 i 3 = 0
    · rw [e, if_neg (show ¬ ¬ (0 : Int32) = 0 by decide)]
      obtain ⟨b, hb, rfl, hp⟩ := H i (by omega) e
      rw [if_neg (show ¬ nI b < 0 from fun q => by rw [i32_lt, nI_toInt (by omega), i32_0] at q; omega)]
      refine w_thread h1 (t := i) (c := 1) (by omega) (by omega) rfl rfl (fun M2 h2 => ?_)
      refine w_thread h2 (t := b) (c := 1) hb (by omega) rfl rfl (fun M3 h3 => ?_)
      rw [show thV T A i 1 = pr T A i from rfl, show thV T A b 1 = pr T A b from rfl, if_pos hp]
      exact ih k (i + 1) M3 (by omega) (by omega) h3
    · rw [if_pos e]
      exact ih k (i + 1) M1 (by omega) (by omega) h1
theorem nobody_ok (hn : n ≤ 260000) (h : Ls M0 d n T A M) : Sat (pL_nobodyAhead M) (fun o M' => o = 1 ∧ Ls M0 d n T A M') := by
  have hT := h.T10
  have hL := h.bd.lim hn
  rw [pL_nobodyAhead]
  refine w_next h hn (fun M1 h1 => ?_)
  refine w_count h1 (c := 0) (by omega) rfl ?_
  rw [show cnV T A 0 = A.1 10 0 from rfl]
  by_cases e0 : 0 < A.1 10 0
  · rw [if_pos e0]; exact S_1 ⟨rfl, h1⟩
  · rw [if_neg e0]
    have e00 : A.1 10 0 ≤ 0 := by
      rw [i32_lt] at e0
      rw [i32_le]
      omega
    obtain ⟨n1, n2⟩ := nobody h.ii e00 (by omega)
    cases e : chs T (wbt T A) with
    | none =>
      rw [onI_none, if_pos (show (-1 : Int32) < 0 by decide)]
      exact na39 (fun t ht q => absurd q (n1 e t ht)) T fu 0 M1 (by omega) (by show _ < 4096; omega) h1
    | some b =>
      have hb := (chs_some e).1
      rw [onI_some, if_neg (show ¬ nI b < 0 from fun q => by rw [i32_lt, nI_toInt (by omega), i32_0] at q; omega)]
      refine w_thread h1 (t := b) (c := 2) hb (by omega) rfl rfl (fun M2 h2 => ?_)
      rw [show thV T A b 2 = A.1 b 3 from rfl]
      by_cases e3 : A.1 b 3 = 0
      · rw [if_pos e3]
        exact na39 (fun t ht q => ⟨b, hb, rfl, n2 b e e3 t ht q⟩) T fu 0 M2 (by omega) (by show _ < 4096; omega) h2
      · rw [if_neg e3]; exact S_1 ⟨rfl, h2⟩
end BUILDS
