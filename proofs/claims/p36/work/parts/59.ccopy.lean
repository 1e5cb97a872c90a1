/-! ===== a machine copied ===== -/
theorem slf_rg : ∀ f, f < 18 → okf f = true → (kdf f = 5 → 3 ≤ slf f ∧ slf f < 18) ∧ True := by decide
theorem slg_rg : ∀ b, b < 12 → okg b = true → kdg b = 3 → 4 ≤ slg b ∧ slg b < 13 := by decide
section CCOPY
variable {g p : Bool} {k k1 : Nat} {M0 : Mem} {T : Nat} {A : AS} {stk : List Nat} {M : Mem}
theorem cpI_e {M : Mem} {kd' k' i' kd k i a b c d : Nat} : (cpI M kd' k' i' kd k i).1 a b c d = if a = kd ∧ b = k ∧ c = i then M.1 kd' k' i' d else M.1 a b c d := rfl
theorem cpI_k {M : Mem} {kd' k' i' kd k i a b c d : Nat} (h : ¬ b = k) : (cpI M kd' k' i' kd k i).1 a b c d = M.1 a b c d := by rw [cpI_e, if_neg (fun q => h q.2.1)]
theorem cpI_kd {M : Mem} {kd' k' i' kd k i a b c d : Nat} (h : ¬ a = kd) : (cpI M kd' k' i' kd k i).1 a b c d = M.1 a b c d := by rw [cpI_e, if_neg (fun q => h q.1)]
theorem cpI_i {M : Mem} {kd' k' i' kd k i a b c d : Nat} (h : ¬ c = i) : (cpI M kd' k' i' kd k i).1 a b c d = M.1 a b c d := by rw [cpI_e, if_neg (fun q => h q.2.2)]
theorem cpI_s {M : Mem} {kd' k' i' kd k i d : Nat} : (cpI M kd' k' i' kd k i).1 kd k i d = M.1 kd' k' i' d := by rw [cpI_e, if_pos ⟨rfl, rfl, rfl⟩]
theorem Fk.cpI {kd kd' k' i i' : Nat} (h : Fk k M0 M) (h1 : 3 ≤ kd) (h2 : kd ≤ 16) : Fk k M0 (cpI M kd' k' i' kd k i) := by
  refine ⟨h.1, fun a b c d hh => ?_⟩
  rw [cpI_e, if_neg (by omega)]
  exact h.2 a b c d hh
/-- what thread i of machine k has after a copy from k1 -/
def Th1 (k k1 i : Nat) (M M' : Mem) : Prop := (∀ j, 3 ≤ j → j < 18 → M'.1 5 k i j = M.1 5 k1 i j) ∧ (∀ j, M'.1 6 k i j = M.1 6 k1 i j) ∧ (∀ j, M'.1 7 k i j = M.1 7 k1 i j) ∧ (∀ j, M'.1 8 k i j = M.1 8 k1 i j)
set_option maxHeartbeats 8000000 in
theorem c_cp6 (hk : ¬ k1 = k) {i : Nat} (h10 : M.1 5 k1 i 10 = 0 ∨ M.1 5 k1 i 10 = 1) (h11 : M.1 5 k1 i 11 = 0 ∨ M.1 5 k1 i 11 = 1) : Sat (pX6_copyFrom k i k1 i M) (fun _ M' => Th1 k k1 i M M' ∧ Fk k M M' ∧ ∀ kd i' j, ¬ i' = i ∨ kd < 5 ∨ 8 < kd → M'.1 kd k i' j = M.1 kd k i' j) := by
  have e : ∀ kd i' j, (∀ (kd' i2 j' : Nat) (v : Int32) (M1 : Mem), (wI M1 kd' k i2 j' v).1 kd k1 i' j = M1.1 kd k1 i' j) ∧ ∀ (a b c d e : Nat) (M1 : Mem), (cpI M1 a b c d k e).1 kd k1 i' j = M1.1 kd k1 i' j := fun kd i' j => ⟨fun kd' i2 j' v M1 => wI_k hk, fun a b c d e M1 => cpI_k hk⟩
  rw [pX6_copyFrom]
  simp only [nm_def]
  rw [chk_h (by
    refine decide_eq_true ?_
    simp only [(e _ _ _).1, (e _ _ _).2]
    exact h10)]
  rw [chk_h (by
    refine decide_eq_true ?_
    simp only [(e _ _ _).1, (e _ _ _).2]
    exact h11)]
  simp only [(e _ _ _).1, (e _ _ _).2]
  refine S_ret ⟨⟨fun j h1 h2 => ?_, fun j => ?_, fun j => ?_, fun j => ?_⟩, ?_, fun kd i' j hh => ?_⟩
  · have hj : j = 3 ∨ j = 4 ∨ j = 5 ∨ j = 6 ∨ j = 7 ∨ j = 8 ∨ j = 9 ∨ j = 10 ∨ j = 11 ∨ j = 12 ∨ j = 13 ∨ j = 14 ∨ j = 15 ∨ j = 16 ∨ j = 17 := by omega
    rcases hj with rfl | rfl | rfl | rfl | rfl | rfl | rfl | rfl | rfl | rfl | rfl | rfl | rfl | rfl | rfl <;> simp [wI_e]
  · simp only [wI_e, cpI_e]
    simp [hk]
  · simp only [wI_e, cpI_e]
    simp [hk]
  · simp only [wI_e, cpI_e]
    simp [hk]
  · have f := Fk.refl k M
    exact (((((((((((((((((((f.cpI (by omega) (by omega)).cpI (by omega) (by omega)).cpI (by omega) (by omega)).wI (by omega) (by omega)).wI (by omega) (by omega)).wI (by omega) (by omega)).wI (by omega) (by omega)).wI (by omega) (by omega)).wI (by omega) (by omega)).wI (by omega) (by omega)).wI (by omega) (by omega)).wI (by omega) (by omega)).wI (by omega) (by omega)).wI (by omega) (by omega)).wI (by omega) (by omega)).wI (by omega) (by omega)).wI (by omega) (by omega)).wI (by omega) (by omega)))
  · simp only [wI_e, cpI_e]
    rcases hh with q | q | q
    · simp [q]
    · have q5 : ¬ kd = 5 := by omega
      have q6 : ¬ kd = 6 := by omega
      have q7 : ¬ kd = 7 := by omega
      have q8 : ¬ kd = 8 := by omega
      simp [q5, q6, q7, q8]
    · have q5 : ¬ kd = 5 := by omega
      have q6 : ¬ kd = 6 := by omega
      have q7 : ¬ kd = 7 := by omega
      have q8 : ¬ kd = 8 := by omega
      simp [q5, q6, q7, q8]
/-- a copy of what a state needs is a machine that holds it -/
theorem C.ofcopy (h : C g p k1 M0 T A stk M) {M' : Mem} (hF : Fk k M M') (ht : ∀ i, i < T → Th1 k k1 i M M') (h10 : ∀ j, M'.1 10 k 0 j = M.1 10 k1 0 j) (h11 : ∀ j, M'.1 11 k 0 j = M.1 11 k1 0 j) (h12 : ∀ j, M'.1 12 k 0 j = M.1 12 k1 0 j) (h14 : ∀ j, M'.1 14 k 0 j = M.1 14 k1 0 j) (h13 : ∀ j, 0 < j → j < 4 → M'.1 13 k 0 j = M.1 13 k1 0 j) (h15 : ∀ j, M'.1 15 k 0 j = M.1 15 k1 0 j) (h3 : ∀ j, 4 ≤ j → j < 13 → M'.1 3 k 0 j = M.1 3 k1 0 j) (ho : M'.1 3 k 0 13 = 1) (he : M'.1 3 k 0 15 = 0) : C g true k M T A [] M' := by
  obtain ⟨⟨hT, hth, hgl, hho, hco⟩, hg, hpp, hl, hw, hs, -⟩ := h
  refine ⟨⟨hT, fun t f ht' hf => ?_, fun b hb => ?_, fun l hl => ?_, fun t j ht' hj hj2 => ?_⟩, fun e t ht' => ?_, fun e e2 => ?_, ⟨hl.1, ?_, fun i c a1 a2 a3 => ?_⟩, fun l hl => ?_, ⟨by rw [he]; rfl, Nat.zero_le _, fun i hi => absurd hi (Nat.not_lt_zero _)⟩, hF⟩
  · have q := slf_rg f (okf_lt hf) hf
    obtain ⟨t1, t2, t3, t4⟩ := ht t ht'
    rcases kdf_58 f with e | e
    · rw [e, t1 _ (q.1 e).1 (q.1 e).2, ← hth t f ht' hf, e]
    · rw [e, t4, ← hth t f ht' hf, e]
  · have q := slg_rg b (okg_lt hb) hb
    rcases kdg_315 b with e | e
    · rw [e, h15, ← hgl b hb, e]
    · rw [e, h3 _ (q e).1 (q e).2, ← hgl b hb, e]
  · rw [h10]; exact hho l hl
  · obtain ⟨t1, t2, t3, t4⟩ := ht t ht'
    rw [t2, t3]; exact hco t j ht' hj hj2
  · rw [(ht t ht').1 6 (by omega) (by omega)]; exact hg e t ht'
  · rw [ho] at e2; exact absurd e2 (by decide)
  · intro j b1 b2; rw [h13 j b1 b2]; exact hl.2.1 j b1 b2
  · rw [h14]; exact hl.2.2 i c a1 a2 a3
  · rw [h12]
    refine ⟨(hw l hl).1, (hw l hl).2.1, fun i hi => ?_⟩
    rw [h11]; exact (hw l hl).2.2 i hi
theorem c_cp2 (hk : ¬ k1 = k) (h : C g p k1 M0 T A stk M) (hI4 : ∀ t, t < T → A.1 t 4 = 0 ∨ A.1 t 4 = 1) (hI5 : ∀ t, t < T → A.1 t 5 = 0 ∨ A.1 t 5 = 1) : ∀ (m n i : Nat) (M1 : Mem), i + m = T → m < n → Fk k M M1 → (∀ u, u < i → Th1 k k1 u M M1) → Sat (pX3_copyFrom_2 k k1 n (nI i) M1) (fun _ M' => C g true k M T A [] M') := by
  have hT := h.T10
  intro m
  induction m with
  | zero =>
    intro n i M1 hi hn hF ht
    obtain ⟨n, rfl⟩ : ∃ n', n = n' + 1 := ⟨n - 1, by omega⟩
    have : i = T := by omega
    subst this
    have src : ∀ kd i' j, M1.1 kd k1 i' j = M.1 kd k1 i' j := fun kd i' j => hF.2 _ _ _ _ (Or.inl hk)
    have e : ∀ kd i' j, (∀ (kd' i2 j' : Nat) (v : Int32) (M1 : Mem), (wI M1 kd' k i2 j' v).1 kd k1 i' j = M1.1 kd k1 i' j) ∧ ∀ (a b c d e : Nat) (M1 : Mem), (cpI M1 a b c d k e).1 kd k1 i' j = M1.1 kd k1 i' j := fun kd i' j => ⟨fun kd' i2 j' v M1 => wI_k hk, fun a b c d e M1 => cpI_k hk⟩
    have r4 : M1.1 3 k1 0 4 = nI i := (src _ _ _).trans h.cnt4
    rw [pX3_copyFrom_2, r4, if_pos (nI_le (Nat.le_refl _) (by omega)), pX1_copyFrom]
    simp only [nm_def, bnd_some, pX2_copyFrom]
    rw [chk_h (show decide ((1 : Int32) = 0 ∨ True) = true by decide)]
    simp only [(e _ _ _).1, (e _ _ _).2, src]
    refine S_ret (h.ofcopy ?_ (fun u hu => ?_) (fun j => ?_) (fun j => ?_) (fun j => ?_) (fun j => ?_) (fun j b1 b2 => ?_) (fun j => ?_) (fun j h1 h2 => ?_) ?_ ?_)
    · exact ((((((((((((((((((hF.cpI (by omega) (by omega)).cpI (by omega) (by omega)).cpI (by omega) (by omega)).cpI (by omega) (by omega)).wI (by omega) (by omega)).wI (by omega) (by omega)).wI (by omega) (by omega)).cpI (by omega) (by omega)).wI (by omega) (by omega)).wI (by omega) (by omega)).wI (by omega) (by omega)).wI (by omega) (by omega)).wI (by omega) (by omega)).wI (by omega) (by omega)).wI (by omega) (by omega)).wI (by omega) (by omega)).wI (by omega) (by omega)).wI (by omega) (by omega)).wI (by omega) (by omega)
    · obtain ⟨t1, t2, t3, t4⟩ := ht u hu
      refine ⟨fun j a1 a2 => ?_, fun j => ?_, fun j => ?_, fun j => ?_⟩
      · rw [← t1 j a1 a2]; simp [wI_e, cpI_e]
      · rw [← t2 j]; simp [wI_e, cpI_e]
      · rw [← t3 j]; simp [wI_e, cpI_e]
      · rw [← t4 j]; simp [wI_e, cpI_e]
    · simp [wI_e, cpI_e, src]
    · simp [wI_e, cpI_e, src]
    · simp [wI_e, cpI_e, src]
    · simp [wI_e, cpI_e, src]
    · have hj : j = 1 ∨ j = 2 ∨ j = 3 := by omega
      rcases hj with rfl | rfl | rfl <;> simp [wI_e, cpI_e, src]
    · simp [wI_e, cpI_e, src]
    · have hj : j = 4 ∨ j = 5 ∨ j = 6 ∨ j = 7 ∨ j = 8 ∨ j = 9 ∨ j = 10 ∨ j = 11 ∨ j = 12 := by omega
      rcases hj with rfl | rfl | rfl | rfl | rfl | rfl | rfl | rfl | rfl <;> simp [wI_e]
    · simp [wI_e]
    · simp [wI_e]
  | succ m ih =>
    intro n i M1 hi hn hF ht
    obtain ⟨n, rfl⟩ : ∃ n', n = n' + 1 := ⟨n - 1, by omega⟩
    have src : ∀ kd i' j, M1.1 kd k1 i' j = M.1 kd k1 i' j := fun kd i' j => hF.2 _ _ _ _ (Or.inl hk)
    have r4 : M1.1 3 k1 0 4 = nI T := (src _ _ _).trans h.cnt4
    have r10 : M1.1 5 k1 i 10 = A.1 i 4 := (src _ _ _).trans (h.th (by omega) 4 rfl)
    have r11 : M1.1 5 k1 i 11 = A.1 i 5 := (src _ _ _).trans (h.th (by omega) 5 rfl)
    rw [pX3_copyFrom_2, r4, if_neg (nI_ge (by omega) (by omega)), chk_h (inB_nI (by omega) (by omega)), chk_h (inB_nI (by omega) (by omega)), cl (by omega), nI_1]
    refine S_bnd (c_cp6 hk (by rw [r10]; exact hI4 i (by omega)) (by rw [r11]; exact hI5 i (by omega))) (fun _ M2 h2 => ?_)
    obtain ⟨⟨t1, t2, t3, t4⟩, f2, f3⟩ := h2
    refine ih n (i + 1) M2 (by omega) (by omega) (hF.trans f2) (fun u hu => ?_)
    by_cases e : u = i
    · subst e
      exact ⟨fun j a1 a2 => by rw [t1 j a1 a2, src], fun j => by rw [t2 j, src], fun j => by rw [t3 j, src], fun j => by rw [t4 j, src]⟩
    · obtain ⟨s1, s2, s3, s4⟩ := ht u (by omega)
      exact ⟨fun j a1 a2 => by rw [f3 _ _ _ (Or.inl e)]; exact s1 j a1 a2, fun j => by rw [f3 _ _ _ (Or.inl e)]; exact s2 j, fun j => by rw [f3 _ _ _ (Or.inl e)]; exact s3 j, fun j => by rw [f3 _ _ _ (Or.inl e)]; exact s4 j⟩
theorem c_copy (hk : ¬ k1 = k) (h : C g p k1 M0 T A stk M) (hI : Inv T 10 A) : Sat (pX3_copyFrom k k1 M) (fun _ M' => C g true k M T A [] M') :=
  c_cp2 hk h hI.p4 hI.p5 T fu 0 M (by omega) (by have := h.T10; show _ < 4096; omega) (Fk.refl k M) (fun u hu => absurd hu (by omega))
end CCOPY
