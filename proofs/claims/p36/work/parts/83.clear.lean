/-! ===== cleared states; what holds at the law's start ===== -/
section CLEARS
variable {n : Nat} {M M1 M2 M3 M4 M5 : Mem}
def Az : AS := (fun a b => if a = 10 ∧ (b = 1 ∨ b = 4) then 1 else if a = 11 then -1 else 0, [], fun _ => [])
theorem Az_inv : Inv 0 10 Az := by
  refine ⟨⟨Nat.zero_le _, rfl⟩, fun t ht => absurd ht (Nat.not_lt_zero t), fun t ht => absurd ht (Nat.not_lt_zero t), fun l _ => Or.inl rfl, fun l _ => ⟨List.nodup_nil, fun u => ⟨fun q => (nomatch q), fun q => absurd q.1 (Nat.not_lt_zero u)⟩⟩, ⟨?_, ⟨0, by omega, rfl⟩, ?_⟩, fun t ht => absurd ht (Nat.not_lt_zero t)⟩
  · show 0 ≤ (1 : Int32).toInt ∧ (1 : Int32).toInt ≤ 1000002
    decide
  · show 0 ≤ (0 : Int32).toInt
    decide
def Lc (k : Nat) (M : Mem) (i : Nat) (M' : Mem) : Prop := M'.2 = M.2 ∧ (∀ kd k' i' j, ¬ (k' = k ∧ (kd = 10 ∨ kd = 12)) → M'.1 kd k' i' j = M.1 kd k' i' j) ∧ ∀ l, l < i → M'.1 10 k 0 l = -1 ∧ M'.1 12 k 0 l = 0
theorem c_cl2 {k : Nat} : ∀ (m n i : Nat) (M' : Mem), i + m = 6 → m < n → Lc k M i M' → Sat (pX1_clear_2 k n (nI i) M') (fun _ M2 => Lc k M 6 M2) := by
  intro m
  induction m with
  | zero =>
    intro n i M' hi hn h
    obtain ⟨n, rfl⟩ : ∃ n', n = n' + 1 := ⟨n - 1, by omega⟩
    have i6 : i = 6 := by omega
    subst i6
    rw [pX1_clear_2, if_pos (show (6 : Int32) ≤ nI 6 from nI_le (a := 6) (by omega) (by omega))]
    exact S_ret h
  | succ m ih =>
    intro n i M' hi hn h
    obtain ⟨n, rfl⟩ : ∃ n', n = n' + 1 := ⟨n - 1, by omega⟩
    obtain ⟨h1, h2, h3⟩ := h
    rw [pX1_clear_2, if_neg (show ¬ (6 : Int32) ≤ nI i from nI_ge (b := 6) (by omega) (by omega)), chk_h (inB_nI (by omega) (by omega)), cl (by omega), nm_def, chk_h (inB_nI (by omega) (by omega)), nm_def, nI_1]
    refine ih n (i + 1) _ (by omega) (by omega) ⟨h1, fun kd k' i' j q => ?_, fun l hl => ?_⟩
    · rw [wI_e, if_neg (by omega), wI_e, if_neg (by omega)]
      exact h2 _ _ _ _ q
    · by_cases e : l = i
      · subst e
        refine ⟨?_, wI_s⟩
        rw [wI_kd (by omega), wI_s]
      · rw [wI_kd (by omega), wI_j e, wI_j e, wI_kd (by omega)]
        exact h3 l (by omega)
def clM (M : Mem) (k : Nat) : Mem := wI (wI (wI (wI (wI (wI (wI (wI (wI (wI (wI (wI (wI (wI (wI (wI M 13 k 0 1 0) 13 k 0 2 0) 13 k 0 3 0) 15 k 0 0 0) 15 k 0 1 1) 3 k 0 4 0) 3 k 0 5 0) 3 k 0 6 1) 3 k 0 7 0) 3 k 0 8 0) 3 k 0 9 0) 3 k 0 10 0) 3 k 0 11 0) 3 k 0 12 0) 3 k 0 13 1) 3 k 0 15 0
theorem cl_fr {k kd k' i' j : Nat} (h : ¬ (k' = k ∧ (kd = 3 ∨ kd = 13 ∨ kd = 15))) : (clM M k).1 kd k' i' j = M.1 kd k' i' j := by
  unfold clM
  rw [wI_e, if_neg (by omega), wI_e, if_neg (by omega), wI_e, if_neg (by omega), wI_e, if_neg (by omega), wI_e, if_neg (by omega), wI_e, if_neg (by omega), wI_e, if_neg (by omega), wI_e, if_neg (by omega), wI_e, if_neg (by omega), wI_e, if_neg (by omega), wI_e, if_neg (by omega), wI_e, if_neg (by omega), wI_e, if_neg (by omega), wI_e, if_neg (by omega), wI_e, if_neg (by omega), wI_e, if_neg (by omega)]
theorem cl_gl {k b : Nat} (hb : okg b = true) : (clM M k).1 (kdg b) k 0 (slg b) = Az.1 10 b := by
  have h : b < 7 ∨ (8 ≤ b ∧ b < 12) := of_decide_eq_true hb
  have hc : b = 0 ∨ b = 1 ∨ b = 2 ∨ b = 3 ∨ b = 4 ∨ b = 5 ∨ b = 6 ∨ b = 8 ∨ b = 9 ∨ b = 10 ∨ b = 11 := by omega
  rcases hc with rfl | rfl | rfl | rfl | rfl | rfl | rfl | rfl | rfl | rfl | rfl <;> simp [clM, wI_e, kdg, slg, Az]
theorem c_clear {k : Nat} : Sat (pX3_clear k M) (fun _ M' => C true true k M 0 Az [] M') := by
  rw [pX3_clear, pX1_clear]
  refine S_bnd (c_cl2 (k := k) (M := M) 6 fu 0 M (by omega) (by decide) ⟨rfl, fun _ _ _ _ _ => rfl, fun l hl => absurd hl (Nat.not_lt_zero l)⟩) (fun _ M1 h1 => ?_)
  obtain ⟨h1, h2, h3⟩ := h1
  have e : (some ((), clM M1 k) : Option (Unit × Mem)) = some ((), clM M1 k) := rfl
  simp only [nm_def, bnd_some, pX2_clear, chk_h (show inB (0 : Int32) 2 = true by decide), chk_h (show inB (1 : Int32) 2 = true by decide), chk_h b01_1, cl_0, cl_1]
  show Sat (some ((), clM M1 k)) _
  refine S_ret ?_
  refine ⟨⟨⟨Nat.zero_le _, rfl⟩, fun t f ht => absurd ht (Nat.not_lt_zero t), fun b hb => cl_gl hb, fun l hl => ?_, fun t j ht => absurd ht (Nat.not_lt_zero t)⟩, fun _ t ht => absurd ht (Nat.not_lt_zero t), fun _ _ t ht => absurd ht (Nat.not_lt_zero t), ⟨Nat.zero_le _, ?_, fun i c hi => absurd hi (Nat.not_lt_zero i)⟩, fun l hl => ⟨?_, Nat.zero_le _, fun i hi => absurd hi (Nat.not_lt_zero i)⟩, ⟨?_, Nat.zero_le _, fun i hi => absurd hi (Nat.not_lt_zero i)⟩, ?_, fun kd k' i j q => ?_⟩
  · rw [cl_fr (by omega)]
    exact (h3 l hl).1
  · intro j b1 b2
    have hj : j = 1 ∨ j = 2 ∨ j = 3 := by omega
    rcases hj with rfl | rfl | rfl
    · show (clM M1 k).1 13 k 0 1 = 0
      simp [clM, wI_e]
    · show (clM M1 k).1 13 k 0 2 = 0
      simp [clM, wI_e]
    · show (clM M1 k).1 13 k 0 3 = 0
      simp [clM, wI_e]
  · rw [cl_fr (by omega)]
    exact (h3 l hl).2
  · exact wI_s
  · exact h1
  · rw [cl_fr (by omega)]
    exact h2 _ _ _ _ (by omega)
theorem clr_c (k : Nat) : pX3_clear k M0 = some ((), Mc k) ∧ C true true k M0 0 Az [] (Mc k) := by
  obtain ⟨o, M', e, h⟩ := c_clear (k := k) (M := M0)
  have : Mc k = M' := by unfold Mc; rw [e]; rfl
  rw [this]
  exact ⟨e, h⟩
theorem Lw_0 : Lw 0 0 Az Mst := by
  obtain ⟨-, hc⟩ := clr_c 0
  refine ⟨hc.mv (fun kd i j h1 h2 => Mst_mach h1 h2), Az_inv, ⟨fun t ht => absurd ht (Nat.not_lt_zero t), fun t ht => absurd ht (Nat.not_lt_zero t), fun t ht => absurd ht (Nat.not_lt_zero t), fun e q => (nomatch q), List.Pairwise.nil⟩, ⟨Nat.zero_le _, ?_⟩⟩
  show (0 : Int32).toInt ≤ (0 : Nat)
  decide
theorem law_1 {Z : Nat × (Nat → Int32)} (hZ : Z.1 ≤ 260) : ∃ M', pL_holds Z Mst = some (1, M') := by
  obtain ⟨o, M', e, h⟩ := holds_ok hZ Lw_0 rfl rfl rfl
  have h : o = 1 := h
  subst h
  exact ⟨M', e⟩
end CLEARS
