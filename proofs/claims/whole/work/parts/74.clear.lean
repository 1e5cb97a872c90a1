/-! ===== cleared states; what holds at the law's start ===== -/
section CLEARS
variable {n : Nat} {M M1 M2 M3 M4 M5 : Mem}
def Az : AS := (fun a b => if a = 10 ∧ (b = 1 ∨ b = 4) then 1 else if a = 11 then -1 else 0, [], fun _ => [])
theorem Az_inv : Inv 0 10 Az := by
  refine ⟨⟨Nat.zero_le _, rfl⟩, fun t ht => absurd ht (Nat.not_lt_zero t), fun t ht => absurd ht (Nat.not_lt_zero t), fun l _ => Or.inl rfl, fun l _ => ⟨List.nodup_nil, fun u => ⟨fun q => (nomatch q), fun q => absurd q.1 (Nat.not_lt_zero u)⟩⟩, ⟨?_, ⟨0, by omega, rfl⟩, ?_⟩, fun t ht => absurd ht (Nat.not_lt_zero t)⟩
  · show 0 ≤ (1 : Int32).toInt ∧ (1 : Int32).toInt ≤ 1000002
    decide
  · show 0 ≤ (0 : Int32).toInt
    decide
def Lc (k : Nat) (M : Mem) (i : Nat) (M' : Mem) : Prop := M'.2 = M.2 ∧ (∀ kd k' i' j, ¬ (k' = k ∧ (kd = 10 ∨ kd = 12)) → M'.1 kd k' i' j = M.1 kd k' i' j) ∧ ∀ l, l < i → M'.1 10 k 0 l = -1 ∧ M'.1 12 k 0 l = 0
theorem c_cl2 {k : Nat} : ∀ (m n i : Nat) (M' : Mem), i + m = 6 → m < n → Lc k M i M' → Sat (pX1_clear_2 k n (nI i) M') (fun _ M2 => Lc k M 6 M2) := by
  intro m
  induction m with
  | zero =>
    intro n i M' hi hn h
    obtain ⟨n, rfl⟩ : ∃ n', n = n' + 1 := ⟨n - 1, by omega⟩
    have i6 : i = 6 := by omega
    subst i6
    rw [pX1_clear_2, if_pos (show (6 : Int32) ≤ nI 6 from nI_le (a := 6) (by omega) (by omega))]
    exact S_ret h
  | succ m ih =>
    intro n i M' hi hn h
    obtain ⟨n, rfl⟩ : ∃ n', n = n' + 1 := ⟨n - 1, by omega⟩
    obtain ⟨h1, h2, h3⟩ := h
    rw [pX1_clear_2, if_neg (show ¬ (6 : Int32) ≤ nI i from nI_ge (b := 6) (by omega) (by omega)), chk_h (inB_nI (by omega) (by omega)), cl (by omega), nm_def, chk_h (inB_nI (by omega) (by omega)), nm_def, nI_1]
    refine ih n (i + 1) _ (by omega) (by omega) ⟨h1, fun kd k' i' j q => ?_, fun l hl => ?_⟩
    · rw [wI_e, if_neg (by omega), wI_e, if_neg (by omega)]
      exact h2 _ _ _ _ q
    · by_cases e : l = i
      · subst e
        refine ⟨?_, wI_s⟩
        rw [wI_kd (by omega), wI_s]
      · rw [wI_kd (by omega), wI_j e, wI_j e, wI_kd (by omega)]
        exact h3 l (by omega)
def clM (M : Mem) (k : Nat) : Mem := wI (wI (wI (wI (wI (wI (wI (wI (wI (wI (wI (wI (wI (wI (wI (wI M 13 k 0 1 0) 13 k 0 2 0) 13 k 0 3 0) 15 k 0 0 0) 15 k 0 1 1) 3 k 0 4 0) 3 k 0 5 0) 3 k 0 6 1) 3 k 0 7 0) 3 k 0 8 0) 3 k 0 9 0) 3 k 0 10 0) 3 k 0 11 0) 3 k 0 12 0) 3 k 0 13 1) 3 k 0 15 0
theorem cl_fr {k kd k' i' j : Nat} (h : ¬ (k' = k ∧ (kd = 3 ∨ kd = 13 ∨ kd = 15))) : (clM M k).1 kd k' i' j = M.1 kd k' i' j := by
  unfold clM
  rw [wI_e, if_neg (by omega), wI_e, if_neg (by omega), wI_e, if_neg (by omega), wI_e, if_neg (by omega), wI_e, if_neg (by omega), wI_e, if_neg (by omega), wI_e, if_neg (by omega), wI_e, if_neg (by omega), wI_e, if_neg (by omega), wI_e, if_neg (by omega), wI_e, if_neg (by omega), wI_e, if_neg (by omega), wI_e, if_neg (by omega), wI_e, if_neg (by omega), wI_e, if_neg (by omega), wI_e, if_neg (by omega)]
theorem cl_gl {k b : Nat} (hb : okg b = true) : (clM M k).1 (kdg b) k 0 (slg b) = Az.1 10 b := by
  have h := okg_n b hb
  have hc : b = 0 ∨ b = 1 ∨ b = 2 ∨ b = 3 ∨ b = 4 ∨ b = 5 ∨ b = 6 ∨ b = 8 ∨ b = 9 ∨ b = 10 ∨ b = 11 := by omega
  rcases hc with rfl | rfl | rfl | rfl | rfl | rfl | rfl | rfl | rfl | rfl | rfl <;> simp [clM, wI_e, kdg, slg, Az]
theorem c_clear {k : Nat} : Sat (pX3_clear k M) (fun _ M' => C true true k M 0 Az [] M') := by
  rw [pX3_clear, pX1_clear]
  refine S_bnd (c_cl2 (k := k) (M := M) 6 fu 0 M (by omega) (by decide) ⟨rfl, fun _ _ _ _ _ => rfl, fun l hl => absurd hl (Nat.not_lt_zero l)⟩) (fun _ M1 h1 => ?_)
  obtain ⟨h1, h2, h3⟩ := h1
  have e : (some ((), clM M1 k) : Option (Unit × Mem)) = some ((), clM M1 k) := rfl
  simp only [nm_def, bnd_some, pX2_clear, chk_h (show inB (0 : Int32) 2 = true by decide), chk_h (show inB (1 : Int32) 2 = true by decide), chk_h b01_1, cl_0, cl_1]
  show Sat (some ((), clM M1 k)) _
  refine S_ret ?_
  refine ⟨⟨⟨Nat.zero_le _, rfl⟩, fun t f ht => absurd ht (Nat.not_lt_zero t), fun b hb => cl_gl hb, fun l hl => ?_, fun t j ht => absurd ht (Nat.not_lt_zero t)⟩, fun _ t ht => absurd ht (Nat.not_lt_zero t), fun _ _ t ht => absurd ht (Nat.not_lt_zero t), ⟨Nat.zero_le _, ?_, fun i c hi => absurd hi (Nat.not_lt_zero i)⟩, fun l hl => ⟨?_, Nat.zero_le _, fun i hi => absurd hi (Nat.not_lt_zero i)⟩, ⟨?_, Nat.zero_le _, fun i hi => absurd hi (Nat.not_lt_zero i)⟩, ?_, fun kd k' i j q => ?_⟩
  · rw [cl_fr (by omega)]
    exact (h3 l hl).1
  · intro j b1 b2
    have hj : j = 1 ∨ j = 2 ∨ j = 3 := by omega
    rcases hj with rfl | rfl | rfl
    · show (clM M1 k).1 13 k 0 1 = 0
      simp [clM, wI_e]
    · show (clM M1 k).1 13 k 0 2 = 0
      simp [clM, wI_e]
    · show (clM M1 k).1 13 k 0 3 = 0
      simp [clM, wI_e]
  · rw [cl_fr (by omega)]
    exact (h3 l hl).2
  · exact wI_s
  · exact h1
  · rw [cl_fr (by omega)]
    exact h2 _ _ _ _ (by omega)
/-! the reference -/
def Lm (M : Mem) (v : Nat → Int32) (i : Nat) (M' : Mem) : Prop := M'.2 = M.2 ∧ (∀ kd k' i' j, ¬ (kd = 20 ∧ k' = 0 ∧ i' = 0) → M'.1 kd k' i' j = M.1 kd k' i' j) ∧ ∀ j, j < i → M'.1 20 0 0 j = v j
theorem m_cl24 {Q : Unit → Mem → Prop} (K : ∀ M', Lm M (fun j => if 14 ≤ j ∧ j < 20 then -1 else 0) 700 M' → Q () (wI (wI M' 20 0 0 1 1) 20 0 0 4 1)) : ∀ (m n i : Nat) (M' : Mem), i + m = 6 → m < n → Lm M (fun j => if 14 ≤ j ∧ j < 14 + i then -1 else 0) 700 M' → Sat (pX8_clear_24 n (nI i) M') Q := by
  intro m
  induction m with
  | zero =>
    intro n i M' hi hn h
    obtain ⟨n, rfl⟩ : ∃ n', n = n' + 1 := ⟨n - 1, by omega⟩
    have i6 : i = 6 := by omega
    subst i6
    rw [pX8_clear_24, if_pos (show (6 : Int32) ≤ nI 6 from nI_le (a := 6) (by omega) (by omega)), chk_h ib_1, cl_1, nm_def, chk_h ib_4, cl_4, nm_def]
    exact S_ret (K M' h)
  | succ m ih =>
    intro n i M' hi hn h
    obtain ⟨n, rfl⟩ : ∃ n', n = n' + 1 := ⟨n - 1, by omega⟩
    obtain ⟨h1, h2, h3⟩ := h
    have e14 : (14 : Int32) + nI i = nI (14 + i) := nI_add 14 i
    rw [pX8_clear_24, if_neg (show ¬ (6 : Int32) ≤ nI i from nI_ge (b := 6) (by omega) (by omega)), e14, chk_h (inB_nI (by omega) (by omega)), cl (by omega), nm_def, nI_1]
    refine ih n (i + 1) _ (by omega) (by omega) ⟨h1, fun kd k' i' j q => ?_, fun j hj => ?_⟩
    · rw [wI_e, if_neg (by omega)]
      exact h2 _ _ _ _ q
    · by_cases e : j = 14 + i
      · subst e
        rw [wI_s]
        show (-1 : Int32) = if 14 ≤ 14 + i ∧ 14 + i < 14 + (i + 1) then -1 else 0
        rw [if_pos (by omega)]
      · rw [wI_j e, h3 j hj]
        show (if 14 ≤ j ∧ j < 14 + i then (-1 : Int32) else 0) = if 14 ≤ j ∧ j < 14 + (i + 1) then -1 else 0
        by_cases q : 14 ≤ j ∧ j < 14 + i
        · rw [if_pos q, if_pos (by omega)]
        · rw [if_neg q, if_neg (by omega)]
theorem m_cl2 {Q : Unit → Mem → Prop} (K : ∀ M', Lm M (fun _ => 0) 700 M' → Sat (pX8_clear_24 fu 0 M') Q) : ∀ (m n i : Nat) (M' : Mem), i + m = 700 → m < n → Lm M (fun _ => 0) i M' → Sat (pX8_clear_2 n (nI i) M') Q := by
  intro m
  induction m with
  | zero =>
    intro n i M' hi hn h
    obtain ⟨n, rfl⟩ : ∃ n', n = n' + 1 := ⟨n - 1, by omega⟩
    have i7 : i = 700 := by omega
    subst i7
    rw [pX8_clear_2, if_pos (show (700 : Int32) ≤ nI 700 from nI_le (a := 700) (by omega) (by omega))]
    exact K M' h
  | succ m ih =>
    intro n i M' hi hn h
    obtain ⟨n, rfl⟩ : ∃ n', n = n' + 1 := ⟨n - 1, by omega⟩
    obtain ⟨h1, h2, h3⟩ := h
    rw [pX8_clear_2, if_neg (show ¬ (700 : Int32) ≤ nI i from nI_ge (b := 700) (by omega) (by omega)), chk_h (inB_nI (by omega) (by omega)), cl (by omega), nm_def, nI_1]
    refine ih n (i + 1) _ (by omega) (by omega) ⟨h1, fun kd k' i' j q => ?_, fun j hj => ?_⟩
    · rw [wI_e, if_neg (by omega)]
      exact h2 _ _ _ _ q
    · by_cases e : j = i
      · subst e; exact wI_s
      · rw [wI_j e]; exact h3 j (by omega)
theorem m_clear : Sat (pX8_clear M) (fun _ M' => Dv 0 (M'.1 20 0 0) 0 Az ∧ M'.2 = M.2 ∧ ∀ kd k i j, ¬ kd = 20 → M'.1 kd k i j = M.1 kd k i j) := by
  rw [pX8_clear]
  refine m_cl2 (M := M) (fun M1 h1 => ?_) 700 fu 0 M (by omega) (by decide) ⟨rfl, fun _ _ _ _ _ => rfl, fun j hj => absurd hj (Nat.not_lt_zero j)⟩
  refine m_cl24 (M := M) (fun M2 h2 => ?_) 6 fu 0 M1 (by omega) (by decide) ⟨h1.1, h1.2.1, fun j hj => ?_⟩
  · obtain ⟨h1, h2, h3⟩ := h2
    have val : ∀ j, j < 700 → (wI (wI M2 20 0 0 1 1) 20 0 0 4 1).1 20 0 0 j = if j = 1 ∨ j = 4 then 1 else if 14 ≤ j ∧ j < 20 then -1 else 0 := fun j hj => by
      rw [wI_e, wI_e, h3 j hj]
      by_cases e4 : j = 4
      · rw [if_pos ⟨rfl, rfl, rfl, e4⟩, if_pos (Or.inr e4)]
      · rw [if_neg (fun q => e4 q.2.2.2)]
        by_cases e1 : j = 1
        · rw [if_pos ⟨rfl, rfl, rfl, e1⟩, if_pos (Or.inl e1)]
        · rw [if_neg (fun q => e1 q.2.2.2), if_neg (by omega)]
    refine ⟨⟨⟨Nat.zero_le _, rfl⟩, fun t f ht => absurd ht (Nat.not_lt_zero t), fun b hb => ?_, fun l hl => ?_, fun t j ht => absurd ht (Nat.not_lt_zero t), ⟨Nat.zero_le _, ?_, ?_, fun i c hi => absurd hi (Nat.not_lt_zero i)⟩, ?_, ?_, fun l hl => ⟨fun u hu => (nomatch hu), List.Pairwise.nil⟩⟩, h1, fun kd k i j q => ?_⟩
    · have hbn := okg_n b hb
      rw [val b (by omega)]
      show _ = if 10 = 10 ∧ (b = 1 ∨ b = 4) then 1 else if 10 = 11 then -1 else 0
      by_cases e : b = 1 ∨ b = 4
      · rw [if_pos e, if_pos ⟨rfl, e⟩]
      · rw [if_neg e, if_neg (by omega), if_neg (by omega), if_neg (by omega)]
    · rw [val (14 + l) (by omega), if_neg (by omega), if_pos (by omega)]
      rfl
    · rw [val 7 (by omega)]; rfl
    · rw [val 13 (by omega)]; rfl
    · rw [val 12 (by omega)]; decide
    · rw [val 12 (by omega)]; decide
    · rw [wI_kd q, wI_kd q]
      exact h2 _ _ _ _ (by omega)
  · rw [h1.2.2 j hj]
    show (0 : Int32) = if 14 ≤ j ∧ j < 14 + 0 then -1 else 0
    rw [if_neg (by omega)]
/-! the start -/
theorem clr_c (k : Nat) : pX3_clear k M0 = some ((), Mc k) ∧ C true true k M0 0 Az [] (Mc k) := by
  obtain ⟨o, M', e, h⟩ := c_clear (k := k) (M := M0)
  have : Mc k = M' := by unfold Mc; rw [e]; rfl
  rw [this]
  exact ⟨e, h⟩
theorem clr_m : pX8_clear M8 = some ((), Mc8) ∧ Dv 0 (Mc8.1 20 0 0) 0 Az ∧ Mc8.2 = M8.2 ∧ ∀ kd k i j, ¬ kd = 20 → Mc8.1 kd k i j = M8.1 kd k i j := by
  obtain ⟨o, M', e, h⟩ := m_clear (M := M8)
  have : Mc8 = M' := by unfold Mc8; rw [e]; rfl
  rw [this]
  exact ⟨e, h⟩
theorem J_0 : J 0 Mst := by
  obtain ⟨-, hc⟩ := clr_c 0
  obtain ⟨-, hd, -, hm⟩ := clr_m
  have md : ∀ kd k i j, 19 ≤ kd → kd ≤ 29 → ¬ kd = 20 → Mst.1 kd k i j = M8.1 kd k i j := fun kd k i j h1 h2 h3 => (Mst_mod h1 h2).trans (hm kd k i j h3)
  refine ⟨0, Az, hc.mv (fun kd i j h1 h2 => Mst_mach h1 h2), ⟨hd.cong (fun j _ => Mst_mod (by omega) (by omega)), ⟨md 19 0 0 20 (by omega) (by omega) (by omega), Nat.zero_le _, fun i hi => absurd hi (Nat.not_lt_zero i)⟩, Fm.refl Mst⟩, Az_inv, ⟨Nat.zero_le _, ?_⟩, fun i hi => ⟨?_, Or.inl rfl⟩, fun c hc => ⟨md 25 0 0 c (by omega) (by omega) (by omega), md 26 0 0 c (by omega) (by omega) (by omega)⟩, ⟨0, by omega, rfl, md 19 0 0 9 (by omega) (by omega) (by omega), fun i hi => absurd hi (Nat.not_lt_zero i)⟩, ?_, ?_⟩
  · show (0 : Int32).toInt ≤ 0
    decide
  · exact (md 24 0 0 i (by omega) (by omega) (by omega)).symm
  · exact (md 19 0 0 15 (by omega) (by omega) (by omega)).symm
  · exact (md 19 0 0 16 (by omega) (by omega) (by omega)).symm
end CLEARS
