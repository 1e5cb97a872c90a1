/-! ===== threads and instructions added ===== -/
section ADDS
variable {n : Nat} {T : Nat} {A : AS} {M M1 M2 M3 M4 M5 : Mem}
def isI (c x : Int32) : Bool := rng c 0 10 && rng x (xLeast.getD c.toNatClampNeg 0) (xMost.getD c.toNatClampNeg 0)
theorem c_ins (c x : Int32) : pX7_needInstruction c x M = if isI c x = true then some (.ok (), M) else some (.error 2, M) := by
  rw [pX7_needInstruction, show (11 : Int32) - (1 : Int32) = 10 from by decide, c_rng]
  unfold isI
  by_cases e : rng c 0 10 = true
  · obtain ⟨j, -, hj, rfl⟩ := rng_lo (lo := 0) (hi := 10) (by omega) (by omega) rfl rfl e
    rw [if_pos e, bndx_ok, chk_h (inB_nI (by omega) (by omega)), chk_h (inB_nI (by omega) (by omega)), c_rng, e, Bool.true_and]
    by_cases e2 : rng x (xLeast.getD (nI j).toNatClampNeg 0) (xMost.getD (nI j).toNatClampNeg 0) = true
    · rw [if_pos e2]; rfl
    · rw [if_neg e2]; rfl
  · have e' : rng c 0 10 = false := by cases q : rng c 0 10; rfl; exact absurd q e
    rw [if_neg e, e', Bool.false_and, if_neg (by decide)]
    rfl
theorem m_ins (h : Tb M) (c x : Int32) : pX8_isInstruction c x M = some ((if isI c x = true then 1 else 0), M) := by
  rw [pX8_isInstruction, m_rng]
  unfold isI
  by_cases e : rng c 0 10 = true
  · obtain ⟨j, -, hj, rfl⟩ := rng_lo (lo := 0) (hi := 10) (by omega) (by omega) rfl rfl e
    obtain ⟨t1, t2⟩ := h j (by omega)
    rw [if_pos e, bnd_some, if_neg (show ¬ (1 : Int32) = 0 by decide), chk_h (inB_nI (by omega) (by omega)), chk_h (inB_nI (by omega) (by omega)), cl (by omega), t1, t2, m_rng, e, Bool.true_and]
    by_cases e2 : rng x (xLeast.getD j 0) (xMost.getD j 0) = true
    · rw [if_pos e2, bnd_some, if_neg (show ¬ (1 : Int32) = 0 by decide), chk_h b01_1]
    · rw [if_neg e2, bnd_some, if_pos rfl, chk_h b01_0]
  · have e' : rng c 0 10 = false := by cases q : rng c 0 10; rfl; exact absurd q e
    rw [if_neg e, bnd_some, if_pos rfl, chk_h b01_0, e', Bool.false_and, if_neg (by decide)]
theorem isI_ok {c x : Int32} (h : isI c x = true) : okc c x := by
  unfold isI at h
  rw [Bool.and_eq_true] at h
  obtain ⟨j, -, hj, rfl⟩ := rng_lo (lo := 0) (hi := 10) (by omega) (by omega) rfl rfl h.1
  have h2 := h.2
  rw [cl (by omega)] at h2
  obtain ⟨r1, r2⟩ := rng_t h2
  exact ⟨j, by omega, rfl, i32_le.mpr r1, i32_le.mpr r2⟩
/-! the state with one more thread -/
def nwF (b : Int32) (c : Nat) : Int32 := if c = 0 then b else if c = 7 ∨ c = 8 ∨ c = 10 ∨ c = 16 then -1 else 0
def nwA (T : Nat) (A : AS) (b : Int32) : AS := (fun a c => if a = T then nwF b c else if a = 10 ∧ c = 2 then nI (T + 1) else A.1 a c, A.2)
theorem nwA_s {b : Int32} {c : Nat} : (nwA T A b).1 T c = nwF b c := if_pos rfl
theorem nwA_n {b : Int32} {a c : Nat} (h : ¬ a = T) (h2 : ¬ (a = 10 ∧ c = 2)) : (nwA T A b).1 a c = A.1 a c := by
  show (if a = T then _ else _) = _
  rw [if_neg h, if_neg h2]
theorem nwA_2 {b : Int32} (h : T < 10) : (nwA T A b).1 10 2 = nI (T + 1) := by
  show (if 10 = T then _ else _) = _
  rw [if_neg (by omega), if_pos ⟨rfl, rfl⟩]
theorem nwA_inv (h : Inv T 10 A) (hT : T < 10) {b : Nat} (h1 : 1 ≤ b) (h9 : b ≤ 9) : Inv (T + 1) T (nwA T A (nI b)) := by
  obtain ⟨i1, i2, i3, i4, i5, i6, i7⟩ := h
  refine ⟨⟨by omega, nwA_2 hT⟩, fun t ht => ?_, fun t ht hne => ?_, fun l hl => ?_, fun l hl => ?_, ?_, fun t ht => ?_⟩
  · by_cases e : t = T
    · subst e
      unfold TI
      simp only [nwA_s]
      refine ⟨?_, ⟨0, 0, rfl, rfl, Nat.le_refl _, by omega, Or.inl rfl, fun j hj => absurd hj (Nat.not_lt_zero j)⟩, Or.inl rfl, Or.inl rfl, Or.inl rfl, fun q => ?_, fun _ => rfl⟩
      · show 1 ≤ (nI b).toInt ∧ (nI b).toInt ≤ 9
        rw [nI_toInt (by omega)]
        omega
      · exact absurd q (show ¬ nwF (nI b) 3 = 2 from (show ¬ (0 : Int32) = 2 by decide))
    · have h2 := i2 t (by omega)
      have r : ∀ c, (nwA T A (nI b)).1 t c = A.1 t c := fun c => nwA_n e (by omega)
      have r12 : ∀ c, (nwA T A (nI b)).1 12 c = A.1 12 c := fun c => nwA_n (by omega) (by omega)
      have r13 : ∀ c, (nwA T A (nI b)).1 13 c = A.1 13 c := fun c => nwA_n (by omega) (by omega)
      have r11 : ∀ c, (nwA T A (nI b)).1 11 c = A.1 11 c := fun c => nwA_n (by omega) (by omega)
      unfold TI at h2 ⊢
      simp only [r, r12, r13, r11]
      obtain ⟨a1, a2, a3, a4, a5, a6, a7⟩ := h2
      refine ⟨a1, a2, a3, a4, a5, fun q => ?_, a7⟩
      obtain ⟨l, v, z1, z2, z3, z4, z5⟩ := a6 q
      exact ⟨l, v, z1, z2, by omega, z4, z5⟩
  · have h3 := i3 t (by omega) (by omega)
    unfold ZI at h3 ⊢
    rw [nwA_n hne (by omega), nwA_n hne (by omega), nwA_n hne (by omega)]
    exact h3
  · rw [nwA_n (by omega) (by omega)]
    rcases i4 l hl with q | ⟨v, q1, q2⟩
    · exact Or.inl q
    · exact Or.inr ⟨v, by omega, q2⟩
  · obtain ⟨j1, j2⟩ := i5 l hl
    refine ⟨j1, fun u => (j2 u).trans ?_⟩
    by_cases e : u = T
    · subst e
      rw [nwA_s]
      refine ⟨fun q => absurd q.1 (by omega), fun q => absurd q.2 (fun z => m1_ne (show l < 2147483648 by omega) ?_)⟩
      exact z.symm
    · rw [nwA_n e (by omega)]
      exact ⟨fun q => ⟨by omega, q.2⟩, fun q => ⟨by omega, q.2⟩⟩
  · rw [nwA_n (by omega) (by omega), nwA_n (by omega) (by omega), nwA_n (by omega) (by omega)]
    exact i6
  · by_cases e : t = T
    · subst e
      unfold RI
      simp only [nwA_s]
      have z : ∀ c, 12 ≤ c → c < 16 → (nwF (nI b) c).toInt = 0 := fun c c1 c2 => by
        unfold nwF
        rw [if_neg (by omega), if_neg (by omega)]
        decide
      rw [z 12 (by omega) (by omega), z 13 (by omega) (by omega), z 14 (by omega) (by omega), z 15 (by omega) (by omega)]
      omega
    · have h7 := i7 t (by omega)
      unfold RI at h7 ⊢
      rw [nwA_n e (by omega), nwA_n e (by omega), nwA_n e (by omega), nwA_n e (by omega)]
      exact h7
/-! the class -/
def nwM (M : Mem) (k i : Nat) (v : Int32) : Mem := wI (wI (wI (wI (wI (wI (wI (wI (wI (wI (wI (wI (wI (wI (wI (wI (wI (wI (wI (wI M 8 k i 0 0) 8 k i 1 0) 8 k i 2 0) 8 k i 3 0) 8 k i 4 0) 5 k i 3 0) 5 k i 4 v) 5 k i 5 v) 5 k i 6 0) 5 k i 7 0) 5 k i 8 0) 5 k i 9 0) 5 k i 10 0) 5 k i 11 0) 5 k i 12 0) 5 k i 13 (-1)) 5 k i 14 (-1)) 5 k i 15 0) 5 k i 16 (-1)) 5 k i 17 0
theorem c_start (k i : Nat) (v : Int32) : pX6_start k i v M = some ((), nwM M k i v) := by
  have st : ∀ (n j : Nat) (M : Mem), j < 5 → pX6_start_2 k i (n + 1) v (nI j) M = pX6_start_2 k i n v (nI (j + 1)) (wI M 8 k i j 0) := fun n j M hj => by
    rw [pX6_start_2, if_neg (show ¬ (5 : Int32) ≤ nI j from nI_ge (b := 5) hj (by omega)), chk_h (inB_nI hj (by omega)), cl (by omega), nm_def, nI_1]
  rw [pX6_start]
  show pX6_start_2 k i (4090 + 1 + 1 + 1 + 1 + 1 + 1) v (nI 0) M = _
  rw [st _ 0 _ (by omega), st _ 1 _ (by omega), st _ 2 _ (by omega), st _ 3 _ (by omega), st _ 4 _ (by omega), pX6_start_2, if_pos (show (5 : Int32) ≤ nI (4 + 1) from nI_le (a := 5) (by omega) (by omega))]
  simp only [nm_def, chk_h b01_0]
  rfl
theorem nw_fr {k i : Nat} {v : Int32} {kd k' i' j : Nat} (h : ¬ (k' = k ∧ i' = i ∧ (kd = 5 ∨ kd = 8))) : (nwM M k i v).1 kd k' i' j = M.1 kd k' i' j := by
  unfold nwM
  rw [wI_e, if_neg (by omega), wI_e, if_neg (by omega), wI_e, if_neg (by omega), wI_e, if_neg (by omega), wI_e, if_neg (by omega), wI_e, if_neg (by omega), wI_e, if_neg (by omega), wI_e, if_neg (by omega), wI_e, if_neg (by omega), wI_e, if_neg (by omega), wI_e, if_neg (by omega), wI_e, if_neg (by omega), wI_e, if_neg (by omega), wI_e, if_neg (by omega), wI_e, if_neg (by omega), wI_e, if_neg (by omega), wI_e, if_neg (by omega), wI_e, if_neg (by omega), wI_e, if_neg (by omega), wI_e, if_neg (by omega)]
theorem nw_vl {k i : Nat} {v : Int32} (f : Nat) (hf : okf f = true) : (nwM M k i v).1 (kdf f) k i (slf f) = nwF v f := by
  have hf18 := okf_lt hf
  have h16 : ¬ f = 16 := by simp [okf] at hf; omega
  have hc : f = 0 ∨ f = 1 ∨ f = 2 ∨ f = 3 ∨ f = 4 ∨ f = 5 ∨ f = 6 ∨ f = 7 ∨ f = 8 ∨ f = 9 ∨ f = 10 ∨ f = 11 ∨ f = 12 ∨ f = 13 ∨ f = 14 ∨ f = 15 ∨ f = 17 := by omega
  rcases hc with rfl | rfl | rfl | rfl | rfl | rfl | rfl | rfl | rfl | rfl | rfl | rfl | rfl | rfl | rfl | rfl | rfl <;> simp [nwM, wI_e, nwF, kdf, slf]
theorem c_newThread {g p : Bool} {k : Nat} {M0 : Mem} (h : C g p k M0 T A [] M) (hT : T < 10) (b : Int32) : Sat (pX3_newThread k b M) (fun o M' => o = (k, T) ∧ C g true k M0 (T + 1) (nwA T A b) [] M') := by
  rw [pX3_newThread, h.cnt4, chk_h (inB_nI hT (by omega)), cl (by omega), c_start, bnd_some, nw_fr (by omega), h.cnt4, nI_1]
  refine S_w (P := fun M' => M' = wI (nwM M k T b) 3 k 0 4 (nI (T + 1))) rfl (fun M2 h2 => ?_)
  subst h2
  rw [chk_h b01_1]
  refine S_w (P := fun M' => M' = wI (wI (nwM M k T b) 3 k 0 4 (nI (T + 1))) 3 k 0 13 1) rfl (fun M2 h2 => ?_)
  subst h2
  refine S_ret ⟨rfl, ?_⟩
  have fr : ∀ kd k' i' j, ¬ (k' = k ∧ i' = T ∧ (kd = 5 ∨ kd = 8)) → ¬ (kd = 3 ∧ k' = k ∧ (j = 4 ∨ j = 13)) → (wI (wI (nwM M k T b) 3 k 0 4 (nI (T + 1))) 3 k 0 13 1).1 kd k' i' j = M.1 kd k' i' j := fun kd k' i' j q1 q2 => by
    rw [wI_e, if_neg (by omega), wI_e, if_neg (by omega), nw_fr q1]
  obtain ⟨⟨hT2, hth, hgl, hho, hco⟩, hg, hpp, hl, hw, hs, hF⟩ := h
  refine ⟨⟨⟨by omega, nwA_2 hT⟩, fun t f ht hf => ?_, fun c hc => ?_, fun l hl => ?_, fun t j ht hj hj2 => ?_⟩, fun q t ht => ?_, fun _ q2 => ?_, ⟨hl.1, ?_, fun i c a1 a2 a3 => ?_⟩, fun l hl => ⟨?_, (hw l hl).2.1, fun i hi => ?_⟩, ⟨?_, hs.2.1, fun i hi => ?_⟩, hF.1, fun kd k' i j q => ?_⟩
  · have hk := kdf_58 f
    by_cases e : t = T
    · subst e
      rw [wI_kd (by omega), wI_kd (by omega), nw_vl f hf, nwA_s]
    · rw [fr _ _ _ _ (by omega) (by omega), nwA_n e (by omega)]
      exact hth t f (by omega) hf
  · have hk := kdg_315 c
    have h13 := slg_3 c (okg_lt hc) hc
    by_cases e : c = 2
    · subst e
      rw [nwA_2 hT]
      show (wI (wI (nwM M k T b) 3 k 0 4 (nI (T + 1))) 3 k 0 13 1).1 3 k 0 4 = _
      rw [wI_j (by omega), wI_s]
    · have h4 : ¬ (kdg c = 3 ∧ slg c = 4) := fun q => e (slg_inj c (okg_lt hc) 2 (by omega) hc rfl q.1 q.2)
      rw [fr _ _ _ _ (by omega) (fun q => by
        rcases q.2.2 with z | z
        · exact h4 ⟨q.1, z⟩
        · exact (h13 q.1).1 z), nwA_n (by omega) (by omega)]
      exact hgl c hc
  · rw [fr _ _ _ _ (by omega) (by omega), nwA_n (by omega) (by omega)]
    exact hho l hl
  · by_cases e : t = T
    · subst e
      rw [nwA_s] at hj2
      exact absurd hj2 (show ¬ j < (nwF b 1).toNatClampNeg from Nat.not_lt_zero j)
    · rw [nwA_n e (by omega)] at hj2
      rw [fr _ _ _ _ (by omega) (by omega), fr _ _ _ _ (by omega) (by omega), nwA_n (by omega) (by omega), nwA_n (by omega) (by omega)]
      exact hco t j (by omega) hj hj2
  · by_cases e : t = T
    · subst e
      rw [wI_kd (by omega), wI_kd (by omega), nwA_s]
      refine ⟨?_, ?_⟩
      · have : (nwM M k t b).1 5 k t 6 = 0 := by simp [nwM, wI_e]
        rw [this, if_pos (show nwF b 16 = -1 from rfl)]
      · exact (show ¬ (-1 : Int32) = 0 by decide)
    · rw [fr _ _ _ _ (by omega) (by omega), nwA_n e (by omega)]
      exact hg q t (by omega)
  · rw [wI_s] at q2
    exact absurd q2 (by decide)
  · intro j b1 b2; rw [fr _ _ _ _ (by omega) (by omega)]; exact hl.2.1 j b1 b2
  · rw [fr _ _ _ _ (by omega) (by omega)]; exact hl.2.2 i c a1 a2 a3
  · rw [fr _ _ _ _ (by omega) (by omega)]; exact (hw l hl).1
  · rw [fr _ _ _ _ (by omega) (by omega)]; exact (hw l hl).2.2 i hi
  · rw [fr _ _ _ _ (by omega) (by omega)]; exact hs.1
  · exact absurd hi (Nat.not_lt_zero i)
  · rw [fr _ _ _ _ (by omega) (by omega)]; exact hF.2 kd k' i j q
/-! one more instruction -/
def stA (A : AS) (t z : Nat) (c x : Int32) : AS := up (up (up A 12 (16 * t + z) c) 13 (16 * t + z) x) t 1 (nI (z + 1))
theorem stA_e {t z : Nat} {c x : Int32} {a d : Nat} (ht : t < 10) : (stA A t z c x).1 a d = if a = t ∧ d = 1 then nI (z + 1) else if a = 12 ∧ d = 16 * t + z then c else if a = 13 ∧ d = 16 * t + z then x else A.1 a d := by
  unfold stA
  rw [up_e, up_e, up_e]
  by_cases e1 : a = t ∧ d = 1
  · rw [if_pos e1, if_pos e1]
  · rw [if_neg e1, if_neg e1]
    by_cases e2 : a = 12 ∧ d = 16 * t + z
    · rw [if_neg (by omega), if_pos e2, if_pos e2]
    · rw [if_neg e2, if_neg e2]
theorem stA_n {t z : Nat} {c x : Int32} {a d : Nat} (ht : t < 10) (h1 : ¬ (a = t ∧ d = 1)) (h2 : ¬ (a = 12 ∧ d = 16 * t + z)) (h3 : ¬ (a = 13 ∧ d = 16 * t + z)) : (stA A t z c x).1 a d = A.1 a d := by
  rw [stA_e ht, if_neg h1, if_neg h2, if_neg h3]
theorem stA_inv {ex t z : Nat} {c x : Int32} (h : Inv T ex A) (hex : ex = 10 ∨ ex = t) (ht : t < T) (h1 : A.1 t 1 = nI z) (hz : z < 16) (ho : okc c x) : Inv T 10 (stA A t z c x) := by
  have hT := h.T10
  have ht10 : t < 10 := by omega
  have r : ∀ u d, u < T → ¬ (u = t ∧ d = 1) → (stA A t z c x).1 u d = A.1 u d := fun u d hu q => stA_n ht10 q (by omega) (by omega)
  have r11 : ∀ d, (stA A t z c x).1 11 d = A.1 11 d := fun d => stA_n ht10 (by omega) (by omega) (by omega)
  have r10 : ∀ d, (stA A t z c x).1 10 d = A.1 10 d := fun d => stA_n ht10 (by omega) (by omega) (by omega)
  have r12 : ∀ d, ¬ d = 16 * t + z → (stA A t z c x).1 12 d = A.1 12 d := fun d q => stA_n ht10 (by omega) (by omega) (by omega)
  have r13 : ∀ d, ¬ d = 16 * t + z → (stA A t z c x).1 13 d = A.1 13 d := fun d q => stA_n ht10 (by omega) (by omega) (by omega)
  have s12 : (stA A t z c x).1 12 (16 * t + z) = c := by rw [stA_e ht10, if_neg (by omega), if_pos ⟨rfl, rfl⟩]
  have s13 : (stA A t z c x).1 13 (16 * t + z) = x := by rw [stA_e ht10, if_neg (by omega), if_neg (by omega), if_pos ⟨rfl, rfl⟩]
  have s1 : (stA A t z c x).1 t 1 = nI (z + 1) := by rw [stA_e ht10, if_pos ⟨rfl, rfl⟩]
  obtain ⟨i1, i2, i3, i4, i5, i6, i7⟩ := h
  refine ⟨⟨i1.1, by rw [r10]; exact i1.2⟩, fun u hu => ?_, fun u hu _ => ?_, fun l hl => by rw [r11]; exact i4 l hl, fun l hl => ⟨(i5 l hl).1, fun u => ((i5 l hl).2 u).trans ?_⟩, by rw [r10, r10, r10]; exact i6, fun u hu => ?_⟩
  · obtain ⟨a1, ⟨z', q, b1, b2, b3, b4, b5, b6⟩, a3, a4, a5, a6, a7⟩ := i2 u hu
    refine ⟨by rw [r u 0 hu (by omega)]; exact a1, ?_, by rw [r u 3 hu (by omega)]; exact a3, by rw [r u 4 hu (by omega)]; exact a4, by rw [r u 5 hu (by omega)]; exact a5, fun q => ?_, fun q => ?_⟩
    · by_cases e : u = t
      · subst e
        have ez : z' = z := nI_inj (by omega) (by omega) (b1.symm.trans h1)
        subst ez
        refine ⟨z' + 1, q, s1, by rw [r u 2 hu (by omega)]; exact b2, by omega, by omega, ?_, fun j hj => ?_⟩
        · rw [r u 17 hu (by omega)]
          rcases b5 with b5 | ⟨c1, c2, c3, c4⟩
          · exact Or.inl b5
          · right
            rw [r12 _ (by omega), r13 _ (by omega)]
            exact ⟨by omega, c2, c3, c4⟩
        · by_cases ej : j = z'
          · subst ej; rw [s12, s13]; exact ho
          · rw [r12 _ (by omega), r13 _ (by omega)]; exact b6 j (by omega)
      · refine ⟨z', q, by rw [r u 1 hu (by omega)]; exact b1, by rw [r u 2 hu (by omega)]; exact b2, b3, b4, ?_, fun j hj => ?_⟩
        · rw [r u 17 hu (by omega)]
          rcases b5 with b5 | ⟨c1, c2, c3, c4⟩
          · exact Or.inl b5
          · right
            rw [r12 _ (by omega), r13 _ (by omega)]
            exact ⟨c1, c2, c3, c4⟩
        · rw [r12 _ (by omega), r13 _ (by omega)]; exact b6 j hj
    · rw [r u 3 hu (by omega)] at q
      obtain ⟨l, v, z1, z2, z3, z4, z5⟩ := a6 q
      exact ⟨l, v, z1, by rw [r u 8 hu (by omega)]; exact z2, z3, by rw [r11]; exact z4, z5⟩
    · rw [r u 3 hu (by omega)] at q
      rw [r u 8 hu (by omega)]
      exact a7 q
  · unfold ZI
    rw [r u 3 hu (by omega), r u 2 hu (by omega)]
    by_cases e : u = t
    · subst e
      obtain ⟨z', q, b1, b2, b3, b4, -⟩ := (i2 u hu).2.1
      have ez : z' = z := nI_inj (by omega) (by omega) (b1.symm.trans h1)
      subst ez
      intro _ q2
      rw [s1, b2] at q2
      have := nI_inj (by omega) (by omega) q2
      omega
    · rw [r u 1 hu (by omega)]
      exact i3 u hu (by omega)
  · constructor
    · intro q
      exact ⟨q.1, by rw [r u 8 q.1 (by omega)]; exact q.2⟩
    · intro q
      refine ⟨q.1, ?_⟩
      have := q.2
      rw [r u 8 q.1 (by omega)] at this
      exact this
  · have h7 := i7 u hu
    unfold RI at h7 ⊢
    rw [r u 12 hu (by omega), r u 13 hu (by omega), r u 14 hu (by omega), r u 15 hu (by omega)]
    exact h7
theorem stA_pr {t z u : Nat} {c x : Int32} (hT : T ≤ 10) (ht : t < T) (hu : u < T) : pr T (stA A t z c x) u = pr T A u := by
  have ht10 : t < 10 := by omega
  refine pr_congr (stA_n ht10 (by omega) (by omega) (by omega)) ?_ (fun v hv => stA_n ht10 (by omega) (by omega) (by omega)) hu
  funext v
  unfold hop
  by_cases hv : v < T
  · have e8 : (stA A t z c x).1 v 8 = A.1 v 8 := stA_n ht10 (by omega) (by omega) (by omega)
    have e11 : ∀ y, (stA A t z c x).1 11 y = A.1 11 y := fun y => stA_n ht10 (by omega) (by omega) (by omega)
    rw [if_pos hv, if_pos hv, e8, e11]
  · rw [if_neg hv, if_neg hv]
theorem c_addStep {g p : Bool} {k : Nat} {M0 : Mem} (h : C g p k M0 T A [] M) {t z : Nat} (ht : t < T) (h1 : A.1 t 1 = nI z) (hz : z < 16) (c x : Int32) : Sat (pX6_addStep k t c x M) (fun _ M' => C g p k M0 T (stA A t z c x) [] M') := by
  have hT := h.T10
  have ht10 : t < 10 := by omega
  have r3 : M.1 5 k t 3 = nI z := (h.th ht 1 rfl).trans h1
  rw [pX6_addStep, r3, if_neg (show ¬ (16 : Int32) ≤ nI z from nI_ge (b := 16) hz (by omega)), chk_h (inB_nI hz (by omega)), cl (by omega)]
  refine S_w (P := fun M' => M' = wI M 6 k t z c) rfl (fun M2 h2 => ?_)
  subst h2
  rw [wI_kd (by omega), r3, chk_h (inB_nI hz (by omega)), cl (by omega)]
  refine S_w (P := fun M' => M' = wI (wI M 6 k t z c) 7 k t z x) rfl (fun M2 h2 => ?_)
  subst h2
  rw [wI_kd (by omega), wI_kd (by omega), r3, nI_1]
  refine S_w (P := fun M' => M' = wI (wI (wI M 6 k t z c) 7 k t z x) 5 k t 3 (nI (z + 1))) rfl (fun M2 h2 => ?_)
  subst h2
  refine S_ret ?_
  have fr : ∀ kd k' i' j, ¬ (kd = 6 ∧ k' = k ∧ i' = t ∧ j = z) → ¬ (kd = 7 ∧ k' = k ∧ i' = t ∧ j = z) → ¬ (kd = 5 ∧ k' = k ∧ i' = t ∧ j = 3) → (wI (wI (wI M 6 k t z c) 7 k t z x) 5 k t 3 (nI (z + 1))).1 kd k' i' j = M.1 kd k' i' j := fun kd k' i' j q1 q2 q3 => by
    rw [wI_e, if_neg (by omega), wI_e, if_neg (by omega), wI_e, if_neg (by omega)]
  obtain ⟨⟨hT2, hth, hgl, hho, hco⟩, hg, hpp, hl, hw, hs, hF⟩ := h
  refine ⟨⟨⟨hT2.1, by rw [stA_n ht10 (by omega) (by omega) (by omega)]; exact hT2.2⟩, fun u f hu hf => ?_, fun d hd => ?_, fun l hl => ?_, fun u j hu hj hj2 => ?_⟩, fun q u hu => ?_, fun q q2 u hu => ?_, ⟨hl.1, ?_, fun i d a1 a2 a3 => ?_⟩, fun l hl => ⟨?_, (hw l hl).2.1, fun i hi => ?_⟩, ⟨?_, hs.2.1, fun i hi => ?_⟩, ((hF.wI (by omega) (by omega)).wI (by omega) (by omega)).wI (by omega) (by omega)⟩
  · have hk := kdf_58 f
    by_cases e : u = t ∧ f = 1
    · obtain ⟨rfl, rfl⟩ := e
      rw [stA_e ht10, if_pos ⟨rfl, rfl⟩]
      exact wI_s
    · have ne : ¬ (kdf f = 5 ∧ slf f = 3 ∧ u = t) := fun q => e ⟨q.2.2, slf_inj f (okf_lt hf) 1 (by omega) hf rfl q.1 q.2.1⟩
      rw [fr _ _ _ _ (by omega) (by omega) (fun q => ne ⟨q.1, q.2.2.2, q.2.2.1⟩), stA_n ht10 e (by omega) (by omega)]
      exact hth u f hu hf
  · have hk := kdg_315 d
    rw [fr _ _ _ _ (by omega) (by omega) (by omega), stA_n ht10 (by omega) (by omega) (by omega)]
    exact hgl d hd
  · rw [fr _ _ _ _ (by omega) (by omega) (by omega), stA_n ht10 (by omega) (by omega) (by omega)]
    exact hho l hl
  · by_cases e : u = t
    · subst e
      rw [stA_e ht10, if_pos ⟨rfl, rfl⟩, cl (by omega)] at hj2
      by_cases ej : j = z
      · subst ej
        rw [stA_e ht10, if_neg (by omega), if_pos ⟨rfl, rfl⟩, stA_e ht10, if_neg (by omega), if_neg (by omega), if_pos ⟨rfl, rfl⟩]
        refine ⟨?_, ?_⟩
        · rw [wI_kd (by omega), wI_kd (by omega), wI_s]
        · rw [wI_kd (by omega), wI_s]
      · rw [fr _ _ _ _ (by omega) (by omega) (by omega), fr _ _ _ _ (by omega) (by omega) (by omega), stA_n ht10 (by omega) (by omega) (by omega), stA_n ht10 (by omega) (by omega) (by omega)]
        exact hco u j hu hj (by rw [h1, cl (by omega)]; omega)
    · rw [stA_n ht10 (by omega) (by omega) (by omega)] at hj2
      rw [fr _ _ _ _ (by omega) (by omega) (by omega), fr _ _ _ _ (by omega) (by omega) (by omega), stA_n ht10 (by omega) (by omega) (by omega), stA_n ht10 (by omega) (by omega) (by omega)]
      exact hco u j hu hj hj2
  · rw [fr _ _ _ _ (by omega) (by omega) (by omega), stA_n ht10 (by omega) (by omega) (by omega)]
    exact hg q u hu
  · rw [fr _ _ _ _ (by omega) (by omega) (by omega)] at q2
    rw [fr _ _ _ _ (by omega) (by omega) (by omega), stA_pr hT ht hu]
    exact hpp q q2 u hu
  · intro j b1 b2; rw [fr _ _ _ _ (by omega) (by omega) (by omega)]; exact hl.2.1 j b1 b2
  · rw [fr _ _ _ _ (by omega) (by omega) (by omega)]; exact hl.2.2 i d a1 a2 a3
  · rw [fr _ _ _ _ (by omega) (by omega) (by omega)]; exact (hw l hl).1
  · rw [fr _ _ _ _ (by omega) (by omega) (by omega)]; exact (hw l hl).2.2 i hi
  · rw [fr _ _ _ _ (by omega) (by omega) (by omega)]; exact hs.1
  · exact absurd hi (Nat.not_lt_zero i)
end ADDS
