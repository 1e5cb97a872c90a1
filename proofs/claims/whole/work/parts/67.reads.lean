/-! ===== calls that only read ===== -/
section READS
variable {n : Nat} {T : Nat} {A : AS} {M M1 M2 M3 M4 M5 : Mem}
theorem J_wo (h : J n M) (v : Int64) : J n (wO M v) := by
  obtain ⟨T, A, hC, hD, hI, hB, hR⟩ := h
  exact ⟨T, A, hC.wo v, hD.wo v, hI, hB, hR.wo v⟩
theorem LC_rd {r7 : Option (Except Nat Int32 × Mem)} {g : Nat → Mem → Option (Except Nat Int32 × Mem)} {f : Mem → Option (Int32 × Mem)} {o : Int32} (hJ : J n M) (h7 : r7 = some (.ok o, M)) (hm : f (wO M o.toInt64) = some (o, wI (wO M o.toInt64) 19 0 0 7 0)) : LC qI (bndc r7 okO g) f n :=
  LC_ok h7 ⟨o, _, hm, rfl, wI_s, rfl, J_w7 (J_wo hJ _) 0⟩ rfl
theorem LC_re {β : Type} {q : β → Int64 → Prop} {σ : Type} {r7 : Option (Except Nat σ × Mem)} {F : σ → Mem → Option (Except Nat Int32 × Mem)} {g : Nat → Mem → Option (Except Nat Int32 × Mem)} {f : Mem → Option (β × Mem)} {e : Nat} {k : Int32} {b : β} (hJ : J n M) (h7 : r7 = some (.error e, M)) (hg : g e M = some (.ok k, M)) (hm : f M = some (b, wI (wI M 19 0 0 7 0) 19 0 0 7 k)) (hk0 : ¬ k = 0) : LC q (bndc r7 F g) f n :=
  LC_er h7 hg hm (w7w7 _ _) hk0 (J_w7 (J_w7 hJ 0) k)
/-! errors of the text -/
theorem call_errorCode (hJ : J n M) : LC2 (pX7_errorCode M) pX8_errorCode n := by
  obtain ⟨T, A, hC, hD, hI, hB, hR⟩ := id hJ
  refine ⟨M.1 1 0 0 2, M, wI M 19 0 0 7 0, rfl, ?_, J_w7 hJ 0⟩
  rw [hR.2.2.2.1, pX8_errorCode, nm_def, wI_j (by omega)]
theorem call_errorPosition (hJ : J n M) : LC2 (pX7_errorPosition M) pX8_errorPosition n := by
  obtain ⟨T, A, hC, hD, hI, hB, hR⟩ := id hJ
  refine ⟨M.1 1 0 0 3, M, wI M 19 0 0 7 0, rfl, ?_, J_w7 hJ 0⟩
  rw [hR.2.2.2.2, pX8_errorPosition, nm_def, wI_j (by omega)]
/-! bits -/
theorem bit_t : ((List.range 10).all fun i => (List.range (2 ^ i)).all fun a => decide ((nI a ||| ((1 : Int32) <<< (nI i &&& 31))) = nI (a + 2 ^ i)) && decide ((nI a + ((1 : Int32) <<< (nI i &&& 31))) = nI (a + 2 ^ i)) && decide ((nI a + (0 : Int32)) = nI a)) = true := by decide +kernel
theorem bit_o {i a : Nat} (hi : i < 10) (ha : a < 2 ^ i) : (nI a ||| ((1 : Int32) <<< (nI i &&& 31))) = nI (a + 2 ^ i) ∧ (nI a + ((1 : Int32) <<< (nI i &&& 31))) = nI (a + 2 ^ i) ∧ (nI a + (0 : Int32)) = nI a := by
  have := List.all_eq_true.mp (List.all_eq_true.mp bit_t i (List.mem_range.mpr hi)) a (List.mem_range.mpr ha)
  simp only [Bool.and_eq_true, decide_eq_true_eq] at this
  exact ⟨this.1.1, this.1.2, this.2⟩
def mkB (p : Nat → Bool) : Nat → Nat → Nat → Nat
  | 0, _, a => a
  | m + 1, i, a => mkB p m (i + 1) (if p i = true then a + 2 ^ i else a)
theorem mkB_lt {i a : Nat} {b : Bool} (ha : a < 2 ^ i) : (if b = true then a + 2 ^ i else a) < 2 ^ (i + 1) := by
  rw [Nat.pow_succ]
  split <;> omega
theorem c_ho4 {g p : Bool} {k : Nat} {M0 : Mem} {stk : List Nat} (h : C g p k M0 T A stk M) : ∀ (m n i a : Nat), i + m = 6 → m < n → a < 2 ^ i → pX1_heldOnes_4 k n (nI a) (nI i) M = some (nI (mkB (fun l => decide (¬ A.1 11 l = -1)) m i a), M) := by
  intro m
  induction m with
  | zero =>
    intro n i a hi hn ha
    obtain ⟨n, rfl⟩ : ∃ n', n = n' + 1 := ⟨n - 1, by omega⟩
    rw [pX1_heldOnes_4, if_pos (show (6 : Int32) ≤ nI i from nI_le (a := 6) (by omega) (by omega))]
    rfl
  | succ m ih =>
    intro n i a hi hn ha
    obtain ⟨n, rfl⟩ : ∃ n', n = n' + 1 := ⟨n - 1, by omega⟩
    rw [pX1_heldOnes_4, if_neg (show ¬ (6 : Int32) ≤ nI i from nI_ge (b := 6) (by omega) (by omega)), chk_h (inB_nI (by omega) (by omega)), cl (by omega), h.ho (by omega), nI_1, (bit_o (show i < 10 by omega) ha).1, nm_def, mkB]
    by_cases e : A.1 11 i = -1
    · rw [if_pos e, ih n (i + 1) a (by omega) (by omega) (by rw [Nat.pow_succ]; omega), if_neg (show ¬ decide (¬ A.1 11 i = -1) = true by simp [e])]
    · rw [if_neg e, ih n (i + 1) _ (by omega) (by omega) (by rw [Nat.pow_succ]; omega), if_pos (show decide (¬ A.1 11 i = -1) = true by simp [e])]
theorem m_hl4 {M0 : Mem} {gv : List Nat} (h : D M0 T A gv M) : ∀ (m n i a : Nat), i + m = 6 → m < n → a < 2 ^ i → pX8_heldLocks_4 n (nI a) (nI i) M = some (nI (mkB (fun l => decide (¬ A.1 11 l = -1)) m i a), M) := by
  intro m
  induction m with
  | zero =>
    intro n i a hi hn ha
    obtain ⟨n, rfl⟩ : ∃ n', n = n' + 1 := ⟨n - 1, by omega⟩
    rw [pX8_heldLocks_4, if_pos (show (6 : Int32) ≤ nI i from nI_le (a := 6) (by omega) (by omega))]
    rfl
  | succ m ih =>
    intro n i a hi hn ha
    obtain ⟨n, rfl⟩ : ∃ n', n = n' + 1 := ⟨n - 1, by omega⟩
    have e14 : (14 : Int32) + nI i = nI (14 + i) := nI_add 14 i
    rw [pX8_heldLocks_4, if_neg (show ¬ (6 : Int32) ≤ nI i from nI_ge (b := 6) (by omega) (by omega)), e14, chk_h (inB_nI (by omega) (by omega)), cl (by omega), h.ho (by omega), nI_1, (bit_o (show i < 10 by omega) ha).2.1, (bit_o (show i < 10 by omega) ha).2.2, nm_def, nm_def, mkB]
    by_cases e : A.1 11 i = -1
    · rw [if_neg (not_not_intro e), ih n (i + 1) a (by omega) (by omega) (by rw [Nat.pow_succ]; omega), if_neg (show ¬ decide (¬ A.1 11 i = -1) = true by simp [e])]
    · rw [if_pos e, ih n (i + 1) _ (by omega) (by omega) (by rw [Nat.pow_succ]; omega), if_pos (show decide (¬ A.1 11 i = -1) = true by simp [e])]
theorem c_hb4 {g p : Bool} {k : Nat} {M0 : Mem} {stk : List Nat} (h : C g p k M0 T A stk M) (v : Int32) : ∀ (m n i a : Nat), i + m = 6 → m < n → a < 2 ^ i → pX1_heldBy_4 k n v (nI a) (nI i) M = some (nI (mkB (fun l => decide (A.1 11 l = v)) m i a), M) := by
  intro m
  induction m with
  | zero =>
    intro n i a hi hn ha
    obtain ⟨n, rfl⟩ : ∃ n', n = n' + 1 := ⟨n - 1, by omega⟩
    rw [pX1_heldBy_4, if_pos (show (6 : Int32) ≤ nI i from nI_le (a := 6) (by omega) (by omega))]
    rfl
  | succ m ih =>
    intro n i a hi hn ha
    obtain ⟨n, rfl⟩ : ∃ n', n = n' + 1 := ⟨n - 1, by omega⟩
    rw [pX1_heldBy_4, if_neg (show ¬ (6 : Int32) ≤ nI i from nI_ge (b := 6) (by omega) (by omega)), chk_h (inB_nI (by omega) (by omega)), cl (by omega), h.ho (by omega), nI_1, (bit_o (show i < 10 by omega) ha).1, nm_def, mkB]
    by_cases e : A.1 11 i = v
    · rw [if_neg (not_not_intro e), ih n (i + 1) _ (by omega) (by omega) (by rw [Nat.pow_succ]; omega), if_pos (show decide (A.1 11 i = v) = true by simp [e])]
    · rw [if_pos e, ih n (i + 1) a (by omega) (by omega) (by rw [Nat.pow_succ]; omega), if_neg (show ¬ decide (A.1 11 i = v) = true by simp [e])]
theorem m_lo4 {M0 : Mem} {gv : List Nat} (h : D M0 T A gv M) (v : Int32) : ∀ (m n i a : Nat), i + m = 6 → m < n → a < 2 ^ i → pX8_locksOf_4 n v (nI a) (nI i) M = some (nI (mkB (fun l => decide (A.1 11 l = v)) m i a), M) := by
  intro m
  induction m with
  | zero =>
    intro n i a hi hn ha
    obtain ⟨n, rfl⟩ : ∃ n', n = n' + 1 := ⟨n - 1, by omega⟩
    rw [pX8_locksOf_4, if_pos (show (6 : Int32) ≤ nI i from nI_le (a := 6) (by omega) (by omega))]
    rfl
  | succ m ih =>
    intro n i a hi hn ha
    obtain ⟨n, rfl⟩ : ∃ n', n = n' + 1 := ⟨n - 1, by omega⟩
    have e14 : (14 : Int32) + nI i = nI (14 + i) := nI_add 14 i
    rw [pX8_locksOf_4, if_neg (show ¬ (6 : Int32) ≤ nI i from nI_ge (b := 6) (by omega) (by omega)), e14, chk_h (inB_nI (by omega) (by omega)), cl (by omega), h.ho (by omega), nI_1, (bit_o (show i < 10 by omega) ha).2.1, (bit_o (show i < 10 by omega) ha).2.2, nm_def, nm_def, mkB]
    by_cases e : A.1 11 i = v
    · rw [if_neg (not_not_intro e), ih n (i + 1) _ (by omega) (by omega) (by rw [Nat.pow_succ]; omega), if_pos (show decide (A.1 11 i = v) = true by simp [e])]
    · rw [if_pos e, ih n (i + 1) a (by omega) (by omega) (by rw [Nat.pow_succ]; omega), if_neg (show ¬ decide (A.1 11 i = v) = true by simp [e])]
/-! counts -/
def kpt (A : AS) : Nat := min A.2.1.length 40
theorem c_kept {g p : Bool} {k : Nat} {M0 : Mem} {stk : List Nat} (h : C g p k M0 T A stk M) : M.1 13 k 0 2 = nI (kpt A) := h.2.2.2.1.kp
def cnV (T : Nat) (A : AS) (c : Nat) : Int32 := if c < 5 then A.1 10 c else if c < 10 then inS T A (nI (c - 5)) else if c = 10 then A.1 10 5 else if c = 11 then nI (mkB (fun l => decide (¬ A.1 11 l = -1)) 6 0 0) else if c = 12 then A.1 10 6 else if c = 13 then nI (kpt A) else A.1 10 (c - 6)
theorem some_e {α : Type} {x y : α} {M : Mem} (e : x = y) : some (x, M) = some (y, M) := by rw [e]
theorem c_num {g p : Bool} {k : Nat} {M0 : Mem} {stk : List Nat} (h : C g p k M0 T A stk M) {c : Nat} (hc : c ≤ 17) : pX3_number k (nI c) M = some (cnV T A c, M) := by
  have hc18 : c = 0 ∨ c = 1 ∨ c = 2 ∨ c = 3 ∨ c = 4 ∨ c = 5 ∨ c = 6 ∨ c = 7 ∨ c = 8 ∨ c = 9 ∨ c = 10 ∨ c = 11 ∨ c = 12 ∨ c = 13 ∨ c = 14 ∨ c = 15 ∨ c = 16 ∨ c = 17 := by omega
  rcases hc18 with rfl | rfl | rfl | rfl | rfl | rfl | rfl | rfl | rfl | rfl | rfl | rfl | rfl | rfl | rfl | rfl | rfl | rfl
  · exact some_e (h.gl 0 rfl)
  · exact some_e (h.gl 1 rfl)
  · exact some_e (h.gl 2 rfl)
  · exact some_e (h.gl 3 rfl)
  · exact some_e (h.gl 4 rfl)
  · exact (congrArg (fun z => bnd z fun o M => some (o, M)) (c_thin h 0)).trans rfl
  · exact (congrArg (fun z => bnd z fun o M => some (o, M)) (c_thin h 1)).trans rfl
  · exact (congrArg (fun z => bnd z fun o M => some (o, M)) (c_thin h 2)).trans rfl
  · exact (congrArg (fun z => bnd z fun o M => some (o, M)) (c_thin h 3)).trans rfl
  · exact (congrArg (fun z => bnd z fun o M => some (o, M)) (c_thin h 4)).trans rfl
  · exact some_e (h.gl 5 rfl)
  · exact (congrArg (fun z => bnd z fun o M => some (o, M)) (c_ho4 h 6 fu 0 0 (by omega) (by decide) (by decide))).trans rfl
  · exact some_e (h.gl 6 rfl)
  · exact some_e (c_kept h)
  · exact some_e (h.gl 8 rfl)
  · exact some_e (h.gl 9 rfl)
  · exact some_e (h.gl 10 rfl)
  · exact some_e (h.gl 11 rfl)
theorem D.lg (h : D M3 T A [] M) : M.1 20 0 0 7 = nI (kpt A) := h.1.2.2.2.2.2.1.2.1
theorem m_num {M0 : Mem} (h : D M0 T A [] (wI M 19 0 0 7 0)) {c : Nat} (hc : c ≤ 17) : pX8_count (nI c) M = some (cnV T A c, wI M 19 0 0 7 0) := by
  have hc18 : c = 0 ∨ c = 1 ∨ c = 2 ∨ c = 3 ∨ c = 4 ∨ c = 5 ∨ c = 6 ∨ c = 7 ∨ c = 8 ∨ c = 9 ∨ c = 10 ∨ c = 11 ∨ c = 12 ∨ c = 13 ∨ c = 14 ∨ c = 15 ∨ c = 16 ∨ c = 17 := by omega
  rcases hc18 with rfl | rfl | rfl | rfl | rfl | rfl | rfl | rfl | rfl | rfl | rfl | rfl | rfl | rfl | rfl | rfl | rfl | rfl
  · exact some_e (h.gl 0 rfl)
  · exact some_e (h.gl 1 rfl)
  · exact some_e (h.gl 2 rfl)
  · exact some_e (h.gl 3 rfl)
  · exact some_e (h.gl 4 rfl)
  · exact (congrArg (fun z => bnd z fun o M => some (o, M)) (m_thin h 0)).trans rfl
  · exact (congrArg (fun z => bnd z fun o M => some (o, M)) (m_thin h 1)).trans rfl
  · exact (congrArg (fun z => bnd z fun o M => some (o, M)) (m_thin h 2)).trans rfl
  · exact (congrArg (fun z => bnd z fun o M => some (o, M)) (m_thin h 3)).trans rfl
  · exact (congrArg (fun z => bnd z fun o M => some (o, M)) (m_thin h 4)).trans rfl
  · exact some_e (h.gl 5 rfl)
  · exact (congrArg (fun z => bnd z fun o M => some (o, M)) (m_hl4 h 6 fu 0 0 (by omega) (by decide) (by decide))).trans rfl
  · exact some_e (h.gl 6 rfl)
  · exact some_e h.lg
  · exact some_e (h.gl 8 rfl)
  · exact some_e (h.gl 9 rfl)
  · exact some_e (h.gl 10 rfl)
  · exact some_e (h.gl 11 rfl)
theorem call_count (hJ : J n M) (v : Int32) : LC qI (pL_count v M) (pX8_count v) n := by
  obtain ⟨T, A, hC, hD, hI, hB, hR⟩ := id hJ
  rw [pL_count]
  by_cases e : rng v 0 17 = true
  · obtain ⟨c, -, hc, rfl⟩ := rng_lo (lo := 0) (hi := 17) (by omega) (by omega) rfl rfl e
    refine LC_rd (o := cnV T A c) hJ ?_ (m_num (J_mid hD _) hc)
    rw [pX7_count, c_rng, if_pos e, bndx_ok, c_num hC hc, bnd_some]
    rfl
  · refine LC_re (e := 2) (k := 1) (b := 0) hJ (by rw [pX7_count, c_rng, if_neg e, bndx_er]) rfl ?_ (by decide)
    have ne : ∀ c : Nat, c ≤ 17 → ¬ v = nI c := fun c hc q => e (by
      rw [q]
      exact decide_eq_true ⟨nI_pos (by omega), nI_le (b := 17) hc (by omega)⟩)
    have em : ¬ rng v 14 17 = true := fun q => by
      obtain ⟨c, -, hc, q2⟩ := rng_lo (lo := 14) (hi := 17) (by omega) (by omega) rfl rfl q
      exact ne c hc q2
    rw [pX8_count, nm_def, if_neg (show ¬ v = 0 from ne 0 (by omega)), if_neg (show ¬ v = 1 from ne 1 (by omega)), if_neg (show ¬ v = 2 from ne 2 (by omega)), if_neg (show ¬ v = 3 from ne 3 (by omega)), if_neg (show ¬ v = 4 from ne 4 (by omega)), if_neg (show ¬ v = 5 from ne 5 (by omega)), if_neg (show ¬ v = 6 from ne 6 (by omega)), if_neg (show ¬ v = 7 from ne 7 (by omega)), if_neg (show ¬ v = 8 from ne 8 (by omega)), if_neg (show ¬ v = 9 from ne 9 (by omega)), if_neg (show ¬ v = 10 from ne 10 (by omega)), if_neg (show ¬ v = 11 from ne 11 (by omega)), if_neg (show ¬ v = 12 from ne 12 (by omega)), if_neg (show ¬ v = 13 from ne 13 (by omega)), m_rng, if_neg em, bnd_some, if_pos rfl, m_fail, bnd_some]
/-! instructions -/
theorem rng_isT (v : Int32) {m : Nat} (hm : m < 1000) : rng v 0 (nI m - 1) = isT m v := by
  unfold rng isT
  by_cases e : v < 0
  · simp [e]
  · obtain ⟨j, hj, rfl⟩ := nI_of e
    have h1 : (nI m - 1).toInt = (m : Int) - 1 := by
      cases m with
      | zero => decide
      | succ m =>
        have : nI (m + 1) - 1 = nI m := by
          have := nI_sub (a := m + 1) (b := 1) (by omega)
          exact this
        rw [this, nI_toInt (by omega)]
        omega
    have h2 : nI j ≤ nI m - 1 ↔ nI j < nI m := by
      rw [i32_le, i32_lt, h1, nI_toInt (by omega), nI_toInt (by omega)]
      omega
    simp only [h2]
theorem isT_s {v : Int32} {m : Nat} (hm : m < 1000) (h : isT m v = true) : ∃ t, t < m ∧ v = nI t := by
  unfold isT at h
  obtain ⟨h1, h2⟩ := of_decide_eq_true h
  obtain ⟨j, hj, rfl⟩ := nI_of h1
  exact ⟨j, (nI_ltI hj (by omega)).mp h2, rfl⟩
theorem c_idxT (v : Int32) (m : Nat) : pX7_needIndex v (nI m) M = if isT m v = true then some (.ok (), M) else some (.error 3, M) := c_idx v (nI m)
def isV (A : AS) (t j c : Nat) : Int32 := if c = 0 then A.1 12 (16 * t + j) else A.1 13 (16 * t + j)
theorem call_instruction (hJ : J n M) (v w u : Int32) : LC qI (pL_instruction v w u M) (pX8_instruction v w u) n := by
  obtain ⟨T, A, hC, hD, hI, hB, hR⟩ := id hJ
  have hT := hI.T10
  rw [pL_instruction]
  by_cases e : isT T v = true
  · obtain ⟨t, ht, rfl⟩ := isT_t hT e
    obtain ⟨z, q, h1, h2, hqz, hz, -⟩ := (hI.2.1 t ht).2.1
    have r3 : M.1 5 0 t 3 = nI z := (hC.th ht 1 rfl).trans h1
    by_cases e2 : isT z w = true
    · obtain ⟨j, hj, rfl⟩ := isT_s (by omega) e2
      by_cases e3 : rng u 0 1 = true
      · obtain ⟨c, -, hc, rfl⟩ := rng_lo (lo := 0) (hi := 1) (by omega) (by omega) rfl rfl e3
        have hjz : j < (A.1 t 1).toNatClampNeg := by rw [h1, cl (by omega)]; exact hj
        have h7 : pX7_instruction (nI t) (nI j) (nI c) M = some (.ok (isV A t j c), M) := by
          obtain ⟨k1, k2⟩ := hC.co ht (j := j) (by omega) hjz
          rw [pX7_instruction, c_thr hC, if_pos e, bndx_ok, chk_h (inB_nI (by omega) (by omega)), cl (by omega), r3, c_idxT, if_pos e2, bndx_ok, c_rng, if_pos e3, bndx_ok, cl (by omega), k1, k2]
          have hc2 : c = 0 ∨ c = 1 := by omega
          rcases hc2 with rfl | rfl
          · rw [if_neg (show ¬ ¬ nI 0 = 0 from not_not_intro rfl), chk_h (inB_nI (by omega) (by omega))]
            rfl
          · rw [if_pos (show ¬ nI 1 = 0 by decide), chk_h (inB_nI (by omega) (by omega))]
            rfl
        refine LC_rd hJ h7 ?_
        have hD1 := J_mid hD (isV A t j c).toInt64
        obtain ⟨k1, k2⟩ := hD1.co ht (j := j) (by omega) hjz
        have ecp : (220 : Int32) + ((2 : Int32) * (((16 : Int32) * nI t) + nI j)) = nI (220 + 2 * (16 * t + j)) := by
          have a1 : (16 : Int32) * nI t = nI (16 * t) := nI_mul 16 t
          rw [a1, nI_add]
          have a2 : (2 : Int32) * nI (16 * t + j) = nI (2 * (16 * t + j)) := nI_mul 2 _
          rw [a2]
          exact nI_add 220 _
        rw [pX8_instruction, nm_def, m_thr hD1, if_pos e, bnd_some, if_neg (show ¬ (1 : Int32) = 0 by decide), m_of hD1 ht 1 (x := 1) rfl (by omega), bnd_some, h1, m_rng, rng_isT _ (by omega), if_pos e2, bnd_some, if_pos (show ¬ (1 : Int32) = 0 by decide), m_rng, if_pos e3, bnd_some, if_neg (show ¬ (1 : Int32) = 0 by decide), pX8_codePlace, ecp, bnd_some, nI_add, chk_h (inB_nI (by omega) (by omega)), cl (by omega)]
        have hc2 : c = 0 ∨ c = 1 := by omega
        rcases hc2 with rfl | rfl
        · exact some_e k1
        · exact some_e k2
      · refine LC_re (e := 2) (k := 2) (b := 0) hJ (by rw [pX7_instruction, c_thr hC, if_pos e, bndx_ok, chk_h (inB_nI (by omega) (by omega)), cl (by omega), r3, c_idxT, if_pos e2, bndx_ok, c_rng, if_neg e3, bndx_er]) rfl ?_ (by decide)
        rw [pX8_instruction, nm_def, m_thr (hD.w7 0), if_pos e, bnd_some, if_neg (show ¬ (1 : Int32) = 0 by decide), m_of (hD.w7 0) ht 1 (x := 1) rfl (by omega), bnd_some, h1, m_rng, rng_isT _ (by omega), if_pos e2, bnd_some, if_pos (show ¬ (1 : Int32) = 0 by decide), m_rng, if_neg e3, bnd_some, if_pos rfl, m_fail, bnd_some]
    · refine LC_re (e := 3) (k := 1) (b := 0) hJ (by rw [pX7_instruction, c_thr hC, if_pos e, bndx_ok, chk_h (inB_nI (by omega) (by omega)), cl (by omega), r3, c_idxT, if_neg e2, bndx_er]) rfl ?_ (by decide)
      rw [pX8_instruction, nm_def, m_thr (hD.w7 0), if_pos e, bnd_some, if_neg (show ¬ (1 : Int32) = 0 by decide), m_of (hD.w7 0) ht 1 (x := 1) rfl (by omega), bnd_some, h1, m_rng, rng_isT _ (by omega), if_neg e2, bnd_some, if_neg (not_not_intro rfl), pX8_instruction_29, m_fail, bnd_some]
  · refine LC_re (e := 3) (k := 1) (b := 0) hJ (by rw [pX7_instruction, c_thr hC, if_neg e, bndx_er]) rfl ?_ (by decide)
    rw [pX8_instruction, nm_def, m_thr (hD.w7 0), if_neg e, bnd_some, if_pos rfl, pX8_instruction_29, m_fail, bnd_some]
end READS
