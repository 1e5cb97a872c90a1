/-! ===== the text; lent, busy ===== -/
section TEXT
variable {n : Nat} {T : Nat} {A : AS} {M M1 M2 M3 M4 M5 : Mem}
theorem Rst.tx (h : Rst n M) (e1 : ∀ kd k i j, 2 ≤ k → 3 ≤ kd → kd ≤ 16 → M1.1 kd k i j = M.1 kd k i j) (e2 : ∀ kd j, kd = 18 ∨ kd = 23 ∨ kd = 24 ∨ kd = 25 ∨ kd = 26 → M1.1 kd 0 0 j = M.1 kd 0 0 j) (ht : Tx M1) (hx : Ex M1) : Rst n M1 := by
  obtain ⟨h1, h2, -⟩ := h
  refine ⟨fun i hi => ?_, fun c hc => ?_, ht, hx⟩
  · obtain ⟨s1, s2⟩ := h1 i hi
    refine ⟨by rw [e2 18 i (by omega), e2 24 i (by omega)]; exact s1, ?_⟩
    rcases s2 with s2 | ⟨s2, T, A, k1, k2, k3⟩
    · left; rw [e2 18 i (by omega)]; exact s2
    · right
      exact ⟨by rw [e2 18 i (by omega)]; exact s2, T, A, k1.mv (fun kd i' j q1 q2 => e1 _ _ _ _ (by omega) q1 q2), k2.cong (fun j _ => e2 23 _ (by omega)), k3⟩
  · rw [e2 25 c (by omega), e2 26 c (by omega)]; exact h2 c hc
def byC (x : Int32) : Int32 := (x.toInt8.toInt32).toInt8.toInt32
theorem nI_nat (x : Int32) : nI x.toBitVec.toNat = x := by
  apply Int32.toBitVec_inj.1
  show BitVec.ofNat 32 x.toBitVec.toNat = x.toBitVec
  simp
theorem by_m (x : Int32) : x &&& 255 = nI (x.toBitVec.toNat % 256) := by
  apply Int32.toBitVec_inj.1
  show x.toBitVec &&& BitVec.ofNat 32 255 = BitVec.ofNat 32 (x.toBitVec.toNat % 256)
  apply BitVec.eq_of_toNat_eq
  rw [BitVec.toNat_and]
  have h1 : (BitVec.ofNat 32 255).toNat = 2 ^ 8 - 1 := by decide
  have h2 : x.toBitVec.toNat % 256 < 256 := Nat.mod_lt _ (by omega)
  rw [h1, Nat.and_two_pow_sub_one_eq_mod, BitVec.toNat_ofNat]
  omega
theorem by_r (x : Int32) : Br (byC x) (x &&& 255) := by
  refine ⟨x.toBitVec.toNat % 256, Nat.mod_lt _ (by omega), by_m x, ?_⟩
  have hb : x.toBitVec.toNat % 256 < 256 := Nat.mod_lt _ (by omega)
  apply Int32.toInt_inj.mp
  have e1 : byC x = x.toInt8.toInt32 := by
    unfold byC
    rw [Int8.toInt8_toInt32]
  have e2 : x.toInt8.toInt32.toInt = Int.bmod x.toInt 256 := by
    rw [Int8.toInt_toInt32, Int32.toInt_toInt8]
  have e3 : x.toInt = Int.bmod (x.toBitVec.toNat : Int) 4294967296 := by
    show x.toBitVec.toInt = _
    rw [BitVec.toInt_eq_toNat_bmod]
  have e4 : (if x.toBitVec.toNat % 256 < 128 then nI (x.toBitVec.toNat % 256) else nI (x.toBitVec.toNat % 256) - 256).toInt = if x.toBitVec.toNat % 256 < 128 then ((x.toBitVec.toNat % 256 : Nat) : Int) else ((x.toBitVec.toNat % 256 : Nat) : Int) - 256 := by
    split
    · rw [nI_toInt (by omega)]
    · generalize x.toBitVec.toNat % 256 = b at *
      have t : ∀ b, b < 256 → (nI b - 256).toInt = (b : Int) - 256 := by decide +kernel
      exact t b hb
  rw [e1, e2, e3, e4]
  rw [Int.bmod_def, Int.bmod_def]
  generalize x.toBitVec.toNat = y at *
  split <;> split <;> split <;> omega
/-! the class's four bytes, the reference's -/
def shI (i : Nat) : Int32 := (24 : Int32) + nI i * (-8)
theorem shI_t : ∀ i, i < 4 → ¬ shI i < 0 ∧ shI i + (-8) = shI (i + 1) := by decide +kernel
def Pc (M : Mem) (v : Int32) (len i : Nat) (M' : Mem) : Prop := M'.1 1 0 0 1 = nI (len + i) ∧ M'.2 = M.2 ∧ (∀ kd k i' j, ¬ (kd = 1 ∧ j = 1) → ¬ (kd = 2 ∧ k = 0 ∧ i' = 0 ∧ len ≤ j) → M'.1 kd k i' j = M.1 kd k i' j) ∧ ∀ j, j < i → M'.1 2 0 0 (len + j) = byC (v >>> (shI j &&& 31))
def Pm (M : Mem) (v : Int32) (len i : Nat) (M' : Mem) : Prop := M'.1 19 0 0 9 = nI (len + i) ∧ M'.2 = M.2 ∧ (∀ kd k i' j, ¬ (kd = 19 ∧ j = 9) → ¬ (kd = 27 ∧ k = 0 ∧ i' = 0 ∧ len ≤ j) → M'.1 kd k i' j = M.1 kd k i' j) ∧ ∀ j, j < i → M'.1 27 0 0 (len + j) = (v >>> (shI j &&& 31)) &&& 255
theorem c_app {v : Int32} {len : Nat} (hl : len + 4 ≤ 800) : ∀ (m n i : Nat) (M' : Mem), i + m = 4 → m < n → Pc M v len i M' → Sat (pX5_append_3 n v (shI i) M') (fun _ M2 => Pc M v len 4 M2) := by
  intro m
  induction m with
  | zero =>
    intro n i M' hi hn h
    obtain ⟨n, rfl⟩ : ∃ n', n = n' + 1 := ⟨n - 1, by omega⟩
    have i4 : i = 4 := by omega
    subst i4
    rw [pX5_append_3, if_pos (show shI 4 < 0 by decide +kernel)]
    exact S_ret h
  | succ m ih =>
    intro n i M' hi hn h
    obtain ⟨n, rfl⟩ : ∃ n', n = n' + 1 := ⟨n - 1, by omega⟩
    obtain ⟨t1, t2⟩ := shI_t i (by omega)
    obtain ⟨h1, h2, h3, h4⟩ := h
    rw [pX5_append_3, if_neg t1, h1, if_neg (show ¬ (800 : Int32) ≤ nI (len + i) from nI_ge (b := 800) (by omega) (by omega)), chk_h (inB_nI (by omega) (by omega)), cl (by omega), t2]
    refine S_w (P := fun M2 => M2 = wI M' 2 0 0 (len + i) (byC (v >>> (shI i &&& 31)))) rfl (fun M2 h5 => ?_)
    subst h5
    rw [wI_kd (by omega), h1, nI_1]
    refine S_w (P := Pc M v len (i + 1)) ⟨wI_s, h2, fun kd k i' j q1 q2 => ?_, fun j hj => ?_⟩ (fun M2 h5 => ih n (i + 1) M2 (by omega) (by omega) h5)
    · rw [wI_e, if_neg (by omega), wI_e, if_neg (by omega)]
      exact h3 _ _ _ _ q1 q2
    · rw [wI_kd (by omega)]
      by_cases e : j = i
      · subst e; rw [wI_s]
      · rw [wI_j (by omega)]; exact h4 j (by omega)
theorem m_app {v : Int32} {len : Nat} (hl : len + 4 ≤ 800) : ∀ (m n i : Nat) (M' : Mem), i + m = 4 → m < n → Pm M v len i M' → Sat (pX8_appendText_26 n v (shI i) M') (fun o M2 => o = nI (len + 4) ∧ Pm M v len 4 M2) := by
  intro m
  induction m with
  | zero =>
    intro n i M' hi hn h
    obtain ⟨n, rfl⟩ : ∃ n', n = n' + 1 := ⟨n - 1, by omega⟩
    have i4 : i = 4 := by omega
    subst i4
    rw [pX8_appendText_26, if_pos (show shI 4 < 0 by decide +kernel), h.1]
    exact S_ret ⟨rfl, h⟩
  | succ m ih =>
    intro n i M' hi hn h
    obtain ⟨n, rfl⟩ : ∃ n', n = n' + 1 := ⟨n - 1, by omega⟩
    obtain ⟨t1, t2⟩ := shI_t i (by omega)
    obtain ⟨h1, h2, h3, h4⟩ := h
    rw [pX8_appendText_26, if_neg t1, h1, chk_h (inB_nI (by omega) (by omega)), cl (by omega), t2]
    refine S_w (P := fun M2 => M2 = wI M' 27 0 0 (len + i) ((v >>> (shI i &&& 31)) &&& 255)) rfl (fun M2 h5 => ?_)
    subst h5
    rw [wI_kd (by omega), h1, nI_1]
    refine S_w (P := Pm M v len (i + 1)) ⟨wI_s, h2, fun kd k i' j q1 q2 => ?_, fun j hj => ?_⟩ (fun M2 h5 => ih n (i + 1) M2 (by omega) (by omega) h5)
    · rw [wI_e, if_neg (by omega), wI_e, if_neg (by omega)]
      exact h3 _ _ _ _ q1 q2
    · rw [wI_kd (by omega)]
      by_cases e : j = i
      · subst e; rw [wI_s]
      · rw [wI_j (by omega)]; exact h4 j (by omega)
theorem call_appendText (hJ : J n M) (v : Int32) : LC qI (pL_appendText v M) (pX8_appendText v) n := by
  obtain ⟨T, A, hC, hD, hI, hB, hR⟩ := id hJ
  obtain ⟨len, l1, l2, l3, l4⟩ := hR.2.2.1
  obtain ⟨x1, x2⟩ := hR.2.2.2
  rw [pL_appendText]
  have a4 : nI len + (4 : Int32) = nI (len + 4) := nI_add len 4
  by_cases e : len + 4 ≤ 800
  · have el : nI (len + 4) ≤ (800 : Int32) := nI_le (b := 800) e (by omega)
    obtain ⟨_, M1, e7, hp⟩ := c_app (M := M) (v := v) e 4 fu 0 M (by omega) (by decide) ⟨by rw [l2]; rfl, rfl, fun _ _ _ _ _ _ => rfl, fun j hj => absurd hj (Nat.not_lt_zero j)⟩
    obtain ⟨p1, p2, p3, p4⟩ := hp
    have h7 : pX7_appendText v M = some (.ok (nI (len + 4)), M1) := by
      have e7' : pX5_append v M = some (_, M1) := e7
      rw [pX7_appendText, l2, a4, if_pos el, e7', bnd_some, p1]
      rfl
    refine LC_ok h7 ?_ rfl
    have hlen : (wI (wO M1 (nI (len + 4)).toInt64) 19 0 0 7 0).1 19 0 0 9 = nI len := by
      rw [wI_j (by omega)]
      exact (p3 _ _ _ _ (by omega) (by omega)).trans l3
    rw [pX8_appendText, nm_def, hlen, a4, if_pos el]
    refine S_mono (m_app (M := wI (wO M1 (nI (len + 4)).toInt64) 19 0 0 7 0) (v := v) e 4 fu 0 _ (by omega) (by decide) ⟨hlen, rfl, fun _ _ _ _ _ _ => rfl, fun j hj => absurd hj (Nat.not_lt_zero j)⟩) (fun o M4 h4 => ?_)
    obtain ⟨rfl, q1, q2, q3, q4⟩ := h4
    have fr : ∀ kd k i j, ¬ (kd = 1 ∧ j = 1) → ¬ (kd = 2 ∧ k = 0 ∧ i = 0 ∧ len ≤ j) → ¬ (kd = 19 ∧ (j = 9 ∨ j = 7)) → ¬ (kd = 27 ∧ k = 0 ∧ i = 0 ∧ len ≤ j) → M4.1 kd k i j = M.1 kd k i j := fun kd k i j z1 z2 z3 z4 => by
      rw [q3 kd k i j (by omega) z4, wI_e, if_neg (by omega)]
      exact p3 kd k i j z1 z2
    refine ⟨rfl, ?_, q2, T, A, hC.mv (fun kd i j _ _ => fr _ _ _ _ (by omega) (by omega) (by omega) (by omega)), hD.mv (fun j => fr _ _ _ _ (by omega) (by omega) (by omega) (by omega)) (fun j => fr _ _ _ _ (by omega) (by omega) (by omega) (by omega)) (fr _ _ _ _ (by omega) (by omega) (by omega) (by omega)), hI, hB, hR.tx (fun kd k i j _ _ _ => fr _ _ _ _ (by omega) (by omega) (by omega) (by omega)) (fun kd j _ => fr _ _ _ _ (by omega) (by omega) (by omega) (by omega)) ⟨len + 4, e, ?_, q1, fun i hi => ?_⟩ ⟨?_, ?_⟩⟩
    · rw [q3 _ _ _ _ (by omega) (by omega), wI_s]
    · rw [q3 _ _ _ _ (by omega) (by omega), wI_kd (by omega)]
      exact p1
    · by_cases ei : i < len
      · rw [fr 2 _ _ _ (by omega) (by omega) (by omega) (by omega), fr 27 _ _ _ (by omega) (by omega) (by omega) (by omega)]
        exact l4 i ei
      · have ej : i = len + (i - len) := by omega
        have r1 := q4 (i - len) (by omega)
        have r2 := p4 (i - len) (by omega)
        rw [← ej] at r1 r2
        rw [r1, q3 _ _ _ _ (by omega) (by omega), wI_kd (by omega)]
        show Br (M1.1 2 0 0 i) _
        rw [r2]
        exact by_r _
    · rw [fr _ _ _ _ (by omega) (by omega) (by omega) (by omega), fr _ _ _ _ (by omega) (by omega) (by omega) (by omega)]; exact x1
    · rw [fr _ _ _ _ (by omega) (by omega) (by omega) (by omega), fr _ _ _ _ (by omega) (by omega) (by omega) (by omega)]; exact x2
  · have el : ¬ nI (len + 4) ≤ (800 : Int32) := nI_ge (a := 800) (by omega) (by omega)
    refine LC_re (e := 1) (k := 1) (b := 0) hJ (by rw [pX7_appendText, l2, a4, if_neg el]) rfl ?_ (by decide)
    rw [pX8_appendText, nm_def, wI_j (by omega), l3, a4, if_neg el, m_fail, bnd_some]
theorem call_truncateText (hJ : J n M) (v : Int32) : LC qI (pL_truncateText v M) (pX8_truncateText v) n := by
  obtain ⟨T, A, hC, hD, hI, hB, hR⟩ := id hJ
  obtain ⟨len, l1, l2, l3, l4⟩ := hR.2.2.1
  obtain ⟨x1, x2⟩ := hR.2.2.2
  rw [pL_truncateText]
  by_cases e : rng v 0 (nI len) = true
  · obtain ⟨x, -, hx, rfl⟩ := rng_lo (lo := 0) (hi := len) (by omega) (by omega) rfl rfl e
    have h7 : pX7_truncateText (nI x) M = some (.ok (nI x), wI M 1 0 0 1 (nI x)) := by
      rw [pX7_truncateText, l2, c_rng, if_pos e, bndx_ok]
      rfl
    refine LC_ok h7 ?_ rfl
    have hlen : (wI (wO (wI M 1 0 0 1 (nI x)) (nI x).toInt64) 19 0 0 7 0).1 19 0 0 9 = nI len := by
      rw [wI_j (by omega)]
      show (wI M 1 0 0 1 (nI x)).1 19 0 0 9 = _
      rw [wI_kd (by omega)]
      exact l3
    rw [pX8_truncateText, nm_def, hlen, m_rng, if_pos e, bnd_some, if_pos (show ¬ (1 : Int32) = 0 by decide), nm_def, wI_s]
    refine S_ret ⟨rfl, ?_, rfl, ?_⟩
    · rw [wI_j (by omega), wI_s]
    · have fr : ∀ kd k i j, ¬ (kd = 1 ∧ j = 1) → ¬ (kd = 19 ∧ (j = 9 ∨ j = 7)) → (wI (wI (wO (wI M 1 0 0 1 (nI x)) (nI x).toInt64) 19 0 0 7 0) 19 0 0 9 (nI x)).1 kd k i j = M.1 kd k i j := fun kd k i j z1 z3 => by
        rw [wI_e, if_neg (by omega), wI_e, if_neg (by omega)]
        show (wI M 1 0 0 1 (nI x)).1 kd k i j = _
        rw [wI_e, if_neg (by omega)]
      refine ⟨T, A, hC.mv (fun kd i j _ _ => fr _ _ _ _ (by omega) (by omega)), hD.mv (fun j => fr _ _ _ _ (by omega) (by omega)) (fun j => fr _ _ _ _ (by omega) (by omega)) (fr _ _ _ _ (by omega) (by omega)), hI, hB, hR.tx (fun kd k i j _ _ _ => fr _ _ _ _ (by omega) (by omega)) (fun kd j _ => fr _ _ _ _ (by omega) (by omega)) ⟨x, by omega, ?_, wI_s, fun i hi => ?_⟩ ⟨?_, ?_⟩⟩
      · rw [wI_kd (by omega), wI_kd (by omega)]
        show (wI M 1 0 0 1 (nI x)).1 1 0 0 1 = _
        exact wI_s
      · rw [fr 2 _ _ _ (by omega) (by omega), fr 27 _ _ _ (by omega) (by omega)]
        exact l4 i (by omega)
      · rw [fr _ _ _ _ (by omega) (by omega), fr _ _ _ _ (by omega) (by omega)]; exact x1
      · rw [fr _ _ _ _ (by omega) (by omega), fr _ _ _ _ (by omega) (by omega)]; exact x2
  · refine LC_re (e := 2) (k := 1) (b := 0) hJ (by rw [pX7_truncateText, l2, c_rng, if_neg e, bndx_er]) rfl ?_ (by decide)
    rw [pX8_truncateText, nm_def, wI_j (by omega), l3, m_rng, if_neg e, bnd_some, if_neg (not_not_intro rfl), m_fail, bnd_some]
end TEXT
