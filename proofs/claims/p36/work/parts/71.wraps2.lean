/-! ===== the law's calls: settings, adding, saving; draws; sums of returns ===== -/
section WRAPS2
variable {T n d k : Nat} {A A' : AS} {M0 M M' : Mem} {ρ : Type} {Q : ρ → Mem → Prop} {Z : Nat × (Nat → Int32)}
theorem rng_o2 {x l h : Int32} (h1 : l ≤ x) (h2 : x ≤ h) : pX7_needInRange x l h M = some ((), M) := by
  rw [c_rng, if_pos]
  refine decide_eq_true ⟨?_, h2⟩
  rw [i32_lt]
  rw [i32_le] at h1
  omega
theorem ins_ok {c : Nat} {x : Int32} (hc : c < 11) (h1 : xLeast.getD c 0 ≤ x) (h2 : x ≤ xMost.getD c 0) : pX7_needInstruction (nI c) x M = some ((), M) := by
  rw [pX7_needInstruction, rng_ok (lo := 0) (hi := 10) (l := 0) (h := 11 - 1) (by omega) (by omega) (by omega) rfl (by decide), bnd_some, chk_h (inB_nI (by omega) (by omega)), chk_h (inB_nI (by omega) (by omega)), cl (by omega), rng_o2 h1 h2, bnd_some]
theorem ins_okc {c : Nat} {x : Int32} (hc : c < 11) (h1 : xLeast.getD c 0 ≤ x) (h2 : x ≤ xMost.getD c 0) : okc (nI c) x := ⟨c, hc, rfl, h1, h2⟩
/-! what is added keeps the second invariant -/
theorem in2_nw (h : In2 0 T [] A) (hI : Inv T 10 A) (hT : T < 10) (b : Nat) : In2 0 (T + 1) [] (nwA T A (nI b)) := by
  have r : ∀ a c, ¬ a = T → ¬ (a = 10 ∧ c = 2) → (nwA T A (nI b)).1 a c = A.1 a c := fun a c q1 q2 => nwA_n q1 q2
  have s : ∀ c, (nwA T A (nI b)).1 T c = nwF (nI b) c := fun c => nwA_s
  have et : (nwA T A (nI b)).1 10 3 = A.1 10 3 := r _ _ (by omega) (by omega)
  have h03 : 0 ≤ (A.1 10 3).toInt := hI.2.2.2.2.2.1.2.2
  refine ⟨fun t ht => ?_, fun t ht q l hl q2 => ?_, fun t ht => ?_, fun e q => ?_, h.2.2.2.2⟩
  · by_cases e : t = T
    · subst e
      unfold gT
      rw [s 3, s 7, s 2, s 1, s 11, s 12, s 13, s 14, s 15]
      have z3 : nwF (nI b) 3 = 0 := rfl
      rw [z3]
      exact ⟨fun _ => rfl, fun q => absurd q (by decide), fun q => absurd q (by decide), rfl⟩
    · exact gT_cong (h.1 t (by omega)) (fun c _ => r t c e (by omega))
  · by_cases e : t = T
    · subst e; rw [s 3, show nwF (nI b) 3 = 0 from rfl] at q; exact absurd q (by decide)
    · rw [r t 3 e (by omega)] at q
      rw [r 11 l (by omega) (by omega)] at q2
      exact h.2.1 t (by omega) q l hl q2
  · by_cases e : t = T
    · subst e
      unfold gR
      rw [s 9, s 10, et]
      have e9 : (nwF (nI b) 9).toInt = 0 := rfl
      have e10 : (nwF (nI b) 10).toInt = -1 := rfl
      rw [e9, e10]
      exact ⟨by omega, by omega, by omega, by omega, by omega⟩
    · exact gR_cong (h.2.2.1 t (by omega)) (Nat.le_refl _) (r t 9 e (by omega)) (r t 10 e (by omega)) et
  · obtain ⟨k, v, a1, a2, a3, a4, a5, a6, a7, a8, a9⟩ := h.2.2.2.1 e q
    exact ⟨k, v, a1, by omega, a3, a4, by rw [et]; exact a5, a6, a7, fun z => by rw [r v 3 (by omega) (by omega)]; exact a8 z, fun z => by rw [r v 3 (by omega) (by omega)]; exact a9 z⟩
theorem in2_st {t z : Nat} {c x : Int32} (h : In2 0 T [] A) (hT : T ≤ 10) (ht : t < T) (h3 : ¬ A.1 t 3 = 3) (h4 : ¬ A.1 t 3 = 4) : In2 0 T [] (stA A t z c x) := by
  have r : ∀ a b, ¬ (a = t ∧ b = 1) → a < 12 → (stA A t z c x).1 a b = A.1 a b := fun a b q1 q2 => stA_n (by omega) q1 (by omega) (by omega)
  refine h.one t (Nat.le_refl _) (fun v b hv q => r v b (by omega) (by omega)) (fun l _ => r _ _ (by omega) (by omega)) (r _ _ (by omega) (by omega)) rfl (fun _ => ?_) (fun _ => gR_cong (h.2.2.1 t ht) (Nat.le_refl _) (r _ _ (by omega) (by omega)) (r _ _ (by omega) (by omega)) (r _ _ (by omega) (by omega))) (fun q => ?_) (fun q => absurd q h3) (fun q => absurd q h4)
  · obtain ⟨a1, a2, a3, a4⟩ := h.1 t ht
    unfold gT
    rw [r t 3 (by omega) (by omega), r t 7 (by omega) (by omega), r t 11 (by omega) (by omega), r t 12 (by omega) (by omega), r t 13 (by omega) (by omega), r t 14 (by omega) (by omega), r t 15 (by omega) (by omega)]
    exact ⟨a1, fun q => absurd q h3, fun q => absurd q h4, a4⟩
  · rw [r t 3 (by omega) (by omega)] at q; exact q
theorem w_addThread (h : Ls M0 d n T A M) (hT : T < 10) {b c : Nat} {x : Int32} (b1 : 1 ≤ b) (b9 : b ≤ 9) (hc : c < 11) (x1 : xLeast.getD c 0 ≤ x) (x2 : x ≤ xMost.getD c 0) {v w : Int32} (hv : v = nI b) (hw : w = nI c) {f : Int32 → Mem → Option (ρ × Mem)} (K : ∀ M', Ls M0 d n (T + 1) (stA (nwA T A (nI b)) T 0 (nI c) x) M' → Sat (f (nI T) M') Q) : Sat (bnd (pL_addThread v w x M) f) Q := by
  subst hv; subst hw
  have hI1 := nwA_inv h.ii hT b1 b9
  have z0 : (nwA T A (nI b)).1 T 1 = nI 0 := nwA_s
  have hI2 : Inv (T + 1) 10 (stA (nwA T A (nI b)) T 0 (nI c) x) := stA_inv hI1 (Or.inr rfl) (by omega) z0 (by omega) (ins_okc hc x1 x2)
  have s3 : (nwA T A (nI b)).1 T 3 = 0 := nwA_s (c := 3)
  have h7 : Sat (pL_addThread (nI b) (nI c) x M) (fun o M' => o = nI T ∧ C true true 0 M (T + 1) (stA (nwA T A (nI b)) T 0 (nI c) x) [] M') := by
    rw [pL_addThread, pX7_addThread, rng_ok (lo := 1) (hi := 9) (l := 1) (h := 9) b1 b9 (by omega) rfl rfl, bnd_some, ins_ok hc x1 x2, bnd_some, pX3_isFull, h.cc.cnt4, if_pos (show nI T < (10 : Int32) from nI_lt (b := 10) hT (by omega)), chk_h b01_0, bnd_some, if_pos rfl]
    refine S_bnd (P := fun o M' => o = nI T ∧ C true true 0 M (T + 1) (stA (nwA T A (nI b)) T 0 (nI c) x) [] M') (S_bnd (c_newThread h.cc hT (nI b)) (fun o M1 h1 => ?_)) (fun o M2 h2 => S_ret h2)
    obtain ⟨rfl, h1⟩ := h1
    rw [chk_h (decide_eq_true ⟨rfl, hT⟩)]
    refine S_bnd (c_addStep h1 (by omega) z0 (by omega) (nI c) x) (fun _ M2 h2 => ?_)
    rw [h2.cnt4, show nI (T + 1) - (1 : Int32) = nI T from nI_sub (b := 1) (by omega)]
    exact S_ret ⟨rfl, h2⟩
  refine S_bnd h7 (fun o M' hh => ?_)
  obtain ⟨rfl, hC⟩ := hh
  refine K M' (h.to hC hI2 (in2_st (in2_nw h.i2 h.ii hT b) (by omega) (by omega) (by rw [s3]; decide) (by rw [s3]; decide)) ⟨h.bd.1, ?_⟩)
  have e : (stA (nwA T A (nI b)) T 0 (nI c) x).1 10 3 = A.1 10 3 := (stA_n (by omega) (by omega) (by omega) (by omega)).trans (nwA_n (by omega) (by omega))
  rw [e]; exact h.bd.2
theorem w_addInstruction (h : Ls M0 d n T A M) {t c z : Nat} {x : Int32} (ht : t < T) (h1 : A.1 t 1 = nI z) (hz : z < 16) (h3 : ¬ A.1 t 3 = 3) (h4 : ¬ A.1 t 3 = 4) (hc : c < 11) (x1 : xLeast.getD c 0 ≤ x) (x2 : x ≤ xMost.getD c 0) {v w : Int32} (hv : v = nI t) (hw : w = nI c) {f : Int32 → Mem → Option (ρ × Mem)} (K : ∀ M', Ls M0 d n T (stA A t z (nI c) x) M' → Sat (f (nI (z + 1)) M') Q) : Sat (bnd (pL_addInstruction v w x M) f) Q := by
  subst hv; subst hw
  have hT := h.T10
  have hI2 : Inv T 10 (stA A t z (nI c) x) := stA_inv h.ii (Or.inl rfl) ht h1 hz (ins_okc hc x1 x2)
  have r3 : M.1 5 0 t 3 = nI z := (h.cc.th ht 1 rfl).trans h1
  have n34 : ¬ (A.1 t 3 = 3 ∨ A.1 t 3 = 4) := fun q => q.elim h3 h4
  have h7 : Sat (pL_addInstruction (nI t) (nI c) x M) (fun o M' => o = nI (z + 1) ∧ C true true 0 M T (stA A t z (nI c) x) [] M') := by
    rw [pL_addInstruction, pX7_addInstruction, thr_ok h.cc ht, bnd_some, ins_ok hc x1 x2, bnd_some, chk_h (inB_nI (by omega) (by omega)), cl (by omega), r3, if_neg (show ¬ (16 : Int32) ≤ nI z from nI_ge (b := 16) hz (by omega)), c_over h.cc ht, bnd_some, if_neg n34, if_pos rfl]
    refine S_bnd (P := fun o M' => o = nI (z + 1) ∧ C true true 0 M T (stA A t z (nI c) x) [] M') (S_bnd (c_addStep h.cc ht h1 hz (nI c) x) (fun _ M2 h2 => ?_)) (fun o M2 h2 => S_ret h2)
    have r32 : M2.1 5 0 t 3 = nI (z + 1) := (h2.th ht 1 rfl).trans (by rw [stA_e (by omega), if_pos ⟨rfl, rfl⟩])
    rw [r32]
    exact S_ret ⟨rfl, h2⟩
  refine S_bnd h7 (fun o M' hh => ?_)
  obtain ⟨rfl, hC⟩ := hh
  refine K M' (h.to hC hI2 (in2_st h.i2 hT ht h3 h4) ⟨h.bd.1, ?_⟩)
  have e : (stA A t z (nI c) x).1 10 3 = A.1 10 3 := stA_n (by omega) (by omega) (by omega) (by omega)
  rw [e]; exact h.bd.2
theorem w_set (h : Ls M0 d n T A M) {b x : Nat} (hb : b < 2) (hx : x ≤ if b = 0 then 1000 else 1) {v w : Int32} (hv : v = nI b) (hw : w = nI x) {f : Int32 → Mem → Option (ρ × Mem)} (K : ∀ M', Ls M0 d n T (up A 10 b (nI x)) M' → Sat (f (A.1 10 b) M') Q) : Sat (bnd (pL_set v w M) f) Q := by
  subst hv; subst hw
  have hT := h.T10
  have e7m : pX7_settingMost (nI b) M = some ((if b = 0 then (1000 : Int32) else 1), M) := by
    have hb2 : b = 0 ∨ b = 1 := by omega
    rcases hb2 with rfl | rfl
    · rw [pX7_settingMost, if_neg (show ¬ ¬ nI 0 = 0 from not_not_intro rfl)]; rfl
    · rw [pX7_settingMost, if_pos (show ¬ nI 1 = 0 by decide)]; rfl
  have er : pX7_needInRange (nI x) 0 (if b = 0 then (1000 : Int32) else 1) M = some ((), M) := by
    have hb2 : b = 0 ∨ b = 1 := by omega
    rcases hb2 with rfl | rfl
    · exact rng_ok (lo := 0) (hi := 1000) (l := 0) (h := 1000) (by omega) hx (by omega) rfl rfl
    · exact rng_ok (lo := 0) (hi := 1) (l := 0) (h := 1) (by omega) hx (by omega) rfl rfl
  have h7 : Sat (pL_set (nI b) (nI x) M) (fun o M' => o = A.1 10 b ∧ C true true 0 M T (up A 10 b (nI x)) [] M') := by
    rw [pL_set, pX7_set, rng_ok (lo := 0) (hi := 1) (l := 0) (h := 1) (by omega) (by omega) (by omega) rfl rfl, bnd_some, e7m, bnd_some, er, bnd_some, chk_h (inB_nI (by omega) (by omega)), cl (by omega), h.cc.g01 hb, nm_def]
    exact S_bnd (P := fun o M' => o = A.1 10 b ∧ C true true 0 M T (up A 10 b (nI x)) [] M') (S_bnd (c_cs h.cc hb (nI x)) (fun _ M1 h1 => S_ret ⟨rfl, h1⟩)) (fun o M2 h2 => S_ret h2)
  refine S_bnd h7 (fun o M' hh => ?_)
  obtain ⟨rfl, hC⟩ := hh
  refine K M' (h.to hC (g_inv h.ii hb) (h.i2.up hT (by omega) (by omega) (by omega)) ⟨h.bd.1, ?_⟩)
  rw [up_b (by omega)]; exact h.bd.2
theorem w_seed (h : Ls M0 d n T A M) {x : Nat} (hx : x ≤ 1000002) {v : Int32} (hv : v = nI x) {f : Int32 → Mem → Option (ρ × Mem)} (K : ∀ M', Ls M0 d n T (up A 10 4 (nI x)) M' → Sat (f 0 M') Q) : Sat (bnd (pL_seed v M) f) Q := by
  subst hv
  have hT := h.T10
  have h1 : C true true 0 M T (up A 10 4 (nI x)) [] (wI M 3 0 0 6 (nI x)) := h.cc.putg (b := 4) rfl (by omega) (fun _ => by omega) (nI x)
  have hx2 : (nI x).toInt = x := nI_toInt (by omega)
  have e7 : pL_seed (nI x) M = some (0, wI M 3 0 0 6 (nI x)) := by
    rw [pL_seed, pX7_seed, rng_ok (lo := 0) (hi := 1000002) (l := 0) (h := 1000002) (by omega) hx (by omega) rfl rfl, bnd_some]
    rfl
  rw [e7, bnd_some]
  refine K _ (h.to h1 (x_inv h.ii (by omega) (by omega)) (h.i2.up hT (by omega) (by omega) (by omega)) ⟨h.bd.1, ?_⟩)
  rw [up_b (by omega)]; exact h.bd.2
theorem and1_1 : ((1 : Int32) &&& 1) = 1 := by decide
/-- saved: what follows stands over a memory that holds the saved state -/
theorem w_save1 (h : Ls M0 d n T A M) {v : Int32} (hv : v = nI 1) {f : Int32 → Mem → Option (ρ × Mem)} (K : ∀ M', Ls M' d n T A M' → C true true 3 M' T A [] M' → M'.1 18 0 0 1 = 1 → Sat (f 0 M') Q) : Sat (bnd (pL_save v M) f) Q := by
  subst hv
  have h7 : Sat (pL_save (nI 1) M) (fun o M' => o = 0 ∧ ∃ Mc, C true true 3 M T A [] Mc ∧ M' = wI Mc 18 0 0 1 1) := by
    rw [pL_save, pX7_save, rng_ok (lo := 0) (hi := 1) (l := 0) (h := 1) (by omega) (by omega) (by omega) rfl rfl, bnd_some, chk_h (inB_nI (by omega) (by omega)), cl (by omega)]
    refine S_bnd (P := fun _ M' => ∃ Mc, C true true 3 M T A [] Mc ∧ M' = wI Mc 18 0 0 1 1) (S_bnd (c_copy (k := 3) (k1 := 0) (by omega) h.cc h.ii) (fun _ M1 h1 => ?_)) (fun o M2 h2 => S_ret ⟨rfl, h2⟩)
    rw [chk_h (inB_nI (by omega) (by omega)), and1_1]
    exact S_ret ⟨M1, h1, rfl⟩
  refine S_bnd h7 (fun o M' hh => ?_)
  obtain ⟨rfl, Mc, hc, rfl⟩ := hh
  have hF := hc.fkk
  have r : ∀ kd k i j, ¬ kd = 18 → (wI Mc 18 0 0 1 1).1 kd k i j = Mc.1 kd k i j := fun kd k i j q => wI_kd q
  refine K _ ⟨⟨((h.cc.fk (k' := 3) (by omega) hF).mv (fun kd i j a b => r _ _ _ _ (by omega))), h.ii, h.i2, h.bd⟩, Kp.refl _, ?_, ?_⟩ ((hc.re).mv (fun kd i j a b => r _ _ _ _ (by omega))) wI_s
  · rw [r _ _ _ _ (by omega), hF.2 _ _ _ _ (by omega)]; exact h.2.2.1
  · rw [r _ _ _ _ (by omega), hF.2 _ _ _ _ (by omega)]; exact h.2.2.2
theorem w_restore1 (h : Ls M0 d n T A M) {n' T' : Nat} (hs : C true true 3 M0 T' A' [] M0) (h18 : M0.1 18 0 0 1 = 1) (hI : Inv T' 10 A') (h2 : In2 0 T' [] A') (hB : Bd n' A') {v : Int32} (hv : v = nI 1) {f : Int32 → Mem → Option (ρ × Mem)} (K : ∀ M', Ls M0 d n' T' A' M' → Sat (f 0 M') Q) : Sat (bnd (pL_restore v M) f) Q := by
  subst hv
  have s1 : M.1 18 0 0 1 = 1 := (h.2.1.2 _ _ _ _ (by omega) (by omega)).trans h18
  have k1 : C true true 3 M T' A' [] M := hs.mv (fun kd i j a b => h.2.1.2 _ _ _ _ (by omega) (by omega))
  have h7 : Sat (pL_restore (nI 1) M) (fun o M' => o = 0 ∧ C true true 0 M T' A' [] M') := by
    rw [pL_restore, pX7_restore, rng_ok (lo := 0) (hi := 1) (l := 0) (h := 1) (by omega) (by omega) (by omega) rfl rfl, bnd_some, chk_h (inB_nI (by omega) (by omega)), cl (by omega), s1, if_pos (show ¬ (1 : Int32) = 0 by decide), chk_h (inB_nI (by omega) (by omega))]
    exact S_bnd (P := fun _ M' => C true true 0 M T' A' [] M') (S_bnd (c_copy (k := 0) (k1 := 3) (by omega) k1 hI) (fun _ M1 h1 => S_ret h1)) (fun o M2 h2 => S_ret ⟨rfl, h2⟩)
  refine S_bnd h7 (fun o M' hh => ?_)
  obtain ⟨rfl, hC⟩ := hh
  exact K M' (h.to hC hI h2 hB)
/-! draws -/
theorem and_nn (x : Int32) : ∃ z, z < 2147483648 ∧ x &&& (2147483647 : Int32) = nI z := by
  refine nI_of (x := x &&& (2147483647 : Int32)) ?_
  rw [i32_lt, i32_0]
  have h1 : (x &&& (2147483647 : Int32)).toInt = (x.toBitVec &&& (2147483647 : Int32).toBitVec).toInt := by
    rw [← Int32.toBitVec_and]; rfl
  rw [h1, BitVec.toInt_eq_msb_cond, BitVec.msb_and]
  have h2 : (2147483647 : Int32).toBitVec.msb = false := by decide
  rw [h2, Bool.and_false, if_neg Bool.false_ne_true]
  omega
theorem at_some (v s : Int32) (M : Mem) : ∃ o, pL_at_13 Z v s M = some (o, M) := by
  rw [pL_at_13]
  split
  · exact ⟨_, rfl⟩
  · split
    · exact ⟨_, rfl⟩
    · exact ⟨_, rfl⟩
theorem w_draw (h : Ls M0 d n T A M) (hZ : Z.1 ≤ 260) (hd : d < 1000000) {m : Nat} (hm : 1 ≤ m) (hm2 : m < 2147483648) {v : Int32} (hv : v = nI m) {f : Int32 → Mem → Option (ρ × Mem)} (K : ∀ x M', x < m → Ls M0 (d + 1) n T A M' → Sat (f (nI x) M') Q) : Sat (bnd (pL_draw Z v M) f) Q := by
  subst hv
  have hmx : (if (1 : Int32) < (Int32.ofNat Z.1) then (Int32.ofNat Z.1) else (1 : Int32)) = nI (max Z.1 1) := by
    by_cases e : 1 < Z.1
    · rw [if_pos (show (1 : Int32) < Int32.ofNat Z.1 from nI_lt (a := 1) e (by omega)), Nat.max_eq_left (by omega)]
      rfl
    · rw [if_neg (show ¬ (1 : Int32) < Int32.ofNat Z.1 from fun q => by
        have q : (1 : Int32) < nI Z.1 := q
        rw [i32_lt, nI_toInt (by omega)] at q
        have : (1 : Int32).toInt = 1 := by decide
        omega), Nat.max_eq_right (by omega)]
      rfl
  have hpos : 1 ≤ max Z.1 1 := Nat.le_max_right _ _
  have hle : max Z.1 1 ≤ 260 := Nat.max_le.mpr ⟨hZ, by omega⟩
  have hmx0 : ¬ nI (max Z.1 1) = 0 := fun q => by have := nI_inj (b := 0) (by omega) (by omega) q; omega
  have hrem : nI d - nI d / nI (max Z.1 1) * nI (max Z.1 1) = nI (d % max Z.1 1) := nI_mod (by omega) (by omega)
  have hat : ∃ o, pL_at Z (nI (d % max Z.1 1)) M = some (o, M) := by
    have hr : d % max Z.1 1 < max Z.1 1 := Nat.mod_lt _ (by omega)
    rw [pL_at]
    by_cases e : Z.1 ≤ d % max Z.1 1
    · rw [if_pos (show Int32.ofNat Z.1 ≤ nI (d % max Z.1 1) from nI_le e (by omega))]
      exact at_some _ _ _
    · rw [if_neg (show ¬ Int32.ofNat Z.1 ≤ nI (d % max Z.1 1) from nI_ge (by omega) (by omega)), chk_h (inB_nI (by omega) (by omega))]
      exact at_some _ _ _
  obtain ⟨o, ho⟩ := hat
  have hm0 : ¬ nI m = 0 := fun q => by have := nI_inj (b := 0) hm2 (by omega) q; omega
  rw [pL_draw, chk_h (decide_eq_true h.2.2.2), chk_h (decide_eq_true h.2.2.2), hmx, chk_h (decide_eq_true hmx0), h.2.2.1, hrem, ho, bnd_some]
  simp only [nm_def]
  rw [h.2.2.1]
  generalize (o + nI d * (668265263 : Int32)) = x4
  generalize hx8 : ((x4 ^^^ ((x4.toUInt32 >>> ((15 : Int32).toUInt32 &&& Int32.toUInt32 31)).toInt32)) * (739982445 : Int32)) = x7
  generalize (x7 ^^^ ((x7.toUInt32 >>> ((13 : Int32).toUInt32 &&& Int32.toUInt32 31)).toInt32)) = x8
  obtain ⟨z, hz, ez⟩ := and_nn x8
  rw [chk_h (decide_eq_true hm0), ez, nI_mod (by omega) (by omega), bnd_some]
  have hd1 : nI d + (1 : Int32) = nI (d + 1) := nI_1 d
  rw [hd1]
  refine K _ _ (Nat.mod_lt _ (by omega)) ⟨⟨h.cc.mv (fun kd i j a b => wI_kd (by omega)), h.ii, h.i2, h.bd⟩, ⟨h.2.1.1, fun kd k i j a b => ?_⟩, wI_s, ?_⟩
  · rw [wI_e, if_neg (by omega)]
    exact h.2.1.2 _ _ _ _ a b
  · rw [wI_j (by omega)]; exact h.2.2.2
/-! sums of returns -/
theorem w_mine (h : Ls M0 d n T A M) {t : Nat} (ht : t < T) {v : Int32} (hv : v = nI t) {f : Int32 → Mem → Option (ρ × Mem)} (K : ∀ M', Ls M0 d n T A M' → Sat (f (rsm A t) M') Q) : Sat (bnd (pL_mine v M) f) Q := by
  have h7 : Sat (pL_mine v M) (fun o M' => o = rsm A t ∧ Ls M0 d n T A M') := by
    rw [pL_mine]
    refine w_thread h ht (c := 13) (by omega) hv rfl (fun M1 h1 => ?_)
    refine w_thread h1 ht (c := 14) (by omega) hv rfl (fun M2 h2 => ?_)
    refine w_thread h2 ht (c := 15) (by omega) hv rfl (fun M3 h3 => ?_)
    refine w_thread h3 ht (c := 16) (by omega) hv rfl (fun M4 h4 => ?_)
    exact S_ret ⟨rfl, h4⟩
  refine S_bnd h7 (fun o M' hh => ?_)
  obtain ⟨rfl, h'⟩ := hh
  exact K M' h'
theorem rets4 : ∀ (m k i : Nat) (v : Int32) (M : Mem), i + m = T → m < k → Ls M0 d n T A M → Sat (pL_returns_4 k v (nI i) M) (fun o M' => o = arF A m i v ∧ Ls M0 d n T A M') := by
  intro m
  induction m with
  | zero =>
    intro k i v M hi hk h
    obtain ⟨k, rfl⟩ : ∃ k', k = k' + 1 := ⟨k - 1, by omega⟩
    have hT := h.T10
    rw [pL_returns_4]
    refine w_count h (c := 2) (by omega) rfl ?_
    rw [show cnV T A 2 = nI T from h.ii.1.2, if_pos (nI_le (by omega) (by omega))]
    exact S_ret ⟨rfl, h⟩
  | succ m ih =>
    intro k i v M hi hk h
    obtain ⟨k, rfl⟩ : ∃ k', k = k' + 1 := ⟨k - 1, by omega⟩
    have hT := h.T10
    rw [pL_returns_4]
    refine w_count h (c := 2) (by omega) rfl ?_
    rw [show cnV T A 2 = nI T from h.ii.1.2, if_neg (nI_ge (by omega) (by omega))]
    refine w_mine h (t := i) (by omega) rfl (fun M1 h1 => ?_)
    rw [nm_def, nI_1, arF]
    exact ih k (i + 1) _ M1 (by omega) (by omega) h1
theorem w_returns (h : Ls M0 d n T A M) {f : Int32 → Mem → Option (ρ × Mem)} (K : ∀ M', Ls M0 d n T A M' → Sat (f (arF A T 0 0) M') Q) : Sat (bnd (pL_returns M) f) Q := by
  have hT := h.T10
  refine S_bnd (rets4 T fu 0 0 M (by omega) (by show _ < 4096; omega) h) (fun o M' hh => ?_)
  obtain ⟨rfl, h'⟩ := hh
  exact K M' h'
end WRAPS2
