/-! ===== the law's loop out of its calls ===== -/
section LAWL
variable {n : Nat} {M M1 M2 M3 M4 M5 : Mem}
theorem bndc_ok {σ ρ : Type} (o : σ) (M : Mem) (f : σ → Mem → Option (ρ × Mem)) (g : Nat → Mem → Option (ρ × Mem)) : bndc (some (.ok o, M)) f g = f o M := rfl
theorem lg_self (a : Int64) : lg_cmp a a = 0 := by
  unfold lg_cmp
  rw [if_neg (by
    show ¬ a < a
    rw [Int64.lt_iff_toInt_lt]
    omega), if_pos rfl]
theorem tailI {K : Mem → Option (Int32 × Mem)} {k b : Int32} (h3 : M2.1 19 0 0 7 = k) (h4 : k = 0 → qI b M2.2.2.1) : (bnd (pX8_thrown M2) fun o8 M7 => if o8 = k then (if ¬ k = 0 then (K M7) else chk (inB (0 : Int32) 1) <| if (lg_cmp M7.2.2.1 b.toInt64) = 0 then (K M7) else some ((0 : Int32), M7)) else some ((0 : Int32), M7)) = K M2 := by
  rw [pX8_thrown, bnd_some, if_pos h3]
  by_cases e : k = 0
  · have h5 : M2.2.2.1 = b.toInt64 := h4 e
    rw [if_neg (not_not_intro e), chk_h (by decide), h5, lg_self, if_pos rfl]
  · rw [if_pos e]
theorem tailU {K : Mem → Option (Int32 × Mem)} {k : Int32} (h3 : M2.1 19 0 0 7 = k) : (bnd (pX8_thrown M2) fun o8 M7 => if o8 = k then (K M7) else some ((0 : Int32), M7)) = K M2 := by
  rw [pX8_thrown, bnd_some, if_pos h3]
theorem tailB {K : Mem → Option (Int32 × Mem)} {k b : Int32} (h3 : M2.1 19 0 0 7 = k) (h4 : k = 0 → qB b M2.2.2.1) : (bnd (pX8_thrown M2) fun o8 M7 => if o8 = k then (if ¬ k = 0 then (K M7) else chk (inB (0 : Int32) 1) <| if b = 0 then (if (lg_cmp M7.2.2.1 (0 : Int64)) = 0 then K M7 else some ((0 : Int32), M7)) else (if (lg_cmp M7.2.2.1 (1 : Int64)) = 0 then K M7 else some ((0 : Int32), M7))) else some ((0 : Int32), M7)) = K M2 := by
  rw [pX8_thrown, bnd_some, if_pos h3]
  by_cases e : k = 0
  · rw [if_neg (not_not_intro e), chk_h (by decide)]
    rcases h4 e with ⟨q1, q2⟩ | ⟨q1, q2⟩
    · rw [q1, q2, if_pos rfl, lg_self, if_pos rfl]
    · rw [q1, q2, if_neg (show ¬ (1 : Int32) = 0 by decide), lg_self, if_pos rfl]
  · rw [if_pos e]
theorem law_step {N : Nat} {xs : Nat → Int32} (hN : N ≤ 2048) (hLoad : ∀ (n : Nat) (M : Mem), J n M → n ≤ 260000 → LC2 (pX7_load M) pX8_load n) {i f : Nat} (hJ : J n M) (hn : n ≤ 125 * i) (hi : i + 4 ≤ N) : ∃ n' M', J n' M' ∧ n' ≤ 125 * (i + 4) ∧ pL_law N xs (f + 1) (nI i) M = pL_law N xs f (nI (i + 4)) M' := by
  have hn2 : n ≤ 260000 := by omega
  have c4 : (Int32.ofNat N) - (4 : Int32) = nI (N - 4) := nI_sub (a := N) (b := 4) (by omega)
  have b0 : inB (nI i) N = true := inB_nI (by omega) (by omega)
  have b1 : inB (nI i + (1 : Int32)) N = true := by rw [nI_1]; exact inB_nI (by omega) (by omega)
  have b2 : inB (nI i + (2 : Int32)) N = true := by rw [nI_a2]; exact inB_nI (by omega) (by omega)
  have b3 : inB (nI i + (3 : Int32)) N = true := by rw [nI_a3]; exact inB_nI (by omega) (by omega)
  have a4 : nI i + (4 : Int32) = nI (i + 4) := nI_add i 4
  rw [pL_law, c4, if_neg (nI_nlt (by omega) (by omega)), chk_h b0, nm_def, a4]
  generalize xs (nI i).toNatClampNeg &&& (63 : Int32) = x
  generalize e1 : xs (nI i + (1 : Int32)).toNatClampNeg = y1
  generalize e2 : xs (nI i + (2 : Int32)).toNatClampNeg = y2
  generalize e3 : xs (nI i + (3 : Int32)).toNatClampNeg = y3
  by_cases c0 : x = (0 : Int32)
  · obtain ⟨M1, k, b, M2, q1, q2, q3, q4, q5⟩ := call_appendText hJ y1
    rw [if_pos c0, chk_h b1, q1, bndc_ok, chk_h b1, q2, bnd_some]
    exact ⟨n, M2, q5, by omega, tailI (K := fun M => pL_law N xs f (nI (i + 4)) M) q3 q4⟩
  rw [if_neg c0]
  by_cases c1 : x = (1 : Int32)
  · obtain ⟨M1, k, b, M2, q1, q2, q3, q4, q5⟩ := call_truncateText hJ y1
    rw [if_pos c1, chk_h b1, q1, bndc_ok, chk_h b1, q2, bnd_some]
    exact ⟨n, M2, q5, by omega, tailI (K := fun M => pL_law N xs f (nI (i + 4)) M) q3 q4⟩
  rw [if_neg c1]
  by_cases c2 : x = (2 : Int32)
  · obtain ⟨o, M1, M2, q1, q2, q5⟩ := hLoad n M hJ hn2
    rw [if_pos c2, q1, bnd_some, q2, bnd_some, if_pos rfl]
    exact ⟨n, M2, q5, by omega, rfl⟩
  rw [if_neg c2]
  by_cases c3 : x = (3 : Int32)
  · obtain ⟨o, M1, M2, q1, q2, q5⟩ := call_errorCode hJ
    rw [if_pos c3, q1, bnd_some, q2, bnd_some, if_pos rfl]
    exact ⟨n, M2, q5, by omega, rfl⟩
  rw [if_neg c3]
  by_cases c4 : x = (4 : Int32)
  · obtain ⟨o, M1, M2, q1, q2, q5⟩ := call_errorPosition hJ
    rw [if_pos c4, q1, bnd_some, q2, bnd_some, if_pos rfl]
    exact ⟨n, M2, q5, by omega, rfl⟩
  rw [if_neg c4]
  by_cases c5 : x = (5 : Int32)
  · obtain ⟨M1, k, b, M2, q1, q2, q3, q4, q5⟩ := call_addThread hJ y1 y2 y3
    rw [if_pos c5, chk_h b1, chk_h b2, chk_h b3, q1, bndc_ok, chk_h b1, chk_h b2, chk_h b3, q2, bnd_some]
    exact ⟨n, M2, q5, by omega, tailI (K := fun M => pL_law N xs f (nI (i + 4)) M) q3 q4⟩
  rw [if_neg c5]
  by_cases c6 : x = (6 : Int32)
  · obtain ⟨M1, k, b, M2, q1, q2, q3, q4, q5⟩ := call_addInstruction hJ y1 y2 y3
    rw [if_pos c6, chk_h b1, chk_h b2, chk_h b3, q1, bndc_ok, chk_h b1, chk_h b2, chk_h b3, q2, bnd_some]
    exact ⟨n, M2, q5, by omega, tailI (K := fun M => pL_law N xs f (nI (i + 4)) M) q3 q4⟩
  rw [if_neg c6]
  by_cases c7 : x = (7 : Int32)
  · obtain ⟨M1, k, b, M2, q1, q2, q3, q4, q5⟩ := call_setBase hJ y1 y2
    rw [if_pos c7, chk_h b1, chk_h b2, q1, bndc_ok, chk_h b1, chk_h b2, q2, bnd_some]
    exact ⟨n, M2, q5, by omega, tailI (K := fun M => pL_law N xs f (nI (i + 4)) M) q3 q4⟩
  rw [if_neg c7]
  by_cases c8 : x = (8 : Int32)
  · obtain ⟨M1, k, b, M2, q1, q2, q3, q4, q5⟩ := call_set hJ y1 y2
    rw [if_pos c8, chk_h b1, chk_h b2, q1, bndc_ok, chk_h b1, chk_h b2, q2, bnd_some]
    exact ⟨n, M2, q5, by omega, tailI (K := fun M => pL_law N xs f (nI (i + 4)) M) q3 q4⟩
  rw [if_neg c8]
  by_cases c9 : x = (9 : Int32)
  · obtain ⟨M1, k, b, M2, q1, q2, q3, q4, q5⟩ := call_seed hJ y1
    rw [if_pos c9, chk_h b1, q1, bndc_ok, chk_h b1, q2, bnd_some]
    exact ⟨n, M2, q5, by omega, tailU (K := fun M => pL_law N xs f (nI (i + 4)) M) q3⟩
  rw [if_neg c9]
  by_cases c10 : x = (10 : Int32)
  · rw [if_pos c10, chk_h b1, chk_h b2]
    have fl : ∀ (v : Bool), (y2 = 0 ↔ v = false) → ∃ n' M', J n' M' ∧ n' ≤ 125 * (i + 4) ∧ pL_law_696 N xs (fun v5 M => pL_law N xs f v5 M) (nI i) (if v = true then 1 else 0) y1 M = pL_law N xs f (nI (i + 4)) M' := fun v hv => by
      obtain ⟨M1, k, b, M2, q1, q2, q3, q4, q5⟩ := call_setFlag hJ y1 v
      refine ⟨n, M2, q5, by omega, ?_⟩
      rw [pL_law_696, q1, bndc_ok, chk_h b1, chk_h b2, e1, e2]
      have go : ∀ s0 : Int32, s0 = (if v = true then 1 else 0) → pL_law_723 N xs (fun v5 M => pL_law N xs f v5 M) (nI i) k s0 y1 M1 = pL_law N xs f (nI (i + 4)) M2 := fun s0 hs => by
        rw [pL_law_723, hs, q2, bnd_some]
        simp only [pL_law_757, a4]
        exact tailB (K := fun M => pL_law N xs f (nI (i + 4)) M) q3 q4
      by_cases ey : y2 = 0
      · rw [if_pos ey]; exact go 0 (by rw [hv.mp ey]; rfl)
      · rw [if_neg ey]; exact go 1 (by cases v; exact absurd (hv.mpr rfl) ey; rfl)
    by_cases ey : y2 = 0
    · rw [if_pos ey]; exact fl false ⟨fun _ => rfl, fun _ => ey⟩
    · rw [if_neg ey]; exact fl true ⟨fun q => absurd q ey, fun q => nomatch q⟩
  rw [if_neg c10]
  by_cases c11 : x = (11 : Int32)
  · obtain ⟨M1, k, b, M2, q1, q2, q3, q4, q5⟩ := call_count hJ y1
    rw [if_pos c11, chk_h b1, q1, bndc_ok, chk_h b1, q2, bnd_some]
    exact ⟨n, M2, q5, by omega, tailI (K := fun M => pL_law N xs f (nI (i + 4)) M) q3 q4⟩
  rw [if_neg c11]
  by_cases c12 : x = (12 : Int32)
  · obtain ⟨M1, k, b, M2, q1, q2, q3, q4, q5⟩ := call_thread hJ y1 y2
    rw [if_pos c12, chk_h b1, chk_h b2, q1, bndc_ok, chk_h b1, chk_h b2, q2, bnd_some]
    exact ⟨n, M2, q5, by omega, tailI (K := fun M => pL_law N xs f (nI (i + 4)) M) q3 q4⟩
  rw [if_neg c12]
  by_cases c13 : x = (13 : Int32)
  · obtain ⟨M1, k, b, M2, q1, q2, q3, q4, q5⟩ := call_instruction hJ y1 y2 y3
    rw [if_pos c13, chk_h b1, chk_h b2, chk_h b3, q1, bndc_ok, chk_h b1, chk_h b2, chk_h b3, q2, bnd_some]
    exact ⟨n, M2, q5, by omega, tailI (K := fun M => pL_law N xs f (nI (i + 4)) M) q3 q4⟩
  rw [if_neg c13]
  by_cases c14 : x = (14 : Int32)
  · obtain ⟨M1, k, b, M2, q1, q2, q3, q4, q5⟩ := call_lock hJ y1 y2
    rw [if_pos c14, chk_h b1, chk_h b2, q1, bndc_ok, chk_h b1, chk_h b2, q2, bnd_some]
    exact ⟨n, M2, q5, by omega, tailI (K := fun M => pL_law N xs f (nI (i + 4)) M) q3 q4⟩
  rw [if_neg c14]
  by_cases c15 : x = (15 : Int32)
  · obtain ⟨M1, k, b, M2, q1, q2, q3, q4, q5⟩ := call_flag hJ y1
    rw [if_pos c15, chk_h b1, q1, bndc_ok, chk_h b1, q2, bnd_some]
    refine ⟨n, M2, q5, by omega, ?_⟩
    simp only [pL_law_1092, a4]
    exact tailB (K := fun M => pL_law N xs f (nI (i + 4)) M) q3 q4
  rw [if_neg c15]
  by_cases c16 : x = (16 : Int32)
  · obtain ⟨M1, k, b, M2, q1, q2, q3, q4, q5⟩ := call_event hJ y1 y2
    rw [if_pos c16, chk_h b1, chk_h b2, q1, bndc_ok, chk_h b1, chk_h b2, q2, bnd_some]
    exact ⟨n, M2, q5, by omega, tailI (K := fun M => pL_law N xs f (nI (i + 4)) M) q3 q4⟩
  rw [if_neg c16]
  by_cases c17 : x = (17 : Int32)
  · obtain ⟨M1, k, b, M2, q1, q2, q3, q4, q5⟩ := call_events hJ y1 y2
    rw [if_pos c17, chk_h b1, chk_h b2, q1, bndc_ok, chk_h b1, chk_h b2, q2, bnd_some]
    exact ⟨n, M2, q5, by omega, tailI (K := fun M => pL_law N xs f (nI (i + 4)) M) q3 q4⟩
  rw [if_neg c17]
  by_cases c18 : x = (18 : Int32)
  · obtain ⟨M1, k, b, M2, q1, q2, q3, q4, q5⟩ := call_wake hJ hn2 y1
    rw [if_pos c18, chk_h b1, q1, bndc_ok, chk_h b1, q2, bnd_some]
    exact ⟨(n + 1), M2, q5, by omega, tailI (K := fun M => pL_law N xs f (nI (i + 4)) M) q3 q4⟩
  rw [if_neg c18]
  by_cases c19 : x = (19 : Int32)
  · obtain ⟨M1, k, b, M2, q1, q2, q3, q4, q5⟩ := call_interrupt hJ hn2 y1
    rw [if_pos c19, chk_h b1, q1, bndc_ok, chk_h b1, q2, bnd_some]
    exact ⟨(n + 1), M2, q5, by omega, tailI (K := fun M => pL_law N xs f (nI (i + 4)) M) q3 q4⟩
  rw [if_neg c19]
  by_cases c20 : x = (20 : Int32)
  · obtain ⟨M1, k, b, M2, q1, q2, q3, q4, q5⟩ := call_rouse hJ hn2 y1
    rw [if_pos c20, chk_h b1, q1, bndc_ok, chk_h b1, q2, bnd_some]
    refine ⟨(n + 1), M2, q5, by omega, ?_⟩
    simp only [pL_law_1403, a4]
    exact tailB (K := fun M => pL_law N xs f (nI (i + 4)) M) q3 q4
  rw [if_neg c20]
  by_cases c21 : x = (21 : Int32)
  · obtain ⟨M1, k, b, M2, q1, q2, q3, q4, q5⟩ := call_run hJ hn2 y1
    rw [if_pos c21, chk_h b1, q1, bndc_ok, chk_h b1, q2, bnd_some]
    exact ⟨(n + 500), M2, q5, by omega, tailI (K := fun M => pL_law N xs f (nI (i + 4)) M) q3 q4⟩
  rw [if_neg c21]
  by_cases c22 : x = (22 : Int32)
  · obtain ⟨o, M1, M2, q1, q2, q5⟩ := call_next hJ hn2
    rw [if_pos c22, q1, bnd_some, q2, bnd_some, if_pos rfl]
    exact ⟨n, M2, q5, by omega, rfl⟩
  rw [if_neg c22]
  by_cases c23 : x = (23 : Int32)
  · obtain ⟨M1, k, b, M2, q1, q2, q3, q4, q5⟩ := call_chain hJ y1 y2
    rw [if_pos c23, chk_h b1, chk_h b2, q1, bndc_ok, chk_h b1, chk_h b2, q2, bnd_some]
    exact ⟨n, M2, q5, by omega, tailI (K := fun M => pL_law N xs f (nI (i + 4)) M) q3 q4⟩
  rw [if_neg c23]
  by_cases c24 : x = (24 : Int32)
  · obtain ⟨o, M1, M2, q1, q2, q5⟩ := call_stuck hJ
    rw [if_pos c24, q1, bnd_some, q2, bnd_some, if_pos rfl]
    exact ⟨n, M2, q5, by omega, rfl⟩
  rw [if_neg c24]
  by_cases c25 : x = (25 : Int32)
  · obtain ⟨M1, k, b, M2, q1, q2, q3, q4, q5⟩ := call_lent hJ y1
    rw [if_pos c25, chk_h b1, q1, bndc_ok, chk_h b1, q2, bnd_some, pX8_thrown, bnd_some, if_pos q3]
    refine ⟨n, M2, q5, by omega, ?_⟩
    by_cases ek : k = 0
    · obtain ⟨r1, r2, r3⟩ := q4 ek
      rw [if_neg (not_not_intro ek), chk_h (by decide), chk_h (decide_eq_true r2), r1, r3, if_pos rfl]
    · rw [if_pos ek]
  rw [if_neg c25]
  by_cases c26 : x = (26 : Int32)
  · obtain ⟨o, M1, M2, q1, q2, r1, q5⟩ := call_busy hJ
    rw [if_pos c26, q1, bnd_some, q2, bnd_some, r1, if_pos rfl]
    exact ⟨n, M2, q5, by omega, rfl⟩
  rw [if_neg c26]
  by_cases c27 : x = (27 : Int32)
  · obtain ⟨M1, k, b, M2, q1, q2, q3, q4, q5⟩ := call_doneIn hJ hn2 y1 y2
    rw [if_pos c27, chk_h b1, chk_h b2, q1, bndc_ok, chk_h b1, chk_h b2, q2, bnd_some]
    exact ⟨n, M2, q5, by omega, tailI (K := fun M => pL_law N xs f (nI (i + 4)) M) q3 q4⟩
  rw [if_neg c27]
  by_cases c28 : x = (28 : Int32)
  · obtain ⟨M1, k, b, M2, q1, q2, q3, q4, q5⟩ := call_returnsIn hJ hn2 y1 y2
    rw [if_pos c28, chk_h b1, chk_h b2, q1, bndc_ok, chk_h b1, chk_h b2, q2, bnd_some]
    exact ⟨n, M2, q5, by omega, tailI (K := fun M => pL_law N xs f (nI (i + 4)) M) q3 q4⟩
  rw [if_neg c28]
  by_cases c29 : x = (29 : Int32)
  · obtain ⟨M1, k, b, M2, q1, q2, q3, q4, q5⟩ := call_ahead hJ hn2 y1 y2
    rw [if_pos c29, chk_h b1, chk_h b2, q1, bndc_ok, chk_h b1, chk_h b2, q2, bnd_some]
    exact ⟨n, M2, q5, by omega, tailI (K := fun M => pL_law N xs f (nI (i + 4)) M) q3 q4⟩
  rw [if_neg c29]
  by_cases c30 : x = (30 : Int32)
  · obtain ⟨M1, k, b, M2, q1, q2, q3, q4, q5⟩ := call_bestBase hJ hn2 y1 y2
    rw [if_pos c30, chk_h b1, chk_h b2, q1, bndc_ok, chk_h b1, chk_h b2, q2, bnd_some]
    exact ⟨n, M2, q5, by omega, tailI (K := fun M => pL_law N xs f (nI (i + 4)) M) q3 q4⟩
  rw [if_neg c30]
  by_cases c31 : x = (31 : Int32)
  · obtain ⟨M1, k, b, M2, q1, q2, q3, q4, q5⟩ := call_save hJ y1
    rw [if_pos c31, chk_h b1, q1, bndc_ok, chk_h b1, q2, bnd_some]
    exact ⟨n, M2, q5, by omega, tailU (K := fun M => pL_law N xs f (nI (i + 4)) M) q3⟩
  rw [if_neg c31]
  by_cases c32 : x = (32 : Int32)
  · obtain ⟨M1, k, b, M2, q1, q2, q3, q4, q5⟩ := call_restore hJ y1
    rw [if_pos c32, chk_h b1, q1, bndc_ok, chk_h b1, q2, bnd_some]
    exact ⟨n, M2, q5, by omega, tailU (K := fun M => pL_law N xs f (nI (i + 4)) M) q3⟩
  rw [if_neg c32]
  exact ⟨n, M, hJ, by omega, rfl⟩
theorem law_loop {N : Nat} {xs : Nat → Int32} (hN : N ≤ 2048) (hLoad : ∀ (n : Nat) (M : Mem), J n M → n ≤ 260000 → LC2 (pX7_load M) pX8_load n) : ∀ (f i n : Nat) (M : Mem), J n M → n ≤ 125 * i → i ≤ N → N < i + 4 * f → ∃ M', pL_law N xs f (nI i) M = some (1, M') := by
  intro f
  induction f with
  | zero => intro i n M _ _ h1 h2; omega
  | succ f ih =>
    intro i n M hJ hn h1 h2
    by_cases e : i + 4 ≤ N
    · obtain ⟨n', M', k1, k2, k3⟩ := law_step (xs := xs) (f := f) hN hLoad hJ hn e
      rw [k3]
      exact ih (i + 4) n' M' k1 k2 e (by omega)
    · refine ⟨M, ?_⟩
      have hlt : (Int32.ofNat N) - (4 : Int32) < nI i := by
        show nI N - nI 4 < nI i
        by_cases e4 : 4 ≤ N
        · rw [nI_sub e4]
          exact nI_lt (by omega) (by omega)
        · have t : ∀ N, N < 4 → (nI N - nI 4).toInt < 0 := by decide +kernel
          have := t N (by omega)
          rw [i32_lt, nI_toInt (n := i) (by omega)]
          omega
      rw [pL_law, if_pos hlt]
end LAWL
