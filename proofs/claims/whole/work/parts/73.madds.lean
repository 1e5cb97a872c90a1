/-! ===== the reference: threads and instructions added; the two calls ===== -/
section MADDS
variable {n : Nat} {T : Nat} {A : AS} {M M1 M2 M3 M4 M5 : Mem}
theorem m_putr {t f : Nat} {x v : Int32} (hx : nI f = x) (ht : t < 10) (hf : f < 20) : pX8_put (nI t) x v M = some ((), wI M 20 0 0 (20 + 20 * t + f) v) := by
  rw [pX8_put, m_ad hx, chk_h (inB_nI (by omega) (by omega)), cl (by omega)]
  rfl
def Na (M : Mem) (T i : Nat) (M' : Mem) : Prop := M'.2 = M.2 ∧ (∀ kd k i' j, ¬ (kd = 20 ∧ k = 0 ∧ i' = 0 ∧ 20 + 20 * T ≤ j ∧ j < 40 + 20 * T) → M'.1 kd k i' j = M.1 kd k i' j) ∧ ∀ f, f < i → M'.1 20 0 0 (20 + 20 * T + f) = 0
theorem m_at9 (hT : T < 10) {b : Int32} {Q : Int32 → Mem → Prop} (K : ∀ M', Na M T 20 M' → Sat (bnd (pX8_put (nI T) (0 : Int32) b M') fun o2 M1 => bnd (pX8_put (nI T) (7 : Int32) (-1 : Int32) M1) fun o4 M3 => bnd (pX8_put (nI T) (8 : Int32) (-1 : Int32) M3) fun o6 M5 => bnd (pX8_put (nI T) (10 : Int32) (-1 : Int32) M5) fun o8 M7 => bnd (pX8_put (nI T) (16 : Int32) (-1 : Int32) M7) fun o10 M9 => chk (inB (2 : Int32) 700) <| chk (inB (2 : Int32) 700) <| nm (wI M9 20 0 0 (2 : Int32).toNatClampNeg ((M9.1 20 0 0 (2 : Int32).toNatClampNeg) + (1 : Int32))) fun M12 => some ((nI T), M12)) Q) : ∀ (m n i : Nat) (M' : Mem), i + m = 20 → m < n → Na M T i M' → Sat (pX8_appendThread_9 n b (nI T) (nI i) M') Q := by
  intro m
  induction m with
  | zero =>
    intro n i M' hi hn h
    obtain ⟨n, rfl⟩ : ∃ n', n = n' + 1 := ⟨n - 1, by omega⟩
    have i20 : i = 20 := by omega
    subst i20
    rw [pX8_appendThread_9, if_pos (show (20 : Int32) ≤ nI 20 from nI_le (a := 20) (by omega) (by omega))]
    exact K M' h
  | succ m ih =>
    intro n i M' hi hn h
    obtain ⟨n, rfl⟩ : ∃ n', n = n' + 1 := ⟨n - 1, by omega⟩
    obtain ⟨h1, h2, h3⟩ := h
    rw [pX8_appendThread_9, if_neg (show ¬ (20 : Int32) ≤ nI i from nI_ge (b := 20) (by omega) (by omega)), m_putr rfl hT (by omega), bnd_some, nI_1]
    refine ih n (i + 1) _ (by omega) (by omega) ⟨h1, fun kd k i' j q => ?_, fun f hf => ?_⟩
    · rw [wI_e, if_neg (by omega)]
      exact h2 kd k i' j q
    · by_cases e : f = i
      · subst e; exact wI_s
      · rw [wI_j (by omega)]
        exact h3 f (by omega)
theorem m_newThread {M0 : Mem} {gv : List Nat} (h : D M0 T A gv M) (hI : Inv T 10 A) (hT : T < 10) (b : Int32) : Sat (pX8_appendThread b M) (fun o M' => o = nI T ∧ D M0 (T + 1) (nwA T A b) gv M') := by
  rw [pX8_appendThread, chk_h ib_2, cl_2, h.cnt2, nm_def]
  refine m_at9 (M := M) hT (fun M' hN => ?_) 20 fu 0 M (by omega) (by decide) ⟨rfl, fun _ _ _ _ _ => rfl, fun f hf => absurd hf (Nat.not_lt_zero f)⟩
  obtain ⟨n1, n2, n3⟩ := hN
  rw [m_putr (f := 0) (x := 0) rfl hT (by omega), bnd_some, m_putr (f := 7) (x := 7) rfl hT (by omega), bnd_some, m_putr (f := 8) (x := 8) rfl hT (by omega), bnd_some, m_putr (f := 10) (x := 10) rfl hT (by omega), bnd_some, m_putr (f := 16) (x := 16) rfl hT (by omega), bnd_some, chk_h ib_2, chk_h ib_2, cl_2]
  have c2 : (wI (wI (wI (wI (wI M' 20 0 0 (20 + 20 * T + 0) b) 20 0 0 (20 + 20 * T + 7) (-1)) 20 0 0 (20 + 20 * T + 8) (-1)) 20 0 0 (20 + 20 * T + 10) (-1)) 20 0 0 (20 + 20 * T + 16) (-1)).1 20 0 0 2 + (1 : Int32) = nI (T + 1) := by
    rw [wI_j (by omega), wI_j (by omega), wI_j (by omega), wI_j (by omega), wI_j (by omega), n2 _ _ _ _ (by omega), h.cnt2, nI_1]
  rw [c2]
  have ot : ∀ kd k i j, ¬ (kd = 20 ∧ k = 0 ∧ i = 0 ∧ 20 + 20 * T ≤ j ∧ j < 40 + 20 * T) → ¬ (kd = 20 ∧ k = 0 ∧ i = 0 ∧ j = 2) → (wI (wI (wI (wI (wI (wI M' 20 0 0 (20 + 20 * T + 0) b) 20 0 0 (20 + 20 * T + 7) (-1)) 20 0 0 (20 + 20 * T + 8) (-1)) 20 0 0 (20 + 20 * T + 10) (-1)) 20 0 0 (20 + 20 * T + 16) (-1)) 20 0 0 2 (nI (T + 1))).1 kd k i j = M.1 kd k i j := fun kd k i j q1 q2 => by
    rw [wI_e, if_neg (by omega), wI_e, if_neg (by omega), wI_e, if_neg (by omega), wI_e, if_neg (by omega), wI_e, if_neg (by omega), wI_e, if_neg (by omega)]
    exact n2 _ _ _ _ q1
  refine S_w (P := fun M2 => M2 = wI (wI (wI (wI (wI (wI M' 20 0 0 (20 + 20 * T + 0) b) 20 0 0 (20 + 20 * T + 7) (-1)) 20 0 0 (20 + 20 * T + 8) (-1)) 20 0 0 (20 + 20 * T + 10) (-1)) 20 0 0 (20 + 20 * T + 16) (-1)) 20 0 0 2 (nI (T + 1))) rfl (fun M2 h2 => ?_)
  subst h2
  refine S_ret ⟨rfl, ?_⟩
  have o20 : ∀ j, ¬ (20 + 20 * T ≤ j ∧ j < 40 + 20 * T) → ¬ j = 2 → (wI (wI (wI (wI (wI (wI M' 20 0 0 (20 + 20 * T + 0) b) 20 0 0 (20 + 20 * T + 7) (-1)) 20 0 0 (20 + 20 * T + 8) (-1)) 20 0 0 (20 + 20 * T + 10) (-1)) 20 0 0 (20 + 20 * T + 16) (-1)) 20 0 0 2 (nI (T + 1))).1 20 0 0 j = M.1 20 0 0 j := fun j q1 q2 => ot 20 0 0 j (by omega) (by omega)
  obtain ⟨⟨hT2, hth, hgl, hho, hco, ⟨l1, l2, l3, l4⟩, hw1, hw2, hw3⟩, hg, hF⟩ := h
  refine ⟨⟨⟨by omega, nwA_2 hT⟩, fun t f ht hf => ?_, fun c hc => ?_, fun l hl => ?_, fun t j ht hj hj2 => ?_, ⟨l1, ?_, ?_, fun i c a1 a2 a3 => ?_⟩, ?_, ?_, fun l hl => ⟨fun u hu => ?_, ?_⟩⟩, ⟨?_, hg.2.1, fun i hi => ?_⟩, ?_, fun kd k i j q1 q2 q3 q4 => ?_⟩
  · by_cases e : t = T
    · subst e
      rw [nwA_s, wI_j (by omega), wI_e, wI_e, wI_e, wI_e, wI_e, n3 f (by omega)]
      have hc : f = 0 ∨ f = 7 ∨ f = 8 ∨ f = 10 ∨ f = 16 ∨ ¬ (f = 0 ∨ f = 7 ∨ f = 8 ∨ f = 10 ∨ f = 16) := by omega
      unfold nwF
      rcases hc with rfl | rfl | rfl | rfl | rfl | hc
      · simp
      · simp
      · simp
      · simp
      · simp
      · rw [if_neg (by omega), if_neg (by omega), if_neg (by omega), if_neg (by omega), if_neg (by omega), if_neg (by omega), if_neg (by omega)]
    · rw [o20 _ (by omega) (by omega), nwA_n e (by omega)]
      exact hth t f (by omega) hf
  · have hcn := okg_n c hc
    by_cases e : c = 2
    · subst e
      rw [nwA_2 hT]
      exact wI_s
    · rw [o20 _ (by omega) e, nwA_n (by omega) (by omega)]
      exact hgl c hc
  · rw [o20 _ (by omega) (by omega), nwA_n (by omega) (by omega)]
    exact hho l hl
  · by_cases e : t = T
    · subst e
      rw [nwA_s] at hj2
      exact absurd hj2 (show ¬ j < (nwF b 1).toNatClampNeg from Nat.not_lt_zero j)
    · rw [nwA_n e (by omega)] at hj2
      rw [o20 _ (by omega) (by omega), o20 _ (by omega) (by omega), nwA_n (by omega) (by omega), nwA_n (by omega) (by omega)]
      exact hco t j (by omega) hj hj2
  · rw [o20 _ (by omega) (by omega)]; exact l2
  · rw [o20 _ (by omega) (by omega)]; exact l3
  · rw [o20 _ (by omega) (by omega)]; exact l4 i c a1 a2 a3
  · rw [o20 _ (by omega) (by omega)]; exact hw1
  · rw [o20 _ (by omega) (by omega)]; exact hw2
  · have hu2 := (Inv.wat hI hl hu).1
    obtain ⟨k1, k2, k3⟩ := (hw3 l hl).1 u hu
    rw [o20 _ (by omega) (by omega), o20 _ (by omega) (by omega)]
    exact ⟨k1, k2, k3⟩
  · refine List.Pairwise.imp_of_mem (fun {x y} hx hy q => ?_) (hw3 l hl).2
    have := (Inv.wat hI hl hx).1
    have := (Inv.wat hI hl hy).1
    rw [o20 _ (by omega) (by omega), o20 _ (by omega) (by omega)]
    exact q
  · rw [ot _ _ _ _ (by omega) (by omega)]; exact hg.1
  · rw [ot _ _ _ _ (by omega) (by omega)]; exact hg.2.2 i hi
  · exact n1.trans hF.1
  · rw [ot _ _ _ _ (by omega) (by omega)]; exact hF.2 _ _ _ _ q1 q2 q3 q4
theorem m_addStep {M0 : Mem} {gv : List Nat} (h : D M0 T A gv M) {t z : Nat} (ht : t < T) (h1 : A.1 t 1 = nI z) (hz : z < 16) (c x : Int32) : Sat (pX8_appendInstruction (nI t) c x M) (fun _ M' => D M0 T (stA A t z c x) gv M') := by
  have hT := h.T10
  have ht10 : t < 10 := by omega
  have ecp : (220 : Int32) + ((2 : Int32) * (((16 : Int32) * nI t) + nI z)) = nI (220 + 2 * (16 * t + z)) := by
    have a1 : (16 : Int32) * nI t = nI (16 * t) := nI_mul 16 t
    rw [a1, nI_add]
    have a2 : (2 : Int32) * nI (16 * t + z) = nI (2 * (16 * t + z)) := nI_mul 2 _
    rw [a2]
    exact nI_add 220 _
  rw [pX8_appendInstruction, m_of h ht 1 (x := 1) rfl (by omega), bnd_some, h1, pX8_codePlace, ecp, bnd_some, chk_h (inB_nI (by omega) (by omega)), cl (by omega), nI_1]
  refine S_w (P := fun M2 => M2 = wI M 20 0 0 (220 + 2 * (16 * t + z)) c) rfl (fun M2 h2 => ?_)
  subst h2
  rw [chk_h (inB_nI (by omega) (by omega)), cl (by omega)]
  refine S_w (P := fun M2 => M2 = wI (wI M 20 0 0 (220 + 2 * (16 * t + z)) c) 20 0 0 (220 + 2 * (16 * t + z) + 1) x) rfl (fun M2 h2 => ?_)
  subst h2
  have r1 : (wI (wI M 20 0 0 (220 + 2 * (16 * t + z)) c) 20 0 0 (220 + 2 * (16 * t + z) + 1) x).1 20 0 0 (20 + 20 * t + 1) + (1 : Int32) = nI (z + 1) := by
    rw [wI_j (by omega), wI_j (by omega)]
    have := h.1.2.1 t 1 ht (by omega)
    rw [this, h1, nI_1]
  rw [pX8_grow, m_ad (f := 1) (x := 1) rfl, nm_def, chk_h (inB_nI (by omega) (by omega)), chk_h (inB_nI (by omega) (by omega)), cl (by omega), r1]
  rw [nm_def, bnd_some]
  refine S_ret ?_
  have ot : ∀ kd k i j, ¬ (kd = 20 ∧ k = 0 ∧ i = 0 ∧ (j = 220 + 2 * (16 * t + z) ∨ j = 220 + 2 * (16 * t + z) + 1 ∨ j = 20 + 20 * t + 1)) → (wI (wI (wI M 20 0 0 (220 + 2 * (16 * t + z)) c) 20 0 0 (220 + 2 * (16 * t + z) + 1) x) 20 0 0 (20 + 20 * t + 1) (nI (z + 1))).1 kd k i j = M.1 kd k i j := fun kd k i j q => by
    rw [wI_e, if_neg (by omega), wI_e, if_neg (by omega), wI_e, if_neg (by omega)]
  obtain ⟨⟨hT2, hth, hgl, hho, hco, ⟨l1, l2, l3, l4⟩, hw1, hw2, hw3⟩, hg, hF⟩ := h
  refine ⟨⟨⟨hT2.1, by rw [stA_n ht10 (by omega) (by omega) (by omega)]; exact hT2.2⟩, fun u f hu hf => ?_, fun d hd => ?_, fun l hl => ?_, fun u j hu hj hj2 => ?_, ⟨l1, ?_, ?_, fun i d a1 a2 a3 => ?_⟩, ?_, ?_, fun l hl => ⟨fun u hu => ?_, ?_⟩⟩, ⟨?_, hg.2.1, fun i hi => ?_⟩, hF.1, fun kd k i j q1 q2 q3 q4 => ?_⟩
  · by_cases e : u = t ∧ f = 1
    · obtain ⟨rfl, rfl⟩ := e
      rw [stA_e ht10, if_pos ⟨rfl, rfl⟩]
      exact wI_s
    · rw [ot _ _ _ _ (by omega), stA_n ht10 e (by omega) (by omega)]
      exact hth u f hu hf
  · have hdn := okg_n d hd
    rw [ot _ _ _ _ (by omega), stA_n ht10 (by omega) (by omega) (by omega)]
    exact hgl d hd
  · rw [ot _ _ _ _ (by omega), stA_n ht10 (by omega) (by omega) (by omega)]
    exact hho l hl
  · by_cases e : u = t ∧ j = z
    · obtain ⟨rfl, rfl⟩ := e
      rw [stA_e ht10, if_neg (by omega), if_pos ⟨rfl, rfl⟩, stA_e ht10, if_neg (by omega), if_neg (by omega), if_pos ⟨rfl, rfl⟩]
      refine ⟨?_, ?_⟩
      · rw [wI_j (by omega), wI_j (by omega), wI_s]
      · rw [wI_j (by omega), wI_s]
    · have hjo : j < (A.1 u 1).toNatClampNeg := by
        by_cases eu : u = t
        · subst eu
          rw [stA_e ht10, if_pos ⟨rfl, rfl⟩, cl (by omega)] at hj2
          rw [h1, cl (by omega)]
          omega
        · rw [stA_n ht10 (by omega) (by omega) (by omega)] at hj2
          exact hj2
      rw [ot _ _ _ _ (by omega), ot _ _ _ _ (by omega), stA_n ht10 (by omega) (by omega) (by omega), stA_n ht10 (by omega) (by omega) (by omega)]
      exact hco u j hu hj hjo
  · rw [ot _ _ _ _ (by omega)]; exact l2
  · rw [ot _ _ _ _ (by omega)]; exact l3
  · rw [ot _ _ _ _ (by omega)]; exact l4 i d a1 a2 a3
  · rw [ot _ _ _ _ (by omega)]; exact hw1
  · rw [ot _ _ _ _ (by omega)]; exact hw2
  · obtain ⟨k1, k2, k3⟩ := (hw3 l hl).1 u hu
    rw [ot _ _ _ _ (by omega), ot _ _ _ _ (by omega)]
    exact ⟨k1, k2, k3⟩
  · refine List.Pairwise.imp_of_mem (fun {y w} hy hw q => ?_) (hw3 l hl).2
    have := ((hw3 l hl).1 y hy).1
    have := ((hw3 l hl).1 w hw).1
    rw [ot _ _ _ _ (by omega), ot _ _ _ _ (by omega)]
    exact q
  · rw [ot _ _ _ _ (by omega)]; exact hg.1
  · rw [ot _ _ _ _ (by omega)]; exact hg.2.2 i hi
  · rw [ot _ _ _ _ (by omega)]; exact hF.2 _ _ _ _ q1 q2 q3 q4
/-! the two calls -/
theorem stA_bd {t z : Nat} {c x : Int32} (hB : Bd n A) (ht : t < 10) : Bd n (stA A t z c x) := ⟨hB.1, by rw [stA_n ht (by omega) (by omega) (by omega)]; exact hB.2⟩
theorem Tb.w7 (h : Tb M) (v : Int32) : Tb (wI M 19 0 0 7 v) := fun c hc => by rw [wI_kd (by omega), wI_kd (by omega)]; exact h c hc
theorem Tb.wo (h : Tb M) (v : Int64) : Tb (wO M v) := h
theorem Tb.fk {k : Nat} (h : Tb M) (hF : Fk k M M1) : Tb M1 := fun c hc => by rw [hF.2 _ _ _ _ (by omega), hF.2 _ _ _ _ (by omega)]; exact h c hc
theorem call_addThread (hJ : J n M) (v c x : Int32) : LC qI (pL_addThread v c x M) (pX8_addThread v c x) n := by
  obtain ⟨T, A, hC, hD, hI, hB, hR⟩ := id hJ
  have hT := hI.T10
  rw [pL_addThread]
  by_cases e : rng v 1 9 = true
  · obtain ⟨b, b1, b9, rfl⟩ := rng_lo (lo := 1) (hi := 9) (by omega) (by omega) rfl rfl e
    by_cases e2 : isI c x = true
    · have ho := isI_ok e2
      by_cases e3 : T < 10
      · have hI1 := nwA_inv hI e3 b1 b9
        have z0 : (nwA T A (nI b)).1 T 1 = nI 0 := nwA_s
        have hI2 : Inv (T + 1) 10 (stA (nwA T A (nI b)) T 0 c x) := stA_inv hI1 (Or.inr rfl) (by omega) z0 (by omega) ho
        have h7 : Sat (pX7_addThread (nI b) c x M) (fun o M' => o = .ok (nI T) ∧ C true true 0 M (T + 1) (stA (nwA T A (nI b)) T 0 c x) [] M') := by
          rw [pX7_addThread, c_rng, if_pos e, bndx_ok, c_ins, if_pos e2, bndx_ok, pX3_isFull, hC.cnt4, if_pos (show nI T < (10 : Int32) from nI_lt (b := 10) e3 (by omega)), chk_h b01_0, bnd_some, if_pos rfl]
          refine S_bnd (c_newThread hC e3 (nI b)) (fun o M1 h1 => ?_)
          obtain ⟨rfl, h1⟩ := h1
          rw [chk_h (decide_eq_true ⟨rfl, e3⟩)]
          refine S_bnd (c_addStep h1 (by omega) z0 (by omega) c x) (fun _ M2 h2 => ?_)
          rw [h2.cnt4, show nI (T + 1) - (1 : Int32) = nI T from nI_sub (b := 1) (by omega)]
          exact S_ret ⟨rfl, h2⟩
        obtain ⟨_, M1, e7, rfl, h1⟩ := h7
        refine LC_ok (g := _) e7 ?_ rfl
        have hD1 := J_mid (hD.fk h1.fkk) (nI T).toInt64
        have tb := ((hR.2.1.fk h1.fkk).wo (nI T).toInt64).w7 0
        rw [pX8_addThread, nm_def, m_rng, if_pos e, bnd_some, if_neg (show ¬ (1 : Int32) = 0 by decide), m_ins tb, if_pos e2, bnd_some, if_pos (show ¬ (1 : Int32) = 0 by decide), chk_h ib_2, cl_2, hD1.cnt2, if_pos (show ¬ nI T = 10 from fun q => by have := nI_inj (by omega) (b := 10) (by omega) q; omega)]
        refine S_bnd (m_newThread hD1 hI e3 (nI b)) (fun o M4 h4 => ?_)
        obtain ⟨rfl, h4⟩ := h4
        refine S_bnd (m_addStep h4 (by omega) z0 (by omega) c x) (fun _ M6 h6 => S_ret ⟨rfl, ?_⟩)
        exact J_fin h1.re (hR.fk (by omega) h1.fkk) hI2 (stA_bd ⟨hB.1, by rw [nwA_n (by omega) (by omega)]; exact hB.2⟩ (by omega)) _ h6
      · have eT : T = 10 := by omega
        refine LC_re (e := 1) (k := 2) (b := 0) hJ (by rw [pX7_addThread, c_rng, if_pos e, bndx_ok, c_ins, if_pos e2, bndx_ok, pX3_isFull, hC.cnt4, if_neg (show ¬ nI T < (10 : Int32) from nI_nlt (a := T) (b := 10) (by omega) (by omega)), chk_h b01_1, bnd_some, if_neg (show ¬ (1 : Int32) = 0 by decide)]) rfl ?_ (by decide)
        rw [pX8_addThread, nm_def, m_rng, if_pos e, bnd_some, if_neg (show ¬ (1 : Int32) = 0 by decide), m_ins (hR.2.1.w7 0), if_pos e2, bnd_some, if_pos (show ¬ (1 : Int32) = 0 by decide), chk_h ib_2, cl_2, (hD.w7 0).cnt2, if_neg (not_not_intro (show nI T = 10 by rw [eT]; rfl)), m_fail, bnd_some]
    · refine LC_re (e := 2) (k := 1) (b := 0) hJ (by rw [pX7_addThread, c_rng, if_pos e, bndx_ok, c_ins, if_neg e2, bndx_er]) rfl ?_ (by decide)
      rw [pX8_addThread, nm_def, m_rng, if_pos e, bnd_some, if_neg (show ¬ (1 : Int32) = 0 by decide), m_ins (hR.2.1.w7 0), if_neg e2, bnd_some, if_neg (not_not_intro rfl), pX8_addThread_24, m_fail, bnd_some]
  · refine LC_re (e := 2) (k := 1) (b := 0) hJ (by rw [pX7_addThread, c_rng, if_neg e, bndx_er]) rfl ?_ (by decide)
    rw [pX8_addThread, nm_def, m_rng, if_neg e, bnd_some, if_pos rfl, pX8_addThread_24, m_fail, bnd_some]
theorem call_addInstruction (hJ : J n M) (v c x : Int32) : LC qI (pL_addInstruction v c x M) (pX8_addInstruction v c x) n := by
  obtain ⟨T, A, hC, hD, hI, hB, hR⟩ := id hJ
  have hT := hI.T10
  rw [pL_addInstruction]
  by_cases e : isT T v = true
  · obtain ⟨t, ht, rfl⟩ := isT_t hT e
    by_cases e2 : isI c x = true
    · have ho := isI_ok e2
      obtain ⟨z, q, h1, -, hqz, hz, -⟩ := (hI.2.1 t ht).2.1
      have r3 : M.1 5 0 t 3 = nI z := (hC.th ht 1 rfl).trans h1
      by_cases e3 : z < 16
      · by_cases e4 : A.1 t 3 = 3 ∨ A.1 t 3 = 4
        · refine LC_re (e := 1) (k := 3) (b := 0) hJ (by rw [pX7_addInstruction, c_thr hC, if_pos e, bndx_ok, c_ins, if_pos e2, bndx_ok, chk_h (inB_nI (by omega) (by omega)), cl (by omega), r3, if_neg (show ¬ (16 : Int32) ≤ nI z from nI_ge (b := 16) e3 (by omega)), c_over hC ht, bnd_some, if_pos e4, if_neg (show ¬ (1 : Int32) = 0 by decide), pX7_addInstruction_39]) rfl ?_ (by decide)
          rw [pX8_addInstruction, nm_def, m_thr (hD.w7 0), if_pos e, bnd_some, if_pos (show ¬ (1 : Int32) = 0 by decide), m_ins (hR.2.1.w7 0), if_pos e2, bnd_some, if_pos (show ¬ (1 : Int32) = 0 by decide), m_of (hD.w7 0) ht 1 (x := 1) rfl (by omega), bnd_some, h1, if_neg (show ¬ nI z = 16 from fun q => by have := nI_inj (by omega) (b := 16) (by omega) q; omega), m_of (hD.w7 0) ht 3 (x := 3) rfl (by omega), bnd_some, if_neg (show ¬ A.1 t 3 < 3 by rcases e4 with q | q <;> rw [q] <;> decide), pX8_addInstruction_55, m_fail, bnd_some]
        · have hI2 : Inv T 10 (stA A t z c x) := stA_inv hI (Or.inl rfl) ht h1 e3 ho
          have hlt : A.1 t 3 < 3 := by
            rcases hI.st ht with q | q | q | q | q
            · rw [q]; decide
            · rw [q]; decide
            · rw [q]; decide
            · exact absurd (Or.inl q) e4
            · exact absurd (Or.inr q) e4
          have h7 : Sat (pX7_addInstruction (nI t) c x M) (fun o M' => o = .ok (nI (z + 1)) ∧ C true true 0 M T (stA A t z c x) [] M') := by
            rw [pX7_addInstruction, c_thr hC, if_pos e, bndx_ok, c_ins, if_pos e2, bndx_ok, chk_h (inB_nI (by omega) (by omega)), cl (by omega), r3, if_neg (show ¬ (16 : Int32) ≤ nI z from nI_ge (b := 16) e3 (by omega)), c_over hC ht, bnd_some, if_neg e4, if_pos rfl]
            refine S_bnd (c_addStep hC ht h1 e3 c x) (fun _ M2 h2 => ?_)
            have r32 : M2.1 5 0 t 3 = nI (z + 1) := (h2.th ht 1 rfl).trans (by rw [stA_e (by omega), if_pos ⟨rfl, rfl⟩])
            rw [r32]
            exact S_ret ⟨rfl, h2⟩
          obtain ⟨_, M1, e7, rfl, h1'⟩ := h7
          refine LC_ok (g := _) e7 ?_ rfl
          have hD1 := J_mid (hD.fk h1'.fkk) (nI (z + 1)).toInt64
          have tb := ((hR.2.1.fk h1'.fkk).wo (nI (z + 1)).toInt64).w7 0
          rw [pX8_addInstruction, nm_def, m_thr hD1, if_pos e, bnd_some, if_pos (show ¬ (1 : Int32) = 0 by decide), m_ins tb, if_pos e2, bnd_some, if_pos (show ¬ (1 : Int32) = 0 by decide), m_of hD1 ht 1 (x := 1) rfl (by omega), bnd_some, h1, if_neg (show ¬ nI z = 16 from fun q => by have := nI_inj (by omega) (b := 16) (by omega) q; omega), m_of hD1 ht 3 (x := 3) rfl (by omega), bnd_some, if_pos hlt]
          refine S_bnd (m_addStep hD1 ht h1 e3 c x) (fun _ M6 h6 => ?_)
          rw [m_of h6 ht 1 (x := 1) rfl (by omega), bnd_some, stA_e (by omega), if_pos ⟨rfl, rfl⟩]
          exact S_ret ⟨rfl, J_fin h1'.re (hR.fk (by omega) h1'.fkk) hI2 (stA_bd hB (by omega)) _ h6⟩
      · have ez : z = 16 := by omega
        refine LC_re (e := 1) (k := 3) (b := 0) hJ (by rw [pX7_addInstruction, c_thr hC, if_pos e, bndx_ok, c_ins, if_pos e2, bndx_ok, chk_h (inB_nI (by omega) (by omega)), cl (by omega), r3, if_pos (show (16 : Int32) ≤ nI z from nI_le (a := 16) (by omega) (by omega)), pX7_addInstruction_39]) rfl ?_ (by decide)
        rw [pX8_addInstruction, nm_def, m_thr (hD.w7 0), if_pos e, bnd_some, if_pos (show ¬ (1 : Int32) = 0 by decide), m_ins (hR.2.1.w7 0), if_pos e2, bnd_some, if_pos (show ¬ (1 : Int32) = 0 by decide), m_of (hD.w7 0) ht 1 (x := 1) rfl (by omega), bnd_some, h1, if_pos (show nI z = 16 by rw [ez]; rfl), pX8_addInstruction_55, m_fail, bnd_some]
    · refine LC_re (e := 2) (k := 2) (b := 0) hJ (by rw [pX7_addInstruction, c_thr hC, if_pos e, bndx_ok, c_ins, if_neg e2, bndx_er]) rfl ?_ (by decide)
      rw [pX8_addInstruction, nm_def, m_thr (hD.w7 0), if_pos e, bnd_some, if_pos (show ¬ (1 : Int32) = 0 by decide), m_ins (hR.2.1.w7 0), if_neg e2, bnd_some, if_neg (not_not_intro rfl), m_fail, bnd_some]
  · refine LC_re (e := 3) (k := 1) (b := 0) hJ (by rw [pX7_addInstruction, c_thr hC, if_neg e, bndx_er]) rfl ?_ (by decide)
    rw [pX8_addInstruction, nm_def, m_thr (hD.w7 0), if_neg e, bnd_some, if_neg (not_not_intro rfl), m_fail, bnd_some]
end MADDS
