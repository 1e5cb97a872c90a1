/-! ===== the class's small methods over states ===== -/
def onI (o : Option Nat) : Int32 := match o with
  | none => -1
  | some n => nI n
theorem onI_none : onI none = -1 := rfl
theorem onI_some (n : Nat) : onI (some n) = nI n := rfl
def ps (A : AS) (t : Nat) (stk : List Nat) : List Nat := if A.1 t 3 = 0 ∧ A.1 t 2 = A.1 t 1 then t :: stk else stk
def lowF (h : Nat → Int32) (x : Int32) : Nat → Nat → Option Nat
  | 0, _ => none
  | n + 1, i => if h i = x then some i else lowF h x n (i + 1)
def low (A : AS) (t : Nat) : Option Nat := lowF (A.1 11) (nI t) 6 0
def wt (A : AS) (l i : Nat) : Int32 := if i < (A.2.2 l).length then nI ((A.2.2 l).getD i 0) else -1
theorem nI_a2 (a : Nat) : nI a + (2 : Int32) = nI (a + 2) := nI_add a 2
theorem nI_a3 (a : Nat) : nI a + (3 : Int32) = nI (a + 3) := nI_add a 3
theorem nI_m10 (a : Nat) : nI a * (10 : Int32) = nI (a * 10) := nI_mul a 10
theorem pr_fst {T : Nat} {A A' : AS} (h : A'.1 = A.1) (t : Nat) : pr T A' t = pr T A t := by
  unfold pr
  rw [h]
theorem Cl.cong {k : Nat} {A A' : AS} {M M' : Mem} (h : Cl k A M) (hA : A'.2.1 = A.2.1) (e : ∀ i j, M'.1 13 k i j = M.1 13 k i j) (e2 : ∀ i j, M'.1 14 k i j = M.1 14 k i j) : Cl k A' M' := by
  obtain ⟨h1, h2, h3⟩ := h
  unfold Cl
  rw [hA]
  exact ⟨h1, fun j b1 b2 => by rw [e]; exact h2 j b1 b2, fun i c a1 a2 a3 => by rw [e2]; exact h3 i c a1 a2 a3⟩
theorem Cwt.cong {k : Nat} {A A' : AS} {M M' : Mem} (h : Cwt k A M) (hA : A'.2.2 = A.2.2) (e : ∀ i j, M'.1 11 k i j = M.1 11 k i j) (e2 : ∀ i j, M'.1 12 k i j = M.1 12 k i j) : Cwt k A' M' := by
  intro l hl
  rw [hA]
  obtain ⟨h1, h2, h3⟩ := h l hl
  exact ⟨by rw [e2]; exact h1, h2, fun i hi => by rw [e]; exact h3 i hi⟩
theorem Cs.cong {k : Nat} {stk : List Nat} {M M' : Mem} (h : Cs k stk M) (e : M'.1 3 k 0 15 = M.1 3 k 0 15) (e2 : ∀ i j, M'.1 16 k i j = M.1 16 k i j) : Cs k stk M' := by
  obtain ⟨h1, h2, h3⟩ := h
  exact ⟨by rw [e]; exact h1, h2, fun i hi => by rw [e2]; exact h3 i hi⟩
theorem Cb.cong {k T : Nat} {A A' : AS} {M M' : Mem} (h : Cb k T A M) (hA : A'.1 = A.1) (e : ∀ kd i j, ¬ kd = 11 → ¬ kd = 12 → ¬ kd = 13 → ¬ kd = 14 → ¬ kd = 16 → ¬ (kd = 3 ∧ (j = 15 ∨ j = 13)) → ¬ (kd = 5 ∧ (j = 5 ∨ j = 6)) → M'.1 kd k i j = M.1 kd k i j) : Cb k T A' M' := by
  obtain ⟨h1, h2, h3, h4, h5⟩ := h
  unfold Cb
  rw [hA]
  refine ⟨h1, fun t f ht hf => ?_, fun b hb => ?_, fun l hl => ?_, fun t j ht hj hj2 => ?_⟩
  · have q := kdf_58 f
    have q2 := slf_5 f (okf_lt hf) hf
    rw [e _ _ _ (by omega) (by omega) (by omega) (by omega) (by omega) (by omega) (fun z => by have := q2 z.1; omega)]
    exact h2 t f ht hf
  · have q := kdg_315 b
    have q2 := slg_3 b (okg_lt hb) hb
    rw [e _ _ _ (by omega) (by omega) (by omega) (by omega) (by omega) (fun z => by have := q2 z.1; omega) (by omega)]
    exact h3 b hb
  · rw [e _ _ _ (by omega) (by omega) (by omega) (by omega) (by omega) (by omega) (by omega)]
    exact h4 l hl
  · rw [e _ _ _ (by omega) (by omega) (by omega) (by omega) (by omega) (by omega) (by omega), e _ _ _ (by omega) (by omega) (by omega) (by omega) (by omega) (by omega) (by omega)]
    exact h5 t j ht hj hj2
theorem C.cong {g p : Bool} {k : Nat} {M0 : Mem} {T : Nat} {A : AS} {stk : List Nat} {M : Mem} (h : C g p k M0 T A stk M) {A' : AS} {stk' : List Nat} {M' : Mem} (hA : A'.1 = A.1) (e : ∀ kd i j, ¬ kd = 11 → ¬ kd = 12 → ¬ kd = 13 → ¬ kd = 14 → ¬ kd = 16 → ¬ (kd = 3 ∧ j = 15) → M'.1 kd k i j = M.1 kd k i j) (hl : Cl k A' M') (hw : Cwt k A' M') (hs : Cs k stk' M') (hF : Fk k M0 M') : C g p k M0 T A' stk' M' := by
  obtain ⟨h1, h2, h3, -⟩ := h
  refine ⟨h1.cong hA (fun kd i j a1 a2 a3 a4 a5 a6 _ => e kd i j a1 a2 a3 a4 a5 (by omega)), fun q t ht => ?_, fun q q2 t ht => ?_, hl, hw, hs, hF⟩
  · rw [e _ _ _ (by omega) (by omega) (by omega) (by omega) (by omega) (by omega), hA]
    exact h2 q t ht
  · rw [e _ _ _ (by omega) (by omega) (by omega) (by omega) (by omega) (by omega)] at q2
    rw [e _ _ _ (by omega) (by omega) (by omega) (by omega) (by omega) (by omega), pr_fst hA]
    exact h3 q q2 t ht
section CLS
variable {g p : Bool} {k : Nat} {M0 : Mem} {T : Nat} {A : AS} {stk : List Nat} {M : Mem}
/-- an event is in its row: the log's three numbers behind it -/
def adT (k : Nat) (M9 : Mem) : Option (Unit × Mem) := nm (wI M9 13 k 0 1 (((M9.1 13 k 0 1) + (1 : Int32)) - ((M9.1 13 k 0 1) + (1 : Int32)) / (40 : Int32) * (40 : Int32))) fun M10 => if (40 : Int32) ≤ (M10.1 13 k 0 2) then (nm (wI M10 13 k 0 3 ((M10.1 13 k 0 3) + (1 : Int32))) fun M11 => some ((), M11))
    else nm (wI M10 13 k 0 2 ((M10.1 13 k 0 2) + (1 : Int32))) fun M12 => nm (wI M12 13 k 0 3 ((M12.1 13 k 0 3) + (1 : Int32))) fun M13 => some ((), M13)
theorem ad_ok {n : Nat} {M9 : Mem} (hn : n < 2147483000) (h1 : M9.1 13 k 0 1 = nI (n % 40)) (h2 : M9.1 13 k 0 2 = nI (min n 40)) (h3 : M9.1 13 k 0 3 = nI n) : ∃ M', adT k M9 = some ((), M') ∧ (∀ j, 0 < j → j < 4 → M'.1 13 k 0 j = lgv (n + 1) j) ∧ (∀ kd k' i j, ¬ kd = 13 → M'.1 kd k' i j = M9.1 kd k' i j) ∧ ∀ M0, Fk k M0 M9 → Fk k M0 M' := by
  have hm : n % 40 < 40 := Nat.mod_lt _ (by omega)
  have v1 : (nI (n % 40) + (1 : Int32)) - (nI (n % 40) + (1 : Int32)) / (40 : Int32) * (40 : Int32) = nI ((n + 1) % 40) := by
    rw [nI_1]
    have a1 : nI (n % 40 + 1) - nI (n % 40 + 1) / (40 : Int32) * (40 : Int32) = nI ((n % 40 + 1) % 40) := nI_mod (m := 40) (by omega) (by omega)
    rw [a1]
    congr 1
    omega
  have v3 : nI n + (1 : Int32) = nI (n + 1) := nI_1 _
  by_cases e : 40 ≤ n
  · have e2 : min n 40 = 40 := Nat.min_eq_right e
    have c : (40 : Int32) ≤ (wI M9 13 k 0 1 (nI ((n + 1) % 40))).1 13 k 0 2 := by
      rw [wI_j (by omega), h2, e2]
      exact nI_le (a := 40) (by omega) (by omega)
    refine ⟨wI (wI M9 13 k 0 1 (nI ((n + 1) % 40))) 13 k 0 3 (nI (n + 1)), ?_, fun j b1 b2 => ?_, fun kd k' i j q => ?_, fun M0 hF => (hF.wI (by omega) (by omega)).wI (by omega) (by omega)⟩
    · rw [adT, h1, v1, nm_def, if_pos c, nm_def, wI_j (by omega), h3, v3]
    · have hj : j = 1 ∨ j = 2 ∨ j = 3 := by omega
      rcases hj with rfl | rfl | rfl
      · rw [wI_j (by omega), wI_s]; rfl
      · rw [wI_j (by omega), wI_j (by omega), h2]
        show nI (min n 40) = nI (min (n + 1) 40)
        rw [e2, Nat.min_eq_right (by omega)]
      · rw [wI_s]; rfl
    · rw [wI_kd q, wI_kd q]
  · have e2 : min n 40 = n := Nat.min_eq_left (by omega)
    have c : ¬ (40 : Int32) ≤ (wI M9 13 k 0 1 (nI ((n + 1) % 40))).1 13 k 0 2 := by
      rw [wI_j (by omega), h2, e2]
      exact nI_ge (b := 40) (by omega) (by omega)
    refine ⟨wI (wI (wI M9 13 k 0 1 (nI ((n + 1) % 40))) 13 k 0 2 (nI (n + 1))) 13 k 0 3 (nI (n + 1)), ?_, fun j b1 b2 => ?_, fun kd k' i j q => ?_, fun M0 hF => ((hF.wI (by omega) (by omega)).wI (by omega) (by omega)).wI (by omega) (by omega)⟩
    · rw [adT, h1, v1, nm_def, if_neg c, nm_def, nm_def, wI_j (by omega), wI_j (by omega), wI_j (by omega), h2, h3, e2, v3]
    · have hj : j = 1 ∨ j = 2 ∨ j = 3 := by omega
      rcases hj with rfl | rfl | rfl
      · rw [wI_j (by omega), wI_j (by omega), wI_s]; rfl
      · rw [wI_j (by omega), wI_s]
        show nI (n + 1) = nI (min (n + 1) 40)
        rw [Nat.min_eq_left (by omega)]
      · rw [wI_s]; rfl
    · rw [wI_kd q, wI_kd q, wI_kd q]
set_option maxHeartbeats 4000000 in
theorem c_add (h : C g p k M0 T A stk M) (hn : A.2.1.length < LIM) (kind th its : Int32) : Sat (pX2_add k (M.1 3 k 0 5) kind th its M) (fun _ M' => C g p k M0 T (note A kind th its) stk M') := by
  have hT := h.gl 3 rfl
  have hl := h.2.2.2.1
  have hw := h.2.2.2.2.1
  have hs := h.2.2.2.2.2.1
  have hF := h.2.2.2.2.2.2
  rw [LIM_eq] at hn
  have e40 : (M.1 13 k 0 1) * (4 : Int32) = nI (4 * (A.2.1.length % 40)) := by
    rw [hl.nx]
    have a2 : nI (A.2.1.length % 40) * (4 : Int32) = nI ((A.2.1.length % 40) * 4) := nI_mul _ 4
    rw [a2, Nat.mul_comm]
  have hx4 : 4 * (A.2.1.length % 40) + 3 < 160 := by omega
  have hT2 : M.1 3 k 0 5 = A.1 10 3 := hT
  rw [pX2_add, e40, hT2]
  generalize hx : 4 * (A.2.1.length % 40) = x at hx4
  have c0 : inB (nI x) 160 = true := inB_nI (by omega) (by omega)
  have c1 : inB (nI (x + 1)) 160 = true := inB_nI (by omega) (by omega)
  have c2 : inB (nI (x + 2)) 160 = true := inB_nI (by omega) (by omega)
  have c3 : inB (nI (x + 3)) 160 = true := inB_nI (by omega) (by omega)
  have d0 : (nI x).toNatClampNeg = x := cl (by omega)
  have d1 : (nI (x + 1)).toNatClampNeg = x + 1 := cl (by omega)
  have d2 : (nI (x + 2)).toNatClampNeg = x + 2 := cl (by omega)
  have d3 : (nI (x + 3)).toNatClampNeg = x + 3 := cl (by omega)
  simp only [nm_def, nI_1, nI_a2, nI_a3, c0, c1, c2, c3, chk_t, d0, d1, d2, d3]
  obtain ⟨M', g0, g1, g2, g3⟩ := ad_ok (k := k) (n := A.2.1.length) (M9 := wI (wI (wI (wI M 14 k 0 x (A.1 10 3)) 14 k 0 (x + 1) kind) 14 k 0 (x + 2) th) 14 k 0 (x + 3) its) (by omega) (by rw [wI_kd (by omega), wI_kd (by omega), wI_kd (by omega), wI_kd (by omega)]; exact hl.nx) (by rw [wI_kd (by omega), wI_kd (by omega), wI_kd (by omega), wI_kd (by omega)]; exact hl.kp) (by rw [wI_kd (by omega), wI_kd (by omega), wI_kd (by omega), wI_kd (by omega)]; exact hl.tt)
  show Sat (adT k (wI (wI (wI (wI M 14 k 0 x (A.1 10 3)) 14 k 0 (x + 1) kind) 14 k 0 (x + 2) th) 14 k 0 (x + 3) its)) _
  rw [g0]
  refine S_ret (h.cong rfl ?_ ⟨?_, g1, ?_⟩ (hw.cong rfl ?_ ?_) (hs.cong ?_ ?_) (g3 _ ((((hF.wI (by omega) (by omega)).wI (by omega) (by omega)).wI (by omega) (by omega)).wI (by omega) (by omega))))
  · intro kd i j a1 a2 a3 a4 a5 a6
    rw [g2 _ _ _ _ a3, wI_kd a4, wI_kd a4, wI_kd a4, wI_kd a4]
  · show (_ :: A.2.1).length ≤ LIM
    rw [List.length_cons, LIM_eq]; omega
  · intro i c a1 a2 a3
    show _ = evc ((_ :: A.2.1).getD i ev0) c
    have a1 : i < A.2.1.length + 1 := a1
    have e0 : (note A kind th its).2.1.length = A.2.1.length + 1 := rfl
    rw [e0, g2 _ _ _ _ (by omega)]
    simp only [wI_e, true_and]
    cases i with
    | zero =>
      have q : 4 * ((A.2.1.length + 1 - 1 - 0) % 40) + c = x + c := by rw [← hx]; omega
      rw [q]
      have : c = 0 ∨ c = 1 ∨ c = 2 ∨ c = 3 := by omega
      rcases this with rfl | rfl | rfl | rfl
      · rw [if_neg (by omega), if_neg (by omega), if_neg (by omega), if_pos (by omega)]; rfl
      · rw [if_neg (by omega), if_neg (by omega), if_pos (by omega)]; rfl
      · rw [if_neg (by omega), if_pos (by omega)]; rfl
      · rw [if_pos (by omega)]; rfl
    | succ i =>
      have q : A.2.1.length + 1 - 1 - (i + 1) = A.2.1.length - 1 - i := by omega
      rw [q, if_neg (by omega), if_neg (by omega), if_neg (by omega), if_neg (by omega)]
      exact hl.2.2 i c (by omega) (by omega) a3
  · intro i j
    rw [g2 _ _ _ _ (by omega), wI_kd (by omega), wI_kd (by omega), wI_kd (by omega), wI_kd (by omega)]
  · intro i j
    rw [g2 _ _ _ _ (by omega), wI_kd (by omega), wI_kd (by omega), wI_kd (by omega), wI_kd (by omega)]
  · rw [g2 _ _ _ _ (by omega), wI_kd (by omega), wI_kd (by omega), wI_kd (by omega), wI_kd (by omega)]
  · intro i j
    rw [g2 _ _ _ _ (by omega), wI_kd (by omega), wI_kd (by omega), wI_kd (by omega), wI_kd (by omega)]
theorem C.push (h : C g p k M0 T A stk M) (t : Nat) (hs : stk.length < 10) : C g p k M0 T A (t :: stk) (wI (wI M 16 k 0 stk.length (nI t)) 3 k 0 15 (nI (stk.length + 1))) := by
  have hl := h.2.2.2.1
  have hw := h.2.2.2.2.1
  have hst := h.2.2.2.2.2.1
  have hF := h.2.2.2.2.2.2
  refine h.cong rfl ?_ (hl.cong rfl ?_ ?_) (hw.cong rfl ?_ ?_) ⟨?_, ?_, ?_⟩ ((hF.wI (by omega) (by omega)).wI (by omega) (by omega))
  · intro kd i j a1 a2 a3 a4 a5 a6
    rw [wI_e, if_neg (by omega), wI_kd a5]
  · intro i j; rw [wI_kd (by omega), wI_kd (by omega)]
  · intro i j; rw [wI_kd (by omega), wI_kd (by omega)]
  · intro i j; rw [wI_kd (by omega), wI_kd (by omega)]
  · intro i j; rw [wI_kd (by omega), wI_kd (by omega)]
  · rw [wI_s]; rfl
  · rw [List.length_cons]; omega
  · intro i hi
    rw [List.length_cons] at hi
    rw [wI_kd (by omega), List.length_cons, wI_e]
    cases i with
    | zero => rw [if_pos (by omega)]; rfl
    | succ i =>
      rw [if_neg (by omega), show stk.length + 1 - 1 - (i + 1) = stk.length - 1 - i from by omega]
      exact hst.2.2 i (by omega)
theorem C.pop {t : Nat} (h : C g p k M0 T A (t :: stk) M) : C g p k M0 T A stk (wI M 3 k 0 15 (nI stk.length)) := by
  have hl := h.2.2.2.1
  have hw := h.2.2.2.2.1
  have hst := h.2.2.2.2.2.1
  have hF := h.2.2.2.2.2.2
  have h10 := hst.2.1
  rw [List.length_cons] at h10
  refine h.cong rfl ?_ (hl.cong rfl ?_ ?_) (hw.cong rfl ?_ ?_) ⟨?_, ?_, ?_⟩ (hF.wI (by omega) (by omega))
  · intro kd i j a1 a2 a3 a4 a5 a6
    rw [wI_e, if_neg (by omega)]
  · intro i j; rw [wI_kd (by omega)]
  · intro i j; rw [wI_kd (by omega)]
  · intro i j; rw [wI_kd (by omega)]
  · intro i j; rw [wI_kd (by omega)]
  · rw [wI_s]
  · omega
  · intro i hi
    have := hst.2.2 (i + 1) (by rw [List.length_cons]; omega)
    rw [wI_kd (by omega)]
    rw [List.length_cons, show stk.length + 1 - 1 - (i + 1) = stk.length - 1 - i from by omega] at this
    exact this
theorem C.top {t : Nat} (h : C g p k M0 T A (t :: stk) M) : M.1 3 k 0 15 = nI (stk.length + 1) ∧ M.1 16 k 0 stk.length = nI t := by
  have hst := h.2.2.2.2.2.1
  have := hst.2.2 0 (by rw [List.length_cons]; omega)
  rw [List.length_cons, show stk.length + 1 - 1 - 0 = stk.length from by omega] at this
  exact ⟨hst.1, this⟩
theorem C.s10 (h : C g p k M0 T A stk M) : stk.length ≤ 10 := h.2.2.2.2.2.1.2.1
theorem C.s15 (h : C g p k M0 T A stk M) : M.1 3 k 0 15 = nI stk.length := h.2.2.2.2.2.1.1
theorem c_end (h : C g p k M0 T A stk M) {t : Nat} (ht : t < T) {q z : Nat} (h1 : A.1 t 1 = nI z) (h2 : A.1 t 2 = nI q) (hqz : q ≤ z) (hz : z ≤ 16) (hs : stk.length < 10) : Sat (pX3_endIfThrough k (nI t) M) (fun _ M' => C g p k M0 T A (ps A t stk) M') := by
  have hT := h.T10
  have r7 : M.1 5 k t 7 = A.1 t 3 := h.th ht 3 rfl
  have r8 : M.1 5 k t 8 = A.1 t 2 := h.th ht 2 rfl
  have r3 : M.1 5 k t 3 = A.1 t 1 := h.th ht 1 rfl
  rw [pX3_endIfThrough, chk_h (inB_nI (by omega) (by omega)), cl (by omega), r7, r8, r3, h1, h2]
  unfold ps
  by_cases e3 : A.1 t 3 = 0
  · rw [if_neg (fun q => q e3)]
    by_cases e : q = z
    · subst e
      rw [if_neg (nI_nlt (Nat.le_refl _) (by omega)), h.s15, if_neg (show ¬ (10 : Int32) ≤ nI stk.length from nI_ge (b := 10) hs (by omega)), chk_h (inB_nI hs (by omega)), cl (by omega)]
      simp only [nm_def]
      rw [wI_kd (by omega), h.s15, nI_1, if_pos ⟨e3, by rw [h1, h2]⟩]
      exact S_ret (h.push t hs)
    · rw [if_pos (nI_lt (by omega) (by omega)), if_neg (fun c => e (nI_inj (by omega) (by omega) (by rw [← h2, ← h1]; exact c.2)))]
      exact S_ret h
  · rw [if_pos e3, if_neg (fun c => e3 c.1)]
    exact S_ret h
theorem c_lowF (h : C g p k M0 T A stk M) {t : Nat} : ∀ (m n i : Nat), i + m = 6 → m < n → pX1_lowestHeldBy_2 k n (nI t) (nI i) M = some (onI (lowF (A.1 11) (nI t) m i), M) := by
  intro m
  induction m with
  | zero =>
    intro n i hi hn
    obtain ⟨n, rfl⟩ : ∃ n', n = n' + 1 := ⟨n - 1, by omega⟩
    rw [pX1_lowestHeldBy_2, if_pos (show (6 : Int32) ≤ nI i from nI_le (a := 6) (by omega) (by omega))]
    rfl
  | succ m ih =>
    intro n i hi hn
    obtain ⟨n, rfl⟩ : ∃ n', n = n' + 1 := ⟨n - 1, by omega⟩
    rw [pX1_lowestHeldBy_2, if_neg (show ¬ (6 : Int32) ≤ nI i from nI_ge (b := 6) (by omega) (by omega)), chk_h (inB_nI (by omega) (by omega)), cl (by omega), h.ho (by omega), lowF]
    by_cases e : A.1 11 i = nI t
    · rw [if_neg (fun q => q e), if_pos e]
      rfl
    · rw [if_pos e, if_neg e, nI_1]
      exact ih n (i + 1) (by omega) (by omega)
theorem c_low (h : C g p k M0 T A stk M) (t : Nat) : pX1_lowestHeldBy k (nI t) M = some (onI (low A t), M) := c_lowF h 6 fu 0 rfl (by decide)
theorem c_waiter (h : C g p k M0 T A stk M) {l i : Nat} (hl : l < 6) (hi : i < 2147483000) : pX1_waiter k (nI l) (nI i) M = some (wt A l i, M) := by
  obtain ⟨h1, h2, h3⟩ := h.2.2.2.2.1 l hl
  rw [pX1_waiter, chk_h (inB_nI hl (by omega)), cl (by omega), h1]
  unfold wt
  by_cases e : i < (A.2.2 l).length
  · rw [if_neg (nI_ge e (by omega)), if_pos e, nI_m10, nI_add, chk_h (inB_nI (by omega) (by omega)), cl (by omega), h3 i e]
  · rw [if_pos (nI_le (by omega) (by omega)), if_neg e]
theorem C.wait (h : C g p k M0 T A stk M) {W' : Nat → List Nat} {M' : Mem} (e : ∀ kd i j, ¬ kd = 11 → ¬ kd = 12 → M'.1 kd k i j = M.1 kd k i j) (hw : Cwt k (A.1, A.2.1, W') M') (hF : Fk k M0 M') : C g p k M0 T (A.1, A.2.1, W') stk M' :=
  h.cong rfl (fun kd i j a1 a2 _ _ _ _ => e kd i j a1 a2) (h.2.2.2.1.cong rfl (fun i j => e _ _ _ (by omega) (by omega)) (fun i j => e _ _ _ (by omega) (by omega))) hw (h.2.2.2.2.2.1.cong (e _ _ _ (by omega) (by omega)) (fun i j => e _ _ _ (by omega) (by omega))) hF
theorem c_addWaiter (h : C g p k M0 T A stk M) {l : Nat} (hl : l < 6) (t : Nat) (hn : (A.2.2 l).length < 10) : Sat (pX1_addWaiter k (nI l) (nI t) M) (fun _ M' => C g p k M0 T (adW A l t) stk M') := by
  have hw := h.2.2.2.2.1
  obtain ⟨h1, h2, h3⟩ := hw l hl
  have hF := h.2.2.2.2.2.2
  have c0 : inB (nI l) 6 = true := inB_nI hl (by omega)
  have d0 : (nI l).toNatClampNeg = l := cl (by omega)
  rw [pX1_addWaiter]
  simp only [c0, d0, chk_t, h1, nI_m10, nI_add, nm_def]
  rw [if_neg (show ¬ (10 : Int32) ≤ nI _ from nI_ge (b := 10) hn (by omega)), chk_h (inB_nI (by omega) (by omega)), cl (by omega), wI_kd (by omega), h1, nI_1]
  refine S_ret (h.wait ?_ ?_ ((hF.wI (by omega) (by omega)).wI (by omega) (by omega)))
  · intro kd i j a1 a2
    rw [wI_kd a2, wI_kd a1]
  · intro l' hl'
    show _ = nI (if l' = l then A.2.2 l ++ [t] else A.2.2 l').length ∧ (if l' = l then A.2.2 l ++ [t] else A.2.2 l').length ≤ 10 ∧ ∀ i, i < (if l' = l then A.2.2 l ++ [t] else A.2.2 l').length → _ = nI ((if l' = l then A.2.2 l ++ [t] else A.2.2 l').getD i 0)
    by_cases e : l' = l
    · subst e
      simp only [if_true]
      have e1 : (A.2.2 l' ++ [t]).length = (A.2.2 l').length + 1 := by simp
      rw [e1, wI_s]
      refine ⟨rfl, by omega, fun i hi => ?_⟩
      rw [wI_kd (by omega), wI_e]
      by_cases e2 : i = (A.2.2 l').length
      · rw [if_pos (by omega), e2]
        simp
      · rw [if_neg (by omega), h3 i (by omega)]
        congr 1
        simp [List.getElem?_append_left (show i < (A.2.2 l').length by omega)]
    · simp only [if_neg e]
      obtain ⟨g1, g2, g3⟩ := hw l' hl'
      rw [wI_j (by omega), wI_kd (by omega)]
      refine ⟨g1, g2, fun i hi => ?_⟩
      rw [wI_kd (by omega), wI_j (by omega)]
      exact g3 i hi
end CLS
