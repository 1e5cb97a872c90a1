/-! ===== what holds between the law's calls ===== -/
def Br (c m : Int32) : Prop := ∃ b, b < 256 ∧ m = nI b ∧ c = (if b < 128 then nI b else nI b - 256)
def Tx (M : Mem) : Prop := ∃ n, n ≤ 800 ∧ M.1 1 0 0 1 = nI n ∧ M.1 19 0 0 9 = nI n ∧ ∀ i, i < n → Br (M.1 2 0 0 i) (M.1 27 0 0 i)
def Ex (M : Mem) : Prop := M.1 1 0 0 2 = M.1 19 0 0 15 ∧ M.1 1 0 0 3 = M.1 19 0 0 16
def Tb (M : Mem) : Prop := ∀ c, c < 11 → M.1 25 0 0 c = xLeast.getD c 0 ∧ M.1 26 0 0 c = xMost.getD c 0
def Bd (n : Nat) (A : AS) : Prop := A.2.1.length ≤ 4600 * n ∧ (A.1 10 3).toInt ≤ n
def Sv1 (n : Nat) (M : Mem) (i : Nat) : Prop := M.1 18 0 0 i = M.1 24 0 0 i ∧ (M.1 18 0 0 i = 0 ∨ (M.1 18 0 0 i = 1 ∧ ∃ T A, C true true (i + 2) M T A [] M ∧ Dv 0 (fun j => M.1 23 0 0 (700 * i + j)) T A ∧ Inv T 10 A ∧ Bd n A))
def Rst (n : Nat) (M : Mem) : Prop := (∀ i, i < 2 → Sv1 n M i) ∧ Tb M ∧ Tx M ∧ Ex M
def J (n : Nat) (M : Mem) : Prop := ∃ T A, C true true 0 M T A [] M ∧ D M T A [] M ∧ Inv T 10 A ∧ Bd n A ∧ Rst n M
section LAWF
variable {g p : Bool} {k n : Nat} {M0 : Mem} {T : Nat} {A : AS} {stk gv : List Nat} {M M' : Mem}
theorem C.mv (h : C g p k M0 T A stk M) (e : ∀ kd i j, 3 ≤ kd → kd ≤ 16 → M'.1 kd k i j = M.1 kd k i j) : C g p k M' T A stk M' := by
  obtain ⟨⟨hT, hth, hgl, hho, hco⟩, hg, hpp, hl, hw, hs, -⟩ := h
  refine ⟨⟨hT, fun t f ht hf => ?_, fun b hb => ?_, fun l hl => ?_, fun t j ht hj hj2 => ?_⟩, fun q t ht => ?_, fun q q2 t ht => ?_, ⟨hl.1, ?_, fun i c a1 a2 a3 => ?_⟩, fun l hl => ⟨?_, (hw l hl).2.1, fun i hi => ?_⟩, ⟨?_, hs.2.1, fun i hi => ?_⟩, Fk.refl k M'⟩
  · have := kdf_58 f
    rw [e _ _ _ (by omega) (by omega)]; exact hth t f ht hf
  · have := kdg_315 b
    rw [e _ _ _ (by omega) (by omega)]; exact hgl b hb
  · rw [e _ _ _ (by omega) (by omega)]; exact hho l hl
  · rw [e _ _ _ (by omega) (by omega), e _ _ _ (by omega) (by omega)]; exact hco t j ht hj hj2
  · rw [e _ _ _ (by omega) (by omega)]; exact hg q t ht
  · rw [e _ _ _ (by omega) (by omega)] at q2
    rw [e _ _ _ (by omega) (by omega)]; exact hpp q q2 t ht
  · intro j b1 b2; rw [e _ _ _ (by omega) (by omega)]; exact hl.2.1 j b1 b2
  · rw [e _ _ _ (by omega) (by omega)]; exact hl.2.2 i c a1 a2 a3
  · rw [e _ _ _ (by omega) (by omega)]; exact (hw l hl).1
  · rw [e _ _ _ (by omega) (by omega)]; exact (hw l hl).2.2 i hi
  · rw [e _ _ _ (by omega) (by omega)]; exact hs.1
  · rw [e _ _ _ (by omega) (by omega)]; exact hs.2.2 i hi
theorem Dv.cong {s : Nat} {rd rd' : Nat → Int32} (h : Dv s rd T A) (e : ∀ j, j < 700 → rd' j = rd j) : Dv s rd' T A := by
  obtain ⟨hT, hth, hgl, hho, hco, ⟨l1, l2, l3, l4⟩, hw1, hw2, hw3⟩ := h
  have hT10 := hT.1
  refine ⟨hT, fun t f ht hf => ?_, fun b hb => ?_, fun l hl => ?_, fun t j ht hj hj2 => ?_, ⟨l1, ?_, ?_, fun i c a1 a2 a3 => ?_⟩, ?_, ?_, fun l hl => ⟨fun u hu => ?_, ?_⟩⟩
  · rw [e _ (by omega)]; exact hth t f ht hf
  · have := okg_n b hb
    rw [e _ (by omega)]; exact hgl b hb
  · rw [e _ (by omega)]; exact hho l hl
  · rw [e _ (by omega), e _ (by omega)]; exact hco t j ht hj hj2
  · rw [e _ (by omega)]; exact l2
  · rw [e _ (by omega)]; exact l3
  · rw [e _ (by omega)]; exact l4 i c a1 a2 a3
  · rw [e _ (by omega)]; exact hw1
  · rw [e _ (by omega)]; exact hw2
  · obtain ⟨k1, k2, k3⟩ := (hw3 l hl).1 u hu
    rw [e _ (by omega), e _ (by omega)]; exact ⟨k1, k2, k3⟩
  · refine List.Pairwise.imp_of_mem (fun {x y} hx hy q => ?_) (hw3 l hl).2
    have := ((hw3 l hl).1 x hx).1
    have := ((hw3 l hl).1 y hy).1
    rw [e _ (by omega), e _ (by omega)]; exact q
theorem D.mv (h : D M0 T A gv M) (e20 : ∀ j, M'.1 20 0 0 j = M.1 20 0 0 j) (e29 : ∀ j, M'.1 29 0 0 j = M.1 29 0 0 j) (e19 : M'.1 19 0 0 20 = M.1 19 0 0 20) : D M' T A gv M' :=
  ⟨h.1.cong (fun j _ => e20 j), ⟨by rw [e19]; exact h.2.1.1, h.2.1.2.1, fun i hi => by rw [e29]; exact h.2.1.2.2 i hi⟩, Fm.refl M'⟩
theorem Rst.mv (h : Rst n M) (e1 : ∀ kd k i j, 2 ≤ k → 3 ≤ kd → kd ≤ 16 → M'.1 kd k i j = M.1 kd k i j) (e2 : ∀ kd j, kd = 1 ∨ kd = 2 ∨ kd = 18 ∨ kd = 23 ∨ kd = 24 ∨ kd = 25 ∨ kd = 26 ∨ kd = 27 → M'.1 kd 0 0 j = M.1 kd 0 0 j) (e3 : ∀ j, j = 9 ∨ j = 15 ∨ j = 16 → M'.1 19 0 0 j = M.1 19 0 0 j) : Rst n M' := by
  obtain ⟨h1, h2, ⟨nn, t1, t2, t3, t4⟩, x1, x2⟩ := h
  refine ⟨fun i hi => ?_, fun c hc => ?_, ⟨nn, t1, ?_, ?_, fun i hi => ?_⟩, ?_, ?_⟩
  · obtain ⟨s1, s2⟩ := h1 i hi
    refine ⟨by rw [e2 18 i (by omega), e2 24 i (by omega)]; exact s1, ?_⟩
    rcases s2 with s2 | ⟨s2, T, A, k1, k2, k3⟩
    · left; rw [e2 18 i (by omega)]; exact s2
    · right
      exact ⟨by rw [e2 18 i (by omega)]; exact s2, T, A, k1.mv (fun kd i' j q1 q2 => e1 _ _ _ _ (by omega) q1 q2), k2.cong (fun j _ => e2 23 _ (by omega)), k3⟩
  · rw [e2 25 c (by omega), e2 26 c (by omega)]; exact h2 c hc
  · rw [e2 1 1 (by omega)]; exact t2
  · rw [e3 9 (by omega)]; exact t3
  · rw [e2 2 i (by omega), e2 27 i (by omega)]; exact t4 i hi
  · rw [e2 1 2 (by omega), e3 15 (by omega)]; exact x1
  · rw [e2 1 3 (by omega), e3 16 (by omega)]; exact x2
theorem Rst.le {m : Nat} (h : Rst n M) (hm : n ≤ m) : Rst m M := by
  refine ⟨fun i hi => ?_, h.2⟩
  obtain ⟨s1, s2⟩ := h.1 i hi
  refine ⟨s1, ?_⟩
  rcases s2 with s2 | ⟨s2, T, A, k1, k2, k3, k4⟩
  · exact Or.inl s2
  · exact Or.inr ⟨s2, T, A, k1, k2, k3, by have := k4.1; omega, by have := k4.2; omega⟩
theorem Bd.le {m : Nat} (h : Bd n A) (hm : n ≤ m) : Bd m A := ⟨by have := h.1; omega, by have := h.2; omega⟩
/-- the class's machine 0 changed -/
theorem D.fk (h : D M0 T A gv M) {k : Nat} (hF : Fk k M M') : D M' T A gv M' := h.mv (fun j => hF.2 _ _ _ _ (by omega)) (fun j => hF.2 _ _ _ _ (by omega)) (hF.2 _ _ _ _ (by omega))
theorem Rst.fk (h : Rst n M) {k : Nat} (hk : k < 2) (hF : Fk k M M') : Rst n M' := h.mv (fun kd k' i j q _ _ => hF.2 _ _ _ _ (Or.inl (by omega))) (fun kd j q => hF.2 _ _ _ _ (by omega)) (fun j q => hF.2 _ _ _ _ (by omega))
theorem C.fk (h : C g p k M0 T A stk M) {k' : Nat} (hk : ¬ k = k') (hF : Fk k' M M') : C g p k M' T A stk M' := h.mv (fun kd i j _ _ => hF.2 _ _ _ _ (Or.inl hk))
theorem C.re (h : C g p k M0 T A stk M) : C g p k M T A stk M := h.mv (fun _ _ _ _ _ => rfl)
theorem C.fkk (h : C g p k M0 T A stk M) : Fk k M0 M := h.2.2.2.2.2.2
theorem D.re (h : D M0 T A gv M) : D M T A gv M := h.mv (fun _ => rfl) (fun _ => rfl) rfl
/-- the reference changed -/
theorem C.fm (h : C g p k M0 T A stk M) (hF : Fm M M') : C g p k M' T A stk M' := h.mv (fun kd i j _ _ => hF.2 _ _ _ _ (by omega) (by omega) (by omega) (by omega))
theorem Rst.fm (h : Rst n M) (hF : Fm M M') : Rst n M' := h.mv (fun kd k i j _ q1 q2 => hF.2 _ _ _ _ (by omega) (by omega) (by omega) (by omega)) (fun kd j q => hF.2 _ _ _ _ (by omega) (by omega) (by omega) (by omega)) (fun j q => hF.2 _ _ _ _ (by omega) (by omega) (by omega) (by omega))
/-- the law's rows, the thrown number -/
theorem wO_1 {v : Int64} : (wO M v).1 = M.1 := rfl
theorem wD_1 {v : UInt64} : (wD M v).1 = M.1 := rfl
theorem C.wo (h : C g p k M0 T A stk M) (v : Int64) : C g p k (wO M v) T A stk (wO M v) := h.mv (fun _ _ _ _ _ => rfl)
theorem D.wo (h : D M0 T A gv M) (v : Int64) : D (wO M v) T A gv (wO M v) := h.mv (fun _ => rfl) (fun _ => rfl) rfl
theorem Rst.wo (h : Rst n M) (v : Int64) : Rst n (wO M v) := h.mv (fun _ _ _ _ _ _ _ => rfl) (fun _ _ _ => rfl) (fun _ _ => rfl)
theorem C.w7 (h : C g p k M0 T A stk M) (v : Int32) : C g p k (wI M 19 0 0 7 v) T A stk (wI M 19 0 0 7 v) := h.mv (fun kd i j _ _ => wI_kd (by omega))
theorem D.w7 (h : D M0 T A gv M) (v : Int32) : D (wI M 19 0 0 7 v) T A gv (wI M 19 0 0 7 v) := h.mv (fun _ => wI_kd (by omega)) (fun _ => wI_kd (by omega)) (wI_j (by omega))
theorem Rst.w7 (h : Rst n M) (v : Int32) : Rst n (wI M 19 0 0 7 v) := h.mv (fun kd k i j q _ _ => wI_k (by omega)) (fun kd j q => wI_kd (by omega)) (fun j q => wI_j (by omega))
/-- one call of the law: both sides, their throws and answers alike, what holds goes on -/
def LC {β : Type} (q : β → Int64 → Prop) (r : Option (Except Nat Int32 × Mem)) (f : Mem → Option (β × Mem)) (n : Nat) : Prop := ∃ M1 k b M2, r = some (.ok k, M1) ∧ f M1 = some (b, M2) ∧ M2.1 19 0 0 7 = k ∧ (k = 0 → q b M2.2.2.1) ∧ J n M2
def qI (b : Int32) (o : Int64) : Prop := o = b.toInt64
def qB (b : Int32) (o : Int64) : Prop := (b = 0 ∧ o = 0) ∨ (b = 1 ∧ o = 1)
def qU (_ : Unit) (_ : Int64) : Prop := True
/-- a range -/
def rng (v lo hi : Int32) : Bool := decide (¬ v < lo ∧ v ≤ hi)
theorem c_rng (v lo hi : Int32) : pX7_needInRange v lo hi M = if rng v lo hi = true then some (.ok (), M) else some (.error 2, M) := by
  rw [pX7_needInRange, pX7_needInRange_10]
  unfold rng
  by_cases e : v < lo
  · rw [if_pos e, if_neg (by simp [e])]
  · rw [if_neg e]
    by_cases e2 : v ≤ hi
    · rw [if_pos e2, if_pos (by simp [e, e2])]; rfl
    · rw [if_neg e2, if_neg (by simp [e2])]
theorem m_rng (v lo hi : Int32) : pX8_isBetween v lo hi M = some ((if rng v lo hi = true then 1 else 0), M) := by
  rw [m_btw]
  unfold rng
  by_cases e : v < lo
  · rw [if_pos e, if_neg (by simp [e])]
  · rw [if_neg e]
    by_cases e2 : v ≤ hi
    · rw [if_neg (show ¬ hi < v by rw [i32_lt]; rw [i32_le] at e2; omega), if_pos (by simp [e, e2])]
    · rw [if_pos (show hi < v by rw [i32_lt]; rw [i32_le] at e2; omega), if_neg (by simp [e2])]
theorem rng_t {v lo hi : Int32} (h : rng v lo hi = true) : lo.toInt ≤ v.toInt ∧ v.toInt ≤ hi.toInt := by
  unfold rng at h
  obtain ⟨h1, h2⟩ := of_decide_eq_true h
  rw [i32_lt] at h1
  rw [i32_le] at h2
  exact ⟨by omega, h2⟩
theorem rng_n {v hi : Int32} (h : rng v 0 hi = true) {m : Nat} (hm : hi.toInt ≤ m) : ∃ x, x ≤ m ∧ v = nI x := by
  obtain ⟨h1, h2⟩ := rng_t h
  rw [i32_0] at h1
  exact ⟨v.toNatClampNeg, num_le h1 (by omega), (nI_self h1).symm⟩
theorem c_idx (v hi : Int32) : pX7_needIndex v hi M = if (decide (¬ v < 0 ∧ v < hi)) = true then some (.ok (), M) else some (.error 3, M) := by
  rw [pX7_needIndex, pX7_needIndex_9]
  by_cases e : v < 0
  · rw [if_pos e, if_neg (by simp [e])]
  · rw [if_neg e]
    by_cases e2 : v < hi
    · rw [if_pos e2, if_pos (by simp [e, e2])]; rfl
    · rw [if_neg e2, if_neg (by simp [e2])]
def isT (T : Nat) (v : Int32) : Bool := decide (¬ v < 0 ∧ v < nI T)
theorem isT_t {v : Int32} (hT : T ≤ 10) (h : isT T v = true) : ∃ t, t < T ∧ v = nI t := by
  unfold isT at h
  obtain ⟨h1, h2⟩ := of_decide_eq_true h
  obtain ⟨j, hj, rfl⟩ := nI_of h1
  exact ⟨j, (nI_ltI hj (by omega)).mp h2, rfl⟩
theorem isT_n {t : Nat} (ht : t < T) (hT : T ≤ 10) : isT T (nI t) = true := decide_eq_true ⟨nI_pos (by omega), nI_lt ht (by omega)⟩
theorem c_thr (h : C g p 0 M0 T A stk M) (v : Int32) : pX7_needThread v M = if isT T v = true then some (.ok (), M) else some (.error 3, M) := by
  rw [pX7_needThread, h.cnt4, c_idx]
  unfold isT
  split <;> rfl
theorem m_thr (h : D M0 T A gv M) (v : Int32) : pX8_isThread v M = some ((if isT T v = true then 1 else 0), M) := by
  have hT := h.T10
  by_cases e : v < 0
  · rw [m_isTn h e, if_neg (by unfold isT; simp [e])]
  · obtain ⟨j, hj, rfl⟩ := nI_of e
    rw [m_isT h (by omega)]
    by_cases e2 : j < T
    · rw [if_pos e2, if_pos (isT_n e2 hT)]
    · rw [if_neg e2, if_neg (fun q => by
        unfold isT at q
        exact e2 ((nI_ltI hj (by omega)).mp (of_decide_eq_true q).2))]
end LAWF
