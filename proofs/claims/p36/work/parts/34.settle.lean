/-! ===== ends, locks given up ===== -/
def bst (f : Nat → Int32) (w : List Nat) : Option Nat := match w with
  | [] => none
  | u :: us => some (us.foldl (fun b v => if f v ≤ f b then b else v) u)
def mk (T : Nat) (A : AS) (stk : List Nat) : AS := match stk with
  | [] => A
  | t :: _ => if A.1 t 3 = 3 then A else note (up A t 3 3) 5 (nI t) 0
def goB (A : AS) (u : Nat) : AS := up (inc A u 2) u 17 0
def nx (T : Nat) (A : AS) (l : Nat) : Option Nat := bst (pr T A) (A.2.2 l)
def gv0 (A : AS) (t l : Nat) : AS := up (note A 4 (nI t) (nI l)) 11 l (-1)
def gvu (A : AS) (t l u : Nat) : AS := goB (note (up (up (rmW (up (note A 4 (nI t) (nI l)) 11 l (nI u)) l u) u 3 0) u 8 (-1)) 3 (nI u) (nI l)) u
def gv1 (T : Nat) (A : AS) (t l : Nat) : AS := match nx T A l with
  | none => gv0 A t l
  | some u => gvu A t l u
def gvk (T : Nat) (A : AS) (t l : Nat) (stk : List Nat) : List Nat := match nx T A l with
  | none => stk
  | some u => ps (gvu A t l u) u stk
def stl (T : Nat) : Nat → List Nat → AS → AS
  | 0, _, A => A
  | _ + 1, [], A => A
  | n + 1, t :: r, A => match low A t with
    | none => stl T n r A
    | some l => stl T n (gvk T A t l (t :: r)) (mk T (gv1 T A t l) (gvk T A t l (t :: r)))
def fin (T : Nat) (A : AS) (stk : List Nat) : AS := stl T 64 stk (mk T A stk)
theorem bst_mem {f : Nat → Int32} {w : List Nat} {u : Nat} (h : bst f w = some u) : u ∈ w := by
  have aux : ∀ (us : List Nat) (b : Nat), us.foldl (fun b v => if f v ≤ f b then b else v) b ∈ b :: us := by
    intro us
    induction us with
    | nil => intro b; exact List.mem_cons_self
    | cons v us ih =>
      intro b
      rw [List.foldl_cons]
      have := ih (if f v ≤ f b then b else v)
      split at this
      · rename_i q
        rw [if_pos q]
        rcases List.mem_cons.mp this with e | e
        · rw [e]; exact List.mem_cons_self
        · exact List.mem_cons_of_mem _ (List.mem_cons_of_mem _ e)
      · rename_i q
        rw [if_neg q]
        rcases List.mem_cons.mp this with e | e
        · rw [e]; exact List.mem_cons_of_mem _ List.mem_cons_self
        · exact List.mem_cons_of_mem _ (List.mem_cons_of_mem _ e)
  unfold bst at h
  split at h
  · cases h
  · cases h
    exact aux _ _
section SETT
variable {g p : Bool} {k : Nat} {M0 : Mem} {T : Nat} {A : AS} {stk : List Nat} {M : Mem}
theorem getD_drop {w : List Nat} {i : Nat} (h : i < w.length) : w.drop i = w.getD i 0 :: w.drop (i + 1) := by
  rw [List.drop_eq_getElem_cons h]
  congr 1
  simp [List.getD, h]
theorem c_fw (h : C g true k M0 T A stk M) (hp : M.1 3 k 0 13 = 0) {l : Nat} (hl : l < 6) (hW : ∀ w, w ∈ A.2.2 l → w < T) : ∀ (m n i cur : Nat), i + m = 10 → m < n → cur < T → pX3_firstWaiter_12 k n (nI l) (nI cur) (nI i) M = some (nI (((A.2.2 l).drop i).foldl (fun b v => if pr T A v ≤ pr T A b then b else v) cur), M) := by
  have hT := h.T10
  have h10 := (h.2.2.2.2.1 l hl).2.1
  intro m
  induction m with
  | zero =>
    intro n i cur hi hn hc
    obtain ⟨n, rfl⟩ : ∃ n', n = n' + 1 := ⟨n - 1, by omega⟩
    rw [pX3_firstWaiter_12, if_pos (show (10 : Int32) ≤ nI i from nI_le (a := 10) (by omega) (by omega)), List.drop_eq_nil_of_le (by omega)]
    rfl
  | succ m ih =>
    intro n i cur hi hn hc
    obtain ⟨n, rfl⟩ : ∃ n', n = n' + 1 := ⟨n - 1, by omega⟩
    rw [pX3_firstWaiter_12, if_neg (show ¬ (10 : Int32) ≤ nI i from nI_ge (b := 10) (by omega) (by omega)), c_waiter h hl (by omega), bnd_some]
    unfold wt
    by_cases e : i < (A.2.2 l).length
    · have hm : (A.2.2 l).getD i 0 ∈ A.2.2 l := by
        rw [show (A.2.2 l).getD i 0 = (A.2.2 l)[i] from by simp [List.getD, e]]
        exact List.getElem_mem e
      have hw := hW _ hm
      rw [if_pos e, if_neg (m1_ne (by omega)), if_neg (m1_ne (by omega)), chk_h (inB_nI (by omega) (by omega)), chk_h (inB_nI (by omega) (by omega)), cl (by omega), cl (by omega), c_pr h hp hw, c_pr h hp hc, nI_1, getD_drop e, List.foldl_cons]
      by_cases e2 : pr T A ((A.2.2 l).getD i 0) ≤ pr T A cur
      · rw [if_pos e2, if_pos e2]
        exact ih n (i + 1) cur (by omega) (by omega) hc
      · rw [if_neg e2, if_neg e2]
        exact ih n (i + 1) _ (by omega) (by omega) hw
    · rw [if_neg e, if_pos rfl, nI_1, ih n (i + 1) cur (by omega) (by omega) hc, List.drop_eq_nil_of_le (by omega), List.drop_eq_nil_of_le (by omega)]
theorem c_fwN (h : C g p k M0 T A stk M) {l : Nat} (hl : l < 6) (hW : A.2.2 l = []) : ∀ (m n i : Nat), i + m = 10 → m < n → pX3_firstWaiter_12 k n (nI l) (-1) (nI i) M = some (-1, M) := by
  intro m
  induction m with
  | zero =>
    intro n i hi hn
    obtain ⟨n, rfl⟩ : ∃ n', n = n' + 1 := ⟨n - 1, by omega⟩
    rw [pX3_firstWaiter_12, if_pos (show (10 : Int32) ≤ nI i from nI_le (a := 10) (by omega) (by omega))]
  | succ m ih =>
    intro n i hi hn
    obtain ⟨n, rfl⟩ : ∃ n', n = n' + 1 := ⟨n - 1, by omega⟩
    rw [pX3_firstWaiter_12, if_neg (show ¬ (10 : Int32) ≤ nI i from nI_ge (b := 10) (by omega) (by omega)), c_waiter h hl (by omega), bnd_some]
    unfold wt
    rw [hW, if_neg (show ¬ i < ([] : List Nat).length from Nat.not_lt_zero _), if_pos rfl, nI_1]
    exact ih n (i + 1) (by omega) (by omega)
theorem c_first (h : C g true k M0 T A stk M) (hp : M.1 3 k 0 13 = 0) {l : Nat} (hl : l < 6) (hW : ∀ w, w ∈ A.2.2 l → w < T) : pX3_firstWaiter k (nI l) M = some (onI (nx T A l), M) := by
  have hT := h.T10
  have e0 := c_waiter h (i := 0) hl (by omega)
  rw [nI_0] at e0
  rw [pX3_firstWaiter, e0, bnd_some]
  unfold wt nx bst
  cases e : A.2.2 l with
  | nil =>
    rw [if_neg (by simp)]
    exact c_fwN h hl e 9 fu 1 rfl (by decide)
  | cons u us =>
    rw [if_pos (by simp)]
    have hu := hW u (by rw [e]; exact List.mem_cons_self)
    have := c_fw h hp hl hW 9 fu 1 u rfl (by decide) hu
    rw [e] at this
    exact this
/-- one who waits is taken out -/
def Rmv (k l u i n : Nat) (w : List Nat) (Mb M : Mem) : Prop := M.2 = Mb.2 ∧ (∀ kd k' i' j, ¬ (kd = 11 ∧ k' = k ∧ i' = 0 ∧ l * 10 ≤ j ∧ j < l * 10 + 10) → M.1 kd k' i' j = Mb.1 kd k' i' j) ∧ n = ((w.take i).filter (fun v => decide (¬ v = u))).length ∧
  (∀ j, j < n → M.1 11 k 0 (l * 10 + j) = nI (((w.take i).filter (fun v => decide (¬ v = u))).getD j 0)) ∧ ∀ j, i ≤ j → j < w.length → M.1 11 k 0 (l * 10 + j) = nI (w.getD j 0)
theorem take_s {w : List Nat} {i : Nat} (h : i < w.length) : w.take (i + 1) = w.take i ++ [w.getD i 0] := by
  rw [List.take_succ_eq_append_getElem h]
  congr 2
  simp [List.getD, h]
theorem c_rem {l : Nat} (hl : l < 6) {u : Nat} (hu : u < 10) {w : List Nat} (hw : ∀ v, v ∈ w → v < 10) (hn10 : w.length ≤ 10) {Mb : Mem} (h12 : Mb.1 12 k 0 l = nI w.length) {Q : Unit → Mem → Prop}
    (K : ∀ M, Rmv k l u w.length (w.filter (fun v => decide (¬ v = u))).length w Mb M → Q () (wI M 12 k 0 l (nI (w.filter (fun v => decide (¬ v = u))).length))) : ∀ (m n i kp : Nat) (M : Mem), i + m = w.length → m < n → Rmv k l u i kp w Mb M → Sat (pX1_removeWaiter_11 k n (nI l) (nI u) (nI (l * 10)) (nI kp) (nI i) M) Q := by
  intro m
  induction m with
  | zero =>
    intro n i kp M hi hn hR
    obtain ⟨n, rfl⟩ : ∃ n', n = n' + 1 := ⟨n - 1, by omega⟩
    have hi' : i = w.length := by omega
    subst hi'
    have e12 : M.1 12 k 0 l = nI w.length := by rw [hR.2.1 _ _ _ _ (by omega)]; exact h12
    have hk := hR.2.2.1
    rw [List.take_length] at hk
    rw [pX1_removeWaiter_11, chk_h (inB_nI hl (by omega)), cl (by omega), e12, if_pos (nI_le (Nat.le_refl _) (by omega)), chk_h (inB_nI hl (by omega)), nm_def, hk]
    rw [hk] at hR
    exact S_ret (K M hR)
  | succ m ih =>
    intro n i kp M hi hn hR
    obtain ⟨n, rfl⟩ : ∃ n', n = n' + 1 := ⟨n - 1, by omega⟩
    have e12 : M.1 12 k 0 l = nI w.length := by rw [hR.2.1 _ _ _ _ (by omega)]; exact h12
    have hkp : kp ≤ i := by
      rw [hR.2.2.1]
      exact Nat.le_trans (List.length_filter_le _ _) (by rw [List.length_take]; omega)
    have hwi : w.getD i 0 < 10 := hw _ (by
      rw [show w.getD i 0 = w[i]'(by omega) from by simp [List.getD, show i < w.length by omega]]
      exact List.getElem_mem _)
    rw [pX1_removeWaiter_11, chk_h (inB_nI hl (by omega)), cl (by omega), e12, if_neg (nI_ge (by omega) (by omega)), nI_add, chk_h (inB_nI (by omega) (by omega)), nm_def, cl (by omega), hR.2.2.2.2 i (Nat.le_refl _) (by omega), nI_1]
    by_cases e : w.getD i 0 = u
    · rw [if_pos (by rw [e])]
      refine ih n (i + 1) kp M (by omega) (by omega) ⟨hR.1, hR.2.1, ?_, ?_, fun j h1 h2 => hR.2.2.2.2 j (by omega) h2⟩
      · rw [take_s (by omega), e, List.filter_append, hR.2.2.1]
        simp
      · rw [take_s (by omega), List.filter_append]
        simp only [e, List.filter_cons, not_true, decide_false, List.filter_nil, if_false, List.append_nil, Bool.false_eq_true]
        exact hR.2.2.2.1
    · rw [if_neg (fun q => e (nI_inj (by omega) (by omega) q)), nI_add, chk_h (inB_nI (by omega) (by omega)), nm_def, cl (by omega), nI_1]
      have ef : (w.take (i + 1)).filter (fun v => decide (¬ v = u)) = (w.take i).filter (fun v => decide (¬ v = u)) ++ [w.getD i 0] := by
        rw [take_s (by omega), List.filter_append]
        generalize w.getD i 0 = x at e ⊢
        simp [e]
      refine ih n (i + 1) (kp + 1) _ (by omega) (by omega) ⟨hR.1, fun kd k' i' j hh => ?_, ?_, fun j hj => ?_, fun j h1 h2 => ?_⟩
      · rw [wI_e, if_neg (by omega)]
        exact hR.2.1 kd k' i' j hh
      · rw [ef, List.length_append, hR.2.2.1]; rfl
      · rw [ef, wI_e]
        by_cases ej : j = kp
        · rw [if_pos (by omega), ej, hR.2.2.1]
          simp
        · rw [if_neg (by omega), hR.2.2.2.1 j (by omega)]
          congr 1
          have : j < ((w.take i).filter (fun v => decide (¬ v = u))).length := by rw [← hR.2.2.1]; omega
          rw [List.getD_eq_getElem?_getD, List.getD_eq_getElem?_getD, List.getElem?_append_left this]
      · rw [wI_e, if_neg (by omega)]
        exact hR.2.2.2.2 j (by omega) h2
theorem c_remove (h : C g p k M0 T A stk M) {l : Nat} (hl : l < 6) {u : Nat} (hu : u < 10) (hW : ∀ w, w ∈ A.2.2 l → w < 10) : Sat (pX1_removeWaiter k (nI l) (nI u) M) (fun _ M' => C g p k M0 T (rmW A l u) stk M') := by
  have hw := h.2.2.2.2.1
  have hF := h.2.2.2.2.2.2
  obtain ⟨h1, h2, h3⟩ := hw l hl
  rw [pX1_removeWaiter, nm_def, nI_m10]
  refine c_rem hl hu hW h2 h1 (fun M' hR => ?_) (A.2.2 l).length fu 0 0 M (by omega) (by show _ < 4096; omega) ⟨rfl, fun _ _ _ _ _ => rfl, by simp, fun j hj => absurd hj (by omega), fun j _ hj => h3 j hj⟩
  have hR2 := hR.2.2.2.1
  rw [List.take_length] at hR2
  refine h.wait ?_ ?_ ⟨hR.1.trans hF.1, fun kd k' i j hh => ?_⟩
  · intro kd i j a1 a2
    rw [wI_kd a2]
    exact hR.2.1 _ _ _ _ (by omega)
  · intro l' hl'
    show _ = nI (if l' = l then (A.2.2 l).filter (fun v => decide (¬ v = u)) else A.2.2 l').length ∧ (if l' = l then (A.2.2 l).filter (fun v => decide (¬ v = u)) else A.2.2 l').length ≤ 10 ∧ ∀ i, i < (if l' = l then (A.2.2 l).filter (fun v => decide (¬ v = u)) else A.2.2 l').length → _ = nI ((if l' = l then (A.2.2 l).filter (fun v => decide (¬ v = u)) else A.2.2 l').getD i 0)
    by_cases e : l' = l
    · subst e
      simp only [if_true]
      rw [wI_s]
      refine ⟨rfl, Nat.le_trans (List.length_filter_le _ _) h2, fun i hi => ?_⟩
      rw [wI_kd (by omega)]
      exact hR2 i hi
    · simp only [if_neg e]
      obtain ⟨g1, g2, g3⟩ := hw l' hl'
      rw [wI_j (by omega), hR.2.1 _ _ _ _ (by omega)]
      refine ⟨g1, g2, fun i hi => ?_⟩
      rw [wI_kd (by omega), hR.2.1 _ _ _ _ (by omega)]
      exact g3 i hi
  · rw [wI_e, if_neg (by omega), hR.2.1 _ _ _ _ (by omega)]
    exact hF.2 kd k' i j hh
theorem c_adv (h : C g p k M0 T A stk M) {t : Nat} (ht : t < T) {q z : Nat} (h1 : A.1 t 1 = nI z) (h2 : A.1 t 2 = nI q) (hqz : q < z) (hz : z ≤ 16) (hs : stk.length < 10) : Sat (pX3_advance k (nI t) M) (fun _ M' => C g p k M0 T (goB A t) (ps (goB A t) t stk) M') := by
  have hT := h.T10
  have r8 : M.1 5 k t 8 = A.1 t 2 := h.th ht 2 rfl
  rw [pX3_advance, chk_h (inB_nI (by omega) (by omega)), cl (by omega), r8, nm_def, chk_h (inB_nI (by omega) (by omega)), nm_def]
  have h3 : C g p k M0 T (goB A t) stk _ := (h.put (f := 2) ht rfl (A.1 t 2 + 1)).put (f := 17) ht rfl 0
  refine S_bnd (c_end h3 ht (q := q + 1) (z := z) ?_ ?_ (by omega) hz hs) (fun _ M' h4 => S_ret h4)
  · show (up (inc A t 2) t 17 0).1 t 1 = _
    rw [up_b (by omega), inc_e, if_neg (by omega)]
    exact h1
  · show (up (inc A t 2) t 17 0).1 t 2 = _
    rw [up_b (by omega), inc_e, if_pos ⟨rfl, rfl⟩, h2, nI_1]
end SETT
