/-! ===== acts: what a state keeps through them; the class's methods ===== -/
theorem nodup_len {w : List Nat} {n : Nat} (h : w.Nodup) (hl : ∀ x, x ∈ w → x < n) : w.length ≤ n := by
  by_cases e : w.length ≤ n
  · exact e
  · exfalso
    have hm : ∀ i, i < w.length → w.getD i 0 < n := fun i hi => hl _ (by
      rw [show w.getD i 0 = w[i] from by simp [List.getD, hi]]
      exact List.getElem_mem _)
    obtain ⟨i, j, h1, h2, h3⟩ := php n (fun i => w.getD i 0) (fun i hi => hm i (by omega))
    have := List.pairwise_iff_getElem.mp h i j (by omega) (by omega) h1
    apply this
    have a : w.getD i 0 = w[i]'(by omega) := by simp [List.getD, show i < w.length by omega]
    have b : w.getD j 0 = w[j]'(by omega) := by simp [List.getD, show j < w.length by omega]
    rw [← a, ← b]; exact h3
/-- what bears on nothing is changed; permits and interrupts too, and what is one for all -/
theorem Inv_min {T ex : Nat} {A A' : AS} (h : Inv T ex A) (e1 : ∀ u b, u < T → ¬ b = 4 → ¬ b = 5 → ¬ b = 6 → ¬ b = 7 → ¬ b = 9 → ¬ b = 10 → ¬ b = 11 → ¬ b = 16 → A'.1 u b = A.1 u b) (h4 : ∀ u, u < T → A'.1 u 4 = 0 ∨ A'.1 u 4 = 1) (h5 : ∀ u, u < T → A'.1 u 5 = 0 ∨ A'.1 u 5 = 1) (e2 : ∀ a b, 11 ≤ a → A'.1 a b = A.1 a b) (e3 : A'.1 10 2 = A.1 10 2)
    (h6 : (0 ≤ (A'.1 10 4).toInt ∧ (A'.1 10 4).toInt ≤ 1000002) ∧ (∃ n, n < 256 ∧ A'.1 10 5 = nI n) ∧ 0 ≤ (A'.1 10 3).toInt) (eW : A'.2.2 = A.2.2) (eL : A.2.1.length ≤ A'.2.1.length) : Inv T ex A' := by
  obtain ⟨g1, g2, g3, g4, g5, -, g7⟩ := h
  have hT := g1.1
  have f : ∀ u b, u < T → (b < 4 ∨ b = 8 ∨ (12 ≤ b ∧ b < 16) ∨ b = 17) → A'.1 u b = A.1 u b := fun u b hu hb => e1 u b hu (by omega) (by omega) (by omega) (by omega) (by omega) (by omega) (by omega) (by omega)
  refine ⟨⟨hT, by rw [e3]; exact g1.2⟩, fun u hu => ?_, fun u hu hue => ?_, fun l hl => ?_, fun l hl => ?_, h6, fun u hu => ?_⟩
  · obtain ⟨a1, ⟨z, q, b1, b2, b3, b4, b5, b6⟩, a3, a4, a5, a6, a7⟩ := g2 u hu
    refine ⟨?_, ⟨z, q, ?_, ?_, b3, b4, ?_, fun j hj => ?_⟩, ?_, h4 u hu, h5 u hu, ?_, ?_⟩
    · rw [f _ _ hu (by omega)]; exact a1
    · rw [f _ _ hu (by omega)]; exact b1
    · rw [f _ _ hu (by omega)]; exact b2
    · rw [f _ _ hu (by omega), e2 _ _ (by omega), e2 _ _ (by omega)]; exact b5
    · rw [e2 _ _ (by omega), e2 _ _ (by omega)]; exact b6 j hj
    · rw [f _ _ hu (by omega)]; exact a3
    · rw [f _ _ hu (by omega), f _ _ hu (by omega)]
      intro z
      obtain ⟨l, v, c1, c2, c3, c4, c5⟩ := a6 z
      exact ⟨l, v, c1, c2, c3, by rw [e2 _ _ (by omega)]; exact c4, c5⟩
    · rw [f _ _ hu (by omega), f _ _ hu (by omega)]; exact a7
  · have := g3 u hu hue
    unfold ZI at this ⊢
    rw [f _ _ hu (by omega), f _ _ hu (by omega), f _ _ hu (by omega)]
    exact this
  · rw [e2 _ _ (by omega)]; exact g4 l hl
  · rw [eW]
    refine ⟨(g5 l hl).1, fun u => ?_⟩
    rw [(g5 l hl).2 u]
    exact and_congr_right (fun hu => by rw [f _ _ hu (by omega)])
  · have := g7 u hu
    unfold RI at this ⊢
    rw [f _ _ hu (by omega), f _ _ hu (by omega), f _ _ hu (by omega), f _ _ hu (by omega)]
    omega
theorem Inv.p4 {T ex : Nat} {A : AS} (h : Inv T ex A) : ∀ u, u < T → A.1 u 4 = 0 ∨ A.1 u 4 = 1 := fun u hu => (h.2.1 u hu).2.2.2.1
theorem Inv.p5 {T ex : Nat} {A : AS} (h : Inv T ex A) : ∀ u, u < T → A.1 u 5 = 0 ∨ A.1 u 5 = 1 := fun u hu => (h.2.1 u hu).2.2.2.2.1
theorem tl0_inv {T ex t x : Nat} {A : AS} (h : Inv T ex A) (ht : t < T) : Inv T ex (tl0 A t x) := by
  have hT := h.T10
  have r : ∀ a b, ¬ b = 6 → ¬ (a = 10 ∧ b = 11) → (tl0 A t x).1 a b = A.1 a b := fun a b q1 q2 => by
    unfold tl0
    rw [note_1, inc_e, if_neg q2, up_b q1]
  refine Inv_min h (fun u b hu _ _ q _ _ _ _ _ => r _ _ q (by omega)) (fun u hu => ?_) (fun u hu => ?_) (fun a b ha => ?_) (r _ _ (by omega) (by omega)) ?_ rfl (Nat.le_succ _)
  · rw [r _ _ (by omega) (by omega)]; exact h.p4 u hu
  · rw [r _ _ (by omega) (by omega)]; exact h.p5 u hu
  · unfold tl0
    rw [note_1, inc_e, if_neg (by omega), up_a (by omega)]
  · rw [r _ _ (by omega) (by omega), r _ _ (by omega) (by omega), r _ _ (by omega) (by omega)]; exact h.2.2.2.2.2.1
section CACT
variable {g : Bool} {k : Nat} {M0 : Mem} {T : Nat} {A : AS} {stk : List Nat} {M : Mem}
theorem c_tell (h : C g true k M0 T A [] M) (hI : Inv T 10 A) {t x : Nat} (ht : t < T) (hx : x < 2147483000) (hL : A.2.1.length + 1 < LIM) : Sat (pX3_tellOn k (nI t) (nI x) M) (fun _ M' => C g true k M0 T (tlA T A t x) (tlS T A t x) M') := by
  have hT := h.T10
  have r12 : M.1 5 k t 12 = A.1 t 6 := h.th ht 6 rfl
  rw [pX3_tellOn, chk_h (inB_nI (by omega) (by omega)), cl (by omega), r12]
  unfold tlA tlS
  by_cases e : A.1 t 6 = 1
  · rw [if_pos e, if_pos e, if_pos e, chk_h (inB_nI (by omega) (by omega))]
    refine S_w (h.put (f := 6) ht rfl 0) (fun M1 h1 => ?_)
    have r4 : M1.1 3 k 0 4 = nI T := (h1.gl 2 rfl).trans h1.1.1.2
    rw [r4]
    by_cases e2 : x < T
    · rw [if_pos e2, if_pos e2, if_neg (nI_ge e2 (by omega))]
      have r : M1.1 3 k 0 12 = _ := h1.gl 11 rfl
      rw [r]
      refine S_w (h1.putg (b := 11) rfl (by omega) (fun _ => by omega) _) (fun M2 h2 => ?_)
      refine S_bnd (c_add h2 (by show A.2.1.length < LIM; omega) 9 (nI t) (nI x)) (fun _ M3 h3 => ?_)
      exact S_bnd (c_wake (A := tl0 A t x) h3 (tl0_inv hI ht) e2 (nI t) hL) (fun _ M4 h4 => S_ret h4.2)
    · rw [if_neg e2, if_neg e2, if_pos (nI_le (by omega) (by omega))]
      exact S_ret h1
  · rw [if_neg e, if_neg e, if_neg e]
    exact S_ret h
theorem c_steal (h : C g true k M0 T A stk M) {t x : Nat} (ht : t < T) (hx : x < 2147483000) (hL : A.2.1.length < LIM) : Sat (pX3_stealPermit k (nI t) (nI x) M) (fun _ M' => C g true k M0 T (slA T A t x) stk M') := by
  have hT := h.T10
  have r4 : M.1 3 k 0 4 = nI T := (h.gl 2 rfl).trans h.1.1.2
  rw [pX3_stealPermit, r4]
  unfold slA
  by_cases e : T ≤ x
  · rw [if_pos e, if_pos (nI_le e (by omega))]
    exact S_ret h
  · rw [if_neg e, if_neg (nI_ge (by omega) (by omega))]
    by_cases e2 : x = t
    · rw [if_pos e2, if_pos (by rw [e2])]
      exact S_ret h
    · have r10 : M.1 5 k x 10 = A.1 x 4 := h.th (by omega) 4 rfl
      rw [if_neg e2, if_neg (fun q => e2 (nI_inj (by omega) (by omega) q)), chk_h (inB_nI (by omega) (by omega)), cl (by omega), r10]
      by_cases e4 : A.1 x 4 = 0
      · rw [if_pos e4, if_neg (fun q => q e4)]
        exact S_ret h
      · rw [if_neg e4, if_pos e4, chk_h (inB_nI (by omega) (by omega)), chk_h b01_0]
        refine S_w (h.put (f := 4) (t := x) (by omega) rfl 0) (fun M1 h1 => ?_)
        rw [chk_h (inB_nI (by omega) (by omega)), chk_h b01_1, cl (by omega)]
        refine S_w (h1.put (f := 4) ht rfl 1) (fun M2 h2 => ?_)
        have r : M2.1 3 k 0 11 = _ := h2.gl 10 rfl
        rw [r]
        refine S_w (h2.putg (b := 10) rfl (by omega) (fun _ => by omega) _) (fun M3 h3 => ?_)
        exact S_bnd (c_add h3 hL 8 (nI t) (nI x)) (fun _ M4 h4 => S_ret h4)
theorem c_fail (h : C g true k M0 T A stk M) {t : Nat} (ht : t < T) (hL : A.2.1.length < LIM) : Sat (pX3_fail k (nI t) M) (fun _ M' => C g true k M0 T (flA A t) stk M') := by
  have hT := h.T10
  rw [pX3_fail, chk_h (inB_nI (by omega) (by omega)), cl (by omega)]
  refine S_w (h.put (f := 3) ht rfl 4) (fun M1 h1 => ?_)
  have r8 : M1.1 5 k t 8 = A.1 t 2 := (h1.th ht 2 rfl).trans (up_b (by omega))
  rw [chk_h (inB_nI (by omega) (by omega)), r8]
  exact S_bnd (c_add h1 hL 6 (nI t) (A.1 t 2)) (fun _ M2 h2 => S_ret h2)
theorem c_lock (h : C g true k M0 T A [] M) (hI : Inv T 10 A) {t l : Nat} (ht : t < T) (hl : l < 6) (h3 : A.1 t 3 = 0) (hL : A.2.1.length < LIM) : Sat (pX3_takeLock k (nI t) (nI l) M) (fun o M' => o = (if A.1 11 l = -1 then 1 else 0) ∧ C g true k M0 T (lkA A t l) [] M') := by
  have hT := h.T10
  have ho := h.ho hl
  rw [pX3_takeLock, chk_h (inB_nI (by omega) (by omega)), chk_h (inB_nI (by omega) (by omega)), cl (by omega), cl (by omega), ho]
  unfold lkA
  by_cases e : A.1 11 l = -1
  · have hw : A.2.2 l = [] := by
      cases q : A.2.2 l with
      | nil => rfl
      | cons u us =>
        exfalso
        obtain ⟨hu, hu8, hu3⟩ := hI.wat hl (u := u) (by rw [q]; exact List.mem_cons_self)
        obtain ⟨-, -, -, -, -, a6, -⟩ := hI.2.1 u hu
        obtain ⟨l', v, c1, c2, c3, c4, -⟩ := a6 hu3
        rw [hu8] at c2
        have := nI_inj (by omega) (by omega) c2
        subst this
        rw [e] at c4
        exact m1_ne (by omega) c4.symm
    rw [if_neg (fun q => q e), if_pos e, if_pos e, chk_h (inB_nI (by omega) (by omega))]
    refine S_w (h.puth hl (v := nI t) (fun _ _ u hu => pr_hold hT hI.hi (fun v hv => hI.none hl hw hv) hu)) (fun M1 h1 => ?_)
    refine S_bnd (c_add h1 hL 3 (nI t) (nI l)) (fun _ M2 h2 => ?_)
    rw [chk_h b01_1]
    exact S_ret ⟨rfl, h2⟩
  · rw [if_pos e, if_neg e, if_neg e, chk_h (inB_nI (by omega) (by omega))]
    by_cases e2 : A.1 11 l = nI t
    · rw [if_neg (fun q => q e2), if_pos e2]
      refine S_bnd (c_fail h ht hL) (fun _ M1 h1 => ?_)
      rw [chk_h b01_0]
      exact S_ret ⟨rfl, h1⟩
    · rw [if_pos e2, if_neg e2]
      refine S_w (h.weak.put' (f := 3) ht rfl (by omega) (fun q => (nomatch q)) 2) (fun M1 h1 => ?_)
      refine S_w (h1.put' (f := 8) ht rfl (by omega) (fun q => (nomatch q)) (nI l)) (fun M2 h2 => ?_)
      have hlen : (A.2.2 l).length < 10 := by
        have hnt : ¬ t ∈ A.2.2 l := fun q => by
          have := (hI.wat hl q).2.2
          rw [h3] at this
          exact absurd this (by decide)
        have := nodup_len (w := t :: A.2.2 l) (n := T) (List.nodup_cons.mpr ⟨hnt, (hI.2.2.2.2.1 l hl).1⟩) (fun x hx => by
          rcases List.mem_cons.mp hx with q | q
          · rw [q]; exact ht
          · exact hI.wlt hl x q)
        rw [List.length_cons] at this
        omega
      refine S_bnd (c_addWaiter h2 hl t hlen) (fun _ M3 h3 => ?_)
      rw [chk_h b01_1]
      refine S_w (h3.mark (p' := true)) (fun M4 h4 => ?_)
      refine S_bnd (c_add h4 hL 2 (nI t) (nI l)) (fun _ M5 h5 => ?_)
      rw [chk_h b01_0]
      exact S_ret ⟨rfl, h5⟩
theorem c_flagOn (h : C g true k M0 T A stk M) (f : Nat) : pX3_isFlagOn k (nI f) M = some ((if onF A f = true then 1 else 0), M) := by
  have r : M.1 3 k 0 8 = A.1 10 5 := h.gl 5 rfl
  rw [pX3_isFlagOn, r, chk_h b01_0, chk_h b01_1]
  unfold onF
  by_cases e : (((A.1 10 5) >>> (nI f &&& 31)) &&& (1 : Int32)) = 1
  · rw [if_neg (fun q => q e), if_pos (by simpa using e)]
  · rw [if_pos e, if_neg (by simpa using e)]
theorem c_turn (h : C g true k M0 T A stk M) (f : Nat) (b : Bool) : Sat (pX3_turnFlag k (nI f) (if b = true then 1 else 0) M) (fun _ M' => C g true k M0 T (stF A f b) stk M') := by
  have r : M.1 3 k 0 8 = A.1 10 5 := h.gl 5 rfl
  rw [pX3_turnFlag, r]
  unfold stF
  cases b with
  | true =>
    rw [if_pos rfl, if_neg (by decide), if_pos rfl]
    exact S_w (h.putg (b := 5) rfl (by omega) (fun _ => by omega) _) (fun M1 h1 => S_ret h1)
  | false =>
    rw [if_pos (show (if false = true then (1 : Int32) else 0) = 0 from rfl), if_neg (show ¬ false = true by decide)]
    exact S_w (h.putg (b := 5) rfl (by omega) (fun _ => by omega) _) (fun M1 h1 => S_ret h1)
end CACT
