/-! ===== the class gives up locks and settles ===== -/
theorem hop_hold {T l : Nat} {s : SF} {v : Int32} (hh : Hi T s) (hn : ∀ u, u < T → ¬ s u 8 = nI l) : hop T (up2 s 11 l v) = hop T s ∨ ¬ T ≤ 10 := by
  by_cases hT : T ≤ 10
  · left
    funext u
    unfold hop
    by_cases hu : u < T
    · have e1 : up2 s 11 l v u 8 = s u 8 := by
        unfold up2
        rw [if_neg (by omega)]
      rw [if_pos hu, if_pos hu, e1]
      rcases hh.1 u hu with e | ⟨l', hl', e⟩
      · rw [if_pos e, if_pos e]
      · have e2 : up2 s 11 l v 11 (s u 8).toNatClampNeg = s 11 (s u 8).toNatClampNeg := by
          unfold up2
          rw [if_neg]
          rintro ⟨-, q⟩
          rw [e, cl (by omega)] at q
          exact hn u hu (by rw [← q]; exact e)
        rw [e2]
    · rw [if_neg hu, if_neg hu]
  · right; exact hT
theorem pr_hold {T l t : Nat} {A : AS} {v : Int32} (hT : T ≤ 10) (hh : Hi T A.1) (hn : ∀ u, u < T → ¬ A.1 u 8 = nI l) (ht : t < T) : pr T (up A 11 l v) t = pr T A t := by
  refine pr_congr ?_ ?_ (fun u hu => up_a (by omega)) ht
  · exact up_a (by omega)
  · rcases hop_hold (v := v) hh hn with e | e
    · exact e
    · exact absurd hT e
section CSET
variable {g : Bool} {k : Nat} {M0 : Mem} {T : Nat} {A : AS} {stk : List Nat} {M : Mem}
theorem c_giveUp (h : C g true k M0 T A stk M) (hI : Inv T 10 A) {l t : Nat} (hl : l < 6) (ht : A.1 11 l = nI t) (htT : t < T) (hn : A.2.1.length + 3 ≤ LIM) (hs : ∀ u, nx T A l = some u → stk.length < 10) : Sat (pX3_giveUp k (nI l) M) (fun _ M' => C g true k M0 T (gv1 T A t l) (gvk T A t l stk) M') := by
  have hT := hI.T10
  rw [pX3_giveUp]
  refine S_bnd (c_refresh h hI.hi hI.base) (fun _ M1 h1 => ?_)
  obtain ⟨h1, hp⟩ := h1
  rw [c_first h1 hp hl (hI.wlt hl), bnd_some, chk_h (inB_nI hl (by omega)), cl (by omega), h1.ho hl, ht]
  refine S_bnd (c_add h1 (by omega) 4 (nI t) (nI l)) (fun _ M2 h2 => ?_)
  rw [chk_h (inB_nI hl (by omega))]
  unfold gv1 gvk
  cases e : nx T A l with
  | none =>
    have hw := nx_none e
    rw [onI_none]
    refine S_w (h2.puth hl (v := -1) (fun _ _ u hu => pr_hold hT hI.hi (fun v hv => hI.none hl hw hv) hu)) (fun M3 h3 => ?_)
    rw [if_neg (fun q => q rfl)]
    exact S_ret h3
  | some u =>
    have hw := nx_some e
    obtain ⟨hu, hu8, hu3⟩ := hI.wat hl hw
    obtain ⟨-, ⟨z, q, b1, b2, b3, b4, -, -⟩, -⟩ := hI.2.1 u hu
    have hq : q < z := by
      have := hI.2.2.1 u hu (by omega) (Or.inr hu3)
      rw [b1, b2] at this
      have : ¬ q = z := fun e => this (by rw [e])
      omega
    rw [onI_some]
    refine S_w (h2.weak.puth hl (v := nI u) (fun q => (nomatch q))) (fun M3 h3 => ?_)
    rw [if_pos (m1_ne (by omega))]
    refine S_bnd (c_remove h3 hl (show u < 10 by omega) (fun w hw => by have := hI.wlt hl w hw; omega)) (fun _ M4 h4 => ?_)
    rw [chk_h (inB_nI (by omega) (by omega)), cl (by omega)]
    refine S_w (h4.put' (f := 3) hu rfl (by omega) (fun q => (nomatch q)) 0) (fun M5 h5 => ?_)
    rw [chk_h (inB_nI (by omega) (by omega))]
    refine S_w (h5.put' (f := 8) hu rfl (by omega) (fun q => (nomatch q)) (-1)) (fun M6 h6 => ?_)
    rw [chk_h b01_1]
    refine S_w (h6.mark (p' := true)) (fun M7 h7 => ?_)
    refine S_bnd (c_add h7 (by show A.2.1.length + 1 < LIM; omega) 3 (nI u) (nI l)) (fun _ M8 h8 => ?_)
    have r1 : ∀ b, ¬ b = 3 → ¬ b = 8 → (note (up (up (rmW (up (note A 4 (nI t) (nI l)) 11 l (nI u)) l u) u 3 0) u 8 (-1)) 3 (nI u) (nI l)).1 u b = A.1 u b := fun b q1 q2 => by
      rw [note_1, up_b q2, up_b q1, rmW_1, up_a (by omega), note_1]
    exact S_bnd (c_adv h8 hu (q := q) (z := z) (by rw [r1 _ (by omega) (by omega)]; exact b1) (by rw [r1 _ (by omega) (by omega)]; exact b2) hq b4 (hs u e)) (fun _ M9 h9 => S_ret h9)
theorem c_stl (m : Nat) : ∀ (n v : Nat) (A : AS) (stk : List Nat) (M : Mem) (j : Nat), ms T (mk T A stk) stk ≤ m → m ≤ j → SI T (mk T A stk) stk → C g true k M0 T A stk M → 2 * m + 2 ≤ n → v + 2 * m + 2 ≤ 1000 → (mk T A stk).2.1.length + 3 * m + 1 ≤ LIM → Sat (pX3_settle_2 k n (nI v) M) (fun _ M' => C g true k M0 T (stl T j stk (mk T A stk)) [] M') := by
  induction m with
  | zero =>
    intro n v A stk M j hm hj hS h hn hv hL
    obtain ⟨n, rfl⟩ : ∃ n', n = n' + 1 := ⟨n - 1, by omega⟩
    cases stk with
    | nil =>
      rw [pX3_settle_2, if_neg (show ¬ (1000 : Int32) ≤ nI v from nI_ge (b := 1000) (by omega) (by omega)), h.s15, if_pos (show nI ([] : List Nat).length ≤ (0 : Int32) from nI_le (b := 0) (Nat.le_refl 0) (by omega))]
      have : stl T j [] (mk T A []) = A := by cases j <;> rfl
      rw [this]
      exact S_ret h
    | cons t r => unfold ms at hm; rw [List.length_cons] at hm; omega
  | succ m ih =>
    have marked : ∀ (n v : Nat) (A : AS) (t : Nat) (r : List Nat) (M : Mem) (j : Nat), A.1 t 3 = 3 → ms T A (t :: r) ≤ m + 1 → m + 1 ≤ j → SI T A (t :: r) → C g true k M0 T A (t :: r) M → 2 * m + 3 ≤ n → v + 2 * m + 3 ≤ 1000 → A.2.1.length + 3 * (m + 1) + 1 ≤ LIM → Sat (pX3_settle_2 k n (nI v) M) (fun _ M' => C g true k M0 T (stl T j (t :: r) A) [] M') := by
      intro n v A t r M j h3 hm hj hS h hn hv hL
      obtain ⟨n, rfl⟩ : ∃ n', n = n' + 1 := ⟨n - 1, by omega⟩
      obtain ⟨j, rfl⟩ : ∃ j', j = j' + 1 := ⟨j - 1, by omega⟩
      have hT := hS.1.T10
      have htT := (hS.2.1 t List.mem_cons_self).1
      have hs10 := h.s10
      rw [List.length_cons] at hs10
      have r7 : M.1 5 k t 7 = A.1 t 3 := h.th htT 3 rfl
      rw [pX3_settle_2, if_neg (show ¬ (1000 : Int32) ≤ nI v from nI_ge (b := 1000) (by omega) (by omega)), h.top.1, if_neg (show ¬ nI (r.length + 1) ≤ (0 : Int32) from nI_ge (a := 0) (by omega) (by omega)), nI_pred, chk_h (inB_nI (by omega) (by omega)), cl (by omega), h.top.2, nm_def, c_low h, bnd_some, chk_h (inB_nI (by omega) (by omega)), cl (by omega), r7, if_pos h3, stl]
      cases e : low A t with
      | none =>
        rw [onI_none, if_pos rfl, h.top.1, nI_pred, nI_1]
        refine S_w h.pop (fun M1 h1 => ?_)
        have hd1 : mk T A r = A := mk_done (fun u hu => (hS.2.1 u (List.mem_cons_of_mem _ hu)).2)
        have hlen : (t :: r).length = r.length + 1 := rfl
        have := ih n (v + 1) A r M1 j (by rw [hd1]; unfold ms at hm ⊢; omega) (by omega) (by rw [hd1]; exact ⟨hS.1, fun u hu => hS.2.1 u (List.mem_cons_of_mem _ hu), by have := hS.2.2; omega⟩) h1 (by omega) (by omega) (by rw [hd1]; omega)
        rw [hd1] at this
        exact this
      | some l =>
        obtain ⟨hl, htl⟩ := low_some e
        obtain ⟨g1, g2, g3, g4, -⟩ := gv_step hS e
        have hs9 : ∀ u, nx T A l = some u → (t :: r).length < 10 := by
          intro u hu
          have hw := hS.1.wat hl (nx_some hu)
          have hb : 0 < bl T A := by
            have := cnt_lt (p := fun _ => false) (q := fun u => decide (A.1 u 3 = 2)) (t := u) T (fun _ _ q => (nomatch q)) hw.1 (by simp only [decide_eq_true_eq]; exact hw.2.2) (by decide)
            unfold bl
            omega
          have := hS.2.2
          omega
        rw [onI_some, if_neg (m1_ne (by omega)), nI_1]
        refine S_bnd (P := fun _ M' => C g true k M0 T (gv1 T A t l) (gvk T A t l (t :: r)) M') ?_ (fun _ M1 h1 => ih n (v + 1) _ _ M1 j (by omega) (by omega) g1 h1 (by omega) (by omega) (by omega))
        exact c_giveUp h hS.1 hl htl htT (by omega) hs9
    intro n v A stk M j hm hj hS h hn hv hL
    cases stk with
    | nil =>
      obtain ⟨n, rfl⟩ : ∃ n', n = n' + 1 := ⟨n - 1, by omega⟩
      rw [pX3_settle_2, if_neg (show ¬ (1000 : Int32) ≤ nI v from nI_ge (b := 1000) (by omega) (by omega)), h.s15, if_pos (show nI ([] : List Nat).length ≤ (0 : Int32) from nI_le (b := 0) (Nat.le_refl 0) (by omega))]
      have : stl T j [] (mk T A []) = A := by cases j <;> rfl
      rw [this]
      exact S_ret h
    | cons t r =>
      by_cases e : A.1 t 3 = 3
      · have em : mk T A (t :: r) = A := by
          show (if A.1 t 3 = 3 then A else _) = A
          rw [if_pos e]
        rw [em] at hm hS hL ⊢
        exact marked n v A t r M j e hm hj hS h (by omega) (by omega) (by omega)
      · have em : mk T A (t :: r) = note (up A t 3 3) 5 (nI t) 0 := by
          show (if A.1 t 3 = 3 then A else _) = _
          rw [if_neg e]
        obtain ⟨n, rfl⟩ : ∃ n', n = n' + 1 := ⟨n - 1, by omega⟩
        have hT := hS.1.T10
        have htT := (hS.2.1 t List.mem_cons_self).1
        have hs10 := h.s10
        rw [List.length_cons] at hs10
        have r7 : M.1 5 k t 7 = A.1 t 3 := h.th htT 3 rfl
        rw [em] at hm hS hL ⊢
        rw [pX3_settle_2, if_neg (show ¬ (1000 : Int32) ≤ nI v from nI_ge (b := 1000) (by omega) (by omega)), h.top.1, if_neg (show ¬ nI (r.length + 1) ≤ (0 : Int32) from nI_ge (a := 0) (by omega) (by omega)), nI_pred, chk_h (inB_nI (by omega) (by omega)), cl (by omega), h.top.2, nm_def, c_low h, bnd_some, chk_h (inB_nI (by omega) (by omega)), cl (by omega), r7, if_neg e, chk_h (inB_nI (by omega) (by omega)), nI_1]
        refine S_w (h.put (f := 3) htT rfl 3) (fun M1 h1 => ?_)
        have hL2 : A.2.1.length + 1 + 3 * (m + 1) + 1 ≤ LIM := hL
        refine S_bnd (c_add h1 (by show A.2.1.length < LIM; omega) 5 (nI t) 0) (fun _ M2 h2 => ?_)
        exact marked n (v + 1) _ t r M2 j up_s hm hj hS h2 (by omega) (by omega) (by show A.2.1.length + 1 + 3 * (m + 1) + 1 ≤ LIM; omega)
/-- all ends, from a state whose newest end may not be told yet -/
theorem c_settle (h : C g true k M0 T A stk M) (hS : SI T (mk T A stk) stk) (hL : (mk T A stk).2.1.length + 200 ≤ LIM) : Sat (pX3_settle k M) (fun _ M' => C g true k M0 T (fin T A stk) [] M') := by
  have := si_mes hS
  exact c_stl 46 fu 0 A stk M 64 this (by omega) hS h (by decide) (by omega) (by omega)
end CSET
