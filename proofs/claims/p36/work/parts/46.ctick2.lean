/-! ===== the class's tick, whole ===== -/
section CTW
variable {g : Bool} {k : Nat} {M0 : Mem} {T : Nat} {A : AS} {M : Mem}
theorem c_cmb (h : C g true k M0 T A [] M) (hI : Inv T 10 A) {t c : Nat} (ht : t < T) (h3 : A.1 t 3 = 1) (hc : 1 ≤ c) (hc4 : c ≤ 4) (hL : A.2.1.length + 300 ≤ LIM) {ρ : Type} {f : Unit → Mem → Option (ρ × Mem)} {Q : ρ → Mem → Prop} (K : ∀ M', C g true k M0 T (cmb T A t c) [] M' → Sat (f () M') Q) : Sat (bnd (pX3_comeBack k (nI t) (nI c) M) fun _ M1 => bnd (pX3_settle k M1) f) Q := by
  obtain ⟨s1, s2, -⟩ := cm_ok hI ht h3 hc hc4 (by omega)
  refine S_bnd (c_come h hI ht hc hc4 (by omega)) (fun _ M1 h1 => ?_)
  exact S_bnd (c_settle h1 s1 (by omega)) (fun _ M2 h2 => K M2 h2)
theorem c_tick104 (h : C g true k M0 T A [] M) (hI : Inv T 10 A) (hL : A.2.1.length + 1000 ≤ LIM) : Sat (pX3_tick_104 k M) (fun o M' => o = onI (chs T A) ∧ C g true k M0 T (inc (tkB T A) 10 3) [] M') := by
  have hT := hI.T10
  rw [pX3_tick_104]
  refine S_bnd (c_ready h hI) (fun o M1 h1 => ?_)
  obtain ⟨rfl, h1⟩ := h1
  unfold tkB
  cases e : chs T A with
  | none =>
    rw [onI_none, if_neg (not_not_intro rfl)]
    have r7 : M1.1 3 k 0 7 = A.1 10 6 := h1.gl 6 rfl
    rw [r7]
    refine S_w (h1.putg (b := 6) rfl (by omega) (fun _ => by omega) _) (fun M2 h2 => ?_)
    have r5 : M2.1 3 k 0 5 = _ := h2.gl 3 rfl
    rw [r5]
    exact S_w (h2.putg (b := 3) rfl (by omega) (fun _ => by omega) _) (fun M3 h3 => S_ret ⟨rfl, h3⟩)
  | some t =>
    obtain ⟨ht, h30⟩ := chs_some e
    rw [onI_some, if_pos (m1_ne (by omega))]
    refine S_bnd (c_do h1 hI ht h30 (by omega)) (fun o M2 h2 => ?_)
    obtain ⟨eo, h2⟩ := h2
    have hB := pf0_inv hI ht
    have hLB : (pf0 A t).2.1.length = A.2.1.length := rfl
    have b30 : (pf0 A t).1 t 3 = 0 := (pf0_e _ _ (by omega)).trans h30
    obtain ⟨k1, k2, k3, k4, k5, k6⟩ := pfx_ok hB ht b30 (by omega)
    dsimp only
    unfold pfA
    have hset : Sat (pX3_settle k M2) (fun _ M' => C g true k M0 T (fin T (pfx T (pf0 A t) t).1.1 (pfx T (pf0 A t) t).1.2) [] M') := by
      rcases k1 with q | q
      · rw [q] at h2 ⊢
        rw [pX3_settle]
        show Sat (pX3_settle_2 k (4095 + 1) 0 M2) _
        rw [pX3_settle_2, if_neg (show ¬ (1000 : Int32) ≤ 0 by decide), h2.s15, if_pos (show nI ([] : List Nat).length ≤ (0 : Int32) from nI_le (b := 0) (Nat.le_refl 0) (by omega))]
        exact S_ret h2
      · exact c_settle h2 q (by omega)
    obtain ⟨z, q, b1, b2, hqz, hz, -⟩ := place_of hB ht b30
    generalize pfx T (pf0 A t) t = r at *
    refine S_bnd hset (fun _ M3 h3 => ?_)
    by_cases e2 : r.2 = true
    · obtain ⟨m1, m2, m3, m4⟩ := k5 e2
      rw [eo, if_pos e2, if_pos e2, if_neg (by decide)]
      refine S_bnd (c_adv h3 ht (m1.trans b1) (m2.trans b2) hqz hz (by decide)) (fun _ M4 h4 => ?_)
      have e3 : (goB (fin T r.1.1 r.1.2) t).1 t 3 = (fin T r.1.1 r.1.2).1 t 3 := by rw [goB_e, if_pos rfl, if_neg (by omega), if_neg (by omega)]
      obtain ⟨s1, s2, -⟩ := fin_ok m3 ht (by rw [e3]; exact m4)
      have el : (goB (fin T r.1.1 r.1.2) t).2.1.length = (fin T r.1.1 r.1.2).2.1.length := rfl
      refine S_bnd (c_settle h4 s1 (by omega)) (fun _ M5 h5 => ?_)
      have r5 : M5.1 3 k 0 5 = _ := h5.gl 3 rfl
      rw [r5]
      exact S_w (h5.putg (b := 3) rfl (by omega) (fun _ => by omega) _) (fun M6 h6 => S_ret ⟨rfl, h6⟩)
    · rw [eo, if_neg e2, if_neg e2, if_pos rfl]
      have r5 : M3.1 3 k 0 5 = _ := h3.gl 3 rfl
      rw [r5]
      exact S_w (h3.putg (b := 3) rfl (by omega) (fun _ => by omega) _) (fun M6 h6 => S_ret ⟨rfl, h6⟩)
theorem c_tick54 {Q : Int32 → Mem → Prop} : ∀ (m n i : Nat) (A : AS) (M : Mem), i + m = T → m < n → C g true k M0 T A [] M → Inv T 10 A → A.2.1.length + 201 * m + 300 ≤ LIM → (∀ M', C g true k M0 T (wbS T m i A) [] M' → Sat (pX3_tick_104 k M') Q) → Sat (pX3_tick_54 k n (nI i) M) Q := by
  intro m
  induction m with
  | zero =>
    intro n i A M hi hn h hI hL K
    have hT := hI.T10
    obtain ⟨n, rfl⟩ : ∃ n', n = n' + 1 := ⟨n - 1, by omega⟩
    rw [pX3_tick_54, h.cnt4, if_pos (nI_le (by omega) (by omega))]
    exact K M h
  | succ m ih =>
    intro n i A M hi hn h hI hL K
    have hT := hI.T10
    obtain ⟨n, rfl⟩ : ∃ n', n = n' + 1 := ⟨n - 1, by omega⟩
    have r7 : M.1 5 k i 7 = A.1 i 3 := h.th (by omega) 3 rfl
    rw [pX3_tick_54, h.cnt4, if_neg (nI_ge (by omega) (by omega)), chk_h (inB_nI (by omega) (by omega)), cl (by omega), r7, nI_1]
    rw [wbS] at K
    by_cases e : A.1 i 3 = 1
    · have n1 := not_not_intro e
      rw [if_neg n1]
      rw [if_neg n1] at K
      refine S_bnd (c_draw h hI) (fun o M1 h1 => ?_)
      obtain ⟨rfl, h1⟩ := h1
      have d1 := drw_inv hI
      have d3 : (drw A).2.1.length = A.2.1.length := rfl
      have r0 : M1.1 15 k 0 0 = A.1 10 0 := (h1.gl 0 rfl).trans (up_b (by omega))
      rw [chk_h (show inB (0 : Int32) 2 = true by decide), show (0 : Int32).toNatClampNeg = 0 by decide, r0]
      by_cases e2 : A.1 10 0 ≤ drv A
      · rw [if_pos e2] at K ⊢
        exact ih n (i + 1) _ M1 (by omega) (by omega) h1 d1 (by omega) K
      · rw [if_neg e2] at K ⊢
        have e3 : (drw A).1 i 3 = 1 := (up_a (by omega)).trans e
        refine c_cmb h1 d1 (by omega) e3 (c := 3) (by omega) (by omega) (by omega) (fun M2 h2 => ?_)
        obtain ⟨-, -, c1, c2, c3, -⟩ := cm_ok d1 (t := i) (by omega) e3 (c := 3) (by omega) (by omega) (by omega)
        exact ih n (i + 1) _ M2 (by omega) (by omega) h2 c1 (by omega) K
    · rw [if_pos e]
      rw [if_pos e] at K
      exact ih n (i + 1) A M (by omega) (by omega) h hI (by omega) K
theorem c_tick43 {Q : Int32 → Mem → Prop} (h : C g true k M0 T A [] M) (hI : Inv T 10 A) (hL : A.2.1.length + 2500 ≤ LIM) (K : ∀ M', C g true k M0 T (if A.1 10 0 ≤ 0 then A else wbS T T 0 A) [] M' → Sat (pX3_tick_104 k M') Q) : Sat (pX3_tick_43 k M) Q := by
  have hT := hI.T10
  have r0 : M.1 15 k 0 0 = A.1 10 0 := h.gl 0 rfl
  rw [pX3_tick_43, chk_h (show inB (0 : Int32) 2 = true by decide), show (0 : Int32).toNatClampNeg = 0 by decide, r0]
  by_cases e : A.1 10 0 ≤ 0
  · rw [if_pos e] at K ⊢
    exact K M h
  · rw [if_neg e] at K ⊢
    exact c_tick54 T fu 0 A M (by omega) (by show _ < 4096; omega) h hI (by omega) K
theorem c_tick11 {Q : Int32 → Mem → Prop} : ∀ (m n i : Nat) (A : AS) (M : Mem), i + m = 10 → m < n → C g true k M0 T A [] M → Inv T 10 A → A.2.1.length + 201 * m + 300 ≤ LIM → (∀ M', C g true k M0 T (wbT T m A) [] M' → Sat (pX3_tick_43 k M') Q) → Sat (pX3_tick_11 k n (onI (due T A)) (nI i) M) Q := by
  intro m
  induction m with
  | zero =>
    intro n i A M hi hn h hI hL K
    obtain ⟨n, rfl⟩ : ∃ n', n = n' + 1 := ⟨n - 1, by omega⟩
    rw [pX3_tick_11, if_pos (show (10 : Int32) ≤ nI i from nI_le (a := 10) (by omega) (by omega))]
    exact K M h
  | succ m ih =>
    intro n i A M hi hn h hI hL K
    have hT := hI.T10
    obtain ⟨n, rfl⟩ : ∃ n', n = n' + 1 := ⟨n - 1, by omega⟩
    rw [pX3_tick_11, if_neg (show ¬ (10 : Int32) ≤ nI i from nI_ge (b := 10) (by omega) (by omega)), nI_1]
    rw [wbT] at K
    cases e : due T A with
    | none =>
      rw [e] at K
      rw [if_pos onI_none]
      exact K M h
    | some t =>
      rw [e] at K
      obtain ⟨ht, h3⟩ := due_some e
      obtain ⟨-, -, c1, c2, c3, -⟩ := cm_ok hI ht h3 (c := 2) (by omega) (by omega) (by omega)
      rw [onI_some, if_neg (m1_ne (by omega))]
      refine c_cmb h hI ht h3 (c := 2) (by omega) (by omega) (by omega) (fun M2 h2 => ?_)
      rw [c_late h2, bnd_some]
      exact ih n (i + 1) _ M2 (by omega) (by omega) h2 c1 (by omega) K
theorem c_tick (h : C g true k M0 T A [] M) (hI : Inv T 10 A) (hL : A.2.1.length + 6000 ≤ LIM) : Sat (pX3_tick k M) (fun o M' => o = onI (chs T (wbt T (ntG T A))) ∧ C g true k M0 T (tick T A) [] M') := by
  have hT := hI.T10
  have n1 := ntG_inv hI
  have n3 : (ntG T A).2.1.length = A.2.1.length := rfl
  obtain ⟨i1, i2, i3⟩ := wbT_ok 10 _ n1 (by omega)
  obtain ⟨w1, w2, w3⟩ := wbt_ok n1 (by omega)
  rw [pX3_tick]
  refine S_bnd (c_note h hI) (fun _ M1 h1 => ?_)
  rw [c_late h1, bnd_some]
  refine c_tick11 10 fu 0 _ M1 (by omega) (by decide) h1 n1 (by omega) (fun M2 h2 => ?_)
  exact c_tick43 h2 i1 (by omega) (fun M3 h3 => c_tick104 h3 w1 (by omega))
end CTW
