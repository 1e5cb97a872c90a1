/-! ===== locks given up, returns, acts: what they keep of it ===== -/
section IN2B
variable {T c c' t u l x : Nat} {A A' B : AS} {stk stk' : List Nat} {s s' : SF}
theorem lowF_none {f : Nat → Int32} {x : Int32} : ∀ n i, lowF f x n i = none → ∀ l, i ≤ l → l < i + n → ¬ f l = x := by
  intro n
  induction n with
  | zero => intro i _ l h1 h2; omega
  | succ n ih =>
    intro i h l h1 h2
    rw [lowF] at h
    by_cases e : f i = x
    · rw [if_pos e] at h; cases h
    · rw [if_neg e] at h
      by_cases e2 : l = i
      · subst e2; exact e
      · exact ih (i + 1) h l (by omega) (by omega)
theorem in2_gvu (h : In2 c T stk A) (hI : Inv T 10 A) (hl : l < 6) (ht : t < T) (hu : u ∈ A.2.2 l) : In2 c T stk (gvu A t l u) := by
  have hT := hI.T10
  obtain ⟨w1, w2, w3⟩ := hI.wat hl hu
  obtain ⟨a1, a2, a3, a4⟩ := h.1 u w1
  have h1 : In2 c T stk (note A 4 (nI t) (nI l)) := h.nt (k := 4) rfl (by omega) ht (by omega) (by omega) (by omega) (by omega)
  have h2 : In2 c T stk (up (up (rmW (up (note A 4 (nI t) (nI l)) 11 l (nI u)) l u) u 3 0) u 8 (-1)) := by
    have r : ∀ a b, ¬ (a = u ∧ (b = 3 ∨ b = 8)) → ¬ (a = 11 ∧ b = l) → (up (up (rmW (up (note A 4 (nI t) (nI l)) 11 l (nI u)) l u) u 3 0) u 8 (-1)).1 a b = A.1 a b := fun a b q1 q2 => by
      rw [up_e, if_neg (by omega), up_e, if_neg (by omega), rmW_1, up_e, if_neg q2]; rfl
    have r3 : (up (up (rmW (up (note A 4 (nI t) (nI l)) 11 l (nI u)) l u) u 3 0) u 8 (-1)).1 u 3 = 0 := by rw [up_e, if_neg (by omega), up_s]
    have rl : (up (up (rmW (up (note A 4 (nI t) (nI l)) 11 l (nI u)) l u) u 3 0) u 8 (-1)).1 11 l = nI u := by rw [up_e, if_neg (by omega), up_e, if_neg (by omega), rmW_1, up_s]
    refine h1.chg (fun v hv => ?_) (fun v hv => gR_cong (h.2.2.1 v hv) (Nat.le_refl _) (r _ _ (by omega) (by omega)) (r _ _ (by omega) (by omega)) (r _ _ (by omega) (by omega))) (fun v hv q m hm q2 => ?_) (fun v hv q => ?_) (fun v hv q => ?_) ?_ rfl
    · by_cases ev : v = u
      · subst ev
        unfold gT
        rw [r3, r _ 7 (by omega) (by omega), r _ 11 (by omega) (by omega), r _ 12 (by omega) (by omega), r _ 13 (by omega) (by omega), r _ 14 (by omega) (by omega), r _ 15 (by omega) (by omega)]
        rw [w3, if_neg (by decide)] at a4
        exact ⟨fun _ => a1 (by rw [w3]; decide), fun q => absurd q (by decide), fun q => absurd q (by decide), by rw [if_neg (by decide)]; exact a4⟩
      · exact gT_cong (h.1 v hv) (fun b q => r v b (by omega) (by omega))
    · by_cases em : m = l
      · subst em
        rw [rl] at q2
        have : u = v := nI_inj (by omega) (by omega) q2
        subst this
        rw [r3] at q
        exact absurd q (by decide)
      · rw [r 11 m (by omega) (by omega)] at q2
        by_cases ev : v = u
        · subst ev; rw [r3] at q; exact absurd q (by decide)
        · rw [r v 3 (by omega) (by omega)] at q
          exact h.2.1 v hv q m hm q2
    · by_cases ev : v = u
      · subst ev
        have q : A.1 v 3 = 3 := q
        rw [w3] at q; exact absurd q (by decide)
      · rw [r v 3 (by omega) (by omega)]; exact q
    · by_cases ev : v = u
      · subst ev
        have q : A.1 v 3 = 4 := q
        rw [w3] at q; exact absurd q (by decide)
      · rw [r v 3 (by omega) (by omega)]; exact q
    · rw [r 10 3 (by omega) (by omega)]; exact Int.le_refl _
  have h3 := h2.nt (k := 3) (kk := 3) (v := u) (its := nI l) rfl (by omega) w1 (by omega) (by omega) (by omega) (by omega)
  have z3 : (gvu A t l u).1 u 3 = 0 := by rw [gvu_e (by omega), if_pos rfl, if_neg (by omega), if_neg (by omega), if_neg (by omega), if_pos rfl]
  have y3 : (note (up (up (rmW (up (note A 4 (nI t) (nI l)) 11 l (nI u)) l u) u 3 0) u 8 (-1)) 3 (nI u) (nI l)).1 u 3 = 0 := by
    show (up (up (rmW (up (note A 4 (nI t) (nI l)) 11 l (nI u)) l u) u 3 0) u 8 (-1)).1 u 3 = 0
    rw [up_e, if_neg (by omega), up_s]
  refine h3.one u (Nat.le_refl _) (fun v b hv q => ?_) (fun m hm => ?_) ?_ rfl (fun _ => ?_) (fun _ => gR_cong (h3.2.2.1 u w1) (Nat.le_refl _) ?_ ?_ ?_) (fun q => ?_) (fun q => ?_) (fun q => ?_)
  · show (goB _ u).1 v b = _
    rw [goB_e, if_neg q]
  · show (goB _ u).1 11 m = _
    rw [goB_e, if_neg (by omega)]
  · show (goB _ u).1 10 3 = _
    rw [goB_e, if_neg (by omega)]
  · obtain ⟨b1, b2, b3, b4⟩ := h3.1 u w1
    have g : ∀ b, ¬ b = 2 → ¬ b = 17 → (gvu A t l u).1 u b = (note (up (up (rmW (up (note A 4 (nI t) (nI l)) 11 l (nI u)) l u) u 3 0) u 8 (-1)) 3 (nI u) (nI l)).1 u b := fun b q1 q2 => by
      show (goB _ u).1 u b = _
      rw [goB_e, if_pos rfl, if_neg q2, if_neg q1]
    unfold gT
    rw [z3, g 7 (by omega) (by omega), g 11 (by omega) (by omega), g 12 (by omega) (by omega), g 13 (by omega) (by omega), g 14 (by omega) (by omega), g 15 (by omega) (by omega)]
    rw [y3, if_neg (by decide)] at b4
    exact ⟨fun _ => b1 (by rw [y3]; decide), fun q => absurd q (by decide), fun q => absurd q (by decide), by rw [if_neg (by decide)]; exact b4⟩
  · show (goB _ u).1 u 9 = _
    rw [goB_e, if_pos rfl, if_neg (by omega), if_neg (by omega)]
  · show (goB _ u).1 u 10 = _
    rw [goB_e, if_pos rfl, if_neg (by omega), if_neg (by omega)]
  · show (goB _ u).1 10 3 = _
    rw [goB_e, if_neg (by omega)]
  · rw [z3] at q; exact absurd q (by decide)
  · rw [y3] at q; exact absurd q (by decide)
  · rw [y3] at q; exact absurd q (by decide)
theorem in2_gv0 (h : In2 c T stk A) (hT : T ≤ 10) (ht : t < T) : In2 c T stk (gv0 A t l) := by
  have h1 : In2 c T stk (note A 4 (nI t) (nI l)) := h.nt (k := 4) rfl (by omega) ht (by omega) (by omega) (by omega) (by omega)
  have r : ∀ a b, ¬ (a = 11 ∧ b = l) → (gv0 A t l).1 a b = A.1 a b := fun a b q => by
    show (up _ 11 l (-1)).1 a b = _
    rw [up_e, if_neg q]; rfl
  refine h1.chg (fun v hv => gT_cong (h.1 v hv) (fun b _ => r v b (by omega))) (fun v hv => gR_cong (h.2.2.1 v hv) (Nat.le_refl _) (r _ _ (by omega)) (r _ _ (by omega)) (r _ _ (by omega))) (fun v hv q m hm q2 => ?_) (fun v hv q => ?_) (fun v hv q => ?_) ?_ rfl
  · by_cases em : m = l
    · subst em
      have : (gv0 A t m).1 11 m = -1 := up_s
      rw [this] at q2
      exact absurd q2.symm (m1_ne (by omega))
    · rw [r 11 m (by omega)] at q2
      rw [r v 3 (by omega)] at q
      exact h.2.1 v hv q m hm q2
  · rw [r v 3 (by omega)]; exact q
  · rw [r v 3 (by omega)]; exact q
  · rw [r 10 3 (by omega)]; exact Int.le_refl _
theorem in2_gv (h : In2 c T stk A) (hI : Inv T 10 A) (hl : l < 6) (ht : t < T) (hs : ∀ v, v ∈ stk → v < T ∧ A.1 v 3 = 3) : In2 c T (gvk T A t l stk) (mk T (gv1 T A t l) (gvk T A t l stk)) := by
  have hT := hI.T10
  unfold gv1 gvk
  cases e : nx T A l with
  | none =>
    dsimp only
    have h0 := in2_gv0 (l := l) h hT ht
    rw [mk_done (fun v hv => ?_)]
    · exact h0
    · show (up _ 11 l (-1)).1 v 3 = 3
      have := (hs v hv).1
      rw [up_e, if_neg (by omega)]
      exact (hs v hv).2
  | some u =>
    dsimp only
    have hu := nx_some e
    obtain ⟨w1, w2, w3⟩ := hI.wat hl hu
    refine in2_mk (in2_gvu h hI hl ht hu) hT w1 (fun v hv => ?_)
    have := (hs v hv).1
    have e2 : ¬ v = u := fun q => by
      subst q
      rw [(hs v hv).2] at w3
      exact absurd w3 (by decide)
    rw [gvu_e (by omega), if_neg e2, if_neg (by omega)]
    exact (hs v hv).2
theorem in2_stl : ∀ (n : Nat) (stk : List Nat) (A : AS), SI T A stk → ms T A stk ≤ n → In2 c T stk A → In2 c T [] (stl T n stk A) := by
  intro n
  induction n with
  | zero =>
    intro stk A h hm h2
    unfold ms at hm
    have : stk = [] := List.length_eq_zero_iff.mp (by omega)
    subst this
    exact h2
  | succ n ih =>
    intro stk A h hm h2
    cases stk with
    | nil => exact h2
    | cons t r =>
      rw [stl]
      cases e : low A t with
      | none =>
        have hlen : (t :: r).length = r.length + 1 := rfl
        unfold ms at hm
        refine ih r A ⟨h.1, fun u hu => h.2.1 u (List.mem_cons_of_mem _ hu), by have := h.2.2; omega⟩ (by unfold ms; omega) ⟨h2.1, fun v hv q l hl q2 => ?_, h2.2.2⟩
        rcases List.mem_cons.mp (h2.2.1 v hv q l hl q2) with z | z
        · subst z
          exact absurd q2 (lowF_none 6 0 e l (by omega) (by omega))
        · exact z
      | some l =>
        obtain ⟨g1, g2, -⟩ := gv_step h e
        obtain ⟨hl, htl⟩ := low_some e
        dsimp only
        exact ih _ _ g1 (by omega) (in2_gv h2 h.1 hl (h.2.1 t List.mem_cons_self).1 h.2.1)
/-- all ends of one thread -/
theorem in2_fin (h : In2 c T [] B) (hI : Inv T t B) (ht : t < T) (h3 : ¬ B.1 t 3 = 2) : In2 c T [] (fin T B (ps B t [])) := by
  have hT := hI.T10
  obtain ⟨hS, -, -⟩ := fin_ok hI ht h3
  have := si_mes hS
  exact in2_stl 64 _ _ hS (by omega) (in2_mk h hT ht (fun v hv => (nomatch hv)))
/-- a return -/
theorem pk1 (a b c d : Int32) : a + b + c + d + 1 = (a + 1) + b + c + d + 0 := by
  rw [Int32.add_zero]; ac_rfl
theorem pk2 (a b c d : Int32) : a + b + c + d + 1 = a + (b + 1) + c + d + 0 := by
  rw [Int32.add_zero]; ac_rfl
theorem pk3 (a b c d : Int32) : a + b + c + d + 1 = a + b + (c + 1) + d + 0 := by
  rw [Int32.add_zero]; ac_rfl
theorem pk4 (a b c d : Int32) : a + b + c + d + 1 = a + b + c + (d + 1) + 0 := by
  rw [Int32.add_zero]; ac_rfl
theorem in2_cmA (h : In2 c T [] A) (hT : T ≤ 10) (ht : t < T) (h3 : A.1 t 3 = 1) {k : Nat} (hk : 1 ≤ k) (hk4 : k ≤ 4) : In2 c T [] (cmA A t k) := by
  have h1 : In2 c T [] (inc (up (up (up A t 3 0) t 7 (-1)) t 6 (nI k)) t (11 + k)) := by
    have r : ∀ a b, (inc (up (up (up A t 3 0) t 7 (-1)) t 6 (nI k)) t (11 + k)).1 a b = if a = t then (if b = 11 + k then A.1 t (11 + k) + 1 else if b = 6 then nI k else if b = 7 then -1 else if b = 3 then 0 else A.1 t b) else A.1 a b := fun a b => cmA_e (c := k) hk a b
    have r3 : (inc (up (up (up A t 3 0) t 7 (-1)) t 6 (nI k)) t (11 + k)).1 t 3 = 0 := by rw [r, if_pos rfl, if_neg (by omega), if_neg (by omega), if_neg (by omega), if_pos rfl]
    refine h.one t (Nat.le_refl _) (fun v b hv q => by rw [r, if_neg q]) (fun l hl => by rw [r, if_neg (by omega)]) (by rw [r, if_neg (by omega)]) rfl (fun _ => ?_) (fun _ => gR_cong (h.2.2.1 t ht) (Nat.le_refl _) ?_ ?_ ?_) (fun q => ?_) (fun q => ?_) (fun q => ?_)
    · obtain ⟨a1, a2, a3, a4⟩ := h.1 t ht
      rw [h3, if_pos rfl] at a4
      unfold gT
      rw [r3, if_neg (show ¬ (0 : Int32) = 1 by decide)]
      refine ⟨fun _ => by rw [r, if_pos rfl, if_neg (by omega), if_neg (by omega), if_pos rfl], fun q => absurd q (by decide), fun q => absurd q (by decide), ?_⟩
      have hk' : k = 1 ∨ k = 2 ∨ k = 3 ∨ k = 4 := by omega
      have r11 : (inc (up (up (up A t 3 0) t 7 (-1)) t 6 (nI k)) t (11 + k)).1 t 11 = A.1 t 11 := by rw [r, if_pos rfl, if_neg (by omega), if_neg (by omega), if_neg (by omega), if_neg (by omega)]
      rw [r11, a4]
      have r' : ∀ b, (inc (up (up (up A t 3 0) t 7 (-1)) t 6 (nI k)) t (11 + k)).1 t b = if b = 11 + k then A.1 t (11 + k) + 1 else if b = 6 then nI k else if b = 7 then -1 else if b = 3 then 0 else A.1 t b := fun b => by rw [r, if_pos rfl]
      rw [r' 12, r' 13, r' 14, r' 15]
      rcases hk' with rfl | rfl | rfl | rfl
      · exact pk1 (A.1 t 12) (A.1 t 13) (A.1 t 14) (A.1 t 15)
      · exact pk2 (A.1 t 12) (A.1 t 13) (A.1 t 14) (A.1 t 15)
      · exact pk3 (A.1 t 12) (A.1 t 13) (A.1 t 14) (A.1 t 15)
      · exact pk4 (A.1 t 12) (A.1 t 13) (A.1 t 14) (A.1 t 15)
    · rw [r, if_pos rfl, if_neg (by omega), if_neg (by omega), if_neg (by omega), if_neg (by omega)]
    · rw [r, if_pos rfl, if_neg (by omega), if_neg (by omega), if_neg (by omega), if_neg (by omega)]
    · rw [r, if_neg (by omega)]
    · rw [r3] at q; exact absurd q (by decide)
    · rw [h3] at q; exact absurd q (by decide)
    · rw [h3] at q; exact absurd q (by decide)
  exact h1.nt (k := 1) (kk := 1) rfl (by omega) ht (fun _ => ⟨k, hk, hk4, rfl⟩) (by omega) (by omega) (by omega)
theorem in2_cmb (h : In2 c T [] A) (hI : Inv T 10 A) (ht : t < T) (h3 : A.1 t 3 = 1) {k : Nat} (hk : 1 ≤ k) (hk4 : k ≤ 4) (hL : A.2.1.length ≤ LIM) : In2 c T [] (cmb T A t k) :=
  in2_fin (in2_cmA h hI.T10 ht h3 hk hk4) (cmA_inv hI ht h3 hk hk4 hL) ht (by rw [cmA_3 hk]; decide)
end IN2B
