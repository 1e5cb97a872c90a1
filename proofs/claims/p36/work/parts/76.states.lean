/-! ===== the law's states ===== -/
section STS
variable {T n d t u v l k : Nat} {A A' : AS} {M0 M M' : Mem}
theorem mkB_bit {p : Nat → Bool} : ∀ m i a, a < 2 ^ i → mkB p m i a < 2 ^ (i + m) ∧ ∀ c, (mkB p m i a).testBit c = if c < i then a.testBit c else if c < i + m then p c else false := by
  intro m
  induction m with
  | zero =>
    intro i a ha
    refine ⟨ha, fun c => ?_⟩
    rw [mkB]
    by_cases e : c < i
    · rw [if_pos e]
    · rw [if_neg e, if_neg (by omega)]
      exact Nat.testBit_lt_two_pow (Nat.lt_of_lt_of_le ha (Nat.pow_le_pow_right (by omega) (by omega)))
  | succ m ih =>
    intro i a ha
    obtain ⟨h1, h2⟩ := ih (i + 1) _ (mkB_lt (b := p i) ha)
    rw [mkB]
    refine ⟨by rw [show i + (m + 1) = i + 1 + m by omega]; exact h1, fun c => ?_⟩
    rw [h2 c]
    by_cases e : c < i
    · rw [if_pos (by omega), if_pos e]
      by_cases q : p i = true
      · rw [if_pos q, Nat.add_comm, Nat.testBit_two_pow_add_gt e]
      · rw [if_neg q]
    · by_cases e2 : c = i
      · subst e2
        rw [if_pos (show c < c + 1 by omega), if_neg e, if_pos (show c < c + (m + 1) by omega)]
        have a0 : a.testBit c = false := Nat.testBit_lt_two_pow ha
        by_cases q : p c = true
        · rw [if_pos q, Nat.add_comm, Nat.testBit_two_pow_add_eq, a0, q]; rfl
        · rw [if_neg q, a0]
          rw [Bool.not_eq_true] at q
          exact q.symm
      · rw [if_neg (by omega), if_neg e]
        by_cases e3 : c < i + (m + 1)
        · rw [if_pos (by omega), if_pos e3]
        · rw [if_neg (by omega), if_neg e3]
theorem mkB_bm {p : Nat → Bool} {m : Nat} (hm : m ≤ 10) : Bm (fun c => if c < m then p c else false) (mkB p m 0 0) := by
  obtain ⟨h1, h2⟩ := mkB_bit (p := p) m 0 0 (by decide)
  refine ⟨?_, fun c hc => ?_⟩
  · have : 2 ^ (0 + m) ≤ 2 ^ 10 := Nat.pow_le_pow_right (by omega) (by omega)
    have e : (2 : Nat) ^ 10 = 1024 := by decide
    omega
  · rw [h2 c, if_neg (by omega), Nat.zero_add]
theorem mkB_0 {p : Nat → Bool} : ∀ m i a, (∀ c, i ≤ c → c < i + m → p c = false) → mkB p m i a = a := by
  intro m
  induction m with
  | zero => intro i a _; rfl
  | succ m ih => intro i a h; rw [mkB, h i (by omega) (by omega), if_neg Bool.false_ne_true, ih _ _ (fun c a b => h c (by omega) (by omega))]
theorem len_cf : ∀ (T : Nat) (L : List Nat) (P : Nat → Bool), L.Nodup → (∀ u, u ∈ L ↔ u < T ∧ P u = true) → L.length = cf P T 0 0 := by
  intro T
  induction T with
  | zero =>
    intro L P _ h
    have : L = [] := List.eq_nil_iff_forall_not_mem.mpr (fun u hu => by have := ((h u).mp hu).1; omega)
    rw [this]; rfl
  | succ T ih =>
    intro L P hn h
    rw [cf_last, Nat.zero_add]
    by_cases e : P T = true
    · rw [if_pos e]
      have hm : T ∈ L := (h T).mpr ⟨by omega, e⟩
      have := ih (L.erase T) P (hn.erase T) (fun u => by
        rw [hn.mem_erase_iff, h u]
        constructor
        · rintro ⟨a, b, c⟩; exact ⟨by omega, c⟩
        · rintro ⟨a, b⟩; exact ⟨by omega, by omega, b⟩)
      rw [List.length_erase_of_mem hm] at this
      have hp : 0 < L.length := List.length_pos_of_mem hm
      omega
    · rw [if_neg e, Nat.add_zero]
      exact ih L P hn (fun u => by
        rw [h u]
        constructor
        · rintro ⟨a, b⟩
          refine ⟨?_, b⟩
          by_cases q : u = T
          · subst q; exact absurd b e
          · omega
        · rintro ⟨a, b⟩; exact ⟨by omega, b⟩)
theorem st2_8 (hI : Inv T 10 A) (hu : u < T) (h8 : A.1 u 8 = nI l) (hl : l < 1000) : A.1 u 3 = 2 := by
  by_cases e : A.1 u 3 = 2
  · exact e
  · have := (hI.2.1 u hu).2.2.2.2.2.2 e
    rw [this] at h8
    exact absurd h8.symm (m1_ne (by omega))
theorem wl_len (hI : Inv T 10 A) (hl : l < 6) : (A.2.2 l).length = cf (fun u => decide (A.1 u 8 = nI l)) T 0 0 := by
  obtain ⟨h1, h2⟩ := hI.2.2.2.2.1 l hl
  refine len_cf T _ _ h1 (fun u => ?_)
  rw [h2 u, decide_eq_true_eq]
theorem wl_le (hI : Inv T 10 A) (hl : l < 6) : (A.2.2 l).length ≤ T := by
  rw [wl_len hI hl]; exact cf_le _ _ _
/-- the waiters of all locks are the blocked -/
theorem wl_sum (hI : Inv T 10 A) : su (fun l => (A.2.2 l).length) 6 0 0 = cf (fun u => decide (A.1 u 3 = 2)) T 0 0 := by
  have hT := hI.T10
  have e1 : su (fun l => (A.2.2 l).length) 6 0 0 = su (fun l => cf (fun u => decide (A.1 u 3 = 2) && decide (A.1 u 8 = nI l)) T 0 0) 6 0 0 := su_cg _ _ _ (fun l _ hl => by
    rw [wl_len hI (by omega)]
    refine cf_cg _ _ _ (fun u _ hu => ?_)
    by_cases e : A.1 u 8 = nI l
    · rw [decide_eq_true e, decide_eq_true (st2_8 hI (by omega) e (by omega))]; rfl
    · rw [decide_eq_false e, Bool.and_false])
  rw [e1]
  refine dsum T (fun u hu hp => ?_)
  obtain ⟨l, v, hl, e8, -⟩ := hop_2 hI hu (of_decide_eq_true hp)
  refine ⟨l, hl, fun l' hl' => ?_⟩
  rw [e8]
  by_cases e : l' = l
  · rw [e, decide_eq_true rfl, decide_eq_true rfl]
  · rw [decide_eq_false e, decide_eq_false (fun q => e (nI_inj (by omega) (by omega) q).symm)]
theorem st_sum (hI : Inv T 10 A) : su (fun s => cf (fun u => decide (A.1 u 3 = nI s)) T 0 0) 5 0 0 = T := by
  have e1 : su (fun s => cf (fun u => decide (A.1 u 3 = nI s)) T 0 0) 5 0 0 = su (fun s => cf (fun u => (fun _ => true) u && decide (A.1 u 3 = nI s)) T 0 0) 5 0 0 := su_cg _ _ _ (fun s _ hs => cf_cg _ _ _ (fun u _ hu => (Bool.true_and _).symm))
  rw [e1, dsum (p := fun _ => true) T (fun u hu _ => ?_), cf_all, Nat.zero_add]
  have go : ∀ b, b < 5 → A.1 u 3 = nI b → ∃ b, b < 5 ∧ ∀ t, t < 5 → decide (A.1 u 3 = nI t) = decide (t = b) := fun b hb e3 => ⟨b, hb, fun t ht => by
    rw [e3]
    by_cases e : t = b
    · rw [e, decide_eq_true rfl, decide_eq_true rfl]
    · rw [decide_eq_false e, decide_eq_false (fun q => e (nI_inj (by omega) (by omega) q).symm)]⟩
  rcases (hI.2.1 u hu).2.2.1 with e | e | e | e | e
  · exact go 0 (by omega) e
  · exact go 1 (by omega) e
  · exact go 2 (by omega) e
  · exact go 3 (by omega) e
  · exact go 4 (by omega) e
/-- the holder's priority is no less than the waiter's -/
theorem pr_lend (hI : Inv T 10 A) (h1 : A.1 10 1 = 1) (hu : u < T) (hv : v < T) (hh : hop T A.1 u = some v) : pr T A u ≤ pr T A v := by
  have hT := hI.T10
  obtain ⟨⟨w, ⟨hw, m, hm, e⟩, e2⟩, -⟩ := pr_isMx hu h1 (by have := hI.base u hu; omega)
  obtain ⟨m', hm', e'⟩ := wk_short hT (s := A.1) (t := v) (m + 1) w (by rw [wk_succ, e]; exact hh)
  rw [e2]
  exact (pr_isMx hv h1 (by have := hI.base v hv; omega)).2 w ⟨hw, m', hm', e'⟩
theorem pr_base (hI : Inv T 10 A) (ht : t < T) : A.1 t 0 ≤ pr T A t := by
  by_cases e : A.1 10 1 = 1
  · exact (pr_isMx ht e (by have := hI.base t ht; omega)).2 t ⟨ht, 0, by omega, rfl⟩
  · rw [pr_no e]; exact Int32.le_refl _
theorem lent_g : ((List.range 10).all fun p => (List.range 10).all fun b => b == 0 || decide (p < b) || decide (0 ≤ (Op.cmpValue (FP.fcmp (FP.fdiv (FP.i2f (nI p)) (FP.i2f (nI b))) FP.fconst1) .g))) = true := by decide +kernel
theorem lent_1 {p b : Nat} (h1 : b ≤ p) (h2 : p ≤ 9) (h3 : 1 ≤ b) : 0 ≤ (Op.cmpValue (FP.fcmp (FP.fdiv (FP.i2f (nI p)) (FP.i2f (nI b))) FP.fconst1) .g) := by
  have := List.all_eq_true.mp (List.all_eq_true.mp lent_g p (List.mem_range.mpr (by omega))) b (List.mem_range.mpr (by omega))
  have n2 : (b == 0) = false := beq_false_of_ne (by omega)
  rw [n2, decide_eq_false (show ¬ p < b by omega)] at this
  simp only [Bool.false_or, decide_eq_true_eq] at this
  exact this
end STS
section STATES
variable {T n d t u l k : Nat} {A A' : AS} {M0 M M' : Mem}
theorem s129 {Q : Int32 → Mem → Prop} {k47 : Int32 → Int32 → Int32 → Int32 → Int32 → Mem → Option (Int32 × Mem)} {v1 v2 v3 : Int32} {w : Nat} (hl : l < 6) (K : ∀ M', Ls M0 d n T A M' → Sat (k47 v1 v2 v3 (nI (w + (A.2.2 l).length)) (nI (l + 1)) M') Q) : ∀ (m g i : Nat) (M : Mem), i + m = (A.2.2 l).length → m < g → Ls M0 d n T A M → Sat (pL_statesAreSo_129 k47 g v1 v2 v3 (nI (w + i)) (nI l) (A.1 11 l) (nI (i + 1)) M) Q := by
  intro m
  induction m with
  | zero =>
    intro g i M hi hg h
    obtain ⟨g, rfl⟩ : ∃ g', g = g' + 1 := ⟨g - 1, by omega⟩
    have hT := h.T10
    have := wl_le h.ii hl
    rw [pL_statesAreSo_129]
    refine w_lock h hl (i := i) (by omega) rfl rfl ?_
    rw [show wt A l i = -1 from if_neg (by omega), if_pos (show (-1 : Int32) < 0 by decide), nI_1, show w + i = w + (A.2.2 l).length by omega]
    exact K M h
  | succ m ih =>
    intro g i M hi hg h
    obtain ⟨g, rfl⟩ : ∃ g', g = g' + 1 := ⟨g - 1, by omega⟩
    have hT := h.T10
    have hw := wl_le h.ii hl
    have hil : i < (A.2.2 l).length := by omega
    have ew : wt A l i = nI ((A.2.2 l).getD i 0) := if_pos hil
    generalize hu : (A.2.2 l).getD i 0 = u at ew
    have hm : u ∈ A.2.2 l := by
      rw [← hu, List.getD_eq_getElem?_getD, List.getElem?_eq_getElem hil]
      exact List.getElem_mem hil
    obtain ⟨huT, h8⟩ := ((h.ii.2.2.2.2.1 l hl).2 u).mp hm
    have h2 := st2_8 h.ii huT h8 (by omega)
    obtain ⟨l', v, hl', e8, hv, e11, hne, hh⟩ := hop_2 h.ii huT h2
    have el : l' = l := by rw [e8] at h8; exact nI_inj (by omega) (by omega) h8
    subst el
    rw [pL_statesAreSo_129]
    refine w_lock h hl (i := i) (by omega) rfl rfl ?_
    rw [ew, if_neg (show ¬ nI u < (0 : Int32) by rw [Int32.not_lt]; exact nI_le (a := 0) (by omega) (by omega))]
    refine w_lock h hl (i := i) (by omega) rfl rfl ?_
    rw [ew]
    refine w_thread h (c := 2) huT (by omega) rfl rfl (fun M1 h1 => ?_)
    rw [show thV T A u 2 = A.1 u 3 from rfl, if_neg (not_not_intro h2)]
    refine w_thread h1 (c := 8) huT (by omega) rfl rfl (fun M2 h2 => ?_)
    rw [show thV T A u 8 = A.1 u 8 from rfl, if_neg (not_not_intro h8)]
    refine w_chain0 h2 huT hh rfl rfl ?_
    rw [e11, if_pos rfl]
    refine w_count h2 (c := 1) (by omega) rfl ?_
    rw [show cnV T A 1 = A.1 10 1 from rfl, nI_1, nI_1]
    rw [e11] at ih
    by_cases q : A.1 10 1 = 1
    · rw [if_neg (not_not_intro q)]
      refine w_thread h2 (c := 1) hv (by omega) rfl rfl (fun M3 h3 => ?_)
      refine w_thread h3 (c := 1) huT (by omega) rfl rfl (fun M4 h4 => ?_)
      rw [show thV T A v 1 = pr T A v from rfl, show thV T A u 1 = pr T A u from rfl, if_pos (pr_lend h.ii q huT hv hh)]
      exact ih g (i + 1) M4 (by omega) (by omega) h4
    · rw [if_pos q]
      exact ih g (i + 1) M2 (by omega) (by omega) h2
theorem s106 {Q : Int32 → Mem → Prop} {k47 : Int32 → Int32 → Int32 → Int32 → Int32 → Mem → Option (Int32 × Mem)} {v1 v2 v3 : Int32} {w : Nat} (h : Ls M0 d n T A M) (hl : l < 6) (K : ∀ M', Ls M0 d n T A M' → Sat (k47 v1 v2 v3 (nI (w + (A.2.2 l).length)) (nI (l + 1)) M') Q) : Sat (pL_statesAreSo_106 k47 v1 v2 v3 (nI w) (nI l) (A.1 11 l) M) Q := by
  have hT := h.T10
  have hw := wl_le h.ii hl
  have go := fun M (h : Ls M0 d n T A M) => s129 hl K (A.2.2 l).length fu 0 M (by omega) (by show _ < 4096; omega) h
  rw [Nat.add_zero, show nI (0 + 1) = (1 : Int32) from rfl] at go
  rw [pL_statesAreSo_106]
  rcases h.ii.2.2.2.1 l hl with e | ⟨v, hv, e⟩
  · rw [if_neg (show ¬ (0 : Int32) ≤ A.1 11 l by rw [e]; decide)]
    refine w_lock h hl (i := 0) (by omega) rfl rfl ?_
    have e0 : wt A l 0 = -1 := by
      refine if_neg (fun q => ?_)
      have hm := List.getElem_mem q
      obtain ⟨huT, h8⟩ := ((h.ii.2.2.2.2.1 l hl).2 _).mp hm
      obtain ⟨l', v, hl', e8, hv, e11, -⟩ := hop_2 h.ii huT (st2_8 h.ii huT h8 (by omega))
      have el : l' = l := by rw [e8] at h8; exact nI_inj (by omega) (by omega) h8
      subst el
      rw [e] at e11
      exact m1_ne (by omega) e11.symm
    rw [e0, if_pos (by decide)]
    exact go M h
  · rw [if_pos (show (0 : Int32) ≤ A.1 11 l by rw [e]; exact nI_le (a := 0) (by omega) (by omega))]
    exact go M h
theorem s80 {Q : Int32 → Mem → Prop} {k47 : Int32 → Int32 → Int32 → Int32 → Int32 → Mem → Option (Int32 × Mem)} {v1 v2 s0 s1 x : Int32} {w : Nat} (h : Ls M0 d n T A M) (hl : l < 6) (ex : s1 ||| s0 = x) (K : ∀ M', Ls M0 d n T A M' → Sat (k47 v1 v2 x (nI (w + (A.2.2 l).length)) (nI (l + 1)) M') Q) : Sat (pL_statesAreSo_80 k47 v1 v2 (nI w) (nI l) (A.1 11 l) s0 s1 M) Q := by
  have hT := h.T10
  rw [pL_statesAreSo_80, ex, nm_def]
  rcases h.ii.2.2.2.1 l hl with e | ⟨v, hv, e⟩
  · rw [if_pos (show A.1 11 l < (0 : Int32) by rw [e]; decide)]
    exact s106 h hl K
  · rw [if_neg (show ¬ A.1 11 l < (0 : Int32) by rw [e, Int32.not_lt]; exact nI_le (a := 0) (by omega) (by omega))]
    refine w_thread h (c := 9) hv (by omega) e rfl (fun M1 h1 => ?_)
    rw [show thV T A v 9 = nI (mkB (fun l => decide (A.1 11 l = nI v)) 6 0 0) from rfl, if_neg (fun q => by
      have := ((mkB_bm (p := fun l => decide (A.1 11 l = nI v)) (m := 6) (by omega)).is (show l < 10 by omega)).mp q
      simp only [if_pos hl, e] at this
      exact absurd this (by simp))]
    exact s106 h1 hl K
/-- a thread's checks -/
theorem s332 {Q : Int32 → Mem → Prop} {k258 : Int32 → Int32 → Int32 → Int32 → Int32 → Mem → Option (Int32 × Mem)} {v1 v2 v3 v4 : Int32} (h : Ls M0 d n T A M) (ht : t < T) (K : ∀ M', Ls M0 d n T A M' → Sat (k258 v1 v2 v3 v4 (nI (t + 1)) M') Q) : Sat (pL_statesAreSo_332 k258 v1 v2 v3 v4 (nI t) (A.1 t 3) M) Q := by
  have hT := h.T10
  have hI := h.ii
  obtain ⟨g1, g2, g3, g4⟩ := h.i2.1 t ht
  obtain ⟨r1, r2, r3, r4, r5⟩ := h.i2.2.2.1 t ht
  obtain ⟨b9, ⟨z, q, p1, p2, p3, p4, -, -⟩, s3, -, -, s8a, s8b⟩ := hI.2.1 t ht
  have k628 : ∀ M1, Ls M0 d n T A M1 → ∀ s0 s1 : Int32, s1 = s0 → Sat (pL_statesAreSo_628 k258 v1 v2 v3 v4 (nI t) (A.1 t 3) s0 s1 M1) Q := fun M1 h1 s0 s1 e => by
    rw [pL_statesAreSo_628, if_pos e]
    refine w_stuck h1 ?_
    rw [nI_1]
    by_cases qb : ((nI (mkB (fun u => skF (hop T A.1) (fun u => A.1 u 3) 10 u) T 0 0) >>> (nI t &&& 31)) &&& (1 : Int32)) = 1
    · rw [if_neg (not_not_intro qb)]
      have hb := ((mkB_bm (p := fun u => skF (hop T A.1) (fun u => A.1 u 3) 10 u) (m := T) hT).is (show t < 10 by omega))
      have hs : skF (hop T A.1) (fun u => A.1 u 3) 10 t = true := by
        cases e2 : skF (hop T A.1) (fun u => A.1 u 3) 10 t with
        | true => rfl
        | false =>
          have := hb.mpr (by simp only [if_pos ht]; exact e2)
          rw [this] at qb
          exact absurd qb (by decide)
      rw [if_pos (show (2 : Int32) ≤ A.1 t 3 from ?_)]
      · exact K M1 h1
      · have n2 : ¬ A.1 t 3 = 2 → A.1 t 3 = 3 ∨ A.1 t 3 = 4 := fun q2 => by
          rw [skF, hop_n2 hI ht q2] at hs
          exact of_decide_eq_true hs
        by_cases q2 : A.1 t 3 = 2
        · rw [q2]; decide
        · rcases n2 q2 with e3 | e3 <;> rw [e3] <;> decide
    · rw [if_pos qb]
      exact K M1 h1
  have k609 : ∀ M1, Ls M0 d n T A M1 → Sat (pL_statesAreSo_609 k258 v1 v2 v3 v4 (nI t) (A.1 t 3) (if A.1 t 9 = 0 then 1 else 0) M1) Q := fun M1 h1 => by
    rw [pL_statesAreSo_609]
    refine w_thread h1 (c := 11) ht (by omega) rfl rfl (fun M2 h2 => ?_)
    rw [show thV T A t 11 = A.1 t 10 from rfl]
    have z9 : A.1 t 9 = 0 ↔ A.1 t 10 < 0 := by
      rw [i32_lt, i32_0, ← r5]
      constructor
      · intro e; rw [e]; rfl
      · intro e; exact Int32.toInt_inj.mp (e.trans i32_0.symm)
    by_cases q0 : (0 : Int32) ≤ A.1 t 10
    · rw [if_pos q0]
      refine k628 _ h2 _ _ (if_neg (fun e => ?_))
      exact absurd (z9.mp e) (by rw [Int32.not_lt]; exact q0)
    · rw [if_neg q0]
      exact k628 _ h2 _ _ (if_pos (z9.mpr (by rw [Int32.not_le] at q0; exact q0)))
  have k564 : ∀ M1, Ls M0 d n T A M1 → ∀ s0 s1 s2 : Int32, s2 = s1 + s0 → Sat (pL_statesAreSo_564 k258 v1 v2 v3 v4 (nI t) (A.1 t 3) s0 s1 s2 M1) Q := fun M1 h1 s0 s1 s2 e => by
    rw [pL_statesAreSo_564, if_neg (not_not_intro e)]
    refine w_thread h1 (c := 11) ht (by omega) rfl rfl (fun M2 h2 => ?_)
    refine w_count h2 (c := 3) (by omega) rfl ?_
    rw [show thV T A t 11 = A.1 t 10 from rfl, show cnV T A 3 = A.1 10 3 from rfl, if_neg (by rw [i32_le]; omega)]
    refine w_thread h2 (c := 10) ht (by omega) rfl rfl (fun M3 h3 => ?_)
    rw [show thV T A t 10 = A.1 t 9 from rfl]
    have := k609 M3 h3
    by_cases q0 : A.1 t 9 = 0
    · rw [if_neg (not_not_intro q0)]
      rw [if_pos q0] at this
      exact this
    · rw [if_pos q0]
      rw [if_neg q0] at this
      exact this
  have k491 : ∀ M1, Ls M0 d n T A M1 → Sat (pL_statesAreSo_491 k258 v1 v2 v3 v4 (nI t) (A.1 t 3) M1) Q := fun M1 h1 => by
    rw [pL_statesAreSo_491]
    refine w_thread h1 (c := 13) ht (by omega) rfl rfl (fun M2 h2 => ?_)
    refine w_thread h2 (c := 14) ht (by omega) rfl rfl (fun M3 h3 => ?_)
    refine w_thread h3 (c := 15) ht (by omega) rfl rfl (fun M4 h4 => ?_)
    refine w_thread h4 (c := 16) ht (by omega) rfl rfl (fun M5 h5 => ?_)
    rw [nm_def]
    refine w_thread h5 (c := 12) ht (by omega) rfl rfl (fun M6 h6 => ?_)
    rw [show thV T A t 12 = A.1 t 11 from rfl, show thV T A t 13 = A.1 t 12 from rfl, show thV T A t 14 = A.1 t 13 from rfl, show thV T A t 15 = A.1 t 14 from rfl, show thV T A t 16 = A.1 t 15 from rfl]
    by_cases q1 : A.1 t 3 = 1
    · rw [if_neg (not_not_intro q1)]
      rw [if_pos q1] at g4
      exact k564 _ h6 _ _ _ g4
    · rw [if_pos q1]
      rw [if_neg q1] at g4
      exact k564 _ h6 _ _ _ g4
  have k459 : ∀ M1, Ls M0 d n T A M1 → Sat (pL_statesAreSo_459 k258 v1 v2 v3 v4 (nI t) (A.1 t 3) M1) Q := fun M1 h1 => by
    rw [pL_statesAreSo_459]
    by_cases q3 : A.1 t 3 = 3
    · rw [if_neg (not_not_intro q3)]
      refine w_thread h1 (c := 3) ht (by omega) rfl rfl (fun M2 h2 => ?_)
      refine w_thread h2 (c := 18) ht (by omega) rfl rfl (fun M3 h3 => ?_)
      rw [show thV T A t 3 = A.1 t 2 from rfl, show thV T A t 18 = A.1 t 1 from rfl, if_pos (g2 q3)]
      exact k491 _ h3
    · rw [if_pos q3]
      exact k491 _ h1
  have k423 : ∀ M1, Ls M0 d n T A M1 → Sat (pL_statesAreSo_423 k258 v1 v2 v3 v4 (nI t) (A.1 t 3) M1) Q := fun M1 h1 => by
    rw [pL_statesAreSo_423]
    by_cases q3 : A.1 t 3 = 3
    · rw [if_pos q3]; exact k459 _ h1
    · rw [if_neg q3]
      by_cases q1 : A.1 t 3 = 1
      · rw [if_pos q1]; exact k459 _ h1
      · rw [if_neg q1]
        refine w_thread h1 (c := 3) ht (by omega) rfl rfl (fun M2 h2 => ?_)
        refine w_thread h2 (c := 18) ht (by omega) rfl rfl (fun M3 h3 => ?_)
        have nz : ¬ A.1 t 2 = A.1 t 1 := by
          by_cases q4 : A.1 t 3 = 4
          · exact g3 q4
          · refine hI.2.2.1 t ht (by omega) ?_
            rcases s3 with e | e | e | e | e
            · exact Or.inl e
            · exact absurd e q1
            · exact Or.inr e
            · exact absurd e q3
            · exact absurd e q4
        rw [show thV T A t 3 = A.1 t 2 from rfl, show thV T A t 18 = A.1 t 1 from rfl, if_neg (by
          rw [p1, p2] at nz ⊢
          refine nI_ge (b := z) ?_ (by omega)
          have : ¬ q = z := fun e => nz (by rw [e])
          omega)]
        exact k459 _ h3
  have k401 : ∀ M1, Ls M0 d n T A M1 → Sat (pL_statesAreSo_401 k258 v1 v2 v3 v4 (nI t) (A.1 t 3) M1) Q := fun M1 h1 => by
    rw [pL_statesAreSo_401]
    by_cases q3 : A.1 t 3 = 3
    · rw [if_neg (not_not_intro q3)]
      refine w_thread h1 (c := 9) ht (by omega) rfl rfl (fun M2 h2 => ?_)
      have e0 : thV T A t 9 = 0 := by
        show nI (mkB (fun l => decide (A.1 11 l = nI t)) 6 0 0) = 0
        rw [mkB_0]
        · rfl
        · intro c _ hc
          refine decide_eq_false (fun e => ?_)
          exact absurd (h.i2.2.1 t ht q3 c (by omega) e) (by simp)
      rw [e0, if_pos rfl]
      exact k423 _ h2
    · rw [if_pos q3]
      exact k423 _ h1
  have k378 : ∀ M1, Ls M0 d n T A M1 → ∀ s0 s1 : Int32, s1 = s0 → Sat (pL_statesAreSo_378 k258 v1 v2 v3 v4 (nI t) (A.1 t 3) s0 s1 M1) Q := fun M1 h1 s0 s1 e => by
    rw [pL_statesAreSo_378, if_neg (not_not_intro e)]
    by_cases q1 : A.1 t 3 = 1
    · rw [if_pos q1]; exact k401 _ h1
    · rw [if_neg q1]
      refine w_thread h1 (c := 7) ht (by omega) rfl rfl (fun M2 h2 => ?_)
      rw [show thV T A t 7 = A.1 t 7 from rfl, g1 q1, if_neg (show ¬ (0 : Int32) ≤ -1 by decide)]
      exact k401 _ h2
  have k359 : ∀ M1, Ls M0 d n T A M1 → Sat (pL_statesAreSo_359 k258 v1 v2 v3 v4 (nI t) (A.1 t 3) (if A.1 t 3 = 2 then 1 else 0) M1) Q := fun M1 h1 => by
    rw [pL_statesAreSo_359]
    refine w_thread h1 (c := 8) ht (by omega) rfl rfl (fun M2 h2 => ?_)
    rw [show thV T A t 8 = A.1 t 8 from rfl]
    by_cases q2 : A.1 t 3 = 2
    · obtain ⟨l, v, hl, e8, -⟩ := s8a q2
      rw [if_pos q2, if_neg (show ¬ A.1 t 8 < (0 : Int32) by rw [e8, Int32.not_lt]; exact nI_le (a := 0) (by omega) (by omega))]
      exact k378 _ h2 _ _ rfl
    · rw [if_neg q2, if_pos (show A.1 t 8 < (0 : Int32) by rw [s8b q2]; decide)]
      exact k378 _ h2 _ _ rfl
  rw [pL_statesAreSo_332]
  refine w_lent h ht rfl (fun M1 h1 => ?_)
  obtain ⟨pa, pb⟩ := pr_9 hI ht
  obtain ⟨p, x1, x2, x3⟩ := n9 pa pb
  obtain ⟨b, y1, y2, y3⟩ := n9 (hI.base t ht) b9.2
  have hbp : b ≤ p := by
    have := pr_base hI ht
    rw [x3, y3, i32_le, nI_toInt (by omega), nI_toInt (by omega)] at this
    omega
  rw [x3, y3, if_pos (lent_1 hbp x2 y1)]
  have := k359 M1 h1
  by_cases q2 : A.1 t 3 = 2
  · rw [if_neg (not_not_intro q2)]
    rw [if_pos q2] at this
    exact this
  · rw [if_pos q2]
    rw [if_neg q2] at this
    exact this
theorem s258 {v3 v4 : Int32} (e3 : v3 = cnV T A 11) (e4 : v4 = cnV T A 7) : ∀ (m g i : Nat) (M : Mem), i + m = T → m < g → Ls M0 d n T A M → Sat (pL_statesAreSo_258 g (nI T) (nI T) v3 v4 (nI i) M) (fun o M' => o = 1 ∧ Ls M0 d n T A M') := by
  intro m
  induction m with
  | zero =>
    intro g i M hi hg h
    obtain ⟨g, rfl⟩ : ∃ g', g = g' + 1 := ⟨g - 1, by omega⟩
    have hT := h.T10
    rw [pL_statesAreSo_258, if_pos (nI_le (by omega) (by omega)), if_neg (not_not_intro rfl)]
    refine w_count h (c := 11) (by omega) rfl ?_
    rw [if_neg (not_not_intro e3)]
    refine w_count h (c := 7) (by omega) rfl ?_
    rw [if_neg (not_not_intro e4)]
    exact S_1 ⟨rfl, h⟩
  | succ m ih =>
    intro g i M hi hg h
    obtain ⟨g, rfl⟩ : ∃ g', g = g' + 1 := ⟨g - 1, by omega⟩
    have hT := h.T10
    have hiT : i < T := by omega
    rw [pL_statesAreSo_258, if_neg (nI_ge (by omega) (by omega))]
    refine w_thread h (c := 2) hiT (by omega) rfl rfl (fun M1 h1 => ?_)
    refine w_thread h1 (c := 0) hiT (by omega) rfl rfl (fun M2 h2 => ?_)
    refine w_thread h2 (c := 1) hiT (by omega) rfl rfl (fun M3 h3 => ?_)
    rw [show thV T A i 2 = A.1 i 3 from rfl, show thV T A i 0 = A.1 i 0 from rfl, show thV T A i 1 = pr T A i from rfl, if_neg (by rw [Int32.not_lt]; exact pr_base h.ii hiT), if_neg (by
      rw [Int32.not_lt, i32_le]
      exact (pr_9 h.ii hiT).2)]
    refine w_count h3 (c := 1) (by omega) rfl ?_
    rw [show cnV T A 1 = A.1 10 1 from rfl]
    have go := fun M4 (h4 : Ls M0 d n T A M4) => s332 (Q := fun o M' => o = 1 ∧ Ls M0 d n T A M') (k258 := fun v1 v2 v3 v4 v5 M => pL_statesAreSo_258 g v1 v2 v3 v4 v5 M) (v1 := nI T) (v2 := nI T) (v3 := v3) (v4 := v4) h4 hiT (fun M5 h5 => ih g (i + 1) M5 (by omega) (by omega) h5)
    by_cases q : A.1 10 1 = 0
    · rw [if_neg (not_not_intro q), if_neg (not_not_intro (pr_no (show ¬ A.1 10 1 = 1 by rw [q]; decide)))]
      exact go M3 h3
    · rw [if_pos q]
      exact go M3 h3
theorem s47 : ∀ (m g l a w : Nat) (M : Mem), l + m = 6 → m < g → a < 2 ^ l → nI (mkB (fun l => decide (¬ A.1 11 l = -1)) m l a) = cnV T A 11 → su (fun l => (A.2.2 l).length) m l w = cf (fun u => decide (A.1 u 3 = 2)) T 0 0 → Ls M0 d n T A M → Sat (pL_statesAreSo_47 g (nI T) (nI T) (nI a) (nI w) (nI l) M) (fun o M' => o = 1 ∧ Ls M0 d n T A M') := by
  intro m
  induction m with
  | zero =>
    intro g l a w M hi hg ha e3 e4 h
    obtain ⟨g, rfl⟩ : ∃ g', g = g' + 1 := ⟨g - 1, by omega⟩
    have hT := h.T10
    rw [pL_statesAreSo_47, if_pos (show (6 : Int32) ≤ nI l from nI_le (a := 6) (by omega) (by omega))]
    exact s258 e3 (congrArg nI e4) T fu 0 M (by omega) (by show _ < 4096; omega) h
  | succ m ih =>
    intro g l a w M hi hg ha e3 e4 h
    obtain ⟨g, rfl⟩ : ∃ g', g = g' + 1 := ⟨g - 1, by omega⟩
    have hT := h.T10
    have hl : l < 6 := by omega
    rw [pL_statesAreSo_47, if_neg (show ¬ (6 : Int32) ≤ nI l from nI_ge (b := 6) (by omega) (by omega))]
    refine w_lock0 h hl rfl rfl ?_
    rw [mkB] at e3
    rw [su] at e4
    have lt2 := mkB_lt (b := decide (¬ A.1 11 l = -1)) ha
    rcases h.ii.2.2.2.1 l hl with e | ⟨v, hv, e⟩
    · rw [if_neg (show ¬ (0 : Int32) ≤ A.1 11 l by rw [e]; decide)]
      have ed : decide (¬ A.1 11 l = -1) = false := decide_eq_false (not_not_intro e)
      rw [ed, if_neg Bool.false_ne_true] at e3 lt2
      exact s80 h hl (x := nI a) Int32.or_zero (fun M1 h1 => ih g (l + 1) a _ M1 (by omega) (by omega) lt2 e3 e4 h1)
    · rw [if_pos (show (0 : Int32) ≤ A.1 11 l by rw [e]; exact nI_le (a := 0) (by omega) (by omega))]
      have ed : decide (¬ A.1 11 l = -1) = true := decide_eq_true (by rw [e]; exact m1_ne (by omega))
      rw [ed, if_pos rfl] at e3 lt2
      exact s80 h hl (x := nI (a + 2 ^ l)) (bit_o (by omega) ha).1 (fun M1 h1 => ih g (l + 1) _ _ M1 (by omega) (by omega) lt2 e3 e4 h1)
theorem s19 : ∀ (m g c w : Nat) (M : Mem), c + m = 10 → 5 ≤ c → m < g → su (fun s => cf (fun u => decide (A.1 u 3 = nI s)) T 0 0) m (c - 5) w = T → Ls M0 d n T A M → Sat (pL_statesAreSo_19 g (nI T) (nI w) (nI 0) (nI 0) (nI c) M) (fun o M' => o = 1 ∧ Ls M0 d n T A M') := by
  intro m
  induction m with
  | zero =>
    intro g c w M hi hc hg e h
    obtain ⟨g, rfl⟩ : ∃ g', g = g' + 1 := ⟨g - 1, by omega⟩
    have hT := h.T10
    have e : w = T := e
    rw [pL_statesAreSo_19, if_pos (show (10 : Int32) ≤ nI c from nI_le (a := 10) (by omega) (by omega)), e]
    exact s47 6 fu 0 0 0 M (by omega) (by decide) (by decide) rfl (wl_sum h.ii) h
  | succ m ih =>
    intro g c w M hi hc hg e h
    obtain ⟨g, rfl⟩ : ∃ g', g = g' + 1 := ⟨g - 1, by omega⟩
    have hT := h.T10
    rw [pL_statesAreSo_19, if_neg (show ¬ (10 : Int32) ≤ nI c from nI_ge (b := 10) (by omega) (by omega))]
    refine w_count h (c := c) (by omega) rfl ?_
    have ec : cnV T A c = nI (cf (fun u => decide (A.1 u 3 = nI (c - 5))) T 0 0) := by
      unfold cnV inS
      rw [if_neg (by omega), if_pos (by omega)]
    rw [ec, nm_def, nI_add, nI_1]
    rw [su] at e
    exact ih g (c + 1) _ M (by omega) (by omega) (by omega) (by rw [show c + 1 - 5 = c - 5 + 1 by omega]; exact e) h
theorem states_ok (h : Ls M0 d n T A M) : Sat (pL_statesAreSo M) (fun o M' => o = 1 ∧ Ls M0 d n T A M') := by
  rw [pL_statesAreSo]
  refine w_count h (c := 2) (by omega) rfl ?_
  rw [show cnV T A 2 = nI T from h.ii.1.2]
  exact s19 5 fu 5 0 M (by omega) (by omega) (by decide) (st_sum h.ii) h
end STATES
