/-! ===== the law's events ===== -/
section EVS
variable {T n d t k : Nat} {A A' : AS} {M0 M M' : Mem}
def su (f : Nat → Nat) : Nat → Nat → Nat → Nat
  | 0, _, v => v
  | m + 1, i, v => su f m (i + 1) (v + f i)
theorem su_v (f : Nat → Nat) : ∀ m i v, su f m i v = v + su f m i 0 := by
  intro m
  induction m with
  | zero => intro i v; rfl
  | succ m ih => intro i v; rw [su, su, ih, ih (i + 1) (0 + f i)]; omega
theorem su_add (f g : Nat → Nat) : ∀ m i, su (fun t => f t + g t) m i 0 = su f m i 0 + su g m i 0 := by
  intro m
  induction m with
  | zero => intro i; rfl
  | succ m ih =>
    intro i
    rw [su, su, su, su_v, su_v f, su_v g, ih]
    omega
theorem su_cg {f g : Nat → Nat} : ∀ m i v, (∀ t, i ≤ t → t < i + m → f t = g t) → su f m i v = su g m i v := by
  intro m
  induction m with
  | zero => intro i v _; rfl
  | succ m ih => intro i v h; rw [su, su, h i (by omega) (by omega), ih _ _ (fun t a b => h t (by omega) (by omega))]
theorem su_0 {f : Nat → Nat} : ∀ m i v, (∀ t, i ≤ t → t < i + m → f t = 0) → su f m i v = v := by
  intro m
  induction m with
  | zero => intro i v _; rfl
  | succ m ih => intro i v h; rw [su, h i (by omega) (by omega), ih _ _ (fun t a b => h t (by omega) (by omega)), Nat.add_zero]
theorem su_one {f : Nat → Nat} {b : Nat} : ∀ m i, i ≤ b → b < i + m → (∀ t, i ≤ t → t < i + m → f t = if t = b then 1 else 0) → su f m i 0 = 1 := by
  intro m
  induction m with
  | zero => intro i a c _; omega
  | succ m ih =>
    intro i a c h
    rw [su, h i (by omega) (by omega)]
    by_cases e : i = b
    · rw [if_pos e, su_0 _ _ _ (fun t a b => by rw [h t (by omega) (by omega), if_neg (by omega)])]
    · rw [if_neg e, Nat.add_zero]
      exact ih (i + 1) (by omega) (by omega) (fun t a b => h t (by omega) (by omega))
/-- a count, split among those whom it is of -/
theorem dsum {T : Nat} {p : Nat → Bool} {q : Nat → Nat → Bool} : ∀ N, (∀ j, j < N → p j = true → ∃ b, b < T ∧ ∀ t, t < T → q j t = decide (t = b)) → su (fun t => cf (fun j => p j && q j t) N 0 0) T 0 0 = cf p N 0 0 := by
  intro N
  induction N with
  | zero => intro _; exact su_0 _ _ _ (fun _ _ _ => rfl)
  | succ N ih =>
    intro h
    rw [cf_last, ← ih (fun j hj hp => h j (by omega) hp)]
    have e : su (fun t => cf (fun j => p j && q j t) (N + 1) 0 0) T 0 0 = su (fun t => cf (fun j => p j && q j t) N 0 0 + (if (p (0 + N) && q (0 + N) t) = true then 1 else 0)) T 0 0 := su_cg _ _ _ (fun t _ _ => cf_last _ _ _ _)
    rw [e, su_add]
    congr 1
    rw [Nat.zero_add]
    by_cases hp : p N = true
    · obtain ⟨b, hb, hq⟩ := h N (by omega) hp
      rw [if_pos hp]
      refine su_one (b := b) T 0 (by omega) (by omega) (fun t _ ht => ?_)
      rw [hp, hq t (by omega), Bool.true_and]
      simp only [decide_eq_true_eq]
    · rw [if_neg hp]
      refine su_0 _ _ _ (fun t _ _ => ?_)
      rw [Bool.not_eq_true] at hp
      rw [hp, Bool.false_and, if_neg Bool.false_ne_true]
theorem cf_all : ∀ N i v, cf (fun _ => true) N i v = v + N := by
  intro N
  induction N with
  | zero => intro i v; rfl
  | succ N ih => intro i v; rw [cf, if_pos rfl, ih]; omega
/-- a kept event is one of the log's -/
theorem ev_get {j : Nat} (hj : j < kpt A) : ∃ h : kpt A - 1 - j < A.2.1.length, ∀ c, evF A j c = evc (A.2.1[kpt A - 1 - j]'h) c := by
  have hk : kpt A ≤ A.2.1.length := Nat.min_le_left _ _
  refine ⟨by omega, fun c => ?_⟩
  unfold evF
  rw [List.getD_eq_getElem?_getD, List.getElem?_eq_getElem (by omega)]
  rfl
theorem ev_so (h : In2 0 T [] A) {j : Nat} (hj : j < kpt A) : ∃ k v, k < 10 ∧ v < T ∧ evF A j 1 = nI k ∧ evF A j 2 = nI v ∧ (evF A j 0).toInt ≤ (A.1 10 3).toInt ∧ (k = 1 → ∃ c, 1 ≤ c ∧ c ≤ 4 ∧ evF A j 3 = nI c) ∧ (k = 7 → ¬ evF A j 3 = -2) ∧ (k = 5 → A.1 v 3 = 3) ∧ (k = 6 → A.1 v 3 = 4) := by
  obtain ⟨hl, e⟩ := ev_get hj
  obtain ⟨k, v, a1, a2, a3, a4, a5, a6, a7, a8, a9⟩ := h.2.2.2.1 _ (List.getElem_mem hl)
  rw [e 1, e 2, e 0, e 3]
  exact ⟨k, v, a1, a2, a3, a4, a5, a6, a7, a8, a9⟩
theorem ev_ord (h : In2 0 T [] A) {j : Nat} (hj : j + 1 < kpt A) : evF A j 0 ≤ evF A (j + 1) 0 := by
  obtain ⟨hl, e⟩ := ev_get (show j < kpt A by omega)
  obtain ⟨hl2, e2⟩ := ev_get hj
  have := (List.pairwise_iff_getElem.mp h.2.2.2.2) (kpt A - 1 - (j + 1)) (kpt A - 1 - j) hl2 hl (by omega)
  rw [e 0, e2 0, i32_le]
  exact this
theorem evP_t (ht : t < 1000) (j : Nat) : evP A (nI k) (nI t) j = (decide (evF A j 1 = nI k) && decide (evF A j 2 = nI t)) := by
  unfold evP
  rw [if_neg (m1_ne (by omega))]
  by_cases e : evF A j 1 = nI k
  · rw [if_pos e, decide_eq_true e, Bool.true_and]
  · rw [if_neg e, decide_eq_false e, Bool.false_and]
theorem evP_m (j : Nat) : evP A (nI k) (-1) j = decide (evF A j 1 = nI k) := by
  unfold evP
  rw [if_pos rfl]
  by_cases e : evF A j 1 = nI k
  · rw [if_pos e, decide_eq_true e]
  · rw [if_neg e, decide_eq_false e]
def eT (A : AS) (k t : Nat) : Nat := cf (evP A (nI k) (nI t)) (kpt A) 0 0
def eK (A : AS) (k : Nat) : Nat := cf (evP A (nI k) (-1)) (kpt A) 0 0
theorem eT_sum (hT : T ≤ 10) (h : In2 0 T [] A) (k : Nat) : su (eT A k) T 0 0 = eK A k := by
  have e1 : su (eT A k) T 0 0 = su (fun t => cf (fun j => decide (evF A j 1 = nI k) && decide (evF A j 2 = nI t)) (kpt A) 0 0) T 0 0 := su_cg _ _ _ (fun t _ ht => cf_cg _ _ _ (fun j _ _ => evP_t (by omega) j))
  rw [e1, dsum (kpt A) (fun j hj _ => ?_)]
  · exact cf_cg _ _ _ (fun j _ _ => (evP_m j).symm)
  · obtain ⟨k', v, a1, a2, a3, a4, -⟩ := ev_so h hj
    refine ⟨v, a2, fun t ht => ?_⟩
    rw [a4]
    by_cases e : t = v
    · rw [e, decide_eq_true rfl, decide_eq_true rfl]
    · rw [decide_eq_false e, decide_eq_false (fun q => e (nI_inj (by omega) (by omega) q).symm)]
theorem eK_sum (h : In2 0 T [] A) : su (eK A) 10 0 0 = kpt A := by
  have e1 : su (eK A) 10 0 0 = su (fun t => cf (fun j => (fun _ => true) j && decide (evF A j 1 = nI t)) (kpt A) 0 0) 10 0 0 := su_cg _ _ _ (fun t _ ht => cf_cg _ _ _ (fun j _ _ => (evP_m j).trans (Bool.true_and _).symm))
  rw [e1, dsum (p := fun _ => true) (kpt A) (fun j hj _ => ?_), cf_all, Nat.zero_add]
  obtain ⟨k', v, a1, a2, a3, a4, -⟩ := ev_so h hj
  refine ⟨k', a1, fun t ht => ?_⟩
  rw [a3]
  by_cases e : t = k'
  · rw [e, decide_eq_true rfl, decide_eq_true rfl]
  · rw [decide_eq_false e, decide_eq_false (fun q => e (nI_inj (by omega) (by omega) q).symm)]
end EVS
section EVENTS
variable {T n d t : Nat} {A A' : AS} {M0 M M' : Mem}
theorem e26 (hn : n < 2000000) {Q : Int32 → Mem → Prop} {k14 : Int32 → Int32 → Int32 → Mem → Option (Int32 × Mem)} {k : Nat} (hk : k < 10) {v1 : Int32} {b : Nat} (K : ∀ M', Ls M0 d n T A M' → Sat (k14 v1 (nI (b + eK A k)) (nI (k + 1)) M') Q) : ∀ (m g i w : Nat) (M : Mem), i + m = T → m < g → su (eT A k) m i w = eK A k → Ls M0 d n T A M → Sat (pL_eventsAreSo_26 k14 g v1 (nI b) (nI k) (nI w) (nI i) M) Q := by
  intro m
  induction m with
  | zero =>
    intro g i w M hi hg hw h
    obtain ⟨g, rfl⟩ : ∃ g', g = g' + 1 := ⟨g - 1, by omega⟩
    have hT := h.T10
    rw [pL_eventsAreSo_26]
    refine w_count h (c := 2) (by omega) rfl ?_
    rw [show cnV T A 2 = nI T from h.ii.1.2, if_pos (nI_le (by omega) (by omega))]
    refine w_events h hk rfl (Or.inl rfl) ?_
    have hw : w = eK A k := hw
    rw [if_pos (show nI w = evN A (nI k) (-1) by rw [hw]; rfl), nm_def, nI_add, nI_1, hw]
    exact K M h
  | succ m ih =>
    intro g i w M hi hg hw h
    obtain ⟨g, rfl⟩ : ∃ g', g = g' + 1 := ⟨g - 1, by omega⟩
    have hT := h.T10
    rw [pL_eventsAreSo_26]
    refine w_count h (c := 2) (by omega) rfl ?_
    rw [show cnV T A 2 = nI T from h.ii.1.2, if_neg (nI_ge (by omega) (by omega))]
    refine w_events h hk rfl (Or.inr ⟨i, by omega, rfl⟩) ?_
    rw [show evN A (nI k) (nI i) = nI (eT A k i) from rfl, nm_def, nI_add, nI_1]
    exact ih g (i + 1) (w + eT A k i) M (by omega) (by omega) hw h
theorem e176 {Q : Int32 → Mem → Prop} {k89 : Int32 → Int32 → Int32 → Mem → Option (Int32 × Mem)} {v1 v2 : Int32} {j : Nat} (h : Ls M0 d n T A M) (hj : j < kpt A) (K : ∀ M', Ls M0 d n T A M' → Sat (k89 v1 v2 (nI (j + 1)) M') Q) : Sat (pL_eventsAreSo_176 k89 v1 v2 (nI j) (evF A j 1) (evF A j 2) (evF A j 3) M) Q := by
  have hT := h.T10
  obtain ⟨k, v, a1, a2, a3, a4, a5, a6, a7, a8, a9⟩ := ev_so h.i2 hj
  rw [a3, a4]
  have kk : ∀ c, c < 10 → nI k = nI c → k = c := fun c hc q => nI_inj (by omega) (by omega) q
  have k228 : ∀ M1, Ls M0 d n T A M1 → Sat (pL_eventsAreSo_228 k89 v1 v2 (nI j) (nI k) (nI v) M1) Q := fun M1 h1 => by
    rw [pL_eventsAreSo_228, nI_1]
    by_cases q : nI k = (6 : Int32)
    · rw [if_neg (not_not_intro q)]
      refine w_thread h1 (c := 2) a2 (by omega) rfl rfl (fun M2 h2 => ?_)
      rw [show thV T A v 2 = A.1 v 3 from rfl, if_pos (a9 (kk 6 (by omega) q))]
      exact K M2 h2
    · rw [if_pos q]; exact K M1 h1
  have k208 : ∀ M1, Ls M0 d n T A M1 → Sat (pL_eventsAreSo_208 k89 v1 v2 (nI j) (nI k) (nI v) M1) Q := fun M1 h1 => by
    rw [pL_eventsAreSo_208]
    by_cases q : nI k = (5 : Int32)
    · rw [if_neg (not_not_intro q)]
      refine w_thread h1 (c := 2) a2 (by omega) rfl rfl (fun M2 h2 => ?_)
      rw [show thV T A v 2 = A.1 v 3 from rfl, if_neg (not_not_intro (a8 (kk 5 (by omega) q)))]
      exact k228 M2 h2
    · rw [if_pos q]; exact k228 M1 h1
  have k194 : ∀ M1, Ls M0 d n T A M1 → Sat (pL_eventsAreSo_194 k89 v1 v2 (nI j) (nI k) (nI v) (evF A j 3) M1) Q := fun M1 h1 => by
    rw [pL_eventsAreSo_194]
    by_cases q : nI k = (7 : Int32)
    · rw [if_neg (not_not_intro q), if_neg (a7 (kk 7 (by omega) q))]
      exact k208 M1 h1
    · rw [if_pos q]; exact k208 M1 h1
  rw [pL_eventsAreSo_176]
  by_cases q : nI k = (1 : Int32)
  · obtain ⟨c, c1, c4, ec⟩ := a6 (kk 1 (by omega) q)
    rw [if_neg (not_not_intro q), if_neg (by rw [Int32.not_lt, ec]; exact nI_le (a := 1) c1 (by omega)), if_neg (by rw [Int32.not_lt, ec]; exact nI_le (b := 4) c4 (by omega))]
    exact k194 M h
  · rw [if_pos q]; exact k194 M h
theorem e89 : ∀ (m g j : Nat) (M : Mem), j + m = kpt A → m < g → Ls M0 d n T A M → Sat (pL_eventsAreSo_89 g (nI (kpt A)) (nI (kpt A)) (nI j) M) (fun o M' => o = 1 ∧ Ls M0 d n T A M') := by
  have hk40 := kpt_40 A
  intro m
  induction m with
  | zero =>
    intro g j M hj hg h
    obtain ⟨g, rfl⟩ : ∃ g', g = g' + 1 := ⟨g - 1, by omega⟩
    rw [pL_eventsAreSo_89, if_pos (nI_le (by omega) (by omega)), if_neg (not_not_intro rfl)]
    exact S_1 ⟨rfl, h⟩
  | succ m ih =>
    intro g j M hj hg h
    obtain ⟨g, rfl⟩ : ∃ g', g = g' + 1 := ⟨g - 1, by omega⟩
    rw [pL_eventsAreSo_89, if_neg (nI_ge (by omega) (by omega))]
    have hjk : j < kpt A := by omega
    refine w_event h hjk (c := 1) (by omega) rfl rfl ?_
    refine w_event h hjk (c := 2) (by omega) rfl rfl ?_
    refine w_event h hjk (c := 3) (by omega) rfl rfl ?_
    refine w_event h hjk (c := 0) (by omega) rfl rfl ?_
    refine w_count h (c := 3) (by omega) rfl ?_
    obtain ⟨k, v, -, -, -, -, a5, -⟩ := ev_so h.i2 hjk
    rw [show cnV T A 3 = A.1 10 3 from rfl, if_neg (by rw [Int32.not_lt, i32_le]; exact a5)]
    have go := fun M1 (h1 : Ls M0 d n T A M1) => e176 (Q := fun o M' => o = 1 ∧ Ls M0 d n T A M') (k89 := fun v1 v2 v3 M => pL_eventsAreSo_89 g v1 v2 v3 M) (v1 := nI (kpt A)) (v2 := nI (kpt A)) h1 hjk (fun M2 h2 => ih g (j + 1) M2 (by omega) (by omega) h2)
    by_cases e0 : j = 0
    · rw [if_pos (show nI j ≤ (0 : Int32) by rw [e0]; decide)]
      exact go M h
    · obtain ⟨i, rfl⟩ : ∃ i, j = i + 1 := ⟨j - 1, by omega⟩
      rw [if_neg (show ¬ nI (i + 1) ≤ (0 : Int32) from nI_ge (a := 0) (by omega) (by omega))]
      refine w_event h hjk (c := 0) (by omega) rfl rfl ?_
      have e1 : nI (i + 1) - (1 : Int32) = nI i := nI_sub (a := i + 1) (b := 1) (by omega)
      refine w_event h (j := i) (by omega) (c := 0) (by omega) e1 rfl ?_
      rw [if_pos (ev_ord h.i2 hjk)]
      exact go M h
theorem e14 (hn : n < 2000000) : ∀ (m g k w : Nat) (M : Mem), k + m = 10 → m < g → su (eK A) m k w = kpt A → Ls M0 d n T A M → Sat (pL_eventsAreSo_14 g (nI (kpt A)) (nI w) (nI k) M) (fun o M' => o = 1 ∧ Ls M0 d n T A M') := by
  have hk40 := kpt_40 A
  intro m
  induction m with
  | zero =>
    intro g k w M hi hg hw h
    obtain ⟨g, rfl⟩ : ∃ g', g = g' + 1 := ⟨g - 1, by omega⟩
    have hw : w = kpt A := hw
    rw [pL_eventsAreSo_14, if_pos (show (10 : Int32) ≤ nI k from nI_le (a := 10) (by omega) (by omega)), hw]
    exact e89 (kpt A) fu 0 M (by omega) (by show _ < 4096; omega) h
  | succ m ih =>
    intro g k w M hi hg hw h
    obtain ⟨g, rfl⟩ : ∃ g', g = g' + 1 := ⟨g - 1, by omega⟩
    have hT := h.T10
    rw [pL_eventsAreSo_14, if_neg (show ¬ (10 : Int32) ≤ nI k from nI_ge (b := 10) (by omega) (by omega))]
    exact e26 hn (k := k) (by omega) (fun M1 h1 => ih g (k + 1) (w + eK A k) M1 (by omega) (by omega) hw h1) T fu 0 0 M (by omega) (by show _ < 4096; omega) (eT_sum hT h.i2 k) h
theorem events_ok (hn : n < 2000000) (h : Ls M0 d n T A M) : Sat (pL_eventsAreSo M) (fun o M' => o = 1 ∧ Ls M0 d n T A M') := by
  rw [pL_eventsAreSo]
  refine w_count h (c := 13) (by omega) rfl ?_
  exact e14 hn 10 fu 0 0 M (by omega) (by decide) (eK_sum h.i2) h
end EVENTS
