/-! ===== the law's calls over states ===== -/
section WRAPS
variable {T n d k : Nat} {A A' : AS} {M0 M M' : Mem} {ρ : Type} {Q : ρ → Mem → Prop}
def Lw (n T : Nat) (A : AS) (M : Mem) : Prop := C true true 0 M T A [] M ∧ Inv T 10 A ∧ In2 0 T [] A ∧ Bd n A
/-- what the law's calls leave: saved machines, the law's own object but for its count of draws -/
def Kp (M0 M : Mem) : Prop := M.2 = M0.2 ∧ ∀ kd k i j, (2 ≤ k ∨ kd < 3 ∨ 16 < kd) → ¬ (kd = 19 ∧ j = 2) → M.1 kd k i j = M0.1 kd k i j
def Ls (M0 : Mem) (d n T : Nat) (A : AS) (M : Mem) : Prop := Lw n T A M ∧ Kp M0 M ∧ M.1 19 0 0 2 = nI d ∧ ¬ M.1 19 0 0 1 = 0
theorem Kp.refl (M : Mem) : Kp M M := ⟨rfl, fun _ _ _ _ _ _ => rfl⟩
theorem Kp.trans (h : Kp M0 M) (h2 : Kp M M') : Kp M0 M' := ⟨h2.1.trans h.1, fun kd k i j a b => (h2.2 kd k i j a b).trans (h.2 kd k i j a b)⟩
theorem Fk.kp (hk : k < 2) (h : Fk k M M') : Kp M M' := ⟨h.1, fun kd k' i j a _ => h.2 kd k' i j (by omega)⟩
theorem Ls.cc (h : Ls M0 d n T A M) : C true true 0 M T A [] M := h.1.1
theorem Ls.ii (h : Ls M0 d n T A M) : Inv T 10 A := h.1.2.1
theorem Ls.i2 (h : Ls M0 d n T A M) : In2 0 T [] A := h.1.2.2.1
theorem Ls.bd (h : Ls M0 d n T A M) : Bd n A := h.1.2.2.2
theorem Ls.T10 (h : Ls M0 d n T A M) : T ≤ 10 := h.ii.T10
theorem Ls.fr (h : Ls M0 d n T A M) (hk : k < 2) (hF : Fk k M M') : Kp M0 M' ∧ M'.1 19 0 0 2 = nI d ∧ ¬ M'.1 19 0 0 1 = 0 :=
  ⟨h.2.1.trans (Fk.kp hk hF), (hF.2 _ _ _ _ (by omega)).trans h.2.2.1, by rw [hF.2 _ _ _ _ (by omega)]; exact h.2.2.2⟩
/-- machine 0 has come to another state -/
theorem Ls.to (h : Ls M0 d n T A M) {n' T' : Nat} (hC : C true true 0 M T' A' [] M') (hI : Inv T' 10 A') (h2 : In2 0 T' [] A') (hB : Bd n' A') : Ls M0 d n' T' A' M' :=
  ⟨⟨hC.re, hI, h2, hB⟩, h.fr (by omega) hC.fkk⟩
/-- machine 1 has been used -/
theorem Ls.by1 (h : Ls M0 d n T A M) (hF : Fk 1 M M') : Ls M0 d n T A M' :=
  ⟨⟨h.cc.fk (k' := 1) (by omega) hF, h.ii, h.i2, h.bd⟩, h.fr (by omega) hF⟩
theorem Ls.le (h : Ls M0 d n T A M) {m : Nat} (hm : n ≤ m) : Ls M0 d m T A M := ⟨⟨h.cc, h.ii, h.i2, h.bd.le hm⟩, h.2⟩
theorem c_idxT (v : Int32) (m : Nat) : pX7_needIndex v (nI m) M = if isT m v = true then some ((), M) else none := by
  rw [pX7_needIndex]
  unfold isT
  by_cases h0 : v < 0
  · simp [h0, pX7_needIndex_9]
  · by_cases h1 : v < nI m
    · simp [h0, h1]
    · simp [h0, h1, pX7_needIndex_9]
theorem idx_ok {t m : Nat} (ht : t < m) (hm : m < 1000) : pX7_needIndex (nI t) (nI m) M = some ((), M) := by
  have h1 : ¬ nI t < 0 := fun q => by rw [i32_lt, nI_toInt (by omega), i32_0] at q; omega
  have h2 : nI t < nI m := by rw [i32_lt, nI_toInt (by omega), nI_toInt (by omega)]; omega
  rw [pX7_needIndex, if_neg h1, if_pos h2]
theorem thr_ok (h : C true true 0 M T A [] M) {t : Nat} (ht : t < T) : pX7_needThread (nI t) M = some ((), M) := by
  have hT := h.T10
  rw [pX7_needThread, h.cnt4, idx_ok ht (by omega), bnd_some]
theorem rng_ok {x lo hi : Nat} (h1 : lo ≤ x) (h2 : x ≤ hi) (hh : hi < 2147483648) {l h : Int32} (el : nI lo = l) (eh : nI hi = h) : pX7_needInRange (nI x) l h M = some ((), M) := by
  subst el; subst eh
  rw [c_rng, if_pos]
  refine decide_eq_true ⟨?_, ?_⟩
  · rw [i32_lt, nI_toInt (by omega), nI_toInt (by omega)]; omega
  · rw [i32_le, nI_toInt (by omega), nI_toInt (by omega)]; omega
theorem w_count (h : Ls M0 d n T A M) {c : Nat} (hc : c ≤ 17) {v : Int32} (hv : v = nI c) {f : Int32 → Mem → Option (ρ × Mem)} (K : Sat (f (cnV T A c) M) Q) : Sat (bnd (pL_count v M) f) Q := by
  subst hv
  rw [pL_count, pX7_count, rng_ok (lo := 0) (hi := 17) (l := 0) (h := 17) (by omega) hc (by omega) rfl rfl, bnd_some, c_num h.cc hc, bnd_some, bnd_some]
  exact K
theorem w_thread (h : Ls M0 d n T A M) {t c : Nat} (ht : t < T) (hc : c ≤ 18) {v w : Int32} (hv : v = nI t) (hw : w = nI c) {f : Int32 → Mem → Option (ρ × Mem)} (K : ∀ M', Ls M0 d n T A M' → Sat (f (thV T A t c) M') Q) : Sat (bnd (pL_thread v w M) f) Q := by
  subst hv; subst hw
  have hT := h.T10
  rw [pL_thread, pX7_thread, thr_ok h.cc ht, bnd_some, rng_ok (lo := 0) (hi := 18) (l := 0) (h := 18) (by omega) hc (by omega) rfl rfl, bnd_some]
  by_cases e9 : c = 9
  · subst e9
    rw [if_neg (show ¬ ¬ nI 9 = (9 : Int32) from fun q => q rfl), pX1_heldBy]
    have := c_hb4 h.cc (nI t) 6 fu 0 0 (by omega) (by decide) (by decide)
    have this : pX1_heldBy_4 0 fu (nI t) 0 0 M = some (nI (mkB (fun l => decide (A.1 11 l = nI t)) 6 0 0), M) := this
    rw [this, bnd_some, bnd_some]
    exact K M h
  · have hne : ¬ nI c = (9 : Int32) := fun q => e9 (nI_inj (b := 9) (by omega) (by omega) q)
    rw [if_pos hne]
    obtain ⟨o, M1, e, hC1, hp⟩ := c_refresh h.cc h.ii.hi (fun t ht => h.ii.base t ht)
    rw [e, bnd_some, chk_h (inB_nI (by omega) (by omega)), cl (by omega)]
    have hL := h.to hC1 h.ii h.i2 h.bd
    rw [c_tnum hL.cc h.ii hp ht hc e9, bnd_some, bnd_some]
    exact K M1 hL
theorem w_lock0 (h : Ls M0 d n T A M) {l : Nat} (hl : l < 6) {v w : Int32} (hv : v = nI l) (hw : w = nI 0) {f : Int32 → Mem → Option (ρ × Mem)} (K : Sat (f (A.1 11 l) M) Q) : Sat (bnd (pL_lock v w M) f) Q := by
  subst hv; subst hw
  have e := idx_ok (M := M) hl (by omega)
  have e : pX7_needIndex (nI l) 6 M = some ((), M) := e
  rw [pL_lock, pX7_lock, e, bnd_some, pX7_needNotNegative, if_pos (show (0 : Int32) ≤ nI 0 by decide), bnd_some, if_neg (show ¬ ¬ nI 0 = 0 by decide), chk_h (inB_nI (by omega) (by omega)), cl (by omega), bnd_some, h.cc.1.2.2.2.1 l hl]
  exact K
theorem w_lock (h : Ls M0 d n T A M) {l i : Nat} (hl : l < 6) (hi : i < 1000) {v w : Int32} (hv : v = nI l) (hw : w = nI (i + 1)) {f : Int32 → Mem → Option (ρ × Mem)} (K : Sat (f (wt A l i) M) Q) : Sat (bnd (pL_lock v w M) f) Q := by
  subst hv; subst hw
  have e := idx_ok (M := M) hl (by omega)
  have e : pX7_needIndex (nI l) 6 M = some ((), M) := e
  have e0 : (0 : Int32) ≤ nI (i + 1) := nI_le (a := 0) (by omega) (by omega)
  have e1 : nI (i + 1) - (1 : Int32) = nI i := by
    have := nI_sub (a := i + 1) (b := 1) (by omega)
    exact this
  have e2 : ¬ nI (i + 1) = 0 := fun q => by have := nI_inj (b := 0) (by omega) (by omega) q; omega
  rw [pL_lock, pX7_lock, e, bnd_some, pX7_needNotNegative, if_pos e0, bnd_some, if_pos e2, e1, c_waiter h.cc hl (by omega), bnd_some, bnd_some]
  exact K
theorem w_flag (h : Ls M0 d n T A M) {x : Nat} (hx : x < 8) {v : Int32} (hv : v = nI x) {f : Int32 → Mem → Option (ρ × Mem)} (K : Sat (f (if onF A x = true then 1 else 0) M) Q) : Sat (bnd (pL_flag v M) f) Q := by
  subst hv
  have e := idx_ok (M := M) hx (by omega)
  have e : pX7_needIndex (nI x) 8 M = some ((), M) := e
  rw [pL_flag, pX7_flag, e, bnd_some, c_flagOn h.cc, bnd_some, chk_h (b01_if (Or.inr rfl) (Or.inl rfl)), bnd_some]
  by_cases eo : onF A x = true
  · rw [if_pos eo] at K ⊢
    rw [if_neg (by decide)]; exact K
  · rw [if_neg eo] at K ⊢
    rw [if_pos rfl]; exact K
theorem w_event (h : Ls M0 d n T A M) {j c : Nat} (hj : j < kpt A) (hc : c < 4) {v w : Int32} (hv : v = nI j) (hw : w = nI c) {f : Int32 → Mem → Option (ρ × Mem)} (K : Sat (f (evF A j c) M) Q) : Sat (bnd (pL_event v w M) f) Q := by
  subst hv; subst hw
  have hk := kpt_40 A
  rw [pL_event, pX7_event, c_kept h.cc, idx_ok hj (by omega), bnd_some, rng_ok (lo := 0) (hi := 3) (l := 0) (h := 3) (by omega) (by omega) (by omega) rfl rfl, bnd_some, c_cell h.cc hj hc, bnd_some, bnd_some]
  exact K
def evN (A : AS) (v w : Int32) : Int32 := nI (cf (evP A v w) (kpt A) 0 0)
theorem w_events (h : Ls M0 d n T A M) {k : Nat} (hk : k < 10) {v w : Int32} (hv : v = nI k) (hw : w = -1 ∨ ∃ t, t < T ∧ w = nI t) {f : Int32 → Mem → Option (ρ × Mem)} (K : Sat (f (evN A v w) M) Q) : Sat (bnd (pL_events v w M) f) Q := by
  have hk4 := kpt_40 A
  have hT := h.T10
  have go : pX7_events_10 v w M = some (evN A v w, M) := by
    subst hv
    rw [pX7_events_10, rng_ok (lo := 0) (hi := 9) (l := 0) (h := 9) (by omega) (by omega) (by omega) rfl rfl, bnd_some, pX2_countOf]
    have := c_ct5 h.cc (nI k) w (kpt A) fu 0 0 (by omega) (by show _ < 4096; omega)
    have this : pX2_countOf_5 0 fu (nI k) w 0 0 M = some (nI (cf (evP A (nI k) w) (kpt A) 0 0), M) := this
    rw [this, bnd_some]
    rfl
  rw [pL_events, pX7_events]
  rcases hw with hw | ⟨t, ht, hw⟩
  · rw [if_pos hw, go, bnd_some, bnd_some]; exact K
  · have : ¬ w = -1 := by rw [hw]; exact m1_ne (by omega)
    rw [if_neg this]
    have e : pX7_needThread w M = some ((), M) := by rw [hw]; exact thr_ok h.cc ht
    rw [e, bnd_some, go, bnd_some, bnd_some]; exact K
theorem w_lent (h : Ls M0 d n T A M) {t : Nat} (ht : t < T) {v : Int32} (hv : v = nI t) {f : UInt32 → Mem → Option (ρ × Mem)} (K : ∀ M', Ls M0 d n T A M' → Sat (f (FP.fdiv (FP.i2f (pr T A t)) (FP.i2f (A.1 t 0))) M') Q) : Sat (bnd (pL_lent v M) f) Q := by
  subst hv
  have hT := h.T10
  rw [pL_lent, pX7_lent, thr_ok h.cc ht, bnd_some]
  obtain ⟨o, M1, e, hC1, hp⟩ := c_refresh h.cc h.ii.hi (fun t ht => h.ii.base t ht)
  rw [e, bnd_some, chk_h (inB_nI (by omega) (by omega)), cl (by omega)]
  have hL := h.to hC1 h.ii h.i2 h.bd
  have e5 : M1.1 5 0 t 5 = pr T A t := c_pr hC1 hp ht
  have e4 : M1.1 5 0 t 4 = A.1 t 0 := hC1.th ht 0 rfl
  rw [e5, e4]
  obtain ⟨p1, p2⟩ := pr_9 h.ii ht
  obtain ⟨p, q1, q2, q3⟩ := n9 p1 p2
  obtain ⟨b, r1, r2, r3⟩ := n9 (h.ii.base t ht) ((h.ii.2.1 t ht).1.2)
  have hl := (lent_o q1 q2 r1 r2).1
  rw [q3, r3] at K ⊢
  rw [chk_h (decide_eq_true hl), bnd_some]
  exact K M1 hL
theorem w_chain0 (h : Ls M0 d n T A M) {t u : Nat} (ht : t < T) (hu : hop T A.1 t = some u) {v w : Int32} (hv : v = nI t) (hw : w = nI 0) {f : Int32 → Mem → Option (ρ × Mem)} (K : Sat (f (nI u) M) Q) : Sat (bnd (pL_chain v w M) f) Q := by
  subst hv; subst hw
  have hT := h.T10
  have b0 := bit_o (a := 0) (show t < 10 by omega) (Nat.pow_pos (by omega))
  have b1 : (1 : Int32) <<< (nI t &&& 31) = nI (2 ^ t) := by
    have q := b0.2.1
    rw [Nat.zero_add] at q
    rw [← q]
    exact (Int32.zero_add _).symm
  have hX0 : Bm (fun u => decide (u = t)) (2 ^ t) := by
    refine ⟨Nat.pow_lt_pow_right (n := 10) (by omega) (by omega), fun c hc => ?_⟩
    rw [Nat.testBit_two_pow]
    by_cases q : c = t
    · subst q; simp
    · have q' : ¬ t = c := fun z => q z.symm
      simp [q, q']
  obtain ⟨-, u2, u3, -⟩ := hop_T h.ii hu
  have e := c_bic h.cc h.ii (w := 0) (by omega) 10 fu 0 (2 ^ t) (some u) (fun u => decide (u = t)) (by omega) (by decide) hX0 (fun c hc => by cases hc; exact u2)
  have e : pX3_blockerInChain_14 0 fu (nI 0) (nI (2 ^ t)) (onI (some u)) 0 M = some (onI (cnS (hop T A.1) 0 10 0 (some u) (fun u => decide (u = t))), M) := e
  have e2 : cnS (hop T A.1) 0 10 0 (some u) (fun u => decide (u = t)) = some u := by
    have : decide (u = t) = false := by simp [u3]
    rw [cnS]
    simp [this]
  rw [e2] at e
  rw [pL_chain, pX7_chain, thr_ok h.cc ht, bnd_some, pX7_needNotNegative, if_pos (show (0 : Int32) ≤ nI 0 by decide), bnd_some, pX3_blockerInChain, b1, nm_def, c_blocker h.cc h.ii.hi ht, bnd_some, hu, e, bnd_some, bnd_some]
  exact K
theorem w_stuck (h : Ls M0 d n T A M) {f : Int32 → Mem → Option (ρ × Mem)} (K : Sat (f (nI (mkB (fun u => skF (hop T A.1) (fun u => A.1 u 3) 10 u) T 0 0)) M) Q) : Sat (bnd (pX7_stuck M) f) Q := by
  have hT := h.T10
  rw [pX7_stuck]
  have := c_st4 (k := 0) h.cc h.ii T fu 0 0 (by omega) (by show _ < 4096; omega) (by decide)
  have this : pX7_stuck_4 fu 0 0 M = some (nI (mkB (fun u => skF (hop T A.1) (fun u => A.1 u 3) 10 u) T 0 0), M) := this
  rw [this, bnd_some]
  exact K
theorem w_next (h : Ls M0 d n T A M) (hn : n ≤ 260000) {f : Int32 → Mem → Option (ρ × Mem)} (K : ∀ M', Ls M0 d n T A M' → Sat (f (onI (chs T (wbt T A))) M') Q) : Sat (bnd (pX7_next M) f) Q := by
  have hL := h.bd.lim hn
  have h7 : Sat (pX7_next M) (fun o M' => o = onI (chs T (wbt T A)) ∧ Fk 1 M M') := by
    rw [pX7_next]
    refine S_bnd (c_copy (k := 1) (k1 := 0) (by omega) h.cc h.ii) (fun _ M1 h1 => ?_)
    exact S_bnd (c_tickN h1 h.ii (by omega)) (fun o M2 h2 => S_ret h2)
  refine S_bnd h7 (fun o M' hh => ?_)
  obtain ⟨rfl, hF⟩ := hh
  exact K M' (h.by1 hF)
theorem w_wake (h : Ls M0 d n T A M) (hn : n ≤ 260000) {t : Nat} (ht : t < T) {v : Int32} (hv : v = nI t) {f : Int32 → Mem → Option (ρ × Mem)} (K : ∀ M', Ls M0 d (n + 1) T (fin T (wkA A t (-1)) (wkS A t)) M' → Sat (f (wkR A t) M') Q) : Sat (bnd (pL_wake v M) f) Q := by
  subst hv
  have hL := h.bd.lim hn
  obtain ⟨k1, k2, k3, k4, k5, k6⟩ := wk_ok (w := -1) h.ii ht (by omega)
  have h7 : Sat (pL_wake (nI t) M) (fun o M' => o = wkR A t ∧ C true true 0 M T (fin T (wkA A t (-1)) (wkS A t)) [] M') := by
    rw [pL_wake, pX7_wake, thr_ok h.cc ht, bnd_some]
    refine S_bnd (P := fun o M' => o = wkR A t ∧ C true true 0 M T (fin T (wkA A t (-1)) (wkS A t)) [] M') ?_ (fun o M2 h2 => S_ret h2)
    refine S_bnd (c_wake h.cc h.ii ht (-1) (by omega)) (fun o M1 h1 => ?_)
    refine S_bnd (c_settle2 h1.2 k1 (by omega)) (fun _ M2 h2 => S_ret ⟨h1.1, h2⟩)
  refine S_bnd h7 (fun o M' hh => ?_)
  obtain ⟨rfl, hC⟩ := hh
  exact K M' (h.to hC k3 (in2_wk h.i2 h.ii ht (by omega) (by decide)) (h.bd.ev (by omega) (k4.1 3 (by omega))))
theorem w_interrupt (h : Ls M0 d n T A M) (hn : n ≤ 260000) {t : Nat} (ht : t < T) {v : Int32} (hv : v = nI t) {f : Int32 → Mem → Option (ρ × Mem)} (K : ∀ M', Ls M0 d (n + 1) T (fin T (dsA A t) (dsS A t)) M' → Sat (f (dsR A t) M') Q) : Sat (bnd (pL_interrupt v M) f) Q := by
  subst hv
  have hL := h.bd.lim hn
  obtain ⟨k1, k2, k3, k4, k5⟩ := ds_ok h.ii ht (by omega)
  have h7 : Sat (pL_interrupt (nI t) M) (fun o M' => o = dsR A t ∧ C true true 0 M T (fin T (dsA A t) (dsS A t)) [] M') := by
    rw [pL_interrupt, pX7_interrupt, thr_ok h.cc ht, bnd_some]
    refine S_bnd (P := fun o M' => o = dsR A t ∧ C true true 0 M T (fin T (dsA A t) (dsS A t)) [] M') ?_ (fun o M2 h2 => S_ret h2)
    refine S_bnd (c_disturb h.cc h.ii ht (by omega)) (fun o M1 h1 => ?_)
    refine S_bnd (c_settle2 h1.2 k1 (by omega)) (fun _ M2 h2 => S_ret ⟨h1.1, h2⟩)
  refine S_bnd h7 (fun o M' hh => ?_)
  obtain ⟨rfl, hC⟩ := hh
  exact K M' (h.to hC k3 (in2_ds h.i2 h.ii ht (by omega)) (h.bd.ev (by omega) (k4.1 3 (by omega))))
theorem w_rouse (h : Ls M0 d n T A M) (hn : n ≤ 260000) {t : Nat} (ht : t < T) {v : Int32} (hv : v = nI t) {f : Int32 → Mem → Option (ρ × Mem)} (K : ∀ M', Ls M0 d (n + 1) T (if A.1 t 3 = 1 then cmb T A t 3 else A) M' → Sat (f (if A.1 t 3 = 1 then 1 else 0) M') Q) : Sat (bnd (pL_rouse v M) f) Q := by
  subst hv
  have hT := h.T10
  have hL := h.bd.lim hn
  have e7 : M.1 5 0 t 7 = A.1 t 3 := h.cc.th ht 3 rfl
  by_cases e : A.1 t 3 = 1
  · rw [if_pos e] at K
    simp only [if_pos e] at K
    obtain ⟨k1, k2, k3, k4, k5, -⟩ := cm_ok h.ii ht e (c := 3) (by omega) (by omega) (by omega)
    have h7 : Sat (pL_rouse (nI t) M) (fun o M' => o = 1 ∧ C true true 0 M T (cmb T A t 3) [] M') := by
      rw [pL_rouse, pX7_rouse, thr_ok h.cc ht, bnd_some, chk_h (inB_nI (by omega) (by omega)), cl (by omega), e7, if_pos e]
      refine S_bnd (P := fun o M' => o = 1 ∧ C true true 0 M T (cmb T A t 3) [] M') ?_ (fun o M2 h2 => ?_)
      · refine c_cmb h.cc h.ii ht e (c := 3) (by omega) (by omega) (by omega) (fun M1 h1 => ?_)
        rw [chk_h (by decide)]
        exact S_ret ⟨rfl, h1⟩
      · obtain ⟨rfl, h2⟩ := h2
        rw [if_neg (by decide)]
        exact S_ret ⟨rfl, h2⟩
    refine S_bnd h7 (fun o M' hh => ?_)
    obtain ⟨rfl, hC⟩ := hh
    exact K M' (h.to hC k3 (in2_cmb h.i2 h.ii ht e (by omega) (by omega) (by omega)) (h.bd.ev (by omega) (k4.1 3 (by omega))))
  · simp only [if_neg e] at K
    rw [pL_rouse, pX7_rouse, thr_ok h.cc ht, bnd_some, chk_h (inB_nI (by omega) (by omega)), cl (by omega), e7, if_neg e, chk_h (by decide), bnd_some, if_pos rfl, bnd_some]
    exact K M (h.le (Nat.le_succ n))
theorem w_run1 (h : Ls M0 d n T A M) (hn : n ≤ 260000) {v : Int32} (hv : v = nI 1) {f : Int32 → Mem → Option (ρ × Mem)} (K : ∀ M', Ls M0 d (n + 1) T (tick T A) M' → Sat (f (inS T (tick T A) 3 - inS T A 3) M') Q) : Sat (bnd (pL_run v M) f) Q := by
  subst hv
  have hB := h.bd
  obtain ⟨k1, k2, -⟩ := tick_bd h.ii h.bd (by omega)
  have h7 : Sat (pL_run (nI 1) M) (fun o M' => o = inS T (tick T A) 3 - inS T A 3 ∧ C true true 0 M T (tick T A) [] M') := by
    rw [pL_run, pX7_run, rng_ok (lo := 1) (hi := 500) (l := 1) (h := 500) (by omega) (by omega) (by omega) rfl rfl, bnd_some, c_thin h.cc, bnd_some]
    refine S_bnd (c_run19 (tk := 1) (by omega) (inS T A 3) 1 fu 0 n A M (by omega) (by decide) h.cc h.ii h.bd (by omega)) (fun o M1 h1 => S_ret h1)
  refine S_bnd h7 (fun o M' hh => ?_)
  obtain ⟨rfl, hC⟩ := hh
  exact K M' (h.to hC k1 (in2_tick h.i2 h.ii (by rw [LIM_eq]; have := hB.1; omega) (by have := hB.2; omega)) k2)
theorem w_setFlag (h : Ls M0 d n T A M) {x : Nat} (hx : x < 8) {v w : Int32} {b : Bool} (hv : v = nI x) (hw : w = if b = true then 1 else 0) {f : Int32 → Mem → Option (ρ × Mem)} (K : ∀ M', Ls M0 d n T (stF A x b) M' → Sat (f (if onF A x = true then 1 else 0) M') Q) : Sat (bnd (pL_setFlag v w M) f) Q := by
  subst hv; subst hw
  have e := idx_ok (M := M) hx (by omega)
  have e : pX7_needIndex (nI x) 8 M = some ((), M) := e
  have hT := h.T10
  have h7 : Sat (pL_setFlag (nI x) (if b = true then 1 else 0) M) (fun o M' => o = (if onF A x = true then 1 else 0) ∧ C true true 0 M T (stF A x b) [] M') := by
    rw [pL_setFlag, pX7_setFlag, e, bnd_some, c_flagOn h.cc, bnd_some]
    refine S_bnd (P := fun o M' => o = (if onF A x = true then 1 else 0) ∧ C true true 0 M T (stF A x b) [] M') (S_bnd (c_turn h.cc x b) (fun _ M1 h1 => ?_)) (fun o M2 h2 => ?_)
    · rw [chk_h (b01_if (Or.inr rfl) (Or.inl rfl))]
      exact S_ret ⟨rfl, h1⟩
    · obtain ⟨rfl, h2⟩ := h2
      by_cases eo : onF A x = true
      · rw [if_pos eo, if_neg (by decide)]; exact S_ret ⟨rfl, h2⟩
      · rw [if_neg eo, if_pos rfl]; exact S_ret ⟨rfl, h2⟩
  refine S_bnd h7 (fun o M' hh => ?_)
  obtain ⟨rfl, hC⟩ := hh
  refine K M' (h.to hC (stF_inv h.ii hx b) (h.i2.up hT (by omega) (by omega) (by omega)) ⟨h.bd.1, ?_⟩)
  show ((up A 10 5 _).1 10 3).toInt ≤ n
  rw [up_b (by omega)]; exact h.bd.2
theorem w_setBase (h : Ls M0 d n T A M) {t b : Nat} (ht : t < T) (h1 : 1 ≤ b) (h9 : b ≤ 9) {v w : Int32} (hv : v = nI t) (hw : w = nI b) {f : Int32 → Mem → Option (ρ × Mem)} (K : ∀ M', Ls M0 d n T (up A t 0 (nI b)) M' → Sat (f (A.1 t 0) M') Q) : Sat (bnd (pL_setBase v w M) f) Q := by
  subst hv; subst hw
  have hT := h.T10
  have e4 : M.1 5 0 t 4 = A.1 t 0 := h.cc.th ht 0 rfl
  have h7 : Sat (pL_setBase (nI t) (nI b) M) (fun o M' => o = A.1 t 0 ∧ C true true 0 M T (up A t 0 (nI b)) [] M') := by
    rw [pL_setBase, pX7_setBase, thr_ok h.cc ht, bnd_some, rng_ok (lo := 1) (hi := 9) (l := 1) (h := 9) h1 h9 (by omega) rfl rfl, bnd_some, chk_h (inB_nI (by omega) (by omega)), cl (by omega), e4, nm_def]
    refine S_bnd (P := fun o M' => o = A.1 t 0 ∧ C true true 0 M T (up A t 0 (nI b)) [] M') (S_bnd (c_cb h.cc ht (nI b)) (fun _ M1 h1 => S_ret ⟨rfl, h1⟩)) (fun o M2 h2 => S_ret h2)
  refine S_bnd h7 (fun o M' hh => ?_)
  obtain ⟨rfl, hC⟩ := hh
  refine K M' (h.to hC (sb_inv h.ii ht h1 h9) (h.i2.up hT (by omega) (by omega) (by omega)) ⟨h.bd.1, ?_⟩)
  rw [up_a (by omega)]; exact h.bd.2
theorem w_doneIn (h : Ls M0 d n T A M) (hn : n ≤ 260000) {t most : Nat} (ht : t < T) (q1 : 1 ≤ most) (q2 : most ≤ 500) {v w : Int32} (hv : v = nI t) (hw : w = nI most) {f : Int32 → Mem → Option (ρ × Mem)} (K : ∀ M', Ls M0 d n T A M' → Sat (f (onI (dnF T t most 0 A)) M') Q) : Sat (bnd (pL_doneIn v w M) f) Q := by
  subst hv; subst hw
  have hT := h.T10
  have h7 : Sat (pL_doneIn (nI t) (nI most) M) (fun o M' => o = (onI (dnF T t most 0 A)) ∧ Fk 1 M M') := by
    rw [pL_doneIn, pX7_doneIn, thr_ok h.cc ht, bnd_some, rng_ok (lo := 1) (hi := 500) (l := 1) (h := 500) q1 q2 (by omega) rfl rfl, bnd_some]
    refine S_bnd (P := fun o M' => o = (onI (dnF T t most 0 A)) ∧ Fk 1 M M') (S_bnd (c_copy (k := 1) (k1 := 0) (by omega) h.cc h.ii) (fun _ M1 h1 => ?_)) (fun o M2 h2 => S_ret h2)
    rw [chk_h (inB_nI (by omega) (by omega)), cl (by omega)]
    exact c_dn ht q2 most fu 0 n A M1 (by omega) (by show _ < 4096; omega) h1 h.ii h.bd (by omega)
  refine S_bnd h7 (fun o M' hh => ?_)
  obtain ⟨rfl, hF⟩ := hh
  exact K M' (h.by1 hF)
theorem w_returnsIn (h : Ls M0 d n T A M) (hn : n ≤ 260000) {t most : Nat} (ht : t < T) (q1 : 1 ≤ most) (q2 : most ≤ 500) {v w : Int32} (hv : v = nI t) (hw : w = nI most) {f : Int32 → Mem → Option (ρ × Mem)} (K : ∀ M', Ls M0 d n T A M' → Sat (f (onI (rnF T t (rsm A t) most 0 A)) M') Q) : Sat (bnd (pL_returnsIn v w M) f) Q := by
  subst hv; subst hw
  have hT := h.T10
  have h7 : Sat (pL_returnsIn (nI t) (nI most) M) (fun o M' => o = (onI (rnF T t (rsm A t) most 0 A)) ∧ Fk 1 M M') := by
    rw [pL_returnsIn, pX7_returnsIn, thr_ok h.cc ht, bnd_some, rng_ok (lo := 1) (hi := 500) (l := 1) (h := 500) q1 q2 (by omega) rfl rfl, bnd_some]
    refine S_bnd (P := fun o M' => o = (onI (rnF T t (rsm A t) most 0 A)) ∧ Fk 1 M M') (S_bnd (c_copy (k := 1) (k1 := 0) (by omega) h.cc h.ii) (fun _ M1 h1 => ?_)) (fun o M2 h2 => S_ret h2)
    rw [chk_h (inB_nI (by omega) (by omega)), cl (by omega), c_ar h1 ht, bnd_some]
    exact c_rn ht q2 _ most fu 0 n A M1 (by omega) (by show _ < 4096; omega) h1 h.ii h.bd (by omega)
  refine S_bnd h7 (fun o M' hh => ?_)
  obtain ⟨rfl, hF⟩ := hh
  exact K M' (h.by1 hF)
theorem w_ahead (h : Ls M0 d n T A M) (hn : n ≤ 260000) {tk x : Nat} (q1 : 1 ≤ tk) (q2 : tk ≤ 500) (hx : x ≤ 3) {v w : Int32} (hv : v = nI tk) (hw : w = nI x) {f : Int32 → Mem → Option (ρ × Mem)} (K : ∀ M', Ls M0 d n T A M' → Sat (f (ahV T A (tks T tk A) x) M') Q) : Sat (bnd (pL_ahead v w M) f) Q := by
  subst hv; subst hw
  have h7 : Sat (pL_ahead (nI tk) (nI x) M) (fun o M' => o = (ahV T A (tks T tk A) x) ∧ Fk 1 M M') := by
    rw [pL_ahead, pX7_ahead, rng_ok (lo := 1) (hi := 500) (l := 1) (h := 500) q1 q2 (by omega) rfl rfl, bnd_some, rng_ok (lo := 0) (hi := 3) (l := 0) (h := 3) (by omega) hx (by omega) rfl rfl, bnd_some]
    refine S_bnd (P := fun o M' => o = (ahV T A (tks T tk A) x) ∧ Fk 1 M M') (S_bnd (c_copy (k := 1) (k1 := 0) (by omega) h.cc h.ii) (fun _ M1 h1 => ?_)) (fun o M2 h2 => S_ret h2)
    exact c_ah q2 hx tk fu 0 n A M1 (by omega) (by show _ < 4096; omega) h1 h.cc h.ii h.bd (by omega)
  refine S_bnd h7 (fun o M' hh => ?_)
  obtain ⟨rfl, hF⟩ := hh
  exact K M' (h.by1 hF)
theorem w_bestBase (h : Ls M0 d n T A M) (hn : n ≤ 260000) {t most : Nat} (ht : t < T) (q1 : 1 ≤ most) (q2 : most ≤ 200) {v w : Int32} (hv : v = nI t) (hw : w = nI most) {f : Int32 → Mem → Option (ρ × Mem)} (K : ∀ M', Ls M0 d n T A M' → Sat (f (bb1 (bbF T t most A 9 1 none)) M') Q) : Sat (bnd (pL_bestBase v w M) f) Q := by
  subst hv; subst hw
  have hT := h.T10
  have h7 : Sat (pL_bestBase (nI t) (nI most) M) (fun o M' => o = (bb1 (bbF T t most A 9 1 none)) ∧ Fk 1 M M') := by
    rw [pL_bestBase, pX7_bestBase, thr_ok h.cc ht, bnd_some, rng_ok (lo := 1) (hi := 200) (l := 1) (h := 200) q1 q2 (by omega) rfl rfl, bnd_some, chk_h (inB_nI (by omega) (by omega)), cl (by omega), nm_def, nI_1]
    exact S_bnd (c_bb34 h.cc h.ii ht q2 h.bd hn 9 fu 1 none M (by omega) (by omega) (by decide) (Fk.refl 1 M) (Nat.le_refl _)) (fun o M2 h2 => S_ret h2)
  refine S_bnd h7 (fun o M' hh => ?_)
  obtain ⟨rfl, hF⟩ := hh
  exact K M' (h.by1 hF)
end WRAPS
