/-! ===== chain, stuck ===== -/
section CHAINS
variable {n : Nat} {T : Nat} {A : AS} {M M1 M2 M3 M4 M5 : Mem}
theorem hop_2 (hI : Inv T 10 A) {u : Nat} (hu : u < T) (h2 : A.1 u 3 = 2) : ∃ l v, l < 6 ∧ A.1 u 8 = nI l ∧ v < T ∧ A.1 11 l = nI v ∧ ¬ v = u ∧ hop T A.1 u = some v := by
  have hT := hI.T10
  obtain ⟨l, v, hl, e8, hv, e11, hne⟩ := (hI.2.1 u hu).2.2.2.2.2.1 h2
  refine ⟨l, v, hl, e8, hv, e11, hne, ?_⟩
  unfold hop
  rw [if_pos hu, e8, if_neg (m1_ne (by omega)), cl (by omega), e11, if_neg (m1_ne (by omega)), cl (by omega)]
theorem hop_n2 (hI : Inv T 10 A) {u : Nat} (hu : u < T) (h2 : ¬ A.1 u 3 = 2) : hop T A.1 u = none := by
  have e8 := (hI.2.1 u hu).2.2.2.2.2.2 h2
  unfold hop
  rw [if_pos hu, if_pos e8]
theorem hop_T (hI : Inv T 10 A) {u v : Nat} (e : hop T A.1 u = some v) : u < T ∧ v < T ∧ ¬ v = u ∧ A.1 u 3 = 2 := by
  have hu := hop_lt e
  by_cases h2 : A.1 u 3 = 2
  · obtain ⟨l, w, -, -, hw, -, hne, e2⟩ := hop_2 hI hu h2
    rw [e] at e2
    have : v = w := Option.some.inj e2
    subst this
    exact ⟨hu, hw, hne, h2⟩
  · rw [hop_n2 hI hu h2] at e
    cases e
theorem m_hf {M0 : Mem} {gv : List Nat} (h : D M0 T A gv M) (hI : Inv T 10 A) {u : Nat} (hu : u < T) : pX8_holderFor (nI u) M = some (onI (hop T A.1 u), M) := by
  have hT := hI.T10
  rw [pX8_holderFor, m_of h hu 3 (x := 3) rfl (by omega), bnd_some]
  by_cases h2 : A.1 u 3 = 2
  · obtain ⟨l, v, hl, e8, hv, e11, hne, e⟩ := hop_2 hI hu h2
    have e14 : (14 : Int32) + nI l = nI (14 + l) := nI_add 14 l
    rw [if_neg (not_not_intro h2), m_of h hu 8 (x := 8) rfl (by omega), bnd_some, e8, e14, chk_h (inB_nI (by omega) (by omega)), cl (by omega), h.ho hl, e11, e, onI_some]
  · rw [if_pos h2, hop_n2 hI hu h2, onI_none]
/-! sets of threads as bits -/
theorem set_t : ((List.range 1024).all fun s => (List.range 10).all fun c => decide ((((nI s >>> (nI c &&& 31)) &&& (1 : Int32)) = 0) ↔ s.testBit c = false) && decide ((nI s ||| ((1 : Int32) <<< (nI c &&& 31))) = nI (s ||| 2 ^ c))) = true := by decide +kernel
def Bm (X : Nat → Bool) (s : Nat) : Prop := s < 1024 ∧ ∀ c, c < 10 → s.testBit c = X c
theorem Bm.is {X : Nat → Bool} {s c : Nat} (h : Bm X s) (hc : c < 10) : ((nI s >>> (nI c &&& 31)) &&& (1 : Int32)) = 0 ↔ X c = false := by
  have := List.all_eq_true.mp (List.all_eq_true.mp set_t s (List.mem_range.mpr h.1)) c (List.mem_range.mpr hc)
  simp only [Bool.and_eq_true, decide_eq_true_eq] at this
  rw [this.1, h.2 c hc]
theorem Bm.add {X : Nat → Bool} {s c : Nat} (h : Bm X s) (hc : c < 10) : ∃ s', (nI s ||| ((1 : Int32) <<< (nI c &&& 31))) = nI s' ∧ Bm (setX X c true) s' := by
  have := List.all_eq_true.mp (List.all_eq_true.mp set_t s (List.mem_range.mpr h.1)) c (List.mem_range.mpr hc)
  simp only [Bool.and_eq_true, decide_eq_true_eq] at this
  refine ⟨s ||| 2 ^ c, this.2, ?_, fun d hd => ?_⟩
  · exact Nat.or_lt_two_pow (n := 10) h.1 (Nat.pow_lt_pow_right (by omega) hc)
  · rw [Nat.testBit_or, h.2 d hd, Nat.testBit_two_pow]
    unfold setX
    by_cases e : d = c
    · subst e; simp
    · have e' : ¬ c = d := fun q => e q.symm
      simp [e, e']
def cnS (h : Nat → Option Nat) (w : Nat) : Nat → Nat → Option Nat → (Nat → Bool) → Option Nat
  | 0, _, _, _ => none
  | m + 1, i, cur, X => match cur with
    | none => none
    | some c => if X c = true then none else if i = w then some c else cnS h w m (i + 1) (h c) (setX X c true)
theorem cnS_none {h : Nat → Option Nat} {w : Nat} (m i : Nat) (X : Nat → Bool) : cnS h w m i none X = none := by
  cases m <;> rfl
theorem c_bic {g p : Bool} {k : Nat} {M0 : Mem} {stk : List Nat} (h : C g p k M0 T A stk M) (hI : Inv T 10 A) {w : Nat} (hw : w < 2147483648) : ∀ (m n i s : Nat) (cur : Option Nat) (X : Nat → Bool), i + m = 10 → m < n → Bm X s → (∀ c, cur = some c → c < T) → pX3_blockerInChain_14 k n (nI w) (nI s) (onI cur) (nI i) M = some (onI (cnS (hop T A.1) w m i cur X), M) := by
  have hT := hI.T10
  intro m
  induction m with
  | zero =>
    intro n i s cur X hi hn hX hc
    obtain ⟨n, rfl⟩ : ∃ n', n = n' + 1 := ⟨n - 1, by omega⟩
    rw [pX3_blockerInChain_14, if_pos (show (10 : Int32) ≤ nI i from nI_le (a := 10) (by omega) (by omega))]
    rfl
  | succ m ih =>
    intro n i s cur X hi hn hX hc
    obtain ⟨n, rfl⟩ : ∃ n', n = n' + 1 := ⟨n - 1, by omega⟩
    rw [pX3_blockerInChain_14, if_neg (show ¬ (10 : Int32) ≤ nI i from nI_ge (b := 10) (by omega) (by omega))]
    cases cur with
    | none => rw [onI_none, if_pos rfl, cnS_none, onI_none]
    | some c =>
      have hcT := hc c rfl
      obtain ⟨s', e1, e2⟩ := hX.add (show c < 10 by omega)
      rw [onI_some, if_neg (m1_ne (by omega)), cnS]
      by_cases ex : X c = true
      · rw [if_pos (show ¬ ((nI s >>> (nI c &&& 31)) &&& (1 : Int32)) = 0 from fun q => by rw [(hX.is (by omega)).mp q] at ex; cases ex)]
        simp only [ex, if_true]
        rfl
      · have ex' : X c = false := by cases q : X c; rfl; exact absurd q ex
        rw [if_neg (not_not_intro ((hX.is (show c < 10 by omega)).mpr ex'))]
        simp only [ex']
        rw [if_neg (show ¬ false = true by decide)]
        by_cases ew : i = w
        · subst ew
          rw [if_neg (not_not_intro rfl), if_pos rfl, onI_some]
        · rw [if_pos (show ¬ nI i = nI w from fun q => ew (nI_inj (by omega) hw q)), if_neg ew, e1, nm_def, c_blocker h hI.hi hcT, bnd_some, nI_1]
          exact ih n (i + 1) s' _ _ (by omega) (by omega) e2 (fun d hd => (hop_T hI hd).2.1)
theorem m_c62 (hI : Inv T 10 A) {M0 : Mem} {w : Nat} (hw : w < 2147483648) : ∀ (m n i : Nat) (cur : Option Nat) (X : Nat → Bool) (M : Mem), i ≤ w → i + m ≤ 10 → m + 1 < n → D M0 T A [] M → Xm X M → cnt (fun u => !X u) T ≤ m → (∀ c, cur = some c → c < T ∧ X c = false) → Sat (pX8_chain_62 n (nI w) (onI cur) (nI i) M) (fun o M' => o = onI (cnS (hop T A.1) w m i cur X) ∧ D M0 T A [] M') := by
  have hT := hI.T10
  intro m
  have base : ∀ (m n i : Nat) (X : Nat → Bool) (M : Mem), 0 < n → D M0 T A [] M → Sat (pX8_chain_62 n (nI w) (onI none) (nI i) M) (fun o M' => o = onI (cnS (hop T A.1) w m i none X) ∧ D M0 T A [] M') := fun m n i X M hn h => by
    obtain ⟨n, rfl⟩ : ∃ n', n = n' + 1 := ⟨n - 1, by omega⟩
    rw [pX8_chain_62, onI_none, cnS_none, if_pos rfl]
    split
    · exact S_ret ⟨rfl, h⟩
    · exact S_ret ⟨rfl, h⟩
  induction m with
  | zero =>
    intro n i cur X M hiw hi hn h hX hcn hc
    cases cur with
    | none => exact base 0 n i X M (by omega) h
    | some c =>
      obtain ⟨hcT, hcX⟩ := hc c rfl
      have : cnt (fun _ => false) T < cnt (fun u => !X u) T := cnt_lt (t := c) T (fun u hu q => by cases q) hcT (by simp [hcX]) (by simp)
      omega
  | succ m ih =>
    intro n i cur X M hiw hi hn h hX hcn hc
    cases cur with
    | none => exact base (m + 1) n i X M (by omega) h
    | some c =>
      obtain ⟨hcT, hcX⟩ := hc c rfl
      obtain ⟨n, rfl⟩ : ∃ n', n = n' + 1 := ⟨n - 1, by omega⟩
      rw [pX8_chain_62, cnS]
      simp only [hcX]
      rw [if_neg (show ¬ false = true by decide)]
      by_cases ew : i = w
      · subst ew
        rw [if_pos (nI_le (Nat.le_refl _) (by omega)), if_pos rfl]
        exact S_ret ⟨rfl, h⟩
      · rw [if_neg (nI_ge (by omega) (by omega)), if_neg ew, onI_some, if_neg (m1_ne (by omega)), chk_h (inB_nI (by omega) (by omega)), cl (by omega), and1_1]
        refine S_w (P := fun M' => D M0 T A [] M' ∧ Xm (setX X c true) M') ⟨h.w28, hX.set c true⟩ (fun M2 h2 => ?_)
        rw [m_hf h2.1 hI hcT, bnd_some, nI_1]
        have hcnt : cnt (fun u => !setX X c true u) T < cnt (fun u => !X u) T := cnt_lt (t := c) T (fun u hu q => by
          unfold setX at q
          by_cases e : u = c
          · subst e; simp at q
          · simpa [e] using q) hcT (by simp [hcX]) (by simp [setX])
        cases eh : hop T A.1 c with
        | none =>
          rw [onI_none, if_pos rfl]
          exact base m n (i + 1) _ M2 (by omega) h2.1
        | some d =>
          have hd := hop_T hI eh
          rw [onI_some, if_neg (m1_ne (by omega)), chk_h (inB_nI (by omega) (by omega)), cl (by omega), h2.2 d (by omega)]
          by_cases ed : setX X c true d = true
          · rw [if_pos ed, if_neg (show ¬ (1 : Int32) = 0 by decide)]
            have q := base m n (i + 1) (setX X c true) M2 (by omega) h2.1
            rw [cnS_none] at q
            have e3 : cnS (hop T A.1) w m (i + 1) (some d) (setX X c true) = none := by
              cases m with
              | zero => rfl
              | succ m => rw [cnS]; simp only [ed, if_true]
            rw [e3]
            exact q
          · rw [if_neg ed, if_pos rfl]
            exact ih n (i + 1) (some d) _ M2 (by omega) (by omega) (by omega) h2.1 h2.2 (by omega) (fun z hz => by
              have : d = z := Option.some.inj hz
              subst this
              exact ⟨hd.2.1, by cases q : setX X c true d; rfl; exact absurd q ed⟩)
theorem m_c25 {M0 : Mem} {t w : Nat} (ht : t < 10) {Q : Int32 → Mem → Prop} (K : ∀ M', D M0 T A [] M' → Xm (fun u => decide (u = t)) M' → Sat (bnd (pX8_holderFor (nI t) M') fun o2 M1 => pX8_chain_62 fu (nI w) o2 (0 : Int32) M1) Q) : ∀ (m n i : Nat) (M : Mem), i + m = 10 → m < n → D M0 T A [] M → (∀ u, u < i → M.1 28 0 0 u = if decide (u = t) = true then 1 else 0) → Sat (pX8_chain_25 n (nI t) (nI w) (nI i) M) Q := by
  intro m
  induction m with
  | zero =>
    intro n i M hi hn h hX
    obtain ⟨n, rfl⟩ : ∃ n', n = n' + 1 := ⟨n - 1, by omega⟩
    rw [pX8_chain_25, if_pos (show (10 : Int32) ≤ nI i from nI_le (a := 10) (by omega) (by omega))]
    exact K M h (fun u hu => hX u (by omega))
  | succ m ih =>
    intro n i M hi hn h hX
    obtain ⟨n, rfl⟩ : ∃ n', n = n' + 1 := ⟨n - 1, by omega⟩
    rw [pX8_chain_25, if_neg (show ¬ (10 : Int32) ≤ nI i from nI_ge (b := 10) (by omega) (by omega)), chk_h (inB_nI (by omega) (by omega)), cl (by omega), and1_0, and1_1, nI_1, nm_def, nm_def]
    by_cases e : i = t
    · subst e
      rw [if_neg (not_not_intro rfl), chk_h (inB_nI (by omega) (by omega))]
      refine ih n (i + 1) _ (by omega) (by omega) h.w28 (fun u hu => ?_)
      by_cases eu : u = i
      · subst eu; rw [wI_s, if_pos (by simp)]
      · rw [wI_j eu]; exact hX u (by omega)
    · rw [if_pos (show ¬ nI i = nI t from fun q => e (nI_inj (by omega) (by omega) q))]
      refine ih n (i + 1) _ (by omega) (by omega) h.w28 (fun u hu => ?_)
      by_cases eu : u = i
      · subst eu; rw [wI_s, if_neg (by simp [e])]
      · rw [wI_j eu]; exact hX u (by omega)
theorem call_chain (hJ : J n M) (v w : Int32) : LC qI (pL_chain v w M) (pX8_chain v w) n := by
  obtain ⟨T, A, hC, hD, hI, hB, hR⟩ := id hJ
  have hT := hI.T10
  rw [pL_chain]
  by_cases e : isT T v = true
  · obtain ⟨t, ht, rfl⟩ := isT_t hT e
    by_cases e2 : 0 ≤ w
    · obtain ⟨x, hx, rfl⟩ := nI_of (x := w) (by rw [i32_lt]; rw [i32_le] at e2; omega)
      have b0 := bit_o (a := 0) (show t < 10 by omega) (Nat.pow_pos (by omega))
      have b1 : (1 : Int32) <<< (nI t &&& 31) = nI (2 ^ t) := by
        have q := b0.2.1
        rw [Nat.zero_add] at q
        rw [← q]
        exact (Int32.zero_add _).symm
      have hX0 : Bm (fun u => decide (u = t)) (2 ^ t) := by
        refine ⟨Nat.pow_lt_pow_right (n := 10) (by omega) (by omega), fun c hc => ?_⟩
        rw [Nat.testBit_two_pow]
        by_cases q : c = t
        · subst q; simp
        · have q' : ¬ t = c := fun z => q z.symm
          simp [q, q']
      have hcu : ∀ c, hop T A.1 t = some c → c < T ∧ decide (c = t) = false := fun c hc => ⟨(hop_T hI hc).2.1, by simp [(hop_T hI hc).2.2.1]⟩
      refine LC_ok (M1 := M) (o := onI (cnS (hop T A.1) x 10 0 (hop T A.1 t) (fun u => decide (u = t)))) ?_ ?_ rfl
      · rw [pX7_chain, c_thr hC, if_pos e, bndx_ok, c_nneg, if_pos e2, bndx_ok, pX3_blockerInChain, b1, nm_def, c_blocker hC hI.hi ht, bnd_some]
        have := c_bic hC hI hx 10 fu 0 (2 ^ t) (hop T A.1 t) _ (by omega) (by decide) hX0 (fun c hc => (hcu c hc).1)
        show bnd (pX3_blockerInChain_14 0 fu (nI x) (nI (2 ^ t)) (onI (hop T A.1 t)) (nI 0) M) _ = _
        rw [this, bnd_some]
        rfl
      · have hD1 := J_mid hD (onI (cnS (hop T A.1) x 10 0 (hop T A.1 t) (fun u => decide (u = t)))).toInt64
        rw [pX8_chain, nm_def, m_thr hD1, if_pos e, bnd_some, if_neg (show ¬ (1 : Int32) = 0 by decide), if_pos e2]
        refine m_c25 (T := T) (A := A) (t := t) (w := x) (by omega) (fun M' h' hX' => ?_) 10 fu 0 _ (by omega) (by decide) hD1 (fun u hu => absurd hu (Nat.not_lt_zero u))
        rw [m_hf h' hI ht, bnd_some]
        have hcn : cnt (fun u => !decide (u = t)) T ≤ 10 := Nat.le_trans (cnt_n _ T) hT
        refine S_mono (m_c62 hI hx 10 fu 0 (hop T A.1 t) _ M' (by omega) (by omega) (by decide) h' hX' hcn (fun c hc => hcu c hc)) (fun o M4 h4 => ?_)
        exact ⟨h4.1, J_fin hC hR hI hB _ h4.2⟩
    · refine LC_re (e := 3) (k := 1) (b := 0) hJ (by rw [pX7_chain, c_thr hC, if_pos e, bndx_ok, c_nneg, if_neg e2, bndx_er]) rfl ?_ (by decide)
      rw [pX8_chain, nm_def, m_thr (hD.w7 0), if_pos e, bnd_some, if_neg (show ¬ (1 : Int32) = 0 by decide), if_neg e2, pX8_chain_17, m_fail, bnd_some]
  · refine LC_re (e := 3) (k := 1) (b := 0) hJ (by rw [pX7_chain, c_thr hC, if_neg e, bndx_er]) rfl ?_ (by decide)
    rw [pX8_chain, nm_def, m_thr (hD.w7 0), if_neg e, bnd_some, if_pos rfl, pX8_chain_17, m_fail, bnd_some]
/-! stuck -/
def skF (h : Nat → Option Nat) (st : Nat → Int32) : Nat → Nat → Bool
  | 0, _ => true
  | m + 1, c => match h c with
    | some d => skF h st m d
    | none => decide (st c = 3 ∨ st c = 4)
theorem wk_long (hI : Inv T 10 A) {t c : Nat} (h : wk (hop T A.1) 10 t = some c) (ht : t < T) : A.1 c 3 = 2 := by
  have hT := hI.T10
  have hcT := hiWkLt hI.hi hT ht 10 c h
  by_cases e : A.1 c 3 = 2
  · exact e
  · have hn := hop_n2 hI hcT e
    have h11 : wk (hop T A.1) 11 t = none := by rw [wk_succ, h]; exact hn
    have hx : ∀ i, i ≤ 10 → ∃ v, wk (hop T A.1) i t = some v ∧ v < 10 := by
      intro i hi
      cases q : wk (hop T A.1) i t with
      | none => rw [wk_none q 10 hi] at h; cases h
      | some v => exact ⟨v, rfl, by have := hiWkLt hI.hi hT ht i v q; omega⟩
    obtain ⟨i, j, h1, h2, h3⟩ := php 10 (fun i => (wk (hop T A.1) i t).getD 0) (fun i hi => by
      obtain ⟨v, hv, hv2⟩ := hx i hi
      show (wk (hop T A.1) i t).getD 0 < 10
      rw [hv]
      exact hv2)
    obtain ⟨v, hv, -⟩ := hx i (by omega)
    obtain ⟨w, hw, -⟩ := hx j (by omega)
    rw [hv, hw] at h3
    have h4 : v = w := h3
    subst h4
    have hp : wk (hop T A.1) (j - i) v = some v := by
      have q : wk (hop T A.1) (i + (j - i)) t = some v := by rw [show i + (j - i) = j from by omega]; exact hw
      rw [wk_add, hv] at q
      exact q
    have hk : ∀ k, wk (hop T A.1) (i + k * (j - i)) t = some v := by
      intro k
      induction k with
      | zero => rw [Nat.zero_mul]; exact hv
      | succ k ih =>
        rw [Nat.succ_mul, ← Nat.add_assoc, wk_add, ih]
        exact hp
    have h5 := hk 11
    have hge : 11 * 1 ≤ 11 * (j - i) := Nat.mul_le_mul_left 11 (by omega)
    rw [wk_none h11 (i + 11 * (j - i)) (by omega)] at h5
    cases h5
theorem c_sk4 {g p : Bool} {k : Nat} {M0 : Mem} {stk : List Nat} (h : C g p k M0 T A stk M) (hI : Inv T 10 A) : ∀ (m n i c : Nat), i + m = 10 → m < n → c < T → pX3_isStuck_4 k n (nI c) (nI i) M = some ((if skF (hop T A.1) (fun u => A.1 u 3) m c = true then 1 else 0), M) := by
  have hT := hI.T10
  intro m
  induction m with
  | zero =>
    intro n i c hi hn hc
    obtain ⟨n, rfl⟩ : ∃ n', n = n' + 1 := ⟨n - 1, by omega⟩
    rw [pX3_isStuck_4, if_pos (show (10 : Int32) ≤ nI i from nI_le (a := 10) (by omega) (by omega)), chk_h b01_1, skF, if_pos rfl]
  | succ m ih =>
    intro n i c hi hn hc
    obtain ⟨n, rfl⟩ : ∃ n', n = n' + 1 := ⟨n - 1, by omega⟩
    rw [pX3_isStuck_4, if_neg (show ¬ (10 : Int32) ≤ nI i from nI_ge (b := 10) (by omega) (by omega)), c_blocker h hI.hi hc, bnd_some, skF]
    cases e : hop T A.1 c with
    | none =>
      rw [onI_none, if_neg (not_not_intro rfl), chk_h (inB_nI (by omega) (by omega)), cl (by omega), c_over h hc, bnd_some, chk_h (b01_if (Or.inr rfl) (Or.inl rfl))]
      by_cases q : A.1 c 3 = 3 ∨ A.1 c 3 = 4
      · rw [if_pos q, if_pos (decide_eq_true q)]
      · rw [if_neg q, if_neg (fun z => q (of_decide_eq_true z))]
    | some d =>
      have hd := hop_T hI e
      rw [onI_some, if_pos (m1_ne (by omega)), nI_1]
      exact ih n (i + 1) d (by omega) (by omega) hd.2.1
theorem m_sk24 {M0 : Mem} (h : D M0 T A [] M) (hI : Inv T 10 A) {t a : Nat} (ht : t < T) (ha : a < 2 ^ t) (k9 : Int32 → Int32 → Mem → Option (Int32 × Mem)) : ∀ (m n i c : Nat), i + m = 10 → m < n → wk (hop T A.1) i t = some c → pX8_stuck_24 k9 n (nI a) (nI t) (nI c) (nI i) M = k9 (nI (if skF (hop T A.1) (fun u => A.1 u 3) m c = true then a + 2 ^ t else a)) (nI (t + 1)) M := by
  have hT := hI.T10
  have end_ : ∀ (c : Nat) (b : Bool), c < T → (b = true ↔ ¬ A.1 c 3 < 2) → pX8_stuck_53 k9 (nI a) (nI t) (nI c) M = k9 (nI (if b = true then a + 2 ^ t else a)) (nI (t + 1)) M := fun c b hc hb => by
    obtain ⟨-, b2, b3⟩ := bit_o (show t < 10 by omega) ha
    rw [pX8_stuck_53, m_of h hc 3 (x := 3) rfl (by omega), bnd_some, b2, b3, nI_1, nm_def, nm_def]
    by_cases q : A.1 c 3 < 2
    · rw [if_pos q, if_neg (fun z => hb.mp z q)]
    · rw [if_neg q, if_pos (hb.mpr q)]
  intro m
  induction m with
  | zero =>
    intro n i c hi hn hw
    obtain ⟨n, rfl⟩ : ∃ n', n = n' + 1 := ⟨n - 1, by omega⟩
    have hc := hiWkLt hI.hi hT ht i c hw
    have i10 : i = 10 := by omega
    subst i10
    have h2 := wk_long hI hw ht
    rw [pX8_stuck_24, if_pos (show (10 : Int32) ≤ nI 10 from nI_le (a := 10) (by omega) (by omega))]
    exact end_ c true hc ⟨fun _ => by rw [h2]; decide, fun _ => rfl⟩
  | succ m ih =>
    intro n i c hi hn hw
    obtain ⟨n, rfl⟩ : ∃ n', n = n' + 1 := ⟨n - 1, by omega⟩
    have hc := hiWkLt hI.hi hT ht i c hw
    rw [pX8_stuck_24, if_neg (show ¬ (10 : Int32) ≤ nI i from nI_ge (b := 10) (by omega) (by omega)), m_of h hc 3 (x := 3) rfl (by omega), bnd_some, skF]
    by_cases h2 : A.1 c 3 = 2
    · obtain ⟨l, v, hl, e8, hv, e11, hne, e⟩ := hop_2 hI hc h2
      rw [if_neg (not_not_intro h2), m_hf h hI hc, bnd_some, e, onI_some, nI_1]
      exact ih n (i + 1) v (by omega) (by omega) (by rw [wk_succ, hw]; exact e)
    · rw [if_pos h2, hop_n2 hI hc h2]
      refine end_ c _ hc ?_
      rw [decide_eq_true_iff]
      rcases hI.st hc with q | q | q | q | q <;> rw [q] <;> first | decide | exact absurd q h2
theorem c_st4 {g p : Bool} {k : Nat} {M0 : Mem} {stk : List Nat} (h : C g p 0 M0 T A stk M) (hI : Inv T 10 A) : ∀ (m n i a : Nat), i + m = T → m < n → a < 2 ^ i → pX7_stuck_4 n (nI a) (nI i) M = some (nI (mkB (fun u => skF (hop T A.1) (fun u => A.1 u 3) 10 u) m i a), M) := by
  have hT := hI.T10
  intro m
  induction m with
  | zero =>
    intro n i a hi hn ha
    obtain ⟨n, rfl⟩ : ∃ n', n = n' + 1 := ⟨n - 1, by omega⟩
    rw [pX7_stuck_4, h.cnt4, if_pos (nI_le (by omega) (by omega))]
    rfl
  | succ m ih =>
    intro n i a hi hn ha
    obtain ⟨n, rfl⟩ : ∃ n', n = n' + 1 := ⟨n - 1, by omega⟩
    have q : pX3_isStuck 0 (nI i) M = some ((if skF (hop T A.1) (fun u => A.1 u 3) 10 i = true then 1 else 0), M) := c_sk4 h hI 10 fu 0 i (by omega) (by decide) (by omega)
    rw [pX7_stuck_4, h.cnt4, if_neg (nI_ge (by omega) (by omega)), q, bnd_some, nI_1, (bit_o (show i < 10 by omega) ha).1, nm_def, mkB]
    by_cases e : skF (hop T A.1) (fun u => A.1 u 3) 10 i = true
    · rw [if_pos e, if_pos e, if_neg (show ¬ (1 : Int32) = 0 by decide)]
      exact ih n (i + 1) _ (by omega) (by omega) (by rw [Nat.pow_succ]; omega)
    · rw [if_neg e, if_neg e, if_pos rfl]
      exact ih n (i + 1) _ (by omega) (by omega) (by rw [Nat.pow_succ]; omega)
theorem m_st9 {M0 : Mem} (h : D M0 T A [] M) (hI : Inv T 10 A) : ∀ (m n i a : Nat), i + m = T → m < n → a < 2 ^ i → pX8_stuck_9 n (nI a) (nI i) M = some (nI (mkB (fun u => skF (hop T A.1) (fun u => A.1 u 3) 10 u) m i a), M) := by
  have hT := hI.T10
  intro m
  induction m with
  | zero =>
    intro n i a hi hn ha
    obtain ⟨n, rfl⟩ : ∃ n', n = n' + 1 := ⟨n - 1, by omega⟩
    rw [pX8_stuck_9, chk_h ib_2, cl_2, h.cnt2, if_pos (nI_le (by omega) (by omega))]
    rfl
  | succ m ih =>
    intro n i a hi hn ha
    obtain ⟨n, rfl⟩ : ∃ n', n = n' + 1 := ⟨n - 1, by omega⟩
    rw [pX8_stuck_9, chk_h ib_2, cl_2, h.cnt2, if_neg (nI_ge (by omega) (by omega))]
    have q := m_sk24 h hI (t := i) (a := a) (by omega) ha (fun v1 v2 M => pX8_stuck_9 n v1 v2 M) 10 fu 0 i (by omega) (by decide) rfl
    refine q.trans ?_
    rw [mkB]
    refine ih n (i + 1) _ (by omega) (by omega) ?_
    rw [Nat.pow_succ]
    split <;> omega
theorem call_stuck (hJ : J n M) : LC2 (pX7_stuck M) pX8_stuck n := by
  obtain ⟨T, A, hC, hD, hI, hB, hR⟩ := id hJ
  have hT := hI.T10
  refine ⟨_, M, wI M 19 0 0 7 0, c_st4 (k := 0) hC hI T fu 0 0 (by omega) (by show _ < 4096; omega) (by decide), ?_, J_w7 hJ 0⟩
  rw [pX8_stuck, nm_def]
  exact m_st9 (hD.w7 0) hI T fu 0 0 (by omega) (by show _ < 4096; omega) (by decide)
end CHAINS
