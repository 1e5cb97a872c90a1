/-! ===== returnsIn, ahead, bestBase ===== -/
section PRED2
variable {n : Nat} {T : Nat} {A : AS} {M M1 M2 M3 M4 M5 : Mem}
def rsm (A : AS) (t : Nat) : Int32 := ((A.1 t 12 + A.1 t 13) + A.1 t 14) + A.1 t 15
theorem i32_add {x y : Int32} (hx : 0 ≤ x.toInt) (hy : 0 ≤ y.toInt) (h : x.toInt + y.toInt < 2147483640) : (x + y).toInt = x.toInt + y.toInt := by
  obtain ⟨a, ha, rfl⟩ := nI_of (x := x) (by rw [i32_lt, i32_0]; omega)
  obtain ⟨b, hb, rfl⟩ := nI_of (x := y) (by rw [i32_lt, i32_0]; omega)
  rw [nI_toInt ha, nI_toInt hb] at h
  rw [nI_add, nI_toInt ha, nI_toInt hb, nI_toInt (by omega)]
  omega
theorem rsm_i (h : Inv T 10 A) (hL : A.2.1.length ≤ LIM) {t : Nat} (ht : t < T) : (rsm A t).toInt = (A.1 t 12).toInt + (A.1 t 13).toInt + (A.1 t 14).toInt + (A.1 t 15).toInt := by
  obtain ⟨r1, r2, r3, r4, r5⟩ := h.2.2.2.2.2.2 t ht
  rw [LIM_eq] at hL
  unfold rsm
  have a1 := i32_add r1 r2 (by omega)
  have a2 := i32_add (x := A.1 t 12 + A.1 t 13) (y := A.1 t 14) (by omega) r3 (by omega)
  have a3 := i32_add (x := A.1 t 12 + A.1 t 13 + A.1 t 14) (y := A.1 t 15) (by omega) r4 (by omega)
  omega
theorem c_ar {g p : Bool} {k : Nat} {M0 : Mem} {stk : List Nat} (h : C g p k M0 T A stk M) {t : Nat} (ht : t < T) : pX6_allReturns k t M = some (rsm A t, M) := by
  have r1 : M.1 8 k t 1 = A.1 t 12 := h.th ht 12 rfl
  have r2 : M.1 8 k t 2 = A.1 t 13 := h.th ht 13 rfl
  have r3 : M.1 8 k t 3 = A.1 t 14 := h.th ht 14 rfl
  have r4 : M.1 8 k t 4 = A.1 t 15 := h.th ht 15 rfl
  rw [pX6_allReturns, chk_h (show inB (1 : Int32) 5 = true by decide), chk_h (show inB (2 : Int32) 5 = true by decide), chk_h (show inB (3 : Int32) 5 = true by decide), chk_h (show inB (4 : Int32) 5 = true by decide), cl_1, cl_2, cl_3, cl_4, r1, r2, r3, r4]
  rfl
theorem m_ro {M0 : Mem} {gv : List Nat} (h : D M0 T A gv M) {t : Nat} (ht : t < T) : pX8_returnsOf (nI t) M = some (rsm A t, M) := by
  have hT := h.T10
  have step : ∀ (n c : Nat) (v : Int32), 1 ≤ c → c ≤ 4 → pX8_returnsOf_4 (n + 1) (nI t) v (nI c) M = pX8_returnsOf_4 n (nI t) (v + A.1 t (11 + c)) (nI (c + 1)) M := fun n c v h1 h2 => by
    rw [pX8_returnsOf_4, if_neg (show ¬ (4 : Int32) < nI c from nI_nlt (a := 4) (by omega) (by omega)), m_of h ht (11 + c) (x := (11 : Int32) + nI c) (nI_add 11 c).symm (by omega), bnd_some, nm_def, nI_1]
  rw [pX8_returnsOf]
  show pX8_returnsOf_4 (4091 + 1 + 1 + 1 + 1 + 1) (nI t) 0 (nI 1) M = _
  rw [step _ 1 0 (by omega) (by omega), step _ 2 _ (by omega) (by omega), step _ 3 _ (by omega) (by omega), step _ 4 _ (by omega) (by omega), pX8_returnsOf_4, if_pos (show (4 : Int32) < nI (4 + 1) by decide), Int32.zero_add]
  rfl
def rnF (T t : Nat) (r0 : Int32) : Nat → Nat → AS → Option Nat
  | 0, _, _ => none
  | m + 1, j, A => if rsm (tick T A) t = r0 then rnF T t r0 m (j + 1) (tick T A) else some (j + 1)
theorem c_rn {M0 : Mem} {t most : Nat} (ht : t < T) (hm500 : most ≤ 500) (r0 : Int32) : ∀ (m n j b : Nat) (A : AS) (M : Mem), j + m = most → m < n → C true true 1 M0 T A [] M → Inv T 10 A → Bd b A → b + m ≤ 270000 → Sat (pX7_returnsIn_43 n (nI most) t r0 (nI (j + 1)) M) (fun o M' => o = .ok (onI (rnF T t r0 m j A)) ∧ Fk 1 M0 M') := by
  intro m
  induction m with
  | zero =>
    intro n j b A M hj hn h hI hB hb
    obtain ⟨n, rfl⟩ : ∃ n', n = n' + 1 := ⟨n - 1, by omega⟩
    rw [pX7_returnsIn_43, if_pos (nI_lt (by omega) (by omega))]
    exact S_ret ⟨rfl, h.fkk⟩
  | succ m ih =>
    intro n j b A M hj hn h hI hB hb
    obtain ⟨n, rfl⟩ : ∃ n', n = n' + 1 := ⟨n - 1, by omega⟩
    obtain ⟨k1, k2, -⟩ := tick_bd hI hB (by omega)
    rw [pX7_returnsIn_43, if_neg (nI_nlt (by omega) (by omega)), nI_1, rnF]
    refine S_bnd (c_tickB h hI hB (by omega)) (fun _ M1 h1 => ?_)
    rw [c_ar h1 ht, bnd_some]
    by_cases e : rsm (tick T A) t = r0
    · rw [if_pos e, if_pos e]
      exact ih n (j + 1) (b + 1) _ M1 (by omega) (by omega) h1 k1 k2 (by omega)
    · rw [if_neg e, if_neg e]
      exact S_ret ⟨rfl, h1.fkk⟩
theorem tick_rsm (hI : Inv T 10 A) (hB : Bd n A) (hn : n ≤ 270000) {t : Nat} (ht : t < T) : (rsm A t).toInt ≤ (rsm (tick T A) t).toInt := by
  have hT := hI.T10
  obtain ⟨k1, k2, B, ev, e⟩ := tick_bd hI hB hn
  have l1 := hB.1
  have l2 := k2.1
  have hL := LIM_eq
  rw [rsm_i hI (by omega) ht, rsm_i k1 (by omega) ht]
  have r : ∀ b, 12 ≤ b → (tick T A).1 t b = B.1 t b := fun b hb => by rw [e, inc_e, if_neg (by omega)]
  rw [r 12 (by omega), r 13 (by omega), r 14 (by omega), r 15 (by omega)]
  have e1 := ev.2.2.2.1 t 12 ht (by omega) (by omega)
  have e2 := ev.2.2.2.1 t 13 ht (by omega) (by omega)
  have e3 := ev.2.2.2.1 t 14 ht (by omega) (by omega)
  have e4 := ev.2.2.2.1 t 15 ht (by omega) (by omega)
  omega
/-- the reference's loop: from a state whose returns are as before -/
theorem m_rn {M0 : Mem} {t most : Nat} (ht : t < T) (hm500 : most ≤ 500) (r0 : Int32) {Q : Int32 → Mem → Prop} (o0 : Option Nat) (K : ∀ (M' : Mem) (A' : AS) (v4 s0 : Int32), D M0 T A' [] M' → (if s0 = 0 then -1 else v4) = onI o0 → Sat (pX8_returnsIn_97 v4 s0 M') Q) : ∀ (m n j b : Nat) (A : AS) (M : Mem), j + m = most → m < n → D M0 T A [] M → Inv T 10 A → Bd b A → b + m ≤ 270000 → rsm A t = r0 → rnF T t r0 m j A = o0 → Sat (pX8_returnsIn_58 n (nI t) (nI most) r0 (nI j) M) Q := by
  intro m
  induction m with
  | zero =>
    intro n j b A M hj hn h hI hB hb hr ho
    obtain ⟨n, rfl⟩ : ∃ n', n = n' + 1 := ⟨n - 1, by omega⟩
    rw [pX8_returnsIn_58, if_pos (nI_le (by omega) (by omega)), pX8_returnsIn_83, m_ro h ht, bnd_some, hr, if_pos (i32_le.mpr (Int.le_refl _))]
    exact K M A _ 0 h (by rw [if_pos rfl, ← ho]; rfl)
  | succ m ih =>
    intro n j b A M hj hn h hI hB hb hr ho
    obtain ⟨n, rfl⟩ : ∃ n', n = n' + 1 := ⟨n - 1, by omega⟩
    obtain ⟨k1, k2, -⟩ := tick_bd hI hB (by omega)
    rw [pX8_returnsIn_58, if_neg (nI_ge (by omega) (by omega)), m_ro h ht, bnd_some, if_neg (not_not_intro hr), nI_1]
    rw [rnF] at ho
    refine S_bnd (m_tickB h hI hB (by omega)) (fun _ M1 h1 => ?_)
    by_cases e : rsm (tick T A) t = r0
    · rw [if_pos e] at ho
      exact ih n (j + 1) (b + 1) _ M1 (by omega) (by omega) h1 k1 k2 (by omega) e ho
    · rw [if_neg e] at ho
      have mono := tick_rsm hI hB (by omega) ht
      have hgt : ¬ rsm (tick T A) t ≤ r0 := fun q => e (i32_eq.mpr (by
        rw [i32_le] at q
        rw [hr] at mono
        omega))
      obtain ⟨n, rfl⟩ : ∃ n', n = n' + 1 := ⟨n - 1, by omega⟩
      have fin83 : Sat (pX8_returnsIn_83 (nI t) r0 (nI (j + 1)) M1) Q := by
        rw [pX8_returnsIn_83, m_ro h1 ht, bnd_some, if_neg hgt]
        exact K M1 _ _ 1 h1 (by rw [if_neg (by decide), ← ho]; rfl)
      rw [pX8_returnsIn_58]
      by_cases e2 : nI most ≤ nI (j + 1)
      · rw [if_pos e2]; exact fin83
      · rw [if_neg e2, m_ro h1 ht, bnd_some, if_pos e]; exact fin83
theorem call_returnsIn (hJ : J n M) (hn : n ≤ 260000) (v w : Int32) : LC qI (pL_returnsIn v w M) (pX8_returnsIn v w) n := by
  obtain ⟨T, A, hC, hD, hI, hB, hR⟩ := id hJ
  have hT := hI.T10
  have hL := hB.lim hn
  rw [pL_returnsIn]
  by_cases e : isT T v = true
  · obtain ⟨t, ht, rfl⟩ := isT_t hT e
    by_cases e2 : rng w 1 500 = true
    · obtain ⟨most, q1, q2, rfl⟩ := rng_lo (lo := 1) (hi := 500) (by omega) (by omega) rfl rfl e2
      have h7 : Sat (pX7_returnsIn (nI t) (nI most) M) (fun o M' => o = .ok (onI (rnF T t (rsm A t) most 0 A)) ∧ Fk 1 M M') := by
        rw [pX7_returnsIn, c_thr hC, if_pos e, bndx_ok, c_rng, if_pos e2, bndx_ok]
        refine S_bnd (c_copy (k := 1) (k1 := 0) (by omega) hC hI) (fun _ M1 h1 => ?_)
        rw [chk_h (inB_nI (by omega) (by omega)), cl (by omega), c_ar h1 ht, bnd_some]
        exact c_rn ht q2 _ most fu 0 n A M1 (by omega) (by show _ < 4096; omega) h1 hI hB (by omega)
      obtain ⟨_, M1, e7, rfl, hF⟩ := h7
      refine LC_ok (g := _) e7 ?_ rfl
      have hC3 := (((hC.fk (k' := 1) (by omega) hF).wo (onI (rnF T t (rsm A t) most 0 A)).toInt64).w7 0)
      have hR3 := (((hR.fk (by omega) hF).wo (onI (rnF T t (rsm A t) most 0 A)).toInt64).w7 0)
      have hD3 := J_mid (hD.fk hF) (onI (rnF T t (rsm A t) most 0 A)).toInt64
      rw [pX8_returnsIn, nm_def, m_thr hD3, if_pos e, bnd_some, if_pos (show ¬ (1 : Int32) = 0 by decide), m_rng, if_pos e2, bnd_some, if_pos (show ¬ (1 : Int32) = 0 by decide)]
      refine S_bnd (m_save22 hD3) (fun _ M4 h4 => ?_)
      obtain ⟨d4, f4, s4⟩ := h4
      rw [m_ro d4 ht, bnd_some]
      refine m_rn ht q2 (rsm A t) (rnF T t (rsm A t) most 0 A) (fun M5 A' v4 s0 h5 ev => ?_) most fu 0 n A M4 (by omega) (by show _ < 4096; omega) d4 hI hB (by omega) rfl rfl
      rw [pX8_returnsIn_97]
      refine S_bnd (m_back22 h5 s4 hD3) (fun _ M6 h6 => ?_)
      obtain ⟨j1, j2, j3⟩ := J_fw hC3 hR3 hI hB (f4.trans h6.2) h6.1
      by_cases es : s0 = 0
      · rw [if_pos es] at ev ⊢
        exact S_ret ⟨ev, by rw [j1, wI_s], j2, j3⟩
      · rw [if_neg es] at ev ⊢
        exact S_ret ⟨ev, by rw [j1, wI_s], j2, j3⟩
    · refine LC_er (e := 2) (k := 2) (b := 0) (M2 := wI (wI M 19 0 0 7 0) 19 0 0 7 2) (by rw [pX7_returnsIn, c_thr hC, if_pos e, bndx_ok, c_rng, if_neg e2, bndx_er]) rfl ?_ (w7w7 _ _) (by decide) (J_w7 (J_w7 hJ 0) 2)
      rw [pX8_returnsIn, nm_def, m_thr (hD.w7 0), if_pos e, bnd_some, if_pos (show ¬ (1 : Int32) = 0 by decide), m_rng, if_neg e2, bnd_some, if_neg (not_not_intro rfl), m_fail, bnd_some]
  · refine LC_er (e := 3) (k := 1) (b := 0) (M2 := wI (wI M 19 0 0 7 0) 19 0 0 7 1) (by rw [pX7_returnsIn, c_thr hC, if_neg e, bndx_er]) rfl ?_ (w7w7 _ _) (by decide) (J_w7 (J_w7 hJ 0) 1)
    rw [pX8_returnsIn, nm_def, m_thr (hD.w7 0), if_neg e, bnd_some, if_neg (not_not_intro rfl), m_fail, bnd_some]
/-! ahead -/
def arF (A : AS) : Nat → Nat → Int32 → Int32
  | 0, _, v => v
  | n + 1, i, v => arF A n (i + 1) (v + rsm A i)
theorem c_ar4 {g p : Bool} {k : Nat} {M0 : Mem} {stk : List Nat} (h : C g p k M0 T A stk M) : ∀ (m n i : Nat) (v : Int32), i + m = T → m < n → pX3_allReturns_4 k n v (nI i) M = some (arF A m i v, M) := by
  have hT := h.T10
  intro m
  induction m with
  | zero =>
    intro n i v hi hn
    obtain ⟨n, rfl⟩ : ∃ n', n = n' + 1 := ⟨n - 1, by omega⟩
    rw [pX3_allReturns_4, h.cnt4, if_pos (nI_le (by omega) (by omega))]
    rfl
  | succ m ih =>
    intro n i v hi hn
    obtain ⟨n, rfl⟩ : ∃ n', n = n' + 1 := ⟨n - 1, by omega⟩
    rw [pX3_allReturns_4, h.cnt4, if_neg (nI_ge (by omega) (by omega)), chk_h (inB_nI (by omega) (by omega)), cl (by omega), c_ar h (by omega), bnd_some, nm_def, nI_1, arF]
    exact ih n (i + 1) _ (by omega) (by omega)
theorem c_all {g p : Bool} {k : Nat} {M0 : Mem} {stk : List Nat} (h : C g p k M0 T A stk M) : pX3_allReturns k M = some (arF A T 0 0, M) := c_ar4 h T fu 0 0 (by omega) (by have := h.T10; show _ < 4096; omega)
theorem m_ar4 {M0 : Mem} {gv : List Nat} (h : D M0 T A gv M) : ∀ (m n i : Nat) (v : Int32), i + m = T → m < n → pX8_allReturns_4 n v (nI i) M = some (arF A m i v, M) := by
  have hT := h.T10
  intro m
  induction m with
  | zero =>
    intro n i v hi hn
    obtain ⟨n, rfl⟩ : ∃ n', n = n' + 1 := ⟨n - 1, by omega⟩
    rw [pX8_allReturns_4, chk_h ib_2, cl_2, h.cnt2, if_pos (nI_le (by omega) (by omega))]
    rfl
  | succ m ih =>
    intro n i v hi hn
    obtain ⟨n, rfl⟩ : ∃ n', n = n' + 1 := ⟨n - 1, by omega⟩
    rw [pX8_allReturns_4, chk_h ib_2, cl_2, h.cnt2, if_neg (nI_ge (by omega) (by omega)), m_ro h (by omega), bnd_some, nm_def, nI_1, arF]
    exact ih n (i + 1) _ (by omega) (by omega)
theorem m_all {M0 : Mem} {gv : List Nat} (h : D M0 T A gv M) : pX8_allReturns M = some (arF A T 0 0, M) := m_ar4 h T fu 0 0 (by omega) (by have := h.T10; show _ < 4096; omega)
def ahV (T : Nat) (A B : AS) (w : Nat) : Int32 := match w with
  | 0 => inS T B 3
  | 1 => B.1 10 6 - A.1 10 6
  | 2 => arF B T 0 0 - arF A T 0 0
  | _ => nI B.2.1.length - nI A.2.1.length
theorem c_ah {g0 p0 : Bool} {M0 : Mem} {tk w : Nat} {A0 : AS} (htk : tk ≤ 500) (hw : w ≤ 3) : ∀ (m n i b : Nat) (A : AS) (M : Mem), i + m = tk → m < n → C true true 1 M0 T A [] M → C g0 p0 0 M0 T A0 [] M0 → Inv T 10 A → Bd b A → b + m ≤ 270000 → Sat (pX7_ahead_27 n (nI tk) (nI w) (nI i) M) (fun o M' => o = .ok (ahV T A0 (tks T m A) w) ∧ Fk 1 M0 M') := by
  intro m
  induction m with
  | zero =>
    intro n i b A M hi hn h h0 hI hB hb
    obtain ⟨n, rfl⟩ : ∃ n', n = n' + 1 := ⟨n - 1, by omega⟩
    have h0' := h0.fk (k' := 1) (by omega) h.fkk
    rw [pX7_ahead_27, if_pos (nI_le (by omega) (by omega))]
    have hw4 : w = 0 ∨ w = 1 ∨ w = 2 ∨ w = 3 := by omega
    rcases hw4 with rfl | rfl | rfl | rfl
    · rw [if_pos (show nI 0 = 0 from rfl), c_thin h, bnd_some]
      exact S_ret ⟨rfl, h.fkk⟩
    · rw [if_neg (show ¬ nI 1 = 0 by decide), if_pos (show nI 1 = 1 from rfl), show M.1 3 1 0 7 = A.1 10 6 from h.gl 6 rfl, show M.1 3 0 0 7 = A0.1 10 6 from h0'.gl 6 rfl]
      exact S_ret ⟨rfl, h.fkk⟩
    · rw [if_neg (show ¬ nI 2 = 0 by decide), if_neg (show ¬ nI 2 = 1 by decide), if_pos (show nI 2 = 2 from rfl), c_all h, bnd_some, c_all h0', bnd_some]
      exact S_ret ⟨rfl, h.fkk⟩
    · rw [if_neg (show ¬ nI 3 = 0 by decide), if_neg (show ¬ nI 3 = 1 by decide), if_neg (show ¬ nI 3 = 2 by decide), h.2.2.2.1.tt, h0'.2.2.2.1.tt]
      exact S_ret ⟨rfl, h.fkk⟩
  | succ m ih =>
    intro n i b A M hi hn h h0 hI hB hb
    obtain ⟨n, rfl⟩ : ∃ n', n = n' + 1 := ⟨n - 1, by omega⟩
    obtain ⟨k1, k2, -⟩ := tick_bd hI hB (by omega)
    rw [pX7_ahead_27, if_neg (nI_ge (by omega) (by omega)), nI_1]
    exact S_bnd (c_tickB h hI hB (by omega)) (fun _ M1 h1 => ih n (i + 1) (b + 1) _ M1 (by omega) (by omega) h1 h0 k1 k2 (by omega))
theorem call_ahead (hJ : J n M) (hn : n ≤ 260000) (v w : Int32) : LC qI (pL_ahead v w M) (pX8_ahead v w) n := by
  obtain ⟨T, A, hC, hD, hI, hB, hR⟩ := id hJ
  have hT := hI.T10
  have hL := hB.lim hn
  rw [pL_ahead]
  by_cases e : rng v 1 500 = true
  · obtain ⟨tk, q1, q2, rfl⟩ := rng_lo (lo := 1) (hi := 500) (by omega) (by omega) rfl rfl e
    by_cases e2 : rng w 0 3 = true
    · obtain ⟨x, -, hx, rfl⟩ := rng_lo (lo := 0) (hi := 3) (by omega) (by omega) rfl rfl e2
      have h7 : Sat (pX7_ahead (nI tk) (nI x) M) (fun o M' => o = .ok (ahV T A (tks T tk A) x) ∧ Fk 1 M M') := by
        rw [pX7_ahead, c_rng, if_pos e, bndx_ok, c_rng, if_pos e2, bndx_ok]
        refine S_bnd (c_copy (k := 1) (k1 := 0) (by omega) hC hI) (fun _ M1 h1 => ?_)
        exact c_ah q2 hx tk fu 0 n A M1 (by omega) (by show _ < 4096; omega) h1 hC hI hB (by omega)
      obtain ⟨_, M1, e7, rfl, hF⟩ := h7
      refine LC_ok (g := _) e7 ?_ rfl
      have hC3 := (((hC.fk (k' := 1) (by omega) hF).wo (ahV T A (tks T tk A) x).toInt64).w7 0)
      have hR3 := (((hR.fk (by omega) hF).wo (ahV T A (tks T tk A) x).toInt64).w7 0)
      have hD3 := J_mid (hD.fk hF) (ahV T A (tks T tk A) x).toInt64
      rw [pX8_ahead, nm_def, m_rng, if_pos e, bnd_some, if_neg (show ¬ (1 : Int32) = 0 by decide), m_rng, if_pos e2, bnd_some, if_pos (show ¬ (1 : Int32) = 0 by decide)]
      refine S_bnd (m_save22 hD3) (fun _ M4 h4 => ?_)
      obtain ⟨d4, f4, s4⟩ := h4
      rw [chk_h ib_6, cl_6, show M4.1 20 0 0 6 = A.1 10 6 from d4.gl 6 rfl, nm_def, m_all d4, bnd_some, chk_h ib_13, cl_13, d4.1.2.2.2.2.2.1.2.2.1, nm_def]
      refine S_bnd (m_ticks q2 d4 hI hB (by omega)) (fun _ M5 h5 => ?_)
      have fin126 : ∀ y, y = ahV T A (tks T tk A) x → Sat (pX8_ahead_126 y M5) (fun b M6 => b = ahV T A (tks T tk A) x ∧ M6.1 19 0 0 7 = 0 ∧ M6.2 = (wO M1 (ahV T A (tks T tk A) x).toInt64).2 ∧ J n M6) := fun y hy => by
        rw [pX8_ahead_126]
        refine S_bnd (m_back22 h5 s4 hD3) (fun _ M6 h6 => ?_)
        obtain ⟨j1, j2, j3⟩ := J_fw hC3 hR3 hI hB (f4.trans h6.2) h6.1
        exact S_ret ⟨hy, by rw [j1, wI_s], j2, j3⟩
      have hw4 : x = 0 ∨ x = 1 ∨ x = 2 ∨ x = 3 := by omega
      rcases hw4 with rfl | rfl | rfl | rfl
      · rw [if_neg (show ¬ ¬ nI 0 = 0 from not_not_intro rfl), m_thin h5, bnd_some]
        exact fin126 _ rfl
      · rw [if_pos (show ¬ nI 1 = 0 by decide), if_neg (show ¬ ¬ nI 1 = 1 from not_not_intro rfl), chk_h ib_6, show M5.1 20 0 0 6 = _ from h5.gl 6 rfl]
        exact fin126 _ rfl
      · rw [if_pos (show ¬ nI 2 = 0 by decide), if_pos (show ¬ nI 2 = 1 by decide), if_neg (show ¬ ¬ nI 2 = 2 from not_not_intro rfl), m_all h5, bnd_some]
        exact fin126 _ rfl
      · rw [if_pos (show ¬ nI 3 = 0 by decide), if_pos (show ¬ nI 3 = 1 by decide), if_pos (show ¬ nI 3 = 2 by decide), chk_h ib_13, h5.1.2.2.2.2.2.1.2.2.1]
        exact fin126 _ rfl
    · refine LC_er (e := 2) (k := 1) (b := 0) (M2 := wI (wI M 19 0 0 7 0) 19 0 0 7 1) (by rw [pX7_ahead, c_rng, if_pos e, bndx_ok, c_rng, if_neg e2, bndx_er]) rfl ?_ (w7w7 _ _) (by decide) (J_w7 (J_w7 hJ 0) 1)
      rw [pX8_ahead, nm_def, m_rng, if_pos e, bnd_some, if_neg (show ¬ (1 : Int32) = 0 by decide), m_rng, if_neg e2, bnd_some, if_neg (not_not_intro rfl), pX8_ahead_25, m_fail, bnd_some]
  · refine LC_er (e := 2) (k := 1) (b := 0) (M2 := wI (wI M 19 0 0 7 0) 19 0 0 7 1) (by rw [pX7_ahead, c_rng, if_neg e, bndx_er]) rfl ?_ (w7w7 _ _) (by decide) (J_w7 (J_w7 hJ 0) 1)
    rw [pX8_ahead, nm_def, m_rng, if_neg e, bnd_some, if_pos rfl, pX8_ahead_25, m_fail, bnd_some]
end PRED2
