/-! ===== predictions: the class's side ===== -/
section LAW63
variable {g p : Bool} {k n : Nat} {M0 : Mem} {T T' : Nat} {A A' : AS} {stk gv : List Nat} {M M' M1 M2 M3 : Mem}
theorem C.unnt {g p : Bool} {k : Nat} {M0 : Mem} {stk : List Nat} (h : C g p k M0 T (ntG T A) stk M) : C false p k M0 T A stk M := by
  have hT := h.T10
  obtain ⟨⟨hT2, hth, hgl, hho, hco⟩, -, hpp, hl, hw, hs, hF⟩ := h
  refine ⟨⟨⟨hT, by rw [← hT2.2, ntG_e _ _ (by omega)]⟩, fun t f ht hf => ?_, fun b hb => ?_, fun l hl => ?_, fun t j ht hj hj2 => ?_⟩, fun e => (nomatch e), fun e e2 t ht => ?_, hl, hw, hs, hF⟩
  · have : ¬ f = 16 := by simp [okf] at hf; omega
    rw [hth t f ht hf, ntG_e _ _ (by omega)]
  · rw [hgl b hb, ntG_e _ _ (by omega)]
  · rw [hho l hl, ntG_e _ _ (by omega)]
  · have := hco t j ht hj (by rw [ntG_e _ _ (by omega)]; exact hj2)
    rw [ntG_e _ _ (by omega), ntG_e _ _ (by omega)] at this
    exact this
  · rw [hpp e e2 t ht, pr_ntG hT ht]
theorem c_tickN {k : Nat} {M0 : Mem} (h : C true true k M0 T A [] M) (hI : Inv T 10 A) (hL : A.2.1.length + 6000 ≤ LIM) : Sat (pX3_tick k M) (fun o M' => o = onI (chs T (wbt T A)) ∧ Fk k M0 M') := by
  have hT := hI.T10
  obtain ⟨i1, i2, i3⟩ := wbT_ok 10 _ hI (by omega)
  obtain ⟨w1, w2, w3⟩ := wbt_ok hI (by omega)
  rw [pX3_tick]
  refine S_bnd (c_note h hI) (fun _ M1 h1 => ?_)
  have h1 := h1.unnt
  rw [c_late h1, bnd_some]
  refine c_tick11 10 fu 0 _ M1 (by omega) (by decide) h1 hI (by omega) (fun M2 h2 => ?_)
  exact c_tick43 h2 i1 (by omega) (fun M3 h3 => S_mono (c_tick104 (A := wbt T A) h3 w1 (by omega)) (fun o M' h' => ⟨h'.1, h'.2.fkk⟩))
def dnF (T t : Nat) : Nat → Nat → AS → Option Nat
  | 0, j, A => if A.1 t 3 = 3 then some j else none
  | m + 1, j, A => if A.1 t 3 = 3 then some j else dnF T t m (j + 1) (tick T A)
theorem dnF_le {t : Nat} : ∀ m j A d, dnF T t m j A = some d → j ≤ d ∧ d ≤ j + m := by
  intro m
  induction m with
  | zero => intro j A d h; rw [dnF] at h; split at h <;> cases h; omega
  | succ m ih =>
    intro j A d h
    rw [dnF] at h
    split at h
    · cases h; omega
    · have := ih _ _ _ h; omega
theorem c_dn {M0 : Mem} {t most : Nat} (ht : t < T) (hm500 : most ≤ 500) : ∀ (m n j b : Nat) (A : AS) (M : Mem), j + m = most → m + 1 < n → C true true 1 M0 T A [] M → Inv T 10 A → Bd b A → b + m + 1 ≤ 270000 → Sat (pX7_doneIn_37 n (nI most) t (nI j) M) (fun o M' => o = (onI (dnF T t m j A)) ∧ Fk 1 M0 M') := by
  intro m
  induction m with
  | zero =>
    intro n j b A M hj hn h hI hB hb
    obtain ⟨n, rfl⟩ : ∃ n', n = n' + 1 := ⟨n - 1, by omega⟩
    have r7 : M.1 5 1 t 7 = A.1 t 3 := h.th ht 3 rfl
    rw [pX7_doneIn_37, if_neg (nI_nlt (by omega) (by omega)), r7, nI_1, dnF]
    by_cases e : A.1 t 3 = 3
    · rw [if_neg (not_not_intro e), if_pos e]
      exact S_ret ⟨rfl, h.fkk⟩
    · rw [if_pos e, if_neg e]
      refine S_bnd (c_tickB h hI hB (by omega)) (fun _ M1 h1 => ?_)
      obtain ⟨n, rfl⟩ : ∃ n', n = n' + 1 := ⟨n - 1, by omega⟩
      rw [pX7_doneIn_37, if_pos (nI_lt (by omega) (by omega))]
      exact S_ret ⟨rfl, h1.fkk⟩
  | succ m ih =>
    intro n j b A M hj hn h hI hB hb
    obtain ⟨n, rfl⟩ : ∃ n', n = n' + 1 := ⟨n - 1, by omega⟩
    have r7 : M.1 5 1 t 7 = A.1 t 3 := h.th ht 3 rfl
    rw [pX7_doneIn_37, if_neg (nI_nlt (by omega) (by omega)), r7, nI_1, dnF]
    by_cases e : A.1 t 3 = 3
    · rw [if_neg (not_not_intro e), if_pos e]
      exact S_ret ⟨rfl, h.fkk⟩
    · rw [if_pos e, if_neg e]
      obtain ⟨k1, k2, -⟩ := tick_bd hI hB (by omega)
      exact S_bnd (c_tickB h hI hB (by omega)) (fun _ M1 h1 => ih n (j + 1) (b + 1) _ M1 (by omega) (by omega) h1 k1 k2 (by omega))
def rsm (A : AS) (t : Nat) : Int32 := ((A.1 t 12 + A.1 t 13) + A.1 t 14) + A.1 t 15
theorem i32_add {x y : Int32} (hx : 0 ≤ x.toInt) (hy : 0 ≤ y.toInt) (h : x.toInt + y.toInt < 2147483640) : (x + y).toInt = x.toInt + y.toInt := by
  obtain ⟨a, ha, rfl⟩ := nI_of (x := x) (by rw [i32_lt, i32_0]; omega)
  obtain ⟨b, hb, rfl⟩ := nI_of (x := y) (by rw [i32_lt, i32_0]; omega)
  rw [nI_toInt ha, nI_toInt hb] at h
  rw [nI_add, nI_toInt ha, nI_toInt hb, nI_toInt (by omega)]
  omega
theorem rsm_i (h : Inv T 10 A) (hL : A.2.1.length ≤ LIM) {t : Nat} (ht : t < T) : (rsm A t).toInt = (A.1 t 12).toInt + (A.1 t 13).toInt + (A.1 t 14).toInt + (A.1 t 15).toInt := by
  obtain ⟨r1, r2, r3, r4, r5⟩ := h.2.2.2.2.2.2 t ht
  rw [LIM_eq] at hL
  unfold rsm
  have a1 := i32_add r1 r2 (by omega)
  have a2 := i32_add (x := A.1 t 12 + A.1 t 13) (y := A.1 t 14) (by omega) r3 (by omega)
  have a3 := i32_add (x := A.1 t 12 + A.1 t 13 + A.1 t 14) (y := A.1 t 15) (by omega) r4 (by omega)
  omega
theorem c_ar {g p : Bool} {k : Nat} {M0 : Mem} {stk : List Nat} (h : C g p k M0 T A stk M) {t : Nat} (ht : t < T) : pX6_allReturns k t M = some (rsm A t, M) := by
  have r1 : M.1 8 k t 1 = A.1 t 12 := h.th ht 12 rfl
  have r2 : M.1 8 k t 2 = A.1 t 13 := h.th ht 13 rfl
  have r3 : M.1 8 k t 3 = A.1 t 14 := h.th ht 14 rfl
  have r4 : M.1 8 k t 4 = A.1 t 15 := h.th ht 15 rfl
  rw [pX6_allReturns, chk_h (show inB (1 : Int32) 5 = true by decide), chk_h (show inB (2 : Int32) 5 = true by decide), chk_h (show inB (3 : Int32) 5 = true by decide), chk_h (show inB (4 : Int32) 5 = true by decide), cl_1, cl_2, cl_3, cl_4, r1, r2, r3, r4]
  rfl
def rnF (T t : Nat) (r0 : Int32) : Nat → Nat → AS → Option Nat
  | 0, _, _ => none
  | m + 1, j, A => if rsm (tick T A) t = r0 then rnF T t r0 m (j + 1) (tick T A) else some (j + 1)
theorem c_rn {M0 : Mem} {t most : Nat} (ht : t < T) (hm500 : most ≤ 500) (r0 : Int32) : ∀ (m n j b : Nat) (A : AS) (M : Mem), j + m = most → m < n → C true true 1 M0 T A [] M → Inv T 10 A → Bd b A → b + m ≤ 270000 → Sat (pX7_returnsIn_43 n (nI most) t r0 (nI (j + 1)) M) (fun o M' => o = (onI (rnF T t r0 m j A)) ∧ Fk 1 M0 M') := by
  intro m
  induction m with
  | zero =>
    intro n j b A M hj hn h hI hB hb
    obtain ⟨n, rfl⟩ : ∃ n', n = n' + 1 := ⟨n - 1, by omega⟩
    rw [pX7_returnsIn_43, if_pos (nI_lt (by omega) (by omega))]
    exact S_ret ⟨rfl, h.fkk⟩
  | succ m ih =>
    intro n j b A M hj hn h hI hB hb
    obtain ⟨n, rfl⟩ : ∃ n', n = n' + 1 := ⟨n - 1, by omega⟩
    obtain ⟨k1, k2, -⟩ := tick_bd hI hB (by omega)
    rw [pX7_returnsIn_43, if_neg (nI_nlt (by omega) (by omega)), nI_1, rnF]
    refine S_bnd (c_tickB h hI hB (by omega)) (fun _ M1 h1 => ?_)
    rw [c_ar h1 ht, bnd_some]
    by_cases e : rsm (tick T A) t = r0
    · rw [if_pos e, if_pos e]
      exact ih n (j + 1) (b + 1) _ M1 (by omega) (by omega) h1 k1 k2 (by omega)
    · rw [if_neg e, if_neg e]
      exact S_ret ⟨rfl, h1.fkk⟩
theorem tick_rsm (hI : Inv T 10 A) (hB : Bd n A) (hn : n ≤ 270000) {t : Nat} (ht : t < T) : (rsm A t).toInt ≤ (rsm (tick T A) t).toInt := by
  have hT := hI.T10
  obtain ⟨k1, k2, B, ev, e⟩ := tick_bd hI hB hn
  have l1 := hB.1
  have l2 := k2.1
  have hL := LIM_eq
  rw [rsm_i hI (by omega) ht, rsm_i k1 (by omega) ht]
  have r : ∀ b, 12 ≤ b → (tick T A).1 t b = B.1 t b := fun b hb => by rw [e, inc_e, if_neg (by omega)]
  rw [r 12 (by omega), r 13 (by omega), r 14 (by omega), r 15 (by omega)]
  have e1 := ev.2.2.2.1 t 12 ht (by omega) (by omega)
  have e2 := ev.2.2.2.1 t 13 ht (by omega) (by omega)
  have e3 := ev.2.2.2.1 t 14 ht (by omega) (by omega)
  have e4 := ev.2.2.2.1 t 15 ht (by omega) (by omega)
  omega
def arF (A : AS) : Nat → Nat → Int32 → Int32
  | 0, _, v => v
  | n + 1, i, v => arF A n (i + 1) (v + rsm A i)
theorem c_ar4 {g p : Bool} {k : Nat} {M0 : Mem} {stk : List Nat} (h : C g p k M0 T A stk M) : ∀ (m n i : Nat) (v : Int32), i + m = T → m < n → pX3_allReturns_4 k n v (nI i) M = some (arF A m i v, M) := by
  have hT := h.T10
  intro m
  induction m with
  | zero =>
    intro n i v hi hn
    obtain ⟨n, rfl⟩ : ∃ n', n = n' + 1 := ⟨n - 1, by omega⟩
    rw [pX3_allReturns_4, h.cnt4, if_pos (nI_le (by omega) (by omega))]
    rfl
  | succ m ih =>
    intro n i v hi hn
    obtain ⟨n, rfl⟩ : ∃ n', n = n' + 1 := ⟨n - 1, by omega⟩
    rw [pX3_allReturns_4, h.cnt4, if_neg (nI_ge (by omega) (by omega)), chk_h (inB_nI (by omega) (by omega)), cl (by omega), c_ar h (by omega), bnd_some, nm_def, nI_1, arF]
    exact ih n (i + 1) _ (by omega) (by omega)
theorem c_all {g p : Bool} {k : Nat} {M0 : Mem} {stk : List Nat} (h : C g p k M0 T A stk M) : pX3_allReturns k M = some (arF A T 0 0, M) := c_ar4 h T fu 0 0 (by omega) (by have := h.T10; show _ < 4096; omega)
def ahV (T : Nat) (A B : AS) (w : Nat) : Int32 := match w with
  | 0 => inS T B 3
  | 1 => B.1 10 6 - A.1 10 6
  | 2 => arF B T 0 0 - arF A T 0 0
  | _ => nI B.2.1.length - nI A.2.1.length
theorem c_ah {g0 p0 : Bool} {M0 : Mem} {tk w : Nat} {A0 : AS} (htk : tk ≤ 500) (hw : w ≤ 3) : ∀ (m n i b : Nat) (A : AS) (M : Mem), i + m = tk → m < n → C true true 1 M0 T A [] M → C g0 p0 0 M0 T A0 [] M0 → Inv T 10 A → Bd b A → b + m ≤ 270000 → Sat (pX7_ahead_27 n (nI tk) (nI w) (nI i) M) (fun o M' => o = (ahV T A0 (tks T m A) w) ∧ Fk 1 M0 M') := by
  intro m
  induction m with
  | zero =>
    intro n i b A M hi hn h h0 hI hB hb
    obtain ⟨n, rfl⟩ : ∃ n', n = n' + 1 := ⟨n - 1, by omega⟩
    have h0' := h0.fk (k' := 1) (by omega) h.fkk
    rw [pX7_ahead_27, if_pos (nI_le (by omega) (by omega))]
    have hw4 : w = 0 ∨ w = 1 ∨ w = 2 ∨ w = 3 := by omega
    rcases hw4 with rfl | rfl | rfl | rfl
    · rw [if_pos (show nI 0 = 0 from rfl), c_thin h, bnd_some]
      exact S_ret ⟨rfl, h.fkk⟩
    · rw [if_neg (show ¬ nI 1 = 0 by decide), if_pos (show nI 1 = 1 from rfl), show M.1 3 1 0 7 = A.1 10 6 from h.gl 6 rfl, show M.1 3 0 0 7 = A0.1 10 6 from h0'.gl 6 rfl]
      exact S_ret ⟨rfl, h.fkk⟩
    · rw [if_neg (show ¬ nI 2 = 0 by decide), if_neg (show ¬ nI 2 = 1 by decide), if_pos (show nI 2 = 2 from rfl), c_all h, bnd_some, c_all h0', bnd_some]
      exact S_ret ⟨rfl, h.fkk⟩
    · rw [if_neg (show ¬ nI 3 = 0 by decide), if_neg (show ¬ nI 3 = 1 by decide), if_neg (show ¬ nI 3 = 2 by decide), h.2.2.2.1.tt, h0'.2.2.2.1.tt]
      exact S_ret ⟨rfl, h.fkk⟩
  | succ m ih =>
    intro n i b A M hi hn h h0 hI hB hb
    obtain ⟨n, rfl⟩ : ∃ n', n = n' + 1 := ⟨n - 1, by omega⟩
    obtain ⟨k1, k2, -⟩ := tick_bd hI hB (by omega)
    rw [pX7_ahead_27, if_neg (nI_ge (by omega) (by omega)), nI_1]
    exact S_bnd (c_tickB h hI hB (by omega)) (fun _ M1 h1 => ih n (i + 1) (b + 1) _ M1 (by omega) (by omega) h1 h0 k1 k2 (by omega))
theorem sb_inv (h : Inv T 10 A) {t b : Nat} (ht : t < T) (h1 : 1 ≤ b) (h9 : b ≤ 9) : Inv T 10 (up A t 0 (nI b)) := by
  have hT := h.T10
  have r : ∀ a c, ¬ (a = t ∧ c = 0) → (up A t 0 (nI b)).1 a c = A.1 a c := fun a c q => by rw [up_e, if_neg q]
  obtain ⟨a1, ⟨z, q, b1, b2, b3, b4, b5, b6⟩, a3, a4, a5, a6, a7⟩ := h.2.1 t ht
  refine h.thr (Or.inl rfl) (fun v c q1 q2 => r v c (by omega)) (r _ _ (by omega)) (r _ _ (by omega)) (r _ _ (by omega)) (r _ _ (by omega)) rfl (Nat.le_refl _) ht (r _ _ (by omega)) ?_ 10 (Or.inl rfl) (fun _ => ?_) (RI_mono (h.2.2.2.2.2.2 t ht) (fun c q1 q2 => r _ _ (by omega)) (Nat.le_refl _))
  · refine ⟨?_, ⟨z, q, ?_, ?_, b3, b4, ?_, fun j hj => ?_⟩, ?_, ?_, ?_, ?_, ?_⟩
    · rw [up_s, nI_toInt (by omega)]; omega
    · rw [r _ _ (by omega)]; exact b1
    · rw [r _ _ (by omega)]; exact b2
    · rw [r _ _ (by omega), r _ _ (by omega), r _ _ (by omega)]; exact b5
    · rw [r _ _ (by omega), r _ _ (by omega)]; exact b6 j hj
    · rw [r _ _ (by omega)]; exact a3
    · rw [r _ _ (by omega)]; exact a4
    · rw [r _ _ (by omega)]; exact a5
    · rw [r t 3 (by omega), r t 8 (by omega)]
      intro z
      obtain ⟨l, v, c1, c2, c3, c4, c5⟩ := a6 z
      exact ⟨l, v, c1, c2, c3, by rw [r _ _ (by omega)]; exact c4, c5⟩
    · rw [r t 3 (by omega), r t 8 (by omega)]; exact a7
  · have := h.2.2.1 t ht (by omega)
    unfold ZI at this ⊢
    rw [r _ _ (by omega), r _ _ (by omega), r _ _ (by omega)]; exact this
theorem c_cb {k : Nat} {M0 : Mem} (h : C true true k M0 T A [] M) {t : Nat} (ht : t < T) (v : Int32) : Sat (pX3_changeBase k (nI t) v M) (fun _ M' => C true true k M0 T (up A t 0 v) [] M') := by
  have hT := h.T10
  rw [pX3_changeBase, chk_h (inB_nI (by omega) (by omega)), cl (by omega)]
  refine S_w (h.weak.put' (f := 0) ht rfl (by omega) (fun q => (nomatch q)) v) (fun M1 h1 => ?_)
  rw [chk_h b01_1]
  exact S_w (h1.mark (p' := true)) (fun M2 h2 => S_ret h2)
def fdF (T t : Nat) : Nat → Nat → AS → Nat
  | 0, j, _ => j
  | m + 1, j, A => if A.1 t 3 = 3 then j else fdF T t m (j + 1) (tick T A)
theorem fd_dn {t : Nat} : ∀ F m j A, F ≤ m + 1 → (∀ d, dnF T t m j A = some d → fdF T t F j A = if d < j + F then d else j + F) ∧ (dnF T t m j A = none → fdF T t F j A = j + F) := by
  intro F
  induction F with
  | zero =>
    intro m j A _
    refine ⟨fun d h => ?_, fun _ => rfl⟩
    have := dnF_le m j A d h
    rw [if_neg (by omega)]
    rfl
  | succ F ih =>
    intro m j A hF
    rw [fdF]
    by_cases e : A.1 t 3 = 3
    · rw [if_pos e]
      have : dnF T t m j A = some j := by cases m <;> rw [dnF, if_pos e]
      rw [this]
      refine ⟨fun d h => ?_, fun h => (nomatch h)⟩
      cases h
      rw [if_pos (by omega)]
    · rw [if_neg e]
      cases m with
      | zero =>
        have : F = 0 := by omega
        subst this
        rw [dnF, if_neg e]
        exact ⟨fun d h => (nomatch h), fun _ => rfl⟩
      | succ m =>
        have := ih m (j + 1) (tick T A) (by omega)
        rw [dnF, if_neg e, show j + (F + 1) = j + 1 + F from by omega]
        exact this
def bbS (T t most : Nat) (A : AS) (b : Nat) (s : Option (Nat × Nat)) : Option (Nat × Nat) := match dnF T t most 0 (up A t 0 (nI b)) with
  | none => s
  | some d => match s with
    | none => some (b, d)
    | some (b', l) => if d < l then some (b, d) else some (b', l)
def bbF (T t most : Nat) (A : AS) : Nat → Nat → Option (Nat × Nat) → Option (Nat × Nat)
  | 0, _, s => s
  | m + 1, b, s => bbF T t most A m (b + 1) (bbS T t most A b s)
def bb1 (s : Option (Nat × Nat)) : Int32 := match s with
  | none => -1
  | some (b, _) => nI b
def bbW (most : Nat) (s : Option (Nat × Nat)) : Nat := match s with
  | none => most + 1
  | some (_, l) => l
theorem c_bb65 {M0 : Mem} {t F : Nat} (ht : t < T) (hF : F ≤ 201) {v4 v6 : Int32} {Q : Int32 → Mem → Prop} (k34 : Int32 → Nat → Int32 → Int32 → Int32 → Mem → Option (Int32 × Mem)) : ∀ (m n j b : Nat) (A : AS) (M : Mem), j + m = F → m < n → C true true 1 M0 T A [] M → Inv T 10 A → Bd b A → b + m ≤ 270000 → (∀ M', Fk 1 M0 M' → Sat (pX7_bestBase_94 k34 (nI t) t v4 (nI F) v6 (nI (fdF T t m j A)) M') Q) → Sat (pX7_bestBase_65 k34 n (nI t) t v4 (nI F) v6 (nI j) M) Q := by
  intro m
  induction m with
  | zero =>
    intro n j b A M hj hn h hI hB hb K
    obtain ⟨n, rfl⟩ : ∃ n', n = n' + 1 := ⟨n - 1, by omega⟩
    rw [pX7_bestBase_65, if_pos (nI_le (by omega) (by omega))]
    exact K M h.fkk
  | succ m ih =>
    intro n j b A M hj hn h hI hB hb K
    obtain ⟨n, rfl⟩ : ∃ n', n = n' + 1 := ⟨n - 1, by omega⟩
    have r7 : M.1 5 1 t 7 = A.1 t 3 := h.th ht 3 rfl
    rw [pX7_bestBase_65, if_neg (nI_ge (by omega) (by omega)), r7, nI_1]
    rw [fdF] at K
    by_cases e : A.1 t 3 = 3
    · rw [if_pos e] at K ⊢
      exact K M h.fkk
    · rw [if_neg e] at K ⊢
      obtain ⟨k1, k2, -⟩ := tick_bd hI hB (by omega)
      exact S_bnd (c_tickB h hI hB (by omega)) (fun _ M1 h1 => ih n (j + 1) (b + 1) _ M1 (by omega) (by omega) h1 k1 k2 (by omega) K)
theorem bbW_le {t most : Nat} {s : Option (Nat × Nat)} (h : bbW most s ≤ most + 1) (b : Nat) : bbW most (bbS T t most A b s) ≤ most + 1 := by
  unfold bbS
  split
  · exact h
  · rename_i d e
    have := dnF_le _ _ _ _ e
    split
    · show d ≤ most + 1; omega
    · split
      · show d ≤ most + 1; omega
      · exact h
theorem c_bb34 {M0 : Mem} {t most : Nat} (hC : C true true 0 M0 T A [] M0) (hI : Inv T 10 A) (ht : t < T) (hm : most ≤ 200) {bd : Nat} (hB : Bd bd A) (hbd : bd ≤ 260000) : ∀ (m n b : Nat) (s : Option (Nat × Nat)) (M : Mem), b + m = 10 → 1 ≤ b → m < n → Fk 1 M0 M → bbW most s ≤ most + 1 → Sat (pX7_bestBase_34 n (nI t) t (bb1 s) (nI (bbW most s)) (nI b) M) (fun o M' => o = (bb1 (bbF T t most A m b s)) ∧ Fk 1 M0 M') := by
  have hT := hI.T10
  intro m
  induction m with
  | zero =>
    intro n b s M hb h1 hn hF hW
    obtain ⟨n, rfl⟩ : ∃ n', n = n' + 1 := ⟨n - 1, by omega⟩
    rw [pX7_bestBase_34, if_pos (show (9 : Int32) < nI b from nI_lt (a := 9) (by omega) (by omega))]
    exact S_ret ⟨rfl, hF⟩
  | succ m ih =>
    intro n b s M hb h1 hn hF hW
    obtain ⟨n, rfl⟩ : ∃ n', n = n' + 1 := ⟨n - 1, by omega⟩
    rw [pX7_bestBase_34, if_neg (show ¬ (9 : Int32) < nI b from nI_nlt (a := 9) (by omega) (by omega))]
    refine S_bnd (c_copy (k := 1) (k1 := 0) (by omega) (hC.fk (k' := 1) (by omega) hF) hI) (fun _ M1 h1' => ?_)
    refine S_bnd (c_cb h1' ht (nI b)) (fun _ M2 h2 => ?_)
    have hB2 : Bd bd (up A t 0 (nI b)) := ⟨hB.1, by rw [up_a (by omega)]; exact hB.2⟩
    refine c_bb65 ht (by omega) _ (bbW most s) fu 0 bd _ M2 (by omega) (by show _ < 4096; omega) h2 (sb_inv hI ht h1 (by omega)) hB2 (by omega) (fun M3 h3 => ?_)
    have hF3 : Fk 1 M0 M3 := hF.trans h3
    have hfd := fd_dn (T := T) (t := t) (bbW most s) most 0 (up A t 0 (nI b)) hW
    rw [pX7_bestBase_94, nI_1]
    have hnext := ih n (b + 1) (bbS T t most A b s) M3 (by omega) (by omega) (by omega) hF3 (bbW_le hW b)
    show Sat _ (fun (o : Int32) M' => o = (bb1 (bbF T t most A m (b + 1) (bbS T t most A b s))) ∧ Fk 1 M0 M')
    cases ed : dnF T t most 0 (up A t 0 (nI b)) with
    | none =>
      have e1 := hfd.2 ed
      rw [Nat.zero_add] at e1
      have e2 : bbS T t most A b s = s := by unfold bbS; rw [ed]
      rw [e2] at hnext ⊢
      rw [e1, if_pos (nI_le (Nat.le_refl _) (by omega))]
      exact hnext
    | some d =>
      have e1 := hfd.1 d ed
      have hd := dnF_le _ _ _ _ ed
      rw [Nat.zero_add] at e1
      rw [e1]
      by_cases e3 : d < bbW most s
      · rw [if_pos e3, if_neg (nI_ge e3 (by omega))]
        have e2 : bbS T t most A b s = some (b, d) := by
          unfold bbS
          rw [ed]
          cases s with
          | none => rfl
          | some p => exact if_pos e3
        rw [e2] at hnext ⊢
        exact hnext
      · rw [if_neg e3, if_pos (nI_le (Nat.le_refl _) (by omega))]
        have e2 : bbS T t most A b s = s := by
          unfold bbS
          rw [ed]
          cases s with
          | none => exact absurd (show d < most + 1 by omega) e3
          | some p => exact if_neg e3
        rw [e2] at hnext ⊢
        exact hnext
end LAW63
