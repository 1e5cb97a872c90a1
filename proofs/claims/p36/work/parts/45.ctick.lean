/-! ===== the class's tick ===== -/
section CTICK
variable {g p : Bool} {k : Nat} {M0 : Mem} {T : Nat} {A : AS} {stk : List Nat} {M : Mem}
theorem C.cnt4 (h : C g p k M0 T A stk M) : M.1 3 k 0 4 = nI T := (h.gl 2 rfl).trans h.1.1.2
theorem C.scr6 (h : C false p k M0 T A stk M) {i : Nat} {v : Int32} : C false p k M0 T A stk (wI M 5 k i 6 v) := by
  obtain ⟨⟨hT, hth, hgl, hho, hco⟩, hg, hpp, hl, hw, hs, hF⟩ := h
  refine ⟨⟨⟨hT.1, hT.2⟩, ?_, ?_, ?_, ?_⟩, (fun e => (nomatch e)), ?_, ⟨hl.1, ?_, ?_⟩, ?_, ⟨?_, hs.2.1, ?_⟩, hF.wI (by omega) (by omega)⟩
  · intro u f' hu hf'
    rw [wI_e, if_neg (fun q => (slf_5 f' (okf_lt hf') hf' q.1).2 q.2.2.2)]
    exact hth u f' hu hf'
  · intro b hb
    have := kdg_315 b
    rw [wI_kd (by omega)]
    exact hgl b hb
  · intro l' hl'
    rw [wI_kd (by omega)]; exact hho l' hl'
  · intro u j hu hj hj2
    rw [wI_kd (by omega), wI_kd (by omega)]
    exact hco u j hu hj hj2
  · intro e e2 u hu
    rw [wI_kd (by omega)] at e2
    rw [wI_j (by omega)]
    exact hpp e e2 u hu
  · intro j b1 b2; rw [wI_kd (by omega)]; exact hl.2.1 j b1 b2
  · intro i c a1 a2 a3
    rw [wI_kd (by omega)]; exact hl.2.2 i c a1 a2 a3
  · intro l hl
    rw [wI_kd (by omega)]
    refine ⟨(hw l hl).1, (hw l hl).2.1, fun i hi => ?_⟩
    rw [wI_kd (by omega)]
    exact (hw l hl).2.2 i hi
  · rw [wI_kd (by omega)]; exact hs.1
  · intro i hi
    rw [wI_kd (by omega)]; exact hs.2.2 i hi
theorem pr_ntG (hT : T ≤ 10) {t : Nat} (ht : t < T) : pr T (ntG T A) t = pr T A t := by
  refine pr_congr (ntG_e _ _ (by omega)) ?_ (fun u hu => ntG_e _ _ (by omega)) ht
  funext u
  unfold hop
  by_cases hu : u < T
  · rw [if_pos hu, if_pos hu, ntG_e u 8 (by omega), ntG_e 11 _ (by omega)]
  · rw [if_neg hu, if_neg hu]
theorem C.nt (h : C false p k M0 T A stk M) (hg : g = true → ∀ t, t < T → M.1 5 k t 6 = (if (ntG T A).1 t 16 = -1 then 0 else (ntG T A).1 t 16) ∧ ¬ (ntG T A).1 t 16 = 0) : C g p k M0 T (ntG T A) stk M := by
  have hT := h.T10
  obtain ⟨⟨hT2, hth, hgl, hho, hco⟩, -, hpp, hl, hw, hs, hF⟩ := h
  refine ⟨⟨⟨hT, by rw [ntG_e _ _ (by omega)]; exact hT2.2⟩, fun t f ht hf => ?_, fun b hb => ?_, fun l hl => ?_, fun t j ht hj hj2 => ?_⟩, hg, fun e e2 t ht => ?_, hl, hw, hs, hF⟩
  · have : ¬ f = 16 := by simp [okf] at hf; omega
    rw [ntG_e _ _ (by omega)]; exact hth t f ht hf
  · rw [ntG_e _ _ (by omega)]; exact hgl b hb
  · rw [ntG_e _ _ (by omega)]; exact hho l hl
  · rw [ntG_e _ _ (by omega)] at hj2
    rw [ntG_e _ _ (by omega), ntG_e _ _ (by omega)]; exact hco t j ht hj hj2
  · rw [pr_ntG hT ht]; exact hpp e e2 t ht
def cgv (A : AS) (t : Nat) : Int32 := if A.1 t 16 = -1 then 0 else A.1 t 16
theorem nt_v {t : Nat} (ht : t < T) (hb : 1 ≤ (A.1 t 0).toInt) : cgv (ntG T A) t = if cgv A t < pr T A t then pr T A t else cgv A t := by
  unfold cgv
  have hp := pr_ge ht hb
  have e : (ntG T A).1 t 16 = if A.1 t 16 < pr T A t then pr T A t else A.1 t 16 := by
    show (if t < T ∧ 16 = 16 then _ else _) = _
    rw [if_pos ⟨ht, rfl⟩]
  have m1 : (-1 : Int32).toInt = -1 := by decide
  have hpn : ¬ pr T A t = -1 := fun q => by rw [q, m1] at hp; omega
  rw [e]
  by_cases e1 : A.1 t 16 = -1
  · rw [if_pos e1, if_pos (show A.1 t 16 < pr T A t by rw [e1, i32_lt, m1]; omega), if_neg hpn, if_pos (by rw [i32_lt, i32_0]; omega)]
  · rw [if_neg e1]
    by_cases e2 : A.1 t 16 < pr T A t
    · rw [if_pos e2, if_neg hpn]
    · rw [if_neg e2, if_neg e1]
theorem nt_z {t : Nat} (ht : t < T) (hb : 1 ≤ (A.1 t 0).toInt) (hz : ¬ A.1 t 16 = 0) : ¬ (ntG T A).1 t 16 = 0 := by
  have hp := pr_ge ht hb
  have e : (ntG T A).1 t 16 = if A.1 t 16 < pr T A t then pr T A t else A.1 t 16 := by
    show (if t < T ∧ 16 = 16 then _ else _) = _
    rw [if_pos ⟨ht, rfl⟩]
  rw [e]
  split
  · intro q
    rw [q, i32_0] at hp
    omega
  · exact hz
theorem c_nt6 (hI : Inv T 10 A) : ∀ (m n i : Nat) (M : Mem), i + m = T → m < n → C false true k M0 T A stk M → M.1 3 k 0 13 = 0 → (g = true → ∀ t, t < T → M.1 5 k t 6 = (if t < i then cgv (ntG T A) t else cgv A t) ∧ ¬ A.1 t 16 = 0) → Sat (pX3_noteGreatestPriorities_6 k n (nI i) M) (fun _ M' => C g true k M0 T (ntG T A) stk M') := by
  intro m
  induction m with
  | zero =>
    intro n i M hi hn h hp hg
    have hT := h.T10
    obtain ⟨n, rfl⟩ : ∃ n', n = n' + 1 := ⟨n - 1, by omega⟩
    rw [pX3_noteGreatestPriorities_6, h.cnt4, if_pos (nI_le (by omega) (by omega))]
    refine S_ret (h.nt (fun e t ht => ?_))
    rw [(hg e t ht).1, if_pos (show t < i by omega)]
    exact ⟨rfl, nt_z ht (hI.base t ht) (hg e t ht).2⟩
  | succ m ih =>
    intro n i M hi hn h hp hg
    have hT := h.T10
    obtain ⟨n, rfl⟩ : ∃ n', n = n' + 1 := ⟨n - 1, by omega⟩
    rw [pX3_noteGreatestPriorities_6, h.cnt4, if_neg (nI_ge (by omega) (by omega)), chk_h (inB_nI (by omega) (by omega)), cl (by omega), nI_1]
    refine ih n (i + 1) _ (by omega) (by omega) h.scr6 ?_ (fun e t ht => ?_)
    · rw [wI_kd (by omega)]; exact hp
    · by_cases et : t = i
      · subst et
        rw [wI_s, c_pr h hp ht, (hg e t ht).1, if_neg (show ¬ t < t by omega), if_pos (show t < t + 1 by omega), nt_v ht (hI.base t ht)]
        exact ⟨rfl, (hg e t ht).2⟩
      · rw [wI_i et, (hg e t ht).1]
        refine ⟨?_, (hg e t ht).2⟩
        by_cases e2 : t < i
        · rw [if_pos e2, if_pos (show t < i + 1 by omega)]
        · rw [if_neg e2, if_neg (show ¬ t < i + 1 by omega)]
theorem c_note6 (hI : Inv T 10 A) (h : C g true k M0 T A stk M) (hp : M.1 3 k 0 13 = 0) : Sat (pX3_noteGreatestPriorities_6 k fu 0 M) (fun _ M' => C g true k M0 T (ntG T A) stk M') := by
  refine c_nt6 hI T fu 0 M (by omega) (by have := h.T10; show _ < 4096; omega) h.weakg hp (fun e t ht => ?_)
  rw [if_neg (show ¬ t < 0 by omega)]
  exact h.2.1 e t ht
theorem c_note (h : C g true k M0 T A stk M) (hI : Inv T 10 A) : Sat (pX3_noteGreatestPriorities k M) (fun _ M' => C g true k M0 T (ntG T A) stk M') := by
  rw [pX3_noteGreatestPriorities]
  exact S_bnd (c_refresh h hI.hi hI.base) (fun _ M1 h1 => c_note6 hI h1.1 h1.2)
theorem c_duF (h : C g p k M0 T A stk M) : ∀ (m n i : Nat) (b : Option Nat) (e : Int32), i + m = T → m < n → pX3_firstLate_11 k n (onI b) e (nI i) M = some (onI (duF A m i b e), M) := by
  have hT := h.T10
  intro m
  induction m with
  | zero =>
    intro n i b e hi hn
    obtain ⟨n, rfl⟩ : ∃ n', n = n' + 1 := ⟨n - 1, by omega⟩
    rw [pX3_firstLate_11, h.cnt4, if_pos (nI_le (by omega) (by omega))]
    rfl
  | succ m ih =>
    intro n i b e hi hn
    obtain ⟨n, rfl⟩ : ∃ n', n = n' + 1 := ⟨n - 1, by omega⟩
    have r7 : M.1 5 k i 7 = A.1 i 3 := h.th (by omega) 3 rfl
    have r13 : M.1 5 k i 13 = A.1 i 7 := h.th (by omega) 7 rfl
    rw [pX3_firstLate_11, h.cnt4, if_neg (nI_ge (by omega) (by omega)), chk_h (inB_nI (by omega) (by omega)), cl (by omega), r7, r13, nI_1, duF, nm_def]
    by_cases e1 : A.1 i 3 = 1
    · have n1 := not_not_intro e1
      rw [if_neg n1, if_neg n1]
      by_cases e2 : A.1 i 7 = -1
      · rw [if_pos e2, if_pos e2]; exact ih n (i + 1) b e (by omega) (by omega)
      · rw [if_neg e2, if_neg e2]
        by_cases e3 : e ≤ A.1 i 7
        · rw [if_pos e3, if_pos e3]; exact ih n (i + 1) b e (by omega) (by omega)
        · rw [if_neg e3, if_neg e3]; exact ih n (i + 1) (some i) _ (by omega) (by omega)
    · rw [if_pos e1, if_pos e1]; exact ih n (i + 1) b e (by omega) (by omega)
theorem c_late (h : C g p k M0 T A stk M) : pX3_firstLate k M = some (onI (due T A), M) := by
  have r5 : M.1 3 k 0 5 = A.1 10 3 := h.gl 3 rfl
  rw [pX3_firstLate, nm_def, r5]
  exact c_duF h T fu 0 none _ (by omega) (by have := h.T10; show _ < 4096; omega)
theorem c_ahd (h : C g true k M0 T A stk M) (hp : M.1 3 k 0 13 = 0) {i j : Nat} (hi : i < T) (hj : j < T) : pX3_isAheadOf k i k j M = some ((if ahd T A i j = true then 1 else 0), M) := by
  have r1 : M.1 5 k i 16 = A.1 i 10 := h.th hi 10 rfl
  have r2 : M.1 5 k j 16 = A.1 j 10 := h.th hj 10 rfl
  rw [pX3_isAheadOf, c_pr h hp hi, c_pr h hp hj, r1, r2, chk_h b01_0, chk_h b01_1]
  unfold ahd
  by_cases e : pr T A i = pr T A j
  · rw [if_pos e, if_pos e]
    by_cases e2 : A.1 j 10 ≤ A.1 i 10
    · rw [if_pos e2, decide_eq_false (fun q => q e2), if_neg (by decide)]
    · rw [if_neg e2, decide_eq_true e2, if_pos rfl]
  · rw [if_neg e, if_neg e]
    by_cases e2 : pr T A i ≤ pr T A j
    · rw [if_pos e2, decide_eq_false (fun q => q e2), if_neg (by decide)]
    · rw [if_neg e2, decide_eq_true e2, if_pos rfl]
theorem c_chF (h : C g true k M0 T A stk M) (hp : M.1 3 k 0 13 = 0) : ∀ (m n i : Nat) (b : Option Nat), i + m = T → m < n → (∀ j, b = some j → j < T) → pX3_firstReady_8 k n (onI b) (nI i) M = some (onI (chF T A m i b), M) := by
  have hT := h.T10
  intro m
  induction m with
  | zero =>
    intro n i b hi hn hb
    obtain ⟨n, rfl⟩ : ∃ n', n = n' + 1 := ⟨n - 1, by omega⟩
    rw [pX3_firstReady_8, h.cnt4, if_pos (nI_le (by omega) (by omega))]
    rfl
  | succ m ih =>
    intro n i b hi hn hb
    obtain ⟨n, rfl⟩ : ∃ n', n = n' + 1 := ⟨n - 1, by omega⟩
    have r7 : M.1 5 k i 7 = A.1 i 3 := h.th (by omega) 3 rfl
    have hi' : ∀ j, some i = some j → j < T := fun j z => by cases z; omega
    rw [pX3_firstReady_8, h.cnt4, if_neg (nI_ge (by omega) (by omega)), chk_h (inB_nI (by omega) (by omega)), cl (by omega), r7, nI_1, chF]
    by_cases e1 : A.1 i 3 = 0
    · have n1 := not_not_intro e1
      rw [if_neg n1, if_neg n1]
      cases b with
      | none =>
        rw [if_pos onI_none]
        exact ih n (i + 1) (some i) (by omega) (by omega) hi'
      | some j =>
        have hj := hb j rfl
        rw [onI_some, if_neg (m1_ne (by omega)), chk_h (inB_nI (by omega) (by omega)), chk_h (inB_nI (by omega) (by omega)), cl (by omega), c_ahd h hp (by omega) hj, bnd_some]
        show _ = some (onI (chF T A m (i + 1) (if ahd T A i j = true then some i else some j)), M)
        by_cases e2 : ahd T A i j = true
        · rw [if_pos e2, if_pos e2, if_neg (by decide)]
          exact ih n (i + 1) (some i) (by omega) (by omega) hi'
        · rw [if_neg e2, if_neg e2, if_pos rfl]
          exact ih n (i + 1) (some j) (by omega) (by omega) hb
    · rw [if_pos e1, if_pos e1]; exact ih n (i + 1) b (by omega) (by omega) hb
theorem c_ready (h : C g true k M0 T A stk M) (hI : Inv T 10 A) : Sat (pX3_firstReady k M) (fun o M' => o = onI (chs T A) ∧ C g true k M0 T A stk M') := by
  rw [pX3_firstReady]
  refine S_bnd (c_refresh h hI.hi hI.base) (fun _ M1 h1 => ?_)
  have := c_chF h1.1 h1.2 T fu 0 none (by omega) (by have := h.T10; show _ < 4096; omega) (fun j z => (nomatch z))
  exact ⟨_, M1, this, rfl, h1.1⟩
theorem c_draw (h : C g p k M0 T A stk M) (hI : Inv T 10 A) : Sat (pX3_drawOfThousand k M) (fun o M' => o = drv A ∧ C g p k M0 T (drw A) stk M') := by
  have r6 : M.1 3 k 0 6 = A.1 10 4 := h.gl 4 rfl
  obtain ⟨hx1, hx2⟩ := hI.2.2.2.2.2.1.1
  have ex := nI_self hx1
  have hx3 := num_le (m := 1000002) hx1 (by omega)
  have hn := drn_lt A
  have e : ((((1103 : Int32) * (M.1 3 k 0 6)) + (12345 : Int32)) - (((1103 : Int32) * (M.1 3 k 0 6)) + (12345 : Int32)) / (1000003 : Int32) * (1000003 : Int32)) = nI (drn A) := by
    rw [r6, ← ex]
    show (nI 1103 * nI _ + nI 12345) - (nI 1103 * nI _ + nI 12345) / nI 1000003 * nI 1000003 = _
    rw [nI_mul, nI_add, nI_mod (by omega) (by decide)]
    rfl
  rw [pX3_drawOfThousand, e]
  refine S_w (h.putg (b := 4) rfl (by omega) (fun _ => by omega) (nI (drn A))) (fun M1 h1 => ?_)
  have r : M1.1 3 k 0 6 = nI (drn A) := (h1.gl 4 rfl).trans up_s
  refine S_ret ⟨?_, h1⟩
  rw [r]
  show nI _ - nI _ / nI 1000 * nI 1000 = nI _
  exact nI_mod (by omega) (by decide)
end CTICK
