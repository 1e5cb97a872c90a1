/-! ===== copies of the reference; ticks in a row; predictions ===== -/
def Cpd (S D a b : Nat) (M M' : Mem) : Prop := (∀ j, j < 700 → M'.1 D 0 0 (b + j) = M.1 S 0 0 (a + j)) ∧ (∀ kd k i j, ¬ (kd = D ∧ k = 0 ∧ i = 0 ∧ b ≤ j ∧ j < b + 700) → M'.1 kd k i j = M.1 kd k i j) ∧ M'.2 = M.2
theorem cp_20_22_l {M0 : Mem} {a b : Nat} (ha : a + 700 ≤ 700) (hb : b + 700 ≤ 700) : ∀ (m n j : Nat) (M : Mem), j + m = 700 → m < n → (∀ i, i < j → M.1 22 0 0 (b + i) = M0.1 20 0 0 (a + i)) → (∀ kd k i j, ¬ (kd = 22 ∧ k = 0 ∧ i = 0 ∧ b ≤ j ∧ j < b + 700) → M.1 kd k i j = M0.1 kd k i j) → M.2 = M0.2 → Sat (pX8_copy_20_22_3 n (nI a) (nI b) (nI j) M) (fun _ M' => Cpd 20 22 a b M0 M') := by
  intro m
  induction m with
  | zero =>
    intro n j M hj hn h1 h2 h3
    obtain ⟨n, rfl⟩ : ∃ n', n = n' + 1 := ⟨n - 1, by omega⟩
    rw [pX8_copy_20_22_3, if_pos (show (700 : Int32) ≤ nI j from nI_le (a := 700) (by omega) (by omega))]
    exact S_ret ⟨fun i hi => h1 i (by omega), h2, h3⟩
  | succ m ih =>
    intro n j M hj hn h1 h2 h3
    obtain ⟨n, rfl⟩ : ∃ n', n = n' + 1 := ⟨n - 1, by omega⟩
    rw [pX8_copy_20_22_3, if_neg (show ¬ (700 : Int32) ≤ nI j from nI_ge (b := 700) (by omega) (by omega)), nI_add, nI_add, chk_h (inB_nI (by omega) (by omega)), chk_h (inB_nI (by omega) (by omega)), cl (by omega), cl (by omega), nI_1, nm_def]
    refine ih n (j + 1) _ (by omega) (by omega) (fun i hi => ?_) (fun kd k i j' hh => ?_) h3
    · rw [wI_e]
      by_cases e : i = j
      · rw [if_pos ⟨rfl, rfl, rfl, by omega⟩, e, h2 _ _ _ _ (by omega)]
      · rw [if_neg (by omega)]; exact h1 i (by omega)
    · rw [wI_e, if_neg (by omega)]; exact h2 kd k i j' hh
theorem cp_20_22 {M : Mem} {a b : Nat} (ha : a + 700 ≤ 700) (hb : b + 700 ≤ 700) : Sat (pX8_copy_20_22 (nI a) (nI b) M) (fun _ M' => Cpd 20 22 a b M M') :=
  cp_20_22_l ha hb 700 fu 0 M (by omega) (by decide) (fun i hi => absurd hi (by omega)) (fun _ _ _ _ _ => rfl) rfl
theorem cp_22_20_l {M0 : Mem} {a b : Nat} (ha : a + 700 ≤ 700) (hb : b + 700 ≤ 700) : ∀ (m n j : Nat) (M : Mem), j + m = 700 → m < n → (∀ i, i < j → M.1 20 0 0 (b + i) = M0.1 22 0 0 (a + i)) → (∀ kd k i j, ¬ (kd = 20 ∧ k = 0 ∧ i = 0 ∧ b ≤ j ∧ j < b + 700) → M.1 kd k i j = M0.1 kd k i j) → M.2 = M0.2 → Sat (pX8_copy_22_20_3 n (nI a) (nI b) (nI j) M) (fun _ M' => Cpd 22 20 a b M0 M') := by
  intro m
  induction m with
  | zero =>
    intro n j M hj hn h1 h2 h3
    obtain ⟨n, rfl⟩ : ∃ n', n = n' + 1 := ⟨n - 1, by omega⟩
    rw [pX8_copy_22_20_3, if_pos (show (700 : Int32) ≤ nI j from nI_le (a := 700) (by omega) (by omega))]
    exact S_ret ⟨fun i hi => h1 i (by omega), h2, h3⟩
  | succ m ih =>
    intro n j M hj hn h1 h2 h3
    obtain ⟨n, rfl⟩ : ∃ n', n = n' + 1 := ⟨n - 1, by omega⟩
    rw [pX8_copy_22_20_3, if_neg (show ¬ (700 : Int32) ≤ nI j from nI_ge (b := 700) (by omega) (by omega)), nI_add, nI_add, chk_h (inB_nI (by omega) (by omega)), chk_h (inB_nI (by omega) (by omega)), cl (by omega), cl (by omega), nI_1, nm_def]
    refine ih n (j + 1) _ (by omega) (by omega) (fun i hi => ?_) (fun kd k i j' hh => ?_) h3
    · rw [wI_e]
      by_cases e : i = j
      · rw [if_pos ⟨rfl, rfl, rfl, by omega⟩, e, h2 _ _ _ _ (by omega)]
      · rw [if_neg (by omega)]; exact h1 i (by omega)
    · rw [wI_e, if_neg (by omega)]; exact h2 kd k i j' hh
theorem cp_22_20 {M : Mem} {a b : Nat} (ha : a + 700 ≤ 700) (hb : b + 700 ≤ 700) : Sat (pX8_copy_22_20 (nI a) (nI b) M) (fun _ M' => Cpd 22 20 a b M M') :=
  cp_22_20_l ha hb 700 fu 0 M (by omega) (by decide) (fun i hi => absurd hi (by omega)) (fun _ _ _ _ _ => rfl) rfl
theorem cp_20_21_l {M0 : Mem} {a b : Nat} (ha : a + 700 ≤ 700) (hb : b + 700 ≤ 700) : ∀ (m n j : Nat) (M : Mem), j + m = 700 → m < n → (∀ i, i < j → M.1 21 0 0 (b + i) = M0.1 20 0 0 (a + i)) → (∀ kd k i j, ¬ (kd = 21 ∧ k = 0 ∧ i = 0 ∧ b ≤ j ∧ j < b + 700) → M.1 kd k i j = M0.1 kd k i j) → M.2 = M0.2 → Sat (pX8_copy_20_21_3 n (nI a) (nI b) (nI j) M) (fun _ M' => Cpd 20 21 a b M0 M') := by
  intro m
  induction m with
  | zero =>
    intro n j M hj hn h1 h2 h3
    obtain ⟨n, rfl⟩ : ∃ n', n = n' + 1 := ⟨n - 1, by omega⟩
    rw [pX8_copy_20_21_3, if_pos (show (700 : Int32) ≤ nI j from nI_le (a := 700) (by omega) (by omega))]
    exact S_ret ⟨fun i hi => h1 i (by omega), h2, h3⟩
  | succ m ih =>
    intro n j M hj hn h1 h2 h3
    obtain ⟨n, rfl⟩ : ∃ n', n = n' + 1 := ⟨n - 1, by omega⟩
    rw [pX8_copy_20_21_3, if_neg (show ¬ (700 : Int32) ≤ nI j from nI_ge (b := 700) (by omega) (by omega)), nI_add, nI_add, chk_h (inB_nI (by omega) (by omega)), chk_h (inB_nI (by omega) (by omega)), cl (by omega), cl (by omega), nI_1, nm_def]
    refine ih n (j + 1) _ (by omega) (by omega) (fun i hi => ?_) (fun kd k i j' hh => ?_) h3
    · rw [wI_e]
      by_cases e : i = j
      · rw [if_pos ⟨rfl, rfl, rfl, by omega⟩, e, h2 _ _ _ _ (by omega)]
      · rw [if_neg (by omega)]; exact h1 i (by omega)
    · rw [wI_e, if_neg (by omega)]; exact h2 kd k i j' hh
theorem cp_20_21 {M : Mem} {a b : Nat} (ha : a + 700 ≤ 700) (hb : b + 700 ≤ 700) : Sat (pX8_copy_20_21 (nI a) (nI b) M) (fun _ M' => Cpd 20 21 a b M M') :=
  cp_20_21_l ha hb 700 fu 0 M (by omega) (by decide) (fun i hi => absurd hi (by omega)) (fun _ _ _ _ _ => rfl) rfl
theorem cp_21_20_l {M0 : Mem} {a b : Nat} (ha : a + 700 ≤ 700) (hb : b + 700 ≤ 700) : ∀ (m n j : Nat) (M : Mem), j + m = 700 → m < n → (∀ i, i < j → M.1 20 0 0 (b + i) = M0.1 21 0 0 (a + i)) → (∀ kd k i j, ¬ (kd = 20 ∧ k = 0 ∧ i = 0 ∧ b ≤ j ∧ j < b + 700) → M.1 kd k i j = M0.1 kd k i j) → M.2 = M0.2 → Sat (pX8_copy_21_20_3 n (nI a) (nI b) (nI j) M) (fun _ M' => Cpd 21 20 a b M0 M') := by
  intro m
  induction m with
  | zero =>
    intro n j M hj hn h1 h2 h3
    obtain ⟨n, rfl⟩ : ∃ n', n = n' + 1 := ⟨n - 1, by omega⟩
    rw [pX8_copy_21_20_3, if_pos (show (700 : Int32) ≤ nI j from nI_le (a := 700) (by omega) (by omega))]
    exact S_ret ⟨fun i hi => h1 i (by omega), h2, h3⟩
  | succ m ih =>
    intro n j M hj hn h1 h2 h3
    obtain ⟨n, rfl⟩ : ∃ n', n = n' + 1 := ⟨n - 1, by omega⟩
    rw [pX8_copy_21_20_3, if_neg (show ¬ (700 : Int32) ≤ nI j from nI_ge (b := 700) (by omega) (by omega)), nI_add, nI_add, chk_h (inB_nI (by omega) (by omega)), chk_h (inB_nI (by omega) (by omega)), cl (by omega), cl (by omega), nI_1, nm_def]
    refine ih n (j + 1) _ (by omega) (by omega) (fun i hi => ?_) (fun kd k i j' hh => ?_) h3
    · rw [wI_e]
      by_cases e : i = j
      · rw [if_pos ⟨rfl, rfl, rfl, by omega⟩, e, h2 _ _ _ _ (by omega)]
      · rw [if_neg (by omega)]; exact h1 i (by omega)
    · rw [wI_e, if_neg (by omega)]; exact h2 kd k i j' hh
theorem cp_21_20 {M : Mem} {a b : Nat} (ha : a + 700 ≤ 700) (hb : b + 700 ≤ 700) : Sat (pX8_copy_21_20 (nI a) (nI b) M) (fun _ M' => Cpd 21 20 a b M M') :=
  cp_21_20_l ha hb 700 fu 0 M (by omega) (by decide) (fun i hi => absurd hi (by omega)) (fun _ _ _ _ _ => rfl) rfl
theorem cp_20_23_l {M0 : Mem} {a b : Nat} (ha : a + 700 ≤ 700) (hb : b + 700 ≤ 1400) : ∀ (m n j : Nat) (M : Mem), j + m = 700 → m < n → (∀ i, i < j → M.1 23 0 0 (b + i) = M0.1 20 0 0 (a + i)) → (∀ kd k i j, ¬ (kd = 23 ∧ k = 0 ∧ i = 0 ∧ b ≤ j ∧ j < b + 700) → M.1 kd k i j = M0.1 kd k i j) → M.2 = M0.2 → Sat (pX8_copy_20_23_3 n (nI a) (nI b) (nI j) M) (fun _ M' => Cpd 20 23 a b M0 M') := by
  intro m
  induction m with
  | zero =>
    intro n j M hj hn h1 h2 h3
    obtain ⟨n, rfl⟩ : ∃ n', n = n' + 1 := ⟨n - 1, by omega⟩
    rw [pX8_copy_20_23_3, if_pos (show (700 : Int32) ≤ nI j from nI_le (a := 700) (by omega) (by omega))]
    exact S_ret ⟨fun i hi => h1 i (by omega), h2, h3⟩
  | succ m ih =>
    intro n j M hj hn h1 h2 h3
    obtain ⟨n, rfl⟩ : ∃ n', n = n' + 1 := ⟨n - 1, by omega⟩
    rw [pX8_copy_20_23_3, if_neg (show ¬ (700 : Int32) ≤ nI j from nI_ge (b := 700) (by omega) (by omega)), nI_add, nI_add, chk_h (inB_nI (by omega) (by omega)), chk_h (inB_nI (by omega) (by omega)), cl (by omega), cl (by omega), nI_1, nm_def]
    refine ih n (j + 1) _ (by omega) (by omega) (fun i hi => ?_) (fun kd k i j' hh => ?_) h3
    · rw [wI_e]
      by_cases e : i = j
      · rw [if_pos ⟨rfl, rfl, rfl, by omega⟩, e, h2 _ _ _ _ (by omega)]
      · rw [if_neg (by omega)]; exact h1 i (by omega)
    · rw [wI_e, if_neg (by omega)]; exact h2 kd k i j' hh
theorem cp_20_23 {M : Mem} {a b : Nat} (ha : a + 700 ≤ 700) (hb : b + 700 ≤ 1400) : Sat (pX8_copy_20_23 (nI a) (nI b) M) (fun _ M' => Cpd 20 23 a b M M') :=
  cp_20_23_l ha hb 700 fu 0 M (by omega) (by decide) (fun i hi => absurd hi (by omega)) (fun _ _ _ _ _ => rfl) rfl
theorem cp_23_20_l {M0 : Mem} {a b : Nat} (ha : a + 700 ≤ 1400) (hb : b + 700 ≤ 700) : ∀ (m n j : Nat) (M : Mem), j + m = 700 → m < n → (∀ i, i < j → M.1 20 0 0 (b + i) = M0.1 23 0 0 (a + i)) → (∀ kd k i j, ¬ (kd = 20 ∧ k = 0 ∧ i = 0 ∧ b ≤ j ∧ j < b + 700) → M.1 kd k i j = M0.1 kd k i j) → M.2 = M0.2 → Sat (pX8_copy_23_20_3 n (nI a) (nI b) (nI j) M) (fun _ M' => Cpd 23 20 a b M0 M') := by
  intro m
  induction m with
  | zero =>
    intro n j M hj hn h1 h2 h3
    obtain ⟨n, rfl⟩ : ∃ n', n = n' + 1 := ⟨n - 1, by omega⟩
    rw [pX8_copy_23_20_3, if_pos (show (700 : Int32) ≤ nI j from nI_le (a := 700) (by omega) (by omega))]
    exact S_ret ⟨fun i hi => h1 i (by omega), h2, h3⟩
  | succ m ih =>
    intro n j M hj hn h1 h2 h3
    obtain ⟨n, rfl⟩ : ∃ n', n = n' + 1 := ⟨n - 1, by omega⟩
    rw [pX8_copy_23_20_3, if_neg (show ¬ (700 : Int32) ≤ nI j from nI_ge (b := 700) (by omega) (by omega)), nI_add, nI_add, chk_h (inB_nI (by omega) (by omega)), chk_h (inB_nI (by omega) (by omega)), cl (by omega), cl (by omega), nI_1, nm_def]
    refine ih n (j + 1) _ (by omega) (by omega) (fun i hi => ?_) (fun kd k i j' hh => ?_) h3
    · rw [wI_e]
      by_cases e : i = j
      · rw [if_pos ⟨rfl, rfl, rfl, by omega⟩, e, h2 _ _ _ _ (by omega)]
      · rw [if_neg (by omega)]; exact h1 i (by omega)
    · rw [wI_e, if_neg (by omega)]; exact h2 kd k i j' hh
theorem cp_23_20 {M : Mem} {a b : Nat} (ha : a + 700 ≤ 1400) (hb : b + 700 ≤ 700) : Sat (pX8_copy_23_20 (nI a) (nI b) M) (fun _ M' => Cpd 23 20 a b M M') :=
  cp_23_20_l ha hb 700 fu 0 M (by omega) (by decide) (fun i hi => absurd hi (by omega)) (fun _ _ _ _ _ => rfl) rfl
def tks (T : Nat) : Nat → AS → AS
  | 0, A => A
  | n + 1, A => tks T n (tick T A)
section TKS
variable {n : Nat} {T : Nat} {A : AS} {M : Mem}
theorem tick_bd (hI : Inv T 10 A) (hB : Bd n A) (hn : n ≤ 270000) : Inv T 10 (tick T A) ∧ Bd (n + 1) (tick T A) ∧ ∃ B, Evo T A B ∧ tick T A = inc B 10 3 := by
  have h1 := hB.1
  have h2 := hB.2
  have hL := LIM_eq
  obtain ⟨k1, k2, k3, k4⟩ := tick_ok hI (by omega) (by omega)
  exact ⟨k1, ⟨by omega, by omega⟩, k2⟩
theorem tks_bd : ∀ (m n : Nat) (A : AS), Inv T 10 A → Bd n A → n + m ≤ 270000 → Inv T 10 (tks T m A) ∧ Bd (n + m) (tks T m A) := by
  intro m
  induction m with
  | zero => intro n A hI hB _; exact ⟨hI, hB⟩
  | succ m ih =>
    intro n A hI hB hn
    obtain ⟨k1, k2, -⟩ := tick_bd hI hB (by omega)
    have := ih (n + 1) _ k1 k2 (by omega)
    rw [show n + 1 + m = n + (m + 1) from by omega] at this
    exact this
theorem c_tickB {k : Nat} {M0 : Mem} (h : C true true k M0 T A [] M) (hI : Inv T 10 A) (hB : Bd n A) (hn : n ≤ 270000) : Sat (pX3_tick k M) (fun o M' => C true true k M0 T (tick T A) [] M') := by
  have h1 := hB.1
  have hL := LIM_eq
  exact S_mono (c_tick h hI (by omega)) (fun o M' h' => h'.2)
theorem m_tickB {M0 : Mem} (h : D M0 T A [] M) (hI : Inv T 10 A) (hB : Bd n A) (hn : n ≤ 270000) : Sat (pX8_passTick M) (fun o M' => D M0 T (tick T A) [] M') := by
  have h1 := hB.1
  have h2 := hB.2
  have hL := LIM_eq
  exact m_tick h hI (by omega) (by omega)
/-! threads in a state -/
def cf (p : Nat → Bool) : Nat → Nat → Nat → Nat
  | 0, _, c => c
  | n + 1, i, c => cf p n (i + 1) (if p i = true then c + 1 else c)
def inS (T : Nat) (A : AS) (s : Int32) : Int32 := nI (cf (fun u => decide (A.1 u 3 = s)) T 0 0)
theorem c_th4 {g p : Bool} {k : Nat} {M0 : Mem} {stk : List Nat} (h : C g p k M0 T A stk M) (s : Int32) : ∀ (m n i c : Nat), i + m = T → m < n → pX3_threadsIn_4 k n s (nI c) (nI i) M = some (nI (cf (fun u => decide (A.1 u 3 = s)) m i c), M) := by
  have hT := h.T10
  intro m
  induction m with
  | zero =>
    intro n i c hi hn
    obtain ⟨n, rfl⟩ : ∃ n', n = n' + 1 := ⟨n - 1, by omega⟩
    rw [pX3_threadsIn_4, h.cnt4, if_pos (nI_le (by omega) (by omega))]
    rfl
  | succ m ih =>
    intro n i c hi hn
    obtain ⟨n, rfl⟩ : ∃ n', n = n' + 1 := ⟨n - 1, by omega⟩
    have r7 : M.1 5 k i 7 = A.1 i 3 := h.th (by omega) 3 rfl
    rw [pX3_threadsIn_4, h.cnt4, if_neg (nI_ge (by omega) (by omega)), chk_h (inB_nI (by omega) (by omega)), cl (by omega), r7, nI_1, nI_1, cf]
    by_cases e : A.1 i 3 = s
    · rw [if_neg (not_not_intro e), if_pos (decide_eq_true e)]
      exact ih n (i + 1) (c + 1) (by omega) (by omega)
    · rw [if_pos e, if_neg (by simpa using e)]
      exact ih n (i + 1) c (by omega) (by omega)
theorem c_thin {g p : Bool} {k : Nat} {M0 : Mem} {stk : List Nat} (h : C g p k M0 T A stk M) (s : Int32) : pX3_threadsIn k s M = some (inS T A s, M) := c_th4 h s T fu 0 0 (by omega) (by have := h.T10; show _ < 4096; omega)
theorem m_in4 {M0 : Mem} {gv : List Nat} (h : D M0 T A gv M) (s : Int32) : ∀ (m n i c : Nat), i + m = T → m < n → pX8_inState_4 n s (nI c) (nI i) M = some (nI (cf (fun u => decide (A.1 u 3 = s)) m i c), M) := by
  have hT := h.T10
  intro m
  induction m with
  | zero =>
    intro n i c hi hn
    obtain ⟨n, rfl⟩ : ∃ n', n = n' + 1 := ⟨n - 1, by omega⟩
    rw [pX8_inState_4, chk_h ib_2, cl_2, h.cnt2, if_pos (nI_le (by omega) (by omega))]
    rfl
  | succ m ih =>
    intro n i c hi hn
    obtain ⟨n, rfl⟩ : ∃ n', n = n' + 1 := ⟨n - 1, by omega⟩
    have e0 : nI c + (0 : Int32) = nI c := nI_add c 0
    rw [pX8_inState_4, chk_h ib_2, cl_2, h.cnt2, if_neg (nI_ge (by omega) (by omega)), m_of h (by omega) 3 (x := 3) rfl (by omega), bnd_some, e0, nI_1, nI_1, cf, nm_def, nm_def]
    by_cases e : A.1 i 3 = s
    · rw [if_neg (not_not_intro e), if_pos (decide_eq_true e)]
      exact ih n (i + 1) (c + 1) (by omega) (by omega)
    · rw [if_pos e, if_neg (by simpa using e)]
      exact ih n (i + 1) c (by omega) (by omega)
theorem m_thin {M0 : Mem} {gv : List Nat} (h : D M0 T A gv M) (s : Int32) : pX8_inState s M = some (inS T A s, M) := m_in4 h s T fu 0 0 (by omega) (by have := h.T10; show _ < 4096; omega)
/-! run -/
theorem c_run19 {M0 : Mem} {tk : Nat} (htk : tk ≤ 500) (v2 : Int32) : ∀ (m n i b : Nat) (A : AS) (M : Mem), i + m = tk → m < n → C true true 0 M0 T A [] M → Inv T 10 A → Bd b A → b + m ≤ 270000 → Sat (pX7_run_19 n (nI tk) v2 (nI i) M) (fun o M' => o = .ok (inS T (tks T m A) 3 - v2) ∧ C true true 0 M0 T (tks T m A) [] M') := by
  intro m
  induction m with
  | zero =>
    intro n i b A M hi hn h hI hB hb
    obtain ⟨n, rfl⟩ : ∃ n', n = n' + 1 := ⟨n - 1, by omega⟩
    rw [pX7_run_19, if_pos (nI_le (by omega) (by omega)), c_thin h, bnd_some]
    exact S_ret ⟨rfl, h⟩
  | succ m ih =>
    intro n i b A M hi hn h hI hB hb
    obtain ⟨n, rfl⟩ : ∃ n', n = n' + 1 := ⟨n - 1, by omega⟩
    obtain ⟨k1, k2, -⟩ := tick_bd hI hB (by omega)
    rw [pX7_run_19, if_neg (nI_ge (by omega) (by omega)), nI_1]
    exact S_bnd (c_tickB h hI hB (by omega)) (fun _ M1 h1 => ih n (i + 1) (b + 1) _ M1 (by omega) (by omega) h1 k1 k2 (by omega))
theorem m_pts {M0 : Mem} {tk : Nat} (htk : tk ≤ 500) : ∀ (m n i b : Nat) (A : AS) (M : Mem), i + m = tk → m < n → D M0 T A [] M → Inv T 10 A → Bd b A → b + m ≤ 270000 → Sat (pX8_passTicks_2 n (nI tk) (nI i) M) (fun _ M' => D M0 T (tks T m A) [] M') := by
  intro m
  induction m with
  | zero =>
    intro n i b A M hi hn h hI hB hb
    obtain ⟨n, rfl⟩ : ∃ n', n = n' + 1 := ⟨n - 1, by omega⟩
    rw [pX8_passTicks_2, if_pos (nI_le (by omega) (by omega))]
    exact S_ret h
  | succ m ih =>
    intro n i b A M hi hn h hI hB hb
    obtain ⟨n, rfl⟩ : ∃ n', n = n' + 1 := ⟨n - 1, by omega⟩
    obtain ⟨k1, k2, -⟩ := tick_bd hI hB (by omega)
    rw [pX8_passTicks_2, if_neg (nI_ge (by omega) (by omega)), nI_1]
    exact S_bnd (m_tickB h hI hB (by omega)) (fun _ M1 h1 => ih n (i + 1) (b + 1) _ M1 (by omega) (by omega) h1 k1 k2 (by omega))
theorem m_ticks {M0 : Mem} {tk b : Nat} (htk : tk ≤ 500) (h : D M0 T A [] M) (hI : Inv T 10 A) (hB : Bd b A) (hb : b + tk ≤ 270000) : Sat (pX8_passTicks (nI tk) M) (fun _ M' => D M0 T (tks T tk A) [] M') := m_pts htk tk fu 0 b A M (by omega) (by show _ < 4096; omega) h hI hB hb
theorem rng_lo {v : Int32} {lo hi : Nat} (hlo : lo < 2147483648) (hhi : hi < 2147483648) {l h : Int32} (el : nI lo = l) (eh : nI hi = h) (e : rng v l h = true) : ∃ x, lo ≤ x ∧ x ≤ hi ∧ v = nI x := by
  subst el
  subst eh
  obtain ⟨h1, h2⟩ := rng_t e
  rw [nI_toInt (by omega)] at h1 h2
  exact ⟨v.toNatClampNeg, by show lo ≤ v.toInt.toNat; omega, num_le (by omega) h2, (nI_self (by omega)).symm⟩
theorem call_run (hJ : J n M) (hn : n ≤ 260000) (v : Int32) : LC qI (pL_run v M) (pX8_run v) (n + 500) := by
  obtain ⟨T, A, hC, hD, hI, hB, hR⟩ := id hJ
  have hT := hI.T10
  have hL := hB.lim hn
  rw [pL_run]
  by_cases e : rng v 1 500 = true
  · obtain ⟨tk, q1, q2, rfl⟩ := rng_lo (lo := 1) (hi := 500) (by omega) (by omega) rfl rfl e
    obtain ⟨b1, b2⟩ := tks_bd (T := T) tk n A hI hB (by omega)
    have h7 : Sat (pX7_run (nI tk) M) (fun o M' => o = .ok (inS T (tks T tk A) 3 - inS T A 3) ∧ C true true 0 M T (tks T tk A) [] M') := by
      rw [pX7_run, c_rng, if_pos e, bndx_ok, c_thin hC, bnd_some]
      exact c_run19 q2 _ tk fu 0 n A M (by omega) (by show _ < 4096; omega) hC hI hB (by omega)
    obtain ⟨_, M1, e7, rfl, h1⟩ := h7
    refine LC_ok (g := _) e7 ?_ rfl
    rw [pX8_run, nm_def]
    have hD1 := J_mid (hD.fk h1.fkk) (inS T (tks T tk A) 3 - inS T A 3).toInt64
    rw [m_rng, if_pos e, bnd_some, if_pos (show ¬ (1 : Int32) = 0 by decide), m_thin hD1, bnd_some]
    refine S_bnd (m_ticks q2 hD1 hI hB (by omega)) (fun _ M4 h4 => ?_)
    rw [m_thin h4, bnd_some]
    exact S_ret ⟨rfl, J_fin h1.re ((hR.fk (by omega) h1.fkk).le (by omega)) b1 (b2.le (by omega)) _ h4⟩
  · refine LC_er (e := 2) (k := 1) (b := 0) (M2 := wI (wI M 19 0 0 7 0) 19 0 0 7 1) (by rw [pX7_run, c_rng, if_neg e, bndx_er]) rfl ?_ (w7w7 _ _) (by decide) (J_le (J_w7 (J_w7 hJ 0) 1) (by omega))
    rw [pX8_run, nm_def, m_rng, if_neg e, bnd_some, if_neg (not_not_intro rfl), m_fail, bnd_some]
abbrev okB (o2 : Int32) (M1 : Mem) : Option (Except Nat Int32 × Mem) := if o2 = 0 then (chk (inB (0 : Int32) 1) <| nm (wO M1 (0 : Int64)) fun M3 => xok <| some ((0 : Int32), M3))
        else chk (inB (0 : Int32) 1) <| nm (wO M1 (1 : Int64)) fun M4 => xok <| some ((0 : Int32), M4)
theorem okB_0 (M1 : Mem) : okB 0 M1 = some (.ok 0, wO M1 0) := by
  unfold okB
  rw [if_pos rfl, chk_h (by decide)]
  rfl
theorem okB_1 (M1 : Mem) : okB 1 M1 = some (.ok 0, wO M1 1) := by
  unfold okB
  rw [if_neg (by decide), chk_h (by decide)]
  rfl
theorem call_rouse (hJ : J n M) (hn : n ≤ 260000) (v : Int32) : LC qB (pL_rouse v M) (pX8_rouse v) (n + 1) := by
  obtain ⟨T, A, hC, hD, hI, hB, hR⟩ := id hJ
  have hT := hI.T10
  have hL := hB.lim hn
  rw [pL_rouse]
  by_cases e : isT T v = true
  · obtain ⟨t, ht, rfl⟩ := isT_t hT e
    have r7 : M.1 5 0 t 7 = A.1 t 3 := hC.th ht 3 rfl
    by_cases e1 : A.1 t 3 = 1
    · obtain ⟨s1, s2, s3⟩ := cm_ok hI ht e1 (c := 3) (by omega) (by omega) (by omega)
      have h7 : Sat (pX7_rouse (nI t) M) (fun o M' => o = .ok 1 ∧ C true true 0 M T (cmb T A t 3) [] M') := by
        rw [pX7_rouse, c_thr hC, if_pos e, bndx_ok, chk_h (inB_nI (by omega) (by omega)), cl (by omega), r7, if_pos e1]
        refine c_cmb hC hI ht e1 (c := 3) (by omega) (by omega) (by omega) (fun M2 h2 => ?_)
        rw [chk_h b01_1]
        exact S_ret ⟨rfl, h2⟩
      obtain ⟨_, M1, e7, rfl, h1⟩ := h7
      have hD1 : D (wI (wO M1 1) 19 0 0 7 0) T A [] (wI (wO M1 1) 19 0 0 7 0) := J_mid (hD.fk h1.fkk) 1
      have hm : Sat (pX8_rouse (nI t) (wO M1 1)) (fun b M4 => b = 1 ∧ D (wI (wO M1 1) 19 0 0 7 0) T (cmb T A t 3) [] M4) := by
        rw [pX8_rouse, m_thr ((hD.fk h1.fkk).wo 1), if_pos e, bnd_some, if_neg (show ¬ (1 : Int32) = 0 by decide), pX8_rouse_14, nm_def, wI_s, if_neg (not_not_intro rfl), m_of hD1 ht 3 (x := 3) rfl (by omega), bnd_some, if_neg (not_not_intro e1), pX8_rouse_39, if_neg (show ¬ (1 : Int32) = 0 by decide)]
        refine S_bnd (m_come hD1 hI ht e1 (c := 3) (by omega) (by omega) (by omega)) (fun _ M4 h4 => ?_)
        rw [chk_h b01_1]
        exact S_ret ⟨rfl, h4⟩
      obtain ⟨_, M4, e4, rfl, h4⟩ := hm
      obtain ⟨f1, f2, f3⟩ := J_fin (n := n + 1) h1.re ((hR.fk (by omega) h1.fkk).le (Nat.le_succ n)) s3.1 (hB.ev (by have := s3.2.2.1; omega) (s3.2.1.1 3 (by omega))) _ h4
      refine ⟨wO M1 1, 0, 1, M4, ?_, e4, f1, fun _ => Or.inr ⟨rfl, by rw [f2]; rfl⟩, f3⟩
      rw [e7]
      exact okB_1 M1
    · have h7 : pX7_rouse (nI t) M = some (.ok 0, M) := by
        rw [pX7_rouse, c_thr hC, if_pos e, bndx_ok, chk_h (inB_nI (by omega) (by omega)), cl (by omega), r7, if_neg e1, chk_h b01_0]
        rfl
      have hD1 : D (wI (wO M 0) 19 0 0 7 0) T A [] (wI (wO M 0) 19 0 0 7 0) := J_mid hD 0
      have e4 : pX8_rouse (nI t) (wO M 0) = some (0, wI (wO M 0) 19 0 0 7 0) := by
        rw [pX8_rouse, m_thr (hD.wo 0), if_pos e, bnd_some, if_neg (show ¬ (1 : Int32) = 0 by decide), pX8_rouse_14, nm_def, wI_s, if_neg (not_not_intro rfl), m_of hD1 ht 3 (x := 3) rfl (by omega), bnd_some, if_pos e1, pX8_rouse_39, if_pos rfl, chk_h b01_0]
      obtain ⟨f1, f2, f3⟩ := J_fin (n := n + 1) hC.re (hR.le (Nat.le_succ n)) hI (hB.le (Nat.le_succ n)) 0 hD1
      refine ⟨wO M 0, 0, 0, _, ?_, e4, f1, fun _ => Or.inl ⟨rfl, by rw [f2]; rfl⟩, f3⟩
      rw [h7]
      exact okB_0 M
  · refine LC_er (e := 3) (k := 1) (b := 0) (M2 := wI M 19 0 0 7 1) (by rw [pX7_rouse, c_thr hC, if_neg e, bndx_er]) rfl ?_ wI_s (by decide) (J_le (J_w7 hJ 1) (Nat.le_succ n))
    rw [pX8_rouse, m_thr hD, if_neg e, bnd_some, if_pos rfl, pX8_rouse_14, nm_def, wI_s, if_pos (show ¬ (1 : Int32) = 0 by decide), pX8_rouse_39, if_pos rfl, chk_h b01_0]
end TKS
