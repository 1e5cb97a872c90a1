/-! ===== what holds between the law's calls: the class's side ===== -/
section LAW60
variable {g p : Bool} {k n : Nat} {M0 : Mem} {T T' : Nat} {A A' : AS} {stk gv : List Nat} {M M' M1 M2 M3 : Mem}
theorem cl_0 : (0 : Int32).toNatClampNeg = 0 := by decide
theorem cl_1 : (1 : Int32).toNatClampNeg = 1 := by decide
theorem cl_2 : (2 : Int32).toNatClampNeg = 2 := by decide
theorem cl_3 : (3 : Int32).toNatClampNeg = 3 := by decide
theorem cl_4 : (4 : Int32).toNatClampNeg = 4 := by decide
theorem cl_5 : (5 : Int32).toNatClampNeg = 5 := by decide
theorem cl_6 : (6 : Int32).toNatClampNeg = 6 := by decide
def Bd (n : Nat) (A : AS) : Prop := A.2.1.length ≤ 4600 * n ∧ (A.1 10 3).toInt ≤ n
theorem C.mv (h : C g p k M0 T A stk M) (e : ∀ kd i j, 3 ≤ kd → kd ≤ 16 → M'.1 kd k i j = M.1 kd k i j) : C g p k M' T A stk M' := by
  obtain ⟨⟨hT, hth, hgl, hho, hco⟩, hg, hpp, hl, hw, hs, -⟩ := h
  refine ⟨⟨hT, fun t f ht hf => ?_, fun b hb => ?_, fun l hl => ?_, fun t j ht hj hj2 => ?_⟩, fun q t ht => ?_, fun q q2 t ht => ?_, ⟨hl.1, ?_, fun i c a1 a2 a3 => ?_⟩, fun l hl => ⟨?_, (hw l hl).2.1, fun i hi => ?_⟩, ⟨?_, hs.2.1, fun i hi => ?_⟩, Fk.refl k M'⟩
  · have := kdf_58 f
    rw [e _ _ _ (by omega) (by omega)]; exact hth t f ht hf
  · have := kdg_315 b
    rw [e _ _ _ (by omega) (by omega)]; exact hgl b hb
  · rw [e _ _ _ (by omega) (by omega)]; exact hho l hl
  · rw [e _ _ _ (by omega) (by omega), e _ _ _ (by omega) (by omega)]; exact hco t j ht hj hj2
  · rw [e _ _ _ (by omega) (by omega)]; exact hg q t ht
  · rw [e _ _ _ (by omega) (by omega)] at q2
    rw [e _ _ _ (by omega) (by omega)]; exact hpp q q2 t ht
  · intro j b1 b2; rw [e _ _ _ (by omega) (by omega)]; exact hl.2.1 j b1 b2
  · rw [e _ _ _ (by omega) (by omega)]; exact hl.2.2 i c a1 a2 a3
  · rw [e _ _ _ (by omega) (by omega)]; exact (hw l hl).1
  · rw [e _ _ _ (by omega) (by omega)]; exact (hw l hl).2.2 i hi
  · rw [e _ _ _ (by omega) (by omega)]; exact hs.1
  · rw [e _ _ _ (by omega) (by omega)]; exact hs.2.2 i hi
theorem Bd.le {m : Nat} (h : Bd n A) (hm : n ≤ m) : Bd m A := ⟨by have := h.1; omega, by have := h.2; omega⟩
theorem C.fk (h : C g p k M0 T A stk M) {k' : Nat} (hk : ¬ k = k') (hF : Fk k' M M') : C g p k M' T A stk M' := h.mv (fun kd i j _ _ => hF.2 _ _ _ _ (Or.inl hk))
theorem C.re (h : C g p k M0 T A stk M) : C g p k M T A stk M := h.mv (fun _ _ _ _ _ => rfl)
theorem C.fkk (h : C g p k M0 T A stk M) : Fk k M0 M := h.2.2.2.2.2.2
def rng (v lo hi : Int32) : Bool := decide (¬ v < lo ∧ v ≤ hi)
theorem c_rng (v lo hi : Int32) : pX7_needInRange v lo hi M = if rng v lo hi = true then some ((), M) else none := by
  rw [pX7_needInRange]
  unfold rng
  by_cases h1 : v < lo
  · simp [h1, pX7_needInRange_10]
  · by_cases h2 : hi < v
    · have : ¬ v ≤ hi := by
        rw [i32_le]
        rw [i32_lt] at h2
        omega
      simp [h1, h2, this, pX7_needInRange_10]
    · have : v ≤ hi := by
        rw [i32_le]
        rw [i32_lt] at h2
        omega
      simp [h1, h2, this]
theorem rng_t {v lo hi : Int32} (h : rng v lo hi = true) : lo.toInt ≤ v.toInt ∧ v.toInt ≤ hi.toInt := by
  unfold rng at h
  obtain ⟨h1, h2⟩ := of_decide_eq_true h
  rw [i32_lt] at h1
  rw [i32_le] at h2
  exact ⟨by omega, h2⟩
theorem rng_n {v hi : Int32} (h : rng v 0 hi = true) {m : Nat} (hm : hi.toInt ≤ m) : ∃ x, x ≤ m ∧ v = nI x := by
  obtain ⟨h1, h2⟩ := rng_t h
  rw [i32_0] at h1
  exact ⟨v.toNatClampNeg, num_le h1 (by omega), (nI_self h1).symm⟩
def isT (T : Nat) (v : Int32) : Bool := decide (¬ v < 0 ∧ v < nI T)
theorem isT_t {v : Int32} (hT : T ≤ 10) (h : isT T v = true) : ∃ t, t < T ∧ v = nI t := by
  unfold isT at h
  obtain ⟨h1, h2⟩ := of_decide_eq_true h
  obtain ⟨j, hj, rfl⟩ := nI_of h1
  exact ⟨j, (nI_ltI hj (by omega)).mp h2, rfl⟩
theorem isT_n {t : Nat} (ht : t < T) (hT : T ≤ 10) : isT T (nI t) = true := decide_eq_true ⟨nI_pos (by omega), nI_lt ht (by omega)⟩
theorem c_settle2 {g : Bool} {k : Nat} {M0 : Mem} {stk : List Nat} (h : C g true k M0 T A stk M) (hS : stk = [] ∨ SI T (mk T A stk) stk) (hL : (mk T A stk).2.1.length + 200 ≤ LIM) : Sat (pX3_settle k M) (fun _ M' => C g true k M0 T (fin T A stk) [] M') := by
  rcases hS with q | q
  · subst q
    rw [pX3_settle]
    show Sat (pX3_settle_2 k (4095 + 1) 0 M) _
    rw [pX3_settle_2, if_neg (show ¬ (1000 : Int32) ≤ 0 by decide), h.s15, if_pos (show nI ([] : List Nat).length ≤ (0 : Int32) from nI_le (b := 0) (Nat.le_refl 0) (by omega))]
    exact S_ret h
  · exact c_settle h q hL
theorem Bd.lim (h : Bd n A) (hn : n ≤ 260000) : A.2.1.length + 800000000 ≤ LIM := by
  have := h.1
  rw [LIM_eq]
  omega
theorem Bd.ev (h : Bd n A) (h1 : A'.2.1.length ≤ A.2.1.length + 4600) (h2 : A'.1 10 3 = A.1 10 3) : Bd (n + 1) A' := ⟨by have := h.1; omega, by rw [h2]; have := h.2; omega⟩
theorem ds_ok {t : Nat} (h : Inv T 10 A) (ht : t < T) (hL : A.2.1.length ≤ LIM) : (dsS A t = [] ∨ SI T (mk T (dsA A t) (dsS A t)) (dsS A t)) ∧ (mk T (dsA A t) (dsS A t)).2.1.length ≤ A.2.1.length + 2 ∧ Inv T 10 (fin T (dsA A t) (dsS A t)) ∧ Evo T A (fin T (dsA A t) (dsS A t)) ∧ (fin T (dsA A t) (dsS A t)).2.1.length ≤ A.2.1.length + 201 := by
  have hT := h.T10
  unfold dsA dsS
  by_cases e : A.1 t 3 = 1
  · rw [if_pos e, if_pos e]
    obtain ⟨s1, s2, s3⟩ := cm_ok h ht e (c := 4) (by omega) (by omega) hL
    exact ⟨Or.inr s1, s2, s3.1, s3.2.1, s3.2.2.1⟩
  · rw [if_neg e, if_neg e, fin_nil, mk_nil]
    refine ⟨Or.inl rfl, ?_⟩
    split
    · exact ⟨Nat.le_add_right _ _, h, Evo.refl T A, Nat.le_add_right _ _⟩
    · split
      · have r : ∀ a b, ¬ (a = t ∧ b = 5) → (up A t 5 1).1 a b = A.1 a b := fun a b q => by rw [up_e, if_neg q]
        refine ⟨Nat.le_add_right _ _, ?_, Evo.of (fun b hb => r _ _ (by omega)) (fun a b ha => r _ _ (by omega)) (fun u b hu hb => r _ _ (by omega)) (Nat.le_refl _), Nat.le_add_right _ _⟩
        refine Inv_min h (fun u b hu _ q _ _ _ _ _ _ => r _ _ (by omega)) (fun u hu => by rw [r _ _ (by omega)]; exact h.p4 u hu) (fun u hu => ?_) (fun a b ha => r _ _ (by omega)) (r _ _ (by omega)) (by rw [r 10 4 (by omega), r 10 5 (by omega), r 10 3 (by omega)]; exact h.2.2.2.2.2.1) rfl (Nat.le_refl _)
        by_cases eu : u = t
        · subst eu; rw [up_s]; right; rfl
        · rw [r _ _ (fun z => eu z.1)]; exact h.p5 u hu
      · exact ⟨Nat.le_add_right _ _, h, Evo.refl T A, Nat.le_add_right _ _⟩
def tks (T : Nat) : Nat → AS → AS
  | 0, A => A
  | n + 1, A => tks T n (tick T A)
theorem tick_bd (hI : Inv T 10 A) (hB : Bd n A) (hn : n ≤ 270000) : Inv T 10 (tick T A) ∧ Bd (n + 1) (tick T A) ∧ ∃ B, Evo T A B ∧ tick T A = inc B 10 3 := by
  have h1 := hB.1
  have h2 := hB.2
  have hL := LIM_eq
  obtain ⟨k1, k2, k3, k4⟩ := tick_ok hI (by omega) (by omega)
  exact ⟨k1, ⟨by omega, by omega⟩, k2⟩
theorem tks_bd : ∀ (m n : Nat) (A : AS), Inv T 10 A → Bd n A → n + m ≤ 270000 → Inv T 10 (tks T m A) ∧ Bd (n + m) (tks T m A) := by
  intro m
  induction m with
  | zero => intro n A hI hB _; exact ⟨hI, hB⟩
  | succ m ih =>
    intro n A hI hB hn
    obtain ⟨k1, k2, -⟩ := tick_bd hI hB (by omega)
    have := ih (n + 1) _ k1 k2 (by omega)
    rw [show n + 1 + m = n + (m + 1) from by omega] at this
    exact this
theorem c_tickB {k : Nat} {M0 : Mem} (h : C true true k M0 T A [] M) (hI : Inv T 10 A) (hB : Bd n A) (hn : n ≤ 270000) : Sat (pX3_tick k M) (fun o M' => C true true k M0 T (tick T A) [] M') := by
  have h1 := hB.1
  have hL := LIM_eq
  exact S_mono (c_tick h hI (by omega)) (fun o M' h' => h'.2)
def cf (p : Nat → Bool) : Nat → Nat → Nat → Nat
  | 0, _, c => c
  | n + 1, i, c => cf p n (i + 1) (if p i = true then c + 1 else c)
def inS (T : Nat) (A : AS) (s : Int32) : Int32 := nI (cf (fun u => decide (A.1 u 3 = s)) T 0 0)
theorem c_th4 {g p : Bool} {k : Nat} {M0 : Mem} {stk : List Nat} (h : C g p k M0 T A stk M) (s : Int32) : ∀ (m n i c : Nat), i + m = T → m < n → pX3_threadsIn_4 k n s (nI c) (nI i) M = some (nI (cf (fun u => decide (A.1 u 3 = s)) m i c), M) := by
  have hT := h.T10
  intro m
  induction m with
  | zero =>
    intro n i c hi hn
    obtain ⟨n, rfl⟩ : ∃ n', n = n' + 1 := ⟨n - 1, by omega⟩
    rw [pX3_threadsIn_4, h.cnt4, if_pos (nI_le (by omega) (by omega))]
    rfl
  | succ m ih =>
    intro n i c hi hn
    obtain ⟨n, rfl⟩ : ∃ n', n = n' + 1 := ⟨n - 1, by omega⟩
    have r7 : M.1 5 k i 7 = A.1 i 3 := h.th (by omega) 3 rfl
    rw [pX3_threadsIn_4, h.cnt4, if_neg (nI_ge (by omega) (by omega)), chk_h (inB_nI (by omega) (by omega)), cl (by omega), r7, nI_1, nI_1, cf]
    by_cases e : A.1 i 3 = s
    · rw [if_neg (not_not_intro e), if_pos (decide_eq_true e)]
      exact ih n (i + 1) (c + 1) (by omega) (by omega)
    · rw [if_pos e, if_neg (by simpa using e)]
      exact ih n (i + 1) c (by omega) (by omega)
theorem c_thin {g p : Bool} {k : Nat} {M0 : Mem} {stk : List Nat} (h : C g p k M0 T A stk M) (s : Int32) : pX3_threadsIn k s M = some (inS T A s, M) := c_th4 h s T fu 0 0 (by omega) (by have := h.T10; show _ < 4096; omega)
theorem c_run19 {M0 : Mem} {tk : Nat} (htk : tk ≤ 500) (v2 : Int32) : ∀ (m n i b : Nat) (A : AS) (M : Mem), i + m = tk → m < n → C true true 0 M0 T A [] M → Inv T 10 A → Bd b A → b + m ≤ 270000 → Sat (pX7_run_19 n (nI tk) v2 (nI i) M) (fun o M' => o = (inS T (tks T m A) 3 - v2) ∧ C true true 0 M0 T (tks T m A) [] M') := by
  intro m
  induction m with
  | zero =>
    intro n i b A M hi hn h hI hB hb
    obtain ⟨n, rfl⟩ : ∃ n', n = n' + 1 := ⟨n - 1, by omega⟩
    rw [pX7_run_19, if_pos (nI_le (by omega) (by omega)), c_thin h, bnd_some]
    exact S_ret ⟨rfl, h⟩
  | succ m ih =>
    intro n i b A M hi hn h hI hB hb
    obtain ⟨n, rfl⟩ : ∃ n', n = n' + 1 := ⟨n - 1, by omega⟩
    obtain ⟨k1, k2, -⟩ := tick_bd hI hB (by omega)
    rw [pX7_run_19, if_neg (nI_ge (by omega) (by omega)), nI_1]
    exact S_bnd (c_tickB h hI hB (by omega)) (fun _ M1 h1 => ih n (i + 1) (b + 1) _ M1 (by omega) (by omega) h1 k1 k2 (by omega))
theorem rng_lo {v : Int32} {lo hi : Nat} (hlo : lo < 2147483648) (hhi : hi < 2147483648) {l h : Int32} (el : nI lo = l) (eh : nI hi = h) (e : rng v l h = true) : ∃ x, lo ≤ x ∧ x ≤ hi ∧ v = nI x := by
  subst el
  subst eh
  obtain ⟨h1, h2⟩ := rng_t e
  rw [nI_toInt (by omega)] at h1 h2
  exact ⟨v.toNatClampNeg, by show lo ≤ v.toInt.toNat; omega, num_le (by omega) h2, (nI_self (by omega)).symm⟩
end LAW60
