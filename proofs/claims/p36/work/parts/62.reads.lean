/-! ===== sets, reads, chains, adds: the class's side ===== -/
section LAW66
variable {g p : Bool} {k n : Nat} {M0 : Mem} {T T' : Nat} {A A' : AS} {stk gv : List Nat} {M M' M1 M2 M3 : Mem}
theorem g_inv {ex b : Nat} {v : Int32} (h : Inv T ex A) (hb : b < 2) : Inv T ex (up A 10 b v) := by
  have hT := h.T10
  have r : ∀ a c, ¬ (a = 10 ∧ c = b) → (up A 10 b v).1 a c = A.1 a c := fun a c q => by rw [up_e, if_neg q]
  exact Inv_min h (fun u c hu _ _ _ _ _ _ _ _ => r _ _ (by omega)) (fun u hu => by rw [r _ _ (by omega)]; exact h.p4 u hu) (fun u hu => by rw [r _ _ (by omega)]; exact h.p5 u hu) (fun a c ha => r _ _ (by omega)) (r _ _ (by omega)) (by rw [r 10 4 (by omega), r 10 5 (by omega), r 10 3 (by omega)]; exact h.2.2.2.2.2.1) rfl (Nat.le_refl _)
theorem c_cs {k : Nat} {M0 : Mem} (h : C true true k M0 T A [] M) {b : Nat} (hb : b < 2) (v : Int32) : Sat (pX3_changeSetting k (nI b) v M) (fun _ M' => C true true k M0 T (up A 10 b v) [] M') := by
  have hT := h.T10
  rw [pX3_changeSetting, chk_h (inB_nI hb (by omega)), cl (by omega)]
  have hb2 : b = 0 ∨ b = 1 := by omega
  have key : C true false k M0 T (up A 10 b v) [] (wI M 15 k 0 b v) := by
    rcases hb2 with rfl | rfl
    · exact h.weak.putg (b := 0) rfl (by omega) (fun q => (nomatch q)) v
    · exact h.weak.putg (b := 1) rfl (by omega) (fun q => (nomatch q)) v
  refine S_w key (fun M1 h1 => ?_)
  rw [chk_h b01_1]
  exact S_w (h1.mark (p' := true)) (fun M2 h2 => S_ret h2)
theorem okg_2 {b : Nat} (hb : b < 2) : okg b = true := decide_eq_true (by omega)
theorem C.g01 {g p : Bool} {k : Nat} {M0 : Mem} {stk : List Nat} (h : C g p k M0 T A stk M) {b : Nat} (hb : b < 2) : M.1 15 k 0 b = A.1 10 b := by
  have hb2 : b = 0 ∨ b = 1 := by omega
  rcases hb2 with rfl | rfl
  · exact h.gl 0 rfl
  · exact h.gl 1 rfl
theorem x_inv {ex : Nat} {v : Int32} (h : Inv T ex A) (h1 : 0 ≤ v.toInt) (h2 : v.toInt ≤ 1000002) : Inv T ex (up A 10 4 v) := by
  have hT := h.T10
  have r : ∀ a c, ¬ (a = 10 ∧ c = 4) → (up A 10 4 v).1 a c = A.1 a c := fun a c q => by rw [up_e, if_neg q]
  exact Inv_min h (fun u c hu _ _ _ _ _ _ _ _ => r _ _ (by omega)) (fun u hu => by rw [r _ _ (by omega)]; exact h.p4 u hu) (fun u hu => by rw [r _ _ (by omega)]; exact h.p5 u hu) (fun a c ha => r _ _ (by omega)) (r _ _ (by omega)) (by rw [up_s, r 10 5 (by omega), r 10 3 (by omega)]; exact ⟨⟨h1, h2⟩, h.2.2.2.2.2.1.2⟩) rfl (Nat.le_refl _)
theorem bit_t : ((List.range 10).all fun i => (List.range (2 ^ i)).all fun a => decide ((nI a ||| ((1 : Int32) <<< (nI i &&& 31))) = nI (a + 2 ^ i)) && decide ((nI a + ((1 : Int32) <<< (nI i &&& 31))) = nI (a + 2 ^ i)) && decide ((nI a + (0 : Int32)) = nI a)) = true := by decide +kernel
theorem bit_o {i a : Nat} (hi : i < 10) (ha : a < 2 ^ i) : (nI a ||| ((1 : Int32) <<< (nI i &&& 31))) = nI (a + 2 ^ i) ∧ (nI a + ((1 : Int32) <<< (nI i &&& 31))) = nI (a + 2 ^ i) ∧ (nI a + (0 : Int32)) = nI a := by
  have := List.all_eq_true.mp (List.all_eq_true.mp bit_t i (List.mem_range.mpr hi)) a (List.mem_range.mpr ha)
  simp only [Bool.and_eq_true, decide_eq_true_eq] at this
  exact ⟨this.1.1, this.1.2, this.2⟩
def mkB (p : Nat → Bool) : Nat → Nat → Nat → Nat
  | 0, _, a => a
  | m + 1, i, a => mkB p m (i + 1) (if p i = true then a + 2 ^ i else a)
theorem mkB_lt {i a : Nat} {b : Bool} (ha : a < 2 ^ i) : (if b = true then a + 2 ^ i else a) < 2 ^ (i + 1) := by
  rw [Nat.pow_succ]
  split <;> omega
theorem c_ho4 {g p : Bool} {k : Nat} {M0 : Mem} {stk : List Nat} (h : C g p k M0 T A stk M) : ∀ (m n i a : Nat), i + m = 6 → m < n → a < 2 ^ i → pX1_heldOnes_4 k n (nI a) (nI i) M = some (nI (mkB (fun l => decide (¬ A.1 11 l = -1)) m i a), M) := by
  intro m
  induction m with
  | zero =>
    intro n i a hi hn ha
    obtain ⟨n, rfl⟩ : ∃ n', n = n' + 1 := ⟨n - 1, by omega⟩
    rw [pX1_heldOnes_4, if_pos (show (6 : Int32) ≤ nI i from nI_le (a := 6) (by omega) (by omega))]
    rfl
  | succ m ih =>
    intro n i a hi hn ha
    obtain ⟨n, rfl⟩ : ∃ n', n = n' + 1 := ⟨n - 1, by omega⟩
    rw [pX1_heldOnes_4, if_neg (show ¬ (6 : Int32) ≤ nI i from nI_ge (b := 6) (by omega) (by omega)), chk_h (inB_nI (by omega) (by omega)), cl (by omega), h.ho (by omega), nI_1, (bit_o (show i < 10 by omega) ha).1, nm_def, mkB]
    by_cases e : A.1 11 i = -1
    · rw [if_pos e, ih n (i + 1) a (by omega) (by omega) (by rw [Nat.pow_succ]; omega), if_neg (show ¬ decide (¬ A.1 11 i = -1) = true by simp [e])]
    · rw [if_neg e, ih n (i + 1) _ (by omega) (by omega) (by rw [Nat.pow_succ]; omega), if_pos (show decide (¬ A.1 11 i = -1) = true by simp [e])]
theorem c_hb4 {g p : Bool} {k : Nat} {M0 : Mem} {stk : List Nat} (h : C g p k M0 T A stk M) (v : Int32) : ∀ (m n i a : Nat), i + m = 6 → m < n → a < 2 ^ i → pX1_heldBy_4 k n v (nI a) (nI i) M = some (nI (mkB (fun l => decide (A.1 11 l = v)) m i a), M) := by
  intro m
  induction m with
  | zero =>
    intro n i a hi hn ha
    obtain ⟨n, rfl⟩ : ∃ n', n = n' + 1 := ⟨n - 1, by omega⟩
    rw [pX1_heldBy_4, if_pos (show (6 : Int32) ≤ nI i from nI_le (a := 6) (by omega) (by omega))]
    rfl
  | succ m ih =>
    intro n i a hi hn ha
    obtain ⟨n, rfl⟩ : ∃ n', n = n' + 1 := ⟨n - 1, by omega⟩
    rw [pX1_heldBy_4, if_neg (show ¬ (6 : Int32) ≤ nI i from nI_ge (b := 6) (by omega) (by omega)), chk_h (inB_nI (by omega) (by omega)), cl (by omega), h.ho (by omega), nI_1, (bit_o (show i < 10 by omega) ha).1, nm_def, mkB]
    by_cases e : A.1 11 i = v
    · rw [if_neg (not_not_intro e), ih n (i + 1) _ (by omega) (by omega) (by rw [Nat.pow_succ]; omega), if_pos (show decide (A.1 11 i = v) = true by simp [e])]
    · rw [if_pos e, ih n (i + 1) a (by omega) (by omega) (by rw [Nat.pow_succ]; omega), if_neg (show ¬ decide (A.1 11 i = v) = true by simp [e])]
def kpt (A : AS) : Nat := min A.2.1.length 40
theorem c_kept {g p : Bool} {k : Nat} {M0 : Mem} {stk : List Nat} (h : C g p k M0 T A stk M) : M.1 13 k 0 2 = nI (kpt A) := h.2.2.2.1.kp
def cnV (T : Nat) (A : AS) (c : Nat) : Int32 := if c < 5 then A.1 10 c else if c < 10 then inS T A (nI (c - 5)) else if c = 10 then A.1 10 5 else if c = 11 then nI (mkB (fun l => decide (¬ A.1 11 l = -1)) 6 0 0) else if c = 12 then A.1 10 6 else if c = 13 then nI (kpt A) else A.1 10 (c - 6)
theorem some_e {α : Type} {x y : α} {M : Mem} (e : x = y) : some (x, M) = some (y, M) := by rw [e]
theorem c_num {g p : Bool} {k : Nat} {M0 : Mem} {stk : List Nat} (h : C g p k M0 T A stk M) {c : Nat} (hc : c ≤ 17) : pX3_number k (nI c) M = some (cnV T A c, M) := by
  have hc18 : c = 0 ∨ c = 1 ∨ c = 2 ∨ c = 3 ∨ c = 4 ∨ c = 5 ∨ c = 6 ∨ c = 7 ∨ c = 8 ∨ c = 9 ∨ c = 10 ∨ c = 11 ∨ c = 12 ∨ c = 13 ∨ c = 14 ∨ c = 15 ∨ c = 16 ∨ c = 17 := by omega
  rcases hc18 with rfl | rfl | rfl | rfl | rfl | rfl | rfl | rfl | rfl | rfl | rfl | rfl | rfl | rfl | rfl | rfl | rfl | rfl
  · exact some_e (h.gl 0 rfl)
  · exact some_e (h.gl 1 rfl)
  · exact some_e (h.gl 2 rfl)
  · exact some_e (h.gl 3 rfl)
  · exact some_e (h.gl 4 rfl)
  · exact (congrArg (fun z => bnd z fun o M => some (o, M)) (c_thin h 0)).trans rfl
  · exact (congrArg (fun z => bnd z fun o M => some (o, M)) (c_thin h 1)).trans rfl
  · exact (congrArg (fun z => bnd z fun o M => some (o, M)) (c_thin h 2)).trans rfl
  · exact (congrArg (fun z => bnd z fun o M => some (o, M)) (c_thin h 3)).trans rfl
  · exact (congrArg (fun z => bnd z fun o M => some (o, M)) (c_thin h 4)).trans rfl
  · exact some_e (h.gl 5 rfl)
  · exact (congrArg (fun z => bnd z fun o M => some (o, M)) (c_ho4 h 6 fu 0 0 (by omega) (by decide) (by decide))).trans rfl
  · exact some_e (h.gl 6 rfl)
  · exact some_e (c_kept h)
  · exact some_e (h.gl 8 rfl)
  · exact some_e (h.gl 9 rfl)
  · exact some_e (h.gl 10 rfl)
  · exact some_e (h.gl 11 rfl)
theorem rng_isT (v : Int32) {m : Nat} (hm : m < 1000) : rng v 0 (nI m - 1) = isT m v := by
  unfold rng isT
  by_cases e : v < 0
  · simp [e]
  · obtain ⟨j, hj, rfl⟩ := nI_of e
    have h1 : (nI m - 1).toInt = (m : Int) - 1 := by
      cases m with
      | zero => decide
      | succ m =>
        have : nI (m + 1) - 1 = nI m := by
          have := nI_sub (a := m + 1) (b := 1) (by omega)
          exact this
        rw [this, nI_toInt (by omega)]
        omega
    have h2 : nI j ≤ nI m - 1 ↔ nI j < nI m := by
      rw [i32_le, i32_lt, h1, nI_toInt (by omega), nI_toInt (by omega)]
      omega
    simp only [h2]
theorem isT_s {v : Int32} {m : Nat} (hm : m < 1000) (h : isT m v = true) : ∃ t, t < m ∧ v = nI t := by
  unfold isT at h
  obtain ⟨h1, h2⟩ := of_decide_eq_true h
  obtain ⟨j, hj, rfl⟩ := nI_of h1
  exact ⟨j, (nI_ltI hj (by omega)).mp h2, rfl⟩
theorem isT_rng {v : Int32} {m : Nat} {hi : Int32} (hm : m < 1000) (he : nI m - 1 = hi) : rng v 0 hi = isT m v := by
  rw [← he]
  exact rng_isT v hm
theorem kpt_40 (A : AS) : kpt A ≤ 40 := Nat.min_le_right _ _
def evF (A : AS) (j c : Nat) : Int32 := evc (A.2.1.getD (kpt A - 1 - j) ev0) c
theorem c_cell {g p : Bool} {k : Nat} {M0 : Mem} {stk : List Nat} (h : C g p k M0 T A stk M) {j c : Nat} (hj : j < kpt A) (hc : c < 4) : pX2_cell k (nI j) (nI c) M = some (evF A j c, M) := by
  have hl := h.2.2.2.1
  have h1 := hl.1
  rw [LIM_eq] at h1
  have hk : kpt A ≤ A.2.1.length := Nat.min_le_left _ _
  have hk40 := kpt_40 A
  have q := hl.2.2 (kpt A - 1 - j) c (by omega) (by omega) hc
  have e1 : A.2.1.length - 1 - (kpt A - 1 - j) = A.2.1.length - kpt A + j := by omega
  rw [e1] at q
  have hm : (A.2.1.length - kpt A + j) % 40 < 40 := Nat.mod_lt _ (by omega)
  have hn : A.2.1.length % 40 < 40 := Nat.mod_lt _ (by omega)
  have em : (A.2.1.length % 40 + 40 - kpt A + j) % 40 = (A.2.1.length - kpt A + j) % 40 := by
    have hk2 : kpt A = min A.2.1.length 40 := rfl
    omega
  have e2 : (((((((nI (A.2.1.length % 40)) + (40 : Int32)) - (nI (kpt A))) + nI j) - ((((nI (A.2.1.length % 40)) + (40 : Int32)) - (nI (kpt A))) + nI j) / (40 : Int32) * (40 : Int32)) * (4 : Int32)) + nI c) = nI (4 * ((A.2.1.length - kpt A + j) % 40) + c) := by
    have a0 : nI (A.2.1.length % 40) + (40 : Int32) = nI (A.2.1.length % 40 + 40) := nI_add _ 40
    rw [a0, nI_sub (show kpt A ≤ A.2.1.length % 40 + 40 by omega), nI_add]
    have a1 : nI (A.2.1.length % 40 + 40 - kpt A + j) - nI (A.2.1.length % 40 + 40 - kpt A + j) / (40 : Int32) * (40 : Int32) = nI ((A.2.1.length % 40 + 40 - kpt A + j) % 40) := nI_mod (m := 40) (by omega) (by omega)
    rw [a1, em]
    have a2 : nI ((A.2.1.length - kpt A + j) % 40) * (4 : Int32) = nI (((A.2.1.length - kpt A + j) % 40) * 4) := nI_mul _ 4
    rw [a2, nI_add, Nat.mul_comm]
  rw [pX2_cell, c_kept h, hl.nx, e2, chk_h (inB_nI (by omega) (by omega)), cl (by omega), q]
  rfl
def evP (A : AS) (v w : Int32) (j : Nat) : Bool := if evF A j 1 = v then (if w = -1 then true else decide (evF A j 2 = w)) else false
theorem c_ct5 {g p : Bool} {k : Nat} {M0 : Mem} {stk : List Nat} (h : C g p k M0 T A stk M) (v w : Int32) : ∀ (m n i a : Nat), i + m = kpt A → m < n → pX2_countOf_5 k n v w (nI a) (nI i) M = some (nI (cf (evP A v w) m i a), M) := by
  have hk40 := kpt_40 A
  intro m
  induction m with
  | zero =>
    intro n i a hi hn
    obtain ⟨n, rfl⟩ : ∃ n', n = n' + 1 := ⟨n - 1, by omega⟩
    rw [pX2_countOf_5, c_kept h, if_pos (nI_le (by omega) (by omega))]
    rfl
  | succ m ih =>
    intro n i a hi hn
    obtain ⟨n, rfl⟩ : ∃ n', n = n' + 1 := ⟨n - 1, by omega⟩
    have c1 : pX2_cell k (nI i) (1 : Int32) M = some (evF A i 1, M) := c_cell (c := 1) h (by omega) (by omega)
    have c2 : pX2_cell k (nI i) (2 : Int32) M = some (evF A i 2, M) := c_cell (c := 2) h (by omega) (by omega)
    rw [pX2_countOf_5, c_kept h, if_neg (nI_ge (by omega) (by omega)), c1, bnd_some, c2, nI_1, nI_1, cf]
    unfold evP
    by_cases e : evF A i 1 = v
    · rw [if_neg (not_not_intro e), if_pos e]
      by_cases e2 : w = -1
      · rw [if_pos e2, if_pos e2, if_pos rfl]
        exact ih n (i + 1) (a + 1) (by omega) (by omega)
      · rw [if_neg e2, if_neg e2, bnd_some]
        by_cases e3 : evF A i 2 = w
        · rw [if_neg (not_not_intro e3), if_pos (decide_eq_true e3)]
          exact ih n (i + 1) (a + 1) (by omega) (by omega)
        · rw [if_pos e3, if_neg (show ¬ decide (evF A i 2 = w) = true by simp [e3])]
          exact ih n (i + 1) a (by omega) (by omega)
    · rw [if_pos e, if_neg e, if_neg (by simp)]
      exact ih n (i + 1) a (by omega) (by omega)
def thV (T : Nat) (A : AS) (t c : Nat) : Int32 := if c = 0 then A.1 t 0 else if c = 1 then pr T A t else if c = 2 then A.1 t 3 else if c = 3 then A.1 t 2 else if c < 9 then A.1 t c else if c = 9 then nI (mkB (fun l => decide (A.1 11 l = nI t)) 6 0 0) else if c < 17 then A.1 t (c - 1) else if c = 17 then (if A.1 t 16 = -1 then A.1 t 0 else A.1 t 16) else A.1 t 1
theorem c_tnum (h : C true true 0 M3 T A [] M) (hI : Inv T 10 A) (hp : M.1 3 0 0 13 = 0) {t c : Nat} (ht : t < T) (hc : c ≤ 18) (h9 : ¬ c = 9) : pX6_number 0 t (nI c) M = some (thV T A t c, M) := by
  have hc18 : c = 0 ∨ c = 1 ∨ c = 2 ∨ c = 3 ∨ c = 4 ∨ c = 5 ∨ c = 6 ∨ c = 7 ∨ c = 8 ∨ c = 10 ∨ c = 11 ∨ c = 12 ∨ c = 13 ∨ c = 14 ∨ c = 15 ∨ c = 16 ∨ c = 17 ∨ c = 18 := by omega
  rcases hc18 with rfl | rfl | rfl | rfl | rfl | rfl | rfl | rfl | rfl | rfl | rfl | rfl | rfl | rfl | rfl | rfl | rfl | rfl
  · exact some_e (h.th ht 0 rfl)
  · exact some_e (c_pr h hp ht)
  · exact some_e (h.th ht 3 rfl)
  · exact some_e (h.th ht 2 rfl)
  · have e := h.th ht 4 rfl
    show (if M.1 5 0 t 10 = 0 then some ((0 : Int32), M) else some ((1 : Int32), M)) = some (A.1 t 4, M)
    have e' : M.1 5 0 t 10 = A.1 t 4 := e
    rw [e']
    rcases hI.p4 t ht with q | q
    · rw [q, if_pos rfl]
    · rw [q, if_neg (by decide)]
  · have e := h.th ht 5 rfl
    show (if M.1 5 0 t 11 = 0 then some ((0 : Int32), M) else some ((1 : Int32), M)) = some (A.1 t 5, M)
    have e' : M.1 5 0 t 11 = A.1 t 5 := e
    rw [e']
    rcases hI.p5 t ht with q | q
    · rw [q, if_pos rfl]
    · rw [q, if_neg (by decide)]
  · exact some_e (h.th ht 6 rfl)
  · exact some_e (h.th ht 7 rfl)
  · exact some_e (h.th ht 8 rfl)
  · exact some_e (h.th ht 9 rfl)
  · exact some_e (h.th ht 10 rfl)
  · exact some_e (h.th ht 11 rfl)
  · exact some_e (h.th ht 12 rfl)
  · exact some_e (h.th ht 13 rfl)
  · exact some_e (h.th ht 14 rfl)
  · exact some_e (h.th ht 15 rfl)
  · obtain ⟨g1, g2⟩ := h.2.1 rfl t ht
    have e0 : M.1 5 0 t 4 = A.1 t 0 := h.th ht 0 rfl
    show (if ¬ M.1 5 0 t 6 = 0 then some (M.1 5 0 t 6, M) else some (M.1 5 0 t 4, M)) = some ((if A.1 t 16 = -1 then A.1 t 0 else A.1 t 16), M)
    rw [e0, g1]
    by_cases q : A.1 t 16 = -1
    · rw [if_pos q, if_pos q, if_neg (not_not_intro rfl)]
    · rw [if_neg q, if_neg q, if_pos g2]
  · exact some_e (h.th ht 1 rfl)
theorem b01_if {c : Prop} [Decidable c] {x y : Int32} (hx : x = 0 ∨ x = 1) (hy : y = 0 ∨ y = 1) : decide ((if c then x else y) = 0 ∨ (if c then x else y) = 1) = true := by
  by_cases e : c
  · rw [if_pos e]; exact decide_eq_true hx
  · rw [if_neg e]; exact decide_eq_true hy
def setX (X : Nat → Bool) (i : Nat) (b : Bool) : Nat → Bool := fun u => if u = i then b else X u
theorem hop_2 (hI : Inv T 10 A) {u : Nat} (hu : u < T) (h2 : A.1 u 3 = 2) : ∃ l v, l < 6 ∧ A.1 u 8 = nI l ∧ v < T ∧ A.1 11 l = nI v ∧ ¬ v = u ∧ hop T A.1 u = some v := by
  have hT := hI.T10
  obtain ⟨l, v, hl, e8, hv, e11, hne⟩ := (hI.2.1 u hu).2.2.2.2.2.1 h2
  refine ⟨l, v, hl, e8, hv, e11, hne, ?_⟩
  unfold hop
  rw [if_pos hu, e8, if_neg (m1_ne (by omega)), cl (by omega), e11, if_neg (m1_ne (by omega)), cl (by omega)]
theorem hop_n2 (hI : Inv T 10 A) {u : Nat} (hu : u < T) (h2 : ¬ A.1 u 3 = 2) : hop T A.1 u = none := by
  have e8 := (hI.2.1 u hu).2.2.2.2.2.2 h2
  unfold hop
  rw [if_pos hu, if_pos e8]
theorem hop_T (hI : Inv T 10 A) {u v : Nat} (e : hop T A.1 u = some v) : u < T ∧ v < T ∧ ¬ v = u ∧ A.1 u 3 = 2 := by
  have hu := hop_lt e
  by_cases h2 : A.1 u 3 = 2
  · obtain ⟨l, w, -, -, hw, -, hne, e2⟩ := hop_2 hI hu h2
    rw [e] at e2
    have : v = w := Option.some.inj e2
    subst this
    exact ⟨hu, hw, hne, h2⟩
  · rw [hop_n2 hI hu h2] at e
    cases e
theorem set_t : ((List.range 1024).all fun s => (List.range 10).all fun c => decide ((((nI s >>> (nI c &&& 31)) &&& (1 : Int32)) = 0) ↔ s.testBit c = false) && decide ((nI s ||| ((1 : Int32) <<< (nI c &&& 31))) = nI (s ||| 2 ^ c))) = true := by decide +kernel
def Bm (X : Nat → Bool) (s : Nat) : Prop := s < 1024 ∧ ∀ c, c < 10 → s.testBit c = X c
theorem Bm.is {X : Nat → Bool} {s c : Nat} (h : Bm X s) (hc : c < 10) : ((nI s >>> (nI c &&& 31)) &&& (1 : Int32)) = 0 ↔ X c = false := by
  have := List.all_eq_true.mp (List.all_eq_true.mp set_t s (List.mem_range.mpr h.1)) c (List.mem_range.mpr hc)
  simp only [Bool.and_eq_true, decide_eq_true_eq] at this
  rw [this.1, h.2 c hc]
theorem Bm.add {X : Nat → Bool} {s c : Nat} (h : Bm X s) (hc : c < 10) : ∃ s', (nI s ||| ((1 : Int32) <<< (nI c &&& 31))) = nI s' ∧ Bm (setX X c true) s' := by
  have := List.all_eq_true.mp (List.all_eq_true.mp set_t s (List.mem_range.mpr h.1)) c (List.mem_range.mpr hc)
  simp only [Bool.and_eq_true, decide_eq_true_eq] at this
  refine ⟨s ||| 2 ^ c, this.2, ?_, fun d hd => ?_⟩
  · exact Nat.or_lt_two_pow (n := 10) h.1 (Nat.pow_lt_pow_right (by omega) hc)
  · rw [Nat.testBit_or, h.2 d hd, Nat.testBit_two_pow]
    unfold setX
    by_cases e : d = c
    · subst e; simp
    · have e' : ¬ c = d := fun q => e q.symm
      simp [e, e']
def cnS (h : Nat → Option Nat) (w : Nat) : Nat → Nat → Option Nat → (Nat → Bool) → Option Nat
  | 0, _, _, _ => none
  | m + 1, i, cur, X => match cur with
    | none => none
    | some c => if X c = true then none else if i = w then some c else cnS h w m (i + 1) (h c) (setX X c true)
theorem cnS_none {h : Nat → Option Nat} {w : Nat} (m i : Nat) (X : Nat → Bool) : cnS h w m i none X = none := by
  cases m <;> rfl
theorem c_bic {g p : Bool} {k : Nat} {M0 : Mem} {stk : List Nat} (h : C g p k M0 T A stk M) (hI : Inv T 10 A) {w : Nat} (hw : w < 2147483648) : ∀ (m n i s : Nat) (cur : Option Nat) (X : Nat → Bool), i + m = 10 → m < n → Bm X s → (∀ c, cur = some c → c < T) → pX3_blockerInChain_14 k n (nI w) (nI s) (onI cur) (nI i) M = some (onI (cnS (hop T A.1) w m i cur X), M) := by
  have hT := hI.T10
  intro m
  induction m with
  | zero =>
    intro n i s cur X hi hn hX hc
    obtain ⟨n, rfl⟩ : ∃ n', n = n' + 1 := ⟨n - 1, by omega⟩
    rw [pX3_blockerInChain_14, if_pos (show (10 : Int32) ≤ nI i from nI_le (a := 10) (by omega) (by omega))]
    rfl
  | succ m ih =>
    intro n i s cur X hi hn hX hc
    obtain ⟨n, rfl⟩ : ∃ n', n = n' + 1 := ⟨n - 1, by omega⟩
    rw [pX3_blockerInChain_14, if_neg (show ¬ (10 : Int32) ≤ nI i from nI_ge (b := 10) (by omega) (by omega))]
    cases cur with
    | none => rw [onI_none, if_pos rfl, cnS_none, onI_none]
    | some c =>
      have hcT := hc c rfl
      obtain ⟨s', e1, e2⟩ := hX.add (show c < 10 by omega)
      rw [onI_some, if_neg (m1_ne (by omega)), cnS]
      by_cases ex : X c = true
      · rw [if_pos (show ¬ ((nI s >>> (nI c &&& 31)) &&& (1 : Int32)) = 0 from fun q => by rw [(hX.is (by omega)).mp q] at ex; cases ex)]
        simp only [ex, if_true]
        rfl
      · have ex' : X c = false := by cases q : X c; rfl; exact absurd q ex
        rw [if_neg (not_not_intro ((hX.is (show c < 10 by omega)).mpr ex'))]
        simp only [ex']
        rw [if_neg (show ¬ false = true by decide)]
        by_cases ew : i = w
        · subst ew
          rw [if_neg (not_not_intro rfl), if_pos rfl, onI_some]
        · rw [if_pos (show ¬ nI i = nI w from fun q => ew (nI_inj (by omega) hw q)), if_neg ew, e1, nm_def, c_blocker h hI.hi hcT, bnd_some, nI_1]
          exact ih n (i + 1) s' _ _ (by omega) (by omega) e2 (fun d hd => (hop_T hI hd).2.1)
def skF (h : Nat → Option Nat) (st : Nat → Int32) : Nat → Nat → Bool
  | 0, _ => true
  | m + 1, c => match h c with
    | some d => skF h st m d
    | none => decide (st c = 3 ∨ st c = 4)
theorem wk_long (hI : Inv T 10 A) {t c : Nat} (h : wk (hop T A.1) 10 t = some c) (ht : t < T) : A.1 c 3 = 2 := by
  have hT := hI.T10
  have hcT := hiWkLt hI.hi hT ht 10 c h
  by_cases e : A.1 c 3 = 2
  · exact e
  · have hn := hop_n2 hI hcT e
    have h11 : wk (hop T A.1) 11 t = none := by rw [wk_succ, h]; exact hn
    have hx : ∀ i, i ≤ 10 → ∃ v, wk (hop T A.1) i t = some v ∧ v < 10 := by
      intro i hi
      cases q : wk (hop T A.1) i t with
      | none => rw [wk_none q 10 hi] at h; cases h
      | some v => exact ⟨v, rfl, by have := hiWkLt hI.hi hT ht i v q; omega⟩
    obtain ⟨i, j, h1, h2, h3⟩ := php 10 (fun i => (wk (hop T A.1) i t).getD 0) (fun i hi => by
      obtain ⟨v, hv, hv2⟩ := hx i hi
      show (wk (hop T A.1) i t).getD 0 < 10
      rw [hv]
      exact hv2)
    obtain ⟨v, hv, -⟩ := hx i (by omega)
    obtain ⟨w, hw, -⟩ := hx j (by omega)
    rw [hv, hw] at h3
    have h4 : v = w := h3
    subst h4
    have hp : wk (hop T A.1) (j - i) v = some v := by
      have q : wk (hop T A.1) (i + (j - i)) t = some v := by rw [show i + (j - i) = j from by omega]; exact hw
      rw [wk_add, hv] at q
      exact q
    have hk : ∀ k, wk (hop T A.1) (i + k * (j - i)) t = some v := by
      intro k
      induction k with
      | zero => rw [Nat.zero_mul]; exact hv
      | succ k ih =>
        rw [Nat.succ_mul, ← Nat.add_assoc, wk_add, ih]
        exact hp
    have h5 := hk 11
    have hge : 11 * 1 ≤ 11 * (j - i) := Nat.mul_le_mul_left 11 (by omega)
    rw [wk_none h11 (i + 11 * (j - i)) (by omega)] at h5
    cases h5
theorem c_sk4 {g p : Bool} {k : Nat} {M0 : Mem} {stk : List Nat} (h : C g p k M0 T A stk M) (hI : Inv T 10 A) : ∀ (m n i c : Nat), i + m = 10 → m < n → c < T → pX3_isStuck_4 k n (nI c) (nI i) M = some ((if skF (hop T A.1) (fun u => A.1 u 3) m c = true then 1 else 0), M) := by
  have hT := hI.T10
  intro m
  induction m with
  | zero =>
    intro n i c hi hn hc
    obtain ⟨n, rfl⟩ : ∃ n', n = n' + 1 := ⟨n - 1, by omega⟩
    rw [pX3_isStuck_4, if_pos (show (10 : Int32) ≤ nI i from nI_le (a := 10) (by omega) (by omega)), chk_h b01_1, skF, if_pos rfl]
  | succ m ih =>
    intro n i c hi hn hc
    obtain ⟨n, rfl⟩ : ∃ n', n = n' + 1 := ⟨n - 1, by omega⟩
    rw [pX3_isStuck_4, if_neg (show ¬ (10 : Int32) ≤ nI i from nI_ge (b := 10) (by omega) (by omega)), c_blocker h hI.hi hc, bnd_some, skF]
    cases e : hop T A.1 c with
    | none =>
      rw [onI_none, if_neg (not_not_intro rfl), chk_h (inB_nI (by omega) (by omega)), cl (by omega), c_over h hc, bnd_some, chk_h (b01_if (Or.inr rfl) (Or.inl rfl))]
      by_cases q : A.1 c 3 = 3 ∨ A.1 c 3 = 4
      · rw [if_pos q, if_pos (decide_eq_true q)]
      · rw [if_neg q, if_neg (fun z => q (of_decide_eq_true z))]
    | some d =>
      have hd := hop_T hI e
      rw [onI_some, if_pos (m1_ne (by omega)), nI_1]
      exact ih n (i + 1) d (by omega) (by omega) hd.2.1
theorem c_st4 {g p : Bool} {k : Nat} {M0 : Mem} {stk : List Nat} (h : C g p 0 M0 T A stk M) (hI : Inv T 10 A) : ∀ (m n i a : Nat), i + m = T → m < n → a < 2 ^ i → pX7_stuck_4 n (nI a) (nI i) M = some (nI (mkB (fun u => skF (hop T A.1) (fun u => A.1 u 3) 10 u) m i a), M) := by
  have hT := hI.T10
  intro m
  induction m with
  | zero =>
    intro n i a hi hn ha
    obtain ⟨n, rfl⟩ : ∃ n', n = n' + 1 := ⟨n - 1, by omega⟩
    rw [pX7_stuck_4, h.cnt4, if_pos (nI_le (by omega) (by omega))]
    rfl
  | succ m ih =>
    intro n i a hi hn ha
    obtain ⟨n, rfl⟩ : ∃ n', n = n' + 1 := ⟨n - 1, by omega⟩
    have q : pX3_isStuck 0 (nI i) M = some ((if skF (hop T A.1) (fun u => A.1 u 3) 10 i = true then 1 else 0), M) := c_sk4 h hI 10 fu 0 i (by omega) (by decide) (by omega)
    rw [pX7_stuck_4, h.cnt4, if_neg (nI_ge (by omega) (by omega)), q, bnd_some, nI_1, (bit_o (show i < 10 by omega) ha).1, nm_def, mkB]
    by_cases e : skF (hop T A.1) (fun u => A.1 u 3) 10 i = true
    · rw [if_pos e, if_pos e, if_neg (show ¬ (1 : Int32) = 0 by decide)]
      exact ih n (i + 1) _ (by omega) (by omega) (by rw [Nat.pow_succ]; omega)
    · rw [if_neg e, if_neg e, if_pos rfl]
      exact ih n (i + 1) _ (by omega) (by omega) (by rw [Nat.pow_succ]; omega)
theorem lent_t : ((List.range 10).all fun p => (List.range 10).all fun b => p == 0 || b == 0 || (decide ((FP.fdiv (FP.i2f (nI p)) (FP.i2f (nI b))) &&& 0x7fffffff ≤ 0x7f800000) && decide ((FP.f2d (FP.fdiv (FP.i2f (nI p)) (FP.i2f (nI b)))) &&& 0x7fffffffffffffff ≤ 0x7ff0000000000000) && decide ((Op.cmpValue (FP.dcmp (FP.f2d (FP.fdiv (FP.i2f (nI p)) (FP.i2f (nI b)))) (FP.f2d (FP.fdiv (FP.i2f (nI p)) (FP.i2f (nI b))))) .l) = 0))) = true := by decide +kernel
theorem lent_o {p b : Nat} (h1 : 1 ≤ p) (h2 : p ≤ 9) (h3 : 1 ≤ b) (h4 : b ≤ 9) : (FP.fdiv (FP.i2f (nI p)) (FP.i2f (nI b))) &&& 0x7fffffff ≤ 0x7f800000 ∧ (FP.f2d (FP.fdiv (FP.i2f (nI p)) (FP.i2f (nI b)))) &&& 0x7fffffffffffffff ≤ 0x7ff0000000000000 ∧ (Op.cmpValue (FP.dcmp (FP.f2d (FP.fdiv (FP.i2f (nI p)) (FP.i2f (nI b)))) (FP.f2d (FP.fdiv (FP.i2f (nI p)) (FP.i2f (nI b))))) .l) = 0 := by
  have := List.all_eq_true.mp (List.all_eq_true.mp lent_t p (List.mem_range.mpr (by omega))) b (List.mem_range.mpr (by omega))
  have n1 : (p == 0) = false := beq_false_of_ne (by omega)
  have n2 : (b == 0) = false := beq_false_of_ne (by omega)
  rw [n1, n2] at this
  simp only [Bool.false_or, Bool.and_eq_true, decide_eq_true_eq] at this
  exact ⟨this.1.1, this.1.2, this.2⟩
theorem n9 {x : Int32} (h1 : 1 ≤ x.toInt) (h2 : x.toInt ≤ 9) : ∃ p, 1 ≤ p ∧ p ≤ 9 ∧ x = nI p := by
  obtain ⟨p, hp, rfl⟩ := nI_of (x := x) (by rw [i32_lt, i32_0]; omega)
  rw [nI_toInt hp] at h1 h2
  exact ⟨p, by omega, by omega, rfl⟩
theorem pr_9 (hI : Inv T 10 A) {t : Nat} (ht : t < T) : 1 ≤ (pr T A t).toInt ∧ (pr T A t).toInt ≤ 9 := by
  refine ⟨pr_ge ht (hI.base t ht), ?_⟩
  by_cases h1 : A.1 10 1 = 1
  · obtain ⟨⟨u, ⟨hu, -⟩, e⟩, -⟩ := pr_isMx ht h1 (by have := hI.base t ht; omega)
    rw [e]
    exact (hI.2.1 u hu).1.2
  · rw [pr_no h1]
    exact (hI.2.1 t ht).1.2
def isI (c x : Int32) : Bool := rng c 0 10 && rng x (xLeast.getD c.toNatClampNeg 0) (xMost.getD c.toNatClampNeg 0)
theorem isI_ok {c x : Int32} (h : isI c x = true) : okc c x := by
  unfold isI at h
  rw [Bool.and_eq_true] at h
  obtain ⟨j, -, hj, rfl⟩ := rng_lo (lo := 0) (hi := 10) (by omega) (by omega) rfl rfl h.1
  have h2 := h.2
  rw [cl (by omega)] at h2
  obtain ⟨r1, r2⟩ := rng_t h2
  exact ⟨j, by omega, rfl, i32_le.mpr r1, i32_le.mpr r2⟩
def nwF (b : Int32) (c : Nat) : Int32 := if c = 0 then b else if c = 7 ∨ c = 8 ∨ c = 10 ∨ c = 16 then -1 else 0
def nwA (T : Nat) (A : AS) (b : Int32) : AS := (fun a c => if a = T then nwF b c else if a = 10 ∧ c = 2 then nI (T + 1) else A.1 a c, A.2)
theorem nwA_s {b : Int32} {c : Nat} : (nwA T A b).1 T c = nwF b c := if_pos rfl
theorem nwA_n {b : Int32} {a c : Nat} (h : ¬ a = T) (h2 : ¬ (a = 10 ∧ c = 2)) : (nwA T A b).1 a c = A.1 a c := by
  show (if a = T then _ else _) = _
  rw [if_neg h, if_neg h2]
theorem nwA_2 {b : Int32} (h : T < 10) : (nwA T A b).1 10 2 = nI (T + 1) := by
  show (if 10 = T then _ else _) = _
  rw [if_neg (by omega), if_pos ⟨rfl, rfl⟩]
theorem nwA_inv (h : Inv T 10 A) (hT : T < 10) {b : Nat} (h1 : 1 ≤ b) (h9 : b ≤ 9) : Inv (T + 1) T (nwA T A (nI b)) := by
  obtain ⟨i1, i2, i3, i4, i5, i6, i7⟩ := h
  refine ⟨⟨by omega, nwA_2 hT⟩, fun t ht => ?_, fun t ht hne => ?_, fun l hl => ?_, fun l hl => ?_, ?_, fun t ht => ?_⟩
  · by_cases e : t = T
    · subst e
      unfold TI
      simp only [nwA_s]
      refine ⟨?_, ⟨0, 0, rfl, rfl, Nat.le_refl _, by omega, Or.inl rfl, fun j hj => absurd hj (Nat.not_lt_zero j)⟩, Or.inl rfl, Or.inl rfl, Or.inl rfl, fun q => ?_, fun _ => rfl⟩
      · show 1 ≤ (nI b).toInt ∧ (nI b).toInt ≤ 9
        rw [nI_toInt (by omega)]
        omega
      · exact absurd q (show ¬ nwF (nI b) 3 = 2 from (show ¬ (0 : Int32) = 2 by decide))
    · have h2 := i2 t (by omega)
      have r : ∀ c, (nwA T A (nI b)).1 t c = A.1 t c := fun c => nwA_n e (by omega)
      have r12 : ∀ c, (nwA T A (nI b)).1 12 c = A.1 12 c := fun c => nwA_n (by omega) (by omega)
      have r13 : ∀ c, (nwA T A (nI b)).1 13 c = A.1 13 c := fun c => nwA_n (by omega) (by omega)
      have r11 : ∀ c, (nwA T A (nI b)).1 11 c = A.1 11 c := fun c => nwA_n (by omega) (by omega)
      unfold TI at h2 ⊢
      simp only [r, r12, r13, r11]
      obtain ⟨a1, a2, a3, a4, a5, a6, a7⟩ := h2
      refine ⟨a1, a2, a3, a4, a5, fun q => ?_, a7⟩
      obtain ⟨l, v, z1, z2, z3, z4, z5⟩ := a6 q
      exact ⟨l, v, z1, z2, by omega, z4, z5⟩
  · have h3 := i3 t (by omega) (by omega)
    unfold ZI at h3 ⊢
    rw [nwA_n hne (by omega), nwA_n hne (by omega), nwA_n hne (by omega)]
    exact h3
  · rw [nwA_n (by omega) (by omega)]
    rcases i4 l hl with q | ⟨v, q1, q2⟩
    · exact Or.inl q
    · exact Or.inr ⟨v, by omega, q2⟩
  · obtain ⟨j1, j2⟩ := i5 l hl
    refine ⟨j1, fun u => (j2 u).trans ?_⟩
    by_cases e : u = T
    · subst e
      rw [nwA_s]
      refine ⟨fun q => absurd q.1 (by omega), fun q => absurd q.2 (fun z => m1_ne (show l < 2147483648 by omega) ?_)⟩
      exact z.symm
    · rw [nwA_n e (by omega)]
      exact ⟨fun q => ⟨by omega, q.2⟩, fun q => ⟨by omega, q.2⟩⟩
  · rw [nwA_n (by omega) (by omega), nwA_n (by omega) (by omega), nwA_n (by omega) (by omega)]
    exact i6
  · by_cases e : t = T
    · subst e
      unfold RI
      simp only [nwA_s]
      have z : ∀ c, 12 ≤ c → c < 16 → (nwF (nI b) c).toInt = 0 := fun c c1 c2 => by
        unfold nwF
        rw [if_neg (by omega), if_neg (by omega)]
        decide
      rw [z 12 (by omega) (by omega), z 13 (by omega) (by omega), z 14 (by omega) (by omega), z 15 (by omega) (by omega)]
      omega
    · have h7 := i7 t (by omega)
      unfold RI at h7 ⊢
      rw [nwA_n e (by omega), nwA_n e (by omega), nwA_n e (by omega), nwA_n e (by omega)]
      exact h7
def nwM (M : Mem) (k i : Nat) (v : Int32) : Mem := wI (wI (wI (wI (wI (wI (wI (wI (wI (wI (wI (wI (wI (wI (wI (wI (wI (wI (wI (wI M 8 k i 0 0) 8 k i 1 0) 8 k i 2 0) 8 k i 3 0) 8 k i 4 0) 5 k i 3 0) 5 k i 4 v) 5 k i 5 v) 5 k i 6 0) 5 k i 7 0) 5 k i 8 0) 5 k i 9 0) 5 k i 10 0) 5 k i 11 0) 5 k i 12 0) 5 k i 13 (-1)) 5 k i 14 (-1)) 5 k i 15 0) 5 k i 16 (-1)) 5 k i 17 0
theorem c_start (k i : Nat) (v : Int32) : pX6_start k i v M = some ((), nwM M k i v) := by
  have st : ∀ (n j : Nat) (M : Mem), j < 5 → pX6_start_2 k i (n + 1) v (nI j) M = pX6_start_2 k i n v (nI (j + 1)) (wI M 8 k i j 0) := fun n j M hj => by
    rw [pX6_start_2, if_neg (show ¬ (5 : Int32) ≤ nI j from nI_ge (b := 5) hj (by omega)), chk_h (inB_nI hj (by omega)), cl (by omega), nm_def, nI_1]
  rw [pX6_start]
  show pX6_start_2 k i (4090 + 1 + 1 + 1 + 1 + 1 + 1) v (nI 0) M = _
  rw [st _ 0 _ (by omega), st _ 1 _ (by omega), st _ 2 _ (by omega), st _ 3 _ (by omega), st _ 4 _ (by omega), pX6_start_2, if_pos (show (5 : Int32) ≤ nI (4 + 1) from nI_le (a := 5) (by omega) (by omega))]
  simp only [nm_def, chk_h b01_0]
  rfl
theorem nw_fr {k i : Nat} {v : Int32} {kd k' i' j : Nat} (h : ¬ (k' = k ∧ i' = i ∧ (kd = 5 ∨ kd = 8))) : (nwM M k i v).1 kd k' i' j = M.1 kd k' i' j := by
  unfold nwM
  rw [wI_e, if_neg (by omega), wI_e, if_neg (by omega), wI_e, if_neg (by omega), wI_e, if_neg (by omega), wI_e, if_neg (by omega), wI_e, if_neg (by omega), wI_e, if_neg (by omega), wI_e, if_neg (by omega), wI_e, if_neg (by omega), wI_e, if_neg (by omega), wI_e, if_neg (by omega), wI_e, if_neg (by omega), wI_e, if_neg (by omega), wI_e, if_neg (by omega), wI_e, if_neg (by omega), wI_e, if_neg (by omega), wI_e, if_neg (by omega), wI_e, if_neg (by omega), wI_e, if_neg (by omega), wI_e, if_neg (by omega)]
theorem nw_vl {k i : Nat} {v : Int32} (f : Nat) (hf : okf f = true) : (nwM M k i v).1 (kdf f) k i (slf f) = nwF v f := by
  have hf18 := okf_lt hf
  have h16 : ¬ f = 16 := by simp [okf] at hf; omega
  have hc : f = 0 ∨ f = 1 ∨ f = 2 ∨ f = 3 ∨ f = 4 ∨ f = 5 ∨ f = 6 ∨ f = 7 ∨ f = 8 ∨ f = 9 ∨ f = 10 ∨ f = 11 ∨ f = 12 ∨ f = 13 ∨ f = 14 ∨ f = 15 ∨ f = 17 := by omega
  rcases hc with rfl | rfl | rfl | rfl | rfl | rfl | rfl | rfl | rfl | rfl | rfl | rfl | rfl | rfl | rfl | rfl | rfl <;> simp [nwM, wI_e, nwF, kdf, slf]
theorem c_newThread {g p : Bool} {k : Nat} {M0 : Mem} (h : C g p k M0 T A [] M) (hT : T < 10) (b : Int32) : Sat (pX3_newThread k b M) (fun o M' => o = (k, T) ∧ C g true k M0 (T + 1) (nwA T A b) [] M') := by
  rw [pX3_newThread, h.cnt4, chk_h (inB_nI hT (by omega)), cl (by omega), c_start, bnd_some, nw_fr (by omega), h.cnt4, nI_1]
  refine S_w (P := fun M' => M' = wI (nwM M k T b) 3 k 0 4 (nI (T + 1))) rfl (fun M2 h2 => ?_)
  subst h2
  rw [chk_h b01_1]
  refine S_w (P := fun M' => M' = wI (wI (nwM M k T b) 3 k 0 4 (nI (T + 1))) 3 k 0 13 1) rfl (fun M2 h2 => ?_)
  subst h2
  refine S_ret ⟨rfl, ?_⟩
  have fr : ∀ kd k' i' j, ¬ (k' = k ∧ i' = T ∧ (kd = 5 ∨ kd = 8)) → ¬ (kd = 3 ∧ k' = k ∧ (j = 4 ∨ j = 13)) → (wI (wI (nwM M k T b) 3 k 0 4 (nI (T + 1))) 3 k 0 13 1).1 kd k' i' j = M.1 kd k' i' j := fun kd k' i' j q1 q2 => by
    rw [wI_e, if_neg (by omega), wI_e, if_neg (by omega), nw_fr q1]
  obtain ⟨⟨hT2, hth, hgl, hho, hco⟩, hg, hpp, hl, hw, hs, hF⟩ := h
  refine ⟨⟨⟨by omega, nwA_2 hT⟩, fun t f ht hf => ?_, fun c hc => ?_, fun l hl => ?_, fun t j ht hj hj2 => ?_⟩, fun q t ht => ?_, fun _ q2 => ?_, ⟨hl.1, ?_, fun i c a1 a2 a3 => ?_⟩, fun l hl => ⟨?_, (hw l hl).2.1, fun i hi => ?_⟩, ⟨?_, hs.2.1, fun i hi => ?_⟩, hF.1, fun kd k' i j q => ?_⟩
  · have hk := kdf_58 f
    by_cases e : t = T
    · subst e
      rw [wI_kd (by omega), wI_kd (by omega), nw_vl f hf, nwA_s]
    · rw [fr _ _ _ _ (by omega) (by omega), nwA_n e (by omega)]
      exact hth t f (by omega) hf
  · have hk := kdg_315 c
    have h13 := slg_3 c (okg_lt hc) hc
    by_cases e : c = 2
    · subst e
      rw [nwA_2 hT]
      show (wI (wI (nwM M k T b) 3 k 0 4 (nI (T + 1))) 3 k 0 13 1).1 3 k 0 4 = _
      rw [wI_j (by omega), wI_s]
    · have h4 : ¬ (kdg c = 3 ∧ slg c = 4) := fun q => e (slg_inj c (okg_lt hc) 2 (by omega) hc rfl q.1 q.2)
      rw [fr _ _ _ _ (by omega) (fun q => by
        rcases q.2.2 with z | z
        · exact h4 ⟨q.1, z⟩
        · exact (h13 q.1).1 z), nwA_n (by omega) (by omega)]
      exact hgl c hc
  · rw [fr _ _ _ _ (by omega) (by omega), nwA_n (by omega) (by omega)]
    exact hho l hl
  · by_cases e : t = T
    · subst e
      rw [nwA_s] at hj2
      exact absurd hj2 (show ¬ j < (nwF b 1).toNatClampNeg from Nat.not_lt_zero j)
    · rw [nwA_n e (by omega)] at hj2
      rw [fr _ _ _ _ (by omega) (by omega), fr _ _ _ _ (by omega) (by omega), nwA_n (by omega) (by omega), nwA_n (by omega) (by omega)]
      exact hco t j (by omega) hj hj2
  · by_cases e : t = T
    · subst e
      rw [wI_kd (by omega), wI_kd (by omega), nwA_s]
      refine ⟨?_, ?_⟩
      · have : (nwM M k t b).1 5 k t 6 = 0 := by simp [nwM, wI_e]
        rw [this, if_pos (show nwF b 16 = -1 from rfl)]
      · exact (show ¬ (-1 : Int32) = 0 by decide)
    · rw [fr _ _ _ _ (by omega) (by omega), nwA_n e (by omega)]
      exact hg q t (by omega)
  · rw [wI_s] at q2
    exact absurd q2 (by decide)
  · intro j b1 b2; rw [fr _ _ _ _ (by omega) (by omega)]; exact hl.2.1 j b1 b2
  · rw [fr _ _ _ _ (by omega) (by omega)]; exact hl.2.2 i c a1 a2 a3
  · rw [fr _ _ _ _ (by omega) (by omega)]; exact (hw l hl).1
  · rw [fr _ _ _ _ (by omega) (by omega)]; exact (hw l hl).2.2 i hi
  · rw [fr _ _ _ _ (by omega) (by omega)]; exact hs.1
  · exact absurd hi (Nat.not_lt_zero i)
  · rw [fr _ _ _ _ (by omega) (by omega)]; exact hF.2 kd k' i j q
def stA (A : AS) (t z : Nat) (c x : Int32) : AS := up (up (up A 12 (16 * t + z) c) 13 (16 * t + z) x) t 1 (nI (z + 1))
theorem stA_e {t z : Nat} {c x : Int32} {a d : Nat} (ht : t < 10) : (stA A t z c x).1 a d = if a = t ∧ d = 1 then nI (z + 1) else if a = 12 ∧ d = 16 * t + z then c else if a = 13 ∧ d = 16 * t + z then x else A.1 a d := by
  unfold stA
  rw [up_e, up_e, up_e]
  by_cases e1 : a = t ∧ d = 1
  · rw [if_pos e1, if_pos e1]
  · rw [if_neg e1, if_neg e1]
    by_cases e2 : a = 12 ∧ d = 16 * t + z
    · rw [if_neg (by omega), if_pos e2, if_pos e2]
    · rw [if_neg e2, if_neg e2]
theorem stA_n {t z : Nat} {c x : Int32} {a d : Nat} (ht : t < 10) (h1 : ¬ (a = t ∧ d = 1)) (h2 : ¬ (a = 12 ∧ d = 16 * t + z)) (h3 : ¬ (a = 13 ∧ d = 16 * t + z)) : (stA A t z c x).1 a d = A.1 a d := by
  rw [stA_e ht, if_neg h1, if_neg h2, if_neg h3]
theorem stA_inv {ex t z : Nat} {c x : Int32} (h : Inv T ex A) (hex : ex = 10 ∨ ex = t) (ht : t < T) (h1 : A.1 t 1 = nI z) (hz : z < 16) (ho : okc c x) : Inv T 10 (stA A t z c x) := by
  have hT := h.T10
  have ht10 : t < 10 := by omega
  have r : ∀ u d, u < T → ¬ (u = t ∧ d = 1) → (stA A t z c x).1 u d = A.1 u d := fun u d hu q => stA_n ht10 q (by omega) (by omega)
  have r11 : ∀ d, (stA A t z c x).1 11 d = A.1 11 d := fun d => stA_n ht10 (by omega) (by omega) (by omega)
  have r10 : ∀ d, (stA A t z c x).1 10 d = A.1 10 d := fun d => stA_n ht10 (by omega) (by omega) (by omega)
  have r12 : ∀ d, ¬ d = 16 * t + z → (stA A t z c x).1 12 d = A.1 12 d := fun d q => stA_n ht10 (by omega) (by omega) (by omega)
  have r13 : ∀ d, ¬ d = 16 * t + z → (stA A t z c x).1 13 d = A.1 13 d := fun d q => stA_n ht10 (by omega) (by omega) (by omega)
  have s12 : (stA A t z c x).1 12 (16 * t + z) = c := by rw [stA_e ht10, if_neg (by omega), if_pos ⟨rfl, rfl⟩]
  have s13 : (stA A t z c x).1 13 (16 * t + z) = x := by rw [stA_e ht10, if_neg (by omega), if_neg (by omega), if_pos ⟨rfl, rfl⟩]
  have s1 : (stA A t z c x).1 t 1 = nI (z + 1) := by rw [stA_e ht10, if_pos ⟨rfl, rfl⟩]
  obtain ⟨i1, i2, i3, i4, i5, i6, i7⟩ := h
  refine ⟨⟨i1.1, by rw [r10]; exact i1.2⟩, fun u hu => ?_, fun u hu _ => ?_, fun l hl => by rw [r11]; exact i4 l hl, fun l hl => ⟨(i5 l hl).1, fun u => ((i5 l hl).2 u).trans ?_⟩, by rw [r10, r10, r10]; exact i6, fun u hu => ?_⟩
  · obtain ⟨a1, ⟨z', q, b1, b2, b3, b4, b5, b6⟩, a3, a4, a5, a6, a7⟩ := i2 u hu
    refine ⟨by rw [r u 0 hu (by omega)]; exact a1, ?_, by rw [r u 3 hu (by omega)]; exact a3, by rw [r u 4 hu (by omega)]; exact a4, by rw [r u 5 hu (by omega)]; exact a5, fun q => ?_, fun q => ?_⟩
    · by_cases e : u = t
      · subst e
        have ez : z' = z := nI_inj (by omega) (by omega) (b1.symm.trans h1)
        subst ez
        refine ⟨z' + 1, q, s1, by rw [r u 2 hu (by omega)]; exact b2, by omega, by omega, ?_, fun j hj => ?_⟩
        · rw [r u 17 hu (by omega)]
          rcases b5 with b5 | ⟨c1, c2, c3, c4⟩
          · exact Or.inl b5
          · right
            rw [r12 _ (by omega), r13 _ (by omega)]
            exact ⟨by omega, c2, c3, c4⟩
        · by_cases ej : j = z'
          · subst ej; rw [s12, s13]; exact ho
          · rw [r12 _ (by omega), r13 _ (by omega)]; exact b6 j (by omega)
      · refine ⟨z', q, by rw [r u 1 hu (by omega)]; exact b1, by rw [r u 2 hu (by omega)]; exact b2, b3, b4, ?_, fun j hj => ?_⟩
        · rw [r u 17 hu (by omega)]
          rcases b5 with b5 | ⟨c1, c2, c3, c4⟩
          · exact Or.inl b5
          · right
            rw [r12 _ (by omega), r13 _ (by omega)]
            exact ⟨c1, c2, c3, c4⟩
        · rw [r12 _ (by omega), r13 _ (by omega)]; exact b6 j hj
    · rw [r u 3 hu (by omega)] at q
      obtain ⟨l, v, z1, z2, z3, z4, z5⟩ := a6 q
      exact ⟨l, v, z1, by rw [r u 8 hu (by omega)]; exact z2, z3, by rw [r11]; exact z4, z5⟩
    · rw [r u 3 hu (by omega)] at q
      rw [r u 8 hu (by omega)]
      exact a7 q
  · unfold ZI
    rw [r u 3 hu (by omega), r u 2 hu (by omega)]
    by_cases e : u = t
    · subst e
      obtain ⟨z', q, b1, b2, b3, b4, -⟩ := (i2 u hu).2.1
      have ez : z' = z := nI_inj (by omega) (by omega) (b1.symm.trans h1)
      subst ez
      intro _ q2
      rw [s1, b2] at q2
      have := nI_inj (by omega) (by omega) q2
      omega
    · rw [r u 1 hu (by omega)]
      exact i3 u hu (by omega)
  · constructor
    · intro q
      exact ⟨q.1, by rw [r u 8 q.1 (by omega)]; exact q.2⟩
    · intro q
      refine ⟨q.1, ?_⟩
      have := q.2
      rw [r u 8 q.1 (by omega)] at this
      exact this
  · have h7 := i7 u hu
    unfold RI at h7 ⊢
    rw [r u 12 hu (by omega), r u 13 hu (by omega), r u 14 hu (by omega), r u 15 hu (by omega)]
    exact h7
theorem stA_pr {t z u : Nat} {c x : Int32} (hT : T ≤ 10) (ht : t < T) (hu : u < T) : pr T (stA A t z c x) u = pr T A u := by
  have ht10 : t < 10 := by omega
  refine pr_congr (stA_n ht10 (by omega) (by omega) (by omega)) ?_ (fun v hv => stA_n ht10 (by omega) (by omega) (by omega)) hu
  funext v
  unfold hop
  by_cases hv : v < T
  · have e8 : (stA A t z c x).1 v 8 = A.1 v 8 := stA_n ht10 (by omega) (by omega) (by omega)
    have e11 : ∀ y, (stA A t z c x).1 11 y = A.1 11 y := fun y => stA_n ht10 (by omega) (by omega) (by omega)
    rw [if_pos hv, if_pos hv, e8, e11]
  · rw [if_neg hv, if_neg hv]
theorem c_addStep {g p : Bool} {k : Nat} {M0 : Mem} (h : C g p k M0 T A [] M) {t z : Nat} (ht : t < T) (h1 : A.1 t 1 = nI z) (hz : z < 16) (c x : Int32) : Sat (pX6_addStep k t c x M) (fun _ M' => C g p k M0 T (stA A t z c x) [] M') := by
  have hT := h.T10
  have ht10 : t < 10 := by omega
  have r3 : M.1 5 k t 3 = nI z := (h.th ht 1 rfl).trans h1
  rw [pX6_addStep, r3, if_neg (show ¬ (16 : Int32) ≤ nI z from nI_ge (b := 16) hz (by omega)), chk_h (inB_nI hz (by omega)), cl (by omega)]
  refine S_w (P := fun M' => M' = wI M 6 k t z c) rfl (fun M2 h2 => ?_)
  subst h2
  rw [wI_kd (by omega), r3, chk_h (inB_nI hz (by omega)), cl (by omega)]
  refine S_w (P := fun M' => M' = wI (wI M 6 k t z c) 7 k t z x) rfl (fun M2 h2 => ?_)
  subst h2
  rw [wI_kd (by omega), wI_kd (by omega), r3, nI_1]
  refine S_w (P := fun M' => M' = wI (wI (wI M 6 k t z c) 7 k t z x) 5 k t 3 (nI (z + 1))) rfl (fun M2 h2 => ?_)
  subst h2
  refine S_ret ?_
  have fr : ∀ kd k' i' j, ¬ (kd = 6 ∧ k' = k ∧ i' = t ∧ j = z) → ¬ (kd = 7 ∧ k' = k ∧ i' = t ∧ j = z) → ¬ (kd = 5 ∧ k' = k ∧ i' = t ∧ j = 3) → (wI (wI (wI M 6 k t z c) 7 k t z x) 5 k t 3 (nI (z + 1))).1 kd k' i' j = M.1 kd k' i' j := fun kd k' i' j q1 q2 q3 => by
    rw [wI_e, if_neg (by omega), wI_e, if_neg (by omega), wI_e, if_neg (by omega)]
  obtain ⟨⟨hT2, hth, hgl, hho, hco⟩, hg, hpp, hl, hw, hs, hF⟩ := h
  refine ⟨⟨⟨hT2.1, by rw [stA_n ht10 (by omega) (by omega) (by omega)]; exact hT2.2⟩, fun u f hu hf => ?_, fun d hd => ?_, fun l hl => ?_, fun u j hu hj hj2 => ?_⟩, fun q u hu => ?_, fun q q2 u hu => ?_, ⟨hl.1, ?_, fun i d a1 a2 a3 => ?_⟩, fun l hl => ⟨?_, (hw l hl).2.1, fun i hi => ?_⟩, ⟨?_, hs.2.1, fun i hi => ?_⟩, ((hF.wI (by omega) (by omega)).wI (by omega) (by omega)).wI (by omega) (by omega)⟩
  · have hk := kdf_58 f
    by_cases e : u = t ∧ f = 1
    · obtain ⟨rfl, rfl⟩ := e
      rw [stA_e ht10, if_pos ⟨rfl, rfl⟩]
      exact wI_s
    · have ne : ¬ (kdf f = 5 ∧ slf f = 3 ∧ u = t) := fun q => e ⟨q.2.2, slf_inj f (okf_lt hf) 1 (by omega) hf rfl q.1 q.2.1⟩
      rw [fr _ _ _ _ (by omega) (by omega) (fun q => ne ⟨q.1, q.2.2.2, q.2.2.1⟩), stA_n ht10 e (by omega) (by omega)]
      exact hth u f hu hf
  · have hk := kdg_315 d
    rw [fr _ _ _ _ (by omega) (by omega) (by omega), stA_n ht10 (by omega) (by omega) (by omega)]
    exact hgl d hd
  · rw [fr _ _ _ _ (by omega) (by omega) (by omega), stA_n ht10 (by omega) (by omega) (by omega)]
    exact hho l hl
  · by_cases e : u = t
    · subst e
      rw [stA_e ht10, if_pos ⟨rfl, rfl⟩, cl (by omega)] at hj2
      by_cases ej : j = z
      · subst ej
        rw [stA_e ht10, if_neg (by omega), if_pos ⟨rfl, rfl⟩, stA_e ht10, if_neg (by omega), if_neg (by omega), if_pos ⟨rfl, rfl⟩]
        refine ⟨?_, ?_⟩
        · rw [wI_kd (by omega), wI_kd (by omega), wI_s]
        · rw [wI_kd (by omega), wI_s]
      · rw [fr _ _ _ _ (by omega) (by omega) (by omega), fr _ _ _ _ (by omega) (by omega) (by omega), stA_n ht10 (by omega) (by omega) (by omega), stA_n ht10 (by omega) (by omega) (by omega)]
        exact hco u j hu hj (by rw [h1, cl (by omega)]; omega)
    · rw [stA_n ht10 (by omega) (by omega) (by omega)] at hj2
      rw [fr _ _ _ _ (by omega) (by omega) (by omega), fr _ _ _ _ (by omega) (by omega) (by omega), stA_n ht10 (by omega) (by omega) (by omega), stA_n ht10 (by omega) (by omega) (by omega)]
      exact hco u j hu hj hj2
  · rw [fr _ _ _ _ (by omega) (by omega) (by omega), stA_n ht10 (by omega) (by omega) (by omega)]
    exact hg q u hu
  · rw [fr _ _ _ _ (by omega) (by omega) (by omega)] at q2
    rw [fr _ _ _ _ (by omega) (by omega) (by omega), stA_pr hT ht hu]
    exact hpp q q2 u hu
  · intro j b1 b2; rw [fr _ _ _ _ (by omega) (by omega) (by omega)]; exact hl.2.1 j b1 b2
  · rw [fr _ _ _ _ (by omega) (by omega) (by omega)]; exact hl.2.2 i d a1 a2 a3
  · rw [fr _ _ _ _ (by omega) (by omega) (by omega)]; exact (hw l hl).1
  · rw [fr _ _ _ _ (by omega) (by omega) (by omega)]; exact (hw l hl).2.2 i hi
  · rw [fr _ _ _ _ (by omega) (by omega) (by omega)]; exact hs.1
  · exact absurd hi (Nat.not_lt_zero i)
end LAW66
