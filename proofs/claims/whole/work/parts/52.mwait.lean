/-! ===== the reference: who waits, in which order ===== -/
section MWAIT
variable {M0 : Mem} {T : Nat} {A : AS} {gv : List Nat} {M : Mem}
theorem m_since (u : Nat) (hu : u < 10) : pX8_of (nI u) 18 M = some (M.1 20 0 0 (38 + 20 * u), M) := by
  rw [m_ofr (f := 18) (x := 18) rfl hu (by omega), show 20 + 20 * u + 18 = 38 + 20 * u from by omega]
def Bw (M : Mem) (W : List Nat) (lst : Int32) (i : Nat) (b : Option Nat) : Prop := (∀ w, b = some w → w ∈ W ∧ lst.toInt < (M.1 20 0 0 (38 + 20 * w)).toInt ∧ w < i) ∧ ∀ u, u ∈ W → u < i → lst.toInt < (M.1 20 0 0 (38 + 20 * u)).toInt → ∃ w, b = some w ∧ (M.1 20 0 0 (38 + 20 * w)).toInt ≤ (M.1 20 0 0 (38 + 20 * u)).toInt
theorem Bw.skip {W : List Nat} {lst : Int32} {i : Nat} {b : Option Nat} (h : Bw M W lst i b) (hs : ¬ (i ∈ W ∧ lst.toInt < (M.1 20 0 0 (38 + 20 * i)).toInt)) : Bw M W lst (i + 1) b := by
  refine ⟨fun w e => ?_, fun u hu hi hl => ?_⟩
  · obtain ⟨q1, q2, q3⟩ := h.1 w e
    exact ⟨q1, q2, by omega⟩
  · by_cases e : u = i
    · subst e; exact absurd ⟨hu, hl⟩ hs
    · exact h.2 u hu (by omega) hl
theorem Bw.keep {W : List Nat} {lst : Int32} {i w0 : Nat} (h : Bw M W lst i (some w0)) (hs : (M.1 20 0 0 (38 + 20 * w0)).toInt ≤ (M.1 20 0 0 (38 + 20 * i)).toInt) : Bw M W lst (i + 1) (some w0) := by
  refine ⟨fun w e => ?_, fun u hu hi hl => ?_⟩
  · obtain ⟨q1, q2, q3⟩ := h.1 w e
    exact ⟨q1, q2, by omega⟩
  · by_cases e : u = i
    · subst e; exact ⟨w0, rfl, hs⟩
    · exact h.2 u hu (by omega) hl
theorem Bw.take {W : List Nat} {lst : Int32} {i : Nat} {b : Option Nat} (h : Bw M W lst i b) (hi : i ∈ W) (hl : lst.toInt < (M.1 20 0 0 (38 + 20 * i)).toInt) (hs : ∀ w, b = some w → (M.1 20 0 0 (38 + 20 * i)).toInt ≤ (M.1 20 0 0 (38 + 20 * w)).toInt) : Bw M W lst (i + 1) (some i) := by
  refine ⟨fun w e => ?_, fun u hu hui hul => ?_⟩
  · cases e
    exact ⟨hi, hl, by omega⟩
  · by_cases e : u = i
    · subst e; exact ⟨u, rfl, Int.le_refl _⟩
    · obtain ⟨w, q1, q2⟩ := h.2 u hu (by omega) hul
      exact ⟨i, rfl, Int.le_trans (hs w q1) q2⟩
theorem m_w20 (h : D M0 T A gv M) (hI : Inv T 10 A) {l : Nat} (hl : l < 6) (v2 v5 lst : Int32) (k8 : Int32 → Int32 → Int32 → Int32 → Int32 → Mem → Option (Int32 × Mem)) : ∀ (m n i : Nat) (b : Option Nat), i + m = T → m < n → Bw M (A.2.2 l) lst i b → ∃ b', Bw M (A.2.2 l) lst T b' ∧ pX8_waiter_20 k8 n (nI l) v2 lst (onI b) v5 (nI i) M = (match b' with
    | none => some (-1, M)
    | some w => k8 (nI l) v2 (M.1 20 0 0 (38 + 20 * w)) (nI w) (v5 + 1) M) := by
  have hT := h.T10
  intro m
  induction m with
  | zero =>
    intro n i b hi hn hB
    obtain ⟨n, rfl⟩ : ∃ n', n = n' + 1 := ⟨n - 1, by omega⟩
    have : i = T := by omega
    subst this
    refine ⟨b, hB, ?_⟩
    rw [pX8_waiter_20, chk_h ib_2, cl_2, h.cnt2, if_pos (nI_le (Nat.le_refl _) (by omega))]
    cases b with
    | none => rw [if_neg (not_not_intro onI_none)]
    | some w =>
      have := (hB.1 w rfl).2.2
      rw [onI_some, if_pos (m1_ne (by omega)), m_since w (by omega), bnd_some]
  | succ m ih =>
    intro n i b hi hn hB
    obtain ⟨n, rfl⟩ : ∃ n', n = n' + 1 := ⟨n - 1, by omega⟩
    rw [pX8_waiter_20, chk_h ib_2, cl_2, h.cnt2, if_neg (nI_ge (by omega) (by omega)), m_of h (by omega) 3 (x := 3) rfl (by omega), bnd_some]
    have k0 : ∀ v : Int32, pX8_waiter_71 k8 (fun v1 v2 v3 v4 v5 v6 M => pX8_waiter_20 k8 n v1 v2 v3 v4 v5 v6 M) (nI l) v2 lst (onI b) v5 (nI i) 0 M = pX8_waiter_20 k8 n (nI l) v2 lst (onI b) v5 (nI (i + 1)) M := fun v => by
      rw [pX8_waiter_71, if_pos rfl, nI_1]
    have mem := (hI.2.2.2.2.1 l hl).2 i
    by_cases e3 : A.1 i 3 = 2
    · have n3 := not_not_intro e3
      rw [if_neg n3, m_of h (by omega) 8 (x := 8) rfl (by omega), bnd_some]
      by_cases e8 : A.1 i 8 = nI l
      · have n8 := not_not_intro e8
        have hiW : i ∈ A.2.2 l := mem.mpr ⟨by omega, e8⟩
        rw [if_neg n8, m_since i (by omega), bnd_some]
        by_cases es : M.1 20 0 0 (38 + 20 * i) ≤ lst
        · rw [if_pos es, k0 0]
          rw [i32_le] at es
          exact ih n (i + 1) b (by omega) (by omega) (hB.skip (fun q => by omega))
        · rw [if_neg es, pX8_waiter_71, if_neg (by decide)]
          rw [i32_le] at es
          cases b with
          | none =>
            rw [if_pos onI_none, nI_1]
            exact ih n (i + 1) (some i) (by omega) (by omega) (hB.take hiW (by omega) (fun w z => (nomatch z)))
          | some w =>
            have hw := (hB.1 w rfl).2.2
            rw [onI_some, if_neg (m1_ne (by omega)), m_since i (by omega), bnd_some, m_since w (by omega), bnd_some, nI_1]
            by_cases ec : M.1 20 0 0 (38 + 20 * w) ≤ M.1 20 0 0 (38 + 20 * i)
            · rw [if_pos ec]
              rw [i32_le] at ec
              exact ih n (i + 1) (some w) (by omega) (by omega) (hB.keep ec)
            · rw [if_neg ec]
              rw [i32_le] at ec
              exact ih n (i + 1) (some i) (by omega) (by omega) (hB.take hiW (by omega) (fun w' z => by cases z; omega))
      · rw [if_pos e8, k0 0]
        exact ih n (i + 1) b (by omega) (by omega) (hB.skip (fun q => e8 (mem.mp q.1).2))
    · rw [if_pos e3, k0 0]
      exact ih n (i + 1) b (by omega) (by omega) (hB.skip (fun q => e3 (hI.wat hl q.1).2.2))
theorem getD_mem {w : List Nat} {i : Nat} (h : i < w.length) : w.getD i 0 ∈ w := by
  rw [show w.getD i 0 = w[i] from by simp [List.getD, h]]
  exact List.getElem_mem h
theorem mem_getD {w : List Nat} {x : Nat} (h : x ∈ w) : ∃ i, i < w.length ∧ w.getD i 0 = x := by
  obtain ⟨i, hi, e⟩ := List.mem_iff_getElem.mp h
  exact ⟨i, hi, by simp [List.getD, hi, e]⟩
theorem pw_getD {w : List Nat} {R : Nat → Nat → Prop} (h : w.Pairwise R) {i j : Nat} (hij : i < j) (hj : j < w.length) : R (w.getD i 0) (w.getD j 0) := by
  have := List.pairwise_iff_getElem.mp h i j (by omega) hj hij
  rw [show w.getD i 0 = w[i]'(by omega) from by simp [List.getD, show i < w.length by omega], show w.getD j 0 = w[j] from by simp [List.getD, hj]]
  exact this
theorem m_w8 (h : D M0 T A gv M) (hI : Inv T 10 A) {l x : Nat} (hl : l < 6) (hx1 : 1 ≤ x) (hx : x < 2147483000) : ∀ (m n j : Nat) (lst fd : Int32), j + m = x → m < n → j ≤ (A.2.2 l).length → ((j = 0 ∧ lst = -1) ∨ (1 ≤ j ∧ lst = M.1 20 0 0 (38 + 20 * (A.2.2 l).getD (j - 1) 0) ∧ fd = nI ((A.2.2 l).getD (j - 1) 0))) → pX8_waiter_8 n (nI l) (nI x) lst fd (nI j) M = some (wt A l (x - 1), M) := by
  have hT := h.T10
  obtain ⟨-, -, hw⟩ := h.1.2.2.2.2.2.2
  obtain ⟨hw1, hw2⟩ := hw l hl
  intro m
  induction m with
  | zero =>
    intro n j lst fd hj hn hjl hc
    obtain ⟨n, rfl⟩ : ∃ n', n = n' + 1 := ⟨n - 1, by omega⟩
    have : j = x := by omega
    subst this
    rw [pX8_waiter_8, if_pos (nI_le (Nat.le_refl _) (by omega))]
    rcases hc with hc | ⟨hc1, hc2, hc3⟩
    · omega
    · unfold wt
      rw [if_pos (by omega), hc3]
  | succ m ih =>
    intro n j lst fd hj hn hjl hc
    obtain ⟨n, rfl⟩ : ∃ n', n = n' + 1 := ⟨n - 1, by omega⟩
    rw [pX8_waiter_8, if_neg (nI_ge (by omega) (by omega))]
    have m1 : (-1 : Int32).toInt = -1 := by decide
    have lo : ∀ i, i < (A.2.2 l).length → (lst.toInt < (M.1 20 0 0 (38 + 20 * (A.2.2 l).getD i 0)).toInt ↔ j ≤ i) := by
      intro i hi
      rcases hc with ⟨hc1, hc2⟩ | ⟨hc1, hc2, -⟩
      · have := (hw1 _ (getD_mem hi)).2.1
        rw [hc2, m1]
        constructor <;> omega
      · rw [hc2]
        constructor
        · intro q
          by_cases e : j ≤ i
          · exact e
          · exfalso
            by_cases e2 : i = j - 1
            · rw [e2] at q; omega
            · have := pw_getD hw2 (i := i) (j := j - 1) (by omega) (by omega)
              omega
        · intro q
          exact pw_getD hw2 (i := j - 1) (j := i) (by omega) hi
    obtain ⟨b', hB, e⟩ := m_w20 h hI hl (nI x) (nI j) lst (fun v1 v2 v3 v4 v5 M => pX8_waiter_8 n v1 v2 v3 v4 v5 M) T fu 0 none (by omega) (by show _ < 4096; omega) ⟨fun w z => (nomatch z), fun u _ hu => by omega⟩
    have e' : pX8_waiter_20 (fun v1 v2 v3 v4 v5 M => pX8_waiter_8 n v1 v2 v3 v4 v5 M) fu (nI l) (nI x) lst (-1 : Int32) (nI j) (0 : Int32) M = _ := e
    rw [e']
    by_cases ej : j < (A.2.2 l).length
    · have hjW := getD_mem ej
      obtain ⟨w, hw0, hw3⟩ := hB.2 _ hjW (hI.wlt hl _ hjW) ((lo j ej).mpr (Nat.le_refl _))
      subst hw0
      obtain ⟨q1, q2, q3⟩ := hB.1 w rfl
      obtain ⟨i, hi, rfl⟩ := mem_getD q1
      have hji := (lo i hi).mp q2
      have hij : i = j := by
        by_cases e2 : i = j
        · exact e2
        · have := pw_getD hw2 (i := j) (j := i) (by omega) hi
          omega
      subst hij
      dsimp only
      rw [nI_1]
      exact ih n (i + 1) _ _ (by omega) (by omega) (by omega) (Or.inr ⟨by omega, rfl, rfl⟩)
    · cases b' with
      | none =>
        unfold wt
        rw [if_neg (by omega)]
      | some w =>
        exfalso
        obtain ⟨q1, q2, q3⟩ := hB.1 w rfl
        obtain ⟨i, hi, rfl⟩ := mem_getD q1
        have hji := (lo i hi).mp q2
        omega
theorem m_waiter (h : D M0 T A gv M) (hI : Inv T 10 A) {l x : Nat} (hl : l < 6) (hx1 : 1 ≤ x) (hx : x < 4000) : pX8_waiter (nI l) (nI x) M = some (wt A l (x - 1), M) := by
  rw [pX8_waiter]
  exact m_w8 h hI hl hx1 (by omega) x fu 0 (-1) (-1) (by omega) (by show _ < 4096; omega) (Nat.zero_le _) (Or.inl ⟨rfl, rfl⟩)
end MWAIT
