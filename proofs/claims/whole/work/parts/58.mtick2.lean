/-! ===== the reference's tick ===== -/
section MT2
variable {M0 : Mem} {T : Nat} {A : AS} {M : Mem}
theorem lN_div {a b : Nat} (ha : a < 2 ^ 63) (hb : b < 2 ^ 63) : lN a / lN b = lN (a / b) := (Int64.ofNat_div ha hb).symm
theorem lN_mod {n m : Nat} (h : n < 2 ^ 63) (hm : m < 2 ^ 63) : lN n - lN n / lN m * lN m = lN (n % m) := by
  rw [lN_div h hm, lN_mul, lN_sub (Nat.div_mul_le_self n m)]
  congr 1
  have := Nat.div_add_mod n m
  rw [Nat.mul_comm] at this
  omega
theorem m_draw (h : D M0 T A [] M) {ex : Nat} (hI : Inv T ex A) : Sat (pX8_draw 1000 M) (fun o M' => o = drv A ∧ D M0 T (drw A) [] M') := by
  obtain ⟨hx1, hx2⟩ := hI.2.2.2.2.2.1.1
  have ex := nI_self hx1
  have hx3 := num_le (m := 1000002) hx1 (by omega)
  have hn := drn_lt A
  have e : ((((1103 : Int64) * (A.1 10 4).toInt64) + (12345 : Int64)) - (((1103 : Int64) * (A.1 10 4).toInt64) + (12345 : Int64)) / (1000003 : Int64) * (1000003 : Int64)).toInt32 = nI (drn A) := by
    have el : (A.1 10 4).toInt64 = lN (A.1 10 4).toNatClampNeg := by
      rw [← nI_l (by omega), ex]
    rw [el]
    show ((lN 1103 * lN _ + lN 12345) - (lN 1103 * lN _ + lN 12345) / lN 1000003 * lN 1000003).toInt32 = _
    rw [lN_mul, lN_add, lN_mod (by omega) (by decide), lN_i]
    rfl
  rw [pX8_draw, chk_h ib_4, chk_h ib_4, cl_4, show M.1 20 0 0 4 = A.1 10 4 from h.gl 4 rfl, e]
  refine S_w (h.putg (b := 4) rfl (by omega) (nI (drn A))) (fun M1 h1 => ?_)
  have r : M1.1 20 0 0 4 = nI (drn A) := (h1.gl 4 rfl).trans up_s
  rw [chk_h ib_4, chk_h (show decide (¬ (1000 : Int32) = 0) = true by decide), r]
  refine S_ret ⟨?_, h1⟩
  show nI _ - nI _ / nI 1000 * nI 1000 = nI _
  exact nI_mod (by omega) (by decide)
theorem m_duF (h : D M0 T A [] M) (hI : Inv T 10 A) (hti : (A.1 10 3).toInt < 2147483000) : ∀ (m n i : Nat) (b : Option Nat) (e : Int32), i + m = T → m < n → ((b = none ∧ e = A.1 10 3 + 1) ∨ ∃ j, b = some j ∧ j < T ∧ e = A.1 j 7 ∧ e ≤ A.1 10 3) → pX8_nextDue_4 n (onI b) (nI i) M = some (onI (duF A m i b e), M) := by
  have hT := h.T10
  have h0 := hI.2.2.2.2.2.1.2.2
  have es := i32_suc h0 (by omega)
  intro m
  induction m with
  | zero =>
    intro n i b e hi hn hb
    obtain ⟨n, rfl⟩ : ∃ n', n = n' + 1 := ⟨n - 1, by omega⟩
    rw [pX8_nextDue_4, chk_h ib_2, cl_2, h.cnt2, if_pos (nI_le (by omega) (by omega))]
    rfl
  | succ m ih =>
    intro n i b e hi hn hb
    obtain ⟨n, rfl⟩ : ∃ n', n = n' + 1 := ⟨n - 1, by omega⟩
    have k0 : ∀ w : Int32, pX8_nextDue_52 (fun v1 v2 M => pX8_nextDue_4 n v1 v2 M) (onI b) (nI i) w 0 M = pX8_nextDue_4 n (onI b) (nI (i + 1)) M := fun w => by
      rw [pX8_nextDue_52, if_pos rfl, nI_1]
    rw [pX8_nextDue_4, chk_h ib_2, cl_2, h.cnt2, if_neg (nI_ge (by omega) (by omega)), m_of h (by omega) 7 (x := 7) rfl (by omega), bnd_some, m_of h (by omega) 3 (x := 3) rfl (by omega), bnd_some, duF]
    have set_i : A.1 i 7 ≤ A.1 10 3 → pX8_nextDue_4 n (nI i) (nI i + 1) M = some (onI (duF A m (i + 1) (some i) (A.1 i 7)), M) := fun hd => by
      rw [nI_1]
      exact ih n (i + 1) (some i) _ (by omega) (by omega) (Or.inr ⟨i, rfl, by omega, rfl, hd⟩)
    by_cases e1 : A.1 i 3 = 1
    · have n1 := not_not_intro e1
      rw [if_neg n1, if_neg n1]
      by_cases e2 : A.1 i 7 = -1
      · rw [if_pos e2, if_pos e2, k0]
        exact ih n (i + 1) b e (by omega) (by omega) hb
      · rw [if_neg e2, if_neg e2, chk_h ib_3, cl_3, show M.1 20 0 0 3 = A.1 10 3 from h.gl 3 rfl]
        by_cases e3 : A.1 10 3 < A.1 i 7
        · have e4 : e ≤ A.1 i 7 := by
            rw [i32_lt] at e3
            rw [i32_le]
            rcases hb with ⟨-, q⟩ | ⟨j, -, -, -, q⟩
            · rw [q, es]; omega
            · rw [i32_le] at q; omega
          rw [if_pos e3, if_pos e4, k0]
          exact ih n (i + 1) b e (by omega) (by omega) hb
        · have hd : A.1 i 7 ≤ A.1 10 3 := by
            rw [i32_lt] at e3
            rw [i32_le]; omega
          rw [if_neg e3, pX8_nextDue_52, if_neg (by decide)]
          rcases hb with ⟨rfl, q⟩ | ⟨j, rfl, hj, q1, q2⟩
          · have e4 : ¬ e ≤ A.1 i 7 := by
              rw [i32_lt] at e3
              rw [i32_le, q, es]; omega
            rw [if_pos onI_none, if_neg e4]
            exact set_i hd
          · rw [onI_some, if_neg (m1_ne (by omega)), m_of h hj 7 (x := 7) rfl (by omega), bnd_some, ← q1]
            by_cases e4 : e ≤ A.1 i 7
            · rw [if_pos e4, if_pos e4, nI_1]
              exact ih n (i + 1) (some j) e (by omega) (by omega) (Or.inr ⟨j, rfl, hj, q1, q2⟩)
            · rw [if_neg e4, if_neg e4]
              exact set_i hd
    · rw [if_pos e1, if_pos e1, k0]
      exact ih n (i + 1) b e (by omega) (by omega) hb
theorem m_due (h : D M0 T A [] M) (hI : Inv T 10 A) (hti : (A.1 10 3).toInt < 2147483000) : pX8_nextDue M = some (onI (due T A), M) :=
  m_duF h hI hti T fu 0 none _ (by omega) (by have := h.T10; show _ < 4096; omega) (Or.inl ⟨rfl, rfl⟩)
theorem m_wbT {Q : Unit → Mem → Prop} : ∀ (m n : Nat) (A : AS) (M : Mem), pcn T A ≤ m → m < n → D M0 T A [] M → Inv T 10 A → (A.1 10 3).toInt < 2147483000 → A.2.1.length + 201 * m + 500 ≤ LIM → (∀ M', D M0 T (wbT T m A) [] M' → Sat (pX8_wakeByTime_26 fu 0 M') Q) → Sat (pX8_wakeByTime_5 n (onI (due T A)) M) Q := by
  intro m
  induction m with
  | zero =>
    intro n A M hp hn h hI hti hL K
    obtain ⟨n, rfl⟩ : ∃ n', n = n' + 1 := ⟨n - 1, by omega⟩
    have := wbT_end 0 A hI (by omega) hp
    have e : due T A = none := this
    rw [pX8_wakeByTime_5, e, if_pos onI_none]
    exact K M h
  | succ m ih =>
    intro n A M hp hn h hI hti hL K
    obtain ⟨n, rfl⟩ : ∃ n', n = n' + 1 := ⟨n - 1, by omega⟩
    have hT := hI.T10
    rw [pX8_wakeByTime_5]
    rw [wbT] at K
    cases e : due T A with
    | none =>
      rw [e] at K
      rw [if_pos onI_none]
      exact K M h
    | some t =>
      rw [e] at K
      obtain ⟨ht, h3⟩ := due_some e
      obtain ⟨-, -, c1, c2, c3, -, -, c6⟩ := cm_ok hI ht h3 (c := 2) (by omega) (by omega) (by omega)
      have hti' : ((cmb T A t 2).1 10 3).toInt < 2147483000 := by rw [c2.1 3 (by omega)]; exact hti
      rw [onI_some, if_neg (m1_ne (by omega))]
      refine S_bnd (m_come h hI ht h3 (c := 2) (by omega) (by omega) (by omega)) (fun _ M1 h1 => ?_)
      rw [m_due h1 c1 hti', bnd_some]
      refine ih n _ M1 ?_ (by omega) h1 c1 hti' (by omega) K
      have := cnt_lt (p := fun u => decide ((cmb T A t 2).1 u 3 = 1)) (q := fun u => decide (A.1 u 3 = 1)) (t := t) T (fun u hu q => by
        simp only [decide_eq_true_eq] at q ⊢
        exact (c6 u (by omega) q).1) ht (by simp only [decide_eq_true_eq]; exact h3) (by
        simp only [decide_eq_true_eq]
        exact fun q => (c6 t (by omega) q).2 rfl)
      unfold pcn at hp ⊢
      omega
theorem m_wbS : ∀ (m n i : Nat) (A : AS) (M : Mem), i + m = T → m < n → D M0 T A [] M → Inv T 10 A → ¬ A.1 10 0 ≤ 0 → A.2.1.length + 201 * m + 500 ≤ LIM → Sat (pX8_wakeByTime_26 n (nI i) M) (fun _ M' => D M0 T (wbS T m i A) [] M') := by
  intro m
  induction m with
  | zero =>
    intro n i A M hi hn h hI hs hL
    obtain ⟨n, rfl⟩ : ∃ n', n = n' + 1 := ⟨n - 1, by omega⟩
    have hT := hI.T10
    rw [pX8_wakeByTime_26, chk_h ib_2, cl_2, h.cnt2, if_pos (nI_le (by omega) (by omega))]
    exact S_ret h
  | succ m ih =>
    intro n i A M hi hn h hI hs hL
    obtain ⟨n, rfl⟩ : ∃ n', n = n' + 1 := ⟨n - 1, by omega⟩
    have hT := hI.T10
    rw [pX8_wakeByTime_26, chk_h ib_2, cl_2, h.cnt2, if_neg (nI_ge (by omega) (by omega)), chk_h ib_0, cl_0, show M.1 20 0 0 0 = A.1 10 0 from h.gl 0 rfl, if_neg hs, m_of h (by omega) 3 (x := 3) rfl (by omega), bnd_some, nI_1, wbS]
    by_cases e : A.1 i 3 = 1
    · have n1 := not_not_intro e
      rw [if_neg n1, if_neg n1]
      refine S_bnd (m_draw h hI) (fun o M1 h1 => ?_)
      obtain ⟨rfl, h1⟩ := h1
      have d1 := drw_inv hI
      have d3 : (drw A).2.1.length = A.2.1.length := rfl
      have d0 : (drw A).1 10 0 = A.1 10 0 := up_b (by omega)
      rw [chk_h ib_0, show M1.1 20 0 0 0 = A.1 10 0 from (h1.gl 0 rfl).trans d0]
      by_cases e2 : A.1 10 0 ≤ drv A
      · rw [if_pos e2, if_pos e2]
        exact ih n (i + 1) _ M1 (by omega) (by omega) h1 d1 (by rw [d0]; exact hs) (by omega)
      · rw [if_neg e2, if_neg e2]
        have e3 : (drw A).1 i 3 = 1 := (up_a (by omega)).trans e
        obtain ⟨-, -, c1, c2, c3, -⟩ := cm_ok d1 (t := i) (by omega) e3 (c := 3) (by omega) (by omega) (by omega)
        exact S_bnd (m_come h1 d1 (by omega) e3 (c := 3) (by omega) (by omega) (by omega)) (fun _ M2 h2 => ih n (i + 1) _ M2 (by omega) (by omega) h2 c1 (by rw [c2.1 0 (by omega), d0]; exact hs) (by omega))
    · rw [if_pos e, if_pos e]
      exact ih n (i + 1) A M (by omega) (by omega) h hI hs (by omega)
theorem m_wbt (h : D M0 T A [] M) (hI : Inv T 10 A) (hti : (A.1 10 3).toInt < 2147483000) (hL : A.2.1.length + 5000 ≤ LIM) : Sat (pX8_wakeByTime M) (fun _ M' => D M0 T (wbt T A) [] M') := by
  have hT := hI.T10
  rw [pX8_wakeByTime, m_due h hI hti, bnd_some]
  obtain ⟨i1, i2, i3⟩ := wbT_ok 10 A hI (by omega)
  refine m_wbT 10 fu A M (Nat.le_trans (cnt_n _ _) hT) (by decide) h hI hti (by omega) (fun M1 h1 => ?_)
  unfold wbt
  by_cases e : (wbT T 10 A).1 10 0 ≤ 0
  · rw [if_pos e]
    show Sat (pX8_wakeByTime_26 (4095 + 1) (nI 0) M1) _
    rw [pX8_wakeByTime_26, chk_h ib_2, cl_2, h1.cnt2]
    by_cases e2 : T = 0
    · rw [if_pos (nI_le (by omega) (by omega))]
      exact S_ret h1
    · rw [if_neg (nI_ge (by omega) (by omega)), chk_h ib_0, cl_0, show M1.1 20 0 0 0 = _ from h1.gl 0 rfl, if_pos e]
      exact S_ret h1
  · rw [if_neg e]
    exact m_wbS T fu 0 _ M1 (by omega) (by show _ < 4096; omega) h1 i1 e (by omega)
theorem m_ch6 (hI : Inv T 10 A) : ∀ (m n i : Nat) (b : Option Nat) (M : Mem), i + m = T → m < n → D M0 T A [] M → (∀ j, b = some j → j < T) → Sat (pX8_chosen_6 n (onI b) (pv (pr T A) b) (nI i) M) (fun o M' => o = onI (chF T A m i b) ∧ D M0 T A [] M') := by
  have hT := hI.T10
  intro m
  induction m with
  | zero =>
    intro n i b M hi hn h hb
    obtain ⟨n, rfl⟩ : ∃ n', n = n' + 1 := ⟨n - 1, by omega⟩
    rw [pX8_chosen_6, chk_h ib_2, cl_2, h.cnt2, if_pos (nI_le (by omega) (by omega))]
    exact S_ret ⟨rfl, h⟩
  | succ m ih =>
    intro n i b M hi hn h hb
    obtain ⟨n, rfl⟩ : ∃ n', n = n' + 1 := ⟨n - 1, by omega⟩
    have hge : ¬ pv (pr T A) b < (0 : Int32) := by
      rw [i32_lt, i32_0]
      cases b with
      | none => show ¬ (0 : Int32).toInt < 0; rw [i32_0]; omega
      | some j =>
        have := pr_ge (hb j rfl) (hI.base _ (hb j rfl))
        show ¬ (pr T A j).toInt < 0
        omega
    have hi' : ∀ j, some i = some j → j < T := fun j z => by cases z; omega
    rw [pX8_chosen_6, chk_h ib_2, cl_2, h.cnt2, if_neg (nI_ge (by omega) (by omega)), m_of h (by omega) 3 (x := 3) rfl (by omega), bnd_some, chF]
    by_cases e1 : A.1 i 3 = 0
    · have n1 := not_not_intro e1
      rw [if_neg n1, if_neg n1]
      refine S_bnd (m_prio h hI (by omega)) (fun o M1 h1 => ?_)
      obtain ⟨rfl, h1⟩ := h1
      have hp := pr_ge (A := A) (show i < T by omega) (hI.base _ (by omega))
      rw [pX8_chosen_34, nI_1]
      have take : Sat (pX8_chosen_6 n (nI i) (pr T A i) (nI (i + 1)) M1) (fun o M' => o = onI (chF T A m (i + 1) (some i)) ∧ D M0 T A [] M') := ih n (i + 1) (some i) M1 (by omega) (by omega) h1 hi'
      cases b with
      | none =>
        rw [if_pos (show pv (pr T A) none < pr T A i from i32_lt.mpr (by show (0 : Int32).toInt < _; rw [i32_0]; omega))]
        exact take
      | some j =>
        have hj := hb j rfl
        show Sat (if pr T A j < pr T A i then _ else _) (fun o M' => o = onI (chF T A m (i + 1) (if ahd T A i j = true then some i else some j)) ∧ D M0 T A [] M')
        have keep : Sat (pX8_chosen_6 n (nI j) (pr T A j) (nI (i + 1)) M1) (fun o M' => o = onI (chF T A m (i + 1) (some j)) ∧ D M0 T A [] M') := ih n (i + 1) (some j) M1 (by omega) (by omega) h1 hb
        have hp0 : ¬ pr T A i ≤ (0 : Int32) := by rw [i32_le, i32_0]; omega
        by_cases e2 : pr T A j < pr T A i
        · have q1 := i32_lt.mp e2
          have ea : ahd T A i j = true := by
            unfold ahd
            rw [if_neg (fun z => by rw [z] at q1; omega)]
            exact decide_eq_true (fun z => by rw [i32_le] at z; omega)
          rw [if_pos e2, if_pos ea]
          exact take
        · rw [if_neg e2, if_neg hp0]
          by_cases e3 : pr T A i = pr T A j
          · rw [if_neg (show ¬ ¬ pr T A i = pv (pr T A) (some j) from not_not_intro e3), m_of h1 (by omega) 10 (x := 10) rfl (by omega), bnd_some, onI_some, m_of h1 hj 10 (x := 10) rfl (by omega), bnd_some]
            by_cases e4 : A.1 j 10 ≤ A.1 i 10
            · have ea : ¬ ahd T A i j = true := by
                unfold ahd
                rw [if_pos e3, decide_eq_false (not_not_intro e4)]
                exact Bool.false_ne_true
              rw [if_pos e4, if_neg ea]
              exact keep
            · have ea : ahd T A i j = true := by
                unfold ahd
                rw [if_pos e3]
                exact decide_eq_true e4
              rw [if_neg e4, if_pos ea]
              exact take
          · rw [if_pos (show ¬ pr T A i = pv (pr T A) (some j) from e3)]
            have ea : ¬ ahd T A i j = true := by
              unfold ahd
              rw [if_neg e3, decide_eq_false (not_not_intro (by
                rw [i32_lt] at e2
                rw [i32_le]
                omega))]
              exact Bool.false_ne_true
            rw [if_neg ea]
            exact keep
    · rw [if_pos e1, if_pos e1, pX8_chosen_34, if_neg hge, if_pos (show (0 : Int32) ≤ 0 by decide), nI_1]
      exact ih n (i + 1) b M (by omega) (by omega) h hb
theorem m_chosen (h : D M0 T A [] M) (hI : Inv T 10 A) : Sat (pX8_chosen M) (fun o M' => o = onI (chs T A) ∧ D M0 T A [] M') :=
  m_ch6 hI T fu 0 none M (by omega) (by have := h.T10; show _ < 4096; omega) h (fun j z => (nomatch z))
/-- the greatest priorities so far, up to a thread -/
def ntp (T : Nat) (A : AS) (i : Nat) : AS := (fun a b => if a < i ∧ b = 16 then (if A.1 a 16 < pr T A a then pr T A a else A.1 a 16) else A.1 a b, A.2)
theorem ntp_e {i : Nat} (a b : Nat) (h : ¬ b = 16 ∨ i ≤ a) : (ntp T A i).1 a b = A.1 a b := by
  show (if a < i ∧ b = 16 then _ else _) = _
  rw [if_neg (by omega)]
theorem ntp_pr {i t : Nat} (hi : i ≤ T) (hT : T ≤ 10) (ht : t < T) : pr T (ntp T A i) t = pr T A t := by
  refine pr_congr (ntp_e _ _ (by omega)) ?_ (fun u hu => ntp_e _ _ (by omega)) ht
  funext u
  unfold hop
  by_cases hu : u < T
  · rw [if_pos hu, if_pos hu, ntp_e u 8 (by omega), ntp_e 11 _ (by omega)]
  · rw [if_neg hu, if_neg hu]
theorem ntp_inv {i : Nat} (hi : i ≤ T) (h : Inv T 10 A) : Inv T 10 (ntp T A i) := by
  have hT := h.T10
  exact Inv_min h (fun u b hu _ _ _ _ _ _ _ q => ntp_e _ _ (by omega)) (fun u hu => by rw [ntp_e _ _ (by omega)]; exact h.p4 u hu) (fun u hu => by rw [ntp_e _ _ (by omega)]; exact h.p5 u hu) (fun a b ha => ntp_e _ _ (by omega)) (ntp_e _ _ (by omega)) (by rw [ntp_e 10 4 (by omega), ntp_e 10 5 (by omega), ntp_e 10 3 (by omega)]; exact h.2.2.2.2.2.1) rfl (Nat.le_refl _)
theorem ntp_s {i : Nat} : up (ntp T A i) i 16 (if A.1 i 16 < pr T A i then pr T A i else A.1 i 16) = ntp T A (i + 1) := by
  refine Prod.ext ?_ rfl
  funext a b
  show (up (ntp T A i) i 16 _).1 a b = (if a < i + 1 ∧ b = 16 then _ else _)
  rw [up_e]
  by_cases e : a = i ∧ b = 16
  · obtain ⟨rfl, rfl⟩ := e
    rw [if_pos (show a = a ∧ 16 = 16 from ⟨rfl, rfl⟩), if_pos (show a < a + 1 ∧ 16 = 16 from ⟨by omega, rfl⟩)]
  · rw [if_neg e]
    show (if a < i ∧ b = 16 then _ else _) = _
    by_cases e2 : a < i ∧ b = 16
    · rw [if_pos e2, if_pos (show a < i + 1 ∧ b = 16 by omega)]
    · rw [if_neg e2, if_neg (show ¬ (a < i + 1 ∧ b = 16) by omega)]
theorem m_pt2 (hI : Inv T 10 A) {Q : Unit → Mem → Prop} (K : ∀ M', D M0 T (ntG T A) [] M' → Sat (bnd (pX8_wakeByTime M') fun o3 M2 => bnd (pX8_chosen M2) fun o5 M4 => if ¬ o5 = (-1 : Int32) then (bnd (pX8_grow o5 (9 : Int32) M4) fun o7 M6 => chk (inB (3 : Int32) 700) <| bnd (pX8_put o5 (10 : Int32) (M6.1 20 0 0 (3 : Int32).toNatClampNeg) M6) fun o10 M9 => bnd (pX8_perform o5 M9) fun o12 M11 => pX8_passTick_93    M11)
    else chk (inB (6 : Int32) 700) <| chk (inB (6 : Int32) 700) <| nm (wI M4 20 0 0 (6 : Int32).toNatClampNeg ((M4.1 20 0 0 (6 : Int32).toNatClampNeg) + (1 : Int32))) fun M14 => pX8_passTick_93    M14) Q) : ∀ (m n i : Nat) (M : Mem), i + m = T → m < n → D M0 T (ntp T A i) [] M → Sat (pX8_passTick_2 n (nI i) M) Q := by
  have hT := hI.T10
  intro m
  induction m with
  | zero =>
    intro n i M hi hn h
    obtain ⟨n, rfl⟩ : ∃ n', n = n' + 1 := ⟨n - 1, by omega⟩
    have : i = T := by omega
    subst this
    rw [pX8_passTick_2, chk_h ib_2, cl_2, h.cnt2, if_pos (nI_le (Nat.le_refl _) (by omega))]
    exact K M h
  | succ m ih =>
    intro n i M hi hn h
    obtain ⟨n, rfl⟩ : ∃ n', n = n' + 1 := ⟨n - 1, by omega⟩
    rw [pX8_passTick_2, chk_h ib_2, cl_2, h.cnt2, if_neg (nI_ge (by omega) (by omega)), m_of h (by omega) 16 (x := 16) rfl (by omega), bnd_some, nI_1]
    refine S_bnd (m_prio h (ntp_inv (by omega) hI) (by omega)) (fun o M1 h1 => ?_)
    obtain ⟨rfl, h1⟩ := h1
    rw [ntp_pr (by omega) hT (by omega), ntp_e i 16 (by omega)]
    refine S_bnd (m_put h1 (t := i) (by omega) 16 (x := 16) rfl (by omega) (by omega) _) (fun _ M2 h2 => ?_)
    rw [ntp_s] at h2
    exact ih n (i + 1) M2 (by omega) (by omega) h2
theorem m_tick (h : D M0 T A [] M) (hI : Inv T 10 A) (hti : (A.1 10 3).toInt < 2147482000) (hL : A.2.1.length + 8000 ≤ LIM) : Sat (pX8_passTick M) (fun _ M' => D M0 T (tick T A) [] M') := by
  have hT := hI.T10
  have n1 := ntG_inv hI
  have n3 : (ntG T A).2.1.length = A.2.1.length := rfl
  obtain ⟨w1, w2, w3⟩ := wbt_ok n1 (by omega)
  have e0 : ntp T A 0 = A := by
    refine Prod.ext ?_ rfl
    funext a b
    exact ntp_e _ _ (by omega)
  rw [pX8_passTick]
  refine m_pt2 hI (fun M1 h1 => ?_) T fu 0 M (by omega) (by show _ < 4096; omega) (by rw [e0]; exact h)
  refine S_bnd (m_wbt h1 n1 (by rw [ntG_e _ _ (by omega)]; omega) (by omega)) (fun _ M2 h2 => ?_)
  refine S_bnd (m_chosen h2 w1) (fun o M3 h3 => ?_)
  obtain ⟨rfl, h3⟩ := h3
  unfold tick tkB
  generalize wbt T (ntG T A) = B at h3 w1 w2 w3 ⊢
  have fin93 : ∀ (B' : AS) (M' : Mem), D M0 T B' [] M' → Sat (pX8_passTick_93 M') (fun _ M'' => D M0 T (inc B' 10 3) [] M'') := fun B' M' h' => by
    rw [pX8_passTick_93, chk_h ib_3, chk_h ib_3, cl_3, show M'.1 20 0 0 3 = _ from h'.gl 3 rfl]
    exact S_w (h'.putg (b := 3) rfl (by omega) _) (fun M1 h1 => S_ret h1)
  cases e : chs T B with
  | none =>
    rw [onI_none, if_neg (not_not_intro rfl), chk_h ib_6, chk_h ib_6, cl_6, show M3.1 20 0 0 6 = _ from h3.gl 6 rfl]
    exact S_w (h3.putg (b := 6) rfl (by omega) _) (fun M4 h4 => fin93 _ M4 h4)
  | some t =>
    obtain ⟨ht, h30⟩ := chs_some e
    rw [onI_some, if_pos (m1_ne (by omega))]
    refine S_bnd (m_grow h3 ht 9 (x := 9) rfl (by omega) (by omega)) (fun _ M4 h4 => ?_)
    rw [chk_h ib_3, cl_3, show M4.1 20 0 0 3 = B.1 10 3 from (h4.gl 3 rfl).trans (by rw [inc_e, if_neg (by omega)])]
    refine S_bnd (m_put h4 ht 10 (x := 10) rfl (by omega) (by omega) (B.1 10 3)) (fun _ M5 h5 => ?_)
    have h5 : D M0 T (pf0 B t) [] M5 := h5
    have el : (pf0 B t).2.1.length = B.2.1.length := rfl
    exact S_bnd (m_do h5 (pf0_inv w1 ht) ht ((pf0_e _ _ (by omega)).trans h30) (by omega)) (fun _ M6 h6 => fin93 _ M6 h6)
end MT2
