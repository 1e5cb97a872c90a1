/-! ===== the reference: acts ===== -/
section MACT
variable {M0 : Mem} {T : Nat} {A : AS} {M : Mem}
/-- from an end told to all ends -/
theorem m_fin {t : Nat} (h : D M0 T (mk T A (ps A t [])) (ps A t []) M) (hI : Inv T t A) (ht : t < T) (h3 : ¬ A.1 t 3 = 2) (hL : A.2.1.length + 300 ≤ LIM) : Sat (pX8_settle M) (fun _ M' => D M0 T (fin T A (ps A t [])) [] M') := by
  obtain ⟨s1, s2, -⟩ := fin_ok hI ht h3
  exact m_settle h s1 (by omega)
theorem m_come (h : D M0 T A [] M) (hI : Inv T 10 A) {t c : Nat} (ht : t < T) (hst : A.1 t 3 = 1) (hc : 1 ≤ c) (hc4 : c ≤ 4) (hL : A.2.1.length + 400 ≤ LIM) : Sat (pX8_comeBack (nI t) (nI c) M) (fun _ M' => D M0 T (cmb T A t c) [] M') := by
  have hT := h.T10
  rw [pX8_comeBack]
  refine S_bnd (m_put h ht 3 (x := 3) rfl (by omega) (by omega) 0) (fun _ M1 h1 => ?_)
  refine S_bnd (m_put h1 ht 7 (x := 7) rfl (by omega) (by omega) (-1)) (fun _ M2 h2 => ?_)
  refine S_bnd (m_put h2 ht 6 (x := 6) rfl (by omega) (by omega) (nI c)) (fun _ M3 h3 => ?_)
  refine S_bnd (m_grow h3 ht (11 + c) (x := (11 : Int32) + nI c) (nI_add 11 c).symm (by omega) (by omega)) (fun _ M4 h4 => ?_)
  refine S_bnd (m_note h4 (by show A.2.1.length < LIM; omega) 1 (nI t) (nI c)) (fun _ M5 h5 => ?_)
  have h5 : D M0 T (cmA A t c) [] M5 := h5
  have c3 := cmA_3 (A := A) (t := t) hc
  refine S_bnd (m_end h5 ht c3 (fun v hv => (nomatch hv)) (Or.inl (by decide)) (by show A.2.1.length + 1 < LIM; omega)) (fun _ M6 h6 => ?_)
  exact S_bnd (m_fin h6 (cmA_inv hI ht hst hc hc4 (by omega)) ht (by rw [c3]; decide) (by show A.2.1.length + 1 + 300 ≤ LIM; omega)) (fun _ M7 h7 => S_ret h7)
theorem m_finish (h : D M0 T A [] M) {t : Nat} (hI : Inv T t (goB A t)) (ht : t < T) (h3 : A.1 t 3 = 0) (hL : A.2.1.length + 400 ≤ LIM) : Sat (pX8_finish (nI t) M) (fun _ M' => D M0 T (fsh T A t) [] M') := by
  have hT := h.T10
  have g3 : (goB A t).1 t 3 = 0 := by rw [goB_e, if_pos rfl, if_neg (by omega), if_neg (by omega)]; exact h3
  rw [pX8_finish]
  refine S_bnd (m_goOn h ht h3 (fun v hv => (nomatch hv)) (Or.inl (by decide)) (by omega)) (fun _ M1 h1 => ?_)
  exact S_bnd (m_fin h1 hI ht (by rw [g3]; decide) (by show A.2.1.length + 300 ≤ LIM; omega)) (fun _ M2 h2 => S_ret h2)
theorem m_park (h : D M0 T A [] M) {t : Nat} (ht : t < T) (h4 : A.1 t 4 = 0 ∨ A.1 t 4 = 1) (h5 : A.1 t 5 = 0 ∨ A.1 t 5 = 1) (d : Int32) (hL : A.2.1.length < LIM) : Sat (pX8_park (nI t) d M) (fun _ M' => D M0 T (pk A t d) [] M') := by
  have hT := h.T10
  rw [pX8_park, m_of h ht 5 (x := 5) rfl (by omega), bnd_some]
  unfold pk
  by_cases e5 : A.1 t 5 = 0
  · rw [if_pos (show ¬ A.1 t 5 = 1 by rw [e5]; decide), if_pos e5, m_of h ht 4 (x := 4) rfl (by omega), bnd_some]
    by_cases e4 : A.1 t 4 = 0
    · rw [if_pos (show ¬ A.1 t 4 = 1 by rw [e4]; decide), if_pos e4]
      refine S_bnd (m_put h ht 3 (x := 3) rfl (by omega) (by omega) 1) (fun _ M1 h1 => ?_)
      refine S_bnd (m_put h1 ht 7 (x := 7) rfl (by omega) (by omega) d) (fun _ M2 h2 => ?_)
      refine S_bnd (m_grow h2 ht 11 (x := 11) rfl (by omega) (by omega)) (fun _ M3 h3 => ?_)
      exact S_bnd (m_note h3 hL 0 (nI t) d) (fun _ M4 h4 => S_ret h4)
    · have q4 : A.1 t 4 = 1 := by rcases h4 with z | z; exact absurd z e4; exact z
      rw [if_neg (not_not_intro q4), if_neg e4]
      refine S_bnd (m_put h ht 4 (x := 4) rfl (by omega) (by omega) 0) (fun _ M1 h1 => ?_)
      exact S_bnd (m_put h1 ht 6 (x := 6) rfl (by omega) (by omega) 1) (fun _ M2 h2 => S_ret h2)
  · have q5 : A.1 t 5 = 1 := by rcases h5 with z | z; exact absurd z e5; exact z
    rw [if_neg (not_not_intro q5), if_neg e5]
    refine S_bnd (m_put h ht 5 (x := 5) rfl (by omega) (by omega) 0) (fun _ M1 h1 => ?_)
    exact S_bnd (m_put h1 ht 6 (x := 6) rfl (by omega) (by omega) 4) (fun _ M2 h2 => S_ret h2)
theorem st_lt (h : A.1 0 0 = A.1 0 0) {v : Int32} (hv : v = 0 ∨ v = 1 ∨ v = 2 ∨ v = 3 ∨ v = 4) : v < (3 : Int32) ↔ ¬ (v = 3 ∨ v = 4) := by
  rcases hv with rfl | rfl | rfl | rfl | rfl <;> decide
theorem Inv.st {ex t : Nat} (h : Inv T ex A) (ht : t < T) : A.1 t 3 = 0 ∨ A.1 t 3 = 1 ∨ A.1 t 3 = 2 ∨ A.1 t 3 = 3 ∨ A.1 t 3 = 4 := (h.2.1 t ht).2.2.1
theorem m_wake (h : D M0 T A [] M) (hI : Inv T 10 A) {t : Nat} (ht : t < T) (w : Int32) (hL : A.2.1.length + 400 ≤ LIM) : Sat (pX8_wakeUp (nI t) w M) (fun o M' => o = wkR A t ∧ D M0 T (fin T (wkA A t w) (wkS A t)) [] M') := by
  have hT := h.T10
  rw [pX8_wakeUp, m_of h ht 3 (x := 3) rfl (by omega), bnd_some]
  unfold wkA wkS wkR
  by_cases e : A.1 t 3 = 1
  · rw [if_neg (not_not_intro e), if_pos e, if_pos e, if_pos e]
    exact S_bnd (m_come h hI ht e (c := 1) (by omega) (by omega) hL) (fun _ M1 h1 => S_ret ⟨rfl, h1⟩)
  · rw [if_pos e, if_neg e, if_neg e, if_neg e, m_of h ht 3 (x := 3) rfl (by omega), bnd_some]
    have sl := st_lt (A := A) rfl (hI.st ht)
    by_cases e2 : A.1 t 3 = 3 ∨ A.1 t 3 = 4
    · rw [if_pos e2, if_pos e2, if_neg (fun q => sl.mp q e2), chk_h ib_9, chk_h ib_9, cl_9, show M.1 20 0 0 9 = A.1 10 9 from h.gl 9 rfl]
      exact S_w (h.putg (b := 9) rfl (by omega) _) (fun M1 h1 => S_ret ⟨rfl, h1⟩)
    · rw [if_neg e2, if_neg e2, if_pos (sl.mpr e2), m_of h ht 4 (x := 4) rfl (by omega), bnd_some]
      by_cases e4 : A.1 t 4 = 0
      · rw [if_pos e4, if_pos e4, if_pos (show ¬ A.1 t 4 = 1 by rw [e4]; decide)]
        exact S_bnd (m_put h ht 4 (x := 4) rfl (by omega) (by omega) 1) (fun _ M1 h1 => S_ret ⟨rfl, h1⟩)
      · have q4 : A.1 t 4 = 1 := by rcases hI.p4 t ht with z | z; exact absurd z e4; exact z
        rw [if_neg e4, if_neg e4, if_neg (not_not_intro q4), chk_h ib_8, chk_h ib_8, cl_8, show M.1 20 0 0 8 = A.1 10 8 from h.gl 8 rfl]
        refine S_w (h.putg (b := 8) rfl (by omega) _) (fun M1 h1 => ?_)
        exact S_bnd (m_note h1 (by show A.2.1.length < LIM; omega) 7 (nI t) w) (fun _ M2 h2 => S_ret ⟨rfl, h2⟩)
theorem m_isOn (h : D M0 T A [] M) (f : Nat) : pX8_isOn (nI f) M = some ((if onF A f = true then 1 else 0), M) := by
  rw [pX8_isOn, chk_h ib_5, cl_5, show M.1 20 0 0 5 = A.1 10 5 from h.gl 5 rfl, chk_h b01_0, chk_h b01_1]
  unfold onF
  by_cases e : (((A.1 10 5) >>> (nI f &&& 31)) &&& (1 : Int32)) = 1
  · rw [if_neg (not_not_intro e), if_pos (by simpa using e)]
  · rw [if_pos e, if_neg (by simpa using e)]
theorem flg_2 : ((List.range 256).all fun n => (List.range 8).all fun f =>
    if ((nI n >>> (nI f &&& 31)) &&& (1 : Int32)) = 1 then decide ((nI n ||| ((1 : Int32) <<< (nI f &&& 31))) = nI n) && decide ((nI n &&& (((1 : Int32) <<< (nI f &&& 31)) ^^^ (-1 : Int32))) = nI n + (-((1 : Int32) <<< (nI f &&& 31))))
    else decide ((nI n ||| ((1 : Int32) <<< (nI f &&& 31))) = nI n + ((1 : Int32) <<< (nI f &&& 31))) && decide ((nI n &&& (((1 : Int32) <<< (nI f &&& 31)) ^^^ (-1 : Int32))) = nI n)) = true := by decide +kernel
theorem m_turn (h : D M0 T A [] M) {ex : Nat} (hI : Inv T ex A) {f : Nat} (hf : f < 8) (b : Bool) : Sat (pX8_turnFlag (nI f) (if b = true then 1 else 0) M) (fun _ M' => D M0 T (stF A f b) [] M') := by
  obtain ⟨-, ⟨n, hn, e5⟩, -⟩ := hI.2.2.2.2.2.1
  have := List.all_eq_true.mp (List.all_eq_true.mp flg_2 n (List.mem_range.mpr hn)) f (List.mem_range.mpr hf)
  have g5 : M.1 20 0 0 5 = nI n := (h.gl 5 rfl).trans e5
  rw [pX8_turnFlag, m_isOn h, bnd_some, chk_h ib_5, cl_5, g5]
  unfold stF onF
  rw [e5]
  by_cases e : ((nI n >>> (nI f &&& 31)) &&& (1 : Int32)) = 1
  · rw [if_pos e] at this
    simp only [Bool.and_eq_true, decide_eq_true_eq] at this
    rw [show (if decide (((nI n >>> (nI f &&& 31)) &&& (1 : Int32)) = 1) = true then (1 : Int32) else 0) = 1 from if_pos (decide_eq_true e)]
    cases b with
    | true =>
      show Sat (if (1 : Int32) = 1 then _ else _) (fun _ M' => D M0 T (up A 10 5 (nI n ||| ((1 : Int32) <<< (nI f &&& 31)))) [] M')
      rw [if_pos rfl, this.1, up_self e5]
      exact S_ret h
    | false =>
      show Sat (if (1 : Int32) = 0 then _ else if (0 : Int32) = 0 then _ else _) (fun _ M' => D M0 T (up A 10 5 (nI n &&& (((1 : Int32) <<< (nI f &&& 31)) ^^^ (-1 : Int32)))) [] M')
      rw [if_neg (by decide), if_pos rfl, chk_h ib_5, this.2]
      exact S_w (h.putg (b := 5) rfl (by omega) _) (fun M1 h1 => S_ret h1)
  · rw [if_neg e] at this
    simp only [Bool.and_eq_true, decide_eq_true_eq] at this
    rw [show (if decide (((nI n >>> (nI f &&& 31)) &&& (1 : Int32)) = 1) = true then (1 : Int32) else 0) = 0 from if_neg (by simpa using e)]
    cases b with
    | true =>
      show Sat (if (0 : Int32) = 1 then _ else if (1 : Int32) = 0 then _ else _) (fun _ M' => D M0 T (up A 10 5 (nI n ||| ((1 : Int32) <<< (nI f &&& 31)))) [] M')
      rw [if_neg (by decide), if_neg (by decide), chk_h ib_5, this.1]
      exact S_w (h.putg (b := 5) rfl (by omega) _) (fun M1 h1 => S_ret h1)
    | false =>
      show Sat (if (0 : Int32) = 0 then _ else _) (fun _ M' => D M0 T (up A 10 5 (nI n &&& (((1 : Int32) <<< (nI f &&& 31)) ^^^ (-1 : Int32)))) [] M')
      rw [if_pos rfl, this.2, up_self e5]
      exact S_ret h
theorem m_fault (h : D M0 T A [] M) {t : Nat} (ht : t < T) (hL : A.2.1.length < LIM) : Sat (pX8_fault (nI t) M) (fun _ M' => D M0 T (flA A t) [] M') := by
  have hT := h.T10
  rw [pX8_fault]
  refine S_bnd (m_put h ht 3 (x := 3) rfl (by omega) (by omega) 4) (fun _ M1 h1 => ?_)
  rw [m_of h1 ht 2 (x := 2) rfl (by omega), bnd_some, up_b (by omega)]
  exact S_bnd (m_note h1 hL 6 (nI t) (A.1 t 2)) (fun _ M2 h2 => S_ret h2)
end MACT
