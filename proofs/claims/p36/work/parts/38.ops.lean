/-! ===== what threads do: states ===== -/
def cmA (A : AS) (t c : Nat) : AS := note (inc (up (up (up A t 3 0) t 7 (-1)) t 6 (nI c)) t (11 + c)) 1 (nI t) (nI c)
def cmb (T : Nat) (A : AS) (t c : Nat) : AS := fin T (cmA A t c) (ps (cmA A t c) t [])
def fsh (T : Nat) (A : AS) (t : Nat) : AS := fin T (goB A t) (ps (goB A t) t [])
def pk (A : AS) (t : Nat) (d : Int32) : AS := if A.1 t 5 = 0 then (if A.1 t 4 = 0 then note (inc (up (up A t 3 1) t 7 d) t 11) 0 (nI t) d else up (up A t 4 0) t 6 1) else up (up A t 5 0) t 6 4
def wkA (A : AS) (t : Nat) (w : Int32) : AS := if A.1 t 3 = 1 then cmA A t 1 else if A.1 t 3 = 3 ∨ A.1 t 3 = 4 then inc A 10 9 else if A.1 t 4 = 0 then up A t 4 1 else note (inc A 10 8) 7 (nI t) w
def wkS (A : AS) (t : Nat) : List Nat := if A.1 t 3 = 1 then ps (cmA A t 1) t [] else []
def wkR (A : AS) (t : Nat) : Int32 := if A.1 t 3 = 1 then 0 else if A.1 t 3 = 3 ∨ A.1 t 3 = 4 then 3 else if A.1 t 4 = 0 then 1 else 2
def dsA (A : AS) (t : Nat) : AS := if A.1 t 3 = 1 then cmA A t 4 else if A.1 t 3 = 3 ∨ A.1 t 3 = 4 then A else if A.1 t 5 = 0 then up A t 5 1 else A
def dsS (A : AS) (t : Nat) : List Nat := if A.1 t 3 = 1 then ps (cmA A t 4) t [] else []
def dsR (A : AS) (t : Nat) : Int32 := if A.1 t 3 = 1 then 0 else if A.1 t 3 = 3 ∨ A.1 t 3 = 4 then 3 else if A.1 t 5 = 0 then 1 else 2
def tl0 (A : AS) (t x : Nat) : AS := note (inc (up A t 6 0) 10 11) 9 (nI t) (nI x)
def tlA (T : Nat) (A : AS) (t x : Nat) : AS := if A.1 t 6 = 1 then (if x < T then wkA (tl0 A t x) x (nI t) else up A t 6 0) else A
def tlS (T : Nat) (A : AS) (t x : Nat) : List Nat := if A.1 t 6 = 1 then (if x < T then wkS (tl0 A t x) x else []) else []
def slA (T : Nat) (A : AS) (t x : Nat) : AS := if T ≤ x then A else if x = t then A else if A.1 x 4 = 0 then A else note (inc (up (up A x 4 0) t 4 1) 10 10) 8 (nI t) (nI x)
def flA (A : AS) (t : Nat) : AS := note (up A t 3 4) 6 (nI t) (A.1 t 2)
def lkA (A : AS) (t l : Nat) : AS := if A.1 11 l = -1 then note (up A 11 l (nI t)) 3 (nI t) (nI l) else if A.1 11 l = nI t then flA A t else note (adW (up (up A t 3 2) t 8 (nI l)) l t) 2 (nI t) (nI l)
def onF (A : AS) (f : Nat) : Bool := decide ((((A.1 10 5) >>> (nI f &&& 31)) &&& (1 : Int32)) = 1)
def stF (A : AS) (f : Nat) (b : Bool) : AS := up A 10 5 (if b = true then A.1 10 5 ||| ((1 : Int32) <<< (nI f &&& 31)) else A.1 10 5 &&& (((1 : Int32) <<< (nI f &&& 31)) ^^^ (-1 : Int32)))
def pfm (T : Nat) (A : AS) (t c : Nat) (x : Int32) : (AS × List Nat) × Bool := match c with
  | 0 => ((inc A t 17, []), decide (¬ (A.1 t 17 + 1 < x)))
  | 1 => ((pk A t (-1), []), true)
  | 2 => ((pk A t (A.1 10 3 + x), []), true)
  | 3 => if onF A x.toNatClampNeg = true then ((A, []), true) else ((pk A t (-1), []), false)
  | 4 => ((stF A x.toNatClampNeg true, []), true)
  | 5 => ((stF A x.toNatClampNeg false, []), true)
  | 6 => if x.toNatClampNeg < T then ((wkA A x.toNatClampNeg (nI t), wkS A x.toNatClampNeg), true) else ((A, []), true)
  | 7 => ((tlA T A t x.toNatClampNeg, tlS T A t x.toNatClampNeg), true)
  | 8 => ((slA T A t x.toNatClampNeg, []), true)
  | 9 => ((lkA A t x.toNatClampNeg, []), decide (A.1 11 x.toNatClampNeg = -1))
  | _ => if A.1 11 x.toNatClampNeg = nI t then ((gv1 T A t x.toNatClampNeg, gvk T A t x.toNatClampNeg []), true) else ((flA A t, []), false)
def pf0 (A : AS) (t : Nat) : AS := up (inc A t 9) t 10 (A.1 10 3)
def pfx (T : Nat) (A : AS) (t : Nat) : (AS × List Nat) × Bool := pfm T A t (A.1 12 (16 * t + (A.1 t 2).toNatClampNeg)).toNatClampNeg (A.1 13 (16 * t + (A.1 t 2).toNatClampNeg))
def pfA (T : Nat) (A : AS) (t : Nat) : AS := if (pfx T A t).2 = true then fsh T (fin T (pfx T A t).1.1 (pfx T A t).1.2) t else fin T (pfx T A t).1.1 (pfx T A t).1.2
/-! what ends of one thread keep -/
def Fo (T t : Nat) (B A' : AS) : Prop := Inv T 10 A' ∧ A'.2.1.length ≤ B.2.1.length + 200 ∧ B.2.1.length ≤ A'.2.1.length ∧ (∀ a b, 10 ≤ a → ¬ a = 11 → A'.1 a b = B.1 a b) ∧ (∀ u b, ¬ b = 2 → ¬ b = 3 → ¬ b = 8 → ¬ b = 17 → u < 10 → A'.1 u b = B.1 u b) ∧ (∀ u b, u < 10 → ¬ (u = t ∧ b = 3) → ¬ B.1 u 3 = 2 → A'.1 u b = B.1 u b) ∧ (A'.1 t 3 = B.1 t 3 ∨ (B.1 t 3 = 0 ∧ A'.1 t 3 = 3)) ∧ (∀ u, u < 10 → A'.1 u 3 = 1 → B.1 u 3 = 1)
theorem i32_suc {x : Int32} (h0 : 0 ≤ x.toInt) (h1 : x.toInt < 2147483640) : (x + 1).toInt = x.toInt + 1 := by
  obtain ⟨j, hj, rfl⟩ := nI_of (x := x) (by rw [i32_lt]; have : (0 : Int32).toInt = 0 := by decide
                                            omega)
  rw [nI_toInt hj] at h1
  rw [nI_1, nI_toInt hj, nI_toInt (by omega)]
  omega
theorem fin_ok {T t : Nat} {B : AS} (h : Inv T t B) (ht : t < T) (h3 : ¬ B.1 t 3 = 2) : SI T (mk T B (ps B t [])) (ps B t []) ∧ (mk T B (ps B t [])).2.1.length ≤ B.2.1.length + 1 ∧ Fo T t B (fin T B (ps B t [])) := by
  have hT := h.T10
  obtain ⟨m1, m2, m3, m4, m5, m6, m7, m8⟩ := mk_ps (stk := []) h ht h3 (fun v hv => (nomatch hv))
  have hS : SI T (mk T B (ps B t [])) (ps B t []) := by
    refine ⟨m1, m4, ?_⟩
    by_cases e : ps B t [] = []
    · rw [e]
      have := cnt_n (fun u => decide ((mk T B []).1 u 3 = 2)) T
      unfold bl
      simp only [List.length_nil]
      omega
    · have e2 : t ∈ ps B t [] := by
        unfold ps at e ⊢
        split
        · exact List.mem_cons_self
        · rename_i q; rw [if_neg q] at e; exact absurd rfl e
      have q3 := (m4 t e2).2
      have a := cnt_lt (p := fun u => decide ((mk T B (ps B t [])).1 u 3 = 2)) (q := fun _ => true) (t := t) T (fun _ _ _ => rfl) ht rfl (by simp only [decide_eq_true_eq]; rw [q3]; decide)
      have b := cnt_n (fun _ => true) T
      unfold bl
      have : (ps B t []).length ≤ 0 + 1 := m8
      omega
  refine ⟨hS, m7, ?_⟩
  obtain ⟨s1, s2, s3, s4, s5, s6, s7⟩ := stl_ok 64 (ps B t []) (mk T B (ps B t [])) hS (by have := si_mes hS; omega)
  have b3 : ∀ u, ¬ B.1 u 3 = 2 → ¬ (mk T B (ps B t [])).1 u 3 = 2 := fun u q => by
    by_cases e : u = t
    · subst e
      rcases m3 with z | z
      · rw [z]; exact q
      · rw [z.2]; decide
    · rw [m2 _ _ (fun z => e z.1)]; exact q
  refine ⟨s1, by unfold fin; omega, by unfold fin; omega, fun a b q1 q2 => (s4 a b q1 q2).trans (m2 _ _ (by omega)), fun u b q1 q2 q3 q4 q5 => (s5 u b q1 q2 q3 q4 q5).trans (m2 _ _ (by omega)), fun u b q1 q2 q3 => (s6 u b q1 (b3 u q3)).trans (m2 _ _ q2), ?_, fun u q1 q2 => ?_⟩
  · have := s6 t 3 (by omega) (b3 t h3)
    rcases m3 with z | z
    · left; exact this.trans z
    · right; exact ⟨z.1, this.trans z.2⟩
  · have q := s7 u q1 q2
    by_cases e : u = t
    · subst e
      rcases m3 with z | z
      · rw [← z]; exact q
      · rw [z.2] at q; exact absurd q (by decide)
    · rw [m2 _ _ (fun z => e z.1)] at q; exact q
/-- the row of the thread that comes back -/
theorem cmA_e {A : AS} {t c : Nat} (hc : 1 ≤ c) (a b : Nat) : (cmA A t c).1 a b = if a = t then (if b = 11 + c then A.1 t (11 + c) + 1 else if b = 6 then nI c else if b = 7 then -1 else if b = 3 then 0 else A.1 t b) else A.1 a b := by
  unfold cmA
  rw [note_1, inc_e]
  simp only [up_e]
  by_cases ea : a = t
  · subst ea
    have : ¬ 11 + c = 6 := by omega
    have : ¬ 11 + c = 7 := by omega
    have : ¬ 11 + c = 3 := by omega
    simp [*]
  · simp [ea]
theorem cmA_inv {T t c : Nat} {A : AS} (h : Inv T 10 A) (ht : t < T) (h3 : A.1 t 3 = 1) (hc : 1 ≤ c) (hc4 : c ≤ 4) (hL : A.2.1.length ≤ LIM) : Inv T t (cmA A t c) := by
  have hT := h.T10
  rw [LIM_eq] at hL
  have r := cmA_e (A := A) (t := t) hc
  have rn : ∀ a b, ¬ a = t → (cmA A t c).1 a b = A.1 a b := fun a b q => by rw [r, if_neg q]
  have rt : ∀ b, ¬ b = 3 → ¬ b = 6 → ¬ b = 7 → b < 12 ∨ 16 ≤ b → (cmA A t c).1 t b = A.1 t b := fun b q1 q2 q3 q4 => by
    rw [r, if_pos rfl, if_neg (by omega), if_neg q2, if_neg q3, if_neg q1]
  obtain ⟨a1, ⟨z, q, b1, b2, b3, b4, b5, b6⟩, a3, a4, a5, a6, a7⟩ := h.2.1 t ht
  have hr := h.2.2.2.2.2.2 t ht
  refine h.thr (Or.inl rfl) (fun v b q1 q2 => rn v b q1) (rn _ _ (by omega)) (rn _ _ (by omega)) (rn _ _ (by omega)) (rn _ _ (by omega)) rfl (Nat.le_succ _) ht (rt _ (by omega) (by omega) (by omega) (by omega)) ?_ t (Or.inr rfl) (fun e => absurd rfl e) ?_
  · refine ⟨?_, ⟨z, q, ?_, ?_, b3, b4, ?_, fun j hj => ?_⟩, ?_, ?_, ?_, fun z => ?_, fun _ => ?_⟩
    · rw [rt _ (by omega) (by omega) (by omega) (by omega)]; exact a1
    · rw [rt _ (by omega) (by omega) (by omega) (by omega)]; exact b1
    · rw [rt _ (by omega) (by omega) (by omega) (by omega)]; exact b2
    · rw [rt _ (by omega) (by omega) (by omega) (by omega), rn _ _ (by omega), rn _ _ (by omega)]; exact b5
    · rw [rn _ _ (by omega), rn _ _ (by omega)]; exact b6 j hj
    · left; rw [r, if_pos rfl, if_neg (by omega)]; simp
    · rw [rt _ (by omega) (by omega) (by omega) (by omega)]; exact a4
    · rw [rt _ (by omega) (by omega) (by omega) (by omega)]; exact a5
    · rw [r, if_pos rfl, if_neg (by omega)] at z
      simp at z
    · rw [rt _ (by omega) (by omega) (by omega) (by omega)]; exact a7 (by rw [h3]; decide)
  · have e : (cmA A t c).2.1.length = A.2.1.length + 1 := rfl
    unfold RI at hr ⊢
    rw [e]
    have hcc : c = 1 ∨ c = 2 ∨ c = 3 ∨ c = 4 := by omega
    rcases hcc with rfl | rfl | rfl | rfl
    · have := i32_suc hr.1 (by omega)
      simp only [r, if_true]
      simp [-Int32.toInt_add]
      omega
    · have := i32_suc hr.2.1 (by omega)
      simp only [r, if_true]
      simp [-Int32.toInt_add]
      omega
    · have := i32_suc hr.2.2.1 (by omega)
      simp only [r, if_true]
      simp [-Int32.toInt_add]
      omega
    · have := i32_suc hr.2.2.2.1 (by omega)
      simp only [r, if_true]
      simp [-Int32.toInt_add]
      omega
theorem cmA_3 {A : AS} {t c : Nat} (hc : 1 ≤ c) : (cmA A t c).1 t 3 = 0 := by
  rw [cmA_e hc, if_pos rfl, if_neg (by omega)]
  simp
section COPS
variable {g p : Bool} {k : Nat} {M0 : Mem} {T : Nat} {A : AS} {stk : List Nat} {M : Mem}
theorem C.putr (h : C g p k M0 T A stk M) {t c : Nat} (ht : t < T) (hc : 1 ≤ c) (hc4 : c ≤ 4) : C g p k M0 T (inc A t (11 + c)) stk (wI M 8 k t c (M.1 8 k t c + 1)) := by
  have hcc : c = 1 ∨ c = 2 ∨ c = 3 ∨ c = 4 := by omega
  rcases hcc with rfl | rfl | rfl | rfl
  · have r : M.1 8 k t 1 = A.1 t 12 := h.th ht 12 rfl
    rw [r]; exact h.put (f := 12) ht rfl _
  · have r : M.1 8 k t 2 = A.1 t 13 := h.th ht 13 rfl
    rw [r]; exact h.put (f := 13) ht rfl _
  · have r : M.1 8 k t 3 = A.1 t 14 := h.th ht 14 rfl
    rw [r]; exact h.put (f := 14) ht rfl _
  · have r : M.1 8 k t 4 = A.1 t 15 := h.th ht 15 rfl
    rw [r]; exact h.put (f := 15) ht rfl _
theorem c_come (h : C g p k M0 T A [] M) (hI : Inv T 10 A) {t c : Nat} (ht : t < T) (hc : 1 ≤ c) (hc4 : c ≤ 4) (hL : A.2.1.length < LIM) : Sat (pX3_comeBack k (nI t) (nI c) M) (fun _ M' => C g p k M0 T (cmA A t c) (ps (cmA A t c) t []) M') := by
  have hT := hI.T10
  obtain ⟨a1, ⟨z, q, b1, b2, b3, b4, b5, b6⟩, a3, a4, a5, a6, a7⟩ := hI.2.1 t ht
  rw [pX3_comeBack, chk_h (inB_nI (by omega) (by omega)), cl (by omega)]
  refine S_w (h.put (f := 3) ht rfl 0) (fun M1 h1 => ?_)
  refine S_w (h1.put (f := 7) ht rfl (-1)) (fun M2 h2 => ?_)
  refine S_w (h2.put (f := 6) ht rfl (nI c)) (fun M3 h3 => ?_)
  rw [chk_h (inB_nI (by omega) (by omega)), chk_h (inB_nI (by omega) (by omega)), cl (by omega)]
  refine S_w (h3.putr ht hc hc4) (fun M4 h4 => ?_)
  refine S_bnd (c_add h4 hL 1 (nI t) (nI c)) (fun _ M5 h5 => ?_)
  refine S_bnd (c_end (A := cmA A t c) h5 ht (q := q) (z := z) ?_ ?_ b3 b4 (by decide)) (fun _ M6 h6 => S_ret h6)
  · rw [cmA_e hc, if_pos rfl, if_neg (by omega)]; simpa using b1
  · rw [cmA_e hc, if_pos rfl, if_neg (by omega)]; simpa using b2
theorem c_park (h : C g p k M0 T A stk M) {t : Nat} (ht : t < T) (d : Int32) (hL : A.2.1.length < LIM) : Sat (pX3_park k (nI t) d M) (fun _ M' => C g p k M0 T (pk A t d) stk M') := by
  have hT := h.T10
  have r11 : M.1 5 k t 11 = A.1 t 5 := h.th ht 5 rfl
  have r10 : M.1 5 k t 10 = A.1 t 4 := h.th ht 4 rfl
  rw [pX3_park, chk_h (inB_nI (by omega) (by omega)), cl (by omega), r11, r10]
  unfold pk
  by_cases e5 : A.1 t 5 = 0
  · rw [if_pos e5, if_pos e5]
    by_cases e4 : A.1 t 4 = 0
    · rw [if_pos e4, if_pos e4]
      refine S_w (h.put (f := 3) ht rfl 1) (fun M1 h1 => ?_)
      refine S_w (h1.put (f := 7) ht rfl d) (fun M2 h2 => ?_)
      have r17 : M2.1 5 k t 17 = _ := h2.th ht 11 rfl
      rw [r17]
      refine S_w (h2.put (f := 11) ht rfl _) (fun M3 h3 => ?_)
      exact S_bnd (c_add h3 hL 0 (nI t) d) (fun _ M4 h4 => S_ret h4)
    · rw [if_neg e4, if_neg e4, chk_h b01_0]
      refine S_w (h.put (f := 4) ht rfl 0) (fun M1 h1 => ?_)
      exact S_w (h1.put (f := 6) ht rfl 1) (fun M2 h2 => S_ret h2)
  · rw [if_neg e5, if_neg e5, chk_h b01_0]
    refine S_w (h.put (f := 5) ht rfl 0) (fun M1 h1 => ?_)
    exact S_w (h1.put (f := 6) ht rfl 4) (fun M2 h2 => S_ret h2)
theorem c_over (h : C g p k M0 T A stk M) {t : Nat} (ht : t < T) : pX6_isOver k t M = some ((if A.1 t 3 = 3 ∨ A.1 t 3 = 4 then 1 else 0), M) := by
  have r7 : M.1 5 k t 7 = A.1 t 3 := h.th ht 3 rfl
  rw [pX6_isOver, r7, chk_h b01_1, chk_h b01_0]
  by_cases e : A.1 t 3 = 3
  · rw [if_pos e, if_pos (Or.inl e)]
  · rw [if_neg e]
    by_cases e2 : A.1 t 3 = 4
    · rw [if_neg (fun q => q e2), if_pos (Or.inr e2)]
    · rw [if_pos e2, if_neg (by rintro (q | q) <;> contradiction)]
theorem c_wake (h : C g p k M0 T A [] M) (hI : Inv T 10 A) {t : Nat} (ht : t < T) (w : Int32) (hL : A.2.1.length < LIM) : Sat (pX3_wakeUp k (nI t) w M) (fun o M' => o = wkR A t ∧ C g p k M0 T (wkA A t w) (wkS A t) M') := by
  have hT := h.T10
  have r7 : M.1 5 k t 7 = A.1 t 3 := h.th ht 3 rfl
  rw [pX3_wakeUp, chk_h (inB_nI (by omega) (by omega)), cl (by omega), r7]
  unfold wkA wkS wkR
  by_cases e : A.1 t 3 = 1
  · rw [if_neg (fun q => q e), if_pos e, if_pos e, if_pos e]
    exact S_bnd (c_come h hI ht (c := 1) (by omega) (by omega) hL) (fun _ M1 h1 => S_ret ⟨rfl, h1⟩)
  · rw [if_pos e, if_neg e, if_neg e, if_neg e, c_over h ht, bnd_some]
    by_cases e2 : A.1 t 3 = 3 ∨ A.1 t 3 = 4
    · have r : M.1 3 k 0 10 = A.1 10 9 := h.gl 9 rfl
      rw [if_pos e2, if_pos e2, if_pos e2, if_neg (by decide), r]
      exact S_w (h.putg (b := 9) rfl (by omega) (fun _ => by omega) _) (fun M1 h1 => S_ret ⟨rfl, h1⟩)
    · have r10 : M.1 5 k t 10 = A.1 t 4 := h.th ht 4 rfl
      rw [if_neg e2, if_neg e2, if_neg e2, if_pos rfl, r10]
      by_cases e4 : A.1 t 4 = 0
      · rw [if_pos e4, if_pos e4, if_pos e4, chk_h b01_1]
        exact S_w (h.put (f := 4) ht rfl 1) (fun M1 h1 => S_ret ⟨rfl, h1⟩)
      · have r : M.1 3 k 0 9 = A.1 10 8 := h.gl 8 rfl
        rw [if_neg e4, if_neg e4, if_neg e4, r]
        refine S_w (h.putg (b := 8) rfl (by omega) (fun _ => by omega) _) (fun M1 h1 => ?_)
        exact S_bnd (c_add h1 hL 7 (nI t) w) (fun _ M2 h2 => S_ret ⟨rfl, h2⟩)
theorem c_disturb (h : C g p k M0 T A [] M) (hI : Inv T 10 A) {t : Nat} (ht : t < T) (hL : A.2.1.length < LIM) : Sat (pX3_disturb k (nI t) M) (fun o M' => o = dsR A t ∧ C g p k M0 T (dsA A t) (dsS A t) M') := by
  have hT := h.T10
  have r7 : M.1 5 k t 7 = A.1 t 3 := h.th ht 3 rfl
  rw [pX3_disturb, chk_h (inB_nI (by omega) (by omega)), cl (by omega), r7]
  unfold dsA dsS dsR
  by_cases e : A.1 t 3 = 1
  · rw [if_neg (fun q => q e), if_pos e, if_pos e, if_pos e]
    exact S_bnd (c_come h hI ht (c := 4) (by omega) (by omega) hL) (fun _ M1 h1 => S_ret ⟨rfl, h1⟩)
  · rw [if_pos e, if_neg e, if_neg e, if_neg e, c_over h ht, bnd_some]
    by_cases e2 : A.1 t 3 = 3 ∨ A.1 t 3 = 4
    · rw [if_pos e2, if_pos e2, if_pos e2, if_neg (by decide)]
      exact S_ret ⟨rfl, h⟩
    · have r10 : M.1 5 k t 11 = A.1 t 5 := h.th ht 5 rfl
      rw [if_neg e2, if_neg e2, if_neg e2, if_pos rfl, r10]
      by_cases e4 : A.1 t 5 = 0
      · rw [if_pos e4, if_pos e4, if_pos e4, chk_h b01_1]
        exact S_w (h.put (f := 5) ht rfl 1) (fun M1 h1 => S_ret ⟨rfl, h1⟩)
      · rw [if_neg e4, if_neg e4, if_neg e4]
        exact S_ret ⟨rfl, h⟩
end COPS
