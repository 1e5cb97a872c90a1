/-! ===== counts of events; the law's calls ===== -/
section EVN
variable {T n d t : Nat} {A A' : AS} {M0 M M' : Mem}
theorem cf_v (p : Nat → Bool) : ∀ n i v, cf p n i v = v + cf p n i 0 := by
  intro n
  induction n with
  | zero => intro i v; rfl
  | succ n ih =>
    intro i v
    rw [cf, cf, ih, ih (i + 1) (if p i = true then 0 + 1 else 0)]
    split <;> omega
theorem cf_last (p : Nat → Bool) : ∀ n i v, cf p (n + 1) i v = cf p n i v + (if p (i + n) = true then 1 else 0) := by
  intro n
  induction n with
  | zero =>
    intro i v
    rw [cf, cf, cf, show i + 0 = i from rfl]
    split <;> omega
  | succ n ih =>
    intro i v
    rw [cf, ih, show i + 1 + n = i + (n + 1) by omega]
    rfl
theorem cf_first (p : Nat → Bool) (n i v : Nat) : cf p (n + 1) i v = (if p i = true then 1 else 0) + cf p n (i + 1) v := by
  rw [cf, cf_v p n (i + 1) (if p i = true then v + 1 else v), cf_v p n (i + 1) v]
  split <;> omega
theorem cf_cg {p q : Nat → Bool} : ∀ n i v, (∀ j, i ≤ j → j < i + n → p j = q j) → cf p n i v = cf q n i v := by
  intro n
  induction n with
  | zero => intro i v _; rfl
  | succ n ih => intro i v h; rw [cf, cf, h i (by omega) (by omega), ih _ _ (fun j a b => h j (by omega) (by omega))]
theorem cf_sh {p q : Nat → Bool} : ∀ n i v, (∀ j, i ≤ j → j < i + n → p j = q (j + 1)) → cf p n i v = cf q n (i + 1) v := by
  intro n
  induction n with
  | zero => intro i v _; rfl
  | succ n ih => intro i v h; rw [cf, cf, h i (by omega) (by omega), ih _ _ (fun j a b => h j (by omega) (by omega))]
theorem cf_le (p : Nat → Bool) : ∀ n i, cf p n i 0 ≤ n := by
  intro n
  induction n with
  | zero => intro i; exact Nat.le_refl _
  | succ n ih =>
    intro i
    have := ih i
    rw [cf_last]
    split <;> omega
theorem cf_0 {p : Nat → Bool} : ∀ n i v, (∀ j, i ≤ j → j < i + n → p j = false) → cf p n i v = v := by
  intro n
  induction n with
  | zero => intro i v _; rfl
  | succ n ih => intro i v h; rw [cf, h i (by omega) (by omega), if_neg Bool.false_ne_true, ih _ _ (fun j a b => h j (by omega) (by omega))]
theorem getD_s {e : Ev} {l : List Ev} {m : Nat} (hm : 1 ≤ m) : (e :: l).getD m ev0 = l.getD (m - 1) ev0 := by
  obtain ⟨m, rfl⟩ : ∃ m', m = m' + 1 := ⟨m - 1, by omega⟩
  rfl
/-- one more event of another kind: no more of this kind -/
theorem evN_note {e : Ev} {v w : Int32} (hl : A'.2.1 = e :: A.2.1) (hk : ¬ e.2.1 = v) : evN A' v w ≤ evN A v w := by
  have k40 := kpt_40 A
  have f : ∀ j c, evF A' j c = evc ((e :: A.2.1).getD (kpt A' - 1 - j) ev0) c := fun j c => by unfold evF; rw [hl]
  have pz : ∀ j, kpt A' - 1 - j = 0 → evP A' v w j = false := fun j q => by
    unfold evP
    rw [f, q]
    have : evc ((e :: A.2.1).getD 0 ev0) 1 = e.2.1 := rfl
    rw [this, if_neg hk]
  have kl : kpt A' = min (A.2.1.length + 1) 40 := by unfold kpt; rw [hl]; rfl
  have kA : kpt A = min A.2.1.length 40 := rfl
  have hN : cf (evP A' v w) (kpt A') 0 0 ≤ cf (evP A v w) (kpt A) 0 0 := by
    by_cases q : A.2.1.length < 40
    · have e1 : kpt A' = kpt A + 1 := by omega
      rw [e1, cf_last, pz _ (by omega), if_neg Bool.false_ne_true, Nat.add_zero]
      refine Nat.le_of_eq (cf_cg _ _ _ (fun j _ b => ?_))
      unfold evP
      rw [f, f, getD_s (by omega)]
      unfold evF
      rw [show kpt A' - 1 - j - 1 = kpt A - 1 - j by omega]
    · have e1 : kpt A' = 40 := by omega
      have e2 : kpt A = 40 := by omega
      rw [e1, e2, cf_last (evP A' v w) 39, pz _ (by omega), if_neg Bool.false_ne_true, Nat.add_zero, cf_first (evP A v w) 39]
      have : cf (evP A' v w) 39 0 0 = cf (evP A v w) 39 1 0 := cf_sh _ _ _ (fun j _ b => by
        unfold evP
        rw [f, f, getD_s (by omega)]
        unfold evF
        rw [show kpt A' - 1 - j - 1 = kpt A - 1 - (j + 1) by omega])
      rw [this, show (0 : Nat) + 1 = 1 from rfl]
      omega
  have h2 := cf_le (evP A v w) (kpt A) 0
  exact nI_le hN (by omega)
theorem evN_eq {v w : Int32} (hl : A'.2.1 = A.2.1) : evN A' v w = evN A v w := by
  have : kpt A' = kpt A := by unfold kpt; rw [hl]
  have e : evP A' v w = evP A v w := by
    funext j
    unfold evP evF
    rw [hl, this]
  unfold evN
  rw [e, this]
theorem cmb_t {c : Nat} (hI : Inv T 10 A) (ht : t < T) (h3 : A.1 t 3 = 1) (hc : 1 ≤ c) (hc4 : c ≤ 4) (hL : A.2.1.length ≤ LIM) : (cmb T A t c).1 t 6 = nI c ∧ (A.1 t 2 = A.1 t 1 → (cmb T A t c).1 t 3 = 3) ∧ (¬ A.1 t 2 = A.1 t 1 → (cmb T A t c).1 t 3 = 0) := by
  have hT := hI.T10
  have r : ∀ b, (cmA A t c).1 t b = (if b = 11 + c then A.1 t (11 + c) + 1 else if b = 6 then nI c else if b = 7 then -1 else if b = 3 then 0 else A.1 t b) := fun b => by rw [cmA_e hc, if_pos rfl]
  have r3 : (cmA A t c).1 t 3 = 0 := cmA_3 hc
  obtain ⟨-, -, f1, -, -, -, f5, f6, f7, -⟩ := fin_ok (cmA_inv hI ht h3 hc hc4 hL) ht (by rw [r3]; decide)
  have f1 : Inv T 10 (cmb T A t c) := f1
  have g : ∀ b, ¬ b = 3 → (cmb T A t c).1 t b = (cmA A t c).1 t b := fun b q => f6 t b (by omega) (by omega) (by rw [r3]; decide)
  refine ⟨?_, fun q => ?_, fun q => ?_⟩
  · rw [g 6 (by omega), r, if_neg (by omega), if_pos rfl]
  · rcases f7 with f7 | f7
    · have f7 : (cmb T A t c).1 t 3 = (cmA A t c).1 t 3 := f7
      have z := f1.2.2.1 t ht (by omega) (Or.inl (f7.trans r3))
      refine absurd ?_ z
      rw [g 2 (by omega), g 1 (by omega), r, r, if_neg (by omega), if_neg (by omega), if_neg (by omega), if_neg (by omega), if_neg (by omega), if_neg (by omega), if_neg (by omega), if_neg (by omega)]
      exact q
    · exact f7.2
  · have e : ps (cmA A t c) t [] = [] := by
      unfold ps
      rw [if_neg]
      rintro ⟨-, z⟩
      rw [r, r, if_neg (by omega), if_neg (by omega), if_neg (by omega), if_neg (by omega), if_neg (by omega), if_neg (by omega), if_neg (by omega), if_neg (by omega)] at z
      exact q z
    unfold cmb
    rw [e]
    exact r3
theorem fl_d1 : ∀ n, n < 256 → ∀ x, x < 8 → (((nI n ||| ((1 : Int32) <<< (nI x &&& 31))) >>> (nI x &&& 31)) &&& (1 : Int32)) = 1 := by decide +kernel
theorem fl_d0 : ∀ n, n < 256 → ∀ x, x < 8 → ¬ (((nI n &&& (((1 : Int32) <<< (nI x &&& 31)) ^^^ (-1 : Int32))) >>> (nI x &&& 31)) &&& (1 : Int32)) = 1 := by decide +kernel
theorem onF_st {x : Nat} (hI : Inv T 10 A) (hx : x < 8) (b : Bool) : onF (stF A x b) x = b := by
  obtain ⟨m, hm, e⟩ := hI.2.2.2.2.2.1.2.1
  unfold onF stF
  rw [up_s, e]
  cases b with
  | true => rw [if_pos rfl]; exact decide_eq_true (fl_d1 m hm x hx)
  | false => rw [if_neg Bool.false_ne_true]; exact decide_eq_false (fl_d0 m hm x hx)
end EVN
section CALLS
variable {T n d t : Nat} {A A' : AS} {M0 M M' : Mem} {Z : Nat × (Nat → Int32)}
def Post (M0 : Mem) (d n T : Nat) : Int32 → Mem → Prop := fun o M' => o = 1 ∧ ∃ d' A', d' ≤ d + 3 ∧ Ls M0 d' (n + 1) T A' M'
theorem p_301 {m : Nat} (hm : m ≤ d + 3) (h : Ls M0 m (n + 1) T A' M) (ht : t < T) {v9 s0 s1 s2 : Int32} (e : s2 = s1 + s0) (hE : evN A' 1 (-1) ≤ v9) : Sat (pL_calls_301 Z v9 s0 s1 s2 M) (Post M0 d n T) := by
  rw [pL_calls_301, if_neg (not_not_intro e)]
  refine w_events h (k := 1) (by omega) rfl (Or.inl rfl) ?_
  rw [if_neg (by rw [Int32.not_lt]; exact hE)]
  exact S_1 ⟨rfl, _, _, hm, h⟩
theorem p_176 {m : Nat} (hm : m ≤ d + 3) (h : Ls M0 m (n + 1) T A' M) (ht : t < T) {v3 v5 v6 v7 v8 v9 v10 : Int32} (h10 : v10 = 1 ∨ v10 = 2 ∨ v10 = 3) (e4 : A'.1 t 4 = if v10 = 1 then 1 else v3) (e8 : A'.1 10 8 = v7 + if v10 = 2 then 1 else 0) (e9 : A'.1 10 9 = v8 + if v10 = 3 then 1 else 0) (hE : evN A' 1 (-1) ≤ v9) : Sat (pL_calls_176 Z (nI t) v3 v5 v6 v7 v8 v9 v10 v10 v10 M) (Post M0 d n T) := by
  have n0 : ¬ v10 = 0 := by rcases h10 with rfl | rfl | rfl <;> decide
  rw [pL_calls_176, if_pos rfl, if_pos n0]
  refine w_thread h (c := 4) ht (by omega) rfl rfl (fun M1 h1 => ?_)
  rw [show thV T A' t 4 = A'.1 t 4 from rfl]
  have k275 : ∀ M2, Ls M0 m (n + 1) T A' M2 → ∀ s0, s0 = (if v10 = 2 then 1 else 0) → Sat (pL_calls_275 Z v8 v9 v10 s0 v7 (A'.1 10 8) M2) (Post M0 d n T) := fun M2 h2 s0 es => by
    subst es
    rw [pL_calls_275, if_neg (not_not_intro e8)]
    refine w_count h2 (c := 15) (by omega) rfl ?_
    rw [show cnV T A' 15 = A'.1 10 9 from rfl]
    by_cases q : v10 = 3
    · rw [if_neg (not_not_intro q)]
      rw [if_pos q] at e9
      exact p_301 hm h2 ht e9 hE
    · rw [if_pos q]
      rw [if_neg q] at e9
      exact p_301 hm h2 ht e9 hE
  have k250 : ∀ M2, Ls M0 m (n + 1) T A' M2 → ∀ s0, s0 = (if v10 = 1 then 1 else v3) → Sat (pL_calls_250 Z v7 v8 v9 v10 s0 (A'.1 t 4) M2) (Post M0 d n T) := fun M2 h2 s0 es => by
    subst es
    rw [pL_calls_250, if_neg (not_not_intro e4)]
    refine w_count h2 (c := 14) (by omega) rfl ?_
    rw [show cnV T A' 14 = A'.1 10 8 from rfl]
    by_cases q : v10 = 2
    · rw [if_neg (not_not_intro q)]
      exact k275 _ h2 _ (if_pos q).symm
    · rw [if_pos q]
      exact k275 _ h2 _ (if_neg q).symm
  by_cases q : v10 = 1
  · rw [if_neg (not_not_intro q)]
    exact k250 _ h1 _ (if_pos q).symm
  · rw [if_pos q]
    exact k250 _ h1 _ (if_neg q).symm
theorem p_221 {m : Nat} (hm : m ≤ d + 3) (h : Ls M0 m (n + 1) T A' M) {s0 s1 : Int32} (e : s1 = s0) : Sat (pL_calls_221 Z s0 s1 M) (Post M0 d n T) := by
  rw [pL_calls_221, if_neg (not_not_intro e)]
  exact S_1 ⟨rfl, _, _, hm, h⟩
theorem p_432 {m : Nat} (hm : m ≤ d + 3) (h : Ls M0 m (n + 1) T A' M) {s0 s1 : Int32} (e : s1 = s0) : Sat (pL_calls_432 Z s0 s1 M) (Post M0 d n T) := by
  rw [pL_calls_432, if_neg (not_not_intro e)]
  exact S_1 ⟨rfl, _, _, hm, h⟩
/-- a thread let on by wake -/
theorem p_176z {m : Nat} (hm : m ≤ d + 3) (h : Ls M0 m (n + 1) T A' M) (ht : t < T) {v3 v5 v6 v7 v8 v9 : Int32} (e6 : A'.1 t 6 = 1) (ea : v6 = v5 → A'.1 t 3 = 3) (eb : ¬ v6 = v5 → A'.1 t 3 = 0) : Sat (pL_calls_176 Z (nI t) v3 v5 v6 v7 v8 v9 0 0 0 M) (Post M0 d n T) := by
  rw [pL_calls_176, if_pos rfl, if_neg (not_not_intro rfl)]
  refine w_thread h (c := 6) ht (by omega) rfl rfl (fun M1 h1 => ?_)
  rw [show thV T A' t 6 = A'.1 t 6 from rfl, if_neg (not_not_intro e6)]
  refine w_thread h1 (c := 2) ht (by omega) rfl rfl (fun M2 h2 => ?_)
  rw [show thV T A' t 2 = A'.1 t 3 from rfl]
  by_cases q : v6 = v5
  · rw [if_neg (not_not_intro q)]
    exact p_221 hm h2 (ea q)
  · rw [if_pos q]
    exact p_221 hm h2 (eb q)
theorem p_366 {m : Nat} (hm : m ≤ d + 3) (h : Ls M0 m (n + 1) T A' M) (ht : t < T) {v2 v4 v10 : Int32} (e6 : v10 = 0 → A'.1 t 6 = 4) (e3 : ¬ v10 = 0 → A'.1 t 3 = v2) (e5 : ¬ v10 = 0 → A'.1 t 5 = if v10 = 3 then v4 else 1) : Sat (pL_calls_366 Z (nI t) v2 v4 v10 v10 v10 M) (Post M0 d n T) := by
  rw [pL_calls_366, if_pos rfl]
  by_cases q : v10 = 0
  · rw [if_neg (not_not_intro q)]
    refine w_thread h (c := 6) ht (by omega) rfl rfl (fun M1 h1 => ?_)
    rw [show thV T A' t 6 = A'.1 t 6 from rfl, if_neg (not_not_intro (e6 q))]
    exact S_1 ⟨rfl, _, _, hm, h1⟩
  · rw [if_pos q]
    refine w_thread h (c := 2) ht (by omega) rfl rfl (fun M1 h1 => ?_)
    rw [show thV T A' t 2 = A'.1 t 3 from rfl, if_neg (not_not_intro (e3 q))]
    refine w_thread h1 (c := 5) ht (by omega) rfl rfl (fun M2 h2 => ?_)
    rw [show thV T A' t 5 = A'.1 t 5 from rfl]
    have e5 := e5 q
    by_cases q3 : v10 = 3
    · rw [if_neg (not_not_intro q3)]
      rw [if_pos q3] at e5
      exact p_432 hm h2 e5
    · rw [if_pos q3]
      rw [if_neg q3] at e5
      exact p_432 hm h2 e5
theorem calls_ok (hZ : Z.1 ≤ 260) (hd : d < 900000) (hn : n ≤ 250000) (hT1 : 1 ≤ T) (h : Ls M0 d n T A M) : Sat (pL_calls Z M) (Post M0 d n T) := by
  have hT := h.T10
  have hL := h.bd.lim (by omega)
  have hI := h.ii
  rw [pL_calls]
  refine w_count h (c := 2) (by omega) rfl ?_
  rw [show cnV T A 2 = nI T from h.ii.1.2]
  refine w_draw h hZ (by omega) (m := T) hT1 (by omega) rfl (fun t M1 ht h1 => ?_)
  refine w_thread h1 (c := 2) ht (by omega) rfl rfl (fun M2 h2 => ?_)
  refine w_thread h2 (c := 4) ht (by omega) rfl rfl (fun M3 h3 => ?_)
  refine w_thread h3 (c := 5) ht (by omega) rfl rfl (fun M4 h4 => ?_)
  refine w_thread h4 (c := 18) ht (by omega) rfl rfl (fun M5 h5 => ?_)
  refine w_thread h5 (c := 3) ht (by omega) rfl rfl (fun M6 h6 => ?_)
  refine w_count h6 (c := 14) (by omega) rfl ?_
  refine w_count h6 (c := 15) (by omega) rfl ?_
  refine w_events h6 (k := 1) (by omega) rfl (Or.inl rfl) ?_
  refine w_draw h6 hZ (by omega) (m := 5) (by omega) (by omega) rfl (fun y M7 hy h7 => ?_)
  rw [show thV T A t 2 = A.1 t 3 from rfl, show thV T A t 4 = A.1 t 4 from rfl, show thV T A t 5 = A.1 t 5 from rfl, show thV T A t 18 = A.1 t 1 from rfl, show thV T A t 3 = A.1 t 2 from rfl, show cnV T A 14 = A.1 10 8 from rfl, show cnV T A 15 = A.1 10 9 from rfl]
  clear h1 h2 h3 h4 h5 h6
  obtain ⟨-, -, s3, s4, s5, -⟩ := hI.2.1 t ht
  have hm2 : d + 1 + 1 ≤ d + 3 := by omega
  have hy5 : y = 0 ∨ y = 1 ∨ y = 2 ∨ y = 3 ∨ y = 4 := by omega
  rcases hy5 with rfl | rfl | rfl | rfl | rfl
  · rw [if_pos (show nI 0 = (0 : Int32) from rfl)]
    refine w_wake h7 (by omega) ht rfl (fun M8 h8 => ?_)
    rcases s3 with s3 | s3 | s3 | s3 | s3
    · have n1 : ¬ A.1 t 3 = 1 := by rw [s3]; decide
      have n34 : ¬ (A.1 t 3 = 3 ∨ A.1 t 3 = 4) := by rw [s3]; decide
      have eS : wkS A t = [] := by unfold wkS; rw [if_neg n1]
      rw [if_pos n1, if_pos (show A.1 t 3 ≤ (2 : Int32) by rw [s3]; decide)]
      by_cases q : A.1 t 4 = 1
      · have q0 : ¬ A.1 t 4 = 0 := by rw [q]; decide
        have eR : wkR A t = 2 := by unfold wkR; rw [if_neg n1, if_neg n34, if_neg q0]
        have eA : wkA A t (-1) = note (inc A 10 8) 7 (nI t) (-1) := by unfold wkA; rw [if_neg n1, if_neg n34, if_neg q0]
        rw [eS, eA] at h8
        have h8 : Ls M0 (d + 1 + 1) (n + 1) T (note (inc A 10 8) 7 (nI t) (-1)) M8 := h8
        rw [if_neg (not_not_intro q), eR]
        refine p_176 hm2 h8 ht (Or.inr (Or.inl rfl)) ?_ ?_ ?_ (evN_note (e := ((inc A 10 8).1 10 3, 7, nI t, -1)) rfl (show ¬ (7 : Int32) = 1 by decide))
        · rw [note_1, inc_e, if_neg (by omega), if_neg (by decide)]
        · rw [note_1, inc_e, if_pos ⟨rfl, rfl⟩, if_pos rfl]
        · rw [note_1, inc_e, if_neg (by omega), if_neg (by decide), Int32.add_zero]
      · have q0 : A.1 t 4 = 0 := s4.resolve_right q
        have eR : wkR A t = 1 := by unfold wkR; rw [if_neg n1, if_neg n34, if_pos q0]
        have eA : wkA A t (-1) = up A t 4 1 := by unfold wkA; rw [if_neg n1, if_neg n34, if_pos q0]
        rw [eS, eA] at h8
        have h8 : Ls M0 (d + 1 + 1) (n + 1) T (up A t 4 1) M8 := h8
        rw [if_pos q, eR]
        refine p_176 hm2 h8 ht (Or.inl rfl) ?_ ?_ ?_ (by rw [evN_eq (A := A) rfl]; exact Int32.le_refl _)
        · rw [up_s, if_pos rfl]
        · rw [up_e, if_neg (by omega), if_neg (by decide), Int32.add_zero]
        · rw [up_e, if_neg (by omega), if_neg (by decide), Int32.add_zero]
    · have n1 := s3
      have eR : wkR A t = 0 := by unfold wkR; rw [if_pos n1]
      have eA : fin T (wkA A t (-1)) (wkS A t) = cmb T A t 1 := by unfold wkA wkS cmb; rw [if_pos n1, if_pos n1]
      rw [eA] at h8
      rw [if_neg (not_not_intro n1), eR]
      obtain ⟨c6, ca, cb⟩ := cmb_t hI ht n1 (c := 1) (by omega) (by omega) (by omega)
      exact p_176z hm2 h8 ht c6 ca cb
    · have n1 : ¬ A.1 t 3 = 1 := by rw [s3]; decide
      have n34 : ¬ (A.1 t 3 = 3 ∨ A.1 t 3 = 4) := by rw [s3]; decide
      have eS : wkS A t = [] := by unfold wkS; rw [if_neg n1]
      rw [if_pos n1, if_pos (show A.1 t 3 ≤ (2 : Int32) by rw [s3]; decide)]
      by_cases q : A.1 t 4 = 1
      · have q0 : ¬ A.1 t 4 = 0 := by rw [q]; decide
        have eR : wkR A t = 2 := by unfold wkR; rw [if_neg n1, if_neg n34, if_neg q0]
        have eA : wkA A t (-1) = note (inc A 10 8) 7 (nI t) (-1) := by unfold wkA; rw [if_neg n1, if_neg n34, if_neg q0]
        rw [eS, eA] at h8
        have h8 : Ls M0 (d + 1 + 1) (n + 1) T (note (inc A 10 8) 7 (nI t) (-1)) M8 := h8
        rw [if_neg (not_not_intro q), eR]
        refine p_176 hm2 h8 ht (Or.inr (Or.inl rfl)) ?_ ?_ ?_ (evN_note (e := ((inc A 10 8).1 10 3, 7, nI t, -1)) rfl (show ¬ (7 : Int32) = 1 by decide))
        · rw [note_1, inc_e, if_neg (by omega), if_neg (by decide)]
        · rw [note_1, inc_e, if_pos ⟨rfl, rfl⟩, if_pos rfl]
        · rw [note_1, inc_e, if_neg (by omega), if_neg (by decide), Int32.add_zero]
      · have q0 : A.1 t 4 = 0 := s4.resolve_right q
        have eR : wkR A t = 1 := by unfold wkR; rw [if_neg n1, if_neg n34, if_pos q0]
        have eA : wkA A t (-1) = up A t 4 1 := by unfold wkA; rw [if_neg n1, if_neg n34, if_pos q0]
        rw [eS, eA] at h8
        have h8 : Ls M0 (d + 1 + 1) (n + 1) T (up A t 4 1) M8 := h8
        rw [if_pos q, eR]
        refine p_176 hm2 h8 ht (Or.inl rfl) ?_ ?_ ?_ (by rw [evN_eq (A := A) rfl]; exact Int32.le_refl _)
        · rw [up_s, if_pos rfl]
        · rw [up_e, if_neg (by omega), if_neg (by decide), Int32.add_zero]
        · rw [up_e, if_neg (by omega), if_neg (by decide), Int32.add_zero]
    all_goals
      have n1 : ¬ A.1 t 3 = 1 := by rw [s3]; decide
      have n34 : A.1 t 3 = 3 ∨ A.1 t 3 = 4 := by rw [s3]; decide
      have eS : wkS A t = [] := by unfold wkS; rw [if_neg n1]
      have eR : wkR A t = 3 := by unfold wkR; rw [if_neg n1, if_pos n34]
      have eA : wkA A t (-1) = inc A 10 9 := by unfold wkA; rw [if_neg n1, if_pos n34]
      rw [eS, eA] at h8
      have h8 : Ls M0 (d + 1 + 1) (n + 1) T (inc A 10 9) M8 := h8
      rw [if_pos n1, if_neg (show ¬ A.1 t 3 ≤ (2 : Int32) by rw [s3]; decide), eR]
      refine p_176 hm2 h8 ht (Or.inr (Or.inr rfl)) ?_ ?_ ?_ (by rw [evN_eq (A := A) rfl]; exact Int32.le_refl _)
      · rw [inc_e, if_neg (by omega), if_neg (by decide)]
      · rw [inc_e, if_neg (by omega), if_neg (by decide), Int32.add_zero]
      · rw [inc_e, if_pos ⟨rfl, rfl⟩, if_pos rfl]
  · rw [if_neg (show ¬ nI 1 = (0 : Int32) by decide), if_pos (show nI 1 = (1 : Int32) from rfl)]
    refine w_interrupt h7 (by omega) ht rfl (fun M8 h8 => ?_)
    by_cases n1 : A.1 t 3 = 1
    · have eR : dsR A t = 0 := by unfold dsR; rw [if_pos n1]
      have eA : fin T (dsA A t) (dsS A t) = cmb T A t 4 := by unfold dsA dsS cmb; rw [if_pos n1, if_pos n1]
      rw [eA] at h8
      rw [if_neg (not_not_intro n1), eR]
      obtain ⟨c6, -, -⟩ := cmb_t hI ht n1 (c := 4) (by omega) (by omega) (by omega)
      exact p_366 hm2 h8 ht (fun _ => c6) (fun q => absurd rfl q) (fun q => absurd rfl q)
    · have eS : dsS A t = [] := by unfold dsS; rw [if_neg n1]
      rw [if_pos n1]
      by_cases n34 : A.1 t 3 = 3 ∨ A.1 t 3 = 4
      · have eR : dsR A t = 3 := by unfold dsR; rw [if_neg n1, if_pos n34]
        have eA : dsA A t = A := by unfold dsA; rw [if_neg n1, if_pos n34]
        rw [eS, eA] at h8
        have h8 : Ls M0 (d + 1 + 1) (n + 1) T A M8 := h8
        rw [if_neg (show ¬ A.1 t 3 ≤ (2 : Int32) by rcases n34 with e | e <;> rw [e] <;> decide), eR]
        exact p_366 hm2 h8 ht (fun q => absurd q (by decide)) (fun _ => rfl) (fun _ => (if_pos rfl).symm)
      · have l2 : A.1 t 3 ≤ (2 : Int32) := by
          rcases s3 with e | e | e | e | e
          · rw [e]; decide
          · rw [e]; decide
          · rw [e]; decide
          · exact absurd (Or.inl e) n34
          · exact absurd (Or.inr e) n34
        rw [if_pos l2]
        by_cases q : A.1 t 5 = 1
        · have q0 : ¬ A.1 t 5 = 0 := by rw [q]; decide
          have eR : dsR A t = 2 := by unfold dsR; rw [if_neg n1, if_neg n34, if_neg q0]
          have eA : dsA A t = A := by unfold dsA; rw [if_neg n1, if_neg n34, if_neg q0]
          rw [eS, eA] at h8
          have h8 : Ls M0 (d + 1 + 1) (n + 1) T A M8 := h8
          rw [if_neg (not_not_intro q), eR]
          exact p_366 hm2 h8 ht (fun q => absurd q (by decide)) (fun _ => rfl) (fun _ => by rw [if_neg (by decide)]; exact q)
        · have q0 : A.1 t 5 = 0 := s5.resolve_right q
          have eR : dsR A t = 1 := by unfold dsR; rw [if_neg n1, if_neg n34, if_pos q0]
          have eA : dsA A t = up A t 5 1 := by unfold dsA; rw [if_neg n1, if_neg n34, if_pos q0]
          rw [eS, eA] at h8
          have h8 : Ls M0 (d + 1 + 1) (n + 1) T (up A t 5 1) M8 := h8
          rw [if_pos q, eR]
          exact p_366 hm2 h8 ht (fun q => absurd q (by decide)) (fun _ => up_b (by omega)) (fun _ => by rw [if_neg (by decide)]; exact up_s)
  · rw [if_neg (show ¬ nI 2 = (0 : Int32) by decide), if_neg (show ¬ nI 2 = (1 : Int32) by decide), if_pos (show nI 2 = (2 : Int32) from rfl)]
    refine w_rouse h7 (by omega) ht rfl (fun M8 h8 => ?_)
    by_cases n1 : A.1 t 3 = 1
    · simp only [if_pos n1] at h8 ⊢
      rw [if_neg (not_not_intro n1), pL_calls_459, if_neg (not_not_intro rfl), if_neg (not_not_intro n1)]
      refine w_thread h8 (c := 6) ht (by omega) rfl rfl (fun M9 h9 => ?_)
      obtain ⟨c6, -, -⟩ := cmb_t hI ht n1 (c := 3) (by omega) (by omega) (by omega)
      have c6 : (cmb T A t 3).1 t 6 = 3 := c6
      rw [show thV T (cmb T A t 3) t 6 = (cmb T A t 3).1 t 6 from rfl, if_neg (not_not_intro c6)]
      exact S_1 ⟨rfl, _, _, hm2, h9⟩
    · simp only [if_neg n1] at h8 ⊢
      rw [if_pos n1, pL_calls_459, if_neg (not_not_intro rfl), if_pos n1]
      exact S_1 ⟨rfl, _, _, hm2, h8⟩
  · rw [if_neg (show ¬ nI 3 = (0 : Int32) by decide), if_neg (show ¬ nI 3 = (1 : Int32) by decide), if_neg (show ¬ nI 3 = (2 : Int32) by decide), if_pos (show nI 3 = (3 : Int32) from rfl)]
    refine w_draw h7 hZ (by omega) (m := 8) (by omega) (by omega) rfl (fun x M8 hx h8 => ?_)
    refine w_flag h8 hx rfl ?_
    have go : ∀ s0, s0 = (if (!onF A x) = true then (1 : Int32) else 0) → Sat (pL_calls_522 Z (nI t) (A.1 t 3) (nI x) (if onF A x = true then 1 else 0) s0 (nI x) M8) (Post M0 d n T) := fun s0 es => by
      rw [pL_calls_522]
      refine w_setFlag h8 hx (b := !onF A x) rfl es (fun M9 h9 => ?_)
      rw [if_neg (not_not_intro rfl)]
      refine w_flag h9 hx rfl ?_
      rw [onF_st hI hx]
      have e : (if (!onF A x) = true then (1 : Int32) else 0) = 1 - (if onF A x = true then 1 else 0) := by
        cases onF A x <;> decide
      rw [if_neg (not_not_intro e)]
      refine w_thread h9 (c := 2) ht (by omega) rfl rfl (fun M10 h10 => ?_)
      have e3 : thV T (stF A x (!onF A x)) t 2 = A.1 t 3 := by
        show (up A 10 5 _).1 t 3 = _
        exact up_a (by omega)
      rw [if_neg (not_not_intro e3)]
      exact S_1 ⟨rfl, _, _, by omega, h10.le (Nat.le_succ n)⟩
    by_cases q : onF A x = true
    · rw [if_pos (show ¬ (if onF A x = true then (1 : Int32) else 0) = 0 by rw [if_pos q]; decide)]
      exact go _ (by rw [q]; rfl)
    · rw [if_neg (not_not_intro (show (if onF A x = true then (1 : Int32) else 0) = 0 by rw [if_neg q]))]
      exact go _ (by rw [Bool.not_eq_true] at q; rw [q]; rfl)
  · rw [if_neg (show ¬ nI 4 = (0 : Int32) by decide), if_neg (show ¬ nI 4 = (1 : Int32) by decide), if_neg (show ¬ nI 4 = (2 : Int32) by decide), if_neg (show ¬ nI 4 = (3 : Int32) by decide)]
    refine w_draw h7 hZ (by omega) (m := 9) (by omega) (by omega) rfl (fun x M8 hx h8 => ?_)
    rw [nm_def, show (1 : Int32) + nI x = nI (1 + x) from nI_add 1 x]
    refine w_thread h8 (c := 0) ht (by omega) rfl rfl (fun M9 h9 => ?_)
    rw [show thV T A t 0 = A.1 t 0 from rfl]
    refine w_setBase h9 ht (b := 1 + x) (by omega) (by omega) rfl rfl (fun M10 h10 => ?_)
    rw [if_neg (not_not_intro rfl)]
    refine w_thread h10 (c := 0) ht (by omega) rfl rfl (fun M11 h11 => ?_)
    have e0 : thV T (up A t 0 (nI (1 + x))) t 0 = nI (1 + x) := up_s
    rw [if_neg (not_not_intro e0)]
    exact S_1 ⟨rfl, _, _, by omega, h11.le (Nat.le_succ n)⟩
end CALLS
