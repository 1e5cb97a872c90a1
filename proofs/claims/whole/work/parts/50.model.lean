/-! ===== the reference holds a state ===== -/
def upr (rd : Nat → Int32) (a : Nat) (v : Int32) : Nat → Int32 := fun j => if j = a then v else rd j
def Dlog (rd : Nat → Int32) (A : AS) : Prop := A.2.1.length ≤ LIM ∧ rd 7 = nI (min A.2.1.length 40) ∧ rd 13 = nI A.2.1.length ∧ ∀ i c, i < A.2.1.length → i < 40 → c < 4 → rd (540 + 4 * (min A.2.1.length 40 - 1 - i) + c) = evc (A.2.1.getD i ev0) c
def Dwt (s : Nat) (rd : Nat → Int32) (A : AS) : Prop := 0 ≤ (rd 12).toInt ∧ (rd 12).toInt ≤ A.2.1.length + s ∧ ∀ l, l < 6 → (∀ u, u ∈ A.2.2 l → u < 10 ∧ 0 ≤ (rd (38 + 20 * u)).toInt ∧ (rd (38 + 20 * u)).toInt < (rd 12).toInt) ∧ (A.2.2 l).Pairwise (fun u v => (rd (38 + 20 * u)).toInt < (rd (38 + 20 * v)).toInt)
def Dv (s : Nat) (rd : Nat → Int32) (T : Nat) (A : AS) : Prop := (T ≤ 10 ∧ A.1 10 2 = nI T) ∧ (∀ t f, t < T → f < 18 → rd (20 + 20 * t + f) = A.1 t f) ∧ (∀ b, okg b = true → rd b = A.1 10 b) ∧ (∀ l, l < 6 → rd (14 + l) = A.1 11 l) ∧
  (∀ t j, t < T → j < 16 → j < (A.1 t 1).toNatClampNeg → rd (220 + 2 * (16 * t + j)) = A.1 12 (16 * t + j) ∧ rd (220 + 2 * (16 * t + j) + 1) = A.1 13 (16 * t + j)) ∧ Dlog rd A ∧ Dwt s rd A
def Dg (gv : List Nat) (M : Mem) : Prop := M.1 19 0 0 20 = nI gv.length ∧ gv.length ≤ 10 ∧ ∀ i, i < gv.length → M.1 29 0 0 (gv.length - 1 - i) = nI (gv.getD i 0)
def Fm (M0 M : Mem) : Prop := M.2 = M0.2 ∧ ∀ kd k i j, ¬ kd = 20 → ¬ kd = 28 → ¬ kd = 29 → ¬ (kd = 19 ∧ j = 20) → M.1 kd k i j = M0.1 kd k i j
def D (M0 : Mem) (T : Nat) (A : AS) (gv : List Nat) (M : Mem) : Prop := Dv 0 (M.1 20 0 0) T A ∧ Dg gv M ∧ Fm M0 M
def D1 (M0 : Mem) (T : Nat) (A : AS) (gv : List Nat) (M : Mem) : Prop := Dv 1 (M.1 20 0 0) T A ∧ Dg gv M ∧ Fm M0 M
theorem okg_n (b : Nat) (h : okg b = true) : b < 7 ∨ (8 ≤ b ∧ b < 12) := by simpa [okg] using h
theorem upr_s (rd : Nat → Int32) (a : Nat) (v : Int32) : upr rd a v a = v := by simp [upr]
theorem upr_n {rd : Nat → Int32} {a : Nat} {v : Int32} {j : Nat} (h : ¬ j = a) : upr rd a v j = rd j := by simp [upr, h]
theorem upr_e (rd : Nat → Int32) (a : Nat) (v : Int32) (j : Nat) : upr rd a v j = if j = a then v else rd j := rfl
theorem wI20 (M : Mem) (a : Nat) (v : Int32) : (wI M 20 0 0 a v).1 20 0 0 = upr (M.1 20 0 0) a v := by
  funext j
  rw [wI_e, upr_e]
  by_cases e : j = a
  · rw [if_pos ⟨rfl, rfl, rfl, e⟩, if_pos e]
  · rw [if_neg (fun q => e q.2.2.2), if_neg e]
theorem Dlog.up {rd : Nat → Int32} {A A' : AS} {a : Nat} {v : Int32} (h : Dlog rd A) (hA : A'.2.1 = A.2.1) (h1 : ¬ a = 7) (h2 : ¬ a = 13) (h3 : a < 540) : Dlog (upr rd a v) A' := by
  obtain ⟨g1, g2, g3, g4⟩ := h
  unfold Dlog
  rw [hA, upr_n (by omega), upr_n (by omega)]
  exact ⟨g1, g2, g3, fun i c a1 a2 a3 => by rw [upr_n (by omega)]; exact g4 i c a1 a2 a3⟩
theorem Dwt.up {s : Nat} {rd : Nat → Int32} {A A' : AS} {a : Nat} {v : Int32} (h : Dwt s rd A) (hA : A'.2.1 = A.2.1) (hW : A'.2.2 = A.2.2) (h1 : ¬ a = 12) (h2 : ∀ u, u < 10 → ¬ a = 38 + 20 * u) : Dwt s (upr rd a v) A' := by
  obtain ⟨g1, g2, g3⟩ := h
  unfold Dwt
  rw [hA, hW, upr_n (by omega)]
  refine ⟨g1, g2, fun l hl => ⟨fun u hu => ?_, ?_⟩⟩
  · obtain ⟨k1, k2, k3⟩ := (g3 l hl).1 u hu
    rw [upr_n (fun q => h2 u k1 q.symm)]
    exact ⟨k1, k2, k3⟩
  · refine List.Pairwise.imp_of_mem (fun {x y} hx hy q => ?_) (g3 l hl).2
    rw [upr_n (fun q => h2 x ((g3 l hl).1 x hx).1 q.symm), upr_n (fun q => h2 y ((g3 l hl).1 y hy).1 q.symm)]
    exact q
section DPUT
variable {s : Nat} {rd : Nat → Int32} {M0 : Mem} {T : Nat} {A : AS} {gv : List Nat} {M : Mem}
theorem Dv.put (h : Dv s rd T A) {t f : Nat} (ht : t < T) (hf : f < 18) (h1 : ¬ f = 1) (v : Int32) : Dv s (upr rd (20 + 20 * t + f) v) T (up A t f v) := by
  obtain ⟨hT, hth, hgl, hho, hco, hl, hw⟩ := h
  refine ⟨⟨hT.1, ?_⟩, ?_, ?_, ?_, ?_, hl.up rfl (by omega) (by omega) (by omega), hw.up rfl rfl (by omega) (fun u hu => by omega)⟩
  · rw [up_a (by omega)]; exact hT.2
  · intro u f' hu hf'
    rw [upr_e, up_e]
    by_cases e : u = t ∧ f' = f
    · obtain ⟨rfl, rfl⟩ := e
      rw [if_pos rfl, if_pos ⟨rfl, rfl⟩]
    · rw [if_neg (by omega), if_neg e]; exact hth u f' hu hf'
  · intro b hb
    have := okg_n b hb
    rw [upr_n (by omega), up_a (by omega)]; exact hgl b hb
  · intro l hl
    rw [upr_n (by omega), up_a (by omega)]; exact hho l hl
  · intro u j hu hj hj2
    rw [up_b (fun e => h1 e.symm)] at hj2
    rw [upr_n (by omega), upr_n (by omega), up_a (by omega), up_a (by omega)]
    exact hco u j hu hj hj2
theorem Dv.putg (h : Dv s rd T A) {b : Nat} (hb : okg b = true) (h2 : ¬ b = 2) (v : Int32) : Dv s (upr rd b v) T (up A 10 b v) := by
  obtain ⟨hT, hth, hgl, hho, hco, hl, hw⟩ := h
  have hbn := okg_n b hb
  refine ⟨⟨hT.1, ?_⟩, ?_, ?_, ?_, ?_, hl.up rfl (by omega) (by omega) (by omega), hw.up rfl rfl (by omega) (fun u hu => by omega)⟩
  · rw [up_b (by omega)]; exact hT.2
  · intro u f' hu hf'
    rw [upr_n (by omega), up_a (by omega)]; exact hth u f' hu hf'
  · intro b' hb'
    rw [upr_e, up_e]
    by_cases e : b' = b
    · rw [if_pos e, if_pos ⟨rfl, e⟩]
    · rw [if_neg e, if_neg (fun q => e q.2)]; exact hgl b' hb'
  · intro l hl
    rw [upr_n (by omega), up_a (by omega)]; exact hho l hl
  · intro u j hu hj hj2
    rw [up_a (by omega)] at hj2
    rw [upr_n (by omega), upr_n (by omega), up_a (by omega), up_a (by omega)]
    exact hco u j hu hj hj2
theorem Dv.puth (h : Dv s rd T A) {l : Nat} (hl6 : l < 6) (v : Int32) : Dv s (upr rd (14 + l) v) T (up A 11 l v) := by
  obtain ⟨hT, hth, hgl, hho, hco, hl, hw⟩ := h
  refine ⟨⟨hT.1, ?_⟩, ?_, ?_, ?_, ?_, hl.up rfl (by omega) (by omega) (by omega), hw.up rfl rfl (by omega) (fun u hu => by omega)⟩
  · rw [up_a (by omega)]; exact hT.2
  · intro u f' hu hf'
    rw [upr_n (by omega), up_a (by omega)]; exact hth u f' hu hf'
  · intro b' hb'
    have := okg_n b' hb'
    rw [upr_n (by omega), up_a (by omega)]; exact hgl b' hb'
  · intro l' hl'
    rw [upr_e, up_e]
    by_cases e : l' = l
    · rw [if_pos (by omega), if_pos ⟨rfl, e⟩]
    · rw [if_neg (by omega), if_neg (fun q => e q.2)]; exact hho l' hl'
  · intro u j hu hj hj2
    rw [up_a (by omega)] at hj2
    rw [upr_n (by omega), upr_n (by omega), up_a (by omega), up_a (by omega)]
    exact hco u j hu hj hj2
/-- the log grows: what was shifted (or not), four cells behind, two counters -/
theorem Dv.noted (h : Dv s rd T A) (hs1 : s ≤ 1) (hn : A.2.1.length < LIM) (kind th its : Int32) {rd' : Nat → Int32} (e0 : ∀ j, j < 540 → ¬ j = 7 → ¬ j = 13 → rd' j = rd j) (e7 : rd' 7 = nI (min (A.2.1.length + 1) 40)) (e13 : rd' 13 = nI (A.2.1.length + 1))
    (e1 : ∀ i, i < 39 → i < A.2.1.length → ∀ c, c < 4 → rd' (540 + 4 * (min (A.2.1.length + 1) 40 - 2 - i) + c) = rd (540 + 4 * (min A.2.1.length 40 - 1 - i) + c)) (e2 : ∀ c, c < 4 → rd' (540 + 4 * (min (A.2.1.length + 1) 40 - 1) + c) = evc (A.1 10 3, kind, th, its) c) : Dv 0 rd' T (note A kind th its) := by
  obtain ⟨hT, hth, hgl, hho, hco, hl, hw⟩ := h
  have el : (note A kind th its).2.1.length = A.2.1.length + 1 := rfl
  refine ⟨hT, fun t f ht hf => ?_, fun b hb => ?_, fun l hl => ?_, fun t j ht hj hj2 => ?_, ⟨?_, ?_, ?_, ?_⟩, ?_⟩
  · rw [e0 _ (by omega) (by omega) (by omega)]; exact hth t f ht hf
  · have := okg_n b hb
    rw [e0 _ (by omega) (by omega) (by omega)]; exact hgl b hb
  · rw [e0 _ (by omega) (by omega) (by omega)]; exact hho l hl
  · rw [e0 _ (by omega) (by omega) (by omega), e0 _ (by omega) (by omega) (by omega)]; exact hco t j ht hj hj2
  · rw [el]; omega
  · rw [el]; exact e7
  · rw [el]; exact e13
  · intro i c a1 a2 a3
    rw [el] at a1 ⊢
    cases i with
    | zero => exact e2 c a3
    | succ i =>
      rw [show min (A.2.1.length + 1) 40 - 1 - (i + 1) = min (A.2.1.length + 1) 40 - 2 - i from by omega, e1 i (by omega) (by omega) c a3]
      exact hl.2.2.2 i c (by omega) (by omega) a3
  · obtain ⟨g1, g2, g3⟩ := hw
    unfold Dwt
    rw [el, e0 12 (by omega) (by omega) (by omega)]
    refine ⟨g1, by omega, fun l hl => ⟨fun u hu => ?_, ?_⟩⟩
    · obtain ⟨k1, k2, k3⟩ := (g3 l hl).1 u hu
      rw [e0 _ (by omega) (by omega) (by omega)]
      exact ⟨k1, k2, k3⟩
    · refine List.Pairwise.imp_of_mem (fun {x y} hx hy q => ?_) (g3 l hl).2
      have := ((g3 l hl).1 x hx).1
      have := ((g3 l hl).1 y hy).1
      rw [e0 _ (by omega) (by omega) (by omega), e0 _ (by omega) (by omega) (by omega)]
      exact q
theorem Fm.w20 (h : Fm M0 M) {a : Nat} {v : Int32} : Fm M0 (wI M 20 0 0 a v) := ⟨h.1, fun kd k i j h1 h2 h3 h4 => by rw [wI_kd h1]; exact h.2 kd k i j h1 h2 h3 h4⟩
theorem Fm.w28 (h : Fm M0 M) {a : Nat} {v : Int32} : Fm M0 (wI M 28 0 0 a v) := ⟨h.1, fun kd k i j h1 h2 h3 h4 => by rw [wI_kd h2]; exact h.2 kd k i j h1 h2 h3 h4⟩
theorem Fm.w29 (h : Fm M0 M) {a : Nat} {v : Int32} : Fm M0 (wI M 29 0 0 a v) := ⟨h.1, fun kd k i j h1 h2 h3 h4 => by rw [wI_kd h3]; exact h.2 kd k i j h1 h2 h3 h4⟩
theorem Fm.w19 (h : Fm M0 M) {v : Int32} : Fm M0 (wI M 19 0 0 20 v) := ⟨h.1, fun kd k i j h1 h2 h3 h4 => by rw [wI_e, if_neg (by omega)]; exact h.2 kd k i j h1 h2 h3 h4⟩
theorem Fm.refl (M : Mem) : Fm M M := ⟨rfl, fun _ _ _ _ _ _ _ _ => rfl⟩
theorem Dg.w20 (h : Dg gv M) {a : Nat} {v : Int32} : Dg gv (wI M 20 0 0 a v) := ⟨by rw [wI_kd (by omega)]; exact h.1, h.2.1, fun i hi => by rw [wI_kd (by omega)]; exact h.2.2 i hi⟩
theorem D.w20 (h : D M0 T A gv M) {a : Nat} {v : Int32} {A' : AS} {T' : Nat} (hv : Dv 0 (upr (M.1 20 0 0) a v) T' A') : D M0 T' A' gv (wI M 20 0 0 a v) := ⟨by rw [wI20]; exact hv, h.2.1.w20, h.2.2.w20⟩
theorem D.put (h : D M0 T A gv M) {t f : Nat} (ht : t < T) (hf : f < 18) (h1 : ¬ f = 1) (v : Int32) : D M0 T (up A t f v) gv (wI M 20 0 0 (20 + 20 * t + f) v) := h.w20 (h.1.put ht hf h1 v)
theorem D.putg (h : D M0 T A gv M) {b : Nat} (hb : okg b = true) (h2 : ¬ b = 2) (v : Int32) : D M0 T (up A 10 b v) gv (wI M 20 0 0 b v) := h.w20 (h.1.putg hb h2 v)
theorem D.puth (h : D M0 T A gv M) {l : Nat} (hl : l < 6) (v : Int32) : D M0 T (up A 11 l v) gv (wI M 20 0 0 (14 + l) v) := h.w20 (h.1.puth hl v)
theorem D.T10 (h : D M0 T A gv M) : T ≤ 10 := h.1.1.1
theorem D.th (h : D M0 T A gv M) {t : Nat} (ht : t < T) {f : Nat} (hf : f < 18) : M.1 20 0 0 (20 + 20 * t + f) = A.1 t f := h.1.2.1 t f ht hf
theorem D.gl (h : D M0 T A gv M) (b : Nat) (hb : okg b = true) : M.1 20 0 0 b = A.1 10 b := h.1.2.2.1 b hb
theorem D.ho (h : D M0 T A gv M) {l : Nat} (hl : l < 6) : M.1 20 0 0 (14 + l) = A.1 11 l := h.1.2.2.2.1 l hl
theorem D.co (h : D M0 T A gv M) {t j : Nat} (ht : t < T) (h1 : j < 16) (h2 : j < (A.1 t 1).toNatClampNeg) : M.1 20 0 0 (220 + 2 * (16 * t + j)) = A.1 12 (16 * t + j) ∧ M.1 20 0 0 (220 + 2 * (16 * t + j) + 1) = A.1 13 (16 * t + j) := h.1.2.2.2.2.1 t j ht h1 h2
theorem D.cnt2 (h : D M0 T A gv M) : M.1 20 0 0 2 = nI T := (h.gl 2 rfl).trans h.1.1.2
theorem D.w28 (h : D M0 T A gv M) {a : Nat} {v : Int32} : D M0 T A gv (wI M 28 0 0 a v) := by
  have e : (wI M 28 0 0 a v).1 20 0 0 = M.1 20 0 0 := by
    funext j
    exact wI_kd (by omega)
  refine ⟨by rw [e]; exact h.1, ⟨by rw [wI_kd (by omega)]; exact h.2.1.1, h.2.1.2.1, fun i hi => by rw [wI_kd (by omega)]; exact h.2.1.2.2 i hi⟩, h.2.2.w28⟩
theorem m_ad {t f : Nat} {x : Int32} (hx : nI f = x) : ((20 : Int32) + ((20 : Int32) * nI t)) + x = nI (20 + 20 * t + f) := by
  subst hx
  show (nI 20 + nI 20 * nI t) + nI f = _
  rw [nI_mul, nI_add, nI_add]
theorem m_ofr {t f : Nat} {x : Int32} (hx : nI f = x) (ht : t < 10) (hf : f < 20) : pX8_of (nI t) x M = some (M.1 20 0 0 (20 + 20 * t + f), M) := by
  rw [pX8_of, m_ad hx, chk_h (inB_nI (by omega) (by omega)), cl (by omega)]
theorem m_of (h : D M0 T A gv M) {t : Nat} (ht : t < T) (f : Nat) {x : Int32} (hx : nI f = x) (hf : f < 18) : pX8_of (nI t) x M = some (A.1 t f, M) := by
  have := h.T10
  rw [m_ofr hx (by omega) (by omega), h.th ht hf]
theorem m_put (h : D M0 T A gv M) {t : Nat} (ht : t < T) (f : Nat) {x : Int32} (hx : nI f = x) (hf : f < 18) (h1 : ¬ f = 1) (v : Int32) : Sat (pX8_put (nI t) x v M) (fun _ M' => D M0 T (up A t f v) gv M') := by
  have := h.T10
  rw [pX8_put, m_ad hx, chk_h (inB_nI (by omega) (by omega)), cl (by omega)]
  exact S_ret (h.put ht hf h1 v)
theorem m_grow (h : D M0 T A gv M) {t : Nat} (ht : t < T) (f : Nat) {x : Int32} (hx : nI f = x) (hf : f < 18) (h1 : ¬ f = 1) : Sat (pX8_grow (nI t) x M) (fun _ M' => D M0 T (inc A t f) gv M') := by
  have := h.T10
  rw [pX8_grow, m_ad hx, nm_def, chk_h (inB_nI (by omega) (by omega)), chk_h (inB_nI (by omega) (by omega)), cl (by omega), h.th ht hf]
  exact S_ret (h.put ht hf h1 _)
theorem ib_0 : inB (0 : Int32) 700 = true := by decide
theorem cl_0 : (0 : Int32).toNatClampNeg = 0 := by decide
theorem ib_1 : inB (1 : Int32) 700 = true := by decide
theorem cl_1 : (1 : Int32).toNatClampNeg = 1 := by decide
theorem ib_2 : inB (2 : Int32) 700 = true := by decide
theorem cl_2 : (2 : Int32).toNatClampNeg = 2 := by decide
theorem ib_3 : inB (3 : Int32) 700 = true := by decide
theorem cl_3 : (3 : Int32).toNatClampNeg = 3 := by decide
theorem ib_4 : inB (4 : Int32) 700 = true := by decide
theorem cl_4 : (4 : Int32).toNatClampNeg = 4 := by decide
theorem ib_5 : inB (5 : Int32) 700 = true := by decide
theorem cl_5 : (5 : Int32).toNatClampNeg = 5 := by decide
theorem ib_6 : inB (6 : Int32) 700 = true := by decide
theorem cl_6 : (6 : Int32).toNatClampNeg = 6 := by decide
theorem ib_7 : inB (7 : Int32) 700 = true := by decide
theorem cl_7 : (7 : Int32).toNatClampNeg = 7 := by decide
theorem ib_8 : inB (8 : Int32) 700 = true := by decide
theorem cl_8 : (8 : Int32).toNatClampNeg = 8 := by decide
theorem ib_9 : inB (9 : Int32) 700 = true := by decide
theorem cl_9 : (9 : Int32).toNatClampNeg = 9 := by decide
theorem ib_10 : inB (10 : Int32) 700 = true := by decide
theorem cl_10 : (10 : Int32).toNatClampNeg = 10 := by decide
theorem ib_11 : inB (11 : Int32) 700 = true := by decide
theorem cl_11 : (11 : Int32).toNatClampNeg = 11 := by decide
theorem ib_12 : inB (12 : Int32) 700 = true := by decide
theorem cl_12 : (12 : Int32).toNatClampNeg = 12 := by decide
theorem ib_13 : inB (13 : Int32) 700 = true := by decide
theorem cl_13 : (13 : Int32).toNatClampNeg = 13 := by decide
end DPUT
