/-! ===== the reference's log, threads, who waits ===== -/
section MNOTE
variable {rd : Nat → Int32} {M0 : Mem} {T : Nat} {A : AS} {gv : List Nat} {M : Mem}
def shf (rd : Nat → Int32) (j : Nat) : Nat → Int32 := fun a => if 540 ≤ a ∧ a < 540 + j then rd (a + 4) else rd a
def wr6 (rd : Nat → Int32) (x : Nat) (t k h i : Int32) : Nat → Int32 := upr (upr (upr (upr (upr (upr rd x t) (x + 1) k) (x + 2) h) (x + 3) i) 7 (rd 7 + 1)) 13 (rd 13 + 1)
theorem m_n64 {e : Nat} (h7 : M.1 20 0 0 7 = nI e) (he : e < 40) (hg : Dg gv M) (hF : Fm M0 M) (k th i : Int32) : Sat (pX8_note_64 k th i M) (fun _ M' => M'.1 20 0 0 = wr6 (M.1 20 0 0) (540 + 4 * e) (M.1 20 0 0 3) k th i ∧ Dg gv M' ∧ Fm M0 M') := by
  have ex : (540 : Int32) + ((4 : Int32) * nI e) = nI (540 + 4 * e) := by
    show nI 540 + nI 4 * nI e = _
    rw [nI_mul, nI_add]
  generalize hx : 540 + 4 * e = x at ex
  have c0 : inB (nI x) 700 = true := inB_nI (by omega) (by omega)
  have c1 : inB (nI (x + 1)) 700 = true := inB_nI (by omega) (by omega)
  have c2 : inB (nI (x + 2)) 700 = true := inB_nI (by omega) (by omega)
  have c3 : inB (nI (x + 3)) 700 = true := inB_nI (by omega) (by omega)
  have d0 : (nI x).toNatClampNeg = x := cl (by omega)
  have d1 : (nI (x + 1)).toNatClampNeg = x + 1 := cl (by omega)
  have d2 : (nI (x + 2)).toNatClampNeg = x + 2 := cl (by omega)
  have d3 : (nI (x + 3)).toNatClampNeg = x + 3 := cl (by omega)
  rw [pX8_note_64, chk_h ib_7, cl_7, h7, ex, cl_3, cl_13]
  simp only [nm_def, nI_1, nI_a2, nI_a3, c0, c1, c2, c3, chk_t, d0, d1, d2, d3, chk_h ib_7, chk_h ib_3, chk_h ib_13]
  refine S_ret ⟨?_, hg.w20.w20.w20.w20.w20.w20, hF.w20.w20.w20.w20.w20.w20⟩
  rw [wI20, wI20, wI20, wI20, wI20, wI20]
  unfold wr6
  rw [upr_n (a := x + 3) (j := 7) (by omega), upr_n (a := x + 2) (j := 7) (by omega), upr_n (a := x + 1) (j := 7) (by omega), upr_n (a := x) (j := 7) (by omega), upr_n (a := 7) (j := 13) (by omega), upr_n (a := x + 3) (j := 13) (by omega), upr_n (a := x + 2) (j := 13) (by omega), upr_n (a := x + 1) (j := 13) (by omega), upr_n (a := x) (j := 13) (by omega)]
theorem m_n15 {Q : Unit → Mem → Prop} {k th i : Int32} (K : ∀ M' : Mem, M'.1 20 0 0 = shf rd 156 → Dg gv M' → Fm M0 M' → Sat (nm (wI M' 20 0 0 7 (M'.1 20 0 0 7 - (1 : Int32))) fun M2 => pX8_note_64 k th i M2) Q) : ∀ (m n j : Nat) (M : Mem), j + m = 156 → m < n → M.1 20 0 0 = shf rd j → Dg gv M → Fm M0 M → Sat (pX8_note_15 n k th i (nI j) M) Q := by
  intro m
  induction m with
  | zero =>
    intro n j M hj hn he hg hF
    obtain ⟨n, rfl⟩ : ∃ n', n = n' + 1 := ⟨n - 1, by omega⟩
    have : j = 156 := by omega
    subst this
    rw [pX8_note_15, if_pos (show (156 : Int32) ≤ nI 156 from nI_le (a := 156) (by omega) (by omega)), chk_h ib_7, chk_h ib_7, cl_7]
    exact K M he hg hF
  | succ m ih =>
    intro n j M hj hn he hg hF
    obtain ⟨n, rfl⟩ : ∃ n', n = n' + 1 := ⟨n - 1, by omega⟩
    have e1 : (540 : Int32) + nI j = nI (540 + j) := nI_add 540 j
    have e2 : nI (540 + j) + (4 : Int32) = nI (540 + j + 4) := nI_add (540 + j) 4
    rw [pX8_note_15, if_neg (show ¬ (156 : Int32) ≤ nI j from nI_ge (b := 156) (by omega) (by omega)), e1, e2, chk_h (inB_nI (by omega) (by omega)), chk_h (inB_nI (by omega) (by omega)), cl (by omega), cl (by omega), nI_1, nm_def]
    refine ih n (j + 1) _ (by omega) (by omega) ?_ hg.w20 hF.w20
    rw [wI20, he]
    funext a
    unfold upr shf
    by_cases ea : a = 540 + j
    · subst ea
      rw [if_pos rfl, if_neg (by omega), if_pos (by omega)]
    · rw [if_neg ea]
      by_cases eb : 540 ≤ a ∧ a < 540 + j
      · rw [if_pos eb, if_pos (by omega)]
      · rw [if_neg eb, if_neg (by omega)]
theorem m_note1 (h : D1 M0 T A gv M) (hn : A.2.1.length < LIM) (kind th its : Int32) : Sat (pX8_note kind th its M) (fun _ M' => D M0 T (note A kind th its) gv M') := by
  obtain ⟨hv, hg, hF⟩ := h
  have h3 : M.1 20 0 0 3 = A.1 10 3 := hv.2.2.1 3 rfl
  obtain ⟨g1, g2, g3, g4⟩ := hv.2.2.2.2.2.1
  rw [LIM_eq] at g1
  rw [pX8_note, chk_h ib_7, cl_7, g2]
  by_cases e : A.2.1.length < 40
  · have em : min A.2.1.length 40 = A.2.1.length := by omega
    have em1 : min (A.2.1.length + 1) 40 = A.2.1.length + 1 := by omega
    rw [em] at g2 g4 ⊢
    rw [if_pos (show ¬ nI A.2.1.length = 40 from fun q => by have := nI_inj (b := 40) (by omega) (by omega) q; omega)]
    refine S_mono (m_n64 g2 e hg hF kind th its) (fun _ M' h' => ?_)
    obtain ⟨p1, p2, p3⟩ := h'
    refine ⟨?_, p2, p3⟩
    rw [p1]
    unfold wr6
    refine hv.noted (Nat.le_refl 1) hn kind th its (fun j q1 q2 q3 => ?_) ?_ ?_ (fun i q1 q2 c q3 => ?_) (fun c hc => ?_)
    · rw [upr_n q3, upr_n q2, upr_n (by omega), upr_n (by omega), upr_n (by omega), upr_n (by omega)]
    · rw [upr_n (by omega), upr_s, g2, nI_1, em1]
    · rw [upr_s, g3, nI_1]
    · rw [em1, em, upr_n (by omega), upr_n (by omega), upr_n (by omega), upr_n (by omega), upr_n (by omega), upr_n (by omega), show A.2.1.length + 1 - 2 - i = A.2.1.length - 1 - i from by omega]
    · rw [em1, upr_n (by omega), upr_n (by omega)]
      have : c = 0 ∨ c = 1 ∨ c = 2 ∨ c = 3 := by omega
      rcases this with rfl | rfl | rfl | rfl
      · rw [upr_n (by omega), upr_n (by omega), upr_n (by omega), upr_e, if_pos (by omega), h3]; rfl
      · rw [upr_n (by omega), upr_n (by omega), upr_e, if_pos (by omega)]; rfl
      · rw [upr_n (by omega), upr_e, if_pos (by omega)]; rfl
      · rw [upr_e, if_pos (by omega)]; rfl
  · have em : min A.2.1.length 40 = 40 := by omega
    have em1 : min (A.2.1.length + 1) 40 = 40 := by omega
    rw [em] at g2 g4 ⊢
    rw [if_neg (show ¬ ¬ nI 40 = 40 from fun q => q rfl)]
    refine m_n15 (rd := M.1 20 0 0) (gv := gv) (M0 := M0) (fun M1 q1 q2 q3 => ?_) 156 fu 0 M (by omega) (by decide) (by
      funext a
      unfold shf
      rw [if_neg (by omega)]) hg hF
    have q7 : M1.1 20 0 0 7 = nI 40 := by rw [q1]; unfold shf; rw [if_neg (by omega)]; exact g2
    rw [q7, show nI 40 - (1 : Int32) = nI 39 from nI_pred 39]
    refine S_w (P := fun M2 => M2.1 20 0 0 = upr (shf (M.1 20 0 0) 156) 7 (nI 39) ∧ Dg gv M2 ∧ Fm M0 M2) ⟨by rw [wI20, q1], q2.w20, q3.w20⟩ (fun M2 h2 => ?_)
    obtain ⟨r1, r2, r3⟩ := h2
    have r7 : M2.1 20 0 0 7 = nI 39 := by rw [r1, upr_s]
    have rr3 : M2.1 20 0 0 3 = A.1 10 3 := by rw [r1, upr_n (by omega)]; unfold shf; rw [if_neg (by omega)]; exact h3
    refine S_mono (m_n64 r7 (by omega) r2 r3 kind th its) (fun _ M' h' => ?_)
    obtain ⟨p1, p2, p3⟩ := h'
    refine ⟨?_, p2, p3⟩
    rw [p1, rr3]
    have s0 : ∀ j, j < 540 → ¬ j = 7 → M2.1 20 0 0 j = M.1 20 0 0 j := fun j a1 a2 => by
      rw [r1, upr_n a2]; unfold shf; rw [if_neg (by omega)]
    have s1 : ∀ j, 540 ≤ j → j < 696 → M2.1 20 0 0 j = M.1 20 0 0 (j + 4) := fun j a1 a2 => by
      rw [r1, upr_n (by omega)]; unfold shf; rw [if_pos (by omega)]
    unfold wr6
    refine hv.noted (Nat.le_refl 1) hn kind th its (fun j q1 q2 q3 => ?_) ?_ ?_ (fun i q1 q2 c q3 => ?_) (fun c hc => ?_)
    · rw [upr_n q3, upr_n q2, upr_n (by omega), upr_n (by omega), upr_n (by omega), upr_n (by omega), s0 j q1 q2]
    · rw [upr_n (by omega), upr_s, r7, nI_1, em1]
    · rw [upr_s, s0 13 (by omega) (by omega), g3, nI_1]
    · rw [em1, em, upr_n (by omega), upr_n (by omega), upr_n (by omega), upr_n (by omega), upr_n (by omega), upr_n (by omega), s1 _ (by omega) (by omega), show 540 + 4 * (40 - 2 - i) + c + 4 = 540 + 4 * (40 - 1 - i) + c from by omega]
    · rw [em1, upr_n (by omega), upr_n (by omega)]
      have : c = 0 ∨ c = 1 ∨ c = 2 ∨ c = 3 := by omega
      rcases this with rfl | rfl | rfl | rfl
      · rw [upr_n (by omega), upr_n (by omega), upr_n (by omega), upr_e, if_pos (by omega)]; rfl
      · rw [upr_n (by omega), upr_n (by omega), upr_e, if_pos (by omega)]; rfl
      · rw [upr_n (by omega), upr_e, if_pos (by omega)]; rfl
      · rw [upr_e, if_pos (by omega)]; rfl
theorem D.d1 (h : D M0 T A gv M) : D1 M0 T A gv M := ⟨⟨h.1.1, h.1.2.1, h.1.2.2.1, h.1.2.2.2.1, h.1.2.2.2.2.1, h.1.2.2.2.2.2.1, h.1.2.2.2.2.2.2.1, by have := h.1.2.2.2.2.2.2.2.1; omega, h.1.2.2.2.2.2.2.2.2⟩, h.2⟩
theorem m_note (h : D M0 T A gv M) (hn : A.2.1.length < LIM) (kind th its : Int32) : Sat (pX8_note kind th its M) (fun _ M' => D M0 T (note A kind th its) gv M') := m_note1 h.d1 hn kind th its
theorem m_btw (a lo hi : Int32) : pX8_isBetween a lo hi M = some ((if a < lo then 0 else if hi < a then 0 else 1), M) := by
  rw [pX8_isBetween, chk_h b01_0, chk_h b01_1]
  by_cases e : a < lo
  · rw [if_pos e, if_pos e]
  · rw [if_neg e, if_neg e]
    by_cases e2 : hi < a
    · rw [if_pos e2, if_pos e2]
    · rw [if_neg e2, if_neg e2]
theorem b01_if {c : Prop} [Decidable c] {x y : Int32} (hx : x = 0 ∨ x = 1) (hy : y = 0 ∨ y = 1) : decide ((if c then x else y) = 0 ∨ (if c then x else y) = 1) = true := by
  by_cases e : c
  · rw [if_pos e]; exact decide_eq_true hx
  · rw [if_neg e]; exact decide_eq_true hy
theorem m_isT (h : D M0 T A gv M) {x : Nat} (hx : x < 2147483648) : pX8_isThread (nI x) M = some ((if x < T then 1 else 0), M) := by
  have hT := h.T10
  rw [pX8_isThread, chk_h ib_2, cl_2, h.cnt2, m_btw, bnd_some]
  have e0 : ¬ nI x < (0 : Int32) := nI_pos (by omega)
  rw [if_neg e0]
  by_cases e : x < T
  · have e1 : nI T - 1 = nI (T - 1) := by
      obtain ⟨T', rfl⟩ : ∃ T', T = T' + 1 := ⟨T - 1, by omega⟩
      exact nI_pred T'
    rw [if_pos e, e1, if_neg (nI_nlt (by omega) (by omega))]
    rfl
  · rw [if_neg e]
    have : nI T - 1 < nI x := by
      by_cases e2 : T = 0
      · subst e2
        rw [i32_lt, nI_toInt (by omega)]
        have : (nI 0 - 1).toInt = -1 := by decide
        omega
      · have e1 : nI T - 1 = nI (T - 1) := by
          obtain ⟨T', rfl⟩ : ∃ T', T = T' + 1 := ⟨T - 1, by omega⟩
          exact nI_pred T'
        rw [e1]
        exact nI_lt (by omega) (by omega)
    rw [if_pos this]
    rfl
theorem m_isTn (h : D M0 T A gv M) {v : Int32} (hv : v < 0) : pX8_isThread v M = some (0, M) := by
  rw [pX8_isThread, chk_h ib_2, m_btw, bnd_some, if_pos hv]
  rfl
end MNOTE
