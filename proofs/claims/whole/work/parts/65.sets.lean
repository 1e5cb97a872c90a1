/-! ===== bestBase, saved states, settings ===== -/
section SETS
variable {n : Nat} {T : Nat} {A : AS} {M M1 M2 M3 M4 M5 : Mem}
theorem sb_inv (h : Inv T 10 A) {t b : Nat} (ht : t < T) (h1 : 1 ≤ b) (h9 : b ≤ 9) : Inv T 10 (up A t 0 (nI b)) := by
  have hT := h.T10
  have r : ∀ a c, ¬ (a = t ∧ c = 0) → (up A t 0 (nI b)).1 a c = A.1 a c := fun a c q => by rw [up_e, if_neg q]
  obtain ⟨a1, ⟨z, q, b1, b2, b3, b4, b5, b6⟩, a3, a4, a5, a6, a7⟩ := h.2.1 t ht
  refine h.thr (Or.inl rfl) (fun v c q1 q2 => r v c (by omega)) (r _ _ (by omega)) (r _ _ (by omega)) (r _ _ (by omega)) (r _ _ (by omega)) rfl (Nat.le_refl _) ht (r _ _ (by omega)) ?_ 10 (Or.inl rfl) (fun _ => ?_) (RI_mono (h.2.2.2.2.2.2 t ht) (fun c q1 q2 => r _ _ (by omega)) (Nat.le_refl _))
  · refine ⟨?_, ⟨z, q, ?_, ?_, b3, b4, ?_, fun j hj => ?_⟩, ?_, ?_, ?_, ?_, ?_⟩
    · rw [up_s, nI_toInt (by omega)]; omega
    · rw [r _ _ (by omega)]; exact b1
    · rw [r _ _ (by omega)]; exact b2
    · rw [r _ _ (by omega), r _ _ (by omega), r _ _ (by omega)]; exact b5
    · rw [r _ _ (by omega), r _ _ (by omega)]; exact b6 j hj
    · rw [r _ _ (by omega)]; exact a3
    · rw [r _ _ (by omega)]; exact a4
    · rw [r _ _ (by omega)]; exact a5
    · rw [r t 3 (by omega), r t 8 (by omega)]
      intro z
      obtain ⟨l, v, c1, c2, c3, c4, c5⟩ := a6 z
      exact ⟨l, v, c1, c2, c3, by rw [r _ _ (by omega)]; exact c4, c5⟩
    · rw [r t 3 (by omega), r t 8 (by omega)]; exact a7
  · have := h.2.2.1 t ht (by omega)
    unfold ZI at this ⊢
    rw [r _ _ (by omega), r _ _ (by omega), r _ _ (by omega)]; exact this
theorem c_cb {k : Nat} {M0 : Mem} (h : C true true k M0 T A [] M) {t : Nat} (ht : t < T) (v : Int32) : Sat (pX3_changeBase k (nI t) v M) (fun _ M' => C true true k M0 T (up A t 0 v) [] M') := by
  have hT := h.T10
  rw [pX3_changeBase, chk_h (inB_nI (by omega) (by omega)), cl (by omega)]
  refine S_w (h.weak.put' (f := 0) ht rfl (by omega) (fun q => (nomatch q)) v) (fun M1 h1 => ?_)
  rw [chk_h b01_1]
  exact S_w (h1.mark (p' := true)) (fun M2 h2 => S_ret h2)
theorem call_setBase (hJ : J n M) (v w : Int32) : LC qI (pL_setBase v w M) (pX8_setBase v w) n := by
  obtain ⟨T, A, hC, hD, hI, hB, hR⟩ := id hJ
  have hT := hI.T10
  rw [pL_setBase]
  by_cases e : isT T v = true
  · obtain ⟨t, ht, rfl⟩ := isT_t hT e
    by_cases e2 : rng w 1 9 = true
    · obtain ⟨b, q1, q2, rfl⟩ := rng_lo (lo := 1) (hi := 9) (by omega) (by omega) rfl rfl e2
      have h7 : Sat (pX7_setBase (nI t) (nI b) M) (fun o M' => o = .ok (A.1 t 0) ∧ C true true 0 M T (up A t 0 (nI b)) [] M') := by
        rw [pX7_setBase, c_thr hC, if_pos e, bndx_ok, c_rng, if_pos e2, bndx_ok, chk_h (inB_nI (by omega) (by omega)), cl (by omega), show M.1 5 0 t 4 = A.1 t 0 from hC.th ht 0 rfl, nm_def]
        exact S_bnd (c_cb hC ht (nI b)) (fun _ M1 h1 => S_ret ⟨rfl, h1⟩)
      obtain ⟨_, M1, e7, rfl, h1⟩ := h7
      refine LC_ok (g := _) e7 ?_ rfl
      have hD1 := J_mid (hD.fk h1.fkk) (A.1 t 0).toInt64
      rw [pX8_setBase, nm_def, m_thr hD1, if_pos e, bnd_some, if_pos (show ¬ (1 : Int32) = 0 by decide), m_rng, if_pos e2, bnd_some, if_pos (show ¬ (1 : Int32) = 0 by decide), m_of hD1 ht 0 (x := 0) rfl (by omega), bnd_some]
      refine S_bnd (m_put hD1 ht 0 (x := 0) rfl (by omega) (by omega) (nI b)) (fun _ M4 h4 => ?_)
      exact S_ret ⟨rfl, J_fin h1.re (hR.fk (by omega) h1.fkk) (sb_inv hI ht q1 q2) ⟨hB.1, by rw [up_a (by omega)]; exact hB.2⟩ _ h4⟩
    · refine LC_er (e := 2) (k := 2) (b := 0) (M2 := wI (wI M 19 0 0 7 0) 19 0 0 7 2) (by rw [pX7_setBase, c_thr hC, if_pos e, bndx_ok, c_rng, if_neg e2, bndx_er]) rfl ?_ (w7w7 _ _) (by decide) (J_w7 (J_w7 hJ 0) 2)
      rw [pX8_setBase, nm_def, m_thr (hD.w7 0), if_pos e, bnd_some, if_pos (show ¬ (1 : Int32) = 0 by decide), m_rng, if_neg e2, bnd_some, if_neg (not_not_intro rfl), m_fail, bnd_some]
  · refine LC_er (e := 3) (k := 1) (b := 0) (M2 := wI (wI M 19 0 0 7 0) 19 0 0 7 1) (by rw [pX7_setBase, c_thr hC, if_neg e, bndx_er]) rfl ?_ (w7w7 _ _) (by decide) (J_w7 (J_w7 hJ 0) 1)
    rw [pX8_setBase, nm_def, m_thr (hD.w7 0), if_neg e, bnd_some, if_neg (not_not_intro rfl), m_fail, bnd_some]
/-! bestBase -/
def fdF (T t : Nat) : Nat → Nat → AS → Nat
  | 0, j, _ => j
  | m + 1, j, A => if A.1 t 3 = 3 then j else fdF T t m (j + 1) (tick T A)
theorem fd_dn {t : Nat} : ∀ F m j A, F ≤ m + 1 → (∀ d, dnF T t m j A = some d → fdF T t F j A = if d < j + F then d else j + F) ∧ (dnF T t m j A = none → fdF T t F j A = j + F) := by
  intro F
  induction F with
  | zero =>
    intro m j A _
    refine ⟨fun d h => ?_, fun _ => rfl⟩
    have := dnF_le m j A d h
    rw [if_neg (by omega)]
    rfl
  | succ F ih =>
    intro m j A hF
    rw [fdF]
    by_cases e : A.1 t 3 = 3
    · rw [if_pos e]
      have : dnF T t m j A = some j := by cases m <;> rw [dnF, if_pos e]
      rw [this]
      refine ⟨fun d h => ?_, fun h => (nomatch h)⟩
      cases h
      rw [if_pos (by omega)]
    · rw [if_neg e]
      cases m with
      | zero =>
        have : F = 0 := by omega
        subst this
        rw [dnF, if_neg e]
        exact ⟨fun d h => (nomatch h), fun _ => rfl⟩
      | succ m =>
        have := ih m (j + 1) (tick T A) (by omega)
        rw [dnF, if_neg e, show j + (F + 1) = j + 1 + F from by omega]
        exact this
def bbS (T t most : Nat) (A : AS) (b : Nat) (s : Option (Nat × Nat)) : Option (Nat × Nat) := match dnF T t most 0 (up A t 0 (nI b)) with
  | none => s
  | some d => match s with
    | none => some (b, d)
    | some (b', l) => if d < l then some (b, d) else some (b', l)
def bbF (T t most : Nat) (A : AS) : Nat → Nat → Option (Nat × Nat) → Option (Nat × Nat)
  | 0, _, s => s
  | m + 1, b, s => bbF T t most A m (b + 1) (bbS T t most A b s)
def bb1 (s : Option (Nat × Nat)) : Int32 := match s with
  | none => -1
  | some (b, _) => nI b
def bbW (most : Nat) (s : Option (Nat × Nat)) : Nat := match s with
  | none => most + 1
  | some (_, l) => l
theorem c_bb65 {M0 : Mem} {t F : Nat} (ht : t < T) (hF : F ≤ 201) {v4 v6 : Int32} {Q : Except Nat Int32 → Mem → Prop} (k34 : Int32 → Nat → Int32 → Int32 → Int32 → Mem → Option (Except Nat Int32 × Mem)) : ∀ (m n j b : Nat) (A : AS) (M : Mem), j + m = F → m < n → C true true 1 M0 T A [] M → Inv T 10 A → Bd b A → b + m ≤ 270000 → (∀ M', Fk 1 M0 M' → Sat (pX7_bestBase_94 k34 (nI t) t v4 (nI F) v6 (nI (fdF T t m j A)) M') Q) → Sat (pX7_bestBase_65 k34 n (nI t) t v4 (nI F) v6 (nI j) M) Q := by
  intro m
  induction m with
  | zero =>
    intro n j b A M hj hn h hI hB hb K
    obtain ⟨n, rfl⟩ : ∃ n', n = n' + 1 := ⟨n - 1, by omega⟩
    rw [pX7_bestBase_65, if_pos (nI_le (by omega) (by omega))]
    exact K M h.fkk
  | succ m ih =>
    intro n j b A M hj hn h hI hB hb K
    obtain ⟨n, rfl⟩ : ∃ n', n = n' + 1 := ⟨n - 1, by omega⟩
    have r7 : M.1 5 1 t 7 = A.1 t 3 := h.th ht 3 rfl
    rw [pX7_bestBase_65, if_neg (nI_ge (by omega) (by omega)), r7, nI_1]
    rw [fdF] at K
    by_cases e : A.1 t 3 = 3
    · rw [if_pos e] at K ⊢
      exact K M h.fkk
    · rw [if_neg e] at K ⊢
      obtain ⟨k1, k2, -⟩ := tick_bd hI hB (by omega)
      exact S_bnd (c_tickB h hI hB (by omega)) (fun _ M1 h1 => ih n (j + 1) (b + 1) _ M1 (by omega) (by omega) h1 k1 k2 (by omega) K)
theorem bbW_le {t most : Nat} {s : Option (Nat × Nat)} (h : bbW most s ≤ most + 1) (b : Nat) : bbW most (bbS T t most A b s) ≤ most + 1 := by
  unfold bbS
  split
  · exact h
  · rename_i d e
    have := dnF_le _ _ _ _ e
    split
    · show d ≤ most + 1; omega
    · split
      · show d ≤ most + 1; omega
      · exact h
theorem c_bb34 {M0 : Mem} {t most : Nat} (hC : C true true 0 M0 T A [] M0) (hI : Inv T 10 A) (ht : t < T) (hm : most ≤ 200) {bd : Nat} (hB : Bd bd A) (hbd : bd ≤ 260000) : ∀ (m n b : Nat) (s : Option (Nat × Nat)) (M : Mem), b + m = 10 → 1 ≤ b → m < n → Fk 1 M0 M → bbW most s ≤ most + 1 → Sat (pX7_bestBase_34 n (nI t) t (bb1 s) (nI (bbW most s)) (nI b) M) (fun o M' => o = .ok (bb1 (bbF T t most A m b s)) ∧ Fk 1 M0 M') := by
  have hT := hI.T10
  intro m
  induction m with
  | zero =>
    intro n b s M hb h1 hn hF hW
    obtain ⟨n, rfl⟩ : ∃ n', n = n' + 1 := ⟨n - 1, by omega⟩
    rw [pX7_bestBase_34, if_pos (show (9 : Int32) < nI b from nI_lt (a := 9) (by omega) (by omega))]
    exact S_ret ⟨rfl, hF⟩
  | succ m ih =>
    intro n b s M hb h1 hn hF hW
    obtain ⟨n, rfl⟩ : ∃ n', n = n' + 1 := ⟨n - 1, by omega⟩
    rw [pX7_bestBase_34, if_neg (show ¬ (9 : Int32) < nI b from nI_nlt (a := 9) (by omega) (by omega))]
    refine S_bnd (c_copy (k := 1) (k1 := 0) (by omega) (hC.fk (k' := 1) (by omega) hF) hI) (fun _ M1 h1' => ?_)
    refine S_bnd (c_cb h1' ht (nI b)) (fun _ M2 h2 => ?_)
    have hB2 : Bd bd (up A t 0 (nI b)) := ⟨hB.1, by rw [up_a (by omega)]; exact hB.2⟩
    refine c_bb65 ht (by omega) _ (bbW most s) fu 0 bd _ M2 (by omega) (by show _ < 4096; omega) h2 (sb_inv hI ht h1 (by omega)) hB2 (by omega) (fun M3 h3 => ?_)
    have hF3 : Fk 1 M0 M3 := hF.trans h3
    have hfd := fd_dn (T := T) (t := t) (bbW most s) most 0 (up A t 0 (nI b)) hW
    rw [pX7_bestBase_94, nI_1]
    have hnext := ih n (b + 1) (bbS T t most A b s) M3 (by omega) (by omega) (by omega) hF3 (bbW_le hW b)
    show Sat _ (fun (o : Except Nat Int32) M' => o = .ok (bb1 (bbF T t most A m (b + 1) (bbS T t most A b s))) ∧ Fk 1 M0 M')
    cases ed : dnF T t most 0 (up A t 0 (nI b)) with
    | none =>
      have e1 := hfd.2 ed
      rw [Nat.zero_add] at e1
      have e2 : bbS T t most A b s = s := by unfold bbS; rw [ed]
      rw [e2] at hnext ⊢
      rw [e1, if_pos (nI_le (Nat.le_refl _) (by omega))]
      exact hnext
    | some d =>
      have e1 := hfd.1 d ed
      have hd := dnF_le _ _ _ _ ed
      rw [Nat.zero_add] at e1
      rw [e1]
      by_cases e3 : d < bbW most s
      · rw [if_pos e3, if_neg (nI_ge e3 (by omega))]
        have e2 : bbS T t most A b s = some (b, d) := by
          unfold bbS
          rw [ed]
          cases s with
          | none => rfl
          | some p => exact if_pos e3
        rw [e2] at hnext ⊢
        exact hnext
      · rw [if_neg e3, if_pos (nI_le (Nat.le_refl _) (by omega))]
        have e2 : bbS T t most A b s = s := by
          unfold bbS
          rw [ed]
          cases s with
          | none => exact absurd (show d < most + 1 by omega) e3
          | some p => exact if_neg e3
        rw [e2] at hnext ⊢
        exact hnext
theorem m_back22' {T' : Nat} {A' : AS} (hD5 : D M4 T' A' [] M5) (hs : ∀ j, j < 700 → M4.1 22 0 0 j = M3.1 20 0 0 j) (hv : D M3 T A [] M3) : Sat (pX8_copy_22_20 0 0 M5) (fun _ M6 => D M6 T A [] M6 ∧ Fw M4 M6 ∧ ∀ j, M6.1 22 0 0 j = M4.1 22 0 0 j) := by
  have hF := hD5.2.2
  refine S_mono (cp_22_20 (M := M5) (a := 0) (b := 0) (by omega) (by omega)) (fun _ M6 h6 => ?_)
  obtain ⟨c1, c2, c3⟩ := h6
  refine ⟨⟨hv.1.cong (fun j hj => ?_), ⟨by rw [c2 _ _ _ _ (by omega)]; exact hD5.2.1.1, hD5.2.1.2.1, fun i hi => absurd hi (Nat.not_lt_zero _)⟩, Fm.refl _⟩, ⟨c3.trans hF.1, fun kd k i j q1 _ _ q4 q5 q6 => ?_⟩, fun j => ?_⟩
  · have := c1 j hj
    rw [Nat.zero_add, hF.2 _ _ _ _ (by omega) (by omega) (by omega) (by omega), hs j hj] at this
    exact this
  · rw [c2 _ _ _ _ (by omega)]
    exact hF.2 _ _ _ _ q1 q4 q5 q6
  · rw [c2 _ _ _ _ (by omega)]
    exact hF.2 _ _ _ _ (by omega) (by omega) (by omega) (by omega)
theorem m_bb57 {t most : Nat} (hI : Inv T 10 A) (ht : t < T) (hm : most ≤ 200) {bd : Nat} (hB : Bd bd A) (hbd : bd ≤ 260000) (hD0 : D M3 T A [] M3) : ∀ (m n b : Nat) (s : Option (Nat × Nat)) (v4 : Int32) (M : Mem), b + m = 10 → 1 ≤ b → m < n → D M T A [] M → (∀ j, j < 700 → M.1 22 0 0 j = M3.1 20 0 0 j) → Fw M3 M → (∀ b' l, s = some (b', l) → v4 = nI l ∧ l ≤ most ∧ b' < 10) → Sat (pX8_bestBase_57 n (nI t) (nI most) (bb1 s) v4 (nI b) M) (fun o M' => o = bb1 (bbF T t most A m b s) ∧ D M' T A [] M' ∧ Fw M3 M') := by
  have hT := hI.T10
  intro m
  induction m with
  | zero =>
    intro n b s v4 M hb h1 hn h hs hF hv
    obtain ⟨n, rfl⟩ : ∃ n', n = n' + 1 := ⟨n - 1, by omega⟩
    rw [pX8_bestBase_57, if_pos (show (9 : Int32) < nI b from nI_lt (a := 9) (by omega) (by omega))]
    exact S_ret ⟨rfl, h, hF⟩
  | succ m ih =>
    intro n b s v4 M hb h1 hn h hs hF hv
    obtain ⟨n, rfl⟩ : ∃ n', n = n' + 1 := ⟨n - 1, by omega⟩
    rw [pX8_bestBase_57, if_neg (show ¬ (9 : Int32) < nI b from nI_nlt (a := 9) (by omega) (by omega))]
    refine S_bnd (m_put h ht 0 (x := 0) rfl (by omega) (by omega) (nI b)) (fun _ M1 h1' => ?_)
    have hB2 : Bd bd (up A t 0 (nI b)) := ⟨hB.1, by rw [up_a (by omega)]; exact hB.2⟩
    refine S_bnd (m_dn ht (by omega) most fu 0 bd _ M1 (by omega) (by show _ < 4096; omega) h1' (sb_inv hI ht h1 (by omega)) hB2 (by omega)) (fun o M2 h2 => ?_)
    obtain ⟨rfl, A', h2⟩ := h2
    have go : ∀ (s' : Option (Nat × Nat)) (v4' : Int32), bbS T t most A b s = s' → (∀ b' l, s' = some (b', l) → v4' = nI l ∧ l ≤ most ∧ b' < 10) → Sat (pX8_bestBase_105 (fun v1 v2 v3 v4 v5 M => pX8_bestBase_57 n v1 v2 v3 v4 v5 M) (nI t) (nI most) (bb1 s') v4' (nI b) M2) (fun o M' => o = bb1 (bbF T t most A (m + 1) b s) ∧ D M' T A [] M' ∧ Fw M3 M') := fun s' v4' es hv' => by
      rw [pX8_bestBase_105, nI_1]
      refine S_bnd (m_back22' (M4 := M) h2 hs hD0) (fun _ M6 h6 => ?_)
      obtain ⟨d6, f6, s6⟩ := h6
      have hs6 : ∀ j, j < 700 → M6.1 22 0 0 j = M3.1 20 0 0 j := fun j hj => by rw [s6, hs j hj]
      show Sat _ (fun o M' => o = bb1 (bbF T t most A m (b + 1) (bbS T t most A b s)) ∧ D M' T A [] M' ∧ Fw M3 M')
      rw [es]
      exact ih n (b + 1) s' v4' M6 (by omega) (by omega) (by omega) d6 hs6 (hF.trans f6) hv'
    cases ed : dnF T t most 0 (up A t 0 (nI b)) with
    | none =>
      rw [onI_none, if_pos rfl]
      exact go s v4 (by unfold bbS; rw [ed]) hv
    | some d =>
      have hd := dnF_le _ _ _ _ ed
      rw [onI_some, if_neg (m1_ne (by omega))]
      cases s with
      | none =>
        rw [if_pos (show bb1 none = -1 from rfl)]
        exact go (some (b, d)) (nI d) (by unfold bbS; rw [ed]) (fun b' l z => by cases z; exact ⟨rfl, by omega, by omega⟩)
      | some p =>
        obtain ⟨b', l⟩ := p
        obtain ⟨q1, q2, q3⟩ := hv b' l rfl
        subst q1
        rw [if_neg (show ¬ bb1 (some (b', l)) = -1 from m1_ne (by omega))]
        by_cases e3 : d < l
        · rw [if_neg (nI_ge e3 (by omega))]
          exact go (some (b, d)) (nI d) (by unfold bbS; rw [ed]; exact if_pos e3) (fun b' l z => by cases z; exact ⟨rfl, by omega, by omega⟩)
        · rw [if_pos (nI_le (by omega) (by omega))]
          exact go (some (b', l)) (nI l) (by unfold bbS; rw [ed]; exact if_neg e3) (fun b' l z => by cases z; exact ⟨rfl, by omega, by omega⟩)
end SETS
