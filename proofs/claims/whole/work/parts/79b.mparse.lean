/-! ===== the reference reads statements ===== -/
section MPARSE
variable {n : Nat} {b : Nat → Nat} {T : Nat} {A : AS} {p : Nat} {M M' M0 M1 M2 M3 : Mem}
def Hf (M0 M : Mem) : Prop := M.2.2 = M0.2.2 ∧ ∀ kd k i j, ¬ kd = 20 → ¬ kd = 28 → ¬ kd = 29 → ¬ (kd = 19 ∧ (10 ≤ j ∧ j ≤ 16 ∨ j = 20)) → M.1 kd k i j = M0.1 kd k i j
theorem Hf.fr (h : Hf M0 M) (hF : Fr M M1) : Hf M0 M1 := ⟨hF.1.trans h.1, fun a c d e q1 q2 q3 q4 => (hF.2 a c d e (by omega)).trans (h.2 a c d e q1 q2 q3 q4)⟩
theorem Hf.fm (h : Hf M0 M) (hF : Fm M M1) : Hf M0 M1 := ⟨(congrArg Prod.snd hF.1).trans h.1, fun a c d e q1 q2 q3 q4 => (hF.2 a c d e q1 q2 q3 (by omega)).trans (h.2 a c d e q1 q2 q3 q4)⟩
theorem TxM.hf (h : TxM M0 n b) (hF : Hf M0 M) : TxM M n b := ⟨h.1, by rw [hF.2 _ _ _ _ (by omega) (by omega) (by omega) (by omega)]; exact h.2.1, fun i hi => by rw [hF.2 _ _ _ _ (by omega) (by omega) (by omega) (by omega)]; exact h.2.2 i hi⟩
def Q8 (M0 : Mem) (n : Nat) (b : Nat → Nat) (T : Nat) (A : AS) (p : Nat) (M : Mem) : Prop := D M T A [] M ∧ Hf M0 M ∧ Tm n b p M ∧ M.1 19 0 0 15 = 0 ∧ M.1 19 0 0 16 = -1
def F8 (M0 : Mem) (e s : Nat) (M : Mem) : Prop := Hf M0 M ∧ ¬ M.1 19 0 0 15 = 0 ∧ M.1 19 0 0 15 = nI e ∧ M.1 19 0 0 16 = nI s ∧ (M.1 19 0 0 12 = 4 → inB (M.1 19 0 0 11) 800 = true) ∧ M.1 19 0 0 20 = 0
def R8 {α : Type} (M0 : Mem) (P : α → Mem → Prop) (r : Except PE α) (M : Mem) : Prop := match r with
  | .ok x => P x M
  | .error q => F8 M0 q.1 q.2 M
theorem Q8.fm (h : Q8 M0 n b T A p M) {T' : Nat} {A' : AS} (hD : D M T' A' [] M1) : Q8 M0 n b T' A' p M1 := by
  obtain ⟨q1, q2, ⟨k12, k11, k10, kw, kn⟩, q4, q5⟩ := h
  have hF := hD.2.2
  have r : ∀ j, ¬ j = 20 → M1.1 19 0 0 j = M.1 19 0 0 j := fun j hj => hF.2 _ _ _ _ (by omega) (by omega) (by omega) (by omega)
  refine ⟨hD.re, q2.fm hF, ⟨by rw [r _ (by omega)]; exact k12, by rw [r _ (by omega)]; exact k11, by rw [r _ (by omega)]; exact k10, fun z => ?_, fun z => ?_⟩, by rw [r _ (by omega)]; exact q4, by rw [r _ (by omega)]; exact q5⟩
  · rw [r _ (by omega), hF.1]; exact kw z
  · rw [r _ (by omega)]; exact kn z
theorem Kd_lt8 (hb : ∀ i, i < n → b i < 256) (p : Nat) : Kd n b p < 256 := by
  unfold Kd
  by_cases e : sk n b p < n
  · rw [if_pos e]; exact kdB_lt (hb _ e)
  · rw [if_neg e]; omega
theorem k8_lt (c : Nat) : k8 c < 5 := by unfold k8; (repeat' split) <;> omega
theorem k8_3 {c : Nat} : k8 c = 3 ↔ c = 2 := by unfold k8; (repeat' split) <;> omega
theorem k8_4 {c : Nat} : k8 c = 4 ↔ ¬ c = 0 ∧ ¬ c = 1 ∧ ¬ c = 2 ∧ ¬ c = 3 := by unfold k8; (repeat' split) <;> omega
theorem k8_0 {c : Nat} : k8 c = 0 ↔ c = 0 := by unfold k8; (repeat' split) <;> omega
theorem m_rd (h : Q8 M0 n b T A p M) (hT : TxM M0 n b) (hp : p ≤ n) : Sat (pX8_advance M) (fun _ M' => Q8 M0 n b T A (nxt n b p) M') := by
  obtain ⟨q1, q2, q3, q4, q5⟩ := h
  rw [pX8_advance, g_fine q4, bnd_some, if_neg (show ¬ (1 : Int32) = 0 by decide)]
  refine S_bnd (m_tok (nxt_le hp).2.1 (hT.hf q2) q3.2.2.1) (fun _ M' h' => ?_)
  obtain ⟨f1, f2⟩ := h'
  exact S_ret ⟨q1.mv (fun j => f1.2 _ _ _ _ (by omega)) (fun j => f1.2 _ _ _ _ (by omega)) (f1.2 _ _ _ _ (by omega)), q2.fr f1, f2, by rw [f1.2 _ _ _ _ (by omega)]; exact q4, by rw [f1.2 _ _ _ _ (by omega)]; exact q5⟩
theorem m_rq (h : Q8 M0 n b T A p M) (hT : TxM M0 n b) (hp : p ≤ n) {e : Nat} (he : 1 ≤ e) (he2 : e < 100) : Sat (pX8_require 0 (nI e) M) (fun _ M' => F8 M0 e (sk n b p) M') := by
  obtain ⟨q1, q2, q3, q4, q5⟩ := h
  rw [pX8_require, if_neg (not_not_intro rfl), if_neg (not_not_intro q4), nm_def, nm_def]
  refine S_ret ⟨⟨q2.1, fun a c d e q1 q2' q3 q4 => ?_⟩, ?_, ?_, ?_, fun z => ?_, ?_⟩
  · rw [wI_e, if_neg (by omega), wI_e, if_neg (by omega)]
    exact q2.2 a c d e q1 q2' q3 q4
  · rw [wI_j (by omega), wI_s]
    exact fun z => by have := nI_inj (by omega) (b := 0) (by omega) z; omega
  · rw [wI_j (by omega), wI_s]
  · rw [wI_s, wI_j (by omega)]
    exact q3.2.1
  · rw [wI_j (by omega), wI_j (by omega), q3.1] at z
    have hk := k8_lt (Kd n b p)
    have z2 := nI_inj (by omega) (b := 4) (by omega) z
    have z3 := k8_4.mp z2
    rw [wI_j (by omega), wI_j (by omega), q3.2.1]
    have hs : sk n b p < n := by
      by_cases e : sk n b p < n
      · exact e
      · exact absurd (if_neg e) z3.1
    have := hT.1
    exact inB_nI (by omega) (by omega)
  · rw [wI_j (by omega), wI_j (by omega)]
    exact q1.2.1.1
theorem m_lookS (h : Q8 M0 n b T A p M) (hT : TxM M0 n b) (hp : p ≤ n) {lo hi : Nat} {l hh : Int32} (el : nI lo = l) (eh : nI hi = hh) (hlo : lo ≤ 1000002) (hhi : hi ≤ 1000002) : Sat (pX8_look l hh M) (fun _ M' => R8 M0 (fun v M' => M' = M ∧ M.1 19 0 0 14 = nI v) (spN n b lo hi p) M') := by
  subst el
  subst eh
  have hk := k8_lt (Kd n b p)
  rw [pX8_look, h.2.2.1.1]
  unfold spN
  by_cases e : Kd n b p = 2
  · obtain ⟨v, v1, v2, v3⟩ := h.2.2.1.2.2.2.2 e
    unfold Ce at v3
    have er : rng (nI v) (nI lo) (nI hi) = true ↔ lo ≤ v ∧ v ≤ hi := by
      unfold rng
      rw [decide_eq_true_iff, nI_ltI (by omega) (by omega), nI_leI (by omega) (by omega)]
      omega
    rw [if_neg (not_not_intro (show nI (k8 (Kd n b p)) = 3 from congrArg nI (k8_3.mpr e))), if_pos e, pX8_look_14, g_req 1 1 (by decide), bnd_some, v2, m_rng, bnd_some]
    by_cases eb : lo ≤ v ∧ v ≤ hi
    · rw [if_pos (er.mpr eb), if_pos (by omega), g_req 1 2 (by decide), bnd_some]
      exact S_ret ⟨rfl, congrArg nI (by omega)⟩
    · rw [if_neg (fun q => eb (er.mp q)), if_neg (by omega)]
      exact S_bnd (m_rq h hT hp (e := 2) (by omega) (by omega)) (fun _ M1 h1 => S_ret h1)
  · rw [if_pos (show ¬ nI (k8 (Kd n b p)) = 3 from fun z => e (k8_3.mp (nI_inj (by omega) (b := 3) (by omega) z))), if_neg e, pX8_look_14]
    refine S_bnd (m_rq h hT hp (e := 1) (by omega) (by omega)) (fun _ M1 h1 => ?_)
    rw [m_rng, bnd_some, z_req h1.2.1, bnd_some]
    exact S_ret h1
theorem m_numS (h : Q8 M0 n b T A p M) (hT : TxM M0 n b) (hp : p ≤ n) {lo hi : Nat} {l hh : Int32} (el : nI lo = l) (eh : nI hi = hh) (hlo : lo ≤ 1000002) (hhi : hi ≤ 1000002) : Sat (pX8_parseNumber l hh M) (fun o M' => R8 M0 (fun v M' => o = nI v ∧ Q8 M0 n b T A (nxt n b p) M') (spN n b lo hi p) M') := by
  rw [pX8_parseNumber]
  refine S_bnd (m_lookS h hT hp el eh hlo hhi) (fun _ M1 h1 => ?_)
  rw [nm_def]
  cases hr : spN n b lo hi p with
  | error q =>
    rw [hr] at h1
    rw [z_adv h1.2.1, bnd_some]
    exact S_ret h1
  | ok v =>
    rw [hr] at h1
    obtain ⟨rfl, h2⟩ := h1
    refine S_bnd (m_rd h hT hp) (fun _ M2 h3 => S_ret ⟨h2, h3⟩)
theorem m_symS (h : Q8 M0 n b T A p M) (hT : TxM M0 n b) (hp : p ≤ n) {c : Nat} (hc : c = 59 ∨ c = 44 ∨ c = 58) : pX8_isSymbol (nI c) M = some ((if Kd n b p = c then 1 else 0), M) := by
  have hk := k8_lt (Kd n b p)
  have hTM := hT.hf h.2.1
  have hn := hT.1
  rw [pX8_isSymbol, h.2.2.1.1]
  by_cases e : k8 (Kd n b p) = 4
  · have e4 := k8_4.mp e
    have hs : sk n b p < n := by
      by_cases z : sk n b p < n
      · exact z
      · exact absurd (if_neg z) e4.1
    obtain ⟨b1, b2⟩ := hTM.2.2 _ hs
    have eK : Kd n b p = kdB (b (sk n b p)) := if_pos hs
    have ek : kdB (b (sk n b p)) = b (sk n b p) ∧ (b (sk n b p) = 59 ∨ b (sk n b p) = 44 ∨ b (sk n b p) = 58) := by
      rw [eK] at e4
      revert e4
      unfold kdB
      by_cases y1 : 97 ≤ b (sk n b p) ∧ b (sk n b p) ≤ 122
      · rw [if_pos y1]; omega
      · rw [if_neg y1]
        by_cases y2 : 48 ≤ b (sk n b p) ∧ b (sk n b p) ≤ 57
        · rw [if_pos y2]; omega
        · rw [if_neg y2]
          by_cases y3 : b (sk n b p) = 59 ∨ b (sk n b p) = 44 ∨ b (sk n b p) = 58
          · rw [if_pos y3]; exact fun _ => ⟨rfl, y3⟩
          · rw [if_neg y3]; omega
    rw [if_neg (not_not_intro (show nI (k8 (Kd n b p)) = 4 from congrArg nI e)), h.2.2.1.2.1, chk_h (inB_nI (by omega) (by omega)), cl (by omega), b2, eK, ek.1, chk_h b01_0, chk_h b01_1]
    by_cases z : b (sk n b p) = c
    · rw [if_neg (not_not_intro (congrArg nI z)), if_pos z]
    · rw [if_pos (fun q => z (nI_inj (by omega) (by omega) q)), if_neg z]
  · rw [if_pos (show ¬ nI (k8 (Kd n b p)) = 4 from fun z => e (nI_inj (by omega) (b := 4) (by omega) z)), chk_h b01_0, if_neg (fun z => e (k8_4.mpr (by omega)))]
theorem m_symP (h : Q8 M0 n b T A p M) (hT : TxM M0 n b) (hp : p ≤ n) {c : Nat} (hc : c = 59 ∨ c = 44 ∨ c = 58) : Sat (pX8_parseSymbol (nI c) M) (fun _ M' => R8 M0 (fun p' M' => Q8 M0 n b T A p' M') (spSym n b c p) M') := by
  rw [pX8_parseSymbol, m_symS h hT hp hc, bnd_some]
  unfold spSym
  by_cases e : Kd n b p = c
  · rw [if_pos e, if_pos e, g_req 1 1 (by decide), bnd_some]
    exact S_bnd (m_rd h hT hp) (fun _ M1 h1 => S_ret h1)
  · rw [if_neg e, if_neg e]
    refine S_bnd (m_rq h hT hp (e := 1) (by omega) (by omega)) (fun _ M1 h1 => ?_)
    rw [z_adv h1.2.1, bnd_some]
    exact S_ret h1
theorem m_seedS (h : Q8 M0 n b T A p M) (hT : TxM M0 n b) (hp : p ≤ n) : Sat (pX8_parseSeed M) (fun _ M' => R8 M0 (fun x M' => Q8 M0 n b x.1 x.2.1 x.2.2 M') (if isW n b p 13 = true then spSeed n b T A p else .error (1, sk n b p)) M') := by
  have hb : ∀ i, i < n → b i < 256 := fun i hi => (hT.2.2 i hi).1
  rw [pX8_parseSeed, m_word hp hT.1 hb (by omega) h.2.2.1, bnd_some]
  by_cases e : isW n b p 13 = true
  · rw [if_pos e, if_pos e, g_req 1 1 (by decide), bnd_some]
    refine S_bnd (m_rd h hT hp) (fun _ M1 h1 => ?_)
    refine S_bnd (m_numS h1 hT (nxt_le hp).2.1 (lo := 0) (hi := 1000002) rfl rfl (by omega) (by omega)) (fun o M2 h2 => ?_)
    unfold spSeed
    cases hr : spN n b 0 1000002 (nxt n b p) with
    | error q =>
      rw [hr] at h2
      rw [z_fine h2.2.1, bnd_some, if_pos rfl]
      exact S_ret h2
    | ok v =>
      rw [hr] at h2
      obtain ⟨rfl, h2⟩ := h2
      rw [g_fine h2.2.2.2.1, bnd_some, if_neg (show ¬ (1 : Int32) = 0 by decide), chk_h ib_4, cl_4]
      exact S_w (h2.fm (h2.1.putg (b := 4) rfl (by omega) (nI v))) (fun M3 h3 => S_ret h3)
  · rw [if_neg e, if_neg e]
    refine S_bnd (m_rq h hT hp (e := 1) (by omega) (by omega)) (fun _ M1 h1 => ?_)
    rw [z_adv h1.2.1, bnd_some, z_num h1.2.1, bnd_some, z_fine h1.2.1, bnd_some, if_pos rfl]
    exact S_ret h1
theorem m_setS (h : Q8 M0 n b T A p M) (hT : TxM M0 n b) (hp : p ≤ n) : Sat (pX8_parseSet M) (fun _ M' => R8 M0 (fun x M' => Q8 M0 n b x.1 x.2.1 x.2.2 M') (spSet n b T A p) M') := by
  rw [pX8_parseSet]
  refine S_bnd (m_rd h hT hp) (fun _ M1 h1 => ?_)
  refine S_bnd (m_numS h1 hT (nxt_le hp).2.1 (lo := 0) (hi := 1) rfl rfl (by omega) (by omega)) (fun o M2 h2 => ?_)
  unfold spSet
  cases hr : spN n b 0 1 (nxt n b p) with
  | error q =>
    rw [hr] at h2
    have z : ∀ w u, pX8_parseSet_24 o w u M2 = some ((), M2) := fun w u => by rw [pX8_parseSet_24, z_num h2.2.1, bnd_some, z_fine h2.2.1, bnd_some, if_pos rfl]
    split
    · rw [z]; exact S_ret h2
    · rw [z]; exact S_ret h2
  | ok c =>
    have hc := spN_ok hr
    rw [hr] at h2
    obtain ⟨rfl, h2⟩ := h2
    have e24 : (if ¬ nI c = 0 then (pX8_parseSet_24 (nI c) (1 : Int32) (0 : Int32) M2) else pX8_parseSet_24 (nI c) (1000 : Int32) (0 : Int32) M2) = pX8_parseSet_24 (nI c) (nI (if c = 0 then 1000 else 1)) 0 M2 := by
      have hc2 : c = 0 ∨ c = 1 := by omega
      rcases hc2 with rfl | rfl
      · rw [if_neg (show ¬ ¬ nI 0 = 0 from not_not_intro rfl)]; rfl
      · rw [if_pos (show ¬ nI 1 = 0 by decide)]; rfl
    rw [e24, pX8_parseSet_24]
    refine S_bnd (m_numS h2 hT (nxt_le (nxt_le hp).2.1).2.1 (lo := 0) (hi := if c = 0 then 1000 else 1) rfl rfl (by omega) (by split <;> omega)) (fun o M3 h3 => ?_)
    dsimp only
    cases hr2 : spN n b 0 (if c = 0 then 1000 else 1) (nxt n b (nxt n b p)) with
    | error q =>
      rw [hr2] at h3
      rw [z_fine h3.2.1, bnd_some, if_pos rfl]
      exact S_ret h3
    | ok v =>
      rw [hr2] at h3
      obtain ⟨rfl, h3⟩ := h3
      rw [g_fine h3.2.2.2.1, bnd_some, if_neg (show ¬ (1 : Int32) = 0 by decide), chk_h (inB_nI (by omega) (by omega)), cl (by omega)]
      exact S_w (h3.fm (h3.1.putg (okg_2 (by omega)) (by omega) (nI v))) (fun M4 h4 => S_ret h4)
theorem m_flagS (h : Q8 M0 n b T A p M) (hT : TxM M0 n b) (hp : p ≤ n) {ex : Nat} (hI : Inv T ex A) : Sat (pX8_parseFlag M) (fun _ M' => R8 M0 (fun x M' => Q8 M0 n b x.1 x.2.1 x.2.2 M') (spFlag n b T A p) M') := by
  rw [pX8_parseFlag]
  refine S_bnd (m_rd h hT hp) (fun _ M1 h1 => ?_)
  refine S_bnd (m_lookS h1 hT (nxt_le hp).2.1 (lo := 0) (hi := 7) rfl rfl (by omega) (by omega)) (fun _ M2 h2 => ?_)
  rw [nm_def]
  unfold spFlag
  cases hr : spN n b 0 7 (nxt n b p) with
  | error q =>
    rw [hr] at h2
    rw [z_fine h2.2.1, bnd_some, if_pos rfl, pX8_parseFlag_37, z_req h2.2.1, bnd_some, z_adv h2.2.1, bnd_some, z_fine h2.2.1, bnd_some, if_pos rfl]
    exact S_ret h2
  | ok v =>
    have hv := spN_ok hr
    rw [hr] at h2
    obtain ⟨rfl, v1⟩ := h2
    rw [v1, g_fine h1.2.2.2.1, bnd_some, if_neg (show ¬ (1 : Int32) = 0 by decide), m_isOn h1.1, bnd_some]
    dsimp only
    by_cases eo : onF A v = true
    · rw [if_pos eo, if_pos eo, if_pos (show ¬ (1 : Int32) = 0 by decide), pX8_parseFlag_37]
      refine S_bnd (m_rq h1 hT (nxt_le hp).2.1 (e := 4) (by omega) (by omega)) (fun _ M3 h3 => ?_)
      rw [z_adv h3.2.1, bnd_some, z_fine h3.2.1, bnd_some, if_pos rfl]
      exact S_ret h3
    · rw [if_neg eo, if_neg eo, if_neg (not_not_intro rfl), pX8_parseFlag_37, g_req 1 4 (by decide), bnd_some]
      refine S_bnd (m_rd h1 hT (nxt_le hp).2.1) (fun _ M3 h3 => ?_)
      rw [g_fine h3.2.2.2.1, bnd_some, if_neg (show ¬ (1 : Int32) = 0 by decide)]
      refine S_bnd (m_turn h3.1 hI (f := v) (by omega) true) (fun _ M4 h4 => S_ret (h3.fm h4))
end MPARSE
