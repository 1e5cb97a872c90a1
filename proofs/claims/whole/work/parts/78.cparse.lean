/-! ===== statements: what they are; the class reads them ===== -/
section CPARSE
variable {n : Nat} {b : Nat → Nat} {T : Nat} {A : AS} {p : Nat} {M M' M0 M1 M2 M3 : Mem}
abbrev PE : Type := Nat × Nat
abbrev PS : Type := Nat × AS × Nat
def spSym (n : Nat) (b : Nat → Nat) (c p : Nat) : Except PE Nat := if Kd n b p = c then .ok (nxt n b p) else .error (1, sk n b p)
def spN (n : Nat) (b : Nat → Nat) (lo hi p : Nat) : Except PE Nat := if Kd n b p = 2 then (if lo ≤ Vl n b p ∧ Vl n b p ≤ hi then .ok (Vl n b p) else .error (2, sk n b p)) else .error (1, sk n b p)
def spSeed (n : Nat) (b : Nat → Nat) (T : Nat) (A : AS) (p : Nat) : Except PE PS := match spN n b 0 1000002 (nxt n b p) with
  | .error q => .error q
  | .ok v => .ok (T, up A 10 4 (nI v), nxt n b (nxt n b p))
def spSet (n : Nat) (b : Nat → Nat) (T : Nat) (A : AS) (p : Nat) : Except PE PS := match spN n b 0 1 (nxt n b p) with
  | .error q => .error q
  | .ok c => match spN n b 0 (if c = 0 then 1000 else 1) (nxt n b (nxt n b p)) with
    | .error q => .error q
    | .ok v => .ok (T, up A 10 c (nI v), nxt n b (nxt n b (nxt n b p)))
def spFlag (n : Nat) (b : Nat → Nat) (T : Nat) (A : AS) (p : Nat) : Except PE PS := match spN n b 0 7 (nxt n b p) with
  | .error q => .error q
  | .ok v => if onF A v = true then .error (4, sk n b (nxt n b p)) else .ok (T, stF A v true, nxt n b (nxt n b p))
def codeF (n : Nat) (b : Nat → Nat) (p : Nat) : Nat → Nat → Option Nat
  | 0, _ => none
  | m + 1, c => if isW n b p c = true then some c else codeF n b p m (c + 1)
def spInst (n : Nat) (b : Nat → Nat) (A : AS) (t p : Nat) : Except PE (AS × Nat) := match codeF n b p 11 0 with
  | none => .error (1, sk n b p)
  | some c => if 16 ≤ (A.1 t 1).toNatClampNeg then .error (3, sk n b p) else if c = 1 then .ok (stA A t (A.1 t 1).toNatClampNeg (nI c) 0, nxt n b p) else match spN n b (xLeast.getD c 0).toNatClampNeg (xMost.getD c 0).toNatClampNeg (nxt n b p) with
    | .error q => .error q
    | .ok v => .ok (stA A t (A.1 t 1).toNatClampNeg (nI c) (nI v), nxt n b (nxt n b p))
def spLp (n : Nat) (b : Nat → Nat) (t : Nat) : Nat → AS → Nat → Except PE (AS × Nat)
  | 0, A, p => .ok (A, p)
  | m + 1, A, p => if Kd n b p = 44 then (match spInst n b A t (nxt n b p) with
    | .error q => .error q
    | .ok x => spLp n b t m x.1 x.2) else .ok (A, p)
def spThr (n : Nat) (b : Nat → Nat) (T : Nat) (A : AS) (p : Nat) : Except PE PS := if 10 ≤ T then .error (3, sk n b p) else match spN n b 1 9 (nxt n b p) with
  | .error q => .error q
  | .ok v => match spSym n b 58 (nxt n b (nxt n b p)) with
    | .error q => .error q
    | .ok p3 => match spInst n b (nwA T A (nI v)) T p3 with
      | .error q => .error q
      | .ok x => match spLp n b T 17 x.1 x.2 with
        | .error q => .error q
        | .ok y => .ok (T + 1, y.1, y.2)
def spBody (n : Nat) (b : Nat → Nat) (T : Nat) (A : AS) (p : Nat) : Except PE PS := if isW n b p 11 = true then spThr n b T A p else if isW n b p 12 = true then spFlag n b T A p else if isW n b p 4 = true then spSet n b T A p else if isW n b p 13 = true then spSeed n b T A p else .error (1, sk n b p)
def spStm (n : Nat) (b : Nat → Nat) (T : Nat) (A : AS) (p : Nat) : Except PE PS := match spBody n b T A p with
  | .error q => .error q
  | .ok x => match spSym n b 59 x.2.2 with
    | .error q => .error q
    | .ok p' => .ok (x.1, x.2.1, p')
/-! the class's states while it reads -/
def Gf (M0 M : Mem) : Prop := M.2 = M0.2 ∧ ∀ kd k i j, ¬ (k = 1 ∧ 3 ≤ kd ∧ kd ≤ 16) → ¬ (kd = 1 ∧ 2 ≤ j) → M.1 kd k i j = M0.1 kd k i j
theorem Gf.fc (h : Gf M0 M) (hF : Fc M M1) : Gf M0 M1 := ⟨hF.1.trans h.1, fun a c d e q1 q2 => (hF.2 a c d e (by omega)).trans (h.2 a c d e q1 q2)⟩
theorem Gf.fk (h : Gf M0 M) (hF : Fk 1 M M1) : Gf M0 M1 := ⟨hF.1.trans h.1, fun a c d e q1 q2 => (hF.2 a c d e (by omega)).trans (h.2 a c d e q1 q2)⟩
theorem Txt.gf (h : Txt M0 n b) (hF : Gf M0 M) : Txt M n b := ⟨h.1, by rw [hF.2 _ _ _ _ (by omega) (by omega)]; exact h.2.1, fun i hi => by rw [hF.2 _ _ _ _ (by omega) (by omega)]; exact h.2.2 i hi⟩
def Q7 (M0 : Mem) (n : Nat) (b : Nat → Nat) (T : Nat) (A : AS) (p : Nat) (M : Mem) : Prop := C true true 1 M T A [] M ∧ Gf M0 M ∧ Tk n b p M ∧ M.1 1 0 0 2 = 0 ∧ M.1 1 0 0 3 = -1
def F7 (M0 : Mem) (e s : Nat) (M : Mem) : Prop := Gf M0 M ∧ M.1 1 0 0 2 = nI e ∧ M.1 1 0 0 3 = nI s
def R7 {α : Type} (M0 : Mem) (P : α → Mem → Prop) (r : Except PE α) (o : Int32) (M : Mem) : Prop := match r with
  | .ok x => o = 1 ∧ P x M
  | .error q => o = 0 ∧ F7 M0 q.1 q.2 M
theorem Q7.fk (h : Q7 M0 n b T A p M) {T' : Nat} {A' : AS} (hC : C true true 1 M T' A' [] M1) : Q7 M0 n b T' A' p M1 := by
  obtain ⟨q1, q2, ⟨k4, k6, k7, k5⟩, q4, q5⟩ := h
  have hF := hC.fkk
  have r : ∀ j, M1.1 1 0 0 j = M.1 1 0 0 j := fun j => hF.2 _ _ _ _ (by omega)
  refine ⟨hC.re, q2.fk hF, ⟨by rw [r]; exact k4, by rw [r]; exact k6, by rw [r]; exact k7, fun z => ?_⟩, by rw [r]; exact q4, by rw [r]; exact q5⟩
  rw [r]; exact k5 z
theorem c_rd (h : Q7 M0 n b T A p M) (hT : Txt M0 n b) (hp : p ≤ n) : Sat (pX5_readToken M) (fun _ M' => Q7 M0 n b T A (nxt n b p) M') := by
  obtain ⟨q1, q2, q3, q4, q5⟩ := h
  refine S_mono (c_tok (nxt_le hp).2.1 (hT.gf q2) q3.2.2.1) (fun _ M' h' => ?_)
  obtain ⟨f1, f2⟩ := h'
  exact ⟨q1.mv (fun kd i j h1 h2 => f1.2 _ _ _ _ (by omega)), q2.fc f1, f2, by rw [f1.2 _ _ _ _ (by omega)]; exact q4, by rw [f1.2 _ _ _ _ (by omega)]; exact q5⟩
theorem c_rf (h : Q7 M0 n b T A p M) (e : Nat) : Sat (pX5_refuse (nI e) M) (fun o M' => o = 0 ∧ F7 M0 e (sk n b p) M') := by
  obtain ⟨q1, q2, q3, q4, q5⟩ := h
  rw [pX5_refuse, nm_def, nm_def, chk_h b01_0]
  refine S_ret ⟨rfl, ⟨q2.1, fun a c d e q1 q2' => ?_⟩, ?_, ?_⟩
  · rw [wI_e, if_neg (by omega), wI_e, if_neg (by omega)]
    exact q2.2 a c d e q1 q2'
  · rw [wI_j (by omega), wI_s]
  · rw [wI_s, wI_j (by omega)]
    exact q3.2.1
theorem Kd_lt (hT : Txt M n b) (p : Nat) : Kd n b p < 256 := by
  unfold Kd
  by_cases e : sk n b p < n
  · rw [if_pos e]; exact kdB_lt (hT.2.2 _ e).1
  · rw [if_neg e]; omega
theorem c_sym (h : Q7 M0 n b T A p M) (hT : Txt M0 n b) (hp : p ≤ n) {c : Nat} (hc : c < 256) : Sat (pX5_readSymbol (nI c) M) (R7 M0 (fun p' M' => Q7 M0 n b T A p' M') (spSym n b c p)) := by
  have hk := Kd_lt hT p
  rw [pX5_readSymbol, h.2.2.1.1]
  unfold spSym
  by_cases e : Kd n b p = c
  · rw [if_pos (congrArg nI e), if_pos e]
    refine S_bnd (c_rd h hT hp) (fun _ M1 h1 => ?_)
    rw [chk_h b01_1]
    exact S_ret ⟨rfl, h1⟩
  · rw [if_neg (fun z => e (nI_inj (by omega) (by omega) z)), if_neg e]
    refine S_bnd (c_rf h 1) (fun o M1 h1 => ?_)
    obtain ⟨rfl, h1⟩ := h1
    rw [chk_h b01_0]
    exact S_ret ⟨rfl, h1⟩
theorem c_need (h : Q7 M0 n b T A p M) (hT : Txt M0 n b) {lo hi : Nat} {l hh : Int32} (el : nI lo = l) (eh : nI hi = hh) (hlo : lo ≤ 1000002) (hhi : hi ≤ 1000002) : Sat (pX5_needNumber l hh M) (R7 M0 (fun v M' => M' = M ∧ M.1 1 0 0 5 = nI v ∧ lo ≤ v ∧ v ≤ hi) (spN n b lo hi p)) := by
  have hk := Kd_lt hT p
  subst el
  subst eh
  have e30 : Sat (pX5_needNumber_30 M) (fun o M' => o = 0 ∧ F7 M0 2 (sk n b p) M') := by
    rw [pX5_needNumber_30]
    refine S_bnd (c_rf h 2) (fun o M1 h1 => ?_)
    obtain ⟨rfl, h1⟩ := h1
    rw [if_pos rfl, chk_h b01_0]
    exact S_ret ⟨rfl, h1⟩
  rw [pX5_needNumber, h.2.2.1.1]
  unfold spN
  by_cases e : Kd n b p = 2
  · obtain ⟨v, v1, v2, v3⟩ := h.2.2.1.2.2.2 e
    unfold Ce at v3
    rw [if_pos (show nI (Kd n b p) = 2 from congrArg nI e), if_pos e, v2]
    by_cases e1 : v < lo
    · rw [if_pos (nI_lt e1 (by omega)), if_neg (by omega)]
      exact e30
    · rw [if_neg (nI_nlt (by omega) (by omega))]
      by_cases e2 : v ≤ hi
      · have ev : v = Vl n b p := by omega
        rw [if_pos (nI_le e2 (by omega)), if_pos (by omega), chk_h b01_1]
        exact S_ret ⟨rfl, rfl, congrArg nI ev, by omega, by omega⟩
      · rw [if_neg (nI_ge (by omega) (by omega)), if_neg (by omega)]
        exact e30
  · rw [if_neg (show ¬ nI (Kd n b p) = 2 from fun z => e (nI_inj (by omega) (b := 2) (by omega) z)), if_neg e]
    refine S_bnd (c_rf h 1) (fun o M1 h1 => ?_)
    obtain ⟨rfl, h1⟩ := h1
    rw [chk_h b01_0]
    exact S_ret ⟨rfl, h1⟩
theorem c_num7 (h : Q7 M0 n b T A p M) (hT : Txt M0 n b) (hp : p ≤ n) {lo hi : Nat} {l hh : Int32} (el : nI lo = l) (eh : nI hi = hh) (hlo : lo ≤ 1000002) (hhi : hi ≤ 1000002) : Sat (pX5_readNumber l hh M) (R7 M0 (fun v M' => M.1 1 0 0 5 = nI v ∧ lo ≤ v ∧ v ≤ hi ∧ Q7 M0 n b T A (nxt n b p) M') (spN n b lo hi p)) := by
  rw [pX5_readNumber]
  refine S_bnd (c_need h hT el eh hlo hhi) (fun o M1 h1 => ?_)
  cases hr : spN n b lo hi p with
  | error q =>
    rw [hr] at h1
    obtain ⟨rfl, h1⟩ := h1
    rw [if_neg (not_not_intro rfl), chk_h b01_0]
    exact S_ret ⟨rfl, h1⟩
  | ok v =>
    rw [hr] at h1
    obtain ⟨rfl, rfl, h2, h3, h4⟩ := h1
    rw [if_pos (show ¬ (1 : Int32) = 0 by decide)]
    refine S_bnd (c_rd h hT hp) (fun _ M2 h5 => ?_)
    rw [chk_h b01_1]
    exact S_ret ⟨rfl, h2, h3, h4, h5⟩
theorem c_seedS (h : Q7 M0 n b T A p M) (hT : Txt M0 n b) (hp : p ≤ n) : Sat (pX5_readSeed 1 M) (R7 M0 (fun x M' => Q7 M0 n b x.1 x.2.1 x.2.2 M') (spSeed n b T A p)) := by
  rw [pX5_readSeed]
  refine S_bnd (c_rd h hT hp) (fun _ M1 h1 => ?_)
  rw [nm_def]
  refine S_bnd (c_num7 h1 hT (nxt_le hp).2.1 (lo := 0) (hi := 1000002) rfl rfl (by omega) (by omega)) (fun o M2 h2 => ?_)
  unfold spSeed
  cases hr : spN n b 0 1000002 (nxt n b p) with
  | error q =>
    rw [hr] at h2
    obtain ⟨rfl, h2⟩ := h2
    rw [if_neg (not_not_intro rfl), chk_h b01_0]
    exact S_ret ⟨rfl, h2⟩
  | ok v =>
    rw [hr] at h2
    obtain ⟨rfl, v1, -, -, h2⟩ := h2
    rw [if_pos (show ¬ (1 : Int32) = 0 by decide), v1]
    refine S_w (h2.fk (h2.1.putg (b := 4) rfl (by omega) (fun _ => by omega) (nI v))) (fun M3 h3 => ?_)
    rw [chk_h b01_1]
    exact S_ret ⟨rfl, h3⟩
theorem c_setS (h : Q7 M0 n b T A p M) (hT : Txt M0 n b) (hp : p ≤ n) : Sat (pX5_readSetting 1 M) (R7 M0 (fun x M' => Q7 M0 n b x.1 x.2.1 x.2.2 M') (spSet n b T A p)) := by
  rw [pX5_readSetting]
  refine S_bnd (c_rd h hT hp) (fun _ M1 h1 => ?_)
  rw [nm_def]
  refine S_bnd (c_num7 h1 hT (nxt_le hp).2.1 (lo := 0) (hi := 1) rfl rfl (by omega) (by omega)) (fun o M2 h2 => ?_)
  unfold spSet
  cases hr : spN n b 0 1 (nxt n b p) with
  | error q =>
    rw [hr] at h2
    obtain ⟨rfl, h2⟩ := h2
    rw [if_neg (not_not_intro rfl), chk_h b01_0]
    exact S_ret ⟨rfl, h2⟩
  | ok c =>
    rw [hr] at h2
    obtain ⟨rfl, v1, -, hc, h2⟩ := h2
    have e7 : pX7_settingMost (nI c) M2 = some (nI (if c = 0 then 1000 else 1), M2) := by
      have hc2 : c = 0 ∨ c = 1 := by omega
      rcases hc2 with rfl | rfl
      · rw [pX7_settingMost, if_neg (show ¬ ¬ nI 0 = 0 from not_not_intro rfl)]; rfl
      · rw [pX7_settingMost, if_pos (show ¬ nI 1 = 0 by decide)]; rfl
    rw [if_pos (show ¬ (1 : Int32) = 0 by decide), nm_def, v1, e7, bnd_some]
    refine S_bnd (c_num7 h2 hT (nxt_le (nxt_le hp).2.1).2.1 (lo := 0) (hi := if c = 0 then 1000 else 1) rfl rfl (by omega) (by split <;> omega)) (fun o M3 h3 => ?_)
    dsimp only
    cases hr2 : spN n b 0 (if c = 0 then 1000 else 1) (nxt n b (nxt n b p)) with
    | error q =>
      rw [hr2] at h3
      obtain ⟨rfl, h3⟩ := h3
      rw [if_neg (not_not_intro rfl), chk_h b01_0]
      exact S_ret ⟨rfl, h3⟩
    | ok v =>
      rw [hr2] at h3
      obtain ⟨rfl, v2, -, -, h3⟩ := h3
      rw [if_pos (show ¬ (1 : Int32) = 0 by decide), v2]
      refine S_bnd (c_cs h3.1 (b := c) (by omega) (nI v)) (fun _ M4 h4 => ?_)
      rw [chk_h b01_1]
      exact S_ret ⟨rfl, h3.fk h4⟩
theorem c_flagS (h : Q7 M0 n b T A p M) (hT : Txt M0 n b) (hp : p ≤ n) : Sat (pX5_readFlag 1 M) (R7 M0 (fun x M' => Q7 M0 n b x.1 x.2.1 x.2.2 M') (spFlag n b T A p)) := by
  rw [pX5_readFlag]
  refine S_bnd (c_rd h hT hp) (fun _ M1 h1 => ?_)
  rw [nm_def]
  refine S_bnd (c_need h1 hT (lo := 0) (hi := 7) rfl rfl (by omega) (by omega)) (fun o M2 h2 => ?_)
  unfold spFlag
  cases hr : spN n b 0 7 (nxt n b p) with
  | error q =>
    rw [hr] at h2
    obtain ⟨rfl, h2⟩ := h2
    rw [if_neg (not_not_intro rfl), chk_h b01_0]
    exact S_ret ⟨rfl, h2⟩
  | ok v =>
    rw [hr] at h2
    obtain ⟨rfl, rfl, v1, -, hv⟩ := h2
    rw [if_pos (show ¬ (1 : Int32) = 0 by decide), v1, c_flagOn h1.1, bnd_some]
    dsimp only
    by_cases eo : onF A v = true
    · rw [if_pos eo, if_pos eo, if_neg (show ¬ (1 : Int32) = 0 by decide)]
      refine S_bnd (c_rf h1 4) (fun o M3 h3 => ?_)
      obtain ⟨rfl, h3⟩ := h3
      rw [chk_h b01_0]
      exact S_ret ⟨rfl, h3⟩
    · rw [if_neg eo, if_neg eo, if_pos rfl]
      refine S_bnd (c_turn h1.1 v true) (fun _ M3 h3 => ?_)
      refine S_bnd (c_rd (h1.fk h3) hT (nxt_le hp).2.1) (fun _ M4 h4 => ?_)
      rw [chk_h b01_1]
      exact S_ret ⟨rfl, h4⟩
theorem c_code (h : Tk n b p M) (hT : Txt M n b) (hp : p ≤ n) : ∀ (m f c : Nat), c + m = 11 → m < f → pX5_instructionCode_2 f (nI c) M = some (onI (codeF n b p m c), M) := by
  intro m
  induction m with
  | zero =>
    intro f c hc hf
    obtain ⟨f, rfl⟩ : ∃ f', f = f' + 1 := ⟨f - 1, by omega⟩
    rw [pX5_instructionCode_2, if_pos (show (11 : Int32) ≤ nI c from nI_le (a := 11) (by omega) (by omega))]
    rfl
  | succ m ih =>
    intro f c hc hf
    obtain ⟨f, rfl⟩ : ∃ f', f = f' + 1 := ⟨f - 1, by omega⟩
    rw [pX5_instructionCode_2, if_neg (show ¬ (11 : Int32) ≤ nI c from nI_ge (b := 11) (by omega) (by omega)), chk_h (inB_nI (by omega) (by omega)), cl (by omega), c_word hp (by omega) hT h, bnd_some, nI_1, codeF]
    by_cases e : isW n b p c = true
    · rw [if_pos e, if_pos e, if_neg (show ¬ (1 : Int32) = 0 by decide), onI_some]
    · rw [if_neg e, if_neg e, if_pos rfl]
      exact ih f (c + 1) (by omega) (by omega)
theorem codeF_lt : ∀ (m c d : Nat), codeF n b p m c = some d → d < c + m := by
  intro m
  induction m with
  | zero => intro c d h; cases h
  | succ m ih =>
    intro c d h
    rw [codeF] at h
    by_cases e : isW n b p c = true
    · rw [if_pos e] at h
      have : c = d := Option.some.inj h
      omega
    · rw [if_neg e] at h
      have := ih (c + 1) d h
      omega
theorem lm_t : ((List.range 11).all fun c => decide (nI (xLeast.getD c 0).toNatClampNeg = xLeast.getD c 0) && decide (nI (xMost.getD c 0).toNatClampNeg = xMost.getD c 0) && decide ((xLeast.getD c 0).toNatClampNeg ≤ 1000) && decide ((xMost.getD c 0).toNatClampNeg ≤ 1000)) = true := by decide +kernel
theorem lm_ok {c : Nat} (hc : c < 11) : nI (xLeast.getD c 0).toNatClampNeg = xLeast.getD c 0 ∧ nI (xMost.getD c 0).toNatClampNeg = xMost.getD c 0 ∧ (xLeast.getD c 0).toNatClampNeg ≤ 1000 ∧ (xMost.getD c 0).toNatClampNeg ≤ 1000 := by
  have := List.all_eq_true.mp lm_t c (List.mem_range.mpr hc)
  simp only [Bool.and_eq_true, decide_eq_true_eq] at this
  exact ⟨this.1.1.1, this.1.1.2, this.1.2, this.2⟩
theorem c_instS (h : Q7 M0 n b T A p M) (hT : Txt M0 n b) (hp : p ≤ n) {t z : Nat} (ht : t < T) (h1 : A.1 t 1 = nI z) (hz : z ≤ 16) : Sat (pX5_readInstruction 1 t M) (R7 M0 (fun x M' => Q7 M0 n b T x.1 x.2 M') (spInst n b A t p)) := by
  have hT10 := h.1.T10
  have r3 : M.1 5 1 t 3 = nI z := (h.1.th ht 1 rfl).trans h1
  have ez : (A.1 t 1).toNatClampNeg = z := by rw [h1, cl (by omega)]
  have hcode : pX5_instructionCode M = some (onI (codeF n b p 11 0), M) := c_code h.2.2.1 (hT.gf h.2.1) hp 11 fu 0 (by omega) (by decide)
  rw [pX5_readInstruction, hcode, bnd_some]
  unfold spInst
  cases hc : codeF n b p 11 0 with
  | none =>
    rw [onI_none, if_neg (not_not_intro rfl)]
    refine S_bnd (c_rf h 1) (fun o M3 h3 => ?_)
    obtain ⟨rfl, h3⟩ := h3
    rw [chk_h b01_0]
    exact S_ret ⟨rfl, h3⟩
  | some c =>
    have hc11 := codeF_lt 11 0 c hc
    obtain ⟨m1, m2, m3, m4⟩ := lm_ok (show c < 11 by omega)
    dsimp only
    rw [onI_some, if_pos (m1_ne (by omega)), r3, ez]
    by_cases e16 : 16 ≤ z
    · rw [if_neg (show ¬ nI z < (16 : Int32) from nI_nlt (a := z) (b := 16) e16 (by omega)), if_pos e16]
      refine S_bnd (c_rf h 3) (fun o M3 h3 => ?_)
      obtain ⟨rfl, h3⟩ := h3
      rw [chk_h b01_0]
      exact S_ret ⟨rfl, h3⟩
    · rw [if_pos (show nI z < (16 : Int32) from nI_lt (b := 16) (by omega) (by omega)), if_neg e16]
      refine S_bnd (c_rd h hT hp) (fun _ M1 h2 => ?_)
      rw [chk_h (inB_nI (by omega) (by omega)), cl (by omega)]
      have go : ∀ {p' : Nat} {M2 : Mem} (x : Int32), Q7 M0 n b T A p' M2 → Sat (pX5_readInstruction_78 1 t (nI c) x M2) (fun o M' => o = 1 ∧ Q7 M0 n b T (stA A t z (nI c) x) p' M') := fun {p'} {M2} x h3 => by
        rw [pX5_readInstruction_78]
        refine S_bnd (c_addStep h3.1 ht h1 (by omega) (nI c) x) (fun _ M4 h4 => ?_)
        rw [chk_h b01_1]
        exact S_ret ⟨rfl, h3.fk h4⟩
      by_cases e1 : c = 1
      · rw [if_pos e1, if_pos e1]
        exact go 0 h2
      · rw [if_neg e1, if_neg e1, nm_def, chk_h (inB_nI (by omega) (by omega)), chk_h (inB_nI (by omega) (by omega))]
        refine S_bnd (c_num7 h2 hT (nxt_le hp).2.1 m1 m2 (by omega) (by omega)) (fun o M2 h3 => ?_)
        cases hr : spN n b (xLeast.getD c 0).toNatClampNeg (xMost.getD c 0).toNatClampNeg (nxt n b p) with
        | error q =>
          rw [hr] at h3
          obtain ⟨rfl, h3⟩ := h3
          rw [if_neg (not_not_intro rfl), chk_h b01_0]
          exact S_ret ⟨rfl, h3⟩
        | ok v =>
          rw [hr] at h3
          obtain ⟨rfl, v1, -, -, h3⟩ := h3
          rw [if_pos (show ¬ (1 : Int32) = 0 by decide), v1]
          exact go (nI v) h3
end CPARSE
