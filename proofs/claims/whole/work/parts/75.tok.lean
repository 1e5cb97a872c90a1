/-! ===== the text's tokens: what they are, the class's reading ===== -/
section TOK
variable {n : Nat} {b : Nat → Nat} {M M' M0 M1 M2 M3 : Mem}
def sb (x : Nat) : Int32 := if x < 128 then nI x else nI x - 256
def kdB (x : Nat) : Nat := if 97 ≤ x ∧ x ≤ 122 then 1 else if 48 ≤ x ∧ x ≤ 57 then 2 else if x = 59 ∨ x = 44 ∨ x = 58 then x else 3
def isBl (x : Nat) : Bool := decide (x = 32 ∨ x = 10)
def kF28 (v0 : Int32) : Int32 := if v0 = (59 : Int32) then v0 else if v0 = (44 : Int32) then v0 else if ¬ v0 = (58 : Int32) then 3 else v0
def kF14 (v0 : Int32) : Int32 := if v0 < (48 : Int32) then kF28 v0 else if (57 : Int32) < v0 then kF28 v0 else 2
def kF (v0 : Int32) : Int32 := if v0 < (97 : Int32) then kF14 v0 else if (122 : Int32) < v0 then kF14 v0 else 1
theorem k_28 (v : Int32) : pX5_kindOf_28 v M = some (kF28 v, M) := by
  unfold pX5_kindOf_28 kF28
  (repeat' split) <;> rfl
theorem k_14 (v : Int32) : pX5_kindOf_14 v M = some (kF14 v, M) := by
  unfold pX5_kindOf_14 kF14
  (repeat' split) <;> first | exact k_28 v | rfl
theorem k_0 (v : Int32) : pX5_kindOf v M = some (kF v, M) := by
  unfold pX5_kindOf kF
  (repeat' split) <;> first | exact k_14 v | rfl
theorem kd_t : ((List.range 256).all fun x => decide (kF (sb x) = nI (kdB x)) && decide ((sb x = 32) ↔ x = 32) && decide ((sb x = 10) ↔ x = 10)) = true := by decide +kernel
theorem kd_ok {x : Nat} (hx : x < 256) : kF (sb x) = nI (kdB x) ∧ ((sb x = 32) ↔ x = 32) ∧ ((sb x = 10) ↔ x = 10) := by
  have := List.all_eq_true.mp kd_t x (List.mem_range.mpr hx)
  simp only [Bool.and_eq_true, decide_eq_true_eq] at this
  exact ⟨this.1.1, this.1.2, this.2⟩
theorem kdB_lt {x : Nat} (hx : x < 256) : kdB x < 256 := by
  unfold kdB
  (repeat' split) <;> omega
def rn (n : Nat) (b : Nat → Nat) (P : Nat → Bool) : Nat → Nat → Nat
  | 0, p => p
  | m + 1, p => if p < n then (if P (b p) = true then rn n b P m (p + 1) else p) else p
theorem rn_in {P : Nat → Bool} : ∀ m p, p ≤ n → p ≤ rn n b P m p ∧ rn n b P m p ≤ n ∧ ∀ i, p ≤ i → i < rn n b P m p → P (b i) = true := by
  intro m
  induction m with
  | zero => intro p hp; exact ⟨Nat.le_refl _, hp, fun i h1 h2 => absurd h2 (by show ¬ i < p; omega)⟩
  | succ m ih =>
    intro p hp
    rw [rn]
    by_cases e : p < n
    · rw [if_pos e]
      by_cases e2 : P (b p) = true
      · rw [if_pos e2]
        obtain ⟨a1, a2, a3⟩ := ih (p + 1) (by omega)
        refine ⟨by omega, a2, fun i h1 h2 => ?_⟩
        by_cases ei : i = p
        · subst ei; exact e2
        · exact a3 i (by omega) h2
      · rw [if_neg e2]
        exact ⟨Nat.le_refl _, hp, fun i h1 h2 => by omega⟩
    · rw [if_neg e]
      exact ⟨Nat.le_refl _, hp, fun i h1 h2 => by omega⟩
def sk (n : Nat) (b : Nat → Nat) (p : Nat) : Nat := rn n b isBl 800 p
def Kd (n : Nat) (b : Nat → Nat) (p : Nat) : Nat := if sk n b p < n then kdB (b (sk n b p)) else 0
def nxt (n : Nat) (b : Nat → Nat) (p : Nat) : Nat := if sk n b p < n then (if Kd n b p = 1 ∨ Kd n b p = 2 then rn n b (fun x => decide (kdB x = Kd n b p)) 800 (sk n b p + 1) else sk n b p + 1) else sk n b p
/-- the number that digits write -/
def tv (b : Nat → Nat) : Nat → Nat → Nat → Nat
  | 0, _, a => a
  | m + 1, i, a => tv b m (i + 1) (a * 10 + (b i - 48))
def Vl (n : Nat) (b : Nat → Nat) (p : Nat) : Nat := tv b (nxt n b p - sk n b p) (sk n b p) 0
def Ce (x y : Nat) : Prop := (x = y ∧ y < 1000003) ∨ (1000003 ≤ x ∧ 1000003 ≤ y)
theorem tv_ge : ∀ m i a, 1000003 ≤ a → 1000003 ≤ tv b m i a := by
  intro m
  induction m with
  | zero => intro i a h; exact h
  | succ m ih => intro i a h; exact ih _ _ (by omega)
theorem sk_le {p : Nat} (hp : p ≤ n) : p ≤ sk n b p ∧ sk n b p ≤ n := ⟨(rn_in 800 p hp).1, (rn_in 800 p hp).2.1⟩
theorem nxt_le {p : Nat} (hp : p ≤ n) : sk n b p ≤ nxt n b p ∧ nxt n b p ≤ n ∧ (sk n b p < n → sk n b p < nxt n b p) := by
  have h := sk_le (b := b) hp
  unfold nxt
  by_cases e : sk n b p < n
  · rw [if_pos e]
    split
    · have := rn_in (b := b) (P := fun x => decide (kdB x = Kd n b p)) 800 (sk n b p + 1) (show sk n b p + 1 ≤ n by omega)
      omega
    · omega
  · rw [if_neg e]
    omega
theorem tok_in {p i : Nat} (hp : p ≤ n) (hk : Kd n b p = 1 ∨ Kd n b p = 2) (h1 : sk n b p ≤ i) (h2 : i < nxt n b p) : kdB (b i) = Kd n b p := by
  have h := sk_le (b := b) hp
  by_cases e : sk n b p < n
  · by_cases ei : i = sk n b p
    · subst ei
      unfold Kd
      rw [if_pos e]
    · unfold nxt at h2
      rw [if_pos e, if_pos hk] at h2
      exact of_decide_eq_true ((rn_in (b := b) (P := fun x => decide (kdB x = Kd n b p)) 800 (sk n b p + 1) (show sk n b p + 1 ≤ n by omega)).2.2 i (by omega) h2)
  · unfold Kd at hk
    rw [if_neg e] at hk
    omega
theorem dg_of {x : Nat} (h : kdB x = 2) : 48 ≤ x ∧ x ≤ 57 := by
  unfold kdB at h
  by_cases e : 97 ≤ x ∧ x ≤ 122
  · rw [if_pos e] at h; omega
  · rw [if_neg e] at h
    by_cases e2 : 48 ≤ x ∧ x ≤ 57
    · exact e2
    · rw [if_neg e2] at h
      split at h <;> omega
theorem lt_of {x : Nat} (h : kdB x = 1) : 97 ≤ x ∧ x ≤ 122 := by
  unfold kdB at h
  by_cases e : 97 ≤ x ∧ x ≤ 122
  · exact e
  · rw [if_neg e] at h
    by_cases e2 : 48 ≤ x ∧ x ≤ 57
    · rw [if_pos e2] at h; omega
    · rw [if_neg e2] at h
      split at h <;> omega
/-! the class -/
def Txt (M : Mem) (n : Nat) (b : Nat → Nat) : Prop := n ≤ 800 ∧ M.1 1 0 0 1 = nI n ∧ ∀ i, i < n → b i < 256 ∧ M.1 2 0 0 i = sb (b i)
def Fc (M0 M : Mem) : Prop := M.2 = M0.2 ∧ ∀ kd k i j, ¬ (kd = 1 ∧ 4 ≤ j) → M.1 kd k i j = M0.1 kd k i j
theorem Fc.refl (M : Mem) : Fc M M := ⟨rfl, fun _ _ _ _ _ => rfl⟩
theorem Fc.trans (h : Fc M M1) (h2 : Fc M1 M2) : Fc M M2 := ⟨h2.1.trans h.1, fun a c d e q => (h2.2 a c d e q).trans (h.2 a c d e q)⟩
theorem Fc.wI (h : Fc M0 M) {j : Nat} {v : Int32} (hj : 4 ≤ j) : Fc M0 (wI M 1 0 0 j v) := ⟨h.1, fun a c d e q => by rw [wI_e, if_neg (by omega)]; exact h.2 a c d e q⟩
theorem Txt.fc (h : Txt M n b) (hF : Fc M M1) : Txt M1 n b := ⟨h.1, by rw [hF.2 _ _ _ _ (by omega)]; exact h.2.1, fun i hi => by rw [hF.2 _ _ _ _ (by omega)]; exact h.2.2 i hi⟩
theorem c_sk {Q : Unit → Mem → Prop} : ∀ (m f p : Nat) (M : Mem), p ≤ n → n - p ≤ m → m < f → Txt M n b → M.1 1 0 0 7 = nI p → (∀ M', Fc M M' → M'.1 1 0 0 7 = nI (rn n b isBl m p) → Sat (pX5_readToken_52 M') Q) → Sat (pX5_readToken_0 f M) Q := by
  intro m
  induction m with
  | zero =>
    intro f p M hp hm hf hT h7 K
    obtain ⟨f, rfl⟩ : ∃ f', f = f' + 1 := ⟨f - 1, by omega⟩
    obtain ⟨t1, t2, t3⟩ := id hT
    rw [pX5_readToken_0, h7, t2, if_pos (nI_le (by omega) (by omega))]
    exact K M (Fc.refl M) h7
  | succ m ih =>
    intro f p M hp hm hf hT h7 K
    obtain ⟨f, rfl⟩ : ∃ f', f = f' + 1 := ⟨f - 1, by omega⟩
    obtain ⟨t1, t2, t3⟩ := id hT
    by_cases e : p < n
    · obtain ⟨b1, b2⟩ := t3 p e
      obtain ⟨-, k2, k3⟩ := kd_ok b1
      rw [pX5_readToken_0, h7, t2, if_neg (nI_ge e (by omega)), chk_h (inB_nI (by omega) (by omega)), cl (by omega), b2, nI_1]
      have go : isBl (b p) = true → Sat (pX5_readToken_0 f (wI M 1 0 0 7 (nI (p + 1)))) Q := fun eb => by
        have hF : Fc M (wI M 1 0 0 7 (nI (p + 1))) := (Fc.refl M).wI (by omega)
        refine ih f (p + 1) _ (by omega) (by omega) (by omega) (hT.fc hF) wI_s (fun M' f' h' => K M' (hF.trans f') ?_)
        rw [h', rn, if_pos e, if_pos eb]
      by_cases e32 : b p = 32
      · rw [if_pos (k2.mpr e32), nm_def]
        exact go (decide_eq_true (Or.inl e32))
      · rw [if_neg (fun z => e32 (k2.mp z)), chk_h (inB_nI (by omega) (by omega))]
        by_cases e10 : b p = 10
        · rw [if_neg (not_not_intro (k3.mpr e10)), nm_def]
          exact go (decide_eq_true (Or.inr e10))
        · rw [if_pos (fun z => e10 (k3.mp z))]
          refine K M (Fc.refl M) ?_
          rw [h7, rn, if_pos e, if_neg (show ¬ isBl (b p) = true from fun q => by
            rcases of_decide_eq_true q with z | z
            · exact e32 z
            · exact e10 z)]
    · rw [pX5_readToken_0, h7, t2, if_pos (nI_le (by omega) (by omega))]
      refine K M (Fc.refl M) ?_
      rw [h7, rn, if_neg e]
theorem c_run {c : Nat} (hc : c < 256) {Q : Unit → Mem → Prop} : ∀ (m f p : Nat) (M : Mem), p ≤ n → n - p ≤ m → m < f → Txt M n b → M.1 1 0 0 7 = nI p → M.1 1 0 0 4 = nI c → (∀ M', Fc M M' → M'.1 1 0 0 7 = nI (rn n b (fun x => decide (kdB x = c)) m p) → M'.1 1 0 0 4 = nI c → M'.1 1 0 0 6 = M.1 1 0 0 6 → Sat (pX5_readToken_172 M') Q) → Sat (pX5_readToken_125 f 1 M) Q := by
  intro m
  induction m with
  | zero =>
    intro f p M hp hm hf hT h7 h4 K
    obtain ⟨f, rfl⟩ : ∃ f', f = f' + 1 := ⟨f - 1, by omega⟩
    obtain ⟨t1, t2, t3⟩ := id hT
    rw [pX5_readToken_125, if_neg (show ¬ (1 : Int32) = 0 by decide), h7, t2, if_pos (nI_le (by omega) (by omega))]
    exact K M (Fc.refl M) h7 h4 rfl
  | succ m ih =>
    intro f p M hp hm hf hT h7 h4 K
    obtain ⟨f, rfl⟩ : ∃ f', f = f' + 1 := ⟨f - 1, by omega⟩
    obtain ⟨t1, t2, t3⟩ := id hT
    by_cases e : p < n
    · obtain ⟨b1, b2⟩ := t3 p e
      obtain ⟨k1, -, -⟩ := kd_ok b1
      rw [pX5_readToken_125, if_neg (show ¬ (1 : Int32) = 0 by decide), h7, t2, if_neg (nI_ge e (by omega)), chk_h (inB_nI (by omega) (by omega)), cl (by omega), b2, k_0, bnd_some, h4, h7, k1, nI_1]
      have hb := kdB_lt b1
      by_cases ek : kdB (b p) = c
      · rw [if_neg (not_not_intro (congrArg nI ek)), nm_def]
        have hF : Fc M (wI M 1 0 0 7 (nI (p + 1))) := (Fc.refl M).wI (by omega)
        refine ih f (p + 1) _ (by omega) (by omega) (by omega) (hT.fc hF) wI_s (by rw [wI_j (by omega)]; exact h4) (fun M' f' h' h4' h6' => K M' (hF.trans f') ?_ h4' ?_)
        · rw [h', rn, if_pos e, if_pos (decide_eq_true ek)]
        · rw [h6', wI_j (by omega)]
      · rw [if_pos (fun z => ek (nI_inj (by omega) (by omega) z))]
        refine K M (Fc.refl M) ?_ h4 rfl
        rw [h7, rn, if_pos e, if_neg (fun q => ek (of_decide_eq_true q))]
    · rw [pX5_readToken_125, if_neg (show ¬ (1 : Int32) = 0 by decide), h7, t2, if_pos (nI_le (by omega) (by omega))]
      refine K M (Fc.refl M) ?_ h4 rfl
      rw [h7, rn, if_neg e]
theorem c_val (hT : Txt M n b) {e : Nat} (he : e ≤ n) (h7 : M.1 1 0 0 7 = nI e) : ∀ (m f i a : Nat), i + m = e → m < f → a < 20000000 → (∀ j, i ≤ j → j < e → kdB (b j) = 2) → ∃ v, v < 20000000 ∧ pX5_valueOfToken_7 f (nI a) (nI i) M = some (nI v, M) ∧ Ce v (tv b m i a) := by
  obtain ⟨t1, t2, t3⟩ := id hT
  intro m
  induction m with
  | zero =>
    intro f i a hi hf ha hd
    obtain ⟨f, rfl⟩ : ∃ f', f = f' + 1 := ⟨f - 1, by omega⟩
    refine ⟨a, ha, ?_, ?_⟩
    · rw [pX5_valueOfToken_7, h7, if_pos (nI_le (by omega) (by omega))]
    · show Ce a a
      unfold Ce
      omega
  | succ m ih =>
    intro f i a hi hf ha hd
    obtain ⟨f, rfl⟩ : ∃ f', f = f' + 1 := ⟨f - 1, by omega⟩
    have hdi := dg_of (hd i (Nat.le_refl _) (by omega))
    by_cases e1 : 1000003 ≤ a
    · refine ⟨a, ha, ?_, Or.inr ⟨e1, tv_ge _ _ _ e1⟩⟩
      rw [pX5_valueOfToken_7, h7, if_neg (nI_ge (by omega) (by omega)), if_pos (show (1000003 : Int32) ≤ nI a from nI_le (a := 1000003) e1 (by omega))]
    · obtain ⟨b1, b2⟩ := t3 i (by omega)
      have eb : sb (b i) = nI (b i) := if_pos (by omega)
      have ev : ((nI a * (10 : Int32)) + nI (b i)) - (48 : Int32) = nI (a * 10 + (b i - 48)) := by
        have a1 : nI a * (10 : Int32) = nI (a * 10) := nI_mul a 10
        rw [a1, nI_add]
        have a2 : nI (a * 10 + b i) - (48 : Int32) = nI (a * 10 + b i - 48) := nI_sub (b := 48) (by omega)
        rw [a2]
        congr 1
        omega
      obtain ⟨v, v1, v2, v3⟩ := ih f (i + 1) (a * 10 + (b i - 48)) (by omega) (by omega) (by omega) (fun j h1 h2 => hd j (by omega) h2)
      refine ⟨v, v1, ?_, v3⟩
      rw [pX5_valueOfToken_7, h7, if_neg (nI_ge (by omega) (by omega)), if_neg (show ¬ (1000003 : Int32) ≤ nI a from nI_ge (b := 1000003) (by omega) (by omega)), chk_h (inB_nI (by omega) (by omega)), cl (by omega), b2, eb, ev, nm_def, nI_1]
      exact v2
def Tk (n : Nat) (b : Nat → Nat) (p : Nat) (M : Mem) : Prop := M.1 1 0 0 4 = nI (Kd n b p) ∧ M.1 1 0 0 6 = nI (sk n b p) ∧ M.1 1 0 0 7 = nI (nxt n b p) ∧ (Kd n b p = 2 → ∃ v, v < 20000000 ∧ M.1 1 0 0 5 = nI v ∧ Ce v (Vl n b p))
theorem kdB_0 (x : Nat) : ¬ kdB x = 0 := by
  unfold kdB
  (repeat' split) <;> omega
theorem c_172 {p : Nat} (hp : p ≤ n) (hn : n ≤ 800) (hF : Fc M0 M) (hT : Txt M n b) (h4 : M.1 1 0 0 4 = nI (Kd n b p)) (h6 : M.1 1 0 0 6 = nI (sk n b p)) (h7 : M.1 1 0 0 7 = nI (nxt n b p)) (hlt : Kd n b p < 256) : Sat (pX5_readToken_172 M) (fun _ M' => Fc M0 M' ∧ Tk n b p M') := by
  have hs := sk_le (b := b) hp
  have hx := nxt_le (b := b) hp
  rw [pX5_readToken_172, h4]
  by_cases e : Kd n b p = 2
  · rw [if_neg (not_not_intro (show nI (Kd n b p) = 2 from congrArg nI e)), pX5_valueOfToken, h6, nm_def]
    obtain ⟨v, v1, v2, v3⟩ := c_val hT hx.2.1 h7 (nxt n b p - sk n b p) fu (sk n b p) 0 (by omega) (by show _ < 4096; omega) (by omega) (fun j j1 j2 => (tok_in hp (Or.inr e) j1 j2).trans e)
    have v2' : pX5_valueOfToken_7 fu 0 (nI (sk n b p)) M = some (nI v, M) := v2
    rw [v2', bnd_some, nm_def]
    refine S_ret ⟨hF.wI (by omega), by rw [wI_j (by omega)]; exact h4, by rw [wI_j (by omega)]; exact h6, by rw [wI_j (by omega)]; exact h7, fun _ => ⟨v, v1, wI_s, v3⟩⟩
  · rw [if_pos (show ¬ nI (Kd n b p) = 2 from fun q => e (nI_inj (by omega) (b := 2) (by omega) q)), nm_def]
    exact S_ret ⟨hF.wI (by omega), by rw [wI_j (by omega)]; exact h4, by rw [wI_j (by omega)]; exact h6, by rw [wI_j (by omega)]; exact h7, fun q => absurd q e⟩
theorem c_tok {p : Nat} (hp : p ≤ n) (hT : Txt M n b) (h7 : M.1 1 0 0 7 = nI p) : Sat (pX5_readToken M) (fun _ M' => Fc M M' ∧ Tk n b p M') := by
  have hn := hT.1
  have hs := sk_le (b := b) hp
  rw [pX5_readToken]
  refine c_sk 800 fu p M hp (by omega) (by decide) hT h7 (fun M1 f1 h1 => ?_)
  have h1' : M1.1 1 0 0 7 = nI (sk n b p) := h1
  have hT1 := hT.fc f1
  obtain ⟨t1, t2, t3⟩ := id hT1
  rw [pX5_readToken_52, h1']
  refine S_w (P := fun M2 => M2 = wI M1 1 0 0 6 (nI (sk n b p))) rfl (fun M2 h2 => ?_)
  subst h2
  have f2 : Fc M (wI M1 1 0 0 6 (nI (sk n b p))) := f1.wI (by omega)
  have hl : (wI M1 1 0 0 6 (nI (sk n b p))).1 1 0 0 1 = nI n := by rw [wI_j (by omega)]; exact t2
  have h72 : (wI M1 1 0 0 6 (nI (sk n b p))).1 1 0 0 7 = nI (sk n b p) := by rw [wI_j (by omega)]; exact h1'
  rw [h72, hl]
  by_cases e : sk n b p < n
  · obtain ⟨b1, b2⟩ := t3 _ e
    have hb := kdB_lt b1
    have eK : Kd n b p = kdB (b (sk n b p)) := if_pos e
    have b2' : (wI M1 1 0 0 6 (nI (sk n b p))).1 2 0 0 (sk n b p) = sb (b (sk n b p)) := by rw [wI_kd (by omega)]; exact b2
    rw [if_pos (nI_lt e (by omega)), chk_h (inB_nI (by omega) (by omega)), cl (by omega), b2', k_0, bnd_some, (kd_ok b1).1, ← eK]
    refine S_w (P := fun M2 => M2 = wI (wI M1 1 0 0 6 (nI (sk n b p))) 1 0 0 4 (nI (Kd n b p))) rfl (fun M2 h2 => ?_)
    subst h2
    have h73 : (wI (wI M1 1 0 0 6 (nI (sk n b p))) 1 0 0 4 (nI (Kd n b p))).1 1 0 0 7 = nI (sk n b p) := by rw [wI_j (by omega)]; exact h72
    rw [h73, nI_1]
    refine S_w (P := fun M2 => M2 = wI (wI (wI M1 1 0 0 6 (nI (sk n b p))) 1 0 0 4 (nI (Kd n b p))) 1 0 0 7 (nI (sk n b p + 1))) rfl (fun M2 h2 => ?_)
    subst h2
    have f3 : Fc M (wI (wI (wI M1 1 0 0 6 (nI (sk n b p))) 1 0 0 4 (nI (Kd n b p))) 1 0 0 7 (nI (sk n b p + 1))) := (f2.wI (by omega)).wI (by omega)
    have h44 : (wI (wI (wI M1 1 0 0 6 (nI (sk n b p))) 1 0 0 4 (nI (Kd n b p))) 1 0 0 7 (nI (sk n b p + 1))).1 1 0 0 4 = nI (Kd n b p) := by rw [wI_j (by omega), wI_s]
    have h66 : (wI (wI (wI M1 1 0 0 6 (nI (sk n b p))) 1 0 0 4 (nI (Kd n b p))) 1 0 0 7 (nI (sk n b p + 1))).1 1 0 0 6 = nI (sk n b p) := by rw [wI_j (by omega), wI_j (by omega), wI_s]
    rw [h44]
    have run : Kd n b p = 1 ∨ Kd n b p = 2 → Sat (pX5_readToken_125 fu 1 (wI (wI (wI M1 1 0 0 6 (nI (sk n b p))) 1 0 0 4 (nI (Kd n b p))) 1 0 0 7 (nI (sk n b p + 1)))) (fun _ M' => Fc M M' ∧ Tk n b p M') := fun hk => by
      refine c_run (c := Kd n b p) (by omega) 800 fu (sk n b p + 1) _ (by omega) (by omega) (by decide) (hT.fc f3) wI_s h44 (fun M' f' h7' h4' h6' => ?_)
      refine c_172 hp hn (f3.trans f') ((hT.fc f3).fc f') h4' (h6'.trans h66) ?_ (by omega)
      rw [h7']
      unfold nxt
      rw [if_pos e, if_pos hk]
    by_cases e1 : Kd n b p = 1
    · rw [if_pos (show nI (Kd n b p) = 1 from congrArg nI e1)]
      exact run (Or.inl e1)
    · rw [if_neg (show ¬ nI (Kd n b p) = 1 from fun q => e1 (nI_inj (by omega) (b := 1) (by omega) q))]
      by_cases e2 : Kd n b p = 2
      · rw [if_neg (not_not_intro (show nI (Kd n b p) = 2 from congrArg nI e2))]
        exact run (Or.inr e2)
      · rw [if_pos (show ¬ nI (Kd n b p) = 2 from fun q => e2 (nI_inj (by omega) (b := 2) (by omega) q))]
        show Sat (pX5_readToken_125 (4095 + 1) 0 _) _
        rw [pX5_readToken_125, if_pos rfl]
        refine c_172 hp hn f3 (hT.fc f3) h44 h66 ?_ (by omega)
        rw [wI_s]
        unfold nxt
        rw [if_pos e, if_neg (fun q => by omega)]
  · have eK : Kd n b p = 0 := if_neg e
    rw [if_neg (nI_nlt (by omega) (by omega)), nm_def]
    refine S_ret ⟨f2.wI (by omega), by rw [wI_s, eK]; rfl, by rw [wI_j (by omega), wI_s], ?_, fun q => absurd q (by omega)⟩
    rw [wI_j (by omega), h72]
    unfold nxt
    rw [if_neg e]
/-! words -/
def wl (e : Nat) : Nat := xLen.getD e 0
def wb (e j : Nat) : Nat := ((xByt.getD e []).getD j 0).toNatClampNeg
def isW (n : Nat) (b : Nat → Nat) (p e : Nat) : Bool := decide (Kd n b p = 1) && decide (nxt n b p - sk n b p = wl e) && (List.range (wl e)).all (fun j => decide (b (sk n b p + j) = wb e j))
theorem w_t : ((List.range 14).all fun e => decide (((Int32.ofNat (xLen.getD e 0)) >>> ((0 : Int32) &&& 31)) = nI (wl e)) && decide (wl e ≤ 6) && decide (1 ≤ wl e) && (List.range (wl e)).all (fun j => decide (((((((xByt.getD e []).getD (nI j).toNatClampNeg 0) &&& (255 : Int32)).toUInt32 % 65536).toInt32).toUInt32 % 65536).toInt32 = (((((xByt.getD e []).getD (nI j).toNatClampNeg 0) &&& (255 : Int32)).toUInt32 % 65536).toInt32)) && decide ((((((xByt.getD e []).getD (nI j).toNatClampNeg 0) &&& (255 : Int32)).toUInt32 % 65536).toInt32) = nI (wb e j)) && decide (97 ≤ wb e j ∧ wb e j ≤ 122))) = true := by decide +kernel
theorem w_ok {e : Nat} (he : e < 14) : ((Int32.ofNat (xLen.getD e 0)) >>> ((0 : Int32) &&& 31)) = nI (wl e) ∧ wl e ≤ 6 ∧ 1 ≤ wl e ∧ ∀ j, j < wl e → ((((((xByt.getD e []).getD (nI j).toNatClampNeg 0) &&& (255 : Int32)).toUInt32 % 65536).toInt32).toUInt32 % 65536).toInt32 = (((((xByt.getD e []).getD (nI j).toNatClampNeg 0) &&& (255 : Int32)).toUInt32 % 65536).toInt32) ∧ (((((xByt.getD e []).getD (nI j).toNatClampNeg 0) &&& (255 : Int32)).toUInt32 % 65536).toInt32) = nI (wb e j) ∧ 97 ≤ wb e j ∧ wb e j ≤ 122 := by
  have := List.all_eq_true.mp w_t e (List.mem_range.mpr he)
  simp only [Bool.and_eq_true, decide_eq_true_eq] at this
  refine ⟨this.1.1.1, this.1.1.2, this.1.2, fun j hj => ?_⟩
  have h2 := List.all_eq_true.mp this.2 j (List.mem_range.mpr hj)
  simp only [Bool.and_eq_true, decide_eq_true_eq] at h2
  exact ⟨h2.1.1, h2.1.2, h2.2⟩
theorem s_len {e : Nat} (he : e < 14) : pJ0_length_8abf5 e M = some (nI (wl e), M) := by
  rw [pJ0_length_8abf5, pJ0_coder_7d493, if_neg (show ¬ (1 : Int32) = 0 by decide), chk_h (by decide), bnd_some, (w_ok he).1]
theorem s_chr {e j : Nat} (he : e < 14) (hj : j < wl e) : pJ0_charAt_5068e e (nI j) M = some (nI (wb e j), M) := by
  obtain ⟨-, h6, -, h2⟩ := w_ok he
  obtain ⟨h3, h4, h5, h7⟩ := h2 j hj
  have hw : xLen.getD e 0 = wl e := rfl
  rw [h4] at h3
  rw [pJ0_charAt_5068e, pJ0_isLatin1_aae02, if_neg (show ¬ (1 : Int32) = 0 by decide), if_neg (show ¬ ¬ (0 : Int32) = 0 from not_not_intro rfl), chk_h b01_1, bnd_some, if_neg (show ¬ (1 : Int32) = 0 by decide), pJ1_charAt_3b067, pJ0_checkIndex_df160, pJ3_checkIndex_8e157, if_neg (nI_pos (by omega)), hw]
  rw [if_pos (show nI j < Int32.ofNat (wl e) from nI_lt hj (by omega)), bnd_some, bnd_some, chk_h (inB_nI hj (by omega)), h4, chk_h (decide_eq_true h3), bnd_some, chk_h (decide_eq_true h3)]
theorem c_w28 {e s : Nat} (he : e < 14) (hT : Txt M n b) (h6 : M.1 1 0 0 6 = nI s) (hs : s + wl e ≤ n) (hL : ∀ j, j < wl e → kdB (b (s + j)) = 1) : ∀ (m f j : Nat), j + m = wl e → m < f → pX5_isWord_28 e f e (nI j) M = some ((if (List.range m).all (fun i => decide (b (s + (j + i)) = wb e (j + i))) = true then 1 else 0), M) := by
  obtain ⟨t1, t2, t3⟩ := id hT
  intro m
  induction m with
  | zero =>
    intro f j hj hf
    obtain ⟨f, rfl⟩ : ∃ f', f = f' + 1 := ⟨f - 1, by omega⟩
    rw [pX5_isWord_28, s_len he, bnd_some, if_pos (nI_le (by omega) (by have := (w_ok he).2.1; omega)), chk_h b01_1]
    rfl
  | succ m ih =>
    intro f j hj hf
    obtain ⟨f, rfl⟩ : ∃ f', f = f' + 1 := ⟨f - 1, by omega⟩
    have hw6 := (w_ok he).2.1
    obtain ⟨b1, b2⟩ := t3 (s + j) (by omega)
    have hl := lt_of (hL j (by omega))
    have eb : sb (b (s + j)) = nI (b (s + j)) := if_pos (by omega)
    have hwb := ((w_ok he).2.2.2 j (by omega)).2.2
    rw [pX5_isWord_28, s_len he, bnd_some, if_neg (nI_ge (by omega) (by omega)), h6, nI_add, chk_h (inB_nI (by omega) (by omega)), s_chr he (by omega), bnd_some, cl (by omega), b2, eb, nI_1]
    have ra : (List.range (m + 1)).all (fun i => decide (b (s + (j + i)) = wb e (j + i))) = (decide (b (s + j) = wb e j) && (List.range m).all (fun i => decide (b (s + (j + 1 + i)) = wb e (j + 1 + i)))) := by
      rw [List.range_succ_eq_map, List.all_cons, List.all_map]
      congr 1
      refine congrArg (fun g => (List.range m).all g) ?_
      funext i
      show decide (b (s + (j + (i + 1))) = wb e (j + (i + 1))) = _
      rw [show j + (i + 1) = j + 1 + i from by omega]
    rw [ra]
    by_cases q : b (s + j) = wb e j
    · rw [if_pos (congrArg nI q), ih f (j + 1) (by omega) (by omega), decide_eq_true q, Bool.true_and]
    · rw [if_neg (fun z => q (nI_inj (by omega) (by omega) z)), decide_eq_false q, Bool.false_and, chk_h b01_0, if_neg (by decide)]
theorem c_word {p e : Nat} (hp : p ≤ n) (he : e < 14) (hT : Txt M n b) (hK : Tk n b p M) : pX5_isWord e M = some ((if isW n b p e = true then 1 else 0), M) := by
  obtain ⟨k4, k6, k7, -⟩ := hK
  have hn := hT.1
  have hs := sk_le (b := b) hp
  have hx := nxt_le (b := b) hp
  have hw6 := (w_ok he).2.1
  unfold isW
  rw [pX5_isWord, k4]
  by_cases e1 : Kd n b p = 1
  · rw [if_neg (not_not_intro (show nI (Kd n b p) = 1 from congrArg nI e1)), s_len he, bnd_some, k7, k6, nI_sub (by omega), decide_eq_true e1, Bool.true_and]
    by_cases e2 : nxt n b p - sk n b p = wl e
    · rw [if_pos (congrArg nI e2), decide_eq_true e2, Bool.true_and]
      have := c_w28 he hT k6 (by omega) (fun j hj => (tok_in hp (Or.inl e1) (by omega) (by omega)).trans e1) (wl e) fu 0 (by omega) (by show _ < 4096; omega)
      simp only [Nat.zero_add] at this
      exact this
    · rw [if_neg (fun z => e2 (nI_inj (by omega) (by omega) z)), decide_eq_false e2, Bool.false_and, chk_h b01_0, if_neg (by decide)]
  · have hlt : Kd n b p < 256 := by
      unfold Kd
      split
      · exact kdB_lt (hT.2.2 _ (by assumption)).1
      · omega
    rw [if_pos (show ¬ nI (Kd n b p) = 1 from fun q => e1 (nI_inj (by omega) (b := 1) (by omega) q)), decide_eq_false e1, chk_h b01_0, Bool.false_and, Bool.false_and, if_neg (by decide)]
end TOK
