/-! ===== the reference's reading of tokens ===== -/
section MTOK
variable {n : Nat} {b : Nat → Nat} {M M' M0 M1 M2 M3 : Mem}
def k8 (c : Nat) : Nat := if c = 1 then 2 else if c = 2 then 3 else if c = 3 then 1 else if c = 0 then 0 else 4
def TxM (M : Mem) (n : Nat) (b : Nat → Nat) : Prop := n ≤ 800 ∧ M.1 19 0 0 9 = nI n ∧ ∀ i, i < n → b i < 256 ∧ M.1 27 0 0 i = nI (b i)
def Fr (M0 M : Mem) : Prop := M.2.2 = M0.2.2 ∧ ∀ kd k i j, ¬ (kd = 19 ∧ 10 ≤ j ∧ j ≤ 14) → M.1 kd k i j = M0.1 kd k i j
theorem Fr.refl (M : Mem) : Fr M M := ⟨rfl, fun _ _ _ _ _ => rfl⟩
theorem Fr.trans (h : Fr M M1) (h2 : Fr M1 M2) : Fr M M2 := ⟨h2.1.trans h.1, fun a c d e q => (h2.2 a c d e q).trans (h.2 a c d e q)⟩
theorem Fr.wI (h : Fr M0 M) {j : Nat} {v : Int32} (hj : 10 ≤ j) (hj2 : j ≤ 14) : Fr M0 (wI M 19 0 0 j v) := ⟨h.1, fun a c d e q => by rw [wI_e, if_neg (by omega)]; exact h.2 a c d e q⟩
theorem Fr.wW (h : Fr M0 M) {v : Int64} : Fr M0 (wW M v) := ⟨h.1, fun a c d e q => h.2 a c d e q⟩
theorem TxM.fr (h : TxM M n b) (hF : Fr M M1) : TxM M1 n b := ⟨h.1, by rw [hF.2 _ _ _ _ (by omega)]; exact h.2.1, fun i hi => by rw [hF.2 _ _ _ _ (by omega)]; exact h.2.2 i hi⟩
def bt8 (n : Nat) (b : Nat → Nat) (p : Nat) : Int32 := if p < n then nI (b p) else -1
theorem m_byte (hT : TxM M n b) {p : Nat} (hp : p ≤ n) : pX8_byteAt (nI p) M = some (bt8 n b p, M) := by
  obtain ⟨t1, t2, t3⟩ := hT
  rw [pX8_byteAt, t2]
  unfold bt8
  by_cases e : p < n
  · rw [if_neg (nI_ge e (by omega)), chk_h (inB_nI (by omega) (by omega)), cl (by omega), (t3 p e).2, if_pos e]
  · rw [if_pos (nI_le (by omega) (by omega)), if_neg e]
theorem m_let (v : Int32) : pX8_isLetter v M = some ((if rng v 97 122 = true then 1 else 0), M) := by
  rw [pX8_isLetter, m_rng, bnd_some, chk_h (b01_if (Or.inr rfl) (Or.inl rfl))]
theorem m_dig (v : Int32) : pX8_isDigit v M = some ((if rng v 48 57 = true then 1 else 0), M) := by
  rw [pX8_isDigit, m_rng, bnd_some, chk_h (b01_if (Or.inr rfl) (Or.inl rfl))]
theorem b8_t : ((List.range 256).all fun x => decide (rng (nI x) 97 122 = true ↔ kdB x = 1) && decide (rng (nI x) 48 57 = true ↔ kdB x = 2)) = true := by decide +kernel
theorem b8_l {p : Nat} (hb : ∀ i, i < n → b i < 256) : rng (bt8 n b p) 97 122 = true ↔ p < n ∧ kdB (b p) = 1 := by
  unfold bt8
  by_cases e : p < n
  · have := List.all_eq_true.mp b8_t (b p) (List.mem_range.mpr (hb p e))
    simp only [Bool.and_eq_true, decide_eq_true_eq] at this
    rw [if_pos e, this.1]
    exact ⟨fun q => ⟨e, q⟩, fun q => q.2⟩
  · rw [if_neg e]
    exact ⟨fun q => absurd q (by decide), fun q => absurd q.1 e⟩
theorem b8_d {p : Nat} (hb : ∀ i, i < n → b i < 256) : rng (bt8 n b p) 48 57 = true ↔ p < n ∧ kdB (b p) = 2 := by
  unfold bt8
  by_cases e : p < n
  · have := List.all_eq_true.mp b8_t (b p) (List.mem_range.mpr (hb p e))
    simp only [Bool.and_eq_true, decide_eq_true_eq] at this
    rw [if_pos e, this.2]
    exact ⟨fun q => ⟨e, q⟩, fun q => q.2⟩
  · rw [if_neg e]
    exact ⟨fun q => absurd q (by decide), fun q => absurd q.1 e⟩
theorem b8_c {p c : Nat} (hb : ∀ i, i < n → b i < 256) (hc : c < 256) : bt8 n b p = nI c ↔ p < n ∧ b p = c := by
  unfold bt8
  by_cases e : p < n
  · have := hb p e
    rw [if_pos e]
    exact ⟨fun q => ⟨e, nI_inj (by omega) (by omega) q⟩, fun q => congrArg nI q.2⟩
  · rw [if_neg e]
    exact ⟨fun q => absurd q.symm (m1_ne (by omega)), fun q => absurd q.1 e⟩
/-- packed words -/
def wv (b : Nat → Nat) : Nat → Nat → Nat → Nat → Nat
  | 0, _, _, w => w
  | m + 1, i, c, w => wv b m (i + 1) (c + 1) (if 11 ≤ c then w else 27 * w + (b i - 96))
def ww (g : Nat → Nat) : Nat → Nat → Nat → Nat
  | 0, _, w => w
  | m + 1, i, w => ww g m (i + 1) (27 * w + (g i - 96))
theorem wv_ww (b : Nat → Nat) : ∀ m i c w, c + m ≤ 11 → wv b m i c w = ww b m i w := by
  intro m
  induction m with
  | zero => intro i c w _; rfl
  | succ m ih =>
    intro i c w h
    rw [wv, ww, if_neg (by omega)]
    exact ih _ _ _ (by omega)
theorem ww_inj {g h : Nat → Nat} : ∀ m i j w w', (∀ x, x < m → 97 ≤ g (i + x) ∧ g (i + x) ≤ 122) → (∀ x, x < m → 97 ≤ h (j + x) ∧ h (j + x) ≤ 122) → ww g m i w = ww h m j w' → w = w' ∧ ∀ x, x < m → g (i + x) = h (j + x) := by
  intro m
  induction m with
  | zero => intro i j w w' _ _ q; exact ⟨q, fun x hx => absurd hx (Nat.not_lt_zero x)⟩
  | succ m ih =>
    intro i j w w' hg hh q
    obtain ⟨r1, r2⟩ := ih (i + 1) (j + 1) _ _ (fun x hx => by rw [show i + 1 + x = i + (x + 1) from by omega]; exact hg _ (by omega)) (fun x hx => by rw [show j + 1 + x = j + (x + 1) from by omega]; exact hh _ (by omega)) q
    have g0 := hg 0 (by omega)
    have h0 := hh 0 (by omega)
    rw [Nat.add_zero] at g0 h0
    refine ⟨by omega, fun x hx => ?_⟩
    by_cases e : x = 0
    · subst e
      rw [Nat.add_zero, Nat.add_zero]
      omega
    · have := r2 (x - 1) (by omega)
      rw [show i + 1 + (x - 1) = i + x from by omega, show j + 1 + (x - 1) = j + x from by omega] at this
      exact this
theorem ww_cg {g h : Nat → Nat} : ∀ m i j w, (∀ x, x < m → g (i + x) = h (j + x)) → ww g m i w = ww h m j w := by
  intro m
  induction m with
  | zero => intro i j w _; rfl
  | succ m ih =>
    intro i j w q
    have := q 0 (by omega)
    rw [Nat.add_zero, Nat.add_zero] at this
    rw [ww, ww, this]
    exact ih _ _ _ (fun x hx => by rw [show i + 1 + x = i + (x + 1) from by omega, show j + 1 + x = j + (x + 1) from by omega]; exact q _ (by omega))
theorem ww_bd {g : Nat → Nat} : ∀ m i w B, (∀ x, x < m → g (i + x) ≤ 122) → w + 1 ≤ B → ww g m i w + 1 ≤ B * 27 ^ m := by
  intro m
  induction m with
  | zero =>
    intro i w B _ h
    show w + 1 ≤ B * 27 ^ 0
    rw [Nat.pow_zero, Nat.mul_one]
    exact h
  | succ m ih =>
    intro i w B hg h
    have g0 := hg 0 (by omega)
    rw [Nat.add_zero] at g0
    have := ih (i + 1) (27 * w + (g i - 96)) (B * 27) (fun x hx => by rw [show i + 1 + x = i + (x + 1) from by omega]; exact hg _ (by omega)) (by omega)
    rw [ww, Nat.pow_succ, Nat.mul_comm (27 ^ m) 27, ← Nat.mul_assoc]
    exact this
theorem lN_st {w x : Nat} (hx : 96 ≤ x) (hx2 : x < 256) : (((27 : Int64) * lN w) + (nI x).toInt64) - (96 : Int64) = lN (27 * w + (x - 96)) := by
  have t : ∀ x, x < 256 → (nI x).toInt64 = lN x := by decide +kernel
  have a1 : (27 : Int64) * lN w = lN (27 * w) := (Int64.ofNat_mul 27 w).symm
  have a2 : lN (27 * w) + lN x = lN (27 * w + x) := (Int64.ofNat_add _ _).symm
  have a3 : lN (27 * w + x) - (96 : Int64) = lN (27 * w + x - 96) := (Int64.ofNat_sub _ 96 (by omega)).symm
  rw [t x hx2, a1, a2, a3]
  congr 1
  omega
/-! the runs of letters and digits -/
theorem m_let96 (hb : ∀ i, i < n → b i < 256) {s : Nat} : ∀ (m f p : Nat) (M : Mem), s ≤ p → p ≤ n → n - p ≤ m → m < f → TxM M n b → M.1 19 0 0 10 = nI p → M.1 19 0 0 13 = nI (p - s) → (∃ w, M.2.1 = lN w ∧ ∀ r, wv b (p - s + r) s 0 0 = wv b r p (p - s) w) → Sat (pX8_nextToken_96 f M) (fun _ M' => Fr M M' ∧ M'.1 19 0 0 10 = nI (rn n b (fun x => decide (kdB x = 1)) m p) ∧ M'.1 19 0 0 11 = M.1 19 0 0 11 ∧ M'.1 19 0 0 12 = M.1 19 0 0 12 ∧ M'.1 19 0 0 13 = nI (rn n b (fun x => decide (kdB x = 1)) m p - s) ∧ M'.2.1 = lN (wv b (rn n b (fun x => decide (kdB x = 1)) m p - s) s 0 0)) := by
  intro m
  induction m with
  | zero =>
    intro f p M hsp hp hm hf hT h10 h13 hw
    obtain ⟨f, rfl⟩ : ∃ f', f = f' + 1 := ⟨f - 1, by omega⟩
    obtain ⟨w, w1, w2⟩ := hw
    rw [pX8_nextToken_96, h10, m_byte hT hp, bnd_some, m_let, if_neg (fun q => by have := ((b8_l hb).mp q).1; omega), bnd_some, if_pos rfl]
    exact S_ret ⟨Fr.refl M, h10, rfl, rfl, h13, by rw [w1]; exact congrArg lN (w2 0).symm⟩
  | succ m ih =>
    intro f p M hsp hp hm hf hT h10 h13 hw
    obtain ⟨f, rfl⟩ : ∃ f', f = f' + 1 := ⟨f - 1, by omega⟩
    obtain ⟨w, w1, w2⟩ := hw
    have hn := hT.1
    by_cases e : p < n ∧ kdB (b p) = 1
    · have hbp := hb p e.1
      have hl := lt_of e.2
      have er : rn n b (fun x => decide (kdB x = 1)) (m + 1) p = rn n b (fun x => decide (kdB x = 1)) m (p + 1) := by
        rw [rn, if_pos e.1, if_pos (decide_eq_true e.2)]
      have eb : bt8 n b p = nI (b p) := if_pos e.1
      rw [pX8_nextToken_96, h10, m_byte hT hp, bnd_some, m_let, if_pos ((b8_l hb).mpr e), bnd_some, if_neg (show ¬ (1 : Int32) = 0 by decide), h13, h10, m_byte hT hp, bnd_some, er]
      have go : ∀ w', (∀ r, wv b (p + 1 - s + r) s 0 0 = wv b r (p + 1) (p + 1 - s) w') → Sat (pX8_nextToken_149 (fun M => pX8_nextToken_96 f M) (lN w') M) (fun _ M' => Fr M M' ∧ M'.1 19 0 0 10 = nI (rn n b (fun x => decide (kdB x = 1)) m (p + 1)) ∧ M'.1 19 0 0 11 = M.1 19 0 0 11 ∧ M'.1 19 0 0 12 = M.1 19 0 0 12 ∧ M'.1 19 0 0 13 = nI (rn n b (fun x => decide (kdB x = 1)) m (p + 1) - s) ∧ M'.2.1 = lN (wv b (rn n b (fun x => decide (kdB x = 1)) m (p + 1) - s) s 0 0)) := fun w' hw' => by
        have q13 : (wW M (lN w')).1 19 0 0 13 = nI (p - s) := h13
        have q10 : (wI (wW M (lN w')) 19 0 0 13 (nI (p - s + 1))).1 19 0 0 10 = nI p := by rw [wI_j (by omega)]; exact h10
        rw [pX8_nextToken_149, nm_def, q13, nI_1, nm_def, q10, nI_1, nm_def]
        have hF : Fr M (wI (wI (wW M (lN w')) 19 0 0 13 (nI (p - s + 1))) 19 0 0 10 (nI (p + 1))) := (((Fr.refl M).wW).wI (by omega) (by omega)).wI (by omega) (by omega)
        refine S_mono (ih f (p + 1) _ (by omega) (by omega) (by omega) (by omega) (hT.fr hF) wI_s (by rw [wI_j (by omega), wI_s]; congr 1; omega) ⟨w', rfl, hw'⟩) (fun _ M' h' => ?_)
        obtain ⟨g1, g2, g3, g4, g5, g6⟩ := h'
        refine ⟨hF.trans g1, g2, ?_, ?_, g5, g6⟩
        · rw [g3, wI_j (by omega), wI_j (by omega)]; rfl
        · rw [g4, wI_j (by omega), wI_j (by omega)]; rfl
      by_cases e11 : 11 ≤ p - s
      · rw [if_pos (show (11 : Int32) ≤ nI (p - s) from nI_le (a := 11) e11 (by omega)), w1]
        refine go w (fun r => ?_)
        have := w2 (r + 1)
        rw [wv, if_pos e11] at this
        rw [show p + 1 - s + r = p - s + (r + 1) from by omega, show p + 1 - s = p - s + 1 from by omega]
        exact this
      · rw [if_neg (show ¬ (11 : Int32) ≤ nI (p - s) from nI_ge (b := 11) (by omega) (by omega)), w1, eb, lN_st (by omega) hbp]
        refine go (27 * w + (b p - 96)) (fun r => ?_)
        have := w2 (r + 1)
        rw [wv, if_neg e11] at this
        rw [show p + 1 - s + r = p - s + (r + 1) from by omega, show p + 1 - s = p - s + 1 from by omega]
        exact this
    · have er : rn n b (fun x => decide (kdB x = 1)) (m + 1) p = p := by
        rw [rn]
        by_cases e1 : p < n
        · rw [if_pos e1, if_neg (fun q => e ⟨e1, of_decide_eq_true q⟩)]
        · rw [if_neg e1]
      rw [pX8_nextToken_96, h10, m_byte hT hp, bnd_some, m_let, if_neg (fun q => e ((b8_l hb).mp q)), bnd_some, if_pos rfl, er]
      exact S_ret ⟨Fr.refl M, h10, rfl, rfl, h13, by rw [w1]; exact congrArg lN (w2 0).symm⟩
theorem m_dg187 (hb : ∀ i, i < n → b i < 256) {s : Nat} : ∀ (m f p v : Nat) (M : Mem), s ≤ p → p ≤ n → n - p ≤ m → m < f → TxM M n b → M.1 19 0 0 10 = nI p → M.1 19 0 0 14 = nI v → v < 200000000 → (∀ a, Ce v a → True) → ∀ a, Ce v a → Sat (pX8_nextToken_187 f M) (fun _ M' => Fr M M' ∧ M'.1 19 0 0 10 = nI (rn n b (fun x => decide (kdB x = 2)) m p) ∧ M'.1 19 0 0 11 = M.1 19 0 0 11 ∧ M'.1 19 0 0 12 = M.1 19 0 0 12 ∧ ∃ v', v' < 200000000 ∧ M'.1 19 0 0 14 = nI v' ∧ Ce v' (tv b (rn n b (fun x => decide (kdB x = 2)) m p - p) p a)) := by
  intro m
  induction m with
  | zero =>
    intro f p v M hsp hp hm hf hT h10 h14 hv _ a ha
    obtain ⟨f, rfl⟩ : ∃ f', f = f' + 1 := ⟨f - 1, by omega⟩
    rw [pX8_nextToken_187, h10, m_byte hT hp, bnd_some, m_dig, if_neg (fun q => by have := ((b8_d hb).mp q).1; omega), bnd_some, if_pos rfl]
    refine S_ret ⟨Fr.refl M, h10, rfl, rfl, v, hv, h14, ?_⟩
    rw [show rn n b (fun x => decide (kdB x = 2)) 0 p - p = 0 from Nat.sub_self p]
    exact ha
  | succ m ih =>
    intro f p v M hsp hp hm hf hT h10 h14 hv _ a ha
    obtain ⟨f, rfl⟩ : ∃ f', f = f' + 1 := ⟨f - 1, by omega⟩
    have hn := hT.1
    by_cases e : p < n ∧ kdB (b p) = 2
    · have hbp := hb p e.1
      have hd := dg_of e.2
      have er : rn n b (fun x => decide (kdB x = 2)) (m + 1) p = rn n b (fun x => decide (kdB x = 2)) m (p + 1) := by
        rw [rn, if_pos e.1, if_pos (decide_eq_true e.2)]
      have eb : bt8 n b p = nI (b p) := if_pos e.1
      have hge := (rn_in (n := n) (b := b) (P := fun x => decide (kdB x = 2)) m (p + 1) (by omega)).1
      have etv : ∀ a', tv b (rn n b (fun x => decide (kdB x = 2)) m (p + 1) - p) p a' = tv b (rn n b (fun x => decide (kdB x = 2)) m (p + 1) - (p + 1)) (p + 1) (a' * 10 + (b p - 48)) := fun a' => by
        rw [show rn n b (fun x => decide (kdB x = 2)) m (p + 1) - p = (rn n b (fun x => decide (kdB x = 2)) m (p + 1) - (p + 1)) + 1 from by omega, tv]
      rw [pX8_nextToken_187, h10, m_byte hT hp, bnd_some, m_dig, if_pos ((b8_d hb).mpr e), bnd_some, if_neg (show ¬ (1 : Int32) = 0 by decide), h14, h10, m_byte hT hp, bnd_some, er, etv]
      have go : ∀ v', v' < 200000000 → Ce v' (a * 10 + (b p - 48)) → Sat (pX8_nextToken_187 f (wI (wI M 19 0 0 14 (nI v')) 19 0 0 10 (nI (p + 1)))) (fun _ M' => Fr M M' ∧ M'.1 19 0 0 10 = nI (rn n b (fun x => decide (kdB x = 2)) m (p + 1)) ∧ M'.1 19 0 0 11 = M.1 19 0 0 11 ∧ M'.1 19 0 0 12 = M.1 19 0 0 12 ∧ ∃ v', v' < 200000000 ∧ M'.1 19 0 0 14 = nI v' ∧ Ce v' (tv b (rn n b (fun x => decide (kdB x = 2)) m (p + 1) - (p + 1)) (p + 1) (a * 10 + (b p - 48)))) := fun v' hv' hc => by
        have hF : Fr M (wI (wI M 19 0 0 14 (nI v')) 19 0 0 10 (nI (p + 1))) := ((Fr.refl M).wI (by omega) (by omega)).wI (by omega) (by omega)
        refine S_mono (ih f (p + 1) v' _ (by omega) (by omega) (by omega) (by omega) (hT.fr hF) wI_s (by rw [wI_j (by omega), wI_s]) hv' (fun _ _ => trivial) _ hc) (fun _ M' h' => ?_)
        obtain ⟨g1, g2, g3, g4, g5⟩ := h'
        refine ⟨hF.trans g1, g2, ?_, ?_, g5⟩
        · rw [g3, wI_j (by omega), wI_j (by omega)]
        · rw [g4, wI_j (by omega), wI_j (by omega)]
      by_cases e7 : v ≤ 10000000
      · have ev : (((10 : Int32) * nI v) + nI (b p)) - (48 : Int32) = nI (10 * v + (b p - 48)) := by
          have a1 : (10 : Int32) * nI v = nI (10 * v) := nI_mul 10 v
          rw [a1, nI_add]
          have a2 : nI (10 * v + b p) - (48 : Int32) = nI (10 * v + b p - 48) := nI_sub (b := 48) (by omega)
          rw [a2]
          congr 1
          omega
        rw [if_pos (show nI v ≤ (10000000 : Int32) from nI_le (b := 10000000) e7 (by omega)), eb, ev, nm_def, wI_j (by omega), h10, nI_1, nm_def]
        refine go _ (by omega) ?_
        unfold Ce at ha ⊢
        omega
      · rw [if_neg (show ¬ nI v ≤ (10000000 : Int32) from nI_ge (a := 10000000) (by omega) (by omega)), nm_def, wI_j (by omega), h10, nI_1, nm_def]
        refine go _ hv ?_
        unfold Ce at ha ⊢
        omega
    · have er : rn n b (fun x => decide (kdB x = 2)) (m + 1) p = p := by
        rw [rn]
        by_cases e1 : p < n
        · rw [if_pos e1, if_neg (fun q => e ⟨e1, of_decide_eq_true q⟩)]
        · rw [if_neg e1]
      rw [pX8_nextToken_187, h10, m_byte hT hp, bnd_some, m_dig, if_neg (fun q => e ((b8_d hb).mp q)), bnd_some, if_pos rfl, er]
      refine S_ret ⟨Fr.refl M, h10, rfl, rfl, v, hv, h14, ?_⟩
      rw [Nat.sub_self]
      exact ha
def mMain (M4 : Mem) : Option (Unit × Mem) := nm (wI M4 19 0 0 11 (M4.1 19 0 0 10)) fun M6 => nm (wI M6 19 0 0 13 (0 : Int32)) fun M7 => nm (wW M7 (0 : Int64)) fun M8 => nm (wI M8 19 0 0 14 (0 : Int32)) fun M9 => bnd (pX8_byteAt (M9.1 19 0 0 10) M9) fun o11 M10 => if ¬ o11 = (-1 : Int32) then (bnd (pX8_isLetter o11 M10) fun o13 M12 => if o13 = 0 then (bnd (pX8_isDigit o11 M12) fun o15 M14 => if o15 = 0 then (if o11 = (59 : Int32) then (nm (wI M14 19 0 0 12 (4 : Int32)) fun M16 => nm (wI M16 19 0 0 10 ((M16.1 19 0 0 10) + (1 : Int32))) fun M17 => some ((), M17))
    else if o11 = (44 : Int32) then (nm (wI M14 19 0 0 12 (4 : Int32)) fun M18 => nm (wI M18 19 0 0 10 ((M18.1 19 0 0 10) + (1 : Int32))) fun M19 => some ((), M19))
    else if ¬ o11 = (58 : Int32) then (nm (wI M14 19 0 0 12 (1 : Int32)) fun M20 => nm (wI M20 19 0 0 10 ((M20.1 19 0 0 10) + (1 : Int32))) fun M21 => some ((), M21))
    else nm (wI M14 19 0 0 12 (4 : Int32)) fun M22 => nm (wI M22 19 0 0 10 ((M22.1 19 0 0 10) + (1 : Int32))) fun M23 => some ((), M23))
    else nm (wI M14 19 0 0 12 (3 : Int32)) fun M24 => pX8_nextToken_187   fu M24)
    else nm (wI M12 19 0 0 12 (2 : Int32)) fun M25 => pX8_nextToken_96   fu M25)
    else nm (wI M10 19 0 0 12 (0 : Int32)) fun M26 => some ((), M26)
theorem m_sk (hb : ∀ i, i < n → b i < 256) {Q : Unit → Mem → Prop} : ∀ (m f p : Nat) (M : Mem), p ≤ n → n - p ≤ m → m < f → TxM M n b → M.1 19 0 0 10 = nI p → (∀ M', Fr M M' → M'.1 19 0 0 10 = nI (rn n b isBl m p) → Sat (mMain M') Q) → Sat (pX8_nextToken_0 f M) Q := by
  intro m
  induction m with
  | zero =>
    intro f p M hp hm hf hT h10 K
    obtain ⟨f, rfl⟩ : ∃ f', f = f' + 1 := ⟨f - 1, by omega⟩
    rw [pX8_nextToken_0, h10, m_byte hT hp, bnd_some, if_neg (show ¬ bt8 n b p = 32 from fun q => by have := ((b8_c (c := 32) hb (by omega)).mp q).1; omega), h10, m_byte hT hp, bnd_some, if_pos (show ¬ bt8 n b p = 10 from fun q => by have := ((b8_c (c := 10) hb (by omega)).mp q).1; omega)]
    exact K M (Fr.refl M) h10
  | succ m ih =>
    intro f p M hp hm hf hT h10 K
    obtain ⟨f, rfl⟩ : ∃ f', f = f' + 1 := ⟨f - 1, by omega⟩
    have hn := hT.1
    have go : p < n → isBl (b p) = true → Sat (pX8_nextToken_0 f (wI M 19 0 0 10 (nI (p + 1)))) Q := fun e eb => by
      have hF : Fr M (wI M 19 0 0 10 (nI (p + 1))) := (Fr.refl M).wI (by omega) (by omega)
      refine ih f (p + 1) _ (by omega) (by omega) (by omega) (hT.fr hF) wI_s (fun M' f' h' => K M' (hF.trans f') ?_)
      rw [h', rn, if_pos e, if_pos eb]
    rw [pX8_nextToken_0, h10, m_byte hT hp, bnd_some, h10, nI_1, nm_def]
    by_cases e32 : p < n ∧ b p = 32
    · rw [if_pos (show bt8 n b p = 32 from (b8_c (c := 32) hb (by omega)).mpr e32)]
      exact go e32.1 (decide_eq_true (Or.inl e32.2))
    · rw [if_neg (show ¬ bt8 n b p = 32 from fun q => e32 ((b8_c (c := 32) hb (by omega)).mp q)), m_byte hT hp, bnd_some]
      by_cases e10 : p < n ∧ b p = 10
      · rw [if_neg (not_not_intro (show bt8 n b p = 10 from (b8_c (c := 10) hb (by omega)).mpr e10)), h10, nI_1, nm_def]
        exact go e10.1 (decide_eq_true (Or.inr e10.2))
      · rw [if_pos (show ¬ bt8 n b p = 10 from fun q => e10 ((b8_c (c := 10) hb (by omega)).mp q))]
        refine K M (Fr.refl M) ?_
        rw [h10, rn]
        by_cases e : p < n
        · rw [if_pos e, if_neg (show ¬ isBl (b p) = true from fun q => by
            rcases of_decide_eq_true q with z | z
            · exact e32 ⟨e, z⟩
            · exact e10 ⟨e, z⟩)]
        · rw [if_neg e]
def Tm (n : Nat) (b : Nat → Nat) (p : Nat) (M : Mem) : Prop := M.1 19 0 0 12 = nI (k8 (Kd n b p)) ∧ M.1 19 0 0 11 = nI (sk n b p) ∧ M.1 19 0 0 10 = nI (nxt n b p) ∧ (Kd n b p = 1 → M.1 19 0 0 13 = nI (nxt n b p - sk n b p) ∧ M.2.1 = lN (wv b (nxt n b p - sk n b p) (sk n b p) 0 0)) ∧ (Kd n b p = 2 → ∃ v, v < 200000000 ∧ M.1 19 0 0 14 = nI v ∧ Ce v (Vl n b p))
end MTOK
