/-! ===== the law holds ===== -/
section HOLDS
variable {T n d t : Nat} {A A' : AS} {M0 M M' : Mem} {Z : Nat × (Nat → Int32)}
theorem runT_501 : pL_runT (501 : Int32) M = some (.ok (-102), M) := by
  rw [pL_runT, pX7_runT, pX7_needInRangeT, if_neg (show ¬ (501 : Int32) < 1 by decide), if_neg (show ¬ (501 : Int32) ≤ 500 by decide), pX7_needInRangeT_10]
  rfl
theorem bndc_ok {σ ρ : Type} {o : σ} {f : σ → Mem → Option (ρ × Mem)} {g : Nat → Mem → Option (ρ × Mem)} : bndc (some (.ok o, M)) f g = f o M := rfl
def H1 : Int32 → Mem → Prop := fun o _ => o = 1
theorem S_o {Q : Int32 → Mem → Prop} {r : Option (Int32 × Mem)} {P : Mem → Prop} (h : Sat r (fun o M' => o = 1 ∧ P M')) {f : Int32 → Mem → Option (Int32 × Mem)} (k : ∀ M', P M' → Sat (f 1 M') Q) : Sat (bnd r f) Q := by
  refine S_bnd h (fun o M' hh => ?_)
  obtain ⟨rfl, hp⟩ := hh
  exact k M' hp
theorem h82 (hZ : Z.1 ≤ 260) (hd : d < 900000) (hn : n ≤ 250000) (hT1 : 1 ≤ T) {k16 : Int32 → Mem → Option (Int32 × Mem)} {v2 : Int32} (K : ∀ d' A' M', d' ≤ d + 2 → Ls M' d' n T A' M' → Sat (k16 (v2 + 1) M') H1) (h : Ls M0 d n T A M) : Sat (pL_holds_82 Z k16 v2 M) H1 := by
  rw [pL_holds_82]
  split
  · exact K d A M (by omega) h.self
  · refine S_o (foretells_ok hZ hd hn hT1 h) (fun M' hp => ?_)
    obtain ⟨d', A', e, h'⟩ := hp
    rw [if_pos (show ¬ (1 : Int32) = 0 by decide)]
    exact K d' A' M' e h'
theorem h66 (hZ : Z.1 ≤ 260) (hd : d < 900000) (hn : n ≤ 250000) (hT1 : 1 ≤ T) {k16 : Int32 → Mem → Option (Int32 × Mem)} {v2 : Int32} (K : ∀ d' A' M', d' ≤ d + 2 → Ls M' d' n T A' M' → Sat (k16 (v2 + 1) M') H1) (h : Ls M0 d n T A M) : Sat (pL_holds_66 Z k16 v2 M) H1 := by
  rw [pL_holds_66]
  split
  · exact h82 hZ hd hn hT1 K h
  · refine S_o (events_ok (by omega) h) (fun M' h' => ?_)
    rw [if_neg (show ¬ (1 : Int32) = 0 by decide)]
    exact h82 hZ hd hn hT1 K h'
theorem h51 (hZ : Z.1 ≤ 260) (hd : d < 900000) (hn : n ≤ 250000) (hT1 : 1 ≤ T) {k16 : Int32 → Mem → Option (Int32 × Mem)} {v2 : Int32} (K : ∀ d' A' M', d' ≤ d + 2 → Ls M' d' n T A' M' → Sat (k16 (v2 + 1) M') H1) (h : Ls M0 d n T A M) : Sat (pL_holds_51 Z k16 v2 M) H1 := by
  rw [pL_holds_51]
  split
  · exact h66 hZ hd hn hT1 K h
  · refine S_o (states_ok h) (fun M' h' => ?_)
    rw [if_neg (show ¬ (1 : Int32) = 0 by decide)]
    exact h66 hZ hd hn hT1 K h'
theorem h16 (hZ : Z.1 ≤ 260) (hT1 : 1 ≤ T) : ∀ (m g r d n : Nat) (A : AS) (M0 M : Mem), r + m = 70 → m < g → d + 6 * m ≤ 2000 → n + 2 * m ≤ 2000 → Ls M0 d n T A M → Sat (pL_holds_16 Z g (nI r) M) H1 := by
  intro m
  induction m with
  | zero =>
    intro g r d n A M0 M hr hg hd hn h
    obtain ⟨g, rfl⟩ : ∃ g', g = g' + 1 := ⟨g - 1, by omega⟩
    rw [pL_holds_16, if_pos (show (70 : Int32) ≤ nI r from nI_le (a := 70) (by omega) (by omega))]
    refine S_o (states_ok h) (fun M1 h1 => ?_)
    rw [if_neg (show ¬ (1 : Int32) = 0 by decide)]
    refine S_o (events_ok (by omega) h1) (fun M2 h2 => ?_)
    rw [if_neg (show ¬ (1 : Int32) = 0 by decide)]
    refine S_o (foretells_ok hZ (by omega) (by omega) hT1 h2) (fun M3 h3 => ?_)
    rw [if_neg (show ¬ (1 : Int32) = 0 by decide), runT_501, bndc_ok, if_neg (not_not_intro rfl)]
    exact S_1 rfl
  | succ m ih =>
    intro g r d n A M0 M hr hg hd hn h
    obtain ⟨g, rfl⟩ : ∃ g', g = g' + 1 := ⟨g - 1, by omega⟩
    rw [pL_holds_16, if_neg (show ¬ (70 : Int32) ≤ nI r from nI_ge (b := 70) (by omega) (by omega))]
    refine S_o (nobody_ok (by omega) h) (fun M1 h1 => ?_)
    rw [if_neg (show ¬ (1 : Int32) = 0 by decide)]
    refine S_o (ticks_ok (by omega) h1) (fun M2 h2 => ?_)
    rw [if_neg (show ¬ (1 : Int32) = 0 by decide)]
    refine w_draw h2 hZ (by omega) (m := 3) (by omega) (by omega) rfl (fun y M3 hy h3 => ?_)
    have K : ∀ d' n' A' M', d' ≤ d + 6 → n' ≤ n + 2 → Ls M' d' n' T A' M' → Sat ((fun v2 M => pL_holds_16 Z g v2 M) (nI r + 1) M') H1 := fun d' n' A' M' q1 q2 q3 => by
      show Sat (pL_holds_16 Z g (nI r + 1) M') H1
      rw [nI_1]
      exact ih g (r + 1) d' n' A' M' M' (by omega) (by omega) (by omega) (by omega) q3
    split
    · exact h51 hZ (by omega) (by omega) hT1 (fun d' A' M' e q => K d' _ A' M' (by omega) (by omega) q) h3
    · refine S_o (calls_ok hZ (by omega) (by omega) hT1 h3) (fun M4 hp => ?_)
      obtain ⟨d', A', e, h4⟩ := hp
      rw [if_neg (show ¬ (1 : Int32) = 0 by decide)]
      exact h51 hZ (by omega) (by omega) hT1 (fun d' A' M' e q => K d' _ A' M' (by omega) (by omega) q) h4
theorem holds_ok (hZ : Z.1 ≤ 260) (h : Lw 0 0 A M) (h2 : M.1 19 0 0 2 = 0) (g0 : A.1 10 0 = 0) (g1 : A.1 10 1 = 1) : Sat (pL_holds Z M) H1 := by
  rw [pL_holds, nm_def]
  have hs : Ls (wI M 19 0 0 1 1) 0 0 0 A (wI M 19 0 0 1 1) := by
    refine ⟨⟨(h.1.re).mv (fun kd i j a b => wI_kd (by omega)), h.2.1, h.2.2.1, h.2.2.2⟩, Kp.refl _, ?_, ?_⟩
    · rw [wI_j (by omega)]; exact h2
    · rw [wI_s]; decide
  refine S_o (builds_ok hZ (by omega) hs g0 g1) (fun M1 hp => ?_)
  obtain ⟨d', T, A', q1, q2, h1⟩ := hp
  rw [if_pos (show ¬ (1 : Int32) = 0 by decide)]
  exact h16 hZ (by omega) 70 fu 0 d' 0 A' _ M1 (by omega) (by decide) (by omega) (by omega) h1
end HOLDS
