/-! ===== load ===== -/
section LOAD
variable {n : Nat} {b : Nat → Nat} {T : Nat} {A : AS} {p : Nat} {M M' M0 M1 M2 M3 M4 : Mem}
theorem spInst_ge {t : Nat} {x : AS × Nat} (hp : p ≤ n) (h : spInst n b A t p = .ok x) : p ≤ x.2 := by
  have h1 := nxt_le (b := b) hp
  have h2 := nxt_le (b := b) h1.2.1
  have s1 := sk_le (b := b) hp
  have s2 := sk_le (b := b) h1.2.1
  unfold spInst at h
  split at h
  · cases h
  · split at h
    · cases h
    · split at h
      · cases h
        show p ≤ nxt n b p
        omega
      · split at h
        · cases h
        · cases h
          show p ≤ nxt n b (nxt n b p)
          omega
theorem nxt_ge (hp : p ≤ n) : p ≤ nxt n b p := by
  have h1 := nxt_le (b := b) hp
  have s1 := sk_le (b := b) hp
  omega
theorem spLp_ok {t : Nat} (ht : t < T) (hT : T ≤ 10) : ∀ (m j : Nat) (A : AS) (p : Nat) (w : AS × Nat), j + m = 17 → Inv T 10 A → A.1 t 1 = nI (j + 1) → j + 1 ≤ 16 → p ≤ n → spLp n b t m A p = .ok w → Inv T 10 w.1 ∧ w.1.2.1 = A.2.1 ∧ w.1.1 10 3 = A.1 10 3 ∧ p ≤ w.2 := by
  intro m
  induction m with
  | zero => intro j A p w hj hI h1 h16; omega
  | succ m ih =>
    intro j A p w hj hI h1 h16 hp h
    rw [spLp] at h
    split at h
    · cases hr : spInst n b A t (nxt n b p) with
      | error q => rw [hr] at h; cases h
      | ok x =>
        rw [hr] at h
        have hn := (nxt_le (b := b) hp).2.1
        obtain ⟨z1, z2, c, v, z3, z4⟩ := spInst_ok hn h1 h16 hr
        have g1 := spInst_ge hn hr
        have g2 := nxt_ge (b := b) hp
        have e1 : x.1.1 t 1 = nI (j + 1 + 1) := by rw [z4]; exact stA_1 (by omega)
        have e2 : x.1.2.1 = A.2.1 := by rw [z4]; rfl
        have e3 : x.1.1 10 3 = A.1 10 3 := by rw [z4]; exact stA_n (by omega) (by omega) (by omega) (by omega)
        have hI2 : Inv T 10 x.1 := by rw [z4]; exact stA_inv hI (Or.inl rfl) ht h1 z1 z3
        obtain ⟨r1, r2, r3, r4⟩ := ih (j + 1) x.1 x.2 w (by omega) hI2 e1 (by omega) z2 h
        exact ⟨r1, r2.trans e2, r3.trans e3, by omega⟩
    · cases h
      exact ⟨hI, rfl, rfl, Nat.le_refl _⟩
theorem spB_ok {x : PS} (hp : p ≤ n) (hI : Inv T 10 A) (h : spBody n b T A p = .ok x) : Inv x.1 10 x.2.1 ∧ x.2.1.2.1 = A.2.1 ∧ x.2.1.1 10 3 = A.1 10 3 ∧ p ≤ x.2.2 := by
  have hT := hI.T10
  have n1 := (nxt_le (b := b) hp).2.1
  have n2 := (nxt_le (b := b) n1).2.1
  have n3 := (nxt_le (b := b) n2).2.1
  have q1 := nxt_ge (b := b) hp
  have q2 := nxt_ge (b := b) n1
  have q3 := nxt_ge (b := b) n2
  unfold spBody at h
  split at h
  · unfold spThr at h
    split at h
    · cases h
    · rename_i hT9
      cases h1 : spN n b 1 9 (nxt n b p) with
      | error q => rw [h1] at h; cases h
      | ok v =>
        rw [h1] at h
        dsimp only at h
        have hv := spN_ok h1
        cases h2 : spSym n b 58 (nxt n b (nxt n b p)) with
        | error q => rw [h2] at h; cases h
        | ok p3 =>
          rw [h2] at h
          dsimp only at h
          have ep3 := spSym_ok h2
          have hp3 : p3 ≤ n := by rw [ep3]; exact n3
          cases h3 : spInst n b (nwA T A (nI v)) T p3 with
          | error q => rw [h3] at h; cases h
          | ok y =>
            rw [h3] at h
            dsimp only at h
            have z0 : (nwA T A (nI v)).1 T 1 = nI 0 := nwA_s
            obtain ⟨-, y2, c, u, z3, z4⟩ := spInst_ok hp3 z0 (by omega) h3
            have y3 := spInst_ge hp3 h3
            have hI1 := nwA_inv hI (by omega) hv.1 hv.2
            have hI2 : Inv (T + 1) 10 y.1 := by rw [z4]; exact stA_inv hI1 (Or.inr rfl) (by omega) z0 (by omega) z3
            cases h4 : spLp n b T 17 y.1 y.2 with
            | error q => rw [h4] at h; cases h
            | ok w =>
              rw [h4] at h
              cases h
              obtain ⟨r1, r2, r3, r4⟩ := spLp_ok (T := T + 1) (t := T) (by omega) (by omega) 17 0 y.1 y.2 w (by omega) hI2 (by rw [z4]; exact stA_1 (by omega)) (by omega) y2 h4
              refine ⟨r1, r2.trans (by rw [z4]; rfl), r3.trans ?_, by show p ≤ w.2; omega⟩
              rw [z4, stA_n (by omega) (by omega) (by omega) (by omega), nwA_n (by omega) (by omega)]
  · split at h
    · unfold spFlag at h
      split at h
      · cases h
      · rename_i v hr
        have hv := spN_ok hr
        split at h
        · cases h
        · cases h
          exact ⟨stF_inv hI (by omega) true, rfl, by unfold stF; exact up_b (by omega), Nat.le_trans q1 q2⟩
    · split at h
      · unfold spSet at h
        split at h
        · cases h
        · rename_i c hr
          have hc := spN_ok hr
          split at h
          · cases h
          · cases h
            exact ⟨g_inv hI (by omega), rfl, up_b (by omega), Nat.le_trans q1 (Nat.le_trans q2 q3)⟩
      · split at h
        · unfold spSeed at h
          split at h
          · cases h
          · rename_i v hr
            have hv := spN_ok hr
            cases h
            exact ⟨x_inv hI (by rw [nI_toInt (by omega)]; omega) (by rw [nI_toInt (by omega)]; omega), rfl, up_b (by omega), Nat.le_trans q1 q2⟩
        · cases h
theorem spS_ok {x : PS} (hp : p ≤ n) (hI : Inv T 10 A) (h : spStm n b T A p = .ok x) : Inv x.1 10 x.2.1 ∧ x.2.1.2.1 = A.2.1 ∧ x.2.1.1 10 3 = A.1 10 3 ∧ p + 1 ≤ x.2.2 ∧ x.2.2 ≤ n := by
  unfold spStm at h
  cases hr : spBody n b T A p with
  | error q => rw [hr] at h; cases h
  | ok y =>
    rw [hr] at h
    dsimp only at h
    obtain ⟨r1, r2, r3, r4⟩ := spB_ok hp hI hr
    have r5 := spB_le hp hr
    cases hr2 : spSym n b 59 y.2.2 with
    | error q => rw [hr2] at h; cases h
    | ok p' =>
      rw [hr2] at h
      cases h
      have e := spSym_ok hr2
      have hx := nxt_le (b := b) r5
      have hs := sk_le (b := b) r5
      have hk : sk n b y.2.2 < n := by
        unfold spSym at hr2
        split at hr2
        · rename_i q
          by_cases z : sk n b y.2.2 < n
          · exact z
          · have : Kd n b y.2.2 = 0 := if_neg z
            omega
        · cases hr2
      have := hx.2.2 hk
      refine ⟨r1, r2, r3, ?_, ?_⟩
      · show p + 1 ≤ p'
        omega
      · show p' ≤ n
        omega
def spLd (n : Nat) (b : Nat → Nat) : Nat → Nat → AS → Nat → Except PE (Nat × AS)
  | 0, T, A, _ => .ok (T, A)
  | m + 1, T, A, p => if Kd n b p = 0 then .ok (T, A) else match spStm n b T A p with
    | .error q => .error q
    | .ok x => spLd n b m x.1 x.2.1 x.2.2
def V7 (M0 : Mem) (n : Nat) (b : Nat → Nat) (r : Except PE (Nat × AS)) (M : Mem) : Prop := match r with
  | .ok y => ∃ p, Q7 M0 n b y.1 y.2 p M
  | .error q => F7 M0 q.1 q.2 M ∧ ¬ M.1 1 0 0 2 = 0
def V8 (M0 : Mem) (n : Nat) (b : Nat → Nat) (r : Except PE (Nat × AS)) (M : Mem) : Prop := match r with
  | .ok y => ∃ p, Q8 M0 n b y.1 y.2 p M
  | .error q => F8 M0 q.1 q.2 M
theorem spS_er {q : PE} (h : spStm n b T A p = .error q) : 1 ≤ q.1 ∧ q.1 ≤ 4 := by
  have eN : ∀ lo hi p q, spN n b lo hi p = .error q → 1 ≤ q.1 ∧ q.1 ≤ 4 := fun lo hi p q h => by
    unfold spN at h
    split at h
    · split at h
      · cases h
      · cases h; exact ⟨by omega, by omega⟩
    · cases h; exact ⟨by omega, by omega⟩
  have eS : ∀ c p q, spSym n b c p = .error q → 1 ≤ q.1 ∧ q.1 ≤ 4 := fun c p q h => by
    unfold spSym at h
    split at h
    · cases h
    · cases h; exact ⟨by omega, by omega⟩
  have eI : ∀ A t p q, spInst n b A t p = .error q → 1 ≤ q.1 ∧ q.1 ≤ 4 := fun A t p q h => by
    unfold spInst at h
    split at h
    · cases h; exact ⟨by omega, by omega⟩
    · split at h
      · cases h; exact ⟨by omega, by omega⟩
      · split at h
        · cases h
        · split at h
          · rename_i q' hr
            cases h
            exact eN _ _ _ _ hr
          · cases h
  have eL : ∀ t m A p q, spLp n b t m A p = .error q → 1 ≤ q.1 ∧ q.1 ≤ 4 := by
    intro t m
    induction m with
    | zero => intro A p q h; cases h
    | succ m ih =>
      intro A p q h
      rw [spLp] at h
      split at h
      · split at h
        · rename_i q' hr
          cases h
          exact eI _ _ _ _ hr
        · exact ih _ _ _ h
      · cases h
  have eB : ∀ q, spBody n b T A p = .error q → 1 ≤ q.1 ∧ q.1 ≤ 4 := fun q h => by
    unfold spBody at h
    split at h
    · unfold spThr at h
      split at h
      · cases h; exact ⟨by omega, by omega⟩
      · split at h
        · rename_i q' hr; cases h; exact eN _ _ _ _ hr
        · split at h
          · rename_i q' hr; cases h; exact eS _ _ _ hr
          · split at h
            · rename_i q' hr; cases h; exact eI _ _ _ _ hr
            · split at h
              · rename_i q' hr; cases h; exact eL _ _ _ _ _ hr
              · cases h
    · split at h
      · unfold spFlag at h
        split at h
        · rename_i q' hr; cases h; exact eN _ _ _ _ hr
        · split at h
          · cases h; exact ⟨by omega, by omega⟩
          · cases h
      · split at h
        · unfold spSet at h
          split at h
          · rename_i q' hr; cases h; exact eN _ _ _ _ hr
          · split at h
            · rename_i q' hr; cases h; exact eN _ _ _ _ hr
            · cases h
        · split at h
          · unfold spSeed at h
            split at h
            · rename_i q' hr; cases h; exact eN _ _ _ _ hr
            · cases h
          · cases h; exact ⟨by omega, by omega⟩
  unfold spStm at h
  split at h
  · rename_i q' hr; cases h; exact eB _ hr
  · split at h
    · rename_i q' hr; cases h; exact eS _ _ _ hr
    · cases h
theorem c_ld16 (hT : Txt M0 n b) {Q : Int32 → Mem → Prop} : ∀ (m f i T : Nat) (A : AS) (p : Nat) (M : Mem), i + m = 800 → m < f → p ≤ n → Inv T 10 A → Q7 M0 n b T A p M → (∀ M', V7 M0 n b (spLd n b m T A p) M' → Sat (pX7_load_50 M') Q) → Sat (pX7_load_16 f (nI i) M) Q := by
  intro m
  induction m with
  | zero =>
    intro f i T A p M hi hf hp hI h K
    obtain ⟨f, rfl⟩ : ∃ f', f = f' + 1 := ⟨f - 1, by omega⟩
    rw [pX7_load_16, if_pos (show (800 : Int32) ≤ nI i from nI_le (a := 800) (by omega) (by omega))]
    exact K M ⟨p, h⟩
  | succ m ih =>
    intro f i T A p M hi hf hp hI h K
    obtain ⟨f, rfl⟩ : ∃ f', f = f' + 1 := ⟨f - 1, by omega⟩
    have hk := Kd_lt hT p
    rw [pX7_load_16, if_neg (show ¬ (800 : Int32) ≤ nI i from nI_ge (b := 800) (by omega) (by omega)), pX5_hasStatement, h.2.2.2.1, h.2.2.1.1, if_neg (not_not_intro rfl), nI_1]
    rw [spLd] at K
    by_cases e : Kd n b p = 0
    · rw [if_pos (show nI (Kd n b p) = 0 from congrArg nI e), chk_h b01_0, bnd_some, if_pos rfl]
      rw [if_pos e] at K
      exact K M ⟨p, h⟩
    · rw [if_neg (show ¬ nI (Kd n b p) = 0 from fun z => e (nI_inj (by omega) (b := 0) (by omega) z)), chk_h b01_1, bnd_some, if_neg (show ¬ (1 : Int32) = 0 by decide)]
      rw [if_neg e] at K
      refine S_bnd (c_stmS h hT hp) (fun _ M1 h1 => ?_)
      cases hr : spStm n b T A p with
      | error q =>
        rw [hr] at h1 K
        have hq := spS_er hr
        have ne : ¬ M1.1 1 0 0 2 = 0 := fun z => by
          have h2 : M1.1 1 0 0 2 = nI q.1 := h1.2.1
          rw [h2] at z
          have := nI_inj (by omega) (b := 0) (by omega) z
          omega
        obtain ⟨f, rfl⟩ : ∃ f', f = f' + 1 := ⟨f - 1, by omega⟩
        rw [pX7_load_16]
        split
        · exact K M1 ⟨h1, ne⟩
        · rw [pX5_hasStatement, if_pos ne, chk_h b01_0, bnd_some, if_pos rfl]
          exact K M1 ⟨h1, ne⟩
      | ok x =>
        rw [hr] at h1 K
        obtain ⟨r1, -, -, -, r5⟩ := spS_ok hp hI hr
        exact ih f (i + 1) x.1 x.2.1 x.2.2 M1 (by omega) (by omega) r5 r1 h1 K
theorem m_ld41 (hT : TxM M0 n b) (hTb : Tb M0) {Q : Int32 → Mem → Prop} : ∀ (m f T : Nat) (A : AS) (p : Nat) (M : Mem), n ≤ p + m → m + 1 < f → p ≤ n → Inv T 10 A → Q8 M0 n b T A p M → (∀ M', V8 M0 n b (spLd n b m T A p) M' → Sat (pX8_load_62 M') Q) → Sat (pX8_load_41 f M) Q := by
  intro m
  have hb : ∀ i, i < n → b i < 256 := fun i hi => (hT.2.2 i hi).1
  induction m with
  | zero =>
    intro f T A p M hm hf hp hI h K
    obtain ⟨f, rfl⟩ : ∃ f', f = f' + 1 := ⟨f - 1, by omega⟩
    have hs := sk_le (b := b) hp
    have e : Kd n b p = 0 := if_neg (by omega)
    rw [pX8_load_41, g_fine h.2.2.2.1, bnd_some, if_neg (show ¬ (1 : Int32) = 0 by decide), h.2.2.1.1, if_pos (show nI (k8 (Kd n b p)) = 0 from congrArg nI (k8_0.mpr e))]
    exact K M ⟨p, h⟩
  | succ m ih =>
    intro f T A p M hm hf hp hI h K
    obtain ⟨f, rfl⟩ : ∃ f', f = f' + 1 := ⟨f - 1, by omega⟩
    have hk := k8_lt (Kd n b p)
    rw [pX8_load_41, g_fine h.2.2.2.1, bnd_some, if_neg (show ¬ (1 : Int32) = 0 by decide), h.2.2.1.1]
    rw [spLd] at K
    by_cases e : Kd n b p = 0
    · rw [if_pos (show nI (k8 (Kd n b p)) = 0 from congrArg nI (k8_0.mpr e))]
      rw [if_pos e] at K
      exact K M ⟨p, h⟩
    · rw [if_neg (show ¬ nI (k8 (Kd n b p)) = 0 from fun z => e (k8_0.mp (nI_inj (by omega) (b := 0) (by omega) z)))]
      rw [if_neg e] at K
      refine S_bnd (m_stmS h hT hTb hp hI) (fun _ M1 h1 => ?_)
      cases hr : spStm n b T A p with
      | error q =>
        rw [hr] at h1 K
        obtain ⟨f, rfl⟩ : ∃ f', f = f' + 1 := ⟨f - 1, by omega⟩
        rw [pX8_load_41, z_fine h1.2.1, bnd_some, if_pos rfl]
        exact K M1 h1
      | ok x =>
        rw [hr] at h1 K
        obtain ⟨r1, -, -, r4, r5⟩ := spS_ok hp hI hr
        exact ih f x.1 x.2.1 x.2.2 M1 (by omega) (by omega) r5 r1 h1 K
theorem spLd_ok : ∀ (m T : Nat) (A : AS) (p : Nat) (y : Nat × AS), p ≤ n → Inv T 10 A → spLd n b m T A p = .ok y → Inv y.1 10 y.2 ∧ y.2.2.1 = A.2.1 ∧ y.2.1 10 3 = A.1 10 3 := by
  intro m
  induction m with
  | zero => intro T A p y hp hI h; cases h; exact ⟨hI, rfl, rfl⟩
  | succ m ih =>
    intro T A p y hp hI h
    rw [spLd] at h
    split at h
    · cases h; exact ⟨hI, rfl, rfl⟩
    · split at h
      · cases h
      · rename_i x hr
        obtain ⟨r1, r2, r3, -, r5⟩ := spS_ok hp hI hr
        obtain ⟨s1, s2, s3⟩ := ih _ _ _ _ r5 r1 h
        exact ⟨s1, s2.trans r2, s3.trans r3⟩
end LOAD
