/-! ===== an instruction: what it keeps; the class's ===== -/
theorem i32_0 : (0 : Int32).toInt = 0 := by decide
theorem nI_self {x : Int32} (h : 0 ≤ x.toInt) : nI x.toNatClampNeg = x := by
  obtain ⟨j, hj, rfl⟩ := nI_of (x := x) (by rw [i32_lt, i32_0]; omega)
  rw [cl (by omega)]
theorem num_le {x : Int32} {m : Nat} (h0 : 0 ≤ x.toInt) (h : x.toInt ≤ m) : x.toNatClampNeg ≤ m := by
  show x.toInt.toNat ≤ m
  omega
def Px (T : Nat) (A : AS) (t : Nat) (r : (AS × List Nat) × Bool) : Prop := (r.1.2 = [] ∨ SI T (mk T r.1.1 r.1.2) r.1.2) ∧ (mk T r.1.1 r.1.2).2.1.length ≤ A.2.1.length + 5 ∧ Evo T A (fin T r.1.1 r.1.2) ∧ (fin T r.1.1 r.1.2).2.1.length ≤ A.2.1.length + 205 ∧
  (r.2 = true → (fin T r.1.1 r.1.2).1 t 1 = A.1 t 1 ∧ (fin T r.1.1 r.1.2).1 t 2 = A.1 t 2 ∧ Inv T t (goB (fin T r.1.1 r.1.2) t) ∧ ¬ (fin T r.1.1 r.1.2).1 t 3 = 2) ∧ (r.2 = false → Inv T 10 (fin T r.1.1 r.1.2))
section PERF
variable {T t z q : Nat} {A : AS}
theorem Px_t {B : AS} {s : List Nat} (ht : t < T) (h1 : A.1 t 1 = nI z) (h2 : A.1 t 2 = nI q) (hqz : q < z) (hz : z ≤ 16) (k1 : s = [] ∨ SI T (mk T B s) s) (k2 : (mk T B s).2.1.length ≤ A.2.1.length + 5) (k3 : Evo T A (fin T B s)) (k4 : (fin T B s).2.1.length ≤ A.2.1.length + 205) (k5 : Inv T 10 (fin T B s)) (k6 : (fin T B s).1 t 2 = A.1 t 2) (k7 : ¬ (fin T B s).1 t 3 = 2) : Px T A t ((B, s), true) :=
  ⟨k1, k2, k3, k4, fun _ => ⟨(k3.2.2.1 t ht).2, k6, goB_inv k5 ht (Or.inl rfl) ((k3.2.2.1 t ht).2.trans h1) (k6.trans h2) hqz hz k7, k7⟩, fun e => (nomatch e)⟩
theorem Px_f {B : AS} {s : List Nat} (k1 : s = [] ∨ SI T (mk T B s) s) (k2 : (mk T B s).2.1.length ≤ A.2.1.length + 5) (k3 : Evo T A (fin T B s)) (k4 : (fin T B s).2.1.length ≤ A.2.1.length + 205) (k5 : Inv T 10 (fin T B s)) : Px T A t ((B, s), false) := ⟨k1, k2, k3, k4, fun e => (nomatch e), fun _ => k5⟩
theorem fin_nil (B : AS) : fin T B [] = B := rfl
theorem mk_nil (B : AS) : mk T B [] = B := rfl
theorem flg_all : ((List.range 256).all fun n => (List.range 8).all fun f => decide ((nI n ||| ((1 : Int32) <<< (nI f &&& 31))).toInt.toNat < 256) && decide (0 ≤ (nI n ||| ((1 : Int32) <<< (nI f &&& 31))).toInt) && decide ((nI n &&& (((1 : Int32) <<< (nI f &&& 31)) ^^^ (-1 : Int32))).toInt.toNat < 256) && decide (0 ≤ (nI n &&& (((1 : Int32) <<< (nI f &&& 31)) ^^^ (-1 : Int32))).toInt)) = true := by decide +kernel
theorem flg_lt {n f : Nat} (hn : n < 256) (hf : f < 8) (b : Bool) : ∃ m, m < 256 ∧ (if b = true then nI n ||| ((1 : Int32) <<< (nI f &&& 31)) else nI n &&& (((1 : Int32) <<< (nI f &&& 31)) ^^^ (-1 : Int32))) = nI m := by
  have := List.all_eq_true.mp (List.all_eq_true.mp flg_all n (List.mem_range.mpr hn)) f (List.mem_range.mpr hf)
  simp only [Bool.and_eq_true, decide_eq_true_eq] at this
  obtain ⟨⟨⟨a1, a2⟩, a3⟩, a4⟩ := this
  cases b with
  | true => exact ⟨_, a1, (nI_self a2).symm⟩
  | false => exact ⟨_, a3, (nI_self a4).symm⟩
theorem stF_inv {ex f : Nat} (h : Inv T ex A) (hf : f < 8) (b : Bool) : Inv T ex (stF A f b) := by
  have hT := h.T10
  have r : ∀ a c, ¬ (a = 10 ∧ c = 5) → (stF A f b).1 a c = A.1 a c := fun a c q => by unfold stF; rw [up_e, if_neg q]
  refine Inv_min h (fun u c hu _ _ _ _ _ _ _ _ => r _ _ (by omega)) (fun u hu => by rw [r _ _ (by omega)]; exact h.p4 u hu) (fun u hu => by rw [r _ _ (by omega)]; exact h.p5 u hu) (fun a c ha => r _ _ (by omega)) (r _ _ (by omega)) ?_ rfl (Nat.le_refl _)
  obtain ⟨g1, ⟨n, hn, e⟩, g3⟩ := h.2.2.2.2.2.1
  rw [r 10 4 (by omega), r 10 3 (by omega)]
  refine ⟨g1, ?_, g3⟩
  unfold stF
  rw [up_s, e]
  exact flg_lt hn hf b
theorem flA_inv (h : Inv T 10 A) (ht : t < T) (h3 : A.1 t 3 = 0) : Inv T 10 (flA A t) := by
  have hT := h.T10
  have rn : ∀ a b, ¬ (a = t ∧ b = 3) → (flA A t).1 a b = A.1 a b := fun a b q => by unfold flA; rw [note_1, up_e, if_neg q]
  have r3 : (flA A t).1 t 3 = 4 := up_s
  obtain ⟨a1, ⟨z, q, b1, b2, b3, b4, b5, b6⟩, a3, a4, a5, a6, a7⟩ := h.2.1 t ht
  refine h.thr (Or.inl rfl) (fun v b q1 q2 => rn v b (by omega)) (rn _ _ (by omega)) (rn _ _ (by omega)) (rn _ _ (by omega)) (rn _ _ (by omega)) rfl (Nat.le_succ _) ht (rn _ _ (by omega)) ?_ 10 (Or.inl rfl) (fun _ z => ?_) (RI_mono (h.2.2.2.2.2.2 t ht) (fun b q1 q2 => rn _ _ (by omega)) (Nat.le_succ _))
  · refine ⟨?_, ⟨z, q, ?_, ?_, b3, b4, ?_, fun j hj => ?_⟩, ?_, ?_, ?_, fun z => ?_, fun _ => ?_⟩
    · rw [rn _ _ (by omega)]; exact a1
    · rw [rn _ _ (by omega)]; exact b1
    · rw [rn _ _ (by omega)]; exact b2
    · rw [rn _ _ (by omega), rn _ _ (by omega), rn _ _ (by omega)]; exact b5
    · rw [rn _ _ (by omega), rn _ _ (by omega)]; exact b6 j hj
    · rw [r3]; simp
    · rw [rn _ _ (by omega)]; exact a4
    · rw [rn _ _ (by omega)]; exact a5
    · rw [r3] at z; exact absurd z (by decide)
    · rw [rn _ _ (by omega)]; exact a7 (by rw [h3]; decide)
  · rw [r3] at z
    exact absurd z (by decide)
theorem flA_evo (hT : T ≤ 10) (ht : t < T) : Evo T A (flA A t) := by
  have rn : ∀ a b, ¬ (a = t ∧ b = 3) → (flA A t).1 a b = A.1 a b := fun a b q => by unfold flA; rw [note_1, up_e, if_neg q]
  exact Evo.of (fun b hb => rn _ _ (by omega)) (fun a b ha => rn _ _ (by omega)) (fun u b hu hb => rn _ _ (by omega)) (Nat.le_succ _)
/-- a free lock is taken -/
theorem hld_inv {l : Nat} (h : Inv T 10 A) (ht : t < T) (hl : l < 6) (e : A.1 11 l = -1) : Inv T 10 (note (up A 11 l (nI t)) 3 (nI t) (nI l)) := by
  obtain ⟨h1, h2, h3, h4, h5, h6, h7⟩ := id h
  have hT := h1.1
  have r : ∀ a b, ¬ a = 11 → (note (up A 11 l (nI t)) 3 (nI t) (nI l)).1 a b = A.1 a b := fun a b q => by rw [note_1, up_a q]
  have r11 : ∀ l', (note (up A 11 l (nI t)) 3 (nI t) (nI l)).1 11 l' = if l' = l then nI t else A.1 11 l' := fun l' => by
    rw [note_1, up_e]
    by_cases e : l' = l
    · rw [if_pos ⟨rfl, e⟩, if_pos e]
    · rw [if_neg (fun q => e q.2), if_neg e]
  refine ⟨⟨hT, by rw [r _ _ (by omega)]; exact h1.2⟩, fun u hu => ?_, fun u hu hue => ?_, fun l' hl' => ?_, fun l' hl' => ⟨(h5 l' hl').1, fun u => ?_⟩, ?_, fun u hu => ?_⟩
  · have g := fun b => r u b (by omega)
    refine TI_cong (h2 u hu) (g _) (g _) (g _) (g _) (g _) (g _) (g _) (g _) (fun j => r _ _ (by omega)) (fun j => r _ _ (by omega)) (fun l' v c1 c2 c3 c4 c5 => ⟨v, c3, ?_, c5⟩)
    rw [r11, if_neg (fun z => by rw [z, e] at c4; exact m1_ne (by omega) c4.symm)]; exact c4
  · have g := fun b => r u b (by omega)
    have := h3 u hu hue
    unfold ZI at this ⊢
    rw [g, g, g]; exact this
  · rw [r11]
    by_cases e : l' = l
    · rw [if_pos e]; exact Or.inr ⟨t, ht, rfl⟩
    · rw [if_neg e]; exact h4 l' hl'
  · rw [show (note (up A 11 l (nI t)) 3 (nI t) (nI l)).2.2 = A.2.2 from rfl, (h5 l' hl').2 u]
    exact and_congr_right (fun hu => by rw [r _ _ (by omega)])
  · rw [r _ _ (by omega), r _ _ (by omega), r _ _ (by omega)]; exact h6
  · have g := fun b => r u b (by omega)
    have := h7 u hu
    unfold RI at this ⊢
    rw [g, g, g, g, show (note (up A 11 l (nI t)) 3 (nI t) (nI l)).2.1.length = A.2.1.length + 1 from rfl]
    omega
/-- a thread is blocked -/
theorem blk_inv {l : Nat} (h : Inv T 10 A) (ht : t < T) (hl : l < 6) (h30 : A.1 t 3 = 0) (e : ¬ A.1 11 l = -1) (e2 : ¬ A.1 11 l = nI t) : Inv T 10 (note (adW (up (up A t 3 2) t 8 (nI l)) l t) 2 (nI t) (nI l)) := by
  obtain ⟨h1, h2, h3, h4, h5, h6, h7⟩ := id h
  have hT := h1.1
  have r : ∀ a b, ¬ (a = t ∧ (b = 3 ∨ b = 8)) → (note (adW (up (up A t 3 2) t 8 (nI l)) l t) 2 (nI t) (nI l)).1 a b = A.1 a b := fun a b q => by
    rw [note_1, adW_1, up_e, if_neg (by omega), up_e, if_neg (by omega)]
  have r3 : (note (adW (up (up A t 3 2) t 8 (nI l)) l t) 2 (nI t) (nI l)).1 t 3 = 2 := by
    rw [note_1, adW_1, up_b (by omega), up_s]
  have r8 : (note (adW (up (up A t 3 2) t 8 (nI l)) l t) 2 (nI t) (nI l)).1 t 8 = nI l := by
    rw [note_1, adW_1, up_s]
  have rW : ∀ l', (note (adW (up (up A t 3 2) t 8 (nI l)) l t) 2 (nI t) (nI l)).2.2 l' = if l' = l then A.2.2 l ++ [t] else A.2.2 l' := fun _ => rfl
  have eL : (note (adW (up (up A t 3 2) t 8 (nI l)) l t) 2 (nI t) (nI l)).2.1.length = A.2.1.length + 1 := rfl
  generalize note (adW (up (up A t 3 2) t 8 (nI l)) l t) 2 (nI t) (nI l) = B at r r3 r8 rW eL ⊢
  obtain ⟨a1, ⟨z, q, b1, b2, b3, b4, b5, b6⟩, a3, a4, a5, a6, a7⟩ := h2 t ht
  have ht8 : A.1 t 8 = -1 := a7 (by rw [h30]; decide)
  refine ⟨⟨hT, by rw [r _ _ (by omega)]; exact h1.2⟩, fun u hu => ?_, fun u hu hue => ?_, fun l' hl' => ?_, fun l' hl' => ?_, ?_, fun u hu => ?_⟩
  · by_cases eu : u = t
    · subst eu
      refine ⟨?_, ⟨z, q, ?_, ?_, b3, b4, ?_, fun j hj => ?_⟩, ?_, ?_, ?_, fun _ => ?_, fun z => absurd r3 z⟩
      · rw [r _ _ (by omega)]; exact a1
      · rw [r _ _ (by omega)]; exact b1
      · rw [r _ _ (by omega)]; exact b2
      · rw [r _ _ (by omega), r _ _ (by omega), r _ _ (by omega)]; exact b5
      · rw [r _ _ (by omega), r _ _ (by omega)]; exact b6 j hj
      · rw [r3]; simp
      · rw [r _ _ (by omega)]; exact a4
      · rw [r _ _ (by omega)]; exact a5
      · rcases h4 l hl with e3 | ⟨v, hv, e3⟩
        · exact absurd e3 e
        · exact ⟨l, v, hl, r8, hv, by rw [r _ _ (by omega)]; exact e3, fun z => e2 (by rw [e3, z])⟩
    · have g := fun b => r u b (fun z => eu z.1)
      exact TI_cong (h2 u hu) (g _) (g _) (g _) (g _) (g _) (g _) (g _) (g _) (fun j => r _ _ (by omega)) (fun j => r _ _ (by omega)) (fun l' v c1 c2 c3 c4 c5 => ⟨v, c3, by rw [r _ _ (by omega)]; exact c4, c5⟩)
  · by_cases eu : u = t
    · subst eu
      intro _
      rw [r _ _ (by omega), r _ _ (by omega)]
      exact h3 u hu hue (Or.inl h30)
    · have g := fun b => r u b (fun z => eu z.1)
      have := h3 u hu hue
      unfold ZI at this ⊢
      rw [g, g, g]; exact this
  · rw [r _ _ (by omega)]; exact h4 l' hl'
  · rw [rW]
    by_cases el : l' = l
    · subst el
      rw [if_pos rfl]
      have hnt : ¬ t ∈ A.2.2 l' := fun q => by
        have := ((h5 l' hl').2 t).mp q
        rw [ht8] at this
        exact m1_ne (by omega) this.2.symm
      refine ⟨List.nodup_append.mpr ⟨(h5 l' hl').1, List.nodup_cons.mpr ⟨List.not_mem_nil, List.nodup_nil⟩, fun a ha b hb => ?_⟩, fun u => ?_⟩
      · rcases List.mem_cons.mp hb with q | q
        · rw [q]; exact fun z => hnt (by rw [← z]; exact ha)
        · cases q
      · rw [List.mem_append, (h5 l' hl').2 u]
        by_cases eu : u = t
        · subst eu
          simp [ht, r8]
        · rw [r _ _ (fun z => eu z.1)]
          simp [eu]
    · rw [if_neg el]
      refine ⟨(h5 l' hl').1, fun u => ?_⟩
      rw [(h5 l' hl').2 u]
      refine and_congr_right (fun hu => ?_)
      by_cases eu : u = t
      · subst eu
        rw [ht8, r8]
        constructor
        · exact fun z => absurd z.symm (m1_ne (by omega))
        · exact fun z => absurd (nI_inj (by omega) (by omega) z).symm el
      · rw [r _ _ (fun z => eu z.1)]
  · rw [r _ _ (by omega), r _ _ (by omega), r _ _ (by omega)]; exact h6
  · have g := fun b (hb : 12 ≤ b) => r u b (by omega)
    have := h7 u hu
    unfold RI at this ⊢
    rw [g _ (by omega), g _ (by omega), g _ (by omega), g _ (by omega), eL]
    omega
end PERF
