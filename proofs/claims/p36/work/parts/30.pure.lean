/-! ===== the pure layer: runs of pictures, numbers, states ===== -/
def Sat {α : Type} (r : Option (α × Mem)) (P : α → Mem → Prop) : Prop := ∃ o M, r = some (o, M) ∧ P o M
theorem S_ret {α : Type} {o : α} {M : Mem} {P : α → Mem → Prop} (h : P o M) : Sat (some (o, M)) P := ⟨o, M, rfl, h⟩
theorem S_bnd {σ ρ : Type} {r : Option (σ × Mem)} {f : σ → Mem → Option (ρ × Mem)} {P : σ → Mem → Prop} {Q : ρ → Mem → Prop} (h : Sat r P) (k : ∀ o M, P o M → Sat (f o M) Q) : Sat (bnd r f) Q := by
  obtain ⟨o, M, rfl, hp⟩ := h
  exact k o M hp
theorem S_nm {β ρ : Type} {x : β} {f : β → Option (ρ × Mem)} {Q : ρ → Mem → Prop} (h : Sat (f x) Q) : Sat (nm x f) Q := h
theorem S_w {ρ : Type} {P : Mem → Prop} {x : Mem} {f : Mem → Option (ρ × Mem)} {Q : ρ → Mem → Prop} (h : P x) (k : ∀ M, P M → Sat (f M) Q) : Sat (nm x f) Q := k x h
theorem S_chk {ρ : Type} {b : Bool} {r : Option (ρ × Mem)} {Q : ρ → Mem → Prop} (hb : b = true) (h : Sat r Q) : Sat (chk b r) Q := by
  rw [chk, if_pos hb]
  exact h
theorem S_mono {α : Type} {r : Option (α × Mem)} {P Q : α → Mem → Prop} (h : Sat r P) (k : ∀ o M, P o M → Q o M) : Sat r Q := by
  obtain ⟨o, M, e, hp⟩ := h
  exact ⟨o, M, e, k o M hp⟩
theorem S_ite {ρ : Type} {c : Prop} [Decidable c] {a b : Option (ρ × Mem)} {Q : ρ → Mem → Prop} (h1 : c → Sat a Q) (h2 : ¬ c → Sat b Q) : Sat (if c then a else b) Q := by
  by_cases h : c
  · rw [if_pos h]; exact h1 h
  · rw [if_neg h]; exact h2 h
theorem nm_def {α β : Type} (x : α) (f : α → β) : nm x f = f x := rfl
theorem chk_t {α : Type} (r : Option α) : chk true r = r := rfl
theorem chk_h {α : Type} {b : Bool} (h : b = true) (r : Option α) : chk b r = r := by rw [chk, if_pos h]
theorem b01_0 : decide ((0 : Int32) = 0 ∨ (0 : Int32) = 1) = true := by decide
theorem b01_1 : decide ((1 : Int32) = 0 ∨ (1 : Int32) = 1) = true := by decide
theorem inB_nI {n N : Nat} (h : n < N) (hN : N < 2147483648) : inB (nI n) N = true := by
  have : (nI n).toInt = n := nI_toInt (by omega)
  simp only [inB, this, decide_eq_true_eq]
  omega
theorem nI_div {a b : Nat} (ha : a < 2 ^ 31) (hb : b < 2 ^ 31) : nI a / nI b = nI (a / b) := (Int32.ofNat_div ha hb).symm
theorem nI_mul (a b : Nat) : nI a * nI b = nI (a * b) := (Int32.ofNat_mul a b).symm
theorem nI_sub {a b : Nat} (h : b ≤ a) : nI a - nI b = nI (a - b) := (Int32.ofNat_sub a b h).symm
theorem nI_mod {n m : Nat} (h : n < 2 ^ 31) (hm : m < 2 ^ 31) : nI n - nI n / nI m * nI m = nI (n % m) := by
  rw [nI_div h hm, nI_mul, nI_sub (Nat.div_mul_le_self n m)]
  congr 1
  have := Nat.div_add_mod n m
  rw [Nat.mul_comm] at this
  omega
theorem m1_ne {n : Nat} (h : n < 2147483648) : ¬ nI n = -1 := by
  intro e
  have h1 := congrArg Int32.toInt e
  rw [nI_toInt (by omega)] at h1
  have h2 : (-1 : Int32).toInt = -1 := by decide
  omega
theorem nI_inj {a b : Nat} (ha : a < 2147483648) (hb : b < 2147483648) (h : nI a = nI b) : a = b := (nI_eq (by omega) (by omega)).mp h
theorem cl {n : Nat} (h : n < 2147483648) : (nI n).toNatClampNeg = n := nI_clamp (by omega)
/-! states: fields of threads (sections 0 to 9: 0 BASE, 1 SIZE, 2 PLACE, 3 STATE, 4 PERMIT, 5 INTERRUPTED, 6 CAUSE, 7 DEADLINE, 8 AT, 9 RAN, 10 LAST, 11 PARKS, 12 to 15 returns, 16 GREATEST, 17 PROGRESS), 10 what is one for all, 11 holders, 12 codes, 13 numbers; the log, its newest first; who waits, by lock -/
abbrev Ev : Type := Int32 × Int32 × Int32 × Int32
abbrev SF : Type := Nat → Nat → Int32
abbrev AS : Type := SF × List Ev × (Nat → List Nat)
def up2 (f : SF) (a b : Nat) (v : Int32) : SF := fun a' b' => if a' = a ∧ b' = b then v else f a' b'
def up (A : AS) (a b : Nat) (v : Int32) : AS := (up2 A.1 a b v, A.2)
def inc (A : AS) (a b : Nat) : AS := up A a b (A.1 a b + 1)
def note (A : AS) (kind th its : Int32) : AS := (A.1, (A.1 10 3, kind, th, its) :: A.2.1, A.2.2)
def rmW (A : AS) (l u : Nat) : AS := (A.1, A.2.1, fun l' => if l' = l then (A.2.2 l).filter (fun v => decide (¬ v = u)) else A.2.2 l')
def adW (A : AS) (l u : Nat) : AS := (A.1, A.2.1, fun l' => if l' = l then A.2.2 l ++ [u] else A.2.2 l')
theorem up_a {A : AS} {a b : Nat} {v : Int32} {a' b' : Nat} (h : ¬ a' = a) : (up A a b v).1 a' b' = A.1 a' b' := by simp [up, up2, h]
theorem up_b {A : AS} {a b : Nat} {v : Int32} {a' b' : Nat} (h : ¬ b' = b) : (up A a b v).1 a' b' = A.1 a' b' := by simp [up, up2, h]
theorem up_s {A : AS} {a b : Nat} {v : Int32} : (up A a b v).1 a b = v := by simp [up, up2]
theorem up_e {A : AS} {a b : Nat} {v : Int32} {a' b' : Nat} : (up A a b v).1 a' b' = if a' = a ∧ b' = b then v else A.1 a' b' := rfl
theorem inc_e {A : AS} {a b : Nat} {a' b' : Nat} : (inc A a b).1 a' b' = if a' = a ∧ b' = b then A.1 a b + 1 else A.1 a' b' := rfl
theorem note_1 {A : AS} {x y z : Int32} : (note A x y z).1 = A.1 := rfl
theorem up_2 {A : AS} {a b : Nat} {v : Int32} : (up A a b v).2 = A.2 := rfl
theorem inc_2 {A : AS} {a b : Nat} : (inc A a b).2 = A.2 := rfl
theorem rmW_1 {A : AS} {l u : Nat} : (rmW A l u).1 = A.1 := rfl
theorem adW_1 {A : AS} {l u : Nat} : (adW A l u).1 = A.1 := rfl
theorem up_self {A : AS} {a b : Nat} {v : Int32} (h : A.1 a b = v) : up A a b v = A := by
  have : up2 A.1 a b v = A.1 := by
    funext a' b'
    unfold up2
    split
    · rename_i e
      rw [e.1, e.2, h]
    · rfl
  rw [up, this]
/-! priorities -/
def hop (T : Nat) (s : SF) (u : Nat) : Option Nat := if u < T then (if s u 8 = -1 then none else if s 11 (s u 8).toNatClampNeg = -1 then none else some (s 11 (s u 8).toNatClampNeg).toNatClampNeg) else none
def wk (h : Nat → Option Nat) : Nat → Nat → Option Nat
  | 0, u => some u
  | n + 1, u => match h u with
    | none => none
    | some v => wk h n v
def rc (h : Nat → Option Nat) (u t : Nat) : Bool := (List.range 11).any (fun n => decide (wk h n u = some t))
def mxf (p : Nat → Bool) (bs : Nat → Int32) : Nat → Int32
  | 0 => 0
  | n + 1 => if p n = true then (if mxf p bs n < bs n then bs n else mxf p bs n) else mxf p bs n
def prf (T : Nat) (len : Int32) (h : Nat → Option Nat) (bs : Nat → Int32) (t : Nat) : Int32 := if len = 1 then mxf (fun u => rc h u t) bs T else bs t
def pr (T : Nat) (A : AS) (t : Nat) : Int32 := prf T (A.1 10 1) (hop T A.1) (fun u => A.1 u 0) t
theorem mxf_congr {p : Nat → Bool} {bs bs' : Nat → Int32} : ∀ n : Nat, (∀ u, u < n → bs' u = bs u) → mxf p bs' n = mxf p bs n := by
  intro n
  induction n with
  | zero => intro _; rfl
  | succ n ih =>
    intro h
    rw [mxf, mxf, ih (fun u hu => h u (by omega)), h n (by omega)]
theorem pr_congr {T : Nat} {A A' : AS} (h1 : A'.1 10 1 = A.1 10 1) (h2 : hop T A'.1 = hop T A.1) (h3 : ∀ u, u < T → A'.1 u 0 = A.1 u 0) {t : Nat} (ht : t < T) : pr T A' t = pr T A t := by
  unfold pr prf
  rw [h1, h2, mxf_congr T h3]
  dsimp only
  rw [h3 t ht]
theorem hop_up {T : Nat} {s : SF} {a b : Nat} {v : Int32} (hT : T ≤ 10) (h1 : ¬ a = 11) (h2 : ¬ b = 8 ∨ 10 ≤ a) : hop T (up2 s a b v) = hop T s := by
  funext u
  unfold hop
  by_cases hu : u < T
  · have e1 : up2 s a b v u 8 = s u 8 := by
      unfold up2
      rw [if_neg (by omega)]
    have e2 : ∀ x, up2 s a b v 11 x = s 11 x := fun x => by
      unfold up2
      rw [if_neg (by omega)]
    rw [if_pos hu, if_pos hu, e1, e2]
  · rw [if_neg hu, if_neg hu]
theorem pr_up {T : Nat} {A : AS} {a b : Nat} {v : Int32} (h1 : ¬ a = 11) (h2 : (¬ b = 8 ∧ ¬ b = 0) ∨ 10 ≤ a) (h3 : ¬ (a = 10 ∧ b = 1)) (hT : T ≤ 10) {t : Nat} (ht : t < T) : pr T (up A a b v) t = pr T A t := by
  refine pr_congr ?_ (hop_up hT h1 (by omega)) (fun u hu => ?_) ht
  · show up2 A.1 a b v 10 1 = _
    unfold up2
    rw [if_neg (by omega)]
  · show up2 A.1 a b v u 0 = _
    unfold up2
    rw [if_neg (by omega)]
/-! ===== the class's machine k holds a state ===== -/
def LIM : Nat := 2147000000
theorem LIM_eq : LIM = 2147000000 := rfl
def okf (f : Nat) : Bool := decide (f < 16 ∨ f = 17)
def okp (f : Nat) : Bool := decide ((2 ≤ f ∧ f < 8) ∨ (8 < f ∧ f < 16) ∨ f = 17)
def okg (b : Nat) : Bool := decide (b < 7 ∨ (8 ≤ b ∧ b < 12))
def slf (f : Nat) : Nat := match f with
  | 0 => 4
  | 1 => 3
  | 2 => 8
  | 3 => 7
  | 4 => 10
  | 5 => 11
  | 6 => 12
  | 7 => 13
  | 8 => 14
  | 9 => 15
  | 10 => 16
  | 11 => 17
  | 12 => 1
  | 13 => 2
  | 14 => 3
  | 15 => 4
  | _ => 9
def kdf (f : Nat) : Nat := match f with
  | 12 => 8
  | 13 => 8
  | 14 => 8
  | 15 => 8
  | _ => 5
def slg (b : Nat) : Nat := match b with
  | 0 => 0
  | 1 => 1
  | 2 => 4
  | 3 => 5
  | 4 => 6
  | 5 => 8
  | 6 => 7
  | 8 => 9
  | 9 => 10
  | 10 => 11
  | _ => 12
def kdg (b : Nat) : Nat := match b with
  | 0 => 15
  | 1 => 15
  | _ => 3
theorem slf_all : ((List.range 18).all fun f => (List.range 18).all fun f' => !(okf f && okf f' && kdf f == kdf f' && slf f == slf f') || f == f') = true := by decide
theorem slf_inj (f : Nat) (h : f < 18) (f' : Nat) (h' : f' < 18) (o : okf f = true) (o' : okf f' = true) (e : kdf f = kdf f') (e2 : slf f = slf f') : f = f' := by
  have := List.all_eq_true.mp (List.all_eq_true.mp slf_all f (List.mem_range.mpr h)) f' (List.mem_range.mpr h')
  simpa [o, o', e, e2] using this
theorem slg_all : ((List.range 12).all fun f => (List.range 12).all fun f' => !(okg f && okg f' && kdg f == kdg f' && slg f == slg f') || f == f') = true := by decide
theorem slg_inj (f : Nat) (h : f < 12) (f' : Nat) (h' : f' < 12) (o : okg f = true) (o' : okg f' = true) (e : kdg f = kdg f') (e2 : slg f = slg f') : f = f' := by
  have := List.all_eq_true.mp (List.all_eq_true.mp slg_all f (List.mem_range.mpr h)) f' (List.mem_range.mpr h')
  simpa [o, o', e, e2] using this
theorem okf_lt {f : Nat} (h : okf f = true) : f < 18 := by simp [okf] at h; omega
theorem okg_lt {f : Nat} (h : okg f = true) : f < 12 := by simp [okg] at h; omega
theorem okp_f {f : Nat} (h : okp f = true) : okf f = true ∧ ¬ f = 0 ∧ ¬ f = 1 ∧ ¬ f = 8 ∧ ¬ f = 16 := by
  simp [okp] at h
  simp [okf]
  omega
theorem kdf_58 (f : Nat) : kdf f = 5 ∨ kdf f = 8 := by unfold kdf; split <;> simp
theorem kdg_315 (f : Nat) : kdg f = 15 ∨ kdg f = 3 := by unfold kdg; split <;> simp
theorem slf_5 : ∀ f, f < 18 → okf f = true → kdf f = 5 → ¬ slf f = 5 ∧ ¬ slf f = 6 := by decide
theorem slg_3 : ∀ f, f < 12 → okg f = true → kdg f = 3 → ¬ slg f = 13 ∧ ¬ slg f = 15 := by decide
def evc (e : Ev) (c : Nat) : Int32 := match c with
  | 0 => e.1
  | 1 => e.2.1
  | 2 => e.2.2.1
  | _ => e.2.2.2
def ev0 : Ev := (0, 0, 0, 0)
def Cb (k T : Nat) (A : AS) (M : Mem) : Prop := (T ≤ 10 ∧ A.1 10 2 = nI T) ∧ (∀ t f, t < T → okf f = true → M.1 (kdf f) k t (slf f) = A.1 t f) ∧ (∀ b, okg b = true → M.1 (kdg b) k 0 (slg b) = A.1 10 b) ∧ (∀ l, l < 6 → M.1 10 k 0 l = A.1 11 l) ∧
  (∀ t j, t < T → j < 16 → j < (A.1 t 1).toNatClampNeg → M.1 6 k t j = A.1 12 (16 * t + j) ∧ M.1 7 k t j = A.1 13 (16 * t + j))
def Cg (g : Bool) (k T : Nat) (A : AS) (M : Mem) : Prop := g = true → ∀ t, t < T → M.1 5 k t 6 = (if A.1 t 16 = -1 then 0 else A.1 t 16) ∧ ¬ A.1 t 16 = 0
def Cp (p : Bool) (k T : Nat) (A : AS) (M : Mem) : Prop := p = true → M.1 3 k 0 13 = 0 → ∀ t, t < T → M.1 5 k t 5 = pr T A t
/-- the log's next row, its number of kept events, its total -/
def lgv (n j : Nat) : Int32 := match j with
  | 1 => nI (n % 40)
  | 2 => nI (min n 40)
  | _ => nI n
def Cl (k : Nat) (A : AS) (M : Mem) : Prop := A.2.1.length ≤ LIM ∧ (∀ j, 0 < j → j < 4 → M.1 13 k 0 j = lgv A.2.1.length j) ∧ ∀ i c, i < A.2.1.length → i < 40 → c < 4 → M.1 14 k 0 (4 * ((A.2.1.length - 1 - i) % 40) + c) = evc (A.2.1.getD i ev0) c
theorem Cl.nx {k : Nat} {A : AS} {M : Mem} (h : Cl k A M) : M.1 13 k 0 1 = nI (A.2.1.length % 40) := h.2.1 1 (by omega) (by omega)
theorem Cl.kp {k : Nat} {A : AS} {M : Mem} (h : Cl k A M) : M.1 13 k 0 2 = nI (min A.2.1.length 40) := h.2.1 2 (by omega) (by omega)
theorem Cl.tt {k : Nat} {A : AS} {M : Mem} (h : Cl k A M) : M.1 13 k 0 3 = nI A.2.1.length := h.2.1 3 (by omega) (by omega)
def Cwt (k : Nat) (A : AS) (M : Mem) : Prop := ∀ l, l < 6 → M.1 12 k 0 l = nI (A.2.2 l).length ∧ (A.2.2 l).length ≤ 10 ∧ ∀ i, i < (A.2.2 l).length → M.1 11 k 0 (l * 10 + i) = nI ((A.2.2 l).getD i 0)
def Cs (k : Nat) (stk : List Nat) (M : Mem) : Prop := M.1 3 k 0 15 = nI stk.length ∧ stk.length ≤ 10 ∧ ∀ i, i < stk.length → M.1 16 k 0 (stk.length - 1 - i) = nI (stk.getD i 0)
def Fk (k : Nat) (M0 M : Mem) : Prop := M.2 = M0.2 ∧ ∀ kd k' i j, (¬ k' = k ∨ kd < 3 ∨ 16 < kd) → M.1 kd k' i j = M0.1 kd k' i j
def C (g p : Bool) (k : Nat) (M0 : Mem) (T : Nat) (A : AS) (stk : List Nat) (M : Mem) : Prop := Cb k T A M ∧ Cg g k T A M ∧ Cp p k T A M ∧ Cl k A M ∧ Cwt k A M ∧ Cs k stk M ∧ Fk k M0 M
theorem wI_kd {M : Mem} {kd k i j : Nat} {v : Int32} {kd' k' i' j' : Nat} (h : ¬ kd' = kd) : (wI M kd k i j v).1 kd' k' i' j' = M.1 kd' k' i' j' := by simp [wI, up4, h]
theorem wI_k {M : Mem} {kd k i j : Nat} {v : Int32} {kd' k' i' j' : Nat} (h : ¬ k' = k) : (wI M kd k i j v).1 kd' k' i' j' = M.1 kd' k' i' j' := by simp [wI, up4, h]
theorem wI_i {M : Mem} {kd k i j : Nat} {v : Int32} {kd' k' i' j' : Nat} (h : ¬ i' = i) : (wI M kd k i j v).1 kd' k' i' j' = M.1 kd' k' i' j' := by simp [wI, up4, h]
theorem wI_j {M : Mem} {kd k i j : Nat} {v : Int32} {kd' k' i' j' : Nat} (h : ¬ j' = j) : (wI M kd k i j v).1 kd' k' i' j' = M.1 kd' k' i' j' := by simp [wI, up4, h]
theorem wI_s {M : Mem} {kd k i j : Nat} {v : Int32} : (wI M kd k i j v).1 kd k i j = v := by simp [wI, up4]
theorem wI_e {M : Mem} {kd k i j : Nat} {v : Int32} {kd' k' i' j' : Nat} : (wI M kd k i j v).1 kd' k' i' j' = if kd' = kd ∧ k' = k ∧ i' = i ∧ j' = j then v else M.1 kd' k' i' j' := rfl
theorem Fk.wI {k : Nat} {M0 M : Mem} (h : Fk k M0 M) {kd i j : Nat} {v : Int32} (h1 : 3 ≤ kd) (h2 : kd ≤ 16) : Fk k M0 (wI M kd k i j v) := by
  refine ⟨h.1, fun kd' k' i' j' hh => ?_⟩
  rw [wI_e, if_neg (by omega)]
  exact h.2 kd' k' i' j' hh
theorem Fk.refl (k : Nat) (M : Mem) : Fk k M M := ⟨rfl, fun _ _ _ _ _ => rfl⟩
theorem Fk.trans {k : Nat} {M0 M1 M2 : Mem} (h1 : Fk k M0 M1) (h2 : Fk k M1 M2) : Fk k M0 M2 := ⟨h2.1.trans h1.1, fun a b c d h => (h2.2 a b c d h).trans (h1.2 a b c d h)⟩
section CREL
variable {g p : Bool} {k : Nat} {M0 : Mem} {T : Nat} {A : AS} {stk : List Nat} {M : Mem}
theorem C.T10 (h : C g p k M0 T A stk M) : T ≤ 10 := h.1.1.1
theorem C.th (h : C g p k M0 T A stk M) {t : Nat} (ht : t < T) (f : Nat) (hf : okf f = true) : M.1 (kdf f) k t (slf f) = A.1 t f := h.1.2.1 t f ht hf
theorem C.gl (h : C g p k M0 T A stk M) (b : Nat) (hb : okg b = true) : M.1 (kdg b) k 0 (slg b) = A.1 10 b := h.1.2.2.1 b hb
theorem C.ho (h : C g p k M0 T A stk M) {l : Nat} (hl : l < 6) : M.1 10 k 0 l = A.1 11 l := h.1.2.2.2.1 l hl
theorem C.co (h : C g p k M0 T A stk M) {t j : Nat} (ht : t < T) (h1 : j < 16) (h2 : j < (A.1 t 1).toNatClampNeg) : M.1 6 k t j = A.1 12 (16 * t + j) ∧ M.1 7 k t j = A.1 13 (16 * t + j) := h.1.2.2.2.2 t j ht h1 h2
theorem C.weak (h : C g p k M0 T A stk M) : C g false k M0 T A stk M := ⟨h.1, h.2.1, fun e => (nomatch e), h.2.2.2⟩
theorem C.weakg (h : C g p k M0 T A stk M) : C false p k M0 T A stk M := ⟨h.1, fun e => (nomatch e), h.2.2⟩
theorem C.put' (h : C g p k M0 T A stk M) {t f : Nat} (ht : t < T) (hf : okf f = true) (h1 : ¬ f = 1) (hp : p = true → ¬ f = 0 ∧ ¬ f = 8) (v : Int32) : C g p k M0 T (up A t f v) stk (wI M (kdf f) k t (slf f) v) := by
  obtain ⟨⟨hT, hth, hgl, hho, hco⟩, hg, hpp, hl, hw, hs, hF⟩ := h
  have hk := kdf_58 f
  have h16 : ¬ f = 16 := by simp [okf] at hf; omega
  refine ⟨⟨⟨hT.1, ?_⟩, ?_, ?_, ?_, ?_⟩, ?_, ?_, ⟨hl.1, ?_, ?_⟩, ?_, ⟨?_, hs.2.1, ?_⟩, hF.wI (by omega) (by omega)⟩
  · rw [up_a (by omega)]; exact hT.2
  · intro u f' hu hf'
    rw [wI_e, up_e]
    by_cases e : f' = f
    · subst e
      by_cases e2 : u = t
      · subst e2; simp
      · rw [if_neg (by omega), if_neg (by omega)]; exact hth u f' hu hf'
    · have := fun q1 q2 => e (slf_inj f' (okf_lt hf') f (okf_lt hf) hf' hf q1 q2)
      rw [if_neg (fun q => this q.1 q.2.2.2), if_neg (by omega)]
      exact hth u f' hu hf'
  · intro b hb
    have := kdg_315 b
    rw [wI_kd (by omega), up_a (by omega)]
    exact hgl b hb
  · intro l hl
    rw [wI_kd (by omega), up_a (by omega)]
    exact hho l hl
  · intro u j hu hj hj2
    rw [up_b (fun e => h1 e.symm)] at hj2
    rw [wI_kd (by omega), wI_kd (by omega), up_a (by omega), up_a (by omega)]
    exact hco u j hu hj hj2
  · intro e u hu
    have := slf_5 f (okf_lt hf) hf
    rw [wI_e, if_neg (fun q => (this q.1.symm).2 q.2.2.2.symm), up_b (fun e => h16 e.symm)]
    exact hg e u hu
  · intro e e2 u hu
    have := slf_5 f (okf_lt hf) hf
    rw [wI_kd (by omega)] at e2
    have := hp e
    rw [wI_e, if_neg (fun q => (slf_5 f (okf_lt hf) hf q.1.symm).1 q.2.2.2.symm), pr_up (by omega) (by omega) (by omega) hT.1 hu]
    exact hpp e e2 u hu
  · intro j b1 b2; rw [wI_kd (by omega)]; exact hl.2.1 j b1 b2
  · intro i c a1 a2 a3
    rw [wI_kd (by omega)]; exact hl.2.2 i c a1 a2 a3
  · intro l hl
    rw [wI_kd (by omega)]
    refine ⟨(hw l hl).1, (hw l hl).2.1, fun i hi => ?_⟩
    rw [wI_kd (by omega)]
    exact (hw l hl).2.2 i hi
  · rw [wI_kd (by omega)]; exact hs.1
  · intro i hi
    rw [wI_kd (by omega)]; exact hs.2.2 i hi
theorem C.put (h : C g p k M0 T A stk M) {t f : Nat} (ht : t < T) (hf : okp f = true) (v : Int32) : C g p k M0 T (up A t f v) stk (wI M (kdf f) k t (slf f) v) :=
  h.put' ht (okp_f hf).1 (okp_f hf).2.2.1 (fun _ => ⟨(okp_f hf).2.1, (okp_f hf).2.2.2.1⟩) v
theorem C.putg (h : C g p k M0 T A stk M) {b : Nat} (hb : okg b = true) (h2 : ¬ b = 2) (hp : p = true → ¬ b = 1) (v : Int32) : C g p k M0 T (up A 10 b v) stk (wI M (kdg b) k 0 (slg b) v) := by
  obtain ⟨⟨hT, hth, hgl, hho, hco⟩, hg, hpp, hl, hw, hs, hF⟩ := h
  have hk := kdg_315 b
  refine ⟨⟨⟨hT.1, ?_⟩, ?_, ?_, ?_, ?_⟩, ?_, ?_, ⟨hl.1, ?_, ?_⟩, ?_, ⟨?_, hs.2.1, ?_⟩, hF.wI (by omega) (by omega)⟩
  · rw [up_b (by omega)]; exact hT.2
  · intro u f' hu hf'
    have := kdf_58 f'
    rw [wI_kd (by omega), up_a (by omega)]
    exact hth u f' hu hf'
  · intro f' hf'
    rw [wI_e, up_e]
    by_cases e : f' = b
    · subst e
      simp
    · have := fun q1 q2 => e (slg_inj f' (okg_lt hf') b (okg_lt hb) hf' hb q1 q2)
      rw [if_neg (fun q => this q.1 q.2.2.2), if_neg (by omega)]
      exact hgl f' hf'
  · intro l hl
    rw [wI_kd (by omega), up_a (by omega)]
    exact hho l hl
  · intro u j hu hj hj2
    rw [up_a (by omega)] at hj2
    rw [wI_kd (by omega), wI_kd (by omega), up_a (by omega), up_a (by omega)]
    exact hco u j hu hj hj2
  · intro e u hu
    rw [wI_kd (by omega), up_a (by omega)]
    exact hg e u hu
  · intro e e2 u hu
    have h13 : (wI M (kdg b) k 0 (slg b) v).1 3 k 0 13 = M.1 3 k 0 13 := by
      rw [wI_e, if_neg (fun q => (slg_3 b (okg_lt hb) hb q.1.symm).1 q.2.2.2.symm)]
    rw [h13] at e2
    have := hp e
    rw [wI_kd (by omega), pr_up (by omega) (by omega) (by omega) hT.1 hu]
    exact hpp e e2 u hu
  · intro j b1 b2; rw [wI_kd (by omega)]; exact hl.2.1 j b1 b2
  · intro i c a1 a2 a3
    rw [wI_kd (by omega)]; exact hl.2.2 i c a1 a2 a3
  · intro l hl
    rw [wI_kd (by omega)]
    refine ⟨(hw l hl).1, (hw l hl).2.1, fun i hi => ?_⟩
    rw [wI_kd (by omega)]
    exact (hw l hl).2.2 i hi
  · rw [wI_e, if_neg (fun q => (slg_3 b (okg_lt hb) hb q.1.symm).2 q.2.2.2.symm)]; exact hs.1
  · intro i hi
    rw [wI_kd (by omega)]; exact hs.2.2 i hi
theorem C.puth (h : C g p k M0 T A stk M) {l : Nat} (hl6 : l < 6) {v : Int32} (hp : p = true → M.1 3 k 0 13 = 0 → ∀ t, t < T → pr T (up A 11 l v) t = pr T A t) : C g p k M0 T (up A 11 l v) stk (wI M 10 k 0 l v) := by
  obtain ⟨⟨hT, hth, hgl, hho, hco⟩, hg, hpp, hl, hw, hs, hF⟩ := h
  refine ⟨⟨⟨hT.1, ?_⟩, ?_, ?_, ?_, ?_⟩, ?_, ?_, ⟨hl.1, ?_, ?_⟩, ?_, ⟨?_, hs.2.1, ?_⟩, hF.wI (by omega) (by omega)⟩
  · rw [up_a (by omega)]; exact hT.2
  · intro u f' hu hf'
    have := kdf_58 f'
    rw [wI_kd (by omega), up_a (by omega)]
    exact hth u f' hu hf'
  · intro b hb
    have := kdg_315 b
    rw [wI_kd (by omega), up_a (by omega)]
    exact hgl b hb
  · intro l' hl'
    rw [wI_e, up_e]
    by_cases e : l' = l
    · subst e; simp
    · rw [if_neg (by omega), if_neg (by omega)]; exact hho l' hl'
  · intro u j hu hj hj2
    rw [up_a (by omega)] at hj2
    rw [wI_kd (by omega), wI_kd (by omega), up_a (by omega), up_a (by omega)]
    exact hco u j hu hj hj2
  · intro e u hu
    rw [wI_kd (by omega), up_a (by omega)]
    exact hg e u hu
  · intro e e2 u hu
    rw [wI_kd (by omega)] at e2
    rw [wI_kd (by omega), hp e e2 u hu]
    exact hpp e e2 u hu
  · intro j b1 b2; rw [wI_kd (by omega)]; exact hl.2.1 j b1 b2
  · intro i c a1 a2 a3
    rw [wI_kd (by omega)]; exact hl.2.2 i c a1 a2 a3
  · intro l hl
    rw [wI_kd (by omega)]
    refine ⟨(hw l hl).1, (hw l hl).2.1, fun i hi => ?_⟩
    rw [wI_kd (by omega)]
    exact (hw l hl).2.2 i hi
  · rw [wI_kd (by omega)]; exact hs.1
  · intro i hi
    rw [wI_kd (by omega)]; exact hs.2.2 i hi
/-- cells of the machine of which the state says nothing: the flag of old priorities set, priorities written while they are old -/
theorem C.mark (h : C g p k M0 T A stk M) {p' : Bool} : C g p' k M0 T A stk (wI M 3 k 0 13 1) := by
  obtain ⟨⟨hT, hth, hgl, hho, hco⟩, hg, hpp, hl, hw, hs, hF⟩ := h
  refine ⟨⟨⟨hT.1, hT.2⟩, ?_, ?_, ?_, ?_⟩, ?_, ?_, ⟨hl.1, ?_, ?_⟩, ?_, ⟨?_, hs.2.1, ?_⟩, hF.wI (by omega) (by omega)⟩
  · intro u f' hu hf'
    have := kdf_58 f'
    rw [wI_kd (by omega)]
    exact hth u f' hu hf'
  · intro b hb
    rw [wI_e, if_neg (fun q => (slg_3 b (okg_lt hb) hb q.1).1 q.2.2.2)]
    exact hgl b hb
  · intro l' hl'
    rw [wI_kd (by omega)]; exact hho l' hl'
  · intro u j hu hj hj2
    rw [wI_kd (by omega), wI_kd (by omega)]
    exact hco u j hu hj hj2
  · intro e u hu
    rw [wI_kd (by omega)]
    exact hg e u hu
  · intro e e2 u hu
    rw [wI_s] at e2
    exact absurd e2 (by decide)
  · intro j b1 b2; rw [wI_kd (by omega)]; exact hl.2.1 j b1 b2
  · intro i c a1 a2 a3
    rw [wI_kd (by omega)]; exact hl.2.2 i c a1 a2 a3
  · intro l hl
    rw [wI_kd (by omega)]
    refine ⟨(hw l hl).1, (hw l hl).2.1, fun i hi => ?_⟩
    rw [wI_kd (by omega)]
    exact (hw l hl).2.2 i hi
  · rw [wI_j (by omega)]; exact hs.1
  · intro i hi
    rw [wI_kd (by omega)]; exact hs.2.2 i hi
/-- a priority or the flag is written, the cache being no matter -/
theorem C.scr (h : C g p k M0 T A stk M) {kd i j : Nat} {v : Int32} (hh : (kd = 5 ∧ j = 5) ∨ (kd = 3 ∧ j = 13)) : C g false k M0 T A stk (wI M kd k i j v) := by
  obtain ⟨⟨hT, hth, hgl, hho, hco⟩, hg, hpp, hl, hw, hs, hF⟩ := h
  refine ⟨⟨⟨hT.1, hT.2⟩, ?_, ?_, ?_, ?_⟩, ?_, (fun e => (nomatch e)), ⟨hl.1, ?_, ?_⟩, ?_, ⟨?_, hs.2.1, ?_⟩, hF.wI (by omega) (by omega)⟩
  · intro u f' hu hf'
    have := kdf_58 f'
    rw [wI_e, if_neg (fun q => by
      have := (slf_5 f' (okf_lt hf') hf' (by omega)).1
      omega)]
    exact hth u f' hu hf'
  · intro b hb
    have := kdg_315 b
    rw [wI_e, if_neg (fun q => by
      have := (slg_3 b (okg_lt hb) hb (by omega)).1
      omega)]
    exact hgl b hb
  · intro l' hl'
    rw [wI_kd (by omega)]; exact hho l' hl'
  · intro u j hu hj hj2
    rw [wI_kd (by omega), wI_kd (by omega)]
    exact hco u j hu hj hj2
  · intro e u hu
    rw [wI_e, if_neg (by omega)]
    exact hg e u hu
  · intro j b1 b2; rw [wI_kd (by omega)]; exact hl.2.1 j b1 b2
  · intro i c a1 a2 a3
    rw [wI_kd (by omega)]; exact hl.2.2 i c a1 a2 a3
  · intro l hl
    rw [wI_kd (by omega)]
    refine ⟨(hw l hl).1, (hw l hl).2.1, fun i hi => ?_⟩
    rw [wI_kd (by omega)]
    exact (hw l hl).2.2 i hi
  · rw [wI_e, if_neg (by omega)]; exact hs.1
  · intro i hi
    rw [wI_kd (by omega)]; exact hs.2.2 i hi
end CREL
