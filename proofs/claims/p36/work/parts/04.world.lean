/-! ===== the world: cells by kind (kd), machine (k), thread (i); what they hold is a memory =====
kinds: 0 PermitPark, 1 SetupText, 2 its bytes, 3 Machine k, 4 its threads' row, 5 Strand k i, 6 codes, 7 numbers, 8 returns, 9 Locks k, 10 holders, 11 waiters, 12 waiting, 13 Log k, 14 its cells,
15 settings, 16 ending, 17 saved machines' row, 18 isSaved, 19 the law's own object -/
abbrev Mem : Type := (Nat → Nat → Nat → Nat → Int32) × Int64 × Int64 × UInt64
def up4 (f : Nat → Nat → Nat → Nat → Int32) (a b c d : Nat) (v : Int32) : Nat → Nat → Nat → Nat → Int32 := fun a' b' c' d' => if a' = a ∧ b' = b ∧ c' = c ∧ d' = d then v else f a' b' c' d'
def wI (M : Mem) (a b c d : Nat) (v : Int32) : Mem := (up4 M.1 a b c d v, M.2)
def wW (M : Mem) (v : Int64) : Mem := (M.1, v, M.2.2)
def wO (M : Mem) (v : Int64) : Mem := (M.1, M.2.1, v, M.2.2.2)
def wD (M : Mem) (v : UInt64) : Mem := (M.1, M.2.1, M.2.2.1, v)
/-- addresses; classes and slots; array classes; which cells are there; which may be written; addresses of constants, strings, their bytes -/
abbrev WT : Type := (Nat → Nat → Nat → Nat) × va_G × (Nat → ClassId) × (Nat → Nat → Nat → Prop) × (Nat → Prop) × (Nat → Nat) × (Nat → Nat) × (Nat → Nat)
abbrev tysOf (cy : Nat → ClassId) : List (ClassId × FieldType) := [(cy 0, .int), (cy 1, .byte), (cy 2, .boolean), (cy 3, .object "PermitPark$Strand"), (cy 4, .object "PermitPark$Machine")]
/-- objects: class, number of fields -/
def kc (kd : Nat) : Option (Nat × Nat) := match kd with
  | 0 => some (5, 5)
  | 1 => some (3, 8)
  | 3 => some (2, 16)
  | 5 => some (4, 18)
  | 9 => some (0, 3)
  | 13 => some (1, 4)
  | 19 => some (6, 3)
  | _ => none
/-- arrays: type, length -/
def ka (kd : Nat) : Option (Nat × Nat) := match kd with
  | 2 => some (1, 800)
  | 4 => some (3, 10)
  | 6 => some (0, 16)
  | 7 => some (0, 16)
  | 8 => some (0, 5)
  | 10 => some (0, 6)
  | 11 => some (0, 60)
  | 12 => some (0, 6)
  | 14 => some (0, 160)
  | 15 => some (0, 2)
  | 16 => some (0, 10)
  | 17 => some (4, 2)
  | 18 => some (2, 2)
  | _ => none
/-- the cell to which a slot refers -/
def ft (kd k i j : Nat) : Option (Nat × Nat × Nat) := match kd with
  | 0 => (match j with
    | 0 => some (1, 0, 0)
    | 1 => some (3, 0, 0)
    | 2 => some (3, 1, 0)
    | 3 => some (17, 0, 0)
    | 4 => some (18, 0, 0)
    | _ => none)
  | 1 => (match j with
    | 0 => some (2, 0, 0)
    | _ => none)
  | 3 => (match j with
    | 0 => some (4, k, 0)
    | 1 => some (9, k, 0)
    | 2 => some (13, k, 0)
    | 3 => some (15, k, 0)
    | 14 => some (16, k, 0)
    | _ => none)
  | 4 => some (5, k, j)
  | 5 => (match j with
    | 0 => some (6, k, i)
    | 1 => some (7, k, i)
    | 2 => some (8, k, i)
    | _ => none)
  | 9 => (match j with
    | 0 => some (10, k, 0)
    | 1 => some (11, k, 0)
    | 2 => some (12, k, 0)
    | _ => none)
  | 13 => (match j with
    | 0 => some (14, k, 0)
    | _ => none)
  | 17 => some (3, j + 2, 0)
  | 19 => (match j with
    | 0 => some (0, 0, 0)
    | _ => none)
  | _ => none
/-- what a slot that is no reference of the world holds: 0 an int, 1 the script (or null, ahead of it) -/
def ks (kd j : Nat) : Nat := match kd with
  | 19 => (match j with
    | 1 => 1
    | _ => 0)
  | _ => 0
def fs (G : WT) (M : Mem) (s kd k i j : Nat) : Value := match s with
  | 0 => .int (M.1 kd k i j)
  | 1 => if M.1 kd k i j = 0 then .null else .ref (G.2.2.2.2.2.1 102)
  | 2 => .long M.2.2.1
  | _ => .double M.2.2.2
def fv (G : WT) (M : Mem) (kd k i j : Nat) : Value := match ft kd k i j with
  | some c => .ref (G.1 c.1 c.2.1 c.2.2)
  | none => fs G M (ks kd j) kd k i j
def Wc (G : WT) (M : Mem) (H : Heap) (kd k i : Nat) : Prop :=
  (∀ ci N, kc kd = some (ci, N) → t_OB (G.1 kd k i) (G.2.1.1 ci) N (G.2.1.2 ci) H (fun j => fv G M kd k i j)) ∧
  (∀ ti n, ka kd = some (ti, n) → H[G.1 kd k i]? = some (arrV (G.2.2.1 ti) n (fun j => fv G M kd k i j)))
/-- the heap holds the memory -/
def Wd (G : WT) (M : Mem) (H : Heap) : Prop := ∀ kd k i, G.2.2.2.1 kd k i → Wc G M H kd k i
/-- what never changes: the addresses are apart and may be written; what a cell refers to is there; an object's slots end -/
def Wa (G : WT) : Prop :=
  (∀ kd k i kd' k' i', G.2.2.2.1 kd k i → G.2.2.2.1 kd' k' i' → G.1 kd k i = G.1 kd' k' i' → kd = kd' ∧ k = k' ∧ i = i') ∧
  (∀ kd k i, G.2.2.2.1 kd k i → G.2.2.2.2.1 (G.1 kd k i)) ∧
  (∀ kd k i j c, G.2.2.2.1 kd k i → ((∃ ci N, kc kd = some (ci, N) ∧ j < N) ∨ (∃ ti n, ka kd = some (ti, n) ∧ j < n)) → ft kd k i j = some c → G.2.2.2.1 c.1 c.2.1 c.2.2)
theorem up4_same (f : Nat → Nat → Nat → Nat → Int32) (a b c d : Nat) (v : Int32) : up4 f a b c d v a b c d = v := by simp [up4]
theorem up4_ne {f : Nat → Nat → Nat → Nat → Int32} {a b c d a' b' c' d' : Nat} {v : Int32} (h : ¬ (a' = a ∧ b' = b ∧ c' = c ∧ d' = d)) : up4 f a b c d v a' b' c' d' = f a' b' c' d' := by simp [up4, h]
theorem fv_int {G : WT} {kd k i j : Nat} (h1 : ft kd k i j = none) (h2 : ks kd j = 0) (M : Mem) : fv G M kd k i j = .int (M.1 kd k i j) := by simp [fv, h1, h2, fs]
theorem fv_ref {G : WT} {kd k i j : Nat} {c : Nat × Nat × Nat} (h1 : ft kd k i j = some c) (M : Mem) : fv G M kd k i j = .ref (G.1 c.1 c.2.1 c.2.2) := by simp [fv, h1]
/-- two memories alike in a cell -/
def alikeAt (M M' : Mem) (kd k i : Nat) : Prop := (∀ j, M'.1 kd k i j = M.1 kd k i j) ∧ (∀ j, ks kd j = 1 → M'.2.1 = M.2.1) ∧ (∀ j, ks kd j = 2 → M'.2.2.1 = M.2.2.1) ∧ (∀ j, 3 ≤ ks kd j → M'.2.2.2 = M.2.2.2)
theorem fv_alike {G : WT} {M M' : Mem} {kd k i : Nat} (h : alikeAt M M' kd k i) (j : Nat) : fv G M' kd k i j = fv G M kd k i j := by
  obtain ⟨h0, h1, h2, h3⟩ := h
  unfold fv
  cases ft kd k i j with
  | some c => rfl
  | none =>
    show fs G M' (ks kd j) kd k i j = fs G M (ks kd j) kd k i j
    match e : ks kd j with
    | 0 => simp [fs, h0]
    | 1 => simp [fs, h0]
    | 2 => simp [fs, h2 j e]
    | n + 3 => simp [fs, h3 j (by omega)]
theorem wI_alike {M : Mem} {kd k i j : Nat} {v : Int32} {kd' k' i' : Nat} (h : ¬ (kd' = kd ∧ k' = k ∧ i' = i)) : alikeAt M (wI M kd k i j v) kd' k' i' :=
  ⟨fun j' => up4_ne (fun q => h ⟨q.1, q.2.1, q.2.2.1⟩), fun _ _ => rfl, fun _ _ => rfl, fun _ _ => rfl⟩
theorem Wc.kept {G : WT} {M M' : Mem} {H H1 : Heap} {kd k i : Nat} (h : Wc G M H kd k i) (hM : alikeAt M M' kd k i) (hH : H1[G.1 kd k i]? = H[G.1 kd k i]?) : Wc G M' H1 kd k i :=
  ⟨fun ci N hk => ((h.1 ci N hk).kept hH).to (fun j _ => (fv_alike hM j).symm), fun ti n hk => by
    rw [hH, h.2 ti n hk]
    congr 2
    funext j
    exact (fv_alike hM j).symm⟩
theorem Wd.kept {G : WT} {M : Mem} {H H1 : Heap} (h : Wd G M H) (hq : ∀ kd k i, G.2.2.2.1 kd k i → H1[G.1 kd k i]? = H[G.1 kd k i]?) : Wd G M H1 :=
  fun kd k i hd => (h kd k i hd).kept ⟨fun _ => rfl, fun _ _ => rfl, fun _ _ => rfl, fun _ _ => rfl⟩ (hq kd k i hd)
/-- one cell is written, all others stay -/
theorem Wd.set {G : WT} {M M' : Mem} {H H1 : Heap} {kd k i : Nat} (hA : Wa G) (h : Wd G M H) (hd : G.2.2.2.1 kd k i) (hM : ∀ kd' k' i', ¬ (kd' = kd ∧ k' = k ∧ i' = i) → alikeAt M M' kd' k' i') (hH : ∀ q, q ≠ G.1 kd k i → H1[q]? = H[q]?) (hc : Wc G M' H1 kd k i) : Wd G M' H1 := by
  intro kd' k' i' hd'
  by_cases e : kd' = kd ∧ k' = k ∧ i' = i
  · obtain ⟨rfl, rfl, rfl⟩ := e
    exact hc
  · exact (h kd' k' i' hd').kept (hM kd' k' i' e) (hH _ (fun q => e (hA.1 _ _ _ _ _ _ hd' hd q)))
theorem kc_ka {kd ci N : Nat} (h : kc kd = some (ci, N)) : ka kd = none := by
  unfold kc at h
  split at h <;> first | rfl | cases h
theorem ka_kc {kd ti n : Nat} (h : ka kd = some (ti, n)) : kc kd = none := by
  unfold ka at h
  split at h <;> first | rfl | cases h
theorem Wc.obj {G : WT} {M : Mem} {H : Heap} {kd k i ci N : Nat} (hk : kc kd = some (ci, N)) (h : t_OB (G.1 kd k i) (G.2.1.1 ci) N (G.2.1.2 ci) H (fun j => fv G M kd k i j)) : Wc G M H kd k i :=
  ⟨fun ci' N' hk' => by rw [hk] at hk'; cases hk'; exact h, fun ti n hk' => (nomatch ((kc_ka hk).symm.trans hk'))⟩
theorem Wc.arr {G : WT} {M : Mem} {H : Heap} {kd k i ti n : Nat} (hk : ka kd = some (ti, n)) (h : H[G.1 kd k i]? = some (arrV (G.2.2.1 ti) n (fun j => fv G M kd k i j))) : Wc G M H kd k i :=
  ⟨fun ci' N' hk' => (nomatch ((ka_kc hk).symm.trans hk')), fun ti' n' hk' => by rw [hk] at hk'; cases hk'; exact h⟩
/-- markers of the pictures: a value named, a check -/
def nm {α β : Type} (x : α) (f : α → β) : β := f x
def chk {α : Type} (b : Bool) (r : Option α) : Option α := if b then r else none
def inB (j : Int32) (n : Nat) : Bool := decide (0 ≤ j.toInt ∧ j.toInt < n)
theorem inB_in {j : Int32} {n : Nat} (h : inB j n = true) : vp_in j n := vp_in_iff.mpr (by simpa [inB] using h)
theorem chk_some {α : Type} {b : Bool} {r : Option α} {x : α} (h : chk b r = some x) : b = true ∧ r = some x := by
  unfold chk at h
  split at h
  · exact ⟨by assumption, h⟩
  · cases h
/-! the constants of the classes: what never changes in any heap of this claim (xo: Op's constants, 100 their row, 101 the switch's row; xs: strings; xv: their bytes) -/
def xLeast : List Int32 := [1, 0, 1, 0, 0, 0, 0, 0, 0, 0, 0]
def xMost : List Int32 := [20, 0, 200, 7, 7, 7, 9, 9, 9, 5, 5]
