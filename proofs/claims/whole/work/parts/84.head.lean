/-! ===== the law's start, what the world is being given ===== -/
theorem whole_ws {p : Program} {e : Env} {s : State} {m : MethodId} {below : List Frame} {meth : Method} {c : Code} (l : Launch) {b L : Nat} {xs : Nat → Int32} {X : GX} (hL : L ≤ 2048) (C0 : lw_At p s m meth c b L xs) (hcode : cL_law = code) (hret : ret = some FieldType.boolean) (htb : ∀ w ∈ tblG, w.before #[Value.ref b] s = true) (hWs : Ws (GN s.heap.size X) s) (hAO : AOs s) (hY : Cy0 (p, l, e, room_1, s, m, #[Value.ref b], below, meth, c)) : W p l e room_1 s m #[Value.ref b] below meth c s.heap [] 0 0 (lw_Z below #[Value.ref b] s) (entryFrame m ([Value.ref b] : List Value).toArray 10) := by
  obtain ⟨a1, a2, a3, a4, a5, a6, a7, a8, a9, a10⟩ := C0
  have hl := lv_entry [Value.ref b] (n := 10) (show 1 ≤ 10 by omega)
  rw [lg_entry_eq]
  refine c_law0 (K := (p, l, e, room_1, s, m, #[Value.ref b], below, meth, c)) (X := X) (h0 := s.heap.size) ⟨a1, a2.trans hcode.symm, a4, a5, htb, hWs, a9, a3.trans hret⟩ hY ⟨rfl, rfl, a7, a8, fun q hq => hq⟩ hL hAO s.heap [] _ hl ⟨rfl, fun r hr => (by cases hr), List.nodup_nil, fun kd k i hd h1 h2 _ => ?_⟩ va_S.rf
  exact absurd h2 (by omega)
