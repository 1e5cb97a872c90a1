/-! ===== the pure theorem: the law's loop, from what the constructors leave, ends with 1 ===== -/
theorem law_all {N : Nat} {xs : Nat → Int32} (hN : N ≤ 2048) : ∃ M', pL_law N xs fu 0 Mst = some (1, M') :=
  law_loop hN (fun _ _ hJ _ => call_load hJ) fu 0 0 Mst J_0 (by omega) (by omega) (by show N < 0 + 4 * 4096; omega)
