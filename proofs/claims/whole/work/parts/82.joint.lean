/-! ===== from the born cells to the law's loop ===== -/
theorem c_law28 {K : KT} {h0 b N cs sl : Nat} {X : GX} {xs : Nat → Int32} (C : Cx K (GN h0 X) "PermitParkLaw" cL_law 10 (some FieldType.boolean)) (Y : Cy0 K) (hX : Lx K (GN h0 X) b N xs) (hN : N ≤ 2048) (hc : cs + 8 * (fu + 1) ≤ 601024) (hs : sl + 48 * (fu + 1) ≤ 7293034) : Rn K (GN h0 X) 10 cs sl (lw_Z K.2.2.2.2.2.2.2.1 #[Value.ref b] K.2.2.2.2.1) 28 [(0, .ref b), (1, .ref ((GN h0 X).1 0 0 0)), (2, .ref ((GN h0 X).1 19 0 0)), (3, .ref ((GN h0 X).1 30 0 0)), (4, .ref ((GN h0 X).1 31 0 0)), (5, .int 0)] [] Mst h0 (h0 + 218) [] := by
  obtain ⟨M', e⟩ := law_all (xs := xs) hN
  intro H locs ls hl hS hva
  refine lL_law_28 C Y hX w0_GN fu 0 Mst cs sl hc hs (show dmb 0 0 0 = true by decide) (show dmb 19 0 0 = true by decide) (show dmb 30 0 0 = true by decide) (show dmb 31 0 0 = true by decide) 1 M' e rfl H locs ls hl (fun kd k i hd => ?_) hva
  have hd2 : dmb kd k i = true := hd
  obtain ⟨a1, a2, a3⟩ := dmb_lt hd2
  have h2 := off_lt kd a1 k a2 i a3 hd2
  refine hS.2.2.2 kd k i hd ?_ ?_ (fun r hr => by cases hr)
  · show h0 ≤ h0 + off kd k i
    omega
  · show h0 + off kd k i < h0 + 218
    omega
