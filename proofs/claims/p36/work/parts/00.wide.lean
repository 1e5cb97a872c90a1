/-! ===== a name of the whole library: so a round is read over all of it from its first part on ===== -/
theorem zz_wide : True := (fun _ => trivial) (@FP.Core.i2d_fin)
