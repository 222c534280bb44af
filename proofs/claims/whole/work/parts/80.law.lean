/-! The law in pure terms. -/
theorem zp_law (sc : am_S) (h : sc.1 ≤ 2048) : ∃ r : Int32 × am_Z × am_Z × (Nat → Int64) × am_H, fz_la_law_23 sc fz_fu (0 : Int32) zz_c0 zz_m0 (fun _ => 0) [] = some r ∧ r.1 = 1 ∧ r.2.2.2.2.length ≤ 512 ∧ am_sz r.2.2.2.2 ≤ 3072 := zl_law zc_W zc_R sc h
