/-! small methods, by program out of the listing -/
abbrev mm_X4_isThing : MI := (RX4, cX4_isThing, 1, (some .boolean), ftp_X4.map (fun q => q.1), ctp_X4.map (fun q => q.1), clp_X4.map (fun q => q.1))
noncomputable def f_X4_isThing (a1 : Int32) (w : Mem) : Option (Int32 × Mem) := if a1 < 0 then (some (0, w)) else (if a1 < 16 then (some (1, w)) else (some (0, w)))
set_option maxRecDepth 100000 in
theorem t_X4_isThing (l : Launch) (X : XC) {N9 : Nat} (hN : 39 ≤ N9)  (a1 : Int32) (w : Mem) : Ct l X 0 yX4_isThing cX4_isThing 1 (some .boolean) emI [.inl a1] N9 flT w (f_X4_isThing a1 w) := by
  refine Ct_of (mi := mm_X4_isThing) (mik_X4 _ _ _) me_X4_isThing rfl (okAs_cons rfl okAs_nil) (Nat.le_of_ble_eq_true rfl) ?_
  unfold f_X4_isThing
  refine GE_run (flG_T hN) (pc1 := 1) (L1 := [some (.inl a1)]) (S1 := [.inl a1]) (w1 := w) (P := True) [(.iload_n 0, 0, 0, 0, 0)] (by decide +kernel) rfl trivial ?_
  refine GE_if (k := .lt) (off := 13) (tgt := 14) (by decide +kernel) (by decide) (cnd_lt _ _) (fun c1 => ?_) (fun c1 => ?_)
  · refine GE_run (flG_T hN) (pc1 := 15) (L1 := [some (.inl a1)]) (S1 := [.inl 0]) (w1 := w) (P := True) [(.iconst 0, 0, 0, 0, 0)] (by decide +kernel) rfl trivial ?_
    exact GE_zret (ty := .boolean) rfl (by decide +kernel) (by decide +kernel)
  · refine GE_run (flG_T hN) (pc1 := 7) (L1 := [some (.inl a1)]) (S1 := [.inl 16, .inl a1]) (w1 := w) (P := True) [(.iload_n 0, 0, 0, 0, 0), (.bipush 16, 0, 0, 16, 0)] (by decide +kernel) rfl trivial ?_
    refine GE_icmpN (k := .ge) (off := 7) (tgt := 14) (by decide +kernel) (by decide) (cnd_ge _ _) (fun c2 => ?_) (fun c2 => ?_)
    · refine GE_run (flG_T hN) (pc1 := 15) (L1 := [some (.inl a1)]) (S1 := [.inl 0]) (w1 := w) (P := True) [(.iconst 0, 0, 0, 0, 0)] (by decide +kernel) rfl trivial ?_
      exact GE_zret (ty := .boolean) rfl (by decide +kernel) (by decide +kernel)
    · refine GE_run (flG_T hN) (pc1 := 15) (L1 := [some (.inl a1)]) (S1 := [.inl 1]) (w1 := w) (P := True) [(.iconst 1, 0, 0, 1, 0), (.goto 4, 0, 0, 0, 0)] (by decide +kernel) rfl trivial ?_
      exact GE_zret (ty := .boolean) rfl (by decide +kernel) (by decide +kernel)
abbrev mm_X4_isSet : MI := (RX4, cX4_isSet, 1, (some .boolean), ftp_X4.map (fun q => q.1), ctp_X4.map (fun q => q.1), clp_X4.map (fun q => q.1))
noncomputable def f_X4_isSet (a1 : Int32) (w : Mem) : Option (Int32 × Mem) := if a1 < 0 then (some (0, w)) else (if a1 ≤ 65535 then (some (1, w)) else (some (0, w)))
set_option maxRecDepth 100000 in
theorem t_X4_isSet (l : Launch) (X : XC) {N9 : Nat} (hN : 39 ≤ N9)  (a1 : Int32) (w : Mem) : Ct l X 0 yX4_isSet cX4_isSet 1 (some .boolean) emI [.inl a1] N9 flT w (f_X4_isSet a1 w) := by
  refine Ct_of (mi := mm_X4_isSet) (mik_X4 _ _ _) me_X4_isSet rfl (okAs_cons rfl okAs_nil) (Nat.le_of_ble_eq_true rfl) ?_
  unfold f_X4_isSet
  refine GE_run (flG_T hN) (pc1 := 1) (L1 := [some (.inl a1)]) (S1 := [.inl a1]) (w1 := w) (P := True) [(.iload_n 0, 0, 0, 0, 0)] (by decide +kernel) rfl trivial ?_
  refine GE_if (k := .lt) (off := 13) (tgt := 14) (by decide +kernel) (by decide) (cnd_lt _ _) (fun c1 => ?_) (fun c1 => ?_)
  · refine GE_run (flG_T hN) (pc1 := 15) (L1 := [some (.inl a1)]) (S1 := [.inl 0]) (w1 := w) (P := True) [(.iconst 0, 0, 0, 0, 0)] (by decide +kernel) rfl trivial ?_
    exact GE_zret (ty := .boolean) rfl (by decide +kernel) (by decide +kernel)
  · refine GE_run (flG_T hN) (pc1 := 7) (L1 := [some (.inl a1)]) (S1 := [.inl 65535, .inl a1]) (w1 := w) (P := True) [(.iload_n 0, 0, 0, 0, 0), (.ldc 156, 0, 0, 65535, 0)] (by decide +kernel) rfl trivial ?_
    refine GE_icmpN (k := .gt) (off := 7) (tgt := 14) (by decide +kernel) (by decide) (cnd_gt _ _) (fun c2 => ?_) (fun c2 => ?_)
    · refine GE_run (flG_T hN) (pc1 := 15) (L1 := [some (.inl a1)]) (S1 := [.inl 0]) (w1 := w) (P := True) [(.iconst 0, 0, 0, 0, 0)] (by decide +kernel) rfl trivial ?_
      exact GE_zret (ty := .boolean) rfl (by decide +kernel) (by decide +kernel)
    · refine GE_run (flG_T hN) (pc1 := 15) (L1 := [some (.inl a1)]) (S1 := [.inl 1]) (w1 := w) (P := True) [(.iconst 1, 0, 0, 1, 0), (.goto 4, 0, 0, 0, 0)] (by decide +kernel) rfl trivial ?_
      exact GE_zret (ty := .boolean) rfl (by decide +kernel) (by decide +kernel)
abbrev mm_X4_isByte : MI := (RX4, cX4_isByte, 1, (some .boolean), ftp_X4.map (fun q => q.1), ctp_X4.map (fun q => q.1), clp_X4.map (fun q => q.1))
noncomputable def f_X4_isByte (a1 : Int32) (w : Mem) : Option (Int32 × Mem) := if a1 < 0 then (some (0, w)) else (if a1 ≤ 255 then (some (1, w)) else (some (0, w)))
set_option maxRecDepth 100000 in
theorem t_X4_isByte (l : Launch) (X : XC) {N9 : Nat} (hN : 39 ≤ N9)  (a1 : Int32) (w : Mem) : Ct l X 0 yX4_isByte cX4_isByte 1 (some .boolean) emI [.inl a1] N9 flT w (f_X4_isByte a1 w) := by
  refine Ct_of (mi := mm_X4_isByte) (mik_X4 _ _ _) me_X4_isByte rfl (okAs_cons rfl okAs_nil) (Nat.le_of_ble_eq_true rfl) ?_
  unfold f_X4_isByte
  refine GE_run (flG_T hN) (pc1 := 1) (L1 := [some (.inl a1)]) (S1 := [.inl a1]) (w1 := w) (P := True) [(.iload_n 0, 0, 0, 0, 0)] (by decide +kernel) rfl trivial ?_
  refine GE_if (k := .lt) (off := 14) (tgt := 15) (by decide +kernel) (by decide) (cnd_lt _ _) (fun c1 => ?_) (fun c1 => ?_)
  · refine GE_run (flG_T hN) (pc1 := 16) (L1 := [some (.inl a1)]) (S1 := [.inl 0]) (w1 := w) (P := True) [(.iconst 0, 0, 0, 0, 0)] (by decide +kernel) rfl trivial ?_
    exact GE_zret (ty := .boolean) rfl (by decide +kernel) (by decide +kernel)
  · refine GE_run (flG_T hN) (pc1 := 8) (L1 := [some (.inl a1)]) (S1 := [.inl 255, .inl a1]) (w1 := w) (P := True) [(.iload_n 0, 0, 0, 0, 0), (.sipush 255, 0, 0, 255, 0)] (by decide +kernel) rfl trivial ?_
    refine GE_icmpN (k := .gt) (off := 7) (tgt := 15) (by decide +kernel) (by decide) (cnd_gt _ _) (fun c2 => ?_) (fun c2 => ?_)
    · refine GE_run (flG_T hN) (pc1 := 16) (L1 := [some (.inl a1)]) (S1 := [.inl 0]) (w1 := w) (P := True) [(.iconst 0, 0, 0, 0, 0)] (by decide +kernel) rfl trivial ?_
      exact GE_zret (ty := .boolean) rfl (by decide +kernel) (by decide +kernel)
    · refine GE_run (flG_T hN) (pc1 := 16) (L1 := [some (.inl a1)]) (S1 := [.inl 1]) (w1 := w) (P := True) [(.iconst 1, 0, 0, 1, 0), (.goto 4, 0, 0, 0, 0)] (by decide +kernel) rfl trivial ?_
      exact GE_zret (ty := .boolean) rfl (by decide +kernel) (by decide +kernel)
abbrev mm_X4_holds : MI := (RX4, cX4_holds, 2, (some .boolean), ftp_X4.map (fun q => q.1), ctp_X4.map (fun q => q.1), clp_X4.map (fun q => q.1))
noncomputable def f_X4_holds (a1 : Int32) (a2 : Int32) (w : Mem) : Option (Int32 × Mem) := if a2 < 0 then (some (0, w)) else (if a2 < 16 then (if ((shrI a1 a2) &&& 1) = 1 then (some (1, w)) else (some (0, w))) else (some (0, w)))
set_option maxRecDepth 100000 in
theorem t_X4_holds (l : Launch) (X : XC) {N9 : Nat} (hN : 39 ≤ N9)  (a1 : Int32) (a2 : Int32) (w : Mem) : Ct l X 0 yX4_holds cX4_holds 2 (some .boolean) emI [.inl a1, .inl a2] N9 flT w (f_X4_holds a1 a2 w) := by
  refine Ct_of (mi := mm_X4_holds) (mik_X4 _ _ _) me_X4_holds rfl (okAs_cons rfl (okAs_cons rfl okAs_nil)) (Nat.le_of_ble_eq_true rfl) ?_
  unfold f_X4_holds
  refine GE_run (flG_T hN) (pc1 := 1) (L1 := [some (.inl a1), some (.inl a2)]) (S1 := [.inl a2]) (w1 := w) (P := True) [(.iload_n 1, 0, 0, 0, 0)] (by decide +kernel) rfl trivial ?_
  refine GE_if (k := .lt) (off := 22) (tgt := 23) (by decide +kernel) (by decide) (cnd_lt _ _) (fun c1 => ?_) (fun c1 => ?_)
  · refine GE_run (flG_T hN) (pc1 := 24) (L1 := [some (.inl a1), some (.inl a2)]) (S1 := [.inl 0]) (w1 := w) (P := True) [(.iconst 0, 0, 0, 0, 0)] (by decide +kernel) rfl trivial ?_
    exact GE_zret (ty := .boolean) rfl (by decide +kernel) (by decide +kernel)
  · refine GE_run (flG_T hN) (pc1 := 7) (L1 := [some (.inl a1), some (.inl a2)]) (S1 := [.inl 16, .inl a2]) (w1 := w) (P := True) [(.iload_n 1, 0, 0, 0, 0), (.bipush 16, 0, 0, 16, 0)] (by decide +kernel) rfl trivial ?_
    refine GE_icmpN (k := .ge) (off := 16) (tgt := 23) (by decide +kernel) (by decide) (cnd_ge _ _) (fun c2 => ?_) (fun c2 => ?_)
    · refine GE_run (flG_T hN) (pc1 := 24) (L1 := [some (.inl a1), some (.inl a2)]) (S1 := [.inl 0]) (w1 := w) (P := True) [(.iconst 0, 0, 0, 0, 0)] (by decide +kernel) rfl trivial ?_
      exact GE_zret (ty := .boolean) rfl (by decide +kernel) (by decide +kernel)
    · refine GE_run (flG_T hN) (pc1 := 16) (L1 := [some (.inl a1), some (.inl a2)]) (S1 := [.inl 1, .inl ((shrI a1 a2) &&& 1)]) (w1 := w) (P := True) [(.iload_n 0, 0, 0, 0, 0), (.iload_n 1, 0, 0, 0, 0), (.ishr, 0, 0, 0, 0), (.iconst 1, 0, 0, 1, 0), (.iand, 0, 0, 0, 0), (.iconst 1, 0, 0, 1, 0)] (by decide +kernel) rfl trivial ?_
      refine GE_icmpN (k := .ne) (off := 7) (tgt := 23) (by decide +kernel) (by decide) (cnd_ne _ _) (fun c3 => ?_) (fun c3 => ?_)
      · refine GE_run (flG_T hN) (pc1 := 24) (L1 := [some (.inl a1), some (.inl a2)]) (S1 := [.inl 0]) (w1 := w) (P := True) [(.iconst 0, 0, 0, 0, 0)] (by decide +kernel) rfl trivial ?_
        exact GE_zret (ty := .boolean) rfl (by decide +kernel) (by decide +kernel)
      · refine GE_run (flG_T hN) (pc1 := 24) (L1 := [some (.inl a1), some (.inl a2)]) (S1 := [.inl 1]) (w1 := w) (P := True) [(.iconst 1, 0, 0, 1, 0), (.goto 4, 0, 0, 0, 0)] (by decide +kernel) rfl trivial ?_
        exact GE_zret (ty := .boolean) rfl (by decide +kernel) (by decide +kernel)
abbrev mm_X4_bounded : MI := (RX4, cX4_bounded, 3, (some .int), ftp_X4.map (fun q => q.1), ctp_X4.map (fun q => q.1), clp_X4.map (fun q => q.1))
noncomputable def f_X4_bounded (a1 : Int32) (a2 : Int32) (a3 : Int32) (w : Mem) : Option (Int32 × Mem) := if a1 < a2 then (some (a2, w)) else (if a1 ≤ a3 then (some (a1, w)) else (some (a3, w)))
set_option maxRecDepth 100000 in
theorem t_X4_bounded (l : Launch) (X : XC) {N9 : Nat} (hN : 39 ≤ N9)  (a1 : Int32) (a2 : Int32) (a3 : Int32) (w : Mem) : Ct l X 0 yX4_bounded cX4_bounded 3 (some .int) emI [.inl a1, .inl a2, .inl a3] N9 flT w (f_X4_bounded a1 a2 a3 w) := by
  refine Ct_of (mi := mm_X4_bounded) (mik_X4 _ _ _) me_X4_bounded rfl (okAs_cons rfl (okAs_cons rfl (okAs_cons rfl okAs_nil))) (Nat.le_of_ble_eq_true rfl) ?_
  unfold f_X4_bounded
  refine GE_run (flG_T hN) (pc1 := 2) (L1 := [some (.inl a1), some (.inl a2), some (.inl a3)]) (S1 := [.inl a2, .inl a1]) (w1 := w) (P := True) [(.iload_n 0, 0, 0, 0, 0), (.iload_n 1, 0, 0, 0, 0)] (by decide +kernel) rfl trivial ?_
  refine GE_icmpN (k := .ge) (off := 7) (tgt := 9) (by decide +kernel) (by decide) (cnd_ge _ _) (fun c1 => ?_) (fun c1 => ?_)
  · refine GE_run (flG_T hN) (pc1 := 11) (L1 := [some (.inl a1), some (.inl a2), some (.inl a3)]) (S1 := [.inl a3, .inl a1]) (w1 := w) (P := True) [(.iload_n 0, 0, 0, 0, 0), (.iload_n 2, 0, 0, 0, 0)] (by decide +kernel) rfl trivial ?_
    refine GE_icmp (k := .le) (off := 7) (tgt := 18) (by decide +kernel) (by decide) (cnd_le _ _) (fun c2 => ?_) (fun c2 => ?_)
    · refine GE_run (flG_T hN) (pc1 := 19) (L1 := [some (.inl a1), some (.inl a2), some (.inl a3)]) (S1 := [.inl a1]) (w1 := w) (P := True) [(.iload_n 0, 0, 0, 0, 0)] (by decide +kernel) rfl trivial ?_
      exact GE_iret rfl (by decide +kernel)
    · refine GE_run (flG_T hN) (pc1 := 19) (L1 := [some (.inl a1), some (.inl a2), some (.inl a3)]) (S1 := [.inl a3]) (w1 := w) (P := True) [(.iload_n 2, 0, 0, 0, 0), (.goto 4, 0, 0, 0, 0)] (by decide +kernel) rfl trivial ?_
      exact GE_iret rfl (by decide +kernel)
  · refine GE_run (flG_T hN) (pc1 := 19) (L1 := [some (.inl a1), some (.inl a2), some (.inl a3)]) (S1 := [.inl a2]) (w1 := w) (P := True) [(.iload_n 1, 0, 0, 0, 0), (.goto 13, 0, 0, 0, 0)] (by decide +kernel) rfl trivial ?_
    exact GE_iret rfl (by decide +kernel)
