/-! small methods, by program out of the listing -/
abbrev mm_X4_isThing : MI := (RX4, cX4_isThing, 1, (some .boolean), ftp_X4.map (fun q => q.1), ctp_X4.map (fun q => q.1), clp_X4.map (fun q => q.1))
noncomputable def f_X4_isThing (a1 : Int32) (w : Mem) : Option (Int32 × Mem) := if a1 < 0 then (some (0, w)) else (if a1 < 16 then (some (1, w)) else (some (0, w)))
set_option maxRecDepth 100000 in
theorem t_X4_isThing (l : Launch) (X : XC)  (a1 : Int32) (w : Mem) : Ct l X 0 yX4_isThing cX4_isThing 1 (some .boolean) emI [.inl a1] 57 flT w (f_X4_isThing a1 w) := by
  refine Ct_of (mi := mm_X4_isThing) (mik_X4 _ _ _) me_X4_isThing rfl (okAs_cons rfl okAs_nil) (Nat.le_of_ble_eq_true rfl) ?_
  unfold f_X4_isThing
  refine GE_run flG_T (pc1 := 1) (L1 := [some (.inl a1)]) (S1 := [.inl a1]) (w1 := w) (P := True) [(.iload_n 0, 0, 0, 0, 0)] (by decide +kernel) rfl trivial ?_
  refine GE_if (k := .lt) (off := 13) (tgt := 14) (by decide +kernel) (by decide) (cnd_lt _ _) (fun c1 => ?_) (fun c1 => ?_)
  · refine GE_run flG_T (pc1 := 15) (L1 := [some (.inl a1)]) (S1 := [.inl 0]) (w1 := w) (P := True) [(.iconst 0, 0, 0, 0, 0)] (by decide +kernel) rfl trivial ?_
    exact GE_zret (ty := .boolean) rfl (by decide +kernel) (by decide +kernel)
  · refine GE_run flG_T (pc1 := 7) (L1 := [some (.inl a1)]) (S1 := [.inl 16, .inl a1]) (w1 := w) (P := True) [(.iload_n 0, 0, 0, 0, 0), (.bipush 16, 0, 0, 16, 0)] (by decide +kernel) rfl trivial ?_
    refine GE_icmpN (k := .ge) (off := 7) (tgt := 14) (by decide +kernel) (by decide) (cnd_ge _ _) (fun c2 => ?_) (fun c2 => ?_)
    · refine GE_run flG_T (pc1 := 15) (L1 := [some (.inl a1)]) (S1 := [.inl 0]) (w1 := w) (P := True) [(.iconst 0, 0, 0, 0, 0)] (by decide +kernel) rfl trivial ?_
      exact GE_zret (ty := .boolean) rfl (by decide +kernel) (by decide +kernel)
    · refine GE_run flG_T (pc1 := 15) (L1 := [some (.inl a1)]) (S1 := [.inl 1]) (w1 := w) (P := True) [(.iconst 1, 0, 0, 1, 0), (.goto 4, 0, 0, 0, 0)] (by decide +kernel) rfl trivial ?_
      exact GE_zret (ty := .boolean) rfl (by decide +kernel) (by decide +kernel)
abbrev mm_X4_isSet : MI := (RX4, cX4_isSet, 1, (some .boolean), ftp_X4.map (fun q => q.1), ctp_X4.map (fun q => q.1), clp_X4.map (fun q => q.1))
noncomputable def f_X4_isSet (a1 : Int32) (w : Mem) : Option (Int32 × Mem) := if a1 < 0 then (some (0, w)) else (if a1 ≤ 65535 then (some (1, w)) else (some (0, w)))
set_option maxRecDepth 100000 in
theorem t_X4_isSet (l : Launch) (X : XC)  (a1 : Int32) (w : Mem) : Ct l X 0 yX4_isSet cX4_isSet 1 (some .boolean) emI [.inl a1] 57 flT w (f_X4_isSet a1 w) := by
  refine Ct_of (mi := mm_X4_isSet) (mik_X4 _ _ _) me_X4_isSet rfl (okAs_cons rfl okAs_nil) (Nat.le_of_ble_eq_true rfl) ?_
  unfold f_X4_isSet
  refine GE_run flG_T (pc1 := 1) (L1 := [some (.inl a1)]) (S1 := [.inl a1]) (w1 := w) (P := True) [(.iload_n 0, 0, 0, 0, 0)] (by decide +kernel) rfl trivial ?_
  refine GE_if (k := .lt) (off := 13) (tgt := 14) (by decide +kernel) (by decide) (cnd_lt _ _) (fun c1 => ?_) (fun c1 => ?_)
  · refine GE_run flG_T (pc1 := 15) (L1 := [some (.inl a1)]) (S1 := [.inl 0]) (w1 := w) (P := True) [(.iconst 0, 0, 0, 0, 0)] (by decide +kernel) rfl trivial ?_
    exact GE_zret (ty := .boolean) rfl (by decide +kernel) (by decide +kernel)
  · refine GE_run flG_T (pc1 := 7) (L1 := [some (.inl a1)]) (S1 := [.inl 65535, .inl a1]) (w1 := w) (P := True) [(.iload_n 0, 0, 0, 0, 0), (.ldc 156, 0, 0, 65535, 0)] (by decide +kernel) rfl trivial ?_
    refine GE_icmpN (k := .gt) (off := 7) (tgt := 14) (by decide +kernel) (by decide) (cnd_gt _ _) (fun c2 => ?_) (fun c2 => ?_)
    · refine GE_run flG_T (pc1 := 15) (L1 := [some (.inl a1)]) (S1 := [.inl 0]) (w1 := w) (P := True) [(.iconst 0, 0, 0, 0, 0)] (by decide +kernel) rfl trivial ?_
      exact GE_zret (ty := .boolean) rfl (by decide +kernel) (by decide +kernel)
    · refine GE_run flG_T (pc1 := 15) (L1 := [some (.inl a1)]) (S1 := [.inl 1]) (w1 := w) (P := True) [(.iconst 1, 0, 0, 1, 0), (.goto 4, 0, 0, 0, 0)] (by decide +kernel) rfl trivial ?_
      exact GE_zret (ty := .boolean) rfl (by decide +kernel) (by decide +kernel)
abbrev mm_X4_isByte : MI := (RX4, cX4_isByte, 1, (some .boolean), ftp_X4.map (fun q => q.1), ctp_X4.map (fun q => q.1), clp_X4.map (fun q => q.1))
noncomputable def f_X4_isByte (a1 : Int32) (w : Mem) : Option (Int32 × Mem) := if a1 < 0 then (some (0, w)) else (if a1 ≤ 255 then (some (1, w)) else (some (0, w)))
set_option maxRecDepth 100000 in
theorem t_X4_isByte (l : Launch) (X : XC)  (a1 : Int32) (w : Mem) : Ct l X 0 yX4_isByte cX4_isByte 1 (some .boolean) emI [.inl a1] 57 flT w (f_X4_isByte a1 w) := by
  refine Ct_of (mi := mm_X4_isByte) (mik_X4 _ _ _) me_X4_isByte rfl (okAs_cons rfl okAs_nil) (Nat.le_of_ble_eq_true rfl) ?_
  unfold f_X4_isByte
  refine GE_run flG_T (pc1 := 1) (L1 := [some (.inl a1)]) (S1 := [.inl a1]) (w1 := w) (P := True) [(.iload_n 0, 0, 0, 0, 0)] (by decide +kernel) rfl trivial ?_
  refine GE_if (k := .lt) (off := 14) (tgt := 15) (by decide +kernel) (by decide) (cnd_lt _ _) (fun c1 => ?_) (fun c1 => ?_)
  · refine GE_run flG_T (pc1 := 16) (L1 := [some (.inl a1)]) (S1 := [.inl 0]) (w1 := w) (P := True) [(.iconst 0, 0, 0, 0, 0)] (by decide +kernel) rfl trivial ?_
    exact GE_zret (ty := .boolean) rfl (by decide +kernel) (by decide +kernel)
  · refine GE_run flG_T (pc1 := 8) (L1 := [some (.inl a1)]) (S1 := [.inl 255, .inl a1]) (w1 := w) (P := True) [(.iload_n 0, 0, 0, 0, 0), (.sipush 255, 0, 0, 255, 0)] (by decide +kernel) rfl trivial ?_
    refine GE_icmpN (k := .gt) (off := 7) (tgt := 15) (by decide +kernel) (by decide) (cnd_gt _ _) (fun c2 => ?_) (fun c2 => ?_)
    · refine GE_run flG_T (pc1 := 16) (L1 := [some (.inl a1)]) (S1 := [.inl 0]) (w1 := w) (P := True) [(.iconst 0, 0, 0, 0, 0)] (by decide +kernel) rfl trivial ?_
      exact GE_zret (ty := .boolean) rfl (by decide +kernel) (by decide +kernel)
    · refine GE_run flG_T (pc1 := 16) (L1 := [some (.inl a1)]) (S1 := [.inl 1]) (w1 := w) (P := True) [(.iconst 1, 0, 0, 1, 0), (.goto 4, 0, 0, 0, 0)] (by decide +kernel) rfl trivial ?_
      exact GE_zret (ty := .boolean) rfl (by decide +kernel) (by decide +kernel)
abbrev mm_X4_isSeed : MI := (RX4, cX4_isSeed, 1, (some .boolean), ftp_X4.map (fun q => q.1), ctp_X4.map (fun q => q.1), clp_X4.map (fun q => q.1))
noncomputable def f_X4_isSeed (a1 : Int32) (w : Mem) : Option (Int32 × Mem) := if a1 < 0 then (some (0, w)) else (if a1 ≤ 99999 then (some (1, w)) else (some (0, w)))
set_option maxRecDepth 100000 in
theorem t_X4_isSeed (l : Launch) (X : XC)  (a1 : Int32) (w : Mem) : Ct l X 0 yX4_isSeed cX4_isSeed 1 (some .boolean) emI [.inl a1] 57 flT w (f_X4_isSeed a1 w) := by
  refine Ct_of (mi := mm_X4_isSeed) (mik_X4 _ _ _) me_X4_isSeed rfl (okAs_cons rfl okAs_nil) (Nat.le_of_ble_eq_true rfl) ?_
  unfold f_X4_isSeed
  refine GE_run flG_T (pc1 := 1) (L1 := [some (.inl a1)]) (S1 := [.inl a1]) (w1 := w) (P := True) [(.iload_n 0, 0, 0, 0, 0)] (by decide +kernel) rfl trivial ?_
  refine GE_if (k := .lt) (off := 14) (tgt := 15) (by decide +kernel) (by decide) (cnd_lt _ _) (fun c1 => ?_) (fun c1 => ?_)
  · refine GE_run flG_T (pc1 := 16) (L1 := [some (.inl a1)]) (S1 := [.inl 0]) (w1 := w) (P := True) [(.iconst 0, 0, 0, 0, 0)] (by decide +kernel) rfl trivial ?_
    exact GE_zret (ty := .boolean) rfl (by decide +kernel) (by decide +kernel)
  · refine GE_run flG_T (pc1 := 8) (L1 := [some (.inl a1)]) (S1 := [.inl 99999, .inl a1]) (w1 := w) (P := True) [(.iload_n 0, 0, 0, 0, 0), (.ldc_w 256, 0, 0, 99999, 0)] (by decide +kernel) rfl trivial ?_
    refine GE_icmpN (k := .gt) (off := 7) (tgt := 15) (by decide +kernel) (by decide) (cnd_gt _ _) (fun c2 => ?_) (fun c2 => ?_)
    · refine GE_run flG_T (pc1 := 16) (L1 := [some (.inl a1)]) (S1 := [.inl 0]) (w1 := w) (P := True) [(.iconst 0, 0, 0, 0, 0)] (by decide +kernel) rfl trivial ?_
      exact GE_zret (ty := .boolean) rfl (by decide +kernel) (by decide +kernel)
    · refine GE_run flG_T (pc1 := 16) (L1 := [some (.inl a1)]) (S1 := [.inl 1]) (w1 := w) (P := True) [(.iconst 1, 0, 0, 1, 0), (.goto 4, 0, 0, 0, 0)] (by decide +kernel) rfl trivial ?_
      exact GE_zret (ty := .boolean) rfl (by decide +kernel) (by decide +kernel)
abbrev mm_X4_holds : MI := (RX4, cX4_holds, 2, (some .boolean), ftp_X4.map (fun q => q.1), ctp_X4.map (fun q => q.1), clp_X4.map (fun q => q.1))
noncomputable def f_X4_holds (a1 : Int32) (a2 : Int32) (w : Mem) : Option (Int32 × Mem) := if a2 < 0 then (some (0, w)) else (if a2 < 16 then (if ((shrI a1 a2) &&& 1) = 1 then (some (1, w)) else (some (0, w))) else (some (0, w)))
set_option maxRecDepth 100000 in
theorem t_X4_holds (l : Launch) (X : XC)  (a1 : Int32) (a2 : Int32) (w : Mem) : Ct l X 0 yX4_holds cX4_holds 2 (some .boolean) emI [.inl a1, .inl a2] 57 flT w (f_X4_holds a1 a2 w) := by
  refine Ct_of (mi := mm_X4_holds) (mik_X4 _ _ _) me_X4_holds rfl (okAs_cons rfl (okAs_cons rfl okAs_nil)) (Nat.le_of_ble_eq_true rfl) ?_
  unfold f_X4_holds
  refine GE_run flG_T (pc1 := 1) (L1 := [some (.inl a1), some (.inl a2)]) (S1 := [.inl a2]) (w1 := w) (P := True) [(.iload_n 1, 0, 0, 0, 0)] (by decide +kernel) rfl trivial ?_
  refine GE_if (k := .lt) (off := 22) (tgt := 23) (by decide +kernel) (by decide) (cnd_lt _ _) (fun c1 => ?_) (fun c1 => ?_)
  · refine GE_run flG_T (pc1 := 24) (L1 := [some (.inl a1), some (.inl a2)]) (S1 := [.inl 0]) (w1 := w) (P := True) [(.iconst 0, 0, 0, 0, 0)] (by decide +kernel) rfl trivial ?_
    exact GE_zret (ty := .boolean) rfl (by decide +kernel) (by decide +kernel)
  · refine GE_run flG_T (pc1 := 7) (L1 := [some (.inl a1), some (.inl a2)]) (S1 := [.inl 16, .inl a2]) (w1 := w) (P := True) [(.iload_n 1, 0, 0, 0, 0), (.bipush 16, 0, 0, 16, 0)] (by decide +kernel) rfl trivial ?_
    refine GE_icmpN (k := .ge) (off := 16) (tgt := 23) (by decide +kernel) (by decide) (cnd_ge _ _) (fun c2 => ?_) (fun c2 => ?_)
    · refine GE_run flG_T (pc1 := 24) (L1 := [some (.inl a1), some (.inl a2)]) (S1 := [.inl 0]) (w1 := w) (P := True) [(.iconst 0, 0, 0, 0, 0)] (by decide +kernel) rfl trivial ?_
      exact GE_zret (ty := .boolean) rfl (by decide +kernel) (by decide +kernel)
    · refine GE_run flG_T (pc1 := 16) (L1 := [some (.inl a1), some (.inl a2)]) (S1 := [.inl 1, .inl ((shrI a1 a2) &&& 1)]) (w1 := w) (P := True) [(.iload_n 0, 0, 0, 0, 0), (.iload_n 1, 0, 0, 0, 0), (.ishr, 0, 0, 0, 0), (.iconst 1, 0, 0, 1, 0), (.iand, 0, 0, 0, 0), (.iconst 1, 0, 0, 1, 0)] (by decide +kernel) rfl trivial ?_
      refine GE_icmpN (k := .ne) (off := 7) (tgt := 23) (by decide +kernel) (by decide) (cnd_ne _ _) (fun c3 => ?_) (fun c3 => ?_)
      · refine GE_run flG_T (pc1 := 24) (L1 := [some (.inl a1), some (.inl a2)]) (S1 := [.inl 0]) (w1 := w) (P := True) [(.iconst 0, 0, 0, 0, 0)] (by decide +kernel) rfl trivial ?_
        exact GE_zret (ty := .boolean) rfl (by decide +kernel) (by decide +kernel)
      · refine GE_run flG_T (pc1 := 24) (L1 := [some (.inl a1), some (.inl a2)]) (S1 := [.inl 1]) (w1 := w) (P := True) [(.iconst 1, 0, 0, 1, 0), (.goto 4, 0, 0, 0, 0)] (by decide +kernel) rfl trivial ?_
        exact GE_zret (ty := .boolean) rfl (by decide +kernel) (by decide +kernel)
abbrev mm_X4_bounded : MI := (RX4, cX4_bounded, 3, (some .int), ftp_X4.map (fun q => q.1), ctp_X4.map (fun q => q.1), clp_X4.map (fun q => q.1))
noncomputable def f_X4_bounded (a1 : Int32) (a2 : Int32) (a3 : Int32) (w : Mem) : Option (Int32 × Mem) := if a1 < a2 then (some (a2, w)) else (if a1 ≤ a3 then (some (a1, w)) else (some (a3, w)))
set_option maxRecDepth 100000 in
theorem t_X4_bounded (l : Launch) (X : XC)  (a1 : Int32) (a2 : Int32) (a3 : Int32) (w : Mem) : Ct l X 0 yX4_bounded cX4_bounded 3 (some .int) emI [.inl a1, .inl a2, .inl a3] 57 flT w (f_X4_bounded a1 a2 a3 w) := by
  refine Ct_of (mi := mm_X4_bounded) (mik_X4 _ _ _) me_X4_bounded rfl (okAs_cons rfl (okAs_cons rfl (okAs_cons rfl okAs_nil))) (Nat.le_of_ble_eq_true rfl) ?_
  unfold f_X4_bounded
  refine GE_run flG_T (pc1 := 2) (L1 := [some (.inl a1), some (.inl a2), some (.inl a3)]) (S1 := [.inl a2, .inl a1]) (w1 := w) (P := True) [(.iload_n 0, 0, 0, 0, 0), (.iload_n 1, 0, 0, 0, 0)] (by decide +kernel) rfl trivial ?_
  refine GE_icmpN (k := .ge) (off := 7) (tgt := 9) (by decide +kernel) (by decide) (cnd_ge _ _) (fun c1 => ?_) (fun c1 => ?_)
  · refine GE_run flG_T (pc1 := 11) (L1 := [some (.inl a1), some (.inl a2), some (.inl a3)]) (S1 := [.inl a3, .inl a1]) (w1 := w) (P := True) [(.iload_n 0, 0, 0, 0, 0), (.iload_n 2, 0, 0, 0, 0)] (by decide +kernel) rfl trivial ?_
    refine GE_icmp (k := .le) (off := 7) (tgt := 18) (by decide +kernel) (by decide) (cnd_le _ _) (fun c2 => ?_) (fun c2 => ?_)
    · refine GE_run flG_T (pc1 := 19) (L1 := [some (.inl a1), some (.inl a2), some (.inl a3)]) (S1 := [.inl a1]) (w1 := w) (P := True) [(.iload_n 0, 0, 0, 0, 0)] (by decide +kernel) rfl trivial ?_
      exact GE_iret rfl (by decide +kernel)
    · refine GE_run flG_T (pc1 := 19) (L1 := [some (.inl a1), some (.inl a2), some (.inl a3)]) (S1 := [.inl a3]) (w1 := w) (P := True) [(.iload_n 2, 0, 0, 0, 0), (.goto 4, 0, 0, 0, 0)] (by decide +kernel) rfl trivial ?_
      exact GE_iret rfl (by decide +kernel)
  · refine GE_run flG_T (pc1 := 19) (L1 := [some (.inl a1), some (.inl a2), some (.inl a3)]) (S1 := [.inl a2]) (w1 := w) (P := True) [(.iload_n 1, 0, 0, 0, 0), (.goto 13, 0, 0, 0, 0)] (by decide +kernel) rfl trivial ?_
    exact GE_iret rfl (by decide +kernel)
abbrev mm_X4_common : MI := (RX4, cX4_common, 6, (some .int), ftp_X4.map (fun q => q.1), ctp_X4.map (fun q => q.1), clp_X4.map (fun q => q.1))
noncomputable def h_X4_common_7  (k34 : Int32 → Mem → Option (Int32 × Mem)) : Nat → Int32 → Int32 → Int32 → Mem → Option (Int32 × Mem)
  | 0, _, _, _, _ => none
  | n + 1, x2, x3, x4, w => if x4 < 64 then (if x3 = 0 then (k34 x2 w) else (if ¬ (x3 : Int32) = 0 then ((h_X4_common_7 k34 n) x3 (rmI x2 x3) (x4 + 1) w) else none)) else (k34 x2 w)
set_option maxRecDepth 100000 in
theorem h_X4_common_7_ok (l : Launch) (X : XC)  (k34 : Int32 → Mem → Option (Int32 × Mem))  (hk34 : ∀ (x2 : Int32) (w : Mem), GE l X mm_X4_common 0 emI 57 flT (k34 x2 w) 34 [none, none, some (.inl x2), none, none, none] [] w) : ∀ (n : Nat) (x2 : Int32) (x3 : Int32) (x4 : Int32) (w : Mem), GE l X mm_X4_common 0 emI 57 flT ((h_X4_common_7 k34 n) x2 x3 x4 w) 7 [none, none, some (.inl x2), some (.inl x3), some (.inl x4), none] [] w := by
  intro n
  induction n with
  | zero => intro x2 x3 x4 w; exact GE_none
  | succ n ih =>
    intro x2 x3 x4 w
    unfold h_X4_common_7
    refine GE_run flG_T (pc1 := 11) (L1 := [none, none, some (.inl x2), some (.inl x3), some (.inl x4), none]) (S1 := [.inl 64, .inl x4]) (w1 := w) (P := True) [(.iload 4, 0, 0, 0, 0), (.bipush 64, 0, 0, 64, 0)] (by decide +kernel) rfl trivial ?_
    refine GE_icmpN (k := .ge) (off := 23) (tgt := 34) (by decide +kernel) (by decide) (cnd_ge _ _) (fun c1 => ?_) (fun c1 => ?_)
    · exact GE_weak [false, false, true, false, false, false] (hk34 x2 w)
    · refine GE_run flG_T (pc1 := 15) (L1 := [none, none, some (.inl x2), some (.inl x3), some (.inl x4), none]) (S1 := [.inl x3]) (w1 := w) (P := True) [(.iload_n 3, 0, 0, 0, 0)] (by decide +kernel) rfl trivial ?_
      refine GE_if (k := .eq) (off := 19) (tgt := 34) (by decide +kernel) (by decide) (cnd_eq _ _) (fun c2 => ?_) (fun c2 => ?_)
      · exact GE_weak [false, false, true, false, false, false] (hk34 x2 w)
      · refine GE_chk (fun h3 => ?_)
        refine GE_run flG_T (pc1 := 7) (L1 := [none, none, some (.inl x3), some (.inl (rmI x2 x3)), some (.inl (x4 + 1)), some (.inl (rmI x2 x3))]) (S1 := []) (w1 := w) (P := (¬ (x3 : Int32) = 0) ∧ True) [(.iload_n 2, 0, 0, 0, 0), (.iload_n 3, 0, 0, 0, 0), (.irem, 0, 0, 0, 0), (.istore 5, 0, 0, 0, 0), (.iload_n 3, 0, 0, 0, 0), (.istore_n 2, 0, 0, 0, 0), (.iload 5, 0, 0, 0, 0), (.istore_n 3, 0, 0, 0, 0), (.iinc 4 1, 0, 0, 1, 0), (.goto (-24), 0, 0, 0, 0)] (by decide +kernel) rfl ⟨h3, trivial⟩ ?_
        exact GE_weak [false, false, true, true, true, false] (ih x3 (rmI x2 x3) (x4 + 1) w)
noncomputable def f_X4_common (a1 : Int32) (a2 : Int32) (w : Mem) : Option (Int32 × Mem) := h_X4_common_7 (fun x2_4 w5 => some (x2_4, w5)) FU a1 a2 0 w
set_option maxRecDepth 100000 in
theorem t_X4_common (l : Launch) (X : XC)  (a1 : Int32) (a2 : Int32) (w : Mem) : Ct l X 0 yX4_common cX4_common 6 (some .int) emI [.inl a1, .inl a2] 57 flT w (f_X4_common a1 a2 w) := by
  refine Ct_of (mi := mm_X4_common) (mik_X4 _ _ _) me_X4_common rfl (okAs_cons rfl (okAs_cons rfl okAs_nil)) (Nat.le_of_ble_eq_true rfl) ?_
  unfold f_X4_common
  refine GE_run flG_T (pc1 := 7) (L1 := [some (.inl a1), some (.inl a2), some (.inl a1), some (.inl a2), some (.inl 0), none]) (S1 := []) (w1 := w) (P := True) [(.iload_n 0, 0, 0, 0, 0), (.istore_n 2, 0, 0, 0, 0), (.iload_n 1, 0, 0, 0, 0), (.istore_n 3, 0, 0, 0, 0), (.iconst 0, 0, 0, 0, 0), (.istore 4, 0, 0, 0, 0)] (by decide +kernel) rfl trivial ?_
  refine GE_weak [false, false, true, true, true, false] (h_X4_common_7_ok l X _ ?_ FU a1 a2 0 w)
  · intro x2_4 w5
    refine GE_run flG_T (pc1 := 35) (L1 := [none, none, some (.inl x2_4), none, none, none]) (S1 := [.inl x2_4]) (w1 := w5) (P := True) [(.iload_n 2, 0, 0, 0, 0)] (by decide +kernel) rfl trivial ?_
    exact GE_iret rfl (by decide +kernel)
abbrev mm_X4_lowest : MI := (RX4, cX4_lowest, 4, (some .long), ftp_X4.map (fun q => q.1), ctp_X4.map (fun q => q.1), clp_X4.map (fun q => q.1))
noncomputable def j_X4_lowest_23   (x0 : Int32) (x1 : Int32) (x2 : Int32) (x3 : Int32) (w : Mem) : Option (Int64 × Mem) := if x2 = 0 then (if ¬ (x3 : Int32) = 0 then (some (Int32.toInt64 (x0 / x3), w)) else none) else (if ¬ (x3 : Int32) = 0 then (some (Int32.toInt64 (x1 / x3), w)) else none)
set_option maxRecDepth 100000 in
theorem j_X4_lowest_23_ok (l : Launch) (X : XC)     (x0 : Int32) (x1 : Int32) (x2 : Int32) (x3 : Int32) (w : Mem) : GE l X mm_X4_lowest 1 emL 57 flT (j_X4_lowest_23 x0 x1 x2 x3 w) 23 [some (.inl x0), some (.inl x1), some (.inl x2), some (.inl x3)] [] w := by
  unfold j_X4_lowest_23
  refine GE_run flG_T (pc1 := 24) (L1 := [some (.inl x0), some (.inl x1), some (.inl x2), some (.inl x3)]) (S1 := [.inl x2]) (w1 := w) (P := True) [(.iload_n 2, 0, 0, 0, 0)] (by decide +kernel) rfl trivial ?_
  refine GE_ifN (k := .ne) (off := 10) (tgt := 34) (by decide +kernel) (by decide) (cnd_ne _ _) (fun c4 => ?_) (fun c4 => ?_)
  · refine GE_chk (fun h6 => ?_)
    refine GE_run flG_T (pc1 := 38) (L1 := [some (.inl x0), some (.inl x1), some (.inl x2), some (.inl x3)]) (S1 := [.inr (.inl (Int32.toInt64 (x1 / x3)))]) (w1 := w) (P := (¬ (x3 : Int32) = 0) ∧ True) [(.iload_n 1, 0, 0, 0, 0), (.iload_n 3, 0, 0, 0, 0), (.idiv, 0, 0, 0, 0), (.i2l, 0, 0, 0, 0)] (by decide +kernel) rfl ⟨h6, trivial⟩ ?_
    exact GE_lret rfl (by decide +kernel)
  · refine GE_chk (fun h5 => ?_)
    refine GE_run flG_T (pc1 := 38) (L1 := [some (.inl x0), some (.inl x1), some (.inl x2), some (.inl x3)]) (S1 := [.inr (.inl (Int32.toInt64 (x0 / x3)))]) (w1 := w) (P := (¬ (x3 : Int32) = 0) ∧ True) [(.iload_n 0, 0, 0, 0, 0), (.iload_n 3, 0, 0, 0, 0), (.idiv, 0, 0, 0, 0), (.i2l, 0, 0, 0, 0), (.goto 7, 0, 0, 0, 0)] (by decide +kernel) rfl ⟨h5, trivial⟩ ?_
    exact GE_lret rfl (by decide +kernel)
noncomputable def f_X4_lowest (a1 : Int32) (a2 : Int32) (a3 : Int32) (w : Mem) : Option (Int64 × Mem) := Option.bind (f_X4_common a1 a2 w) (fun r1 => if r1.1 = 0 then (some ((-4611686018427387904), r1.2)) else (if a3 = 0 then (j_X4_lowest_23 a1 a2 a3 r1.1 r1.2) else (if a3 = 1 then (j_X4_lowest_23 a1 a2 a3 r1.1 r1.2) else (some ((-4611686018427387904), r1.2)))))
set_option maxRecDepth 100000 in
theorem t_X4_lowest (l : Launch) (X : XC)  (a1 : Int32) (a2 : Int32) (a3 : Int32) (w : Mem) : Ct l X 1 yX4_lowest cX4_lowest 4 (some .long) emL [.inl a1, .inl a2, .inl a3] 57 flT w (f_X4_lowest a1 a2 a3 w) := by
  refine Ct_of (mi := mm_X4_lowest) (mik_X4 _ _ _) me_X4_lowest rfl (okAs_cons rfl (okAs_cons rfl (okAs_cons rfl okAs_nil))) (Nat.le_of_ble_eq_true rfl) ?_
  unfold f_X4_lowest
  refine GE_run flG_T (pc1 := 2) (L1 := [some (.inl a1), some (.inl a2), some (.inl a3), none]) (S1 := [.inl a2, .inl a1]) (w1 := w) (P := True) [(.iload_n 0, 0, 0, 0, 0), (.iload_n 1, 0, 0, 0, 0)] (by decide +kernel) rfl trivial ?_
  refine GE_callSI (As := [.inl a1, .inl a2]) (S := []) (t_X4_common l X a1 a2 w) ⟨me_X4_common, ms_X4_common, lk_X4_257⟩ (by decide +kernel) rfl (by decide) (by decide) (Nat.le_of_ble_eq_true rfl) (fun r1 _ => ?_)
  refine GE_run flG_T (pc1 := 7) (L1 := [some (.inl a1), some (.inl a2), some (.inl a3), some (.inl r1.1)]) (S1 := [.inl r1.1]) (w1 := r1.2) (P := True) [(.istore_n 3, 0, 0, 0, 0), (.iload_n 3, 0, 0, 0, 0)] (by decide +kernel) rfl trivial ?_
  refine GE_if (k := .eq) (off := 12) (tgt := 19) (by decide +kernel) (by decide) (cnd_eq _ _) (fun c2 => ?_) (fun c2 => ?_)
  · refine GE_run flG_T (pc1 := 22) (L1 := [some (.inl a1), some (.inl a2), some (.inl a3), some (.inl r1.1)]) (S1 := [.inr (.inl (-4611686018427387904))]) (w1 := r1.2) (P := True) [(.ldc2_w 211, 0, 0, 0, -4611686018427387904)] (by decide +kernel) rfl trivial ?_
    exact GE_lret rfl (by decide +kernel)
  · refine GE_run flG_T (pc1 := 11) (L1 := [some (.inl a1), some (.inl a2), some (.inl a3), some (.inl r1.1)]) (S1 := [.inl a3]) (w1 := r1.2) (P := True) [(.iload_n 2, 0, 0, 0, 0)] (by decide +kernel) rfl trivial ?_
    refine GE_if (k := .eq) (off := 12) (tgt := 23) (by decide +kernel) (by decide) (cnd_eq _ _) (fun c3 => ?_) (fun c3 => ?_)
    · exact GE_weak [true, true, true, true] (j_X4_lowest_23_ok l X a1 a2 a3 r1.1 r1.2)
    · refine GE_run flG_T (pc1 := 16) (L1 := [some (.inl a1), some (.inl a2), some (.inl a3), some (.inl r1.1)]) (S1 := [.inl 1, .inl a3]) (w1 := r1.2) (P := True) [(.iload_n 2, 0, 0, 0, 0), (.iconst 1, 0, 0, 1, 0)] (by decide +kernel) rfl trivial ?_
      refine GE_icmp (k := .eq) (off := 7) (tgt := 23) (by decide +kernel) (by decide) (cnd_eq _ _) (fun c7 => ?_) (fun c7 => ?_)
      · exact GE_weak [true, true, true, true] (j_X4_lowest_23_ok l X a1 a2 a3 r1.1 r1.2)
      · refine GE_run flG_T (pc1 := 22) (L1 := [some (.inl a1), some (.inl a2), some (.inl a3), some (.inl r1.1)]) (S1 := [.inr (.inl (-4611686018427387904))]) (w1 := r1.2) (P := True) [(.ldc2_w 211, 0, 0, 0, -4611686018427387904)] (by decide +kernel) rfl trivial ?_
        exact GE_lret rfl (by decide +kernel)
abbrev mm_X4_isOne : MI := (RX4, cX4_isOne, 2, (some .boolean), ftp_X4.map (fun q => q.1), ctp_X4.map (fun q => q.1), clp_X4.map (fun q => q.1))
noncomputable def f_X4_isOne (a1 : Int32) (a2 : Int32) (w : Mem) : Option (Int32 × Mem) := lkE a1 [(3, if a2 = 3 then (some (1, w)) else (if a2 = 1 then (some (1, w)) else (if a2 = 0 then (some (1, w)) else (some (0, w))))), (4, if a2 = 4 then (some (1, w)) else (if a2 = 2 then (some (1, w)) else (if a2 = 0 then (some (1, w)) else (some (0, w)))))] (if a2 = a1 then (some (1, w)) else (if a2 = 0 then (some (1, w)) else (some (0, w))))
set_option maxRecDepth 100000 in
theorem t_X4_isOne (l : Launch) (X : XC)  (a1 : Int32) (a2 : Int32) (w : Mem) : Ct l X 0 yX4_isOne cX4_isOne 2 (some .boolean) emI [.inl a1, .inl a2] 57 flT w (f_X4_isOne a1 a2 w) := by
  refine Ct_of (mi := mm_X4_isOne) (mik_X4 _ _ _) me_X4_isOne rfl (okAs_cons rfl (okAs_cons rfl okAs_nil)) (Nat.le_of_ble_eq_true rfl) ?_
  unfold f_X4_isOne
  refine GE_run flG_T (pc1 := 1) (L1 := [some (.inl a1), some (.inl a2)]) (S1 := [.inl a1]) (w1 := w) (P := True) [(.iload_n 0, 0, 0, 0, 0)] (by decide +kernel) rfl trivial ?_
  refine GE_lk (dflt := 67) (ps := #[(3, 27), (4, 47)]) (len := 27) (dt := 68) [28, 48] (by decide +kernel) (by decide +kernel) (by decide) (by exact rfl) (And.intro (fun _ => ?_) (And.intro (fun _ => ?_) (trivial))) ?_
  · refine GE_run flG_T (pc1 := 30) (L1 := [some (.inl a1), some (.inl a2)]) (S1 := [.inl 3, .inl a2]) (w1 := w) (P := True) [(.iload_n 1, 0, 0, 0, 0), (.iconst 3, 0, 0, 3, 0)] (by decide +kernel) rfl trivial ?_
    refine GE_icmp (k := .eq) (off := 12) (tgt := 42) (by decide +kernel) (by decide) (cnd_eq _ _) (fun c1 => ?_) (fun c1 => ?_)
    · refine GE_run flG_T (pc1 := 47) (L1 := [some (.inl a1), some (.inl a2)]) (S1 := [.inl 1]) (w1 := w) (P := True) [(.iconst 1, 0, 0, 1, 0), (.goto 4, 0, 0, 0, 0)] (by decide +kernel) rfl trivial ?_
      exact GE_zret (ty := .boolean) rfl (by decide +kernel) (by decide +kernel)
    · refine GE_run flG_T (pc1 := 35) (L1 := [some (.inl a1), some (.inl a2)]) (S1 := [.inl 1, .inl a2]) (w1 := w) (P := True) [(.iload_n 1, 0, 0, 0, 0), (.iconst 1, 0, 0, 1, 0)] (by decide +kernel) rfl trivial ?_
      refine GE_icmp (k := .eq) (off := 7) (tgt := 42) (by decide +kernel) (by decide) (cnd_eq _ _) (fun c2 => ?_) (fun c2 => ?_)
      · refine GE_run flG_T (pc1 := 47) (L1 := [some (.inl a1), some (.inl a2)]) (S1 := [.inl 1]) (w1 := w) (P := True) [(.iconst 1, 0, 0, 1, 0), (.goto 4, 0, 0, 0, 0)] (by decide +kernel) rfl trivial ?_
        exact GE_zret (ty := .boolean) rfl (by decide +kernel) (by decide +kernel)
      · refine GE_run flG_T (pc1 := 39) (L1 := [some (.inl a1), some (.inl a2)]) (S1 := [.inl a2]) (w1 := w) (P := True) [(.iload_n 1, 0, 0, 0, 0)] (by decide +kernel) rfl trivial ?_
        refine GE_ifN (k := .ne) (off := 7) (tgt := 46) (by decide +kernel) (by decide) (cnd_ne _ _) (fun c3 => ?_) (fun c3 => ?_)
        · refine GE_run flG_T (pc1 := 47) (L1 := [some (.inl a1), some (.inl a2)]) (S1 := [.inl 0]) (w1 := w) (P := True) [(.iconst 0, 0, 0, 0, 0)] (by decide +kernel) rfl trivial ?_
          exact GE_zret (ty := .boolean) rfl (by decide +kernel) (by decide +kernel)
        · refine GE_run flG_T (pc1 := 47) (L1 := [some (.inl a1), some (.inl a2)]) (S1 := [.inl 1]) (w1 := w) (P := True) [(.iconst 1, 0, 0, 1, 0), (.goto 4, 0, 0, 0, 0)] (by decide +kernel) rfl trivial ?_
          exact GE_zret (ty := .boolean) rfl (by decide +kernel) (by decide +kernel)
  · refine GE_run flG_T (pc1 := 50) (L1 := [some (.inl a1), some (.inl a2)]) (S1 := [.inl 4, .inl a2]) (w1 := w) (P := True) [(.iload_n 1, 0, 0, 0, 0), (.iconst 4, 0, 0, 4, 0)] (by decide +kernel) rfl trivial ?_
    refine GE_icmp (k := .eq) (off := 12) (tgt := 62) (by decide +kernel) (by decide) (cnd_eq _ _) (fun c4 => ?_) (fun c4 => ?_)
    · refine GE_run flG_T (pc1 := 67) (L1 := [some (.inl a1), some (.inl a2)]) (S1 := [.inl 1]) (w1 := w) (P := True) [(.iconst 1, 0, 0, 1, 0), (.goto 4, 0, 0, 0, 0)] (by decide +kernel) rfl trivial ?_
      exact GE_zret (ty := .boolean) rfl (by decide +kernel) (by decide +kernel)
    · refine GE_run flG_T (pc1 := 55) (L1 := [some (.inl a1), some (.inl a2)]) (S1 := [.inl 2, .inl a2]) (w1 := w) (P := True) [(.iload_n 1, 0, 0, 0, 0), (.iconst 2, 0, 0, 2, 0)] (by decide +kernel) rfl trivial ?_
      refine GE_icmp (k := .eq) (off := 7) (tgt := 62) (by decide +kernel) (by decide) (cnd_eq _ _) (fun c5 => ?_) (fun c5 => ?_)
      · refine GE_run flG_T (pc1 := 67) (L1 := [some (.inl a1), some (.inl a2)]) (S1 := [.inl 1]) (w1 := w) (P := True) [(.iconst 1, 0, 0, 1, 0), (.goto 4, 0, 0, 0, 0)] (by decide +kernel) rfl trivial ?_
        exact GE_zret (ty := .boolean) rfl (by decide +kernel) (by decide +kernel)
      · refine GE_run flG_T (pc1 := 59) (L1 := [some (.inl a1), some (.inl a2)]) (S1 := [.inl a2]) (w1 := w) (P := True) [(.iload_n 1, 0, 0, 0, 0)] (by decide +kernel) rfl trivial ?_
        refine GE_ifN (k := .ne) (off := 7) (tgt := 66) (by decide +kernel) (by decide) (cnd_ne _ _) (fun c6 => ?_) (fun c6 => ?_)
        · refine GE_run flG_T (pc1 := 67) (L1 := [some (.inl a1), some (.inl a2)]) (S1 := [.inl 0]) (w1 := w) (P := True) [(.iconst 0, 0, 0, 0, 0)] (by decide +kernel) rfl trivial ?_
          exact GE_zret (ty := .boolean) rfl (by decide +kernel) (by decide +kernel)
        · refine GE_run flG_T (pc1 := 67) (L1 := [some (.inl a1), some (.inl a2)]) (S1 := [.inl 1]) (w1 := w) (P := True) [(.iconst 1, 0, 0, 1, 0), (.goto 4, 0, 0, 0, 0)] (by decide +kernel) rfl trivial ?_
          exact GE_zret (ty := .boolean) rfl (by decide +kernel) (by decide +kernel)
  · refine GE_run flG_T (pc1 := 70) (L1 := [some (.inl a1), some (.inl a2)]) (S1 := [.inl a1, .inl a2]) (w1 := w) (P := True) [(.iload_n 1, 0, 0, 0, 0), (.iload_n 0, 0, 0, 0, 0)] (by decide +kernel) rfl trivial ?_
    refine GE_icmp (k := .eq) (off := 7) (tgt := 77) (by decide +kernel) (by decide) (cnd_eq _ _) (fun c7 => ?_) (fun c7 => ?_)
    · refine GE_run flG_T (pc1 := 82) (L1 := [some (.inl a1), some (.inl a2)]) (S1 := [.inl 1]) (w1 := w) (P := True) [(.iconst 1, 0, 0, 1, 0), (.goto 4, 0, 0, 0, 0)] (by decide +kernel) rfl trivial ?_
      exact GE_zret (ty := .boolean) rfl (by decide +kernel) (by decide +kernel)
    · refine GE_run flG_T (pc1 := 74) (L1 := [some (.inl a1), some (.inl a2)]) (S1 := [.inl a2]) (w1 := w) (P := True) [(.iload_n 1, 0, 0, 0, 0)] (by decide +kernel) rfl trivial ?_
      refine GE_ifN (k := .ne) (off := 7) (tgt := 81) (by decide +kernel) (by decide) (cnd_ne _ _) (fun c8 => ?_) (fun c8 => ?_)
      · refine GE_run flG_T (pc1 := 82) (L1 := [some (.inl a1), some (.inl a2)]) (S1 := [.inl 0]) (w1 := w) (P := True) [(.iconst 0, 0, 0, 0, 0)] (by decide +kernel) rfl trivial ?_
        exact GE_zret (ty := .boolean) rfl (by decide +kernel) (by decide +kernel)
      · refine GE_run flG_T (pc1 := 82) (L1 := [some (.inl a1), some (.inl a2)]) (S1 := [.inl 1]) (w1 := w) (P := True) [(.iconst 1, 0, 0, 1, 0), (.goto 4, 0, 0, 0, 0)] (by decide +kernel) rfl trivial ?_
        exact GE_zret (ty := .boolean) rfl (by decide +kernel) (by decide +kernel)
abbrev mm_X5_in : MI := (RX5, cX5_in, 3, (some .boolean), ftp_X5.map (fun q => q.1), ctp_X5.map (fun q => q.1), clp_X5.map (fun q => q.1))
noncomputable def f_X5_in (a1 : Int32) (a2 : Int32) (a3 : Int32) (w : Mem) : Option (Int32 × Mem) := if a1 < a2 then (some (0, w)) else (if a1 ≤ a3 then (some (1, w)) else (some (0, w)))
set_option maxRecDepth 100000 in
theorem t_X5_in (l : Launch) (X : XC)  (a1 : Int32) (a2 : Int32) (a3 : Int32) (w : Mem) : Ct l X 0 yX5_in cX5_in 3 (some .boolean) emI [.inl a1, .inl a2, .inl a3] 57 flT w (f_X5_in a1 a2 a3 w) := by
  refine Ct_of (mi := mm_X5_in) (mik_X5 _ _ _) me_X5_in rfl (okAs_cons rfl (okAs_cons rfl (okAs_cons rfl okAs_nil))) (Nat.le_of_ble_eq_true rfl) ?_
  unfold f_X5_in
  refine GE_run flG_T (pc1 := 2) (L1 := [some (.inl a1), some (.inl a2), some (.inl a3)]) (S1 := [.inl a2, .inl a1]) (w1 := w) (P := True) [(.iload_n 0, 0, 0, 0, 0), (.iload_n 1, 0, 0, 0, 0)] (by decide +kernel) rfl trivial ?_
  refine GE_icmp (k := .lt) (off := 12) (tgt := 14) (by decide +kernel) (by decide) (cnd_lt _ _) (fun c1 => ?_) (fun c1 => ?_)
  · refine GE_run flG_T (pc1 := 15) (L1 := [some (.inl a1), some (.inl a2), some (.inl a3)]) (S1 := [.inl 0]) (w1 := w) (P := True) [(.iconst 0, 0, 0, 0, 0)] (by decide +kernel) rfl trivial ?_
    exact GE_zret (ty := .boolean) rfl (by decide +kernel) (by decide +kernel)
  · refine GE_run flG_T (pc1 := 7) (L1 := [some (.inl a1), some (.inl a2), some (.inl a3)]) (S1 := [.inl a3, .inl a1]) (w1 := w) (P := True) [(.iload_n 0, 0, 0, 0, 0), (.iload_n 2, 0, 0, 0, 0)] (by decide +kernel) rfl trivial ?_
    refine GE_icmpN (k := .gt) (off := 7) (tgt := 14) (by decide +kernel) (by decide) (cnd_gt _ _) (fun c2 => ?_) (fun c2 => ?_)
    · refine GE_run flG_T (pc1 := 15) (L1 := [some (.inl a1), some (.inl a2), some (.inl a3)]) (S1 := [.inl 0]) (w1 := w) (P := True) [(.iconst 0, 0, 0, 0, 0)] (by decide +kernel) rfl trivial ?_
      exact GE_zret (ty := .boolean) rfl (by decide +kernel) (by decide +kernel)
    · refine GE_run flG_T (pc1 := 15) (L1 := [some (.inl a1), some (.inl a2), some (.inl a3)]) (S1 := [.inl 1]) (w1 := w) (P := True) [(.iconst 1, 0, 0, 1, 0), (.goto 4, 0, 0, 0, 0)] (by decide +kernel) rfl trivial ?_
      exact GE_zret (ty := .boolean) rfl (by decide +kernel) (by decide +kernel)
abbrev mm_X5_within : MI := (RX5, cX5_within, 3, (some .int), ftp_X5.map (fun q => q.1), ctp_X5.map (fun q => q.1), clp_X5.map (fun q => q.1))
noncomputable def f_X5_within (a1 : Int32) (a2 : Int32) (a3 : Int32) (w : Mem) : Option (Int32 × Mem) := if a1 < a2 then (some (a2, w)) else (if a1 ≤ a3 then (some (a1, w)) else (some (a3, w)))
set_option maxRecDepth 100000 in
theorem t_X5_within (l : Launch) (X : XC)  (a1 : Int32) (a2 : Int32) (a3 : Int32) (w : Mem) : Ct l X 0 yX5_within cX5_within 3 (some .int) emI [.inl a1, .inl a2, .inl a3] 57 flT w (f_X5_within a1 a2 a3 w) := by
  refine Ct_of (mi := mm_X5_within) (mik_X5 _ _ _) me_X5_within rfl (okAs_cons rfl (okAs_cons rfl (okAs_cons rfl okAs_nil))) (Nat.le_of_ble_eq_true rfl) ?_
  unfold f_X5_within
  refine GE_run flG_T (pc1 := 2) (L1 := [some (.inl a1), some (.inl a2), some (.inl a3)]) (S1 := [.inl a2, .inl a1]) (w1 := w) (P := True) [(.iload_n 0, 0, 0, 0, 0), (.iload_n 1, 0, 0, 0, 0)] (by decide +kernel) rfl trivial ?_
  refine GE_icmpN (k := .ge) (off := 7) (tgt := 9) (by decide +kernel) (by decide) (cnd_ge _ _) (fun c1 => ?_) (fun c1 => ?_)
  · refine GE_run flG_T (pc1 := 11) (L1 := [some (.inl a1), some (.inl a2), some (.inl a3)]) (S1 := [.inl a3, .inl a1]) (w1 := w) (P := True) [(.iload_n 0, 0, 0, 0, 0), (.iload_n 2, 0, 0, 0, 0)] (by decide +kernel) rfl trivial ?_
    refine GE_icmp (k := .le) (off := 7) (tgt := 18) (by decide +kernel) (by decide) (cnd_le _ _) (fun c2 => ?_) (fun c2 => ?_)
    · refine GE_run flG_T (pc1 := 19) (L1 := [some (.inl a1), some (.inl a2), some (.inl a3)]) (S1 := [.inl a1]) (w1 := w) (P := True) [(.iload_n 0, 0, 0, 0, 0)] (by decide +kernel) rfl trivial ?_
      exact GE_iret rfl (by decide +kernel)
    · refine GE_run flG_T (pc1 := 19) (L1 := [some (.inl a1), some (.inl a2), some (.inl a3)]) (S1 := [.inl a3]) (w1 := w) (P := True) [(.iload_n 2, 0, 0, 0, 0), (.goto 4, 0, 0, 0, 0)] (by decide +kernel) rfl trivial ?_
      exact GE_iret rfl (by decide +kernel)
  · refine GE_run flG_T (pc1 := 19) (L1 := [some (.inl a1), some (.inl a2), some (.inl a3)]) (S1 := [.inl a2]) (w1 := w) (P := True) [(.iload_n 1, 0, 0, 0, 0), (.goto 13, 0, 0, 0, 0)] (by decide +kernel) rfl trivial ?_
    exact GE_iret rfl (by decide +kernel)
abbrev mm_X5_bitsOf : MI := (RX5, cX5_bitsOf, 3, (some .int), ftp_X5.map (fun q => q.1), ctp_X5.map (fun q => q.1), clp_X5.map (fun q => q.1))
noncomputable def h_X5_bitsOf_4 (x0 : Int32) (k24 : Int32 → Mem → Option (Int32 × Mem)) : Nat → Int32 → Int32 → Mem → Option (Int32 × Mem)
  | 0, _, _, _ => none
  | n + 1, x1, x2, w => if x2 < 16 then ((h_X5_bitsOf_4 x0 k24 n) (x1 + ((shrI x0 x2) &&& 1)) (x2 + 1) w) else (k24 x1 w)
set_option maxRecDepth 100000 in
theorem h_X5_bitsOf_4_ok (l : Launch) (X : XC) (x0 : Int32) (k24 : Int32 → Mem → Option (Int32 × Mem))  (hk24 : ∀ (x1 : Int32) (w : Mem), GE l X mm_X5_bitsOf 0 emI 57 flT (k24 x1 w) 24 [none, some (.inl x1), none] [] w) : ∀ (n : Nat) (x1 : Int32) (x2 : Int32) (w : Mem), GE l X mm_X5_bitsOf 0 emI 57 flT ((h_X5_bitsOf_4 x0 k24 n) x1 x2 w) 4 [some (.inl x0), some (.inl x1), some (.inl x2)] [] w := by
  intro n
  induction n with
  | zero => intro x1 x2 w; exact GE_none
  | succ n ih =>
    intro x1 x2 w
    unfold h_X5_bitsOf_4
    refine GE_run flG_T (pc1 := 7) (L1 := [some (.inl x0), some (.inl x1), some (.inl x2)]) (S1 := [.inl 16, .inl x2]) (w1 := w) (P := True) [(.iload_n 2, 0, 0, 0, 0), (.bipush 16, 0, 0, 16, 0)] (by decide +kernel) rfl trivial ?_
    refine GE_icmpN (k := .ge) (off := 17) (tgt := 24) (by decide +kernel) (by decide) (cnd_ge _ _) (fun c1 => ?_) (fun c1 => ?_)
    · exact GE_weak [false, true, false] (hk24 x1 w)
    · refine GE_run flG_T (pc1 := 4) (L1 := [some (.inl x0), some (.inl (x1 + ((shrI x0 x2) &&& 1))), some (.inl (x2 + 1))]) (S1 := []) (w1 := w) (P := True) [(.iload_n 1, 0, 0, 0, 0), (.iload_n 0, 0, 0, 0, 0), (.iload_n 2, 0, 0, 0, 0), (.ishr, 0, 0, 0, 0), (.iconst 1, 0, 0, 1, 0), (.iand, 0, 0, 0, 0), (.iadd, 0, 0, 0, 0), (.istore_n 1, 0, 0, 0, 0), (.iinc 2 1, 0, 0, 1, 0), (.goto (-17), 0, 0, 0, 0)] (by decide +kernel) rfl trivial ?_
      exact GE_weak [true, true, true] (ih (x1 + ((shrI x0 x2) &&& 1)) (x2 + 1) w)
noncomputable def f_X5_bitsOf (a1 : Int32) (w : Mem) : Option (Int32 × Mem) := h_X5_bitsOf_4 a1 (fun x1_2 w3 => some (x1_2, w3)) FU 0 0 w
set_option maxRecDepth 100000 in
theorem t_X5_bitsOf (l : Launch) (X : XC)  (a1 : Int32) (w : Mem) : Ct l X 0 yX5_bitsOf cX5_bitsOf 3 (some .int) emI [.inl a1] 57 flT w (f_X5_bitsOf a1 w) := by
  refine Ct_of (mi := mm_X5_bitsOf) (mik_X5 _ _ _) me_X5_bitsOf rfl (okAs_cons rfl okAs_nil) (Nat.le_of_ble_eq_true rfl) ?_
  unfold f_X5_bitsOf
  refine GE_run flG_T (pc1 := 4) (L1 := [some (.inl a1), some (.inl 0), some (.inl 0)]) (S1 := []) (w1 := w) (P := True) [(.iconst 0, 0, 0, 0, 0), (.istore_n 1, 0, 0, 0, 0), (.iconst 0, 0, 0, 0, 0), (.istore_n 2, 0, 0, 0, 0)] (by decide +kernel) rfl trivial ?_
  refine GE_weak [true, true, true] (h_X5_bitsOf_4_ok l X a1 _ ?_ FU 0 0 w)
  · intro x1_2 w3
    refine GE_run flG_T (pc1 := 25) (L1 := [none, some (.inl x1_2), none]) (S1 := [.inl x1_2]) (w1 := w3) (P := True) [(.iload_n 1, 0, 0, 0, 0)] (by decide +kernel) rfl trivial ?_
    exact GE_iret rfl (by decide +kernel)
abbrev mm_X5_nthOf : MI := (RX5, cX5_nthOf, 4, (some .int), ftp_X5.map (fun q => q.1), ctp_X5.map (fun q => q.1), clp_X5.map (fun q => q.1))
noncomputable def h_X5_nthOf_4 (x0 : Int32) (x1 : Int32) (k35 : Mem → Option (Int32 × Mem)) : Nat → Int32 → Int32 → Mem → Option (Int32 × Mem)
  | 0, _, _, _ => none
  | n + 1, x2, x3, w => if x3 < 16 then (if ((shrI x0 x3) &&& 1) = 1 then (if x2 = x1 then (some (x3, w)) else ((h_X5_nthOf_4 x0 x1 k35 n) (x2 + 1) (x3 + 1) w)) else ((h_X5_nthOf_4 x0 x1 k35 n) x2 (x3 + 1) w)) else (k35 w)
set_option maxRecDepth 100000 in
theorem h_X5_nthOf_4_ok (l : Launch) (X : XC) (x0 : Int32) (x1 : Int32) (k35 : Mem → Option (Int32 × Mem))  (hk35 : ∀  (w : Mem), GE l X mm_X5_nthOf 0 emI 57 flT (k35 w) 35 [none, none, none, none] [] w) : ∀ (n : Nat) (x2 : Int32) (x3 : Int32) (w : Mem), GE l X mm_X5_nthOf 0 emI 57 flT ((h_X5_nthOf_4 x0 x1 k35 n) x2 x3 w) 4 [some (.inl x0), some (.inl x1), some (.inl x2), some (.inl x3)] [] w := by
  intro n
  induction n with
  | zero => intro x2 x3 w; exact GE_none
  | succ n ih =>
    intro x2 x3 w
    unfold h_X5_nthOf_4
    refine GE_run flG_T (pc1 := 7) (L1 := [some (.inl x0), some (.inl x1), some (.inl x2), some (.inl x3)]) (S1 := [.inl 16, .inl x3]) (w1 := w) (P := True) [(.iload_n 3, 0, 0, 0, 0), (.bipush 16, 0, 0, 16, 0)] (by decide +kernel) rfl trivial ?_
    refine GE_icmpN (k := .ge) (off := 28) (tgt := 35) (by decide +kernel) (by decide) (cnd_ge _ _) (fun c1 => ?_) (fun c1 => ?_)
    · exact GE_weak [false, false, false, false] (hk35 w)
    · refine GE_run flG_T (pc1 := 16) (L1 := [some (.inl x0), some (.inl x1), some (.inl x2), some (.inl x3)]) (S1 := [.inl 1, .inl ((shrI x0 x3) &&& 1)]) (w1 := w) (P := True) [(.iload_n 0, 0, 0, 0, 0), (.iload_n 3, 0, 0, 0, 0), (.ishr, 0, 0, 0, 0), (.iconst 1, 0, 0, 1, 0), (.iand, 0, 0, 0, 0), (.iconst 1, 0, 0, 1, 0)] (by decide +kernel) rfl trivial ?_
      refine GE_icmpN (k := .ne) (off := 13) (tgt := 29) (by decide +kernel) (by decide) (cnd_ne _ _) (fun c2 => ?_) (fun c2 => ?_)
      · refine GE_run flG_T (pc1 := 4) (L1 := [some (.inl x0), some (.inl x1), some (.inl x2), some (.inl (x3 + 1))]) (S1 := []) (w1 := w) (P := True) [(.iinc 3 1, 0, 0, 1, 0), (.goto (-28), 0, 0, 0, 0)] (by decide +kernel) rfl trivial ?_
        exact GE_weak [true, true, true, true] (ih x2 (x3 + 1) w)
      · refine GE_run flG_T (pc1 := 21) (L1 := [some (.inl x0), some (.inl x1), some (.inl x2), some (.inl x3)]) (S1 := [.inl x1, .inl x2]) (w1 := w) (P := True) [(.iload_n 2, 0, 0, 0, 0), (.iload_n 1, 0, 0, 0, 0)] (by decide +kernel) rfl trivial ?_
        refine GE_icmpN (k := .ne) (off := 5) (tgt := 26) (by decide +kernel) (by decide) (cnd_ne _ _) (fun c3 => ?_) (fun c3 => ?_)
        · refine GE_run flG_T (pc1 := 4) (L1 := [some (.inl x0), some (.inl x1), some (.inl (x2 + 1)), some (.inl (x3 + 1))]) (S1 := []) (w1 := w) (P := True) [(.iinc 2 1, 0, 0, 1, 0), (.iinc 3 1, 0, 0, 1, 0), (.goto (-28), 0, 0, 0, 0)] (by decide +kernel) rfl trivial ?_
          exact GE_weak [true, true, true, true] (ih (x2 + 1) (x3 + 1) w)
        · refine GE_run flG_T (pc1 := 25) (L1 := [some (.inl x0), some (.inl x1), some (.inl x2), some (.inl x3)]) (S1 := [.inl x3]) (w1 := w) (P := True) [(.iload_n 3, 0, 0, 0, 0)] (by decide +kernel) rfl trivial ?_
          exact GE_iret rfl (by decide +kernel)
noncomputable def f_X5_nthOf (a1 : Int32) (a2 : Int32) (w : Mem) : Option (Int32 × Mem) := h_X5_nthOf_4 a1 a2 (fun w4 => some ((-1), w4)) FU 0 0 w
set_option maxRecDepth 100000 in
theorem t_X5_nthOf (l : Launch) (X : XC)  (a1 : Int32) (a2 : Int32) (w : Mem) : Ct l X 0 yX5_nthOf cX5_nthOf 4 (some .int) emI [.inl a1, .inl a2] 57 flT w (f_X5_nthOf a1 a2 w) := by
  refine Ct_of (mi := mm_X5_nthOf) (mik_X5 _ _ _) me_X5_nthOf rfl (okAs_cons rfl (okAs_cons rfl okAs_nil)) (Nat.le_of_ble_eq_true rfl) ?_
  unfold f_X5_nthOf
  refine GE_run flG_T (pc1 := 4) (L1 := [some (.inl a1), some (.inl a2), some (.inl 0), some (.inl 0)]) (S1 := []) (w1 := w) (P := True) [(.iconst 0, 0, 0, 0, 0), (.istore_n 2, 0, 0, 0, 0), (.iconst 0, 0, 0, 0, 0), (.istore_n 3, 0, 0, 0, 0)] (by decide +kernel) rfl trivial ?_
  refine GE_weak [true, true, true, true] (h_X5_nthOf_4_ok l X a1 a2 _ ?_ FU 0 0 w)
  · intro w4
    refine GE_run flG_T (pc1 := 36) (L1 := [none, none, none, none]) (S1 := [.inl (-1)]) (w1 := w4) (P := True) [(.iconst (-1), 0, 0, -1, 0)] (by decide +kernel) rfl trivial ?_
    exact GE_iret rfl (by decide +kernel)
