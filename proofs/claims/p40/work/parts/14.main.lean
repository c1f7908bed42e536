/-! the class, first half -/
abbrev mm_X4_count : MI := (RX4, cX4_count, 2, (some .int), ftp_X4.map (fun q => q.1), ctp_X4.map (fun q => q.1), clp_X4.map (fun q => q.1))
noncomputable def f_X4_count (a1 : Int32) (w : Mem) : Option (Int32 × Mem) := swE a1 0 [some (w 0 0 2, w), some (bcF (w 0 0 3), w), some (w 0 0 4, w), some (w 3 0 0, w), some (w 0 0 5, w), some (w 1 0 1, w)] (some ((-2), w))
set_option maxRecDepth 100000 in
theorem t_X4_count (l : Launch) (X : XC) {N9 : Nat} (hN : 39 ≤ N9)  (a1 : Int32) (w : Mem) : Ct l X 1 yX4_count cX4_count 2 (some .int) emI [.inr (.inr (some (4, 0))), .inl a1] N9 flT w (f_X4_count a1 w) := by
  refine Ct_of (mi := mm_X4_count) (mik_X4 _ _ _) me_X4_count rfl (okAs_cons (okMV hN (by decide)) (okAs_cons rfl okAs_nil)) (Nat.le_of_ble_eq_true rfl) ?_
  unfold f_X4_count
  refine GE_run (flG_T hN) (pc1 := 1) (L1 := [some (.inr (.inr (some (4, 0)))), some (.inl a1)]) (S1 := [.inl a1]) (w1 := w) (P := True) [(.iload_n 1, 0, 0, 0, 0)] (by decide +kernel) rfl trivial ?_
  refine GE_swm (dflt := 90) (lo := 0) (hi := 5) (offs := #[39, 47, 58, 66, 74, 82]) (len := 39) (dt := 91) (mm := 6) [40, 48, 59, 67, 75, 83] (by decide +kernel) rfl (by decide +kernel) (And.intro (fun _ => ?_) (And.intro (fun _ => ?_) (And.intro (fun _ => ?_) (And.intro (fun _ => ?_) (And.intro (fun _ => ?_) (And.intro (fun _ => ?_) (trivial))))))) ?_
  · refine GE_run (flG_T hN) (pc1 := 47) (L1 := [some (.inr (.inr (some (4, 0)))), some (.inl a1)]) (S1 := [.inl (w 0 0 2)]) (w1 := w) (P := True) [(.aload_n 0, 0, 0, 0, 0), (.getfield 28, 4, 2, 0, 0), (.getfield 45, 0, 2, 0, 0)] (by decide +kernel) rfl trivial ?_
    exact GE_iret rfl (by decide +kernel)
  · refine GE_run (flG_T hN) (pc1 := 55) (L1 := [some (.inr (.inr (some (4, 0)))), some (.inl a1)]) (S1 := [.inl (w 0 0 3)]) (w1 := w) (P := True) [(.aload_n 0, 0, 0, 0, 0), (.getfield 28, 4, 2, 0, 0), (.getfield 49, 0, 3, 0, 0)] (by decide +kernel) rfl trivial ?_
    refine GE_callSIp (As := [.inl (w 0 0 3)]) (S := []) (p_J6_bitCount l X hN (w 0 0 3) w) ⟨me_J6_bitCount_0f7a4, ms_J6_bitCount_0f7a4, lk_X4_52⟩ (by decide +kernel) rfl (by decide) (by decide) (Nat.le_of_ble_eq_true rfl) ?_
    exact GE_iret rfl (by decide +kernel)
  · refine GE_run (flG_T hN) (pc1 := 66) (L1 := [some (.inr (.inr (some (4, 0)))), some (.inl a1)]) (S1 := [.inl (w 0 0 4)]) (w1 := w) (P := True) [(.aload_n 0, 0, 0, 0, 0), (.getfield 28, 4, 2, 0, 0), (.getfield 58, 0, 4, 0, 0)] (by decide +kernel) rfl trivial ?_
    exact GE_iret rfl (by decide +kernel)
  · refine GE_run (flG_T hN) (pc1 := 74) (L1 := [some (.inr (.inr (some (4, 0)))), some (.inl a1)]) (S1 := [.inl (w 3 0 0)]) (w1 := w) (P := True) [(.aload_n 0, 0, 0, 0, 0), (.getfield 10, 4, 0, 0, 0), (.getfield 61, 3, 0, 0, 0)] (by decide +kernel) rfl trivial ?_
    exact GE_iret rfl (by decide +kernel)
  · refine GE_run (flG_T hN) (pc1 := 82) (L1 := [some (.inr (.inr (some (4, 0)))), some (.inl a1)]) (S1 := [.inl (w 0 0 5)]) (w1 := w) (P := True) [(.aload_n 0, 0, 0, 0, 0), (.getfield 28, 4, 2, 0, 0), (.getfield 64, 0, 5, 0, 0)] (by decide +kernel) rfl trivial ?_
    exact GE_iret rfl (by decide +kernel)
  · refine GE_run (flG_T hN) (pc1 := 90) (L1 := [some (.inr (.inr (some (4, 0)))), some (.inl a1)]) (S1 := [.inl (w 1 0 1)]) (w1 := w) (P := True) [(.aload_n 0, 0, 0, 0, 0), (.getfield 19, 4, 1, 0, 0), (.getfield 67, 1, 1, 0, 0)] (by decide +kernel) rfl trivial ?_
    exact GE_iret rfl (by decide +kernel)
  · refine GE_run (flG_T hN) (pc1 := 93) (L1 := [some (.inr (.inr (some (4, 0)))), some (.inl a1)]) (S1 := [.inl (-2)]) (w1 := w) (P := True) [(.bipush (-2), 0, 0, -2, 0)] (by decide +kernel) rfl trivial ?_
    exact GE_iret rfl (by decide +kernel)
abbrev mm_X4_shore : MI := (RX4, cX4_shore, 4, (some .int), ftp_X4.map (fun q => q.1), ctp_X4.map (fun q => q.1), clp_X4.map (fun q => q.1))
noncomputable def j_X4_shore_37   (x1 : Int32) (x2 : Int32) (x3 : Int32) (w : Mem) : Option (Int32 × Mem) := if x1 = 1 then (if (rng x2 0 65535) = 0 then (some (x3, w)) else (some (w 0 0 3, up w 0 0 3 x2))) else (some (x3, w))
set_option maxRecDepth 100000 in
theorem j_X4_shore_37_ok (l : Launch) (X : XC) {N9 : Nat} (hN : 39 ≤ N9)   (x1 : Int32) (x2 : Int32) (x3 : Int32)   (w : Mem) : GE l X mm_X4_shore 1 emI N9 flT (j_X4_shore_37 x1 x2 x3 w) 37 [some (.inr (.inr (some (4, 0)))), some (.inl x1), some (.inl x2), some (.inl x3)] [] w := by
  unfold j_X4_shore_37
  refine GE_run (flG_T hN) (pc1 := 39) (L1 := [some (.inr (.inr (some (4, 0)))), some (.inl x1), some (.inl x2), some (.inl x3)]) (S1 := [.inl 1, .inl x1]) (w1 := w) (P := True) [(.iload_n 1, 0, 0, 0, 0), (.iconst 1, 0, 0, 1, 0)] (by decide +kernel) rfl trivial ?_
  refine GE_icmpN (k := .ne) (off := 26) (tgt := 65) (by decide +kernel) (by decide) (cnd_ne _ _) (fun c3 => ?_) (fun c3 => ?_)
  · refine GE_run (flG_T hN) (pc1 := 66) (L1 := [some (.inr (.inr (some (4, 0)))), some (.inl x1), some (.inl x2), some (.inl x3)]) (S1 := [.inl x3]) (w1 := w) (P := True) [(.iload_n 3, 0, 0, 0, 0)] (by decide +kernel) rfl trivial ?_
    exact GE_iret rfl (by decide +kernel)
  · refine GE_run (flG_T hN) (pc1 := 43) (L1 := [some (.inr (.inr (some (4, 0)))), some (.inl x1), some (.inl x2), some (.inl x3)]) (S1 := [.inl x2]) (w1 := w) (P := True) [(.iload_n 2, 0, 0, 0, 0)] (by decide +kernel) rfl trivial ?_
    refine GE_callSIp (As := [.inl x2]) (S := []) (p_X4_isSet l X hN x2 w) ⟨me_X4_isSet, ms_X4_isSet, lk_X4_70⟩ (by decide +kernel) rfl (by decide) (by decide) (Nat.le_of_ble_eq_true rfl) ?_
    refine GE_if (k := .eq) (off := 19) (tgt := 65) (by decide +kernel) (by decide) (cnd_eq _ _) (fun c4 => ?_) (fun c4 => ?_)
    · refine GE_run (flG_T hN) (pc1 := 66) (L1 := [some (.inr (.inr (some (4, 0)))), some (.inl x1), some (.inl x2), some (.inl x3)]) (S1 := [.inl x3]) (w1 := w) (P := True) [(.iload_n 3, 0, 0, 0, 0)] (by decide +kernel) rfl trivial ?_
      exact GE_iret rfl (by decide +kernel)
    · refine GE_run (flG_T hN) (pc1 := 66) (L1 := [some (.inr (.inr (some (4, 0)))), some (.inl x1), some (.inl x2), some (.inl (w 0 0 3))]) (S1 := [.inl (w 0 0 3)]) (w1 := up w 0 0 3 x2) (P := True) [(.aload_n 0, 0, 0, 0, 0), (.getfield 28, 4, 2, 0, 0), (.getfield 49, 0, 3, 0, 0), (.istore_n 3, 0, 0, 0, 0), (.aload_n 0, 0, 0, 0, 0), (.getfield 28, 4, 2, 0, 0), (.iload_n 2, 0, 0, 0, 0), (.putfield 49, 0, 3, 0, 0), (.iload_n 3, 0, 0, 0, 0)] (by decide +kernel) rfl trivial ?_
      exact GE_iret rfl (by decide +kernel)
noncomputable def f_X4_shore (a1 : Int32) (a2 : Int32) (w : Mem) : Option (Int32 × Mem) := if a1 = 0 then (if a2 < 0 then (j_X4_shore_37 a1 a2 (-2) w) else (if a2 ≤ 999 then (some (w 0 0 4, up w 0 0 4 a2)) else (j_X4_shore_37 a1 a2 (-2) w))) else (j_X4_shore_37 a1 a2 (-2) w)
set_option maxRecDepth 100000 in
theorem t_X4_shore (l : Launch) (X : XC) {N9 : Nat} (hN : 39 ≤ N9)  (a1 : Int32) (a2 : Int32) (w : Mem) : Ct l X 1 yX4_shore cX4_shore 4 (some .int) emI [.inr (.inr (some (4, 0))), .inl a1, .inl a2] N9 flT w (f_X4_shore a1 a2 w) := by
  refine Ct_of (mi := mm_X4_shore) (mik_X4 _ _ _) me_X4_shore rfl (okAs_cons (okMV hN (by decide)) (okAs_cons rfl (okAs_cons rfl okAs_nil))) (Nat.le_of_ble_eq_true rfl) ?_
  unfold f_X4_shore
  refine GE_run (flG_T hN) (pc1 := 4) (L1 := [some (.inr (.inr (some (4, 0)))), some (.inl a1), some (.inl a2), some (.inl (-2))]) (S1 := [.inl a1]) (w1 := w) (P := True) [(.bipush (-2), 0, 0, -2, 0), (.istore_n 3, 0, 0, 0, 0), (.iload_n 1, 0, 0, 0, 0)] (by decide +kernel) rfl trivial ?_
  refine GE_ifN (k := .ne) (off := 33) (tgt := 37) (by decide +kernel) (by decide) (cnd_ne _ _) (fun c1 => ?_) (fun c1 => ?_)
  · exact GE_weak [true, true, true, true] (j_X4_shore_37_ok l X hN a1 a2 (-2) w)
  · refine GE_run (flG_T hN) (pc1 := 8) (L1 := [some (.inr (.inr (some (4, 0)))), some (.inl a1), some (.inl a2), some (.inl (-2))]) (S1 := [.inl a2]) (w1 := w) (P := True) [(.iload_n 2, 0, 0, 0, 0)] (by decide +kernel) rfl trivial ?_
    refine GE_if (k := .lt) (off := 29) (tgt := 37) (by decide +kernel) (by decide) (cnd_lt _ _) (fun c2 => ?_) (fun c2 => ?_)
    · exact GE_weak [true, true, true, true] (j_X4_shore_37_ok l X hN a1 a2 (-2) w)
    · refine GE_run (flG_T hN) (pc1 := 15) (L1 := [some (.inr (.inr (some (4, 0)))), some (.inl a1), some (.inl a2), some (.inl (-2))]) (S1 := [.inl 999, .inl a2]) (w1 := w) (P := True) [(.iload_n 2, 0, 0, 0, 0), (.sipush 999, 0, 0, 999, 0)] (by decide +kernel) rfl trivial ?_
      refine GE_icmpN (k := .gt) (off := 22) (tgt := 37) (by decide +kernel) (by decide) (cnd_gt _ _) (fun c5 => ?_) (fun c5 => ?_)
      · exact GE_weak [true, true, true, true] (j_X4_shore_37_ok l X hN a1 a2 (-2) w)
      · refine GE_run (flG_T hN) (pc1 := 66) (L1 := [some (.inr (.inr (some (4, 0)))), some (.inl a1), some (.inl a2), some (.inl (w 0 0 4))]) (S1 := [.inl (w 0 0 4)]) (w1 := up w 0 0 4 a2) (P := True) [(.aload_n 0, 0, 0, 0, 0), (.getfield 28, 4, 2, 0, 0), (.getfield 58, 0, 4, 0, 0), (.istore_n 3, 0, 0, 0, 0), (.aload_n 0, 0, 0, 0, 0), (.getfield 28, 4, 2, 0, 0), (.iload_n 2, 0, 0, 0, 0), (.putfield 58, 0, 4, 0, 0), (.goto 31, 0, 0, 0, 0), (.iload_n 3, 0, 0, 0, 0)] (by decide +kernel) rfl trivial ?_
        exact GE_iret rfl (by decide +kernel)
abbrev mm_X4_force : MI := (RX4, cX4_force, 3, (some .int), ftp_X4.map (fun q => q.1), ctp_X4.map (fun q => q.1), clp_X4.map (fun q => q.1))
noncomputable def f_X4_force (a1 : Int32) (w : Mem) : Option (Int32 × Mem) := if a1 < 0 then (some ((-2), w)) else (if a1 < (w 3 0 0) then (some (w 0 0 5, up w 0 0 5 a1)) else (some ((-2), w)))
set_option maxRecDepth 100000 in
theorem t_X4_force (l : Launch) (X : XC) {N9 : Nat} (hN : 39 ≤ N9)  (a1 : Int32) (w : Mem) : Ct l X 0 yX4_force cX4_force 3 (some .int) emI [.inr (.inr (some (4, 0))), .inl a1] N9 flT w (f_X4_force a1 w) := by
  refine Ct_of (mi := mm_X4_force) (mik_X4 _ _ _) me_X4_force rfl (okAs_cons (okMV hN (by decide)) (okAs_cons rfl okAs_nil)) (Nat.le_of_ble_eq_true rfl) ?_
  unfold f_X4_force
  refine GE_run (flG_T hN) (pc1 := 1) (L1 := [some (.inr (.inr (some (4, 0)))), some (.inl a1), none]) (S1 := [.inl a1]) (w1 := w) (P := True) [(.iload_n 1, 0, 0, 0, 0)] (by decide +kernel) rfl trivial ?_
  refine GE_if (k := .lt) (off := 14) (tgt := 15) (by decide +kernel) (by decide) (cnd_lt _ _) (fun c1 => ?_) (fun c1 => ?_)
  · refine GE_run (flG_T hN) (pc1 := 17) (L1 := [some (.inr (.inr (some (4, 0)))), some (.inl a1), none]) (S1 := [.inl (-2)]) (w1 := w) (P := True) [(.bipush (-2), 0, 0, -2, 0)] (by decide +kernel) rfl trivial ?_
    exact GE_iret rfl (by decide +kernel)
  · refine GE_run (flG_T hN) (pc1 := 12) (L1 := [some (.inr (.inr (some (4, 0)))), some (.inl a1), none]) (S1 := [.inl (w 3 0 0), .inl a1]) (w1 := w) (P := True) [(.iload_n 1, 0, 0, 0, 0), (.aload_n 0, 0, 0, 0, 0), (.getfield 10, 4, 0, 0, 0), (.getfield 61, 3, 0, 0, 0)] (by decide +kernel) rfl trivial ?_
    refine GE_icmp (k := .lt) (off := 6) (tgt := 18) (by decide +kernel) (by decide) (cnd_lt _ _) (fun c2 => ?_) (fun c2 => ?_)
    · refine GE_run (flG_T hN) (pc1 := 35) (L1 := [some (.inr (.inr (some (4, 0)))), some (.inl a1), some (.inl (w 0 0 5))]) (S1 := [.inl (w 0 0 5)]) (w1 := up w 0 0 5 a1) (P := True) [(.aload_n 0, 0, 0, 0, 0), (.getfield 28, 4, 2, 0, 0), (.getfield 64, 0, 5, 0, 0), (.istore_n 2, 0, 0, 0, 0), (.aload_n 0, 0, 0, 0, 0), (.getfield 28, 4, 2, 0, 0), (.iload_n 1, 0, 0, 0, 0), (.putfield 64, 0, 5, 0, 0), (.iload_n 2, 0, 0, 0, 0)] (by decide +kernel) rfl trivial ?_
      exact GE_iret rfl (by decide +kernel)
    · refine GE_run (flG_T hN) (pc1 := 17) (L1 := [some (.inr (.inr (some (4, 0)))), some (.inl a1), none]) (S1 := [.inl (-2)]) (w1 := w) (P := True) [(.bipush (-2), 0, 0, -2, 0)] (by decide +kernel) rfl trivial ?_
      exact GE_iret rfl (by decide +kernel)
abbrev mm_X4_fisher : MI := (RX4, cX4_fisher, 3, (some .int), ftp_X4.map (fun q => q.1), ctp_X4.map (fun q => q.1), clp_X4.map (fun q => q.1))
noncomputable def f_X4_fisher (a1 : Int32) (a2 : Int32) (w : Mem) : Option (Int32 × Mem) := if a1 < 0 then (some ((-2), w)) else (if a1 < 60 then (if (rng a2 0 65535) = 0 then (some ((-2), w)) else (if (w 0 0 2) < 6 then (if ¬ (10 : Int32) = 0 then (if ¬ (10 : Int32) = 0 then (Option.bind (f_X0_comes 0 (a1 / 10) (rmI a1 10) a2 w) (fun r7 => some (r7.1, r7.2))) else none) else none) else (some ((-4), w)))) else (some ((-2), w)))
set_option maxRecDepth 100000 in
theorem t_X4_fisher (l : Launch) (X : XC) {N9 : Nat} (hN : 39 ≤ N9)  (a1 : Int32) (a2 : Int32) (w : Mem) : Ct l X 2 yX4_fisher cX4_fisher 3 (some .int) emI [.inr (.inr (some (4, 0))), .inl a1, .inl a2] N9 flT w (f_X4_fisher a1 a2 w) := by
  refine Ct_of (mi := mm_X4_fisher) (mik_X4 _ _ _) me_X4_fisher rfl (okAs_cons (okMV hN (by decide)) (okAs_cons rfl (okAs_cons rfl okAs_nil))) (Nat.le_of_ble_eq_true rfl) ?_
  unfold f_X4_fisher
  refine GE_run (flG_T hN) (pc1 := 1) (L1 := [some (.inr (.inr (some (4, 0)))), some (.inl a1), some (.inl a2)]) (S1 := [.inl a1]) (w1 := w) (P := True) [(.iload_n 1, 0, 0, 0, 0)] (by decide +kernel) rfl trivial ?_
  refine GE_if (k := .lt) (off := 16) (tgt := 17) (by decide +kernel) (by decide) (cnd_lt _ _) (fun c1 => ?_) (fun c1 => ?_)
  · refine GE_run (flG_T hN) (pc1 := 19) (L1 := [some (.inr (.inr (some (4, 0)))), some (.inl a1), some (.inl a2)]) (S1 := [.inl (-2)]) (w1 := w) (P := True) [(.bipush (-2), 0, 0, -2, 0)] (by decide +kernel) rfl trivial ?_
    exact GE_iret rfl (by decide +kernel)
  · refine GE_run (flG_T hN) (pc1 := 7) (L1 := [some (.inr (.inr (some (4, 0)))), some (.inl a1), some (.inl a2)]) (S1 := [.inl 60, .inl a1]) (w1 := w) (P := True) [(.iload_n 1, 0, 0, 0, 0), (.bipush 60, 0, 0, 60, 0)] (by decide +kernel) rfl trivial ?_
    refine GE_icmpN (k := .ge) (off := 10) (tgt := 17) (by decide +kernel) (by decide) (cnd_ge _ _) (fun c2 => ?_) (fun c2 => ?_)
    · refine GE_run (flG_T hN) (pc1 := 19) (L1 := [some (.inr (.inr (some (4, 0)))), some (.inl a1), some (.inl a2)]) (S1 := [.inl (-2)]) (w1 := w) (P := True) [(.bipush (-2), 0, 0, -2, 0)] (by decide +kernel) rfl trivial ?_
      exact GE_iret rfl (by decide +kernel)
    · refine GE_run (flG_T hN) (pc1 := 11) (L1 := [some (.inr (.inr (some (4, 0)))), some (.inl a1), some (.inl a2)]) (S1 := [.inl a2]) (w1 := w) (P := True) [(.iload_n 2, 0, 0, 0, 0)] (by decide +kernel) rfl trivial ?_
      refine GE_callSIp (As := [.inl a2]) (S := []) (p_X4_isSet l X hN a2 w) ⟨me_X4_isSet, ms_X4_isSet, lk_X4_70⟩ (by decide +kernel) rfl (by decide) (by decide) (Nat.le_of_ble_eq_true rfl) ?_
      refine GE_ifN (k := .ne) (off := 6) (tgt := 20) (by decide +kernel) (by decide) (cnd_ne _ _) (fun c3 => ?_) (fun c3 => ?_)
      · refine GE_run (flG_T hN) (pc1 := 29) (L1 := [some (.inr (.inr (some (4, 0)))), some (.inl a1), some (.inl a2)]) (S1 := [.inl 6, .inl (w 0 0 2)]) (w1 := w) (P := True) [(.aload_n 0, 0, 0, 0, 0), (.getfield 28, 4, 2, 0, 0), (.getfield 45, 0, 2, 0, 0), (.bipush 6, 0, 0, 6, 0)] (by decide +kernel) rfl trivial ?_
        refine GE_icmp (k := .lt) (off := 6) (tgt := 35) (by decide +kernel) (by decide) (cnd_lt _ _) (fun c4 => ?_) (fun c4 => ?_)
        · refine GE_chk (fun h5 => ?_)
          refine GE_chk (fun h6 => ?_)
          refine GE_run (flG_T hN) (pc1 := 48) (L1 := [some (.inr (.inr (some (4, 0)))), some (.inl a1), some (.inl a2)]) (S1 := [.inl a2, .inl (rmI a1 10), .inl (a1 / 10), .inr (.inr (some (0, 0)))]) (w1 := w) (P := (¬ (10 : Int32) = 0) ∧ (¬ (10 : Int32) = 0) ∧ True) [(.aload_n 0, 0, 0, 0, 0), (.getfield 28, 4, 2, 0, 0), (.iload_n 1, 0, 0, 0, 0), (.bipush 10, 0, 0, 10, 0), (.idiv, 0, 0, 0, 0), (.iload_n 1, 0, 0, 0, 0), (.bipush 10, 0, 0, 10, 0), (.irem, 0, 0, 0, 0), (.iload_n 2, 0, 0, 0, 0)] (by decide +kernel) rfl ⟨h5, h6, trivial⟩ ?_
          refine GE_callVI (As := [.inl (a1 / 10), .inl (rmI a1 10), .inl a2]) (k := 0) (i := 0) (S := []) (t_X0_comes l X hN 0 (a1 / 10) (rmI a1 10) a2 (by decide) w) (by decide) ⟨me_X0_comes, mi_X0_comes, mv_X0_comes, lk_X4_105⟩ rfl (by decide +kernel) rfl (by decide) (by decide) (Nat.le_of_ble_eq_true rfl) (fun r7 _ => ?_)
          exact GE_iret rfl (by decide +kernel)
        · refine GE_run (flG_T hN) (pc1 := 34) (L1 := [some (.inr (.inr (some (4, 0)))), some (.inl a1), some (.inl a2)]) (S1 := [.inl (-4)]) (w1 := w) (P := True) [(.bipush (-4), 0, 0, -4, 0)] (by decide +kernel) rfl trivial ?_
          exact GE_iret rfl (by decide +kernel)
      · refine GE_run (flG_T hN) (pc1 := 19) (L1 := [some (.inr (.inr (some (4, 0)))), some (.inl a1), some (.inl a2)]) (S1 := [.inl (-2)]) (w1 := w) (P := True) [(.bipush (-2), 0, 0, -2, 0)] (by decide +kernel) rfl trivial ?_
        exact GE_iret rfl (by decide +kernel)
abbrev mm_X4_put : MI := (RX4, cX4_put, 4, (some .int), ftp_X4.map (fun q => q.1), ctp_X4.map (fun q => q.1), clp_X4.map (fun q => q.1))
noncomputable def j_X4_put_63   (x1 : Int32) (x2 : Int32) (x3 : Int32) (w : Mem) : Option (Int32 × Mem) := if x2 = 2 then (if x3 < 0 then (some ((-7), w)) else (if x3 ≤ 99 then (some (atV w 17 0 x1, setV w 17 0 x1 x3)) else (some ((-7), w)))) else (some ((-7), w))
set_option maxRecDepth 100000 in
theorem j_X4_put_63_ok (l : Launch) (X : XC) {N9 : Nat} (hN : 39 ≤ N9)   (x1 : Int32) (x2 : Int32) (x3 : Int32)   (w : Mem) : GE l X mm_X4_put 2 emI N9 flT (j_X4_put_63 x1 x2 x3 w) 63 [some (.inr (.inr (some (4, 0)))), some (.inl x1), some (.inl x2), some (.inl x3)] [] w := by
  unfold j_X4_put_63
  refine GE_run (flG_T hN) (pc1 := 65) (L1 := [some (.inr (.inr (some (4, 0)))), some (.inl x1), some (.inl x2), some (.inl x3)]) (S1 := [.inl 2, .inl x2]) (w1 := w) (P := True) [(.iload_n 2, 0, 0, 0, 0), (.iconst 2, 0, 0, 2, 0)] (by decide +kernel) rfl trivial ?_
  refine GE_icmpN (k := .ne) (off := 26) (tgt := 91) (by decide +kernel) (by decide) (cnd_ne _ _) (fun c6 => ?_) (fun c6 => ?_)
  · refine GE_run (flG_T hN) (pc1 := 93) (L1 := [some (.inr (.inr (some (4, 0)))), some (.inl x1), some (.inl x2), some (.inl x3)]) (S1 := [.inl (-7)]) (w1 := w) (P := True) [(.bipush (-7), 0, 0, -7, 0)] (by decide +kernel) rfl trivial ?_
    exact GE_iret rfl (by decide +kernel)
  · refine GE_run (flG_T hN) (pc1 := 69) (L1 := [some (.inr (.inr (some (4, 0)))), some (.inl x1), some (.inl x2), some (.inl x3)]) (S1 := [.inl x3]) (w1 := w) (P := True) [(.iload_n 3, 0, 0, 0, 0)] (by decide +kernel) rfl trivial ?_
    refine GE_if (k := .lt) (off := 22) (tgt := 91) (by decide +kernel) (by decide) (cnd_lt _ _) (fun c7 => ?_) (fun c7 => ?_)
    · refine GE_run (flG_T hN) (pc1 := 93) (L1 := [some (.inr (.inr (some (4, 0)))), some (.inl x1), some (.inl x2), some (.inl x3)]) (S1 := [.inl (-7)]) (w1 := w) (P := True) [(.bipush (-7), 0, 0, -7, 0)] (by decide +kernel) rfl trivial ?_
      exact GE_iret rfl (by decide +kernel)
    · refine GE_run (flG_T hN) (pc1 := 75) (L1 := [some (.inr (.inr (some (4, 0)))), some (.inl x1), some (.inl x2), some (.inl x3)]) (S1 := [.inl 99, .inl x3]) (w1 := w) (P := True) [(.iload_n 3, 0, 0, 0, 0), (.bipush 99, 0, 0, 99, 0)] (by decide +kernel) rfl trivial ?_
      refine GE_icmpN (k := .gt) (off := 16) (tgt := 91) (by decide +kernel) (by decide) (cnd_gt _ _) (fun c8 => ?_) (fun c8 => ?_)
      · refine GE_run (flG_T hN) (pc1 := 93) (L1 := [some (.inr (.inr (some (4, 0)))), some (.inl x1), some (.inl x2), some (.inl x3)]) (S1 := [.inl (-7)]) (w1 := w) (P := True) [(.bipush (-7), 0, 0, -7, 0)] (by decide +kernel) rfl trivial ?_
        exact GE_iret rfl (by decide +kernel)
      · refine GE_run (flG_T hN) (pc1 := 87) (L1 := [some (.inr (.inr (some (4, 0)))), some (.inl x1), some (.inl x2), some (.inl x3)]) (S1 := [.inl x3, .inl x1, .inr (.inr (some (17, 0)))]) (w1 := w) (P := True) [(.aload_n 0, 0, 0, 0, 0), (.getfield 28, 4, 2, 0, 0), (.getfield 117, 0, 10, 0, 0), (.iload_n 1, 0, 0, 0, 0), (.iload_n 3, 0, 0, 0, 0)] (by decide +kernel) rfl trivial ?_
        refine GE_callSIp (As := [.inr (.inr (some (17, 0))), .inl x1, .inl x3]) (S := []) (p_X4_swap l X hN 17 0 x1 x3 (by decide) (okM hN (by decide)) w) ⟨me_X4_swap, ms_X4_swap, lk_X4_111⟩ (by decide +kernel) rfl (by decide) (by decide) (Nat.le_of_ble_eq_true rfl) ?_
        exact GE_iret rfl (by decide +kernel)
noncomputable def j_X4_put_38   (x1 : Int32) (x2 : Int32) (x3 : Int32) (w : Mem) : Option (Int32 × Mem) := if x2 = 1 then (if (rng x3 0 65535) = 0 then (j_X4_put_63 x1 x2 x3 w) else (some (atV w 16 0 x1, setV w 16 0 x1 x3))) else (j_X4_put_63 x1 x2 x3 w)
set_option maxRecDepth 100000 in
theorem j_X4_put_38_ok (l : Launch) (X : XC) {N9 : Nat} (hN : 39 ≤ N9)   (x1 : Int32) (x2 : Int32) (x3 : Int32)   (w : Mem) : GE l X mm_X4_put 2 emI N9 flT (j_X4_put_38 x1 x2 x3 w) 38 [some (.inr (.inr (some (4, 0)))), some (.inl x1), some (.inl x2), some (.inl x3)] [] w := by
  unfold j_X4_put_38
  refine GE_run (flG_T hN) (pc1 := 40) (L1 := [some (.inr (.inr (some (4, 0)))), some (.inl x1), some (.inl x2), some (.inl x3)]) (S1 := [.inl 1, .inl x2]) (w1 := w) (P := True) [(.iload_n 2, 0, 0, 0, 0), (.iconst 1, 0, 0, 1, 0)] (by decide +kernel) rfl trivial ?_
  refine GE_icmpN (k := .ne) (off := 23) (tgt := 63) (by decide +kernel) (by decide) (cnd_ne _ _) (fun c4 => ?_) (fun c4 => ?_)
  · exact GE_weak [true, true, true, true] (j_X4_put_63_ok l X hN x1 x2 x3 w)
  · refine GE_run (flG_T hN) (pc1 := 44) (L1 := [some (.inr (.inr (some (4, 0)))), some (.inl x1), some (.inl x2), some (.inl x3)]) (S1 := [.inl x3]) (w1 := w) (P := True) [(.iload_n 3, 0, 0, 0, 0)] (by decide +kernel) rfl trivial ?_
    refine GE_callSIp (As := [.inl x3]) (S := []) (p_X4_isSet l X hN x3 w) ⟨me_X4_isSet, ms_X4_isSet, lk_X4_70⟩ (by decide +kernel) rfl (by decide) (by decide) (Nat.le_of_ble_eq_true rfl) ?_
    refine GE_if (k := .eq) (off := 16) (tgt := 63) (by decide +kernel) (by decide) (cnd_eq _ _) (fun c5 => ?_) (fun c5 => ?_)
    · exact GE_weak [true, true, true, true] (j_X4_put_63_ok l X hN x1 x2 x3 w)
    · refine GE_run (flG_T hN) (pc1 := 59) (L1 := [some (.inr (.inr (some (4, 0)))), some (.inl x1), some (.inl x2), some (.inl x3)]) (S1 := [.inl x3, .inl x1, .inr (.inr (some (16, 0)))]) (w1 := w) (P := True) [(.aload_n 0, 0, 0, 0, 0), (.getfield 28, 4, 2, 0, 0), (.getfield 115, 0, 9, 0, 0), (.iload_n 1, 0, 0, 0, 0), (.iload_n 3, 0, 0, 0, 0)] (by decide +kernel) rfl trivial ?_
      refine GE_callSIp (As := [.inr (.inr (some (16, 0))), .inl x1, .inl x3]) (S := []) (p_X4_swap l X hN 16 0 x1 x3 (by decide) (okM hN (by decide)) w) ⟨me_X4_swap, ms_X4_swap, lk_X4_111⟩ (by decide +kernel) rfl (by decide) (by decide) (Nat.le_of_ble_eq_true rfl) ?_
      exact GE_iret rfl (by decide +kernel)
noncomputable def f_X4_put (a1 : Int32) (a2 : Int32) (a3 : Int32) (w : Mem) : Option (Int32 × Mem) := if (hasF a1 (w 0 0 2)) = 0 then (some ((-5), w)) else (if a2 = 0 then (if (rng a3 0 65535) = 0 then (j_X4_put_38 a1 a2 a3 w) else (some (atV w 15 0 a1, setV w 15 0 a1 a3))) else (j_X4_put_38 a1 a2 a3 w))
set_option maxRecDepth 100000 in
theorem t_X4_put (l : Launch) (X : XC) {N9 : Nat} (hN : 39 ≤ N9)  (a1 : Int32) (a2 : Int32) (a3 : Int32) (w : Mem) : Ct l X 2 yX4_put cX4_put 4 (some .int) emI [.inr (.inr (some (4, 0))), .inl a1, .inl a2, .inl a3] N9 flT w (f_X4_put a1 a2 a3 w) := by
  refine Ct_of (mi := mm_X4_put) (mik_X4 _ _ _) me_X4_put rfl (okAs_cons (okMV hN (by decide)) (okAs_cons rfl (okAs_cons rfl (okAs_cons rfl okAs_nil)))) (Nat.le_of_ble_eq_true rfl) ?_
  unfold f_X4_put
  refine GE_run (flG_T hN) (pc1 := 5) (L1 := [some (.inr (.inr (some (4, 0)))), some (.inl a1), some (.inl a2), some (.inl a3)]) (S1 := [.inl a1, .inr (.inr (some (0, 0)))]) (w1 := w) (P := True) [(.aload_n 0, 0, 0, 0, 0), (.getfield 28, 4, 2, 0, 0), (.iload_n 1, 0, 0, 0, 0)] (by decide +kernel) rfl trivial ?_
  refine GE_callVIp (As := [.inl a1]) (k := 0) (i := 0) (S := []) (p_X0_has l X hN 0 a1 (by decide) w) (by decide) ⟨me_X0_has, mi_X0_has, mv_X0_has, lk_X4_95⟩ rfl (by decide +kernel) rfl (by decide) (by decide) (Nat.le_of_ble_eq_true rfl) ?_
  refine GE_ifN (k := .ne) (off := 6) (tgt := 14) (by decide +kernel) (by decide) (cnd_ne _ _) (fun c1 => ?_) (fun c1 => ?_)
  · refine GE_run (flG_T hN) (pc1 := 15) (L1 := [some (.inr (.inr (some (4, 0)))), some (.inl a1), some (.inl a2), some (.inl a3)]) (S1 := [.inl a2]) (w1 := w) (P := True) [(.iload_n 2, 0, 0, 0, 0)] (by decide +kernel) rfl trivial ?_
    refine GE_ifN (k := .ne) (off := 23) (tgt := 38) (by decide +kernel) (by decide) (cnd_ne _ _) (fun c2 => ?_) (fun c2 => ?_)
    · exact GE_weak [true, true, true, true] (j_X4_put_38_ok l X hN a1 a2 a3 w)
    · refine GE_run (flG_T hN) (pc1 := 19) (L1 := [some (.inr (.inr (some (4, 0)))), some (.inl a1), some (.inl a2), some (.inl a3)]) (S1 := [.inl a3]) (w1 := w) (P := True) [(.iload_n 3, 0, 0, 0, 0)] (by decide +kernel) rfl trivial ?_
      refine GE_callSIp (As := [.inl a3]) (S := []) (p_X4_isSet l X hN a3 w) ⟨me_X4_isSet, ms_X4_isSet, lk_X4_70⟩ (by decide +kernel) rfl (by decide) (by decide) (Nat.le_of_ble_eq_true rfl) ?_
      refine GE_if (k := .eq) (off := 16) (tgt := 38) (by decide +kernel) (by decide) (cnd_eq _ _) (fun c3 => ?_) (fun c3 => ?_)
      · exact GE_weak [true, true, true, true] (j_X4_put_38_ok l X hN a1 a2 a3 w)
      · refine GE_run (flG_T hN) (pc1 := 34) (L1 := [some (.inr (.inr (some (4, 0)))), some (.inl a1), some (.inl a2), some (.inl a3)]) (S1 := [.inl a3, .inl a1, .inr (.inr (some (15, 0)))]) (w1 := w) (P := True) [(.aload_n 0, 0, 0, 0, 0), (.getfield 28, 4, 2, 0, 0), (.getfield 108, 0, 8, 0, 0), (.iload_n 1, 0, 0, 0, 0), (.iload_n 3, 0, 0, 0, 0)] (by decide +kernel) rfl trivial ?_
        refine GE_callSIp (As := [.inr (.inr (some (15, 0))), .inl a1, .inl a3]) (S := []) (p_X4_swap l X hN 15 0 a1 a3 (by decide) (okM hN (by decide)) w) ⟨me_X4_swap, ms_X4_swap, lk_X4_111⟩ (by decide +kernel) rfl (by decide) (by decide) (Nat.le_of_ble_eq_true rfl) ?_
        exact GE_iret rfl (by decide +kernel)
  · refine GE_run (flG_T hN) (pc1 := 13) (L1 := [some (.inr (.inr (some (4, 0)))), some (.inl a1), some (.inl a2), some (.inl a3)]) (S1 := [.inl (-5)]) (w1 := w) (P := True) [(.bipush (-5), 0, 0, -5, 0)] (by decide +kernel) rfl trivial ?_
    exact GE_iret rfl (by decide +kernel)
abbrev mm_X4_told : MI := (RX4, cX4_told, 3, (some .int), ftp_X4.map (fun q => q.1), ctp_X4.map (fun q => q.1), clp_X4.map (fun q => q.1))
noncomputable def f_X4_told (a1 : Int32) (a2 : Int32) (w : Mem) : Option (Int32 × Mem) := if (hasF a1 (w 0 0 2)) = 0 then (some ((-5), w)) else (swE a2 0 [some (atV w 15 0 a1, w), some (atV w 16 0 a1, w), some (atV w 17 0 a1, w), some (atV w 13 0 a1, w), some (atV w 14 0 a1, w), Option.bind (f_X0_nameless 0 a1 w) (fun r2 => some (r2.1, r2.2)), Option.bind (f_X0_takesOf 0 a1 w) (fun r3 => some (r3.1, r3.2))] (some ((-7), w)))
set_option maxRecDepth 100000 in
theorem t_X4_told (l : Launch) (X : XC) {N9 : Nat} (hN : 39 ≤ N9)  (a1 : Int32) (a2 : Int32) (w : Mem) : Ct l X 4 yX4_told cX4_told 3 (some .int) emI [.inr (.inr (some (4, 0))), .inl a1, .inl a2] N9 flT w (f_X4_told a1 a2 w) := by
  refine Ct_of (mi := mm_X4_told) (mik_X4 _ _ _) me_X4_told rfl (okAs_cons (okMV hN (by decide)) (okAs_cons rfl (okAs_cons rfl okAs_nil))) (Nat.le_of_ble_eq_true rfl) ?_
  unfold f_X4_told
  refine GE_run (flG_T hN) (pc1 := 5) (L1 := [some (.inr (.inr (some (4, 0)))), some (.inl a1), some (.inl a2)]) (S1 := [.inl a1, .inr (.inr (some (0, 0)))]) (w1 := w) (P := True) [(.aload_n 0, 0, 0, 0, 0), (.getfield 28, 4, 2, 0, 0), (.iload_n 1, 0, 0, 0, 0)] (by decide +kernel) rfl trivial ?_
  refine GE_callVIp (As := [.inl a1]) (k := 0) (i := 0) (S := []) (p_X0_has l X hN 0 a1 (by decide) w) (by decide) ⟨me_X0_has, mi_X0_has, mv_X0_has, lk_X4_95⟩ rfl (by decide +kernel) rfl (by decide) (by decide) (Nat.le_of_ble_eq_true rfl) ?_
  refine GE_ifN (k := .ne) (off := 6) (tgt := 14) (by decide +kernel) (by decide) (cnd_ne _ _) (fun c1 => ?_) (fun c1 => ?_)
  · refine GE_run (flG_T hN) (pc1 := 15) (L1 := [some (.inr (.inr (some (4, 0)))), some (.inl a1), some (.inl a2)]) (S1 := [.inl a2]) (w1 := w) (P := True) [(.iload_n 2, 0, 0, 0, 0)] (by decide +kernel) rfl trivial ?_
    refine GE_swm (dflt := 119) (lo := 0) (hi := 6) (offs := #[41, 53, 65, 77, 89, 101, 110]) (len := 41) (dt := 134) (mm := 7) [56, 68, 80, 92, 104, 116, 125] (by decide +kernel) rfl (by decide +kernel) (And.intro (fun _ => ?_) (And.intro (fun _ => ?_) (And.intro (fun _ => ?_) (And.intro (fun _ => ?_) (And.intro (fun _ => ?_) (And.intro (fun _ => ?_) (And.intro (fun _ => ?_) (trivial)))))))) ?_
    · refine GE_run (flG_T hN) (pc1 := 64) (L1 := [some (.inr (.inr (some (4, 0)))), some (.inl a1), some (.inl a2)]) (S1 := [.inl a1, .inr (.inr (some (15, 0)))]) (w1 := w) (P := True) [(.aload_n 0, 0, 0, 0, 0), (.getfield 28, 4, 2, 0, 0), (.getfield 108, 0, 8, 0, 0), (.iload_n 1, 0, 0, 0, 0)] (by decide +kernel) rfl trivial ?_
      refine GE_callSIp (As := [.inr (.inr (some (15, 0))), .inl a1]) (S := []) (p_X4_at l X hN 15 0 a1 (by decide) (okM hN (by decide)) w) ⟨me_X4_at, ms_X4_at, lk_X4_120⟩ (by decide +kernel) rfl (by decide) (by decide) (Nat.le_of_ble_eq_true rfl) ?_
      exact GE_iret rfl (by decide +kernel)
    · refine GE_run (flG_T hN) (pc1 := 76) (L1 := [some (.inr (.inr (some (4, 0)))), some (.inl a1), some (.inl a2)]) (S1 := [.inl a1, .inr (.inr (some (16, 0)))]) (w1 := w) (P := True) [(.aload_n 0, 0, 0, 0, 0), (.getfield 28, 4, 2, 0, 0), (.getfield 115, 0, 9, 0, 0), (.iload_n 1, 0, 0, 0, 0)] (by decide +kernel) rfl trivial ?_
      refine GE_callSIp (As := [.inr (.inr (some (16, 0))), .inl a1]) (S := []) (p_X4_at l X hN 16 0 a1 (by decide) (okM hN (by decide)) w) ⟨me_X4_at, ms_X4_at, lk_X4_120⟩ (by decide +kernel) rfl (by decide) (by decide) (Nat.le_of_ble_eq_true rfl) ?_
      exact GE_iret rfl (by decide +kernel)
    · refine GE_run (flG_T hN) (pc1 := 88) (L1 := [some (.inr (.inr (some (4, 0)))), some (.inl a1), some (.inl a2)]) (S1 := [.inl a1, .inr (.inr (some (17, 0)))]) (w1 := w) (P := True) [(.aload_n 0, 0, 0, 0, 0), (.getfield 28, 4, 2, 0, 0), (.getfield 117, 0, 10, 0, 0), (.iload_n 1, 0, 0, 0, 0)] (by decide +kernel) rfl trivial ?_
      refine GE_callSIp (As := [.inr (.inr (some (17, 0))), .inl a1]) (S := []) (p_X4_at l X hN 17 0 a1 (by decide) (okM hN (by decide)) w) ⟨me_X4_at, ms_X4_at, lk_X4_120⟩ (by decide +kernel) rfl (by decide) (by decide) (Nat.le_of_ble_eq_true rfl) ?_
      exact GE_iret rfl (by decide +kernel)
    · refine GE_run (flG_T hN) (pc1 := 100) (L1 := [some (.inr (.inr (some (4, 0)))), some (.inl a1), some (.inl a2)]) (S1 := [.inl a1, .inr (.inr (some (13, 0)))]) (w1 := w) (P := True) [(.aload_n 0, 0, 0, 0, 0), (.getfield 28, 4, 2, 0, 0), (.getfield 124, 0, 6, 0, 0), (.iload_n 1, 0, 0, 0, 0)] (by decide +kernel) rfl trivial ?_
      refine GE_callSIp (As := [.inr (.inr (some (13, 0))), .inl a1]) (S := []) (p_X4_at l X hN 13 0 a1 (by decide) (okM hN (by decide)) w) ⟨me_X4_at, ms_X4_at, lk_X4_120⟩ (by decide +kernel) rfl (by decide) (by decide) (Nat.le_of_ble_eq_true rfl) ?_
      exact GE_iret rfl (by decide +kernel)
    · refine GE_run (flG_T hN) (pc1 := 112) (L1 := [some (.inr (.inr (some (4, 0)))), some (.inl a1), some (.inl a2)]) (S1 := [.inl a1, .inr (.inr (some (14, 0)))]) (w1 := w) (P := True) [(.aload_n 0, 0, 0, 0, 0), (.getfield 28, 4, 2, 0, 0), (.getfield 127, 0, 7, 0, 0), (.iload_n 1, 0, 0, 0, 0)] (by decide +kernel) rfl trivial ?_
      refine GE_callSIp (As := [.inr (.inr (some (14, 0))), .inl a1]) (S := []) (p_X4_at l X hN 14 0 a1 (by decide) (okM hN (by decide)) w) ⟨me_X4_at, ms_X4_at, lk_X4_120⟩ (by decide +kernel) rfl (by decide) (by decide) (Nat.le_of_ble_eq_true rfl) ?_
      exact GE_iret rfl (by decide +kernel)
    · refine GE_run (flG_T hN) (pc1 := 121) (L1 := [some (.inr (.inr (some (4, 0)))), some (.inl a1), some (.inl a2)]) (S1 := [.inl a1, .inr (.inr (some (0, 0)))]) (w1 := w) (P := True) [(.aload_n 0, 0, 0, 0, 0), (.getfield 28, 4, 2, 0, 0), (.iload_n 1, 0, 0, 0, 0)] (by decide +kernel) rfl trivial ?_
      refine GE_callVI (As := [.inl a1]) (k := 0) (i := 0) (S := []) (t_X0_nameless l X hN 0 a1 (by decide) w) (by decide) ⟨me_X0_nameless, mi_X0_nameless, mv_X0_nameless, lk_X4_130⟩ rfl (by decide +kernel) rfl (by decide) (by decide) (Nat.le_of_ble_eq_true rfl) (fun r2 _ => ?_)
      exact GE_iret rfl (by decide +kernel)
    · refine GE_run (flG_T hN) (pc1 := 130) (L1 := [some (.inr (.inr (some (4, 0)))), some (.inl a1), some (.inl a2)]) (S1 := [.inl a1, .inr (.inr (some (0, 0)))]) (w1 := w) (P := True) [(.aload_n 0, 0, 0, 0, 0), (.getfield 28, 4, 2, 0, 0), (.iload_n 1, 0, 0, 0, 0)] (by decide +kernel) rfl trivial ?_
      refine GE_callVI (As := [.inl a1]) (k := 0) (i := 0) (S := []) (t_X0_takesOf l X hN 0 a1 (by decide) w) (by decide) ⟨me_X0_takesOf, mi_X0_takesOf, mv_X0_takesOf, lk_X4_133⟩ rfl (by decide +kernel) rfl (by decide) (by decide) (Nat.le_of_ble_eq_true rfl) (fun r3 _ => ?_)
      exact GE_iret rfl (by decide +kernel)
    · refine GE_run (flG_T hN) (pc1 := 136) (L1 := [some (.inr (.inr (some (4, 0)))), some (.inl a1), some (.inl a2)]) (S1 := [.inl (-7)]) (w1 := w) (P := True) [(.bipush (-7), 0, 0, -7, 0)] (by decide +kernel) rfl trivial ?_
      exact GE_iret rfl (by decide +kernel)
  · refine GE_run (flG_T hN) (pc1 := 13) (L1 := [some (.inr (.inr (some (4, 0)))), some (.inl a1), some (.inl a2)]) (S1 := [.inl (-5)]) (w1 := w) (P := True) [(.bipush (-5), 0, 0, -5, 0)] (by decide +kernel) rfl trivial ?_
    exact GE_iret rfl (by decide +kernel)
abbrev mm_X4_lands : MI := (RX4, cX4_lands, 4, (some .int), ftp_X4.map (fun q => q.1), ctp_X4.map (fun q => q.1), clp_X4.map (fun q => q.1))
noncomputable def f_X4_lands (a1 : Int32) (a2 : Int32) (a3 : Int32) (w : Mem) : Option (Int32 × Mem) := if (hasF a1 (w 0 0 2)) = 0 then (some ((-5000), w)) else (if (rng a2 0 15) = 0 then (some ((-5000), w)) else (if a3 = 0 then (Option.bind (f_X0_letsGo 0 a1 a2 w) (fun r4 => some (r4.1, r4.2))) else (if a3 = 1 then (Option.bind (f_X0_lucksBy 0 a1 a2 w) (fun r6 => some (r6.1, r6.2))) else (some ((-7000), w)))))
set_option maxRecDepth 100000 in
theorem t_X4_lands (l : Launch) (X : XC) {N9 : Nat} (hN : 39 ≤ N9)  (a1 : Int32) (a2 : Int32) (a3 : Int32) (w : Mem) : Ct l X 4 yX4_lands cX4_lands 4 (some .int) emI [.inr (.inr (some (4, 0))), .inl a1, .inl a2, .inl a3] N9 flT w (f_X4_lands a1 a2 a3 w) := by
  refine Ct_of (mi := mm_X4_lands) (mik_X4 _ _ _) me_X4_lands rfl (okAs_cons (okMV hN (by decide)) (okAs_cons rfl (okAs_cons rfl (okAs_cons rfl okAs_nil)))) (Nat.le_of_ble_eq_true rfl) ?_
  unfold f_X4_lands
  refine GE_run (flG_T hN) (pc1 := 5) (L1 := [some (.inr (.inr (some (4, 0)))), some (.inl a1), some (.inl a2), some (.inl a3)]) (S1 := [.inl a1, .inr (.inr (some (0, 0)))]) (w1 := w) (P := True) [(.aload_n 0, 0, 0, 0, 0), (.getfield 28, 4, 2, 0, 0), (.iload_n 1, 0, 0, 0, 0)] (by decide +kernel) rfl trivial ?_
  refine GE_callVIp (As := [.inl a1]) (k := 0) (i := 0) (S := []) (p_X0_has l X hN 0 a1 (by decide) w) (by decide) ⟨me_X0_has, mi_X0_has, mv_X0_has, lk_X4_95⟩ rfl (by decide +kernel) rfl (by decide) (by decide) (Nat.le_of_ble_eq_true rfl) ?_
  refine GE_if (k := .eq) (off := 10) (tgt := 18) (by decide +kernel) (by decide) (cnd_eq _ _) (fun c1 => ?_) (fun c1 => ?_)
  · refine GE_run (flG_T hN) (pc1 := 21) (L1 := [some (.inr (.inr (some (4, 0)))), some (.inl a1), some (.inl a2), some (.inl a3)]) (S1 := [.inl (-5000)]) (w1 := w) (P := True) [(.sipush (-5000), 0, 0, -5000, 0)] (by decide +kernel) rfl trivial ?_
    exact GE_iret rfl (by decide +kernel)
  · refine GE_run (flG_T hN) (pc1 := 12) (L1 := [some (.inr (.inr (some (4, 0)))), some (.inl a1), some (.inl a2), some (.inl a3)]) (S1 := [.inl a2]) (w1 := w) (P := True) [(.iload_n 2, 0, 0, 0, 0)] (by decide +kernel) rfl trivial ?_
    refine GE_callSIp (As := [.inl a2]) (S := []) (p_X4_isThing l X hN a2 w) ⟨me_X4_isThing, ms_X4_isThing, lk_X4_98⟩ (by decide +kernel) rfl (by decide) (by decide) (Nat.le_of_ble_eq_true rfl) ?_
    refine GE_ifN (k := .ne) (off := 7) (tgt := 22) (by decide +kernel) (by decide) (cnd_ne _ _) (fun c2 => ?_) (fun c2 => ?_)
    · refine GE_run (flG_T hN) (pc1 := 23) (L1 := [some (.inr (.inr (some (4, 0)))), some (.inl a1), some (.inl a2), some (.inl a3)]) (S1 := [.inl a3]) (w1 := w) (P := True) [(.iload_n 3, 0, 0, 0, 0)] (by decide +kernel) rfl trivial ?_
      refine GE_ifN (k := .ne) (off := 13) (tgt := 36) (by decide +kernel) (by decide) (cnd_ne _ _) (fun c3 => ?_) (fun c3 => ?_)
      · refine GE_run (flG_T hN) (pc1 := 38) (L1 := [some (.inr (.inr (some (4, 0)))), some (.inl a1), some (.inl a2), some (.inl a3)]) (S1 := [.inl 1, .inl a3]) (w1 := w) (P := True) [(.iload_n 3, 0, 0, 0, 0), (.iconst 1, 0, 0, 1, 0)] (by decide +kernel) rfl trivial ?_
        refine GE_icmpN (k := .ne) (off := 13) (tgt := 51) (by decide +kernel) (by decide) (cnd_ne _ _) (fun c5 => ?_) (fun c5 => ?_)
        · refine GE_run (flG_T hN) (pc1 := 54) (L1 := [some (.inr (.inr (some (4, 0)))), some (.inl a1), some (.inl a2), some (.inl a3)]) (S1 := [.inl (-7000)]) (w1 := w) (P := True) [(.sipush (-7000), 0, 0, -7000, 0)] (by decide +kernel) rfl trivial ?_
          exact GE_iret rfl (by decide +kernel)
        · refine GE_run (flG_T hN) (pc1 := 47) (L1 := [some (.inr (.inr (some (4, 0)))), some (.inl a1), some (.inl a2), some (.inl a3)]) (S1 := [.inl a2, .inl a1, .inr (.inr (some (0, 0)))]) (w1 := w) (P := True) [(.aload_n 0, 0, 0, 0, 0), (.getfield 28, 4, 2, 0, 0), (.iload_n 1, 0, 0, 0, 0), (.iload_n 2, 0, 0, 0, 0)] (by decide +kernel) rfl trivial ?_
          refine GE_callVI (As := [.inl a1, .inl a2]) (k := 0) (i := 0) (S := []) (t_X0_lucksBy l X hN 0 a1 a2 (by decide) w) (by decide) ⟨me_X0_lucksBy, mi_X0_lucksBy, mv_X0_lucksBy, lk_X4_140⟩ rfl (by decide +kernel) rfl (by decide) (by decide) (Nat.le_of_ble_eq_true rfl) (fun r6 _ => ?_)
          exact GE_iret rfl (by decide +kernel)
      · refine GE_run (flG_T hN) (pc1 := 32) (L1 := [some (.inr (.inr (some (4, 0)))), some (.inl a1), some (.inl a2), some (.inl a3)]) (S1 := [.inl a2, .inl a1, .inr (.inr (some (0, 0)))]) (w1 := w) (P := True) [(.aload_n 0, 0, 0, 0, 0), (.getfield 28, 4, 2, 0, 0), (.iload_n 1, 0, 0, 0, 0), (.iload_n 2, 0, 0, 0, 0)] (by decide +kernel) rfl trivial ?_
        refine GE_callVI (As := [.inl a1, .inl a2]) (k := 0) (i := 0) (S := []) (t_X0_letsGo l X hN 0 a1 a2 (by decide) w) (by decide) ⟨me_X0_letsGo, mi_X0_letsGo, mv_X0_letsGo, lk_X4_136⟩ rfl (by decide +kernel) rfl (by decide) (by decide) (Nat.le_of_ble_eq_true rfl) (fun r4 _ => ?_)
        exact GE_iret rfl (by decide +kernel)
    · refine GE_run (flG_T hN) (pc1 := 21) (L1 := [some (.inr (.inr (some (4, 0)))), some (.inl a1), some (.inl a2), some (.inl a3)]) (S1 := [.inl (-5000)]) (w1 := w) (P := True) [(.sipush (-5000), 0, 0, -5000, 0)] (by decide +kernel) rfl trivial ?_
      exact GE_iret rfl (by decide +kernel)
abbrev mm_X4_land : MI := (RX4, cX4_land, 3, (some .int), ftp_X4.map (fun q => q.1), ctp_X4.map (fun q => q.1), clp_X4.map (fun q => q.1))
noncomputable def f_X4_land (a1 : Int32) (a2 : Int32) (w : Mem) : Option (Int32 × Mem) := if (hasF a1 (w 0 0 2)) = 0 then (some ((-5), w)) else (if (rng a2 0 15) = 0 then (some ((-6), w)) else (Option.bind (f_X0_landing 0 a1 a2 w) (fun r3 => some (r3.1, r3.2))))
set_option maxRecDepth 100000 in
theorem t_X4_land (l : Launch) (X : XC) {N9 : Nat} (hN : 39 ≤ N9)  (a1 : Int32) (a2 : Int32) (w : Mem) : Ct l X 5 yX4_land cX4_land 3 (some .int) emI [.inr (.inr (some (4, 0))), .inl a1, .inl a2] N9 flT w (f_X4_land a1 a2 w) := by
  refine Ct_of (mi := mm_X4_land) (mik_X4 _ _ _) me_X4_land rfl (okAs_cons (okMV hN (by decide)) (okAs_cons rfl (okAs_cons rfl okAs_nil))) (Nat.le_of_ble_eq_true rfl) ?_
  unfold f_X4_land
  refine GE_run (flG_T hN) (pc1 := 5) (L1 := [some (.inr (.inr (some (4, 0)))), some (.inl a1), some (.inl a2)]) (S1 := [.inl a1, .inr (.inr (some (0, 0)))]) (w1 := w) (P := True) [(.aload_n 0, 0, 0, 0, 0), (.getfield 28, 4, 2, 0, 0), (.iload_n 1, 0, 0, 0, 0)] (by decide +kernel) rfl trivial ?_
  refine GE_callVIp (As := [.inl a1]) (k := 0) (i := 0) (S := []) (p_X0_has l X hN 0 a1 (by decide) w) (by decide) ⟨me_X0_has, mi_X0_has, mv_X0_has, lk_X4_95⟩ rfl (by decide +kernel) rfl (by decide) (by decide) (Nat.le_of_ble_eq_true rfl) ?_
  refine GE_ifN (k := .ne) (off := 6) (tgt := 14) (by decide +kernel) (by decide) (cnd_ne _ _) (fun c1 => ?_) (fun c1 => ?_)
  · refine GE_run (flG_T hN) (pc1 := 15) (L1 := [some (.inr (.inr (some (4, 0)))), some (.inl a1), some (.inl a2)]) (S1 := [.inl a2]) (w1 := w) (P := True) [(.iload_n 2, 0, 0, 0, 0)] (by decide +kernel) rfl trivial ?_
    refine GE_callSIp (As := [.inl a2]) (S := []) (p_X4_isThing l X hN a2 w) ⟨me_X4_isThing, ms_X4_isThing, lk_X4_98⟩ (by decide +kernel) rfl (by decide) (by decide) (Nat.le_of_ble_eq_true rfl) ?_
    refine GE_ifN (k := .ne) (off := 6) (tgt := 24) (by decide +kernel) (by decide) (cnd_ne _ _) (fun c2 => ?_) (fun c2 => ?_)
    · refine GE_run (flG_T hN) (pc1 := 30) (L1 := [some (.inr (.inr (some (4, 0)))), some (.inl a1), some (.inl a2)]) (S1 := [.inl a2, .inl a1, .inr (.inr (some (0, 0)))]) (w1 := w) (P := True) [(.aload_n 0, 0, 0, 0, 0), (.getfield 28, 4, 2, 0, 0), (.iload_n 1, 0, 0, 0, 0), (.iload_n 2, 0, 0, 0, 0)] (by decide +kernel) rfl trivial ?_
      refine GE_callVI (As := [.inl a1, .inl a2]) (k := 0) (i := 0) (S := []) (t_X0_landing l X hN 0 a1 a2 (by decide) w) (by decide) ⟨me_X0_landing, mi_X0_landing, mv_X0_landing, lk_X4_143⟩ rfl (by decide +kernel) rfl (by decide) (by decide) (Nat.le_of_ble_eq_true rfl) (fun r3 _ => ?_)
      exact GE_iret rfl (by decide +kernel)
    · refine GE_run (flG_T hN) (pc1 := 23) (L1 := [some (.inr (.inr (some (4, 0)))), some (.inl a1), some (.inl a2)]) (S1 := [.inl (-6)]) (w1 := w) (P := True) [(.bipush (-6), 0, 0, -6, 0)] (by decide +kernel) rfl trivial ?_
      exact GE_iret rfl (by decide +kernel)
  · refine GE_run (flG_T hN) (pc1 := 13) (L1 := [some (.inr (.inr (some (4, 0)))), some (.inl a1), some (.inl a2)]) (S1 := [.inl (-5)]) (w1 := w) (P := True) [(.bipush (-5), 0, 0, -5, 0)] (by decide +kernel) rfl trivial ?_
    exact GE_iret rfl (by decide +kernel)
abbrev mm_X4_teach : MI := (RX4, cX4_teach, 4, (some .int), ftp_X4.map (fun q => q.1), ctp_X4.map (fun q => q.1), clp_X4.map (fun q => q.1))
noncomputable def f_X4_teach (a1 : Int32) (a2 : Int32) (w : Mem) : Option (Int32 × Mem) := if (hasF a1 (w 0 0 2)) = 0 then (some ((-5), w)) else (if (hasF a2 (w 0 0 2)) = 0 then (some ((-5), w)) else (if a1 = a2 then (some ((-5), w)) else (Option.bind (f_X0_learns 0 a1 a2 w) (fun r4 => Option.bind (f_X0_isTold 0 a2 r4.1 r4.2) (fun r5 => some (r4.1, r5))))))
set_option maxRecDepth 100000 in
theorem t_X4_teach (l : Launch) (X : XC) {N9 : Nat} (hN : 39 ≤ N9)  (a1 : Int32) (a2 : Int32) (w : Mem) : Ct l X 5 yX4_teach cX4_teach 4 (some .int) emI [.inr (.inr (some (4, 0))), .inl a1, .inl a2] N9 flT w (f_X4_teach a1 a2 w) := by
  refine Ct_of (mi := mm_X4_teach) (mik_X4 _ _ _) me_X4_teach rfl (okAs_cons (okMV hN (by decide)) (okAs_cons rfl (okAs_cons rfl okAs_nil))) (Nat.le_of_ble_eq_true rfl) ?_
  unfold f_X4_teach
  refine GE_run (flG_T hN) (pc1 := 5) (L1 := [some (.inr (.inr (some (4, 0)))), some (.inl a1), some (.inl a2), none]) (S1 := [.inl a1, .inr (.inr (some (0, 0)))]) (w1 := w) (P := True) [(.aload_n 0, 0, 0, 0, 0), (.getfield 28, 4, 2, 0, 0), (.iload_n 1, 0, 0, 0, 0)] (by decide +kernel) rfl trivial ?_
  refine GE_callVIp (As := [.inl a1]) (k := 0) (i := 0) (S := []) (p_X0_has l X hN 0 a1 (by decide) w) (by decide) ⟨me_X0_has, mi_X0_has, mv_X0_has, lk_X4_95⟩ rfl (by decide +kernel) rfl (by decide) (by decide) (Nat.le_of_ble_eq_true rfl) ?_
  refine GE_if (k := .eq) (off := 19) (tgt := 27) (by decide +kernel) (by decide) (cnd_eq _ _) (fun c1 => ?_) (fun c1 => ?_)
  · refine GE_run (flG_T hN) (pc1 := 29) (L1 := [some (.inr (.inr (some (4, 0)))), some (.inl a1), some (.inl a2), none]) (S1 := [.inl (-5)]) (w1 := w) (P := True) [(.bipush (-5), 0, 0, -5, 0)] (by decide +kernel) rfl trivial ?_
    exact GE_iret rfl (by decide +kernel)
  · refine GE_run (flG_T hN) (pc1 := 16) (L1 := [some (.inr (.inr (some (4, 0)))), some (.inl a1), some (.inl a2), none]) (S1 := [.inl a2, .inr (.inr (some (0, 0)))]) (w1 := w) (P := True) [(.aload_n 0, 0, 0, 0, 0), (.getfield 28, 4, 2, 0, 0), (.iload_n 2, 0, 0, 0, 0)] (by decide +kernel) rfl trivial ?_
    refine GE_callVIp (As := [.inl a2]) (k := 0) (i := 0) (S := []) (p_X0_has l X hN 0 a2 (by decide) w) (by decide) ⟨me_X0_has, mi_X0_has, mv_X0_has, lk_X4_95⟩ rfl (by decide +kernel) rfl (by decide) (by decide) (Nat.le_of_ble_eq_true rfl) ?_
    refine GE_if (k := .eq) (off := 8) (tgt := 27) (by decide +kernel) (by decide) (cnd_eq _ _) (fun c2 => ?_) (fun c2 => ?_)
    · refine GE_run (flG_T hN) (pc1 := 29) (L1 := [some (.inr (.inr (some (4, 0)))), some (.inl a1), some (.inl a2), none]) (S1 := [.inl (-5)]) (w1 := w) (P := True) [(.bipush (-5), 0, 0, -5, 0)] (by decide +kernel) rfl trivial ?_
      exact GE_iret rfl (by decide +kernel)
    · refine GE_run (flG_T hN) (pc1 := 24) (L1 := [some (.inr (.inr (some (4, 0)))), some (.inl a1), some (.inl a2), none]) (S1 := [.inl a2, .inl a1]) (w1 := w) (P := True) [(.iload_n 1, 0, 0, 0, 0), (.iload_n 2, 0, 0, 0, 0)] (by decide +kernel) rfl trivial ?_
      refine GE_icmpN (k := .ne) (off := 6) (tgt := 30) (by decide +kernel) (by decide) (cnd_ne _ _) (fun c3 => ?_) (fun c3 => ?_)
      · refine GE_run (flG_T hN) (pc1 := 36) (L1 := [some (.inr (.inr (some (4, 0)))), some (.inl a1), some (.inl a2), none]) (S1 := [.inl a2, .inl a1, .inr (.inr (some (0, 0)))]) (w1 := w) (P := True) [(.aload_n 0, 0, 0, 0, 0), (.getfield 28, 4, 2, 0, 0), (.iload_n 1, 0, 0, 0, 0), (.iload_n 2, 0, 0, 0, 0)] (by decide +kernel) rfl trivial ?_
        refine GE_callVI (As := [.inl a1, .inl a2]) (k := 0) (i := 0) (S := []) (t_X0_learns l X hN 0 a1 a2 (by decide) w) (by decide) ⟨me_X0_learns, mi_X0_learns, mv_X0_learns, lk_X4_146⟩ rfl (by decide +kernel) rfl (by decide) (by decide) (Nat.le_of_ble_eq_true rfl) (fun r4 _ => ?_)
        refine GE_run (flG_T hN) (pc1 := 46) (L1 := [some (.inr (.inr (some (4, 0)))), some (.inl a1), some (.inl a2), some (.inl r4.1)]) (S1 := [.inl r4.1, .inl a2, .inr (.inr (some (0, 0)))]) (w1 := r4.2) (P := True) [(.istore_n 3, 0, 0, 0, 0), (.aload_n 0, 0, 0, 0, 0), (.getfield 28, 4, 2, 0, 0), (.iload_n 2, 0, 0, 0, 0), (.iload_n 3, 0, 0, 0, 0)] (by decide +kernel) rfl trivial ?_
        refine GE_callVV (As := [.inl a2, .inl r4.1]) (k := 0) (i := 0) (S := []) (t_X0_isTold l X hN 0 a2 r4.1 (by decide) r4.2) (by decide) ⟨me_X0_isTold, mi_X0_isTold, mv_X0_isTold, lk_X4_149⟩ rfl (by decide +kernel) rfl (by decide) (by decide) (Nat.le_of_ble_eq_true rfl) (fun r5 _ => ?_)
        refine GE_run (flG_T hN) (pc1 := 50) (L1 := [some (.inr (.inr (some (4, 0)))), some (.inl a1), some (.inl a2), some (.inl r4.1)]) (S1 := [.inl r4.1]) (w1 := r5) (P := True) [(.iload_n 3, 0, 0, 0, 0)] (by decide +kernel) rfl trivial ?_
        exact GE_iret rfl (by decide +kernel)
      · refine GE_run (flG_T hN) (pc1 := 29) (L1 := [some (.inr (.inr (some (4, 0)))), some (.inl a1), some (.inl a2), none]) (S1 := [.inl (-5)]) (w1 := w) (P := True) [(.bipush (-5), 0, 0, -5, 0)] (by decide +kernel) rfl trivial ?_
        exact GE_iret rfl (by decide +kernel)
abbrev mm_X4_tide : MI := (RX4, cX4_tide, 1, (some .int), ftp_X4.map (fun q => q.1), ctp_X4.map (fun q => q.1), clp_X4.map (fun q => q.1))
noncomputable def f_X4_tide  (w : Mem) : Option (Int32 × Mem) := if (w 0 0 4) < 999 then (Option.bind (f_X0_washes 0 w) (fun r2 => some (r2.1, r2.2))) else (some ((-3), w))
set_option maxRecDepth 100000 in
theorem t_X4_tide (l : Launch) (X : XC) {N9 : Nat} (hN : 39 ≤ N9)   (w : Mem) : Ct l X 3 yX4_tide cX4_tide 1 (some .int) emI [.inr (.inr (some (4, 0)))] N9 flT w (f_X4_tide  w) := by
  refine Ct_of (mi := mm_X4_tide) (mik_X4 _ _ _) me_X4_tide rfl (okAs_cons (okMV hN (by decide)) okAs_nil) (Nat.le_of_ble_eq_true rfl) ?_
  unfold f_X4_tide
  refine GE_run (flG_T hN) (pc1 := 10) (L1 := [some (.inr (.inr (some (4, 0))))]) (S1 := [.inl 999, .inl (w 0 0 4)]) (w1 := w) (P := True) [(.aload_n 0, 0, 0, 0, 0), (.getfield 28, 4, 2, 0, 0), (.getfield 58, 0, 4, 0, 0), (.sipush 999, 0, 0, 999, 0)] (by decide +kernel) rfl trivial ?_
  refine GE_icmp (k := .lt) (off := 6) (tgt := 16) (by decide +kernel) (by decide) (cnd_lt _ _) (fun c1 => ?_) (fun c1 => ?_)
  · refine GE_run (flG_T hN) (pc1 := 20) (L1 := [some (.inr (.inr (some (4, 0))))]) (S1 := [.inr (.inr (some (0, 0)))]) (w1 := w) (P := True) [(.aload_n 0, 0, 0, 0, 0), (.getfield 28, 4, 2, 0, 0)] (by decide +kernel) rfl trivial ?_
    refine GE_callVI (As := []) (k := 0) (i := 0) (S := []) (t_X0_washes l X hN 0 (by decide) w) (by decide) ⟨me_X0_washes, mi_X0_washes, mv_X0_washes, lk_X4_153⟩ rfl (by decide +kernel) rfl (by decide) (by decide) (Nat.le_of_ble_eq_true rfl) (fun r2 _ => ?_)
    exact GE_iret rfl (by decide +kernel)
  · refine GE_run (flG_T hN) (pc1 := 15) (L1 := [some (.inr (.inr (some (4, 0))))]) (S1 := [.inl (-3)]) (w1 := w) (P := True) [(.bipush (-3), 0, 0, -3, 0)] (by decide +kernel) rfl trivial ?_
    exact GE_iret rfl (by decide +kernel)
abbrev mm_X4_talk : MI := (RX4, cX4_talk, 8, (some .int), ftp_X4.map (fun q => q.1), ctp_X4.map (fun q => q.1), clp_X4.map (fun q => q.1))
noncomputable def h_X4_talk_41 (x1 : Int32) (x2 : Int32) (k99 : Int32 → Int32 → Int32 → Mem → Option (Int32 × Mem)) : Nat → Int32 → Int32 → Int32 → Int32 → Mem → Option (Int32 × Mem)
  | 0, _, _, _, _, _ => none
  | n + 1, x3, x4, x5, x6, w => if x6 < 6 then (if (holdsF x1 x6) = 0 then ((h_X4_talk_41 x1 x2 k99 n) x3 x4 x5 (x6 + 1) w) else ((h_X4_talk_41 x1 x2 k99 n) (x3 &&& (atV w 15 0 x6)) (x4 ||| (atV w 15 0 x6)) (x5 ||| (x4 &&& (atV w 15 0 x6))) (x6 + 1) w)) else (k99 x3 x4 x5 w)
set_option maxRecDepth 100000 in
theorem h_X4_talk_41_ok (l : Launch) (X : XC) {N9 : Nat} (hN : 39 ≤ N9) (x1 : Int32) (x2 : Int32) (k99 : Int32 → Int32 → Int32 → Mem → Option (Int32 × Mem))  (hk99 : ∀ (x3 : Int32) (x4 : Int32) (x5 : Int32) (w : Mem), GE l X mm_X4_talk 1 emI N9 flT (k99 x3 x4 x5 w) 99 [none, none, some (.inl x2), some (.inl x3), some (.inl x4), some (.inl x5), none, none] [] w) : ∀ (n : Nat) (x3 : Int32) (x4 : Int32) (x5 : Int32) (x6 : Int32) (w : Mem), GE l X mm_X4_talk 1 emI N9 flT ((h_X4_talk_41 x1 x2 k99 n) x3 x4 x5 x6 w) 41 [some (.inr (.inr (some (4, 0)))), some (.inl x1), some (.inl x2), some (.inl x3), some (.inl x4), some (.inl x5), some (.inl x6), none] [] w := by
  intro n
  induction n with
  | zero => intro x3 x4 x5 x6 w; exact GE_none
  | succ n ih =>
    intro x3 x4 x5 x6 w
    unfold h_X4_talk_41
    refine GE_run (flG_T hN) (pc1 := 45) (L1 := [some (.inr (.inr (some (4, 0)))), some (.inl x1), some (.inl x2), some (.inl x3), some (.inl x4), some (.inl x5), some (.inl x6), none]) (S1 := [.inl 6, .inl x6]) (w1 := w) (P := True) [(.iload 6, 0, 0, 0, 0), (.bipush 6, 0, 0, 6, 0)] (by decide +kernel) rfl trivial ?_
    refine GE_icmpN (k := .ge) (off := 54) (tgt := 99) (by decide +kernel) (by decide) (cnd_ge _ _) (fun c5 => ?_) (fun c5 => ?_)
    · exact GE_weak [false, false, true, true, true, true, false, false] (hk99 x3 x4 x5 w)
    · refine GE_run (flG_T hN) (pc1 := 51) (L1 := [some (.inr (.inr (some (4, 0)))), some (.inl x1), some (.inl x2), some (.inl x3), some (.inl x4), some (.inl x5), some (.inl x6), none]) (S1 := [.inl x6, .inl x1]) (w1 := w) (P := True) [(.iload_n 1, 0, 0, 0, 0), (.iload 6, 0, 0, 0, 0)] (by decide +kernel) rfl trivial ?_
      refine GE_callSIp (As := [.inl x1, .inl x6]) (S := []) (p_X4_holds l X hN x1 x6 w) ⟨me_X4_holds, ms_X4_holds, lk_X4_157⟩ (by decide +kernel) rfl (by decide) (by decide) (Nat.le_of_ble_eq_true rfl) ?_
      refine GE_if (k := .eq) (off := 39) (tgt := 93) (by decide +kernel) (by decide) (cnd_eq _ _) (fun c6 => ?_) (fun c6 => ?_)
      · refine GE_run (flG_T hN) (pc1 := 41) (L1 := [some (.inr (.inr (some (4, 0)))), some (.inl x1), some (.inl x2), some (.inl x3), some (.inl x4), some (.inl x5), some (.inl (x6 + 1)), none]) (S1 := []) (w1 := w) (P := True) [(.iinc 6 1, 0, 0, 1, 0), (.goto (-55), 0, 0, 0, 0)] (by decide +kernel) rfl trivial ?_
        exact GE_weak [true, true, true, true, true, true, true, false] (ih x3 x4 x5 (x6 + 1) w)
      · refine GE_run (flG_T hN) (pc1 := 66) (L1 := [some (.inr (.inr (some (4, 0)))), some (.inl x1), some (.inl x2), some (.inl x3), some (.inl x4), some (.inl x5), some (.inl x6), none]) (S1 := [.inl x6, .inr (.inr (some (15, 0)))]) (w1 := w) (P := True) [(.aload_n 0, 0, 0, 0, 0), (.getfield 28, 4, 2, 0, 0), (.getfield 108, 0, 8, 0, 0), (.iload 6, 0, 0, 0, 0)] (by decide +kernel) rfl trivial ?_
        refine GE_callSIp (As := [.inr (.inr (some (15, 0))), .inl x6]) (S := []) (p_X4_at l X hN 15 0 x6 (by decide) (okM hN (by decide)) w) ⟨me_X4_at, ms_X4_at, lk_X4_120⟩ (by decide +kernel) rfl (by decide) (by decide) (Nat.le_of_ble_eq_true rfl) ?_
        refine GE_run (flG_T hN) (pc1 := 41) (L1 := [some (.inr (.inr (some (4, 0)))), some (.inl x1), some (.inl x2), some (.inl (x3 &&& (atV w 15 0 x6))), some (.inl (x4 ||| (atV w 15 0 x6))), some (.inl (x5 ||| (x4 &&& (atV w 15 0 x6)))), some (.inl (x6 + 1)), some (.inl (atV w 15 0 x6))]) (S1 := []) (w1 := w) (P := True) [(.istore 7, 0, 0, 0, 0), (.iload 5, 0, 0, 0, 0), (.iload 4, 0, 0, 0, 0), (.iload 7, 0, 0, 0, 0), (.iand, 0, 0, 0, 0), (.ior, 0, 0, 0, 0), (.istore 5, 0, 0, 0, 0), (.iload 4, 0, 0, 0, 0), (.iload 7, 0, 0, 0, 0), (.ior, 0, 0, 0, 0), (.istore 4, 0, 0, 0, 0), (.iload_n 3, 0, 0, 0, 0), (.iload 7, 0, 0, 0, 0), (.iand, 0, 0, 0, 0), (.istore_n 3, 0, 0, 0, 0), (.iinc 6 1, 0, 0, 1, 0), (.goto (-55), 0, 0, 0, 0)] (by decide +kernel) rfl trivial ?_
        exact GE_weak [true, true, true, true, true, true, true, false] (ih (x3 &&& (atV w 15 0 x6)) (x4 ||| (atV w 15 0 x6)) (x5 ||| (x4 &&& (atV w 15 0 x6))) (x6 + 1) w)
noncomputable def f_X4_talk (a1 : Int32) (a2 : Int32) (w : Mem) : Option (Int32 × Mem) := if a1 < 0 then (some ((-2), w)) else (if a1 < (shlI 1 (w 0 0 2)) then (if a2 < 0 then (some ((-2), w)) else (if a2 ≤ 3 then (h_X4_talk_41 a1 a2 (fun x3_7 x4_8 x5_9 w10 => swE a2 0 [some (x3_7, w10), some (x4_8, w10), some (65535 &&& (x4_8 ^^^ (-1)), w10)] (some (x4_8 &&& (x5_9 ^^^ (-1)), w10))) FU 65535 0 0 0 w) else (some ((-2), w)))) else (some ((-2), w)))
set_option maxRecDepth 100000 in
theorem t_X4_talk (l : Launch) (X : XC) {N9 : Nat} (hN : 39 ≤ N9)  (a1 : Int32) (a2 : Int32) (w : Mem) : Ct l X 1 yX4_talk cX4_talk 8 (some .int) emI [.inr (.inr (some (4, 0))), .inl a1, .inl a2] N9 flT w (f_X4_talk a1 a2 w) := by
  refine Ct_of (mi := mm_X4_talk) (mik_X4 _ _ _) me_X4_talk rfl (okAs_cons (okMV hN (by decide)) (okAs_cons rfl (okAs_cons rfl okAs_nil))) (Nat.le_of_ble_eq_true rfl) ?_
  unfold f_X4_talk
  refine GE_run (flG_T hN) (pc1 := 1) (L1 := [some (.inr (.inr (some (4, 0)))), some (.inl a1), some (.inl a2), none, none, none, none, none]) (S1 := [.inl a1]) (w1 := w) (P := True) [(.iload_n 1, 0, 0, 0, 0)] (by decide +kernel) rfl trivial ?_
  refine GE_if (k := .lt) (off := 25) (tgt := 26) (by decide +kernel) (by decide) (cnd_lt _ _) (fun c1 => ?_) (fun c1 => ?_)
  · refine GE_run (flG_T hN) (pc1 := 28) (L1 := [some (.inr (.inr (some (4, 0)))), some (.inl a1), some (.inl a2), none, none, none, none, none]) (S1 := [.inl (-2)]) (w1 := w) (P := True) [(.bipush (-2), 0, 0, -2, 0)] (by decide +kernel) rfl trivial ?_
    exact GE_iret rfl (by decide +kernel)
  · refine GE_run (flG_T hN) (pc1 := 14) (L1 := [some (.inr (.inr (some (4, 0)))), some (.inl a1), some (.inl a2), none, none, none, none, none]) (S1 := [.inl (shlI 1 (w 0 0 2)), .inl a1]) (w1 := w) (P := True) [(.iload_n 1, 0, 0, 0, 0), (.iconst 1, 0, 0, 1, 0), (.aload_n 0, 0, 0, 0, 0), (.getfield 28, 4, 2, 0, 0), (.getfield 45, 0, 2, 0, 0), (.ishl, 0, 0, 0, 0)] (by decide +kernel) rfl trivial ?_
    refine GE_icmpN (k := .ge) (off := 12) (tgt := 26) (by decide +kernel) (by decide) (cnd_ge _ _) (fun c2 => ?_) (fun c2 => ?_)
    · refine GE_run (flG_T hN) (pc1 := 28) (L1 := [some (.inr (.inr (some (4, 0)))), some (.inl a1), some (.inl a2), none, none, none, none, none]) (S1 := [.inl (-2)]) (w1 := w) (P := True) [(.bipush (-2), 0, 0, -2, 0)] (by decide +kernel) rfl trivial ?_
      exact GE_iret rfl (by decide +kernel)
    · refine GE_run (flG_T hN) (pc1 := 18) (L1 := [some (.inr (.inr (some (4, 0)))), some (.inl a1), some (.inl a2), none, none, none, none, none]) (S1 := [.inl a2]) (w1 := w) (P := True) [(.iload_n 2, 0, 0, 0, 0)] (by decide +kernel) rfl trivial ?_
      refine GE_if (k := .lt) (off := 8) (tgt := 26) (by decide +kernel) (by decide) (cnd_lt _ _) (fun c3 => ?_) (fun c3 => ?_)
      · refine GE_run (flG_T hN) (pc1 := 28) (L1 := [some (.inr (.inr (some (4, 0)))), some (.inl a1), some (.inl a2), none, none, none, none, none]) (S1 := [.inl (-2)]) (w1 := w) (P := True) [(.bipush (-2), 0, 0, -2, 0)] (by decide +kernel) rfl trivial ?_
        exact GE_iret rfl (by decide +kernel)
      · refine GE_run (flG_T hN) (pc1 := 23) (L1 := [some (.inr (.inr (some (4, 0)))), some (.inl a1), some (.inl a2), none, none, none, none, none]) (S1 := [.inl 3, .inl a2]) (w1 := w) (P := True) [(.iload_n 2, 0, 0, 0, 0), (.iconst 3, 0, 0, 3, 0)] (by decide +kernel) rfl trivial ?_
        refine GE_icmp (k := .le) (off := 6) (tgt := 29) (by decide +kernel) (by decide) (cnd_le _ _) (fun c4 => ?_) (fun c4 => ?_)
        · refine GE_run (flG_T hN) (pc1 := 41) (L1 := [some (.inr (.inr (some (4, 0)))), some (.inl a1), some (.inl a2), some (.inl 65535), some (.inl 0), some (.inl 0), some (.inl 0), none]) (S1 := []) (w1 := w) (P := True) [(.ldc 156, 0, 0, 65535, 0), (.istore_n 3, 0, 0, 0, 0), (.iconst 0, 0, 0, 0, 0), (.istore 4, 0, 0, 0, 0), (.iconst 0, 0, 0, 0, 0), (.istore 5, 0, 0, 0, 0), (.iconst 0, 0, 0, 0, 0), (.istore 6, 0, 0, 0, 0)] (by decide +kernel) rfl trivial ?_
          refine GE_weak [true, true, true, true, true, true, true, false] (h_X4_talk_41_ok l X hN a1 a2 _ ?_ FU 65535 0 0 0 w)
          · intro x3_7 x4_8 x5_9 w10
            refine GE_run (flG_T hN) (pc1 := 100) (L1 := [none, none, some (.inl a2), some (.inl x3_7), some (.inl x4_8), some (.inl x5_9), none, none]) (S1 := [.inl a2]) (w1 := w10) (P := True) [(.iload_n 2, 0, 0, 0, 0)] (by decide +kernel) rfl trivial ?_
            refine GE_swm (dflt := 41) (lo := 0) (hi := 2) (offs := #[28, 30, 33]) (len := 28) (dt := 141) (mm := 3) [128, 130, 133] (by decide +kernel) rfl (by decide +kernel) (And.intro (fun _ => ?_) (And.intro (fun _ => ?_) (And.intro (fun _ => ?_) (trivial)))) ?_
            · refine GE_run (flG_T hN) (pc1 := 129) (L1 := [none, none, some (.inl a2), some (.inl x3_7), some (.inl x4_8), some (.inl x5_9), none, none]) (S1 := [.inl x3_7]) (w1 := w10) (P := True) [(.iload_n 3, 0, 0, 0, 0)] (by decide +kernel) rfl trivial ?_
              exact GE_iret rfl (by decide +kernel)
            · refine GE_run (flG_T hN) (pc1 := 132) (L1 := [none, none, some (.inl a2), some (.inl x3_7), some (.inl x4_8), some (.inl x5_9), none, none]) (S1 := [.inl x4_8]) (w1 := w10) (P := True) [(.iload 4, 0, 0, 0, 0)] (by decide +kernel) rfl trivial ?_
              exact GE_iret rfl (by decide +kernel)
            · refine GE_run (flG_T hN) (pc1 := 140) (L1 := [none, none, some (.inl a2), some (.inl x3_7), some (.inl x4_8), some (.inl x5_9), none, none]) (S1 := [.inl (65535 &&& (x4_8 ^^^ (-1)))]) (w1 := w10) (P := True) [(.ldc 156, 0, 0, 65535, 0), (.iload 4, 0, 0, 0, 0), (.iconst (-1), 0, 0, -1, 0), (.ixor, 0, 0, 0, 0), (.iand, 0, 0, 0, 0)] (by decide +kernel) rfl trivial ?_
              exact GE_iret rfl (by decide +kernel)
            · refine GE_run (flG_T hN) (pc1 := 148) (L1 := [none, none, some (.inl a2), some (.inl x3_7), some (.inl x4_8), some (.inl x5_9), none, none]) (S1 := [.inl (x4_8 &&& (x5_9 ^^^ (-1)))]) (w1 := w10) (P := True) [(.iload 4, 0, 0, 0, 0), (.iload 5, 0, 0, 0, 0), (.iconst (-1), 0, 0, -1, 0), (.ixor, 0, 0, 0, 0), (.iand, 0, 0, 0, 0)] (by decide +kernel) rfl trivial ?_
              exact GE_iret rfl (by decide +kernel)
        · refine GE_run (flG_T hN) (pc1 := 28) (L1 := [some (.inr (.inr (some (4, 0)))), some (.inl a1), some (.inl a2), none, none, none, none, none]) (S1 := [.inl (-2)]) (w1 := w) (P := True) [(.bipush (-2), 0, 0, -2, 0)] (by decide +kernel) rfl trivial ?_
          exact GE_iret rfl (by decide +kernel)
