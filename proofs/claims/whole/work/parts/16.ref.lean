/-! the reference, first half -/
abbrev mm_X5_count : MI := (RX5, cX5_count, 2, (some .int), ftp_X5.map (fun q => q.1), ctp_X5.map (fun q => q.1), clp_X5.map (fun q => q.1))
noncomputable def f_X5_count (a1 : Int32) (w : Mem) : Option (Int32 × Mem) := swE a1 0 [some (w 5 0 0, w), some (bitsF (w 5 0 4), w), some (w 5 0 5, w), some (w 5 0 10, w), some (w 5 0 11, w), some (w 5 0 7, w)] (some ((-2), w))
set_option maxRecDepth 100000 in
theorem t_X5_count (l : Launch) (X : XC)  (a1 : Int32) (w : Mem) : Ct l X 1 yX5_count cX5_count 2 (some .int) emI [.inr (.inr (some (5, 0))), .inl a1] 57 flT w (f_X5_count a1 w) := by
  refine Ct_of (mi := mm_X5_count) (mik_X5 _ _ _) me_X5_count rfl (okAs_cons (by decide) (okAs_cons rfl okAs_nil)) (Nat.le_of_ble_eq_true rfl) ?_
  unfold f_X5_count
  refine GE_run flG_T (pc1 := 1) (L1 := [some (.inr (.inr (some (5, 0)))), some (.inl a1)]) (S1 := [.inl a1]) (w1 := w) (P := True) [(.iload_n 1, 0, 0, 0, 0)] (by decide +kernel) rfl trivial ?_
  refine GE_swm (dflt := 72) (lo := 0) (hi := 5) (offs := #[39, 44, 52, 57, 62, 67]) (len := 39) (dt := 73) (mm := 6) [40, 45, 53, 58, 63, 68] (by decide +kernel) rfl (by decide +kernel) (And.intro (fun _ => ?_) (And.intro (fun _ => ?_) (And.intro (fun _ => ?_) (And.intro (fun _ => ?_) (And.intro (fun _ => ?_) (And.intro (fun _ => ?_) (trivial))))))) ?_
  · refine GE_run flG_T (pc1 := 44) (L1 := [some (.inr (.inr (some (5, 0)))), some (.inl a1)]) (S1 := [.inl (w 5 0 0)]) (w1 := w) (P := True) [(.aload_n 0, 0, 0, 0, 0), (.getfield 69, 5, 0, 0, 0)] (by decide +kernel) rfl trivial ?_
    exact GE_iret rfl (by decide +kernel)
  · refine GE_run flG_T (pc1 := 49) (L1 := [some (.inr (.inr (some (5, 0)))), some (.inl a1)]) (S1 := [.inl (w 5 0 4)]) (w1 := w) (P := True) [(.aload_n 0, 0, 0, 0, 0), (.getfield 76, 5, 4, 0, 0)] (by decide +kernel) rfl trivial ?_
    refine GE_callSIp (As := [.inl (w 5 0 4)]) (S := []) (p_X5_bitsOf l X (w 5 0 4) w) ⟨me_X5_bitsOf, ms_X5_bitsOf, lk_X5_79⟩ (by decide +kernel) rfl (by decide) (by decide) (Nat.le_of_ble_eq_true rfl) ?_
    exact GE_iret rfl (by decide +kernel)
  · refine GE_run flG_T (pc1 := 57) (L1 := [some (.inr (.inr (some (5, 0)))), some (.inl a1)]) (S1 := [.inl (w 5 0 5)]) (w1 := w) (P := True) [(.aload_n 0, 0, 0, 0, 0), (.getfield 83, 5, 5, 0, 0)] (by decide +kernel) rfl trivial ?_
    exact GE_iret rfl (by decide +kernel)
  · refine GE_run flG_T (pc1 := 62) (L1 := [some (.inr (.inr (some (5, 0)))), some (.inl a1)]) (S1 := [.inl (w 5 0 10)]) (w1 := w) (P := True) [(.aload_n 0, 0, 0, 0, 0), (.getfield 86, 5, 10, 0, 0)] (by decide +kernel) rfl trivial ?_
    exact GE_iret rfl (by decide +kernel)
  · refine GE_run flG_T (pc1 := 67) (L1 := [some (.inr (.inr (some (5, 0)))), some (.inl a1)]) (S1 := [.inl (w 5 0 11)]) (w1 := w) (P := True) [(.aload_n 0, 0, 0, 0, 0), (.getfield 89, 5, 11, 0, 0)] (by decide +kernel) rfl trivial ?_
    exact GE_iret rfl (by decide +kernel)
  · refine GE_run flG_T (pc1 := 72) (L1 := [some (.inr (.inr (some (5, 0)))), some (.inl a1)]) (S1 := [.inl (w 5 0 7)]) (w1 := w) (P := True) [(.aload_n 0, 0, 0, 0, 0), (.getfield 61, 5, 7, 0, 0)] (by decide +kernel) rfl trivial ?_
    exact GE_iret rfl (by decide +kernel)
  · refine GE_run flG_T (pc1 := 75) (L1 := [some (.inr (.inr (some (5, 0)))), some (.inl a1)]) (S1 := [.inl (-2)]) (w1 := w) (P := True) [(.bipush (-2), 0, 0, -2, 0)] (by decide +kernel) rfl trivial ?_
    exact GE_iret rfl (by decide +kernel)
abbrev mm_X5_shore : MI := (RX5, cX5_shore, 4, (some .int), ftp_X5.map (fun q => q.1), ctp_X5.map (fun q => q.1), clp_X5.map (fun q => q.1))
noncomputable def j_X5_shore_47   (x1 : Int32) (x2 : Int32) (s0 : Int32) (w : Mem) : Option (Int32 × Mem) := if x1 = 0 then (some (s0, up w 5 0 5 x2)) else (some (s0, up w 5 0 4 x2))
set_option maxRecDepth 100000 in
theorem j_X5_shore_47_ok (l : Launch) (X : XC)   (x1 : Int32) (x2 : Int32) (s0 : Int32)   (w : Mem) : GE l X mm_X5_shore 1 emI 57 flT (j_X5_shore_47 x1 x2 s0 w) 47 [some (.inr (.inr (some (5, 0)))), some (.inl x1), some (.inl x2), none] [.inl s0] w := by
  unfold j_X5_shore_47
  refine GE_run flG_T (pc1 := 49) (L1 := [some (.inr (.inr (some (5, 0)))), some (.inl x1), some (.inl x2), some (.inl s0)]) (S1 := [.inl x1]) (w1 := w) (P := True) [(.istore_n 3, 0, 0, 0, 0), (.iload_n 1, 0, 0, 0, 0)] (by decide +kernel) rfl trivial ?_
  refine GE_ifN (k := .ne) (off := 11) (tgt := 60) (by decide +kernel) (by decide) (cnd_ne _ _) (fun c5 => ?_) (fun c5 => ?_)
  · refine GE_run flG_T (pc1 := 66) (L1 := [some (.inr (.inr (some (5, 0)))), some (.inl x1), some (.inl x2), some (.inl s0)]) (S1 := [.inl s0]) (w1 := up w 5 0 4 x2) (P := True) [(.aload_n 0, 0, 0, 0, 0), (.iload_n 2, 0, 0, 0, 0), (.putfield 76, 5, 4, 0, 0), (.iload_n 3, 0, 0, 0, 0)] (by decide +kernel) rfl trivial ?_
    exact GE_iret rfl (by decide +kernel)
  · refine GE_run flG_T (pc1 := 66) (L1 := [some (.inr (.inr (some (5, 0)))), some (.inl x1), some (.inl x2), some (.inl s0)]) (S1 := [.inl s0]) (w1 := up w 5 0 5 x2) (P := True) [(.aload_n 0, 0, 0, 0, 0), (.iload_n 2, 0, 0, 0, 0), (.putfield 83, 5, 5, 0, 0), (.goto 8, 0, 0, 0, 0), (.iload_n 3, 0, 0, 0, 0)] (by decide +kernel) rfl trivial ?_
    exact GE_iret rfl (by decide +kernel)
noncomputable def j_X5_shore_23   (x1 : Int32) (x2 : Int32) (s0 : Int32) (s1 : Int32) (s2 : Int32) (w : Mem) : Option (Int32 × Mem) := if (rng s2 s1 s0) = 0 then (some ((-2), w)) else (if x1 = 0 then (j_X5_shore_47 x1 x2 (w 5 0 5) w) else (j_X5_shore_47 x1 x2 (w 5 0 4) w))
set_option maxRecDepth 100000 in
theorem j_X5_shore_23_ok (l : Launch) (X : XC)   (x1 : Int32) (x2 : Int32) (s0 : Int32) (s1 : Int32) (s2 : Int32)   (w : Mem) : GE l X mm_X5_shore 1 emI 57 flT (j_X5_shore_23 x1 x2 s0 s1 s2 w) 23 [some (.inr (.inr (some (5, 0)))), some (.inl x1), some (.inl x2), none] [.inl s0, .inl s1, .inl s2] w := by
  unfold j_X5_shore_23
  refine GE_callSIp (As := [.inl s2, .inl s1, .inl s0]) (S := []) (p_X5_in l X s2 s1 s0 w) ⟨me_X5_in, ms_X5_in, lk_X5_72⟩ (by decide +kernel) rfl (by decide) (by decide) (Nat.le_of_ble_eq_true rfl) ?_
  refine GE_ifN (k := .ne) (off := 6) (tgt := 32) (by decide +kernel) (by decide) (cnd_ne _ _) (fun c3 => ?_) (fun c3 => ?_)
  · refine GE_run flG_T (pc1 := 33) (L1 := [some (.inr (.inr (some (5, 0)))), some (.inl x1), some (.inl x2), none]) (S1 := [.inl x1]) (w1 := w) (P := True) [(.iload_n 1, 0, 0, 0, 0)] (by decide +kernel) rfl trivial ?_
    refine GE_ifN (k := .ne) (off := 10) (tgt := 43) (by decide +kernel) (by decide) (cnd_ne _ _) (fun c4 => ?_) (fun c4 => ?_)
    · refine GE_run flG_T (pc1 := 47) (L1 := [some (.inr (.inr (some (5, 0)))), some (.inl x1), some (.inl x2), none]) (S1 := [.inl (w 5 0 4)]) (w1 := w) (P := True) [(.aload_n 0, 0, 0, 0, 0), (.getfield 76, 5, 4, 0, 0)] (by decide +kernel) rfl trivial ?_
      exact GE_weak [true, true, true, false] (j_X5_shore_47_ok l X x1 x2 (w 5 0 4) w)
    · refine GE_run flG_T (pc1 := 47) (L1 := [some (.inr (.inr (some (5, 0)))), some (.inl x1), some (.inl x2), none]) (S1 := [.inl (w 5 0 5)]) (w1 := w) (P := True) [(.aload_n 0, 0, 0, 0, 0), (.getfield 83, 5, 5, 0, 0), (.goto 7, 0, 0, 0, 0)] (by decide +kernel) rfl trivial ?_
      exact GE_weak [true, true, true, false] (j_X5_shore_47_ok l X x1 x2 (w 5 0 5) w)
  · refine GE_run flG_T (pc1 := 31) (L1 := [some (.inr (.inr (some (5, 0)))), some (.inl x1), some (.inl x2), none]) (S1 := [.inl (-2)]) (w1 := w) (P := True) [(.bipush (-2), 0, 0, -2, 0)] (by decide +kernel) rfl trivial ?_
    exact GE_iret rfl (by decide +kernel)
noncomputable def f_X5_shore (a1 : Int32) (a2 : Int32) (w : Mem) : Option (Int32 × Mem) := if (rng a1 0 1) = 0 then (some ((-2), w)) else (if a1 = 0 then (j_X5_shore_23 a1 a2 999 0 a2 w) else (j_X5_shore_23 a1 a2 65535 0 a2 w))
set_option maxRecDepth 100000 in
theorem t_X5_shore (l : Launch) (X : XC)  (a1 : Int32) (a2 : Int32) (w : Mem) : Ct l X 1 yX5_shore cX5_shore 4 (some .int) emI [.inr (.inr (some (5, 0))), .inl a1, .inl a2] 57 flT w (f_X5_shore a1 a2 w) := by
  refine Ct_of (mi := mm_X5_shore) (mik_X5 _ _ _) me_X5_shore rfl (okAs_cons (by decide) (okAs_cons rfl (okAs_cons rfl okAs_nil))) (Nat.le_of_ble_eq_true rfl) ?_
  unfold f_X5_shore
  refine GE_run flG_T (pc1 := 3) (L1 := [some (.inr (.inr (some (5, 0)))), some (.inl a1), some (.inl a2), none]) (S1 := [.inl 1, .inl 0, .inl a1]) (w1 := w) (P := True) [(.iload_n 1, 0, 0, 0, 0), (.iconst 0, 0, 0, 0, 0), (.iconst 1, 0, 0, 1, 0)] (by decide +kernel) rfl trivial ?_
  refine GE_callSIp (As := [.inl a1, .inl 0, .inl 1]) (S := []) (p_X5_in l X a1 0 1 w) ⟨me_X5_in, ms_X5_in, lk_X5_72⟩ (by decide +kernel) rfl (by decide) (by decide) (Nat.le_of_ble_eq_true rfl) ?_
  refine GE_if (k := .eq) (off := 23) (tgt := 29) (by decide +kernel) (by decide) (cnd_eq _ _) (fun c1 => ?_) (fun c1 => ?_)
  · refine GE_run flG_T (pc1 := 31) (L1 := [some (.inr (.inr (some (5, 0)))), some (.inl a1), some (.inl a2), none]) (S1 := [.inl (-2)]) (w1 := w) (P := True) [(.bipush (-2), 0, 0, -2, 0)] (by decide +kernel) rfl trivial ?_
    exact GE_iret rfl (by decide +kernel)
  · refine GE_run flG_T (pc1 := 12) (L1 := [some (.inr (.inr (some (5, 0)))), some (.inl a1), some (.inl a2), none]) (S1 := [.inl a1, .inl 0, .inl a2]) (w1 := w) (P := True) [(.iload_n 2, 0, 0, 0, 0), (.iconst 0, 0, 0, 0, 0), (.iload_n 1, 0, 0, 0, 0)] (by decide +kernel) rfl trivial ?_
    refine GE_ifN (k := .ne) (off := 9) (tgt := 21) (by decide +kernel) (by decide) (cnd_ne _ _) (fun c2 => ?_) (fun c2 => ?_)
    · refine GE_run flG_T (pc1 := 23) (L1 := [some (.inr (.inr (some (5, 0)))), some (.inl a1), some (.inl a2), none]) (S1 := [.inl 65535, .inl 0, .inl a2]) (w1 := w) (P := True) [(.ldc 92, 0, 0, 65535, 0)] (by decide +kernel) rfl trivial ?_
      exact GE_weak [true, true, true, false] (j_X5_shore_23_ok l X a1 a2 65535 0 a2 w)
    · refine GE_run flG_T (pc1 := 23) (L1 := [some (.inr (.inr (some (5, 0)))), some (.inl a1), some (.inl a2), none]) (S1 := [.inl 999, .inl 0, .inl a2]) (w1 := w) (P := True) [(.sipush 999, 0, 0, 999, 0), (.goto 5, 0, 0, 0, 0)] (by decide +kernel) rfl trivial ?_
      exact GE_weak [true, true, true, false] (j_X5_shore_23_ok l X a1 a2 999 0 a2 w)
abbrev mm_X5_feed : MI := (RX5, cX5_feed, 8, (some .int), ftp_X5.map (fun q => q.1), ctp_X5.map (fun q => q.1), clp_X5.map (fun q => q.1))
noncomputable def j_X5_feed_125  (kl68 : Int32 → Mem → Option (Int32 × Mem)) (x1 : Int32) (x2 : Int32) (x3 : Int32) (x4 : Int32) (x5 : Int32) (x6 : Int32) (x7 : Int32) (s0 : Int32) (s1 : Int32) (w : Mem) : Option (Int32 × Mem) := if inB s1 160 then (kl68 (x7 + 1) (up (up w 23 0 (tn s1) s0) 5 0 7 (((up w 23 0 (tn s1) s0) 5 0 7) + 1))) else none
set_option maxRecDepth 100000 in
theorem j_X5_feed_125_ok (l : Launch) (X : XC)  (kl68 : Int32 → Mem → Option (Int32 × Mem)) (x1 : Int32) (x2 : Int32) (x3 : Int32) (x4 : Int32) (x5 : Int32) (x6 : Int32) (x7 : Int32) (s0 : Int32) (s1 : Int32)  (ih : ∀ (x7 : Int32) (w : Mem), GE l X mm_X5_feed 2 emI 57 flT (kl68 x7 w) 68 [some (.inr (.inr (some (5, 0)))), some (.inl x1), some (.inl x2), some (.inl x3), some (.inl x4), some (.inl x5), some (.inl x6), some (.inl x7)] [] w) (w : Mem) : GE l X mm_X5_feed 2 emI 57 flT (j_X5_feed_125 kl68 x1 x2 x3 x4 x5 x6 x7 s0 s1 w) 125 [some (.inr (.inr (some (5, 0)))), some (.inl x1), some (.inl x2), some (.inl x3), some (.inl x4), some (.inl x5), some (.inl x6), some (.inl x7)] [.inl s0, .inl s1, .inr (.inr (some (23, 0)))] w := by
  unfold j_X5_feed_125
  refine GE_chk (fun h10 => ?_)
  refine GE_run flG_T (pc1 := 68) (L1 := [some (.inr (.inr (some (5, 0)))), some (.inl x1), some (.inl x2), some (.inl x3), some (.inl x4), some (.inl x5), some (.inl x6), some (.inl (x7 + 1))]) (S1 := []) (w1 := up (up w 23 0 (tn s1) s0) 5 0 7 (((up w 23 0 (tn s1) s0) 5 0 7) + 1)) (P := (inB s1 160) ∧ True) [(.iastore, 0, 0, 0, 0), (.aload_n 0, 0, 0, 0, 0), (.dup, 0, 0, 0, 0), (.getfield 61, 5, 7, 0, 0), (.iconst 1, 0, 0, 1, 0), (.iadd, 0, 0, 0, 0), (.putfield 61, 5, 7, 0, 0), (.iinc 7 1, 0, 0, 1, 0), (.goto (-71), 0, 0, 0, 0)] (by decide +kernel) rfl ⟨h10, trivial⟩ ?_
  exact GE_weak [true, true, true, true, true, true, true, true] (ih (x7 + 1) (up (up w 23 0 (tn s1) s0) 5 0 7 (((up w 23 0 (tn s1) s0) 5 0 7) + 1)))
noncomputable def h_X5_feed_68 (x1 : Int32) (x2 : Int32) (x3 : Int32) (x4 : Int32) (x5 : Int32) (x6 : Int32) (k142 : Mem → Option (Int32 × Mem)) : Nat → Int32 → Mem → Option (Int32 × Mem)
  | 0, _, _ => none
  | n + 1, x7, w => if x7 < x1 then (if x7 = 0 then (j_X5_feed_125 (h_X5_feed_68 x1 x2 x3 x4 x5 x6 k142 n) x1 x2 x3 x4 x5 x6 x7 x2 (w 5 0 7) w) else (if x7 = 1 then (j_X5_feed_125 (h_X5_feed_68 x1 x2 x3 x4 x5 x6 k142 n) x1 x2 x3 x4 x5 x6 x7 x3 (w 5 0 7) w) else (if x7 = 2 then (j_X5_feed_125 (h_X5_feed_68 x1 x2 x3 x4 x5 x6 k142 n) x1 x2 x3 x4 x5 x6 x7 x4 (w 5 0 7) w) else (if x7 = 3 then (j_X5_feed_125 (h_X5_feed_68 x1 x2 x3 x4 x5 x6 k142 n) x1 x2 x3 x4 x5 x6 x7 x5 (w 5 0 7) w) else (j_X5_feed_125 (h_X5_feed_68 x1 x2 x3 x4 x5 x6 k142 n) x1 x2 x3 x4 x5 x6 x7 x6 (w 5 0 7) w))))) else (k142 w)
set_option maxRecDepth 100000 in
theorem h_X5_feed_68_ok (l : Launch) (X : XC) (x1 : Int32) (x2 : Int32) (x3 : Int32) (x4 : Int32) (x5 : Int32) (x6 : Int32) (k142 : Mem → Option (Int32 × Mem))  (hk142 : ∀  (w : Mem), GE l X mm_X5_feed 2 emI 57 flT (k142 w) 142 [some (.inr (.inr (some (5, 0)))), none, none, none, none, none, none, none] [] w) : ∀ (n : Nat) (x7 : Int32) (w : Mem), GE l X mm_X5_feed 2 emI 57 flT ((h_X5_feed_68 x1 x2 x3 x4 x5 x6 k142 n) x7 w) 68 [some (.inr (.inr (some (5, 0)))), some (.inl x1), some (.inl x2), some (.inl x3), some (.inl x4), some (.inl x5), some (.inl x6), some (.inl x7)] [] w := by
  intro n
  induction n with
  | zero => intro x7 w; exact GE_none
  | succ n ih =>
    intro x7 w
    unfold h_X5_feed_68
    refine GE_run flG_T (pc1 := 71) (L1 := [some (.inr (.inr (some (5, 0)))), some (.inl x1), some (.inl x2), some (.inl x3), some (.inl x4), some (.inl x5), some (.inl x6), some (.inl x7)]) (S1 := [.inl x1, .inl x7]) (w1 := w) (P := True) [(.iload 7, 0, 0, 0, 0), (.iload_n 1, 0, 0, 0, 0)] (by decide +kernel) rfl trivial ?_
    refine GE_icmpN (k := .ge) (off := 71) (tgt := 142) (by decide +kernel) (by decide) (cnd_ge _ _) (fun c8 => ?_) (fun c8 => ?_)
    · exact GE_weak [true, false, false, false, false, false, false, false] (hk142 w)
    · refine GE_run flG_T (pc1 := 84) (L1 := [some (.inr (.inr (some (5, 0)))), some (.inl x1), some (.inl x2), some (.inl x3), some (.inl x4), some (.inl x5), some (.inl x6), some (.inl x7)]) (S1 := [.inl x7, .inl (w 5 0 7), .inr (.inr (some (23, 0)))]) (w1 := w) (P := True) [(.aload_n 0, 0, 0, 0, 0), (.getfield 19, 5, 6, 0, 0), (.aload_n 0, 0, 0, 0, 0), (.getfield 61, 5, 7, 0, 0), (.iload 7, 0, 0, 0, 0)] (by decide +kernel) rfl trivial ?_
      refine GE_ifN (k := .ne) (off := 7) (tgt := 91) (by decide +kernel) (by decide) (cnd_ne _ _) (fun c9 => ?_) (fun c9 => ?_)
      · refine GE_run flG_T (pc1 := 94) (L1 := [some (.inr (.inr (some (5, 0)))), some (.inl x1), some (.inl x2), some (.inl x3), some (.inl x4), some (.inl x5), some (.inl x6), some (.inl x7)]) (S1 := [.inl 1, .inl x7, .inl (w 5 0 7), .inr (.inr (some (23, 0)))]) (w1 := w) (P := True) [(.iload 7, 0, 0, 0, 0), (.iconst 1, 0, 0, 1, 0)] (by decide +kernel) rfl trivial ?_
        refine GE_icmpN (k := .ne) (off := 7) (tgt := 101) (by decide +kernel) (by decide) (cnd_ne _ _) (fun c11 => ?_) (fun c11 => ?_)
        · refine GE_run flG_T (pc1 := 104) (L1 := [some (.inr (.inr (some (5, 0)))), some (.inl x1), some (.inl x2), some (.inl x3), some (.inl x4), some (.inl x5), some (.inl x6), some (.inl x7)]) (S1 := [.inl 2, .inl x7, .inl (w 5 0 7), .inr (.inr (some (23, 0)))]) (w1 := w) (P := True) [(.iload 7, 0, 0, 0, 0), (.iconst 2, 0, 0, 2, 0)] (by decide +kernel) rfl trivial ?_
          refine GE_icmpN (k := .ne) (off := 8) (tgt := 112) (by decide +kernel) (by decide) (cnd_ne _ _) (fun c12 => ?_) (fun c12 => ?_)
          · refine GE_run flG_T (pc1 := 115) (L1 := [some (.inr (.inr (some (5, 0)))), some (.inl x1), some (.inl x2), some (.inl x3), some (.inl x4), some (.inl x5), some (.inl x6), some (.inl x7)]) (S1 := [.inl 3, .inl x7, .inl (w 5 0 7), .inr (.inr (some (23, 0)))]) (w1 := w) (P := True) [(.iload 7, 0, 0, 0, 0), (.iconst 3, 0, 0, 3, 0)] (by decide +kernel) rfl trivial ?_
            refine GE_icmpN (k := .ne) (off := 8) (tgt := 123) (by decide +kernel) (by decide) (cnd_ne _ _) (fun c13 => ?_) (fun c13 => ?_)
            · refine GE_run flG_T (pc1 := 125) (L1 := [some (.inr (.inr (some (5, 0)))), some (.inl x1), some (.inl x2), some (.inl x3), some (.inl x4), some (.inl x5), some (.inl x6), some (.inl x7)]) (S1 := [.inl x6, .inl (w 5 0 7), .inr (.inr (some (23, 0)))]) (w1 := w) (P := True) [(.iload 6, 0, 0, 0, 0)] (by decide +kernel) rfl trivial ?_
              exact GE_weak [true, true, true, true, true, true, true, true] (j_X5_feed_125_ok l X (h_X5_feed_68 x1 x2 x3 x4 x5 x6 k142 n) x1 x2 x3 x4 x5 x6 x7 x6 (w 5 0 7) ih w)
            · refine GE_run flG_T (pc1 := 125) (L1 := [some (.inr (.inr (some (5, 0)))), some (.inl x1), some (.inl x2), some (.inl x3), some (.inl x4), some (.inl x5), some (.inl x6), some (.inl x7)]) (S1 := [.inl x5, .inl (w 5 0 7), .inr (.inr (some (23, 0)))]) (w1 := w) (P := True) [(.iload 5, 0, 0, 0, 0), (.goto 5, 0, 0, 0, 0)] (by decide +kernel) rfl trivial ?_
              exact GE_weak [true, true, true, true, true, true, true, true] (j_X5_feed_125_ok l X (h_X5_feed_68 x1 x2 x3 x4 x5 x6 k142 n) x1 x2 x3 x4 x5 x6 x7 x5 (w 5 0 7) ih w)
          · refine GE_run flG_T (pc1 := 125) (L1 := [some (.inr (.inr (some (5, 0)))), some (.inl x1), some (.inl x2), some (.inl x3), some (.inl x4), some (.inl x5), some (.inl x6), some (.inl x7)]) (S1 := [.inl x4, .inl (w 5 0 7), .inr (.inr (some (23, 0)))]) (w1 := w) (P := True) [(.iload 4, 0, 0, 0, 0), (.goto 16, 0, 0, 0, 0)] (by decide +kernel) rfl trivial ?_
            exact GE_weak [true, true, true, true, true, true, true, true] (j_X5_feed_125_ok l X (h_X5_feed_68 x1 x2 x3 x4 x5 x6 k142 n) x1 x2 x3 x4 x5 x6 x7 x4 (w 5 0 7) ih w)
        · refine GE_run flG_T (pc1 := 125) (L1 := [some (.inr (.inr (some (5, 0)))), some (.inl x1), some (.inl x2), some (.inl x3), some (.inl x4), some (.inl x5), some (.inl x6), some (.inl x7)]) (S1 := [.inl x3, .inl (w 5 0 7), .inr (.inr (some (23, 0)))]) (w1 := w) (P := True) [(.iload_n 3, 0, 0, 0, 0), (.goto 27, 0, 0, 0, 0)] (by decide +kernel) rfl trivial ?_
          exact GE_weak [true, true, true, true, true, true, true, true] (j_X5_feed_125_ok l X (h_X5_feed_68 x1 x2 x3 x4 x5 x6 k142 n) x1 x2 x3 x4 x5 x6 x7 x3 (w 5 0 7) ih w)
      · refine GE_run flG_T (pc1 := 125) (L1 := [some (.inr (.inr (some (5, 0)))), some (.inl x1), some (.inl x2), some (.inl x3), some (.inl x4), some (.inl x5), some (.inl x6), some (.inl x7)]) (S1 := [.inl x2, .inl (w 5 0 7), .inr (.inr (some (23, 0)))]) (w1 := w) (P := True) [(.iload_n 2, 0, 0, 0, 0), (.goto 37, 0, 0, 0, 0)] (by decide +kernel) rfl trivial ?_
        exact GE_weak [true, true, true, true, true, true, true, true] (j_X5_feed_125_ok l X (h_X5_feed_68 x1 x2 x3 x4 x5 x6 k142 n) x1 x2 x3 x4 x5 x6 x7 x2 (w 5 0 7) ih w)
noncomputable def f_X5_feed (a1 : Int32) (a2 : Int32) (a3 : Int32) (a4 : Int32) (a5 : Int32) (a6 : Int32) (w : Mem) : Option (Int32 × Mem) := if (rng a1 1 5) = 0 then (some ((-2), w)) else (if (rng a2 0 255) = 0 then (some ((-2), w)) else (if (rng a3 0 255) = 0 then (some ((-2), w)) else (if (rng a4 0 255) = 0 then (some ((-2), w)) else (if (rng a5 0 255) = 0 then (some ((-2), w)) else (if (rng a6 0 255) = 0 then (some ((-2), w)) else (if ((w 5 0 7) + a1) ≤ 160 then (h_X5_feed_68 a1 a2 a3 a4 a5 a6 (fun w14 => some (w14 5 0 7, w14)) FU 0 w) else (some ((-4), w))))))))
set_option maxRecDepth 100000 in
theorem t_X5_feed (l : Launch) (X : XC)  (a1 : Int32) (a2 : Int32) (a3 : Int32) (a4 : Int32) (a5 : Int32) (a6 : Int32) (w : Mem) : Ct l X 2 yX5_feed cX5_feed 8 (some .int) emI [.inr (.inr (some (5, 0))), .inl a1, .inl a2, .inl a3, .inl a4, .inl a5, .inl a6] 57 flT w (f_X5_feed a1 a2 a3 a4 a5 a6 w) := by
  refine Ct_of (mi := mm_X5_feed) (mik_X5 _ _ _) me_X5_feed rfl (okAs_cons (by decide) (okAs_cons rfl (okAs_cons rfl (okAs_cons rfl (okAs_cons rfl (okAs_cons rfl (okAs_cons rfl okAs_nil))))))) (Nat.le_of_ble_eq_true rfl) ?_
  unfold f_X5_feed
  refine GE_run flG_T (pc1 := 3) (L1 := [some (.inr (.inr (some (5, 0)))), some (.inl a1), some (.inl a2), some (.inl a3), some (.inl a4), some (.inl a5), some (.inl a6), none]) (S1 := [.inl 5, .inl 1, .inl a1]) (w1 := w) (P := True) [(.iload_n 1, 0, 0, 0, 0), (.iconst 1, 0, 0, 1, 0), (.iconst 5, 0, 0, 5, 0)] (by decide +kernel) rfl trivial ?_
  refine GE_callSIp (As := [.inl a1, .inl 1, .inl 5]) (S := []) (p_X5_in l X a1 1 5 w) ⟨me_X5_in, ms_X5_in, lk_X5_72⟩ (by decide +kernel) rfl (by decide) (by decide) (Nat.le_of_ble_eq_true rfl) ?_
  refine GE_if (k := .eq) (off := 41) (tgt := 47) (by decide +kernel) (by decide) (cnd_eq _ _) (fun c1 => ?_) (fun c1 => ?_)
  · refine GE_run flG_T (pc1 := 49) (L1 := [some (.inr (.inr (some (5, 0)))), some (.inl a1), some (.inl a2), some (.inl a3), some (.inl a4), some (.inl a5), some (.inl a6), none]) (S1 := [.inl (-2)]) (w1 := w) (P := True) [(.bipush (-2), 0, 0, -2, 0)] (by decide +kernel) rfl trivial ?_
    exact GE_iret rfl (by decide +kernel)
  · refine GE_run flG_T (pc1 := 10) (L1 := [some (.inr (.inr (some (5, 0)))), some (.inl a1), some (.inl a2), some (.inl a3), some (.inl a4), some (.inl a5), some (.inl a6), none]) (S1 := [.inl a2]) (w1 := w) (P := True) [(.iload_n 2, 0, 0, 0, 0)] (by decide +kernel) rfl trivial ?_
    refine GE_callSIp (As := [.inl a2]) (S := []) (p_X5_isByte l X a2 w) ⟨me_X5_isByte, ms_X5_isByte, lk_X5_93⟩ (by decide +kernel) rfl (by decide) (by decide) (Nat.le_of_ble_eq_true rfl) ?_
    refine GE_if (k := .eq) (off := 34) (tgt := 47) (by decide +kernel) (by decide) (cnd_eq _ _) (fun c2 => ?_) (fun c2 => ?_)
    · refine GE_run flG_T (pc1 := 49) (L1 := [some (.inr (.inr (some (5, 0)))), some (.inl a1), some (.inl a2), some (.inl a3), some (.inl a4), some (.inl a5), some (.inl a6), none]) (S1 := [.inl (-2)]) (w1 := w) (P := True) [(.bipush (-2), 0, 0, -2, 0)] (by decide +kernel) rfl trivial ?_
      exact GE_iret rfl (by decide +kernel)
    · refine GE_run flG_T (pc1 := 17) (L1 := [some (.inr (.inr (some (5, 0)))), some (.inl a1), some (.inl a2), some (.inl a3), some (.inl a4), some (.inl a5), some (.inl a6), none]) (S1 := [.inl a3]) (w1 := w) (P := True) [(.iload_n 3, 0, 0, 0, 0)] (by decide +kernel) rfl trivial ?_
      refine GE_callSIp (As := [.inl a3]) (S := []) (p_X5_isByte l X a3 w) ⟨me_X5_isByte, ms_X5_isByte, lk_X5_93⟩ (by decide +kernel) rfl (by decide) (by decide) (Nat.le_of_ble_eq_true rfl) ?_
      refine GE_if (k := .eq) (off := 27) (tgt := 47) (by decide +kernel) (by decide) (cnd_eq _ _) (fun c3 => ?_) (fun c3 => ?_)
      · refine GE_run flG_T (pc1 := 49) (L1 := [some (.inr (.inr (some (5, 0)))), some (.inl a1), some (.inl a2), some (.inl a3), some (.inl a4), some (.inl a5), some (.inl a6), none]) (S1 := [.inl (-2)]) (w1 := w) (P := True) [(.bipush (-2), 0, 0, -2, 0)] (by decide +kernel) rfl trivial ?_
        exact GE_iret rfl (by decide +kernel)
      · refine GE_run flG_T (pc1 := 25) (L1 := [some (.inr (.inr (some (5, 0)))), some (.inl a1), some (.inl a2), some (.inl a3), some (.inl a4), some (.inl a5), some (.inl a6), none]) (S1 := [.inl a4]) (w1 := w) (P := True) [(.iload 4, 0, 0, 0, 0)] (by decide +kernel) rfl trivial ?_
        refine GE_callSIp (As := [.inl a4]) (S := []) (p_X5_isByte l X a4 w) ⟨me_X5_isByte, ms_X5_isByte, lk_X5_93⟩ (by decide +kernel) rfl (by decide) (by decide) (Nat.le_of_ble_eq_true rfl) ?_
        refine GE_if (k := .eq) (off := 19) (tgt := 47) (by decide +kernel) (by decide) (cnd_eq _ _) (fun c4 => ?_) (fun c4 => ?_)
        · refine GE_run flG_T (pc1 := 49) (L1 := [some (.inr (.inr (some (5, 0)))), some (.inl a1), some (.inl a2), some (.inl a3), some (.inl a4), some (.inl a5), some (.inl a6), none]) (S1 := [.inl (-2)]) (w1 := w) (P := True) [(.bipush (-2), 0, 0, -2, 0)] (by decide +kernel) rfl trivial ?_
          exact GE_iret rfl (by decide +kernel)
        · refine GE_run flG_T (pc1 := 33) (L1 := [some (.inr (.inr (some (5, 0)))), some (.inl a1), some (.inl a2), some (.inl a3), some (.inl a4), some (.inl a5), some (.inl a6), none]) (S1 := [.inl a5]) (w1 := w) (P := True) [(.iload 5, 0, 0, 0, 0)] (by decide +kernel) rfl trivial ?_
          refine GE_callSIp (As := [.inl a5]) (S := []) (p_X5_isByte l X a5 w) ⟨me_X5_isByte, ms_X5_isByte, lk_X5_93⟩ (by decide +kernel) rfl (by decide) (by decide) (Nat.le_of_ble_eq_true rfl) ?_
          refine GE_if (k := .eq) (off := 11) (tgt := 47) (by decide +kernel) (by decide) (cnd_eq _ _) (fun c5 => ?_) (fun c5 => ?_)
          · refine GE_run flG_T (pc1 := 49) (L1 := [some (.inr (.inr (some (5, 0)))), some (.inl a1), some (.inl a2), some (.inl a3), some (.inl a4), some (.inl a5), some (.inl a6), none]) (S1 := [.inl (-2)]) (w1 := w) (P := True) [(.bipush (-2), 0, 0, -2, 0)] (by decide +kernel) rfl trivial ?_
            exact GE_iret rfl (by decide +kernel)
          · refine GE_run flG_T (pc1 := 41) (L1 := [some (.inr (.inr (some (5, 0)))), some (.inl a1), some (.inl a2), some (.inl a3), some (.inl a4), some (.inl a5), some (.inl a6), none]) (S1 := [.inl a6]) (w1 := w) (P := True) [(.iload 6, 0, 0, 0, 0)] (by decide +kernel) rfl trivial ?_
            refine GE_callSIp (As := [.inl a6]) (S := []) (p_X5_isByte l X a6 w) ⟨me_X5_isByte, ms_X5_isByte, lk_X5_93⟩ (by decide +kernel) rfl (by decide) (by decide) (Nat.le_of_ble_eq_true rfl) ?_
            refine GE_ifN (k := .ne) (off := 6) (tgt := 50) (by decide +kernel) (by decide) (cnd_ne _ _) (fun c6 => ?_) (fun c6 => ?_)
            · refine GE_run flG_T (pc1 := 59) (L1 := [some (.inr (.inr (some (5, 0)))), some (.inl a1), some (.inl a2), some (.inl a3), some (.inl a4), some (.inl a5), some (.inl a6), none]) (S1 := [.inl 160, .inl ((w 5 0 7) + a1)]) (w1 := w) (P := True) [(.aload_n 0, 0, 0, 0, 0), (.getfield 61, 5, 7, 0, 0), (.iload_n 1, 0, 0, 0, 0), (.iadd, 0, 0, 0, 0), (.sipush 160, 0, 0, 160, 0)] (by decide +kernel) rfl trivial ?_
              refine GE_icmp (k := .le) (off := 6) (tgt := 65) (by decide +kernel) (by decide) (cnd_le _ _) (fun c7 => ?_) (fun c7 => ?_)
              · refine GE_run flG_T (pc1 := 68) (L1 := [some (.inr (.inr (some (5, 0)))), some (.inl a1), some (.inl a2), some (.inl a3), some (.inl a4), some (.inl a5), some (.inl a6), some (.inl 0)]) (S1 := []) (w1 := w) (P := True) [(.iconst 0, 0, 0, 0, 0), (.istore 7, 0, 0, 0, 0)] (by decide +kernel) rfl trivial ?_
                refine GE_weak [true, true, true, true, true, true, true, true] (h_X5_feed_68_ok l X a1 a2 a3 a4 a5 a6 _ ?_ FU 0 w)
                · intro w14
                  refine GE_run flG_T (pc1 := 146) (L1 := [some (.inr (.inr (some (5, 0)))), none, none, none, none, none, none, none]) (S1 := [.inl (w14 5 0 7)]) (w1 := w14) (P := True) [(.aload_n 0, 0, 0, 0, 0), (.getfield 61, 5, 7, 0, 0)] (by decide +kernel) rfl trivial ?_
                  exact GE_iret rfl (by decide +kernel)
              · refine GE_run flG_T (pc1 := 64) (L1 := [some (.inr (.inr (some (5, 0)))), some (.inl a1), some (.inl a2), some (.inl a3), some (.inl a4), some (.inl a5), some (.inl a6), none]) (S1 := [.inl (-4)]) (w1 := w) (P := True) [(.bipush (-4), 0, 0, -4, 0)] (by decide +kernel) rfl trivial ?_
                exact GE_iret rfl (by decide +kernel)
            · refine GE_run flG_T (pc1 := 49) (L1 := [some (.inr (.inr (some (5, 0)))), some (.inl a1), some (.inl a2), some (.inl a3), some (.inl a4), some (.inl a5), some (.inl a6), none]) (S1 := [.inl (-2)]) (w1 := w) (P := True) [(.bipush (-2), 0, 0, -2, 0)] (by decide +kernel) rfl trivial ?_
              exact GE_iret rfl (by decide +kernel)
abbrev mm_X5_wordFrom : MI := (RX5, cX5_wordFrom, 6, (some .int), ftp_X5.map (fun q => q.1), ctp_X5.map (fun q => q.1), clp_X5.map (fun q => q.1))
noncomputable def j_X5_wordFrom_72  (kl26 : Int32 → Int32 → Mem → Option (Int32 × Mem)) (x1 : Int32) (x2 : Int32) (x3 : Int32) (x5 : Int32) (s0 : Int32) (s1 : Int32) (w : Mem) : Option (Int32 × Mem) := if s1 = s0 then (kl26 1 (x5 + 1) w) else (kl26 0 (x5 + 1) w)
set_option maxRecDepth 100000 in
theorem j_X5_wordFrom_72_ok (l : Launch) (X : XC)  (kl26 : Int32 → Int32 → Mem → Option (Int32 × Mem)) (x1 : Int32) (x2 : Int32) (x3 : Int32) (x5 : Int32) (s0 : Int32) (s1 : Int32)  (ih : ∀ (x4 : Int32) (x5 : Int32) (w : Mem), GE l X mm_X5_wordFrom 0 emI 57 flT (kl26 x4 x5 w) 26 [some (.inr (.inr (some (5, 0)))), some (.inl x1), some (.inl x2), some (.inl x3), some (.inl x4), some (.inl x5)] [] w) (w : Mem) : GE l X mm_X5_wordFrom 0 emI 57 flT (j_X5_wordFrom_72 kl26 x1 x2 x3 x5 s0 s1 w) 72 [some (.inr (.inr (some (5, 0)))), some (.inl x1), some (.inl x2), some (.inl x3), none, some (.inl x5)] [.inl s0, .inl s1] w := by
  unfold j_X5_wordFrom_72
  refine GE_icmpN (k := .ne) (off := 7) (tgt := 79) (by decide +kernel) (by decide) (cnd_ne _ _) (fun c8 => ?_) (fun c8 => ?_)
  · refine GE_run flG_T (pc1 := 26) (L1 := [some (.inr (.inr (some (5, 0)))), some (.inl x1), some (.inl x2), some (.inl x3), some (.inl 0), some (.inl (x5 + 1))]) (S1 := []) (w1 := w) (P := True) [(.iconst 0, 0, 0, 0, 0), (.istore 4, 0, 0, 0, 0), (.iinc 5 1, 0, 0, 1, 0), (.goto (-59), 0, 0, 0, 0)] (by decide +kernel) rfl trivial ?_
    exact GE_weak [true, true, true, true, true, true] (ih 0 (x5 + 1) w)
  · refine GE_run flG_T (pc1 := 26) (L1 := [some (.inr (.inr (some (5, 0)))), some (.inl x1), some (.inl x2), some (.inl x3), some (.inl 1), some (.inl (x5 + 1))]) (S1 := []) (w1 := w) (P := True) [(.iconst 1, 0, 0, 1, 0), (.goto 4, 0, 0, 0, 0), (.istore 4, 0, 0, 0, 0), (.iinc 5 1, 0, 0, 1, 0), (.goto (-59), 0, 0, 0, 0)] (by decide +kernel) rfl trivial ?_
    exact GE_weak [true, true, true, true, true, true] (ih 1 (x5 + 1) w)
noncomputable def h_X5_wordFrom_26 (x1 : Int32) (x2 : Int32) (x3 : Int32) (k88 : Int32 → Mem → Option (Int32 × Mem)) : Nat → Int32 → Int32 → Mem → Option (Int32 × Mem)
  | 0, _, _, _ => none
  | n + 1, x4, x5, w => if x5 < 8 then (if x4 = 0 then (k88 x4 w) else (if inB ((8 * x3) + x5) 96 then (if (x1 + x5) < x2 then (if inB (x1 + x5) 160 then (j_X5_wordFrom_72 (h_X5_wordFrom_26 x1 x2 x3 k88 n) x1 x2 x3 x5 (w 23 0 (tn (x1 + x5))) (w 32 0 (tn ((8 * x3) + x5))) w) else none) else (j_X5_wordFrom_72 (h_X5_wordFrom_26 x1 x2 x3 k88 n) x1 x2 x3 x5 32 (w 32 0 (tn ((8 * x3) + x5))) w)) else none)) else (k88 x4 w)
set_option maxRecDepth 100000 in
theorem h_X5_wordFrom_26_ok (l : Launch) (X : XC) (x1 : Int32) (x2 : Int32) (x3 : Int32) (k88 : Int32 → Mem → Option (Int32 × Mem))  (hk88 : ∀ (x4 : Int32) (w : Mem), GE l X mm_X5_wordFrom 0 emI 57 flT (k88 x4 w) 88 [some (.inr (.inr (some (5, 0)))), some (.inl x1), some (.inl x2), some (.inl x3), some (.inl x4), none] [] w) : ∀ (n : Nat) (x4 : Int32) (x5 : Int32) (w : Mem), GE l X mm_X5_wordFrom 0 emI 57 flT ((h_X5_wordFrom_26 x1 x2 x3 k88 n) x4 x5 w) 26 [some (.inr (.inr (some (5, 0)))), some (.inl x1), some (.inl x2), some (.inl x3), some (.inl x4), some (.inl x5)] [] w := by
  intro n
  induction n with
  | zero => intro x4 x5 w; exact GE_none
  | succ n ih =>
    intro x4 x5 w
    unfold h_X5_wordFrom_26
    refine GE_run flG_T (pc1 := 30) (L1 := [some (.inr (.inr (some (5, 0)))), some (.inl x1), some (.inl x2), some (.inl x3), some (.inl x4), some (.inl x5)]) (S1 := [.inl 8, .inl x5]) (w1 := w) (P := True) [(.iload 5, 0, 0, 0, 0), (.bipush 8, 0, 0, 8, 0)] (by decide +kernel) rfl trivial ?_
    refine GE_icmpN (k := .ge) (off := 58) (tgt := 88) (by decide +kernel) (by decide) (cnd_ge _ _) (fun c3 => ?_) (fun c3 => ?_)
    · exact GE_weak [true, true, true, true, true, false] (hk88 x4 w)
    · refine GE_run flG_T (pc1 := 35) (L1 := [some (.inr (.inr (some (5, 0)))), some (.inl x1), some (.inl x2), some (.inl x3), some (.inl x4), some (.inl x5)]) (S1 := [.inl x4]) (w1 := w) (P := True) [(.iload 4, 0, 0, 0, 0)] (by decide +kernel) rfl trivial ?_
      refine GE_if (k := .eq) (off := 53) (tgt := 88) (by decide +kernel) (by decide) (cnd_eq _ _) (fun c4 => ?_) (fun c4 => ?_)
      · exact GE_weak [true, true, true, true, true, false] (hk88 x4 w)
      · refine GE_chk (fun h5 => ?_)
        refine GE_run flG_T (pc1 := 55) (L1 := [some (.inr (.inr (some (5, 0)))), some (.inl x1), some (.inl x2), some (.inl x3), some (.inl x4), some (.inl x5)]) (S1 := [.inl x2, .inl (x1 + x5), .inl (w 32 0 (tn ((8 * x3) + x5)))]) (w1 := w) (P := (inB ((8 * x3) + x5) 96) ∧ True) [(.aload_n 0, 0, 0, 0, 0), (.getfield 46, 5, 23, 0, 0), (.bipush 8, 0, 0, 8, 0), (.iload_n 3, 0, 0, 0, 0), (.imul, 0, 0, 0, 0), (.iload 5, 0, 0, 0, 0), (.iadd, 0, 0, 0, 0), (.iaload, 0, 0, 0, 0), (.iload_n 1, 0, 0, 0, 0), (.iload 5, 0, 0, 0, 0), (.iadd, 0, 0, 0, 0), (.iload_n 2, 0, 0, 0, 0)] (by decide +kernel) rfl ⟨h5, trivial⟩ ?_
        refine GE_icmpN (k := .ge) (off := 15) (tgt := 70) (by decide +kernel) (by decide) (cnd_ge _ _) (fun c6 => ?_) (fun c6 => ?_)
        · refine GE_run flG_T (pc1 := 72) (L1 := [some (.inr (.inr (some (5, 0)))), some (.inl x1), some (.inl x2), some (.inl x3), some (.inl x4), some (.inl x5)]) (S1 := [.inl 32, .inl (w 32 0 (tn ((8 * x3) + x5)))]) (w1 := w) (P := True) [(.bipush 32, 0, 0, 32, 0)] (by decide +kernel) rfl trivial ?_
          exact GE_weak [true, true, true, true, false, true] (j_X5_wordFrom_72_ok l X (h_X5_wordFrom_26 x1 x2 x3 k88 n) x1 x2 x3 x5 32 (w 32 0 (tn ((8 * x3) + x5))) ih w)
        · refine GE_chk (fun h7 => ?_)
          refine GE_run flG_T (pc1 := 72) (L1 := [some (.inr (.inr (some (5, 0)))), some (.inl x1), some (.inl x2), some (.inl x3), some (.inl x4), some (.inl x5)]) (S1 := [.inl (w 23 0 (tn (x1 + x5))), .inl (w 32 0 (tn ((8 * x3) + x5)))]) (w1 := w) (P := (inB (x1 + x5) 160) ∧ True) [(.aload_n 0, 0, 0, 0, 0), (.getfield 19, 5, 6, 0, 0), (.iload_n 1, 0, 0, 0, 0), (.iload 5, 0, 0, 0, 0), (.iadd, 0, 0, 0, 0), (.iaload, 0, 0, 0, 0), (.goto 5, 0, 0, 0, 0)] (by decide +kernel) rfl ⟨h7, trivial⟩ ?_
          exact GE_weak [true, true, true, true, false, true] (j_X5_wordFrom_72_ok l X (h_X5_wordFrom_26 x1 x2 x3 k88 n) x1 x2 x3 x5 (w 23 0 (tn (x1 + x5))) (w 32 0 (tn ((8 * x3) + x5))) ih w)
noncomputable def j_X5_wordFrom_88  (kl2 : Int32 → Mem → Option (Int32 × Mem)) (x1 : Int32) (x2 : Int32) (x3 : Int32) (x4 : Int32) (w : Mem) : Option (Int32 × Mem) := if x4 = 0 then (kl2 (x3 + 1) w) else (some (x3, w))
set_option maxRecDepth 100000 in
theorem j_X5_wordFrom_88_ok (l : Launch) (X : XC)  (kl2 : Int32 → Mem → Option (Int32 × Mem)) (x1 : Int32) (x2 : Int32) (x3 : Int32) (x4 : Int32)  (ih : ∀ (x3 : Int32) (w : Mem), GE l X mm_X5_wordFrom 0 emI 57 flT (kl2 x3 w) 2 [some (.inr (.inr (some (5, 0)))), some (.inl x1), some (.inl x2), some (.inl x3), none, none] [] w) (w : Mem) : GE l X mm_X5_wordFrom 0 emI 57 flT (j_X5_wordFrom_88 kl2 x1 x2 x3 x4 w) 88 [some (.inr (.inr (some (5, 0)))), some (.inl x1), some (.inl x2), some (.inl x3), some (.inl x4), none] [] w := by
  unfold j_X5_wordFrom_88
  refine GE_run flG_T (pc1 := 90) (L1 := [some (.inr (.inr (some (5, 0)))), some (.inl x1), some (.inl x2), some (.inl x3), some (.inl x4), none]) (S1 := [.inl x4]) (w1 := w) (P := True) [(.iload 4, 0, 0, 0, 0)] (by decide +kernel) rfl trivial ?_
  refine GE_if (k := .eq) (off := 5) (tgt := 95) (by decide +kernel) (by decide) (cnd_eq _ _) (fun c11 => ?_) (fun c11 => ?_)
  · refine GE_run flG_T (pc1 := 2) (L1 := [some (.inr (.inr (some (5, 0)))), some (.inl x1), some (.inl x2), some (.inl (x3 + 1)), some (.inl x4), none]) (S1 := []) (w1 := w) (P := True) [(.iinc 3 1, 0, 0, 1, 0), (.goto (-96), 0, 0, 0, 0)] (by decide +kernel) rfl trivial ?_
    exact GE_weak [true, true, true, true, false, false] (ih (x3 + 1) w)
  · refine GE_run flG_T (pc1 := 94) (L1 := [some (.inr (.inr (some (5, 0)))), some (.inl x1), some (.inl x2), some (.inl x3), some (.inl x4), none]) (S1 := [.inl x3]) (w1 := w) (P := True) [(.iload_n 3, 0, 0, 0, 0)] (by decide +kernel) rfl trivial ?_
    exact GE_iret rfl (by decide +kernel)
noncomputable def j_X5_wordFrom_21  (kl2 : Int32 → Mem → Option (Int32 × Mem)) (x1 : Int32) (x2 : Int32) (x3 : Int32) (s0 : Int32) (w : Mem) : Option (Int32 × Mem) := h_X5_wordFrom_26 x1 x2 x3 (fun x4_9 w10 => j_X5_wordFrom_88 kl2 x1 x2 x3 x4_9 w10) FU s0 0 w
set_option maxRecDepth 100000 in
theorem j_X5_wordFrom_21_ok (l : Launch) (X : XC)  (kl2 : Int32 → Mem → Option (Int32 × Mem)) (x1 : Int32) (x2 : Int32) (x3 : Int32) (s0 : Int32)  (ih : ∀ (x3 : Int32) (w : Mem), GE l X mm_X5_wordFrom 0 emI 57 flT (kl2 x3 w) 2 [some (.inr (.inr (some (5, 0)))), some (.inl x1), some (.inl x2), some (.inl x3), none, none] [] w) (w : Mem) : GE l X mm_X5_wordFrom 0 emI 57 flT (j_X5_wordFrom_21 kl2 x1 x2 x3 s0 w) 21 [some (.inr (.inr (some (5, 0)))), some (.inl x1), some (.inl x2), some (.inl x3), none, none] [.inl s0] w := by
  unfold j_X5_wordFrom_21
  refine GE_run flG_T (pc1 := 26) (L1 := [some (.inr (.inr (some (5, 0)))), some (.inl x1), some (.inl x2), some (.inl x3), some (.inl s0), some (.inl 0)]) (S1 := []) (w1 := w) (P := True) [(.istore 4, 0, 0, 0, 0), (.iconst 0, 0, 0, 0, 0), (.istore 5, 0, 0, 0, 0)] (by decide +kernel) rfl trivial ?_
  refine GE_weak [true, true, true, true, true, true] (h_X5_wordFrom_26_ok l X x1 x2 x3 _ ?_ FU s0 0 w)
  · intro x4_9 w10
    exact GE_weak [true, true, true, true, true, false] (j_X5_wordFrom_88_ok l X kl2 x1 x2 x3 x4_9 ih w10)
noncomputable def h_X5_wordFrom_2 (x1 : Int32) (x2 : Int32) (k101 : Mem → Option (Int32 × Mem)) : Nat → Int32 → Mem → Option (Int32 × Mem)
  | 0, _, _ => none
  | n + 1, x3, w => if x3 < 12 then (if (x2 - x1) ≤ 8 then (j_X5_wordFrom_21 (h_X5_wordFrom_2 x1 x2 k101 n) x1 x2 x3 1 w) else (j_X5_wordFrom_21 (h_X5_wordFrom_2 x1 x2 k101 n) x1 x2 x3 0 w)) else (k101 w)
set_option maxRecDepth 100000 in
theorem h_X5_wordFrom_2_ok (l : Launch) (X : XC) (x1 : Int32) (x2 : Int32) (k101 : Mem → Option (Int32 × Mem))  (hk101 : ∀  (w : Mem), GE l X mm_X5_wordFrom 0 emI 57 flT (k101 w) 101 [none, none, none, none, none, none] [] w) : ∀ (n : Nat) (x3 : Int32) (w : Mem), GE l X mm_X5_wordFrom 0 emI 57 flT ((h_X5_wordFrom_2 x1 x2 k101 n) x3 w) 2 [some (.inr (.inr (some (5, 0)))), some (.inl x1), some (.inl x2), some (.inl x3), none, none] [] w := by
  intro n
  induction n with
  | zero => intro x3 w; exact GE_none
  | succ n ih =>
    intro x3 w
    unfold h_X5_wordFrom_2
    refine GE_run flG_T (pc1 := 5) (L1 := [some (.inr (.inr (some (5, 0)))), some (.inl x1), some (.inl x2), some (.inl x3), none, none]) (S1 := [.inl 12, .inl x3]) (w1 := w) (P := True) [(.iload_n 3, 0, 0, 0, 0), (.bipush 12, 0, 0, 12, 0)] (by decide +kernel) rfl trivial ?_
    refine GE_icmpN (k := .ge) (off := 96) (tgt := 101) (by decide +kernel) (by decide) (cnd_ge _ _) (fun c1 => ?_) (fun c1 => ?_)
    · exact GE_weak [false, false, false, false, false, false] (hk101 w)
    · refine GE_run flG_T (pc1 := 13) (L1 := [some (.inr (.inr (some (5, 0)))), some (.inl x1), some (.inl x2), some (.inl x3), none, none]) (S1 := [.inl 8, .inl (x2 - x1)]) (w1 := w) (P := True) [(.iload_n 2, 0, 0, 0, 0), (.iload_n 1, 0, 0, 0, 0), (.isub, 0, 0, 0, 0), (.bipush 8, 0, 0, 8, 0)] (by decide +kernel) rfl trivial ?_
      refine GE_icmpN (k := .gt) (off := 7) (tgt := 20) (by decide +kernel) (by decide) (cnd_gt _ _) (fun c2 => ?_) (fun c2 => ?_)
      · refine GE_run flG_T (pc1 := 21) (L1 := [some (.inr (.inr (some (5, 0)))), some (.inl x1), some (.inl x2), some (.inl x3), none, none]) (S1 := [.inl 0]) (w1 := w) (P := True) [(.iconst 0, 0, 0, 0, 0)] (by decide +kernel) rfl trivial ?_
        exact GE_weak [true, true, true, true, false, false] (j_X5_wordFrom_21_ok l X (h_X5_wordFrom_2 x1 x2 k101 n) x1 x2 x3 0 ih w)
      · refine GE_run flG_T (pc1 := 21) (L1 := [some (.inr (.inr (some (5, 0)))), some (.inl x1), some (.inl x2), some (.inl x3), none, none]) (S1 := [.inl 1]) (w1 := w) (P := True) [(.iconst 1, 0, 0, 1, 0), (.goto 4, 0, 0, 0, 0)] (by decide +kernel) rfl trivial ?_
        exact GE_weak [true, true, true, true, false, false] (j_X5_wordFrom_21_ok l X (h_X5_wordFrom_2 x1 x2 k101 n) x1 x2 x3 1 ih w)
noncomputable def f_X5_wordFrom (a1 : Int32) (a2 : Int32) (w : Mem) : Option (Int32 × Mem) := h_X5_wordFrom_2 a1 a2 (fun w12 => some (12, w12)) FU 0 w
set_option maxRecDepth 100000 in
theorem t_X5_wordFrom (l : Launch) (X : XC)  (a1 : Int32) (a2 : Int32) (w : Mem) : Ct l X 0 yX5_wordFrom cX5_wordFrom 6 (some .int) emI [.inr (.inr (some (5, 0))), .inl a1, .inl a2] 57 flT w (f_X5_wordFrom a1 a2 w) := by
  refine Ct_of (mi := mm_X5_wordFrom) (mik_X5 _ _ _) me_X5_wordFrom rfl (okAs_cons (by decide) (okAs_cons rfl (okAs_cons rfl okAs_nil))) (Nat.le_of_ble_eq_true rfl) ?_
  unfold f_X5_wordFrom
  refine GE_run flG_T (pc1 := 2) (L1 := [some (.inr (.inr (some (5, 0)))), some (.inl a1), some (.inl a2), some (.inl 0), none, none]) (S1 := []) (w1 := w) (P := True) [(.iconst 0, 0, 0, 0, 0), (.istore_n 3, 0, 0, 0, 0)] (by decide +kernel) rfl trivial ?_
  refine GE_weak [true, true, true, true, false, false] (h_X5_wordFrom_2_ok l X a1 a2 _ ?_ FU 0 w)
  · intro w12
    refine GE_run flG_T (pc1 := 103) (L1 := [none, none, none, none, none, none]) (S1 := [.inl 12]) (w1 := w12) (P := True) [(.bipush 12, 0, 0, 12, 0)] (by decide +kernel) rfl trivial ?_
    exact GE_iret rfl (by decide +kernel)
abbrev mm_X5_next : MI := (RX5, cX5_next, 3, none, ftp_X5.map (fun q => q.1), ctp_X5.map (fun q => q.1), clp_X5.map (fun q => q.1))
noncomputable def j_X5_next_39  (kl0 : Mem → Option (Mem))  (w : Mem) : Option (Mem) := kl0 (up w 5 0 19 ((w 5 0 19) + 1))
set_option maxRecDepth 100000 in
theorem j_X5_next_39_ok (l : Launch) (X : XC)  (kl0 : Mem → Option (Mem))   (ih : ∀  (w : Mem), GE l X mm_X5_next 1 emV 57 flT (kl0 w) 0 [some (.inr (.inr (some (5, 0)))), none, none] [] w) (w : Mem) : GE l X mm_X5_next 1 emV 57 flT (j_X5_next_39 kl0 w) 39 [some (.inr (.inr (some (5, 0)))), none, none] [] w := by
  unfold j_X5_next_39
  refine GE_run flG_T (pc1 := 0) (L1 := [some (.inr (.inr (some (5, 0)))), none, none]) (S1 := []) (w1 := up w 5 0 19 ((w 5 0 19) + 1)) (P := True) [(.aload_n 0, 0, 0, 0, 0), (.dup, 0, 0, 0, 0), (.getfield 97, 5, 19, 0, 0), (.iconst 1, 0, 0, 1, 0), (.iadd, 0, 0, 0, 0), (.putfield 97, 5, 19, 0, 0), (.goto (-49), 0, 0, 0, 0)] (by decide +kernel) rfl trivial ?_
  exact GE_weak [true, false, false] (ih (up w 5 0 19 ((w 5 0 19) + 1)))
noncomputable def h_X5_next_0  (k52 : Mem → Option (Mem)) : Nat → Mem → Option (Mem)
  | 0, _ => none
  | n + 1, w => if (w 5 0 19) < (w 5 0 7) then (if inB (w 5 0 19) 160 then (if (w 23 0 (tn (w 5 0 19))) = 32 then (j_X5_next_39 (h_X5_next_0 k52 n) w) else (if inB (w 5 0 19) 160 then (if (w 23 0 (tn (w 5 0 19))) = 10 then (j_X5_next_39 (h_X5_next_0 k52 n) w) else (k52 w)) else none)) else none) else (k52 w)
set_option maxRecDepth 100000 in
theorem h_X5_next_0_ok (l : Launch) (X : XC)  (k52 : Mem → Option (Mem))  (hk52 : ∀  (w : Mem), GE l X mm_X5_next 1 emV 57 flT (k52 w) 52 [some (.inr (.inr (some (5, 0)))), none, none] [] w) : ∀ (n : Nat)  (w : Mem), GE l X mm_X5_next 1 emV 57 flT ((h_X5_next_0 k52 n)  w) 0 [some (.inr (.inr (some (5, 0)))), none, none] [] w := by
  intro n
  induction n with
  | zero => intro w; exact GE_none
  | succ n ih =>
    intro w
    unfold h_X5_next_0
    refine GE_run flG_T (pc1 := 8) (L1 := [some (.inr (.inr (some (5, 0)))), none, none]) (S1 := [.inl (w 5 0 7), .inl (w 5 0 19)]) (w1 := w) (P := True) [(.aload_n 0, 0, 0, 0, 0), (.getfield 97, 5, 19, 0, 0), (.aload_n 0, 0, 0, 0, 0), (.getfield 61, 5, 7, 0, 0)] (by decide +kernel) rfl trivial ?_
    refine GE_icmpN (k := .ge) (off := 44) (tgt := 52) (by decide +kernel) (by decide) (cnd_ge _ _) (fun c1 => ?_) (fun c1 => ?_)
    · exact GE_weak [true, false, false] (hk52 w)
    · refine GE_chk (fun h2 => ?_)
      refine GE_run flG_T (pc1 := 22) (L1 := [some (.inr (.inr (some (5, 0)))), none, none]) (S1 := [.inl 32, .inl (w 23 0 (tn (w 5 0 19)))]) (w1 := w) (P := (inB (w 5 0 19) 160) ∧ True) [(.aload_n 0, 0, 0, 0, 0), (.getfield 19, 5, 6, 0, 0), (.aload_n 0, 0, 0, 0, 0), (.getfield 97, 5, 19, 0, 0), (.iaload, 0, 0, 0, 0), (.bipush 32, 0, 0, 32, 0)] (by decide +kernel) rfl ⟨h2, trivial⟩ ?_
      refine GE_icmp (k := .eq) (off := 17) (tgt := 39) (by decide +kernel) (by decide) (cnd_eq _ _) (fun c3 => ?_) (fun c3 => ?_)
      · exact GE_weak [true, false, false] (j_X5_next_39_ok l X (h_X5_next_0 k52 n) ih w)
      · refine GE_chk (fun h4 => ?_)
        refine GE_run flG_T (pc1 := 36) (L1 := [some (.inr (.inr (some (5, 0)))), none, none]) (S1 := [.inl 10, .inl (w 23 0 (tn (w 5 0 19)))]) (w1 := w) (P := (inB (w 5 0 19) 160) ∧ True) [(.aload_n 0, 0, 0, 0, 0), (.getfield 19, 5, 6, 0, 0), (.aload_n 0, 0, 0, 0, 0), (.getfield 97, 5, 19, 0, 0), (.iaload, 0, 0, 0, 0), (.bipush 10, 0, 0, 10, 0)] (by decide +kernel) rfl ⟨h4, trivial⟩ ?_
        refine GE_icmpN (k := .ne) (off := 16) (tgt := 52) (by decide +kernel) (by decide) (cnd_ne _ _) (fun c5 => ?_) (fun c5 => ?_)
        · exact GE_weak [true, false, false] (hk52 w)
        · exact GE_weak [true, false, false] (j_X5_next_39_ok l X (h_X5_next_0 k52 n) ih w)
noncomputable def j_X5_next_390   (s0 : Int32) (w : Mem) : Option (Mem) := some (up (up w 5 0 21 s0) 5 0 19 (((up w 5 0 21 s0) 5 0 19) + 1))
set_option maxRecDepth 100000 in
theorem j_X5_next_390_ok (l : Launch) (X : XC)   (s0 : Int32)   (w : Mem) : GE l X mm_X5_next 1 emV 57 flT (j_X5_next_390 s0 w) 390 [some (.inr (.inr (some (5, 0)))), none, none] [.inl s0, .inr (.inr (some (5, 0)))] w := by
  unfold j_X5_next_390
  refine GE_run flG_T (pc1 := 403) (L1 := [some (.inr (.inr (some (5, 0)))), none, none]) (S1 := []) (w1 := up (up w 5 0 21 s0) 5 0 19 (((up w 5 0 21 s0) 5 0 19) + 1)) (P := True) [(.putfield 103, 5, 21, 0, 0), (.aload_n 0, 0, 0, 0, 0), (.dup, 0, 0, 0, 0), (.getfield 97, 5, 19, 0, 0), (.iconst 1, 0, 0, 1, 0), (.iadd, 0, 0, 0, 0), (.putfield 97, 5, 19, 0, 0)] (by decide +kernel) rfl trivial ?_
  exact GE_vret rfl (by decide +kernel)
noncomputable def j_X5_next_379   (x1 : Int32) (s0 : Int32) (w : Mem) : Option (Mem) := if s0 = 0 then (j_X5_next_390 (-1) w) else (j_X5_next_390 x1 w)
set_option maxRecDepth 100000 in
theorem j_X5_next_379_ok (l : Launch) (X : XC)   (x1 : Int32) (s0 : Int32)   (w : Mem) : GE l X mm_X5_next 1 emV 57 flT (j_X5_next_379 x1 s0 w) 379 [some (.inr (.inr (some (5, 0)))), some (.inl x1), none] [.inl s0] w := by
  unfold j_X5_next_379
  refine GE_run flG_T (pc1 := 382) (L1 := [some (.inr (.inr (some (5, 0)))), some (.inl x1), some (.inl s0)]) (S1 := [.inl s0, .inr (.inr (some (5, 0)))]) (w1 := w) (P := True) [(.istore_n 2, 0, 0, 0, 0), (.aload_n 0, 0, 0, 0, 0), (.iload_n 2, 0, 0, 0, 0)] (by decide +kernel) rfl trivial ?_
  refine GE_if (k := .eq) (off := 7) (tgt := 389) (by decide +kernel) (by decide) (cnd_eq _ _) (fun c12 => ?_) (fun c12 => ?_)
  · refine GE_run flG_T (pc1 := 390) (L1 := [some (.inr (.inr (some (5, 0)))), some (.inl x1), some (.inl s0)]) (S1 := [.inl (-1), .inr (.inr (some (5, 0)))]) (w1 := w) (P := True) [(.iconst (-1), 0, 0, -1, 0)] (by decide +kernel) rfl trivial ?_
    exact GE_weak [true, false, false] (j_X5_next_390_ok l X (-1) w)
  · refine GE_run flG_T (pc1 := 390) (L1 := [some (.inr (.inr (some (5, 0)))), some (.inl x1), some (.inl s0)]) (S1 := [.inl x1, .inr (.inr (some (5, 0)))]) (w1 := w) (P := True) [(.iload_n 1, 0, 0, 0, 0), (.goto 4, 0, 0, 0, 0)] (by decide +kernel) rfl trivial ?_
    exact GE_weak [true, false, false] (j_X5_next_390_ok l X x1 w)
noncomputable def j_X5_next_374   (x1 : Int32) (w : Mem) : Option (Mem) := j_X5_next_379 x1 1 w
set_option maxRecDepth 100000 in
theorem j_X5_next_374_ok (l : Launch) (X : XC)   (x1 : Int32)   (w : Mem) : GE l X mm_X5_next 1 emV 57 flT (j_X5_next_374 x1 w) 374 [some (.inr (.inr (some (5, 0)))), some (.inl x1), none] [] w := by
  unfold j_X5_next_374
  refine GE_run flG_T (pc1 := 379) (L1 := [some (.inr (.inr (some (5, 0)))), some (.inl x1), none]) (S1 := [.inl 1]) (w1 := w) (P := True) [(.iconst 1, 0, 0, 1, 0), (.goto 4, 0, 0, 0, 0)] (by decide +kernel) rfl trivial ?_
  exact GE_weak [true, true, false] (j_X5_next_379_ok l X x1 1 w)
noncomputable def j_X5_next_290  (kl230 : Int32 → Mem → Option (Mem)) (x2 : Int32) (s0 : Int32) (w : Mem) : Option (Mem) := kl230 (x2 + 1) (up (up w 5 0 22 s0) 5 0 19 (((up w 5 0 22 s0) 5 0 19) + 1))
set_option maxRecDepth 100000 in
theorem j_X5_next_290_ok (l : Launch) (X : XC)  (kl230 : Int32 → Mem → Option (Mem)) (x2 : Int32) (s0 : Int32)  (ih : ∀ (x2 : Int32) (w : Mem), GE l X mm_X5_next 1 emV 57 flT (kl230 x2 w) 230 [some (.inr (.inr (some (5, 0)))), none, some (.inl x2)] [] w) (w : Mem) : GE l X mm_X5_next 1 emV 57 flT (j_X5_next_290 kl230 x2 s0 w) 290 [some (.inr (.inr (some (5, 0)))), none, some (.inl x2)] [.inl s0, .inr (.inr (some (5, 0)))] w := by
  unfold j_X5_next_290
  refine GE_run flG_T (pc1 := 230) (L1 := [some (.inr (.inr (some (5, 0)))), none, some (.inl (x2 + 1))]) (S1 := []) (w1 := up (up w 5 0 22 s0) 5 0 19 (((up w 5 0 22 s0) 5 0 19) + 1)) (P := True) [(.putfield 106, 5, 22, 0, 0), (.iinc 2 1, 0, 0, 1, 0), (.aload_n 0, 0, 0, 0, 0), (.dup, 0, 0, 0, 0), (.getfield 97, 5, 19, 0, 0), (.iconst 1, 0, 0, 1, 0), (.iadd, 0, 0, 0, 0), (.putfield 97, 5, 19, 0, 0), (.goto (-76), 0, 0, 0, 0)] (by decide +kernel) rfl trivial ?_
  exact GE_weak [true, false, true] (ih (x2 + 1) (up (up w 5 0 22 s0) 5 0 19 (((up w 5 0 22 s0) 5 0 19) + 1)))
noncomputable def h_X5_next_230  (k309 : Int32 → Mem → Option (Mem)) : Nat → Int32 → Mem → Option (Mem)
  | 0, _, _ => none
  | n + 1, x2, w => if (w 5 0 19) < (w 5 0 7) then (if inB (w 5 0 19) 160 then (if (rng (w 23 0 (tn (w 5 0 19))) 48 57) = 0 then (k309 x2 w) else (if x2 < 4 then (if inB (w 5 0 19) 160 then (j_X5_next_290 (h_X5_next_230 k309 n) x2 (((10 * (w 5 0 22)) + (w 23 0 (tn (w 5 0 19)))) - 48) w) else none) else (j_X5_next_290 (h_X5_next_230 k309 n) x2 0 w))) else none) else (k309 x2 w)
set_option maxRecDepth 100000 in
theorem h_X5_next_230_ok (l : Launch) (X : XC)  (k309 : Int32 → Mem → Option (Mem))  (hk309 : ∀ (x2 : Int32) (w : Mem), GE l X mm_X5_next 1 emV 57 flT (k309 x2 w) 309 [some (.inr (.inr (some (5, 0)))), none, some (.inl x2)] [] w) : ∀ (n : Nat) (x2 : Int32) (w : Mem), GE l X mm_X5_next 1 emV 57 flT ((h_X5_next_230 k309 n) x2 w) 230 [some (.inr (.inr (some (5, 0)))), none, some (.inl x2)] [] w := by
  intro n
  induction n with
  | zero => intro x2 w; exact GE_none
  | succ n ih =>
    intro x2 w
    unfold h_X5_next_230
    refine GE_run flG_T (pc1 := 238) (L1 := [some (.inr (.inr (some (5, 0)))), none, some (.inl x2)]) (S1 := [.inl (w 5 0 7), .inl (w 5 0 19)]) (w1 := w) (P := True) [(.aload_n 0, 0, 0, 0, 0), (.getfield 97, 5, 19, 0, 0), (.aload_n 0, 0, 0, 0, 0), (.getfield 61, 5, 7, 0, 0)] (by decide +kernel) rfl trivial ?_
    refine GE_icmpN (k := .ge) (off := 71) (tgt := 309) (by decide +kernel) (by decide) (cnd_ge _ _) (fun c20 => ?_) (fun c20 => ?_)
    · exact GE_weak [true, false, true] (hk309 x2 w)
    · refine GE_chk (fun h21 => ?_)
      refine GE_run flG_T (pc1 := 254) (L1 := [some (.inr (.inr (some (5, 0)))), none, some (.inl x2)]) (S1 := [.inl 57, .inl 48, .inl (w 23 0 (tn (w 5 0 19)))]) (w1 := w) (P := (inB (w 5 0 19) 160) ∧ True) [(.aload_n 0, 0, 0, 0, 0), (.getfield 19, 5, 6, 0, 0), (.aload_n 0, 0, 0, 0, 0), (.getfield 97, 5, 19, 0, 0), (.iaload, 0, 0, 0, 0), (.bipush 48, 0, 0, 48, 0), (.bipush 57, 0, 0, 57, 0)] (by decide +kernel) rfl ⟨h21, trivial⟩ ?_
      refine GE_callSIp (As := [.inl (w 23 0 (tn (w 5 0 19))), .inl 48, .inl 57]) (S := []) (p_X5_in l X (w 23 0 (tn (w 5 0 19))) 48 57 w) ⟨me_X5_in, ms_X5_in, lk_X5_72⟩ (by decide +kernel) rfl (by decide) (by decide) (Nat.le_of_ble_eq_true rfl) ?_
      refine GE_if (k := .eq) (off := 52) (tgt := 309) (by decide +kernel) (by decide) (cnd_eq _ _) (fun c22 => ?_) (fun c22 => ?_)
      · exact GE_weak [true, false, true] (hk309 x2 w)
      · refine GE_run flG_T (pc1 := 263) (L1 := [some (.inr (.inr (some (5, 0)))), none, some (.inl x2)]) (S1 := [.inl 4, .inl x2, .inr (.inr (some (5, 0)))]) (w1 := w) (P := True) [(.aload_n 0, 0, 0, 0, 0), (.iload_n 2, 0, 0, 0, 0), (.iconst 4, 0, 0, 4, 0)] (by decide +kernel) rfl trivial ?_
        refine GE_icmpN (k := .ge) (off := 26) (tgt := 289) (by decide +kernel) (by decide) (cnd_ge _ _) (fun c23 => ?_) (fun c23 => ?_)
        · refine GE_run flG_T (pc1 := 290) (L1 := [some (.inr (.inr (some (5, 0)))), none, some (.inl x2)]) (S1 := [.inl 0, .inr (.inr (some (5, 0)))]) (w1 := w) (P := True) [(.iconst 0, 0, 0, 0, 0)] (by decide +kernel) rfl trivial ?_
          exact GE_weak [true, false, true] (j_X5_next_290_ok l X (h_X5_next_230 k309 n) x2 0 ih w)
        · refine GE_chk (fun h24 => ?_)
          refine GE_run flG_T (pc1 := 290) (L1 := [some (.inr (.inr (some (5, 0)))), none, some (.inl x2)]) (S1 := [.inl (((10 * (w 5 0 22)) + (w 23 0 (tn (w 5 0 19)))) - 48), .inr (.inr (some (5, 0)))]) (w1 := w) (P := (inB (w 5 0 19) 160) ∧ True) [(.bipush 10, 0, 0, 10, 0), (.aload_n 0, 0, 0, 0, 0), (.getfield 106, 5, 22, 0, 0), (.imul, 0, 0, 0, 0), (.aload_n 0, 0, 0, 0, 0), (.getfield 19, 5, 6, 0, 0), (.aload_n 0, 0, 0, 0, 0), (.getfield 97, 5, 19, 0, 0), (.iaload, 0, 0, 0, 0), (.iadd, 0, 0, 0, 0), (.bipush 48, 0, 0, 48, 0), (.isub, 0, 0, 0, 0), (.goto 4, 0, 0, 0, 0)] (by decide +kernel) rfl ⟨h24, trivial⟩ ?_
          exact GE_weak [true, false, true] (j_X5_next_290_ok l X (h_X5_next_230 k309 n) x2 (((10 * (w 5 0 22)) + (w 23 0 (tn (w 5 0 19)))) - 48) ih w)
noncomputable def j_X5_next_309   (x2 : Int32) (w : Mem) : Option (Mem) := if x2 ≤ 4 then (some (up w 5 0 21 1)) else (some (up w 5 0 21 (-1)))
set_option maxRecDepth 100000 in
theorem j_X5_next_309_ok (l : Launch) (X : XC)   (x2 : Int32)   (w : Mem) : GE l X mm_X5_next 1 emV 57 flT (j_X5_next_309 x2 w) 309 [some (.inr (.inr (some (5, 0)))), none, some (.inl x2)] [] w := by
  unfold j_X5_next_309
  refine GE_run flG_T (pc1 := 312) (L1 := [some (.inr (.inr (some (5, 0)))), none, some (.inl x2)]) (S1 := [.inl 4, .inl x2, .inr (.inr (some (5, 0)))]) (w1 := w) (P := True) [(.aload_n 0, 0, 0, 0, 0), (.iload_n 2, 0, 0, 0, 0), (.iconst 4, 0, 0, 4, 0)] (by decide +kernel) rfl trivial ?_
  refine GE_icmp (k := .le) (off := 7) (tgt := 319) (by decide +kernel) (by decide) (cnd_le _ _) (fun c27 => ?_) (fun c27 => ?_)
  · refine GE_run flG_T (pc1 := 403) (L1 := [some (.inr (.inr (some (5, 0)))), none, some (.inl x2)]) (S1 := []) (w1 := up w 5 0 21 1) (P := True) [(.iconst 1, 0, 0, 1, 0), (.putfield 103, 5, 21, 0, 0), (.goto 80, 0, 0, 0, 0)] (by decide +kernel) rfl trivial ?_
    exact GE_vret rfl (by decide +kernel)
  · refine GE_run flG_T (pc1 := 403) (L1 := [some (.inr (.inr (some (5, 0)))), none, some (.inl x2)]) (S1 := []) (w1 := up w 5 0 21 (-1)) (P := True) [(.iconst (-1), 0, 0, -1, 0), (.goto 4, 0, 0, 0, 0), (.putfield 103, 5, 21, 0, 0), (.goto 80, 0, 0, 0, 0)] (by decide +kernel) rfl trivial ?_
    exact GE_vret rfl (by decide +kernel)
noncomputable def h_X5_next_103  (k146 : Mem → Option (Mem)) : Nat → Mem → Option (Mem)
  | 0, _ => none
  | n + 1, w => if (w 5 0 19) < (w 5 0 7) then (if inB (w 5 0 19) 160 then (if (rng (w 23 0 (tn (w 5 0 19))) 97 122) = 0 then (k146 w) else ((h_X5_next_103 k146 n) (up w 5 0 19 ((w 5 0 19) + 1)))) else none) else (k146 w)
set_option maxRecDepth 100000 in
theorem h_X5_next_103_ok (l : Launch) (X : XC)  (k146 : Mem → Option (Mem))  (hk146 : ∀  (w : Mem), GE l X mm_X5_next 1 emV 57 flT (k146 w) 146 [some (.inr (.inr (some (5, 0)))), none, none] [] w) : ∀ (n : Nat)  (w : Mem), GE l X mm_X5_next 1 emV 57 flT ((h_X5_next_103 k146 n)  w) 103 [some (.inr (.inr (some (5, 0)))), none, none] [] w := by
  intro n
  induction n with
  | zero => intro w; exact GE_none
  | succ n ih =>
    intro w
    unfold h_X5_next_103
    refine GE_run flG_T (pc1 := 111) (L1 := [some (.inr (.inr (some (5, 0)))), none, none]) (S1 := [.inl (w 5 0 7), .inl (w 5 0 19)]) (w1 := w) (P := True) [(.aload_n 0, 0, 0, 0, 0), (.getfield 97, 5, 19, 0, 0), (.aload_n 0, 0, 0, 0, 0), (.getfield 61, 5, 7, 0, 0)] (by decide +kernel) rfl trivial ?_
    refine GE_icmpN (k := .ge) (off := 35) (tgt := 146) (by decide +kernel) (by decide) (cnd_ge _ _) (fun c28 => ?_) (fun c28 => ?_)
    · exact GE_weak [true, false, false] (hk146 w)
    · refine GE_chk (fun h29 => ?_)
      refine GE_run flG_T (pc1 := 127) (L1 := [some (.inr (.inr (some (5, 0)))), none, none]) (S1 := [.inl 122, .inl 97, .inl (w 23 0 (tn (w 5 0 19)))]) (w1 := w) (P := (inB (w 5 0 19) 160) ∧ True) [(.aload_n 0, 0, 0, 0, 0), (.getfield 19, 5, 6, 0, 0), (.aload_n 0, 0, 0, 0, 0), (.getfield 97, 5, 19, 0, 0), (.iaload, 0, 0, 0, 0), (.bipush 97, 0, 0, 97, 0), (.bipush 122, 0, 0, 122, 0)] (by decide +kernel) rfl ⟨h29, trivial⟩ ?_
      refine GE_callSIp (As := [.inl (w 23 0 (tn (w 5 0 19))), .inl 97, .inl 122]) (S := []) (p_X5_in l X (w 23 0 (tn (w 5 0 19))) 97 122 w) ⟨me_X5_in, ms_X5_in, lk_X5_72⟩ (by decide +kernel) rfl (by decide) (by decide) (Nat.le_of_ble_eq_true rfl) ?_
      refine GE_if (k := .eq) (off := 16) (tgt := 146) (by decide +kernel) (by decide) (cnd_eq _ _) (fun c30 => ?_) (fun c30 => ?_)
      · exact GE_weak [true, false, false] (hk146 w)
      · refine GE_run flG_T (pc1 := 103) (L1 := [some (.inr (.inr (some (5, 0)))), none, none]) (S1 := []) (w1 := up w 5 0 19 ((w 5 0 19) + 1)) (P := True) [(.aload_n 0, 0, 0, 0, 0), (.dup, 0, 0, 0, 0), (.getfield 97, 5, 19, 0, 0), (.iconst 1, 0, 0, 1, 0), (.iadd, 0, 0, 0, 0), (.putfield 97, 5, 19, 0, 0), (.goto (-40), 0, 0, 0, 0)] (by decide +kernel) rfl trivial ?_
        exact GE_weak [true, false, false] (ih (up w 5 0 19 ((w 5 0 19) + 1)))
noncomputable def j_X5_next_195   (x2 : Int32) (s0 : Int32) (w : Mem) : Option (Mem) := if x2 < 3 then (some (up (up w 5 0 21 s0) 5 0 22 x2)) else (some (up (up w 5 0 21 s0) 5 0 22 (x2 - 3)))
set_option maxRecDepth 100000 in
theorem j_X5_next_195_ok (l : Launch) (X : XC)   (x2 : Int32) (s0 : Int32)   (w : Mem) : GE l X mm_X5_next 1 emV 57 flT (j_X5_next_195 x2 s0 w) 195 [some (.inr (.inr (some (5, 0)))), none, some (.inl x2)] [.inl s0, .inr (.inr (some (5, 0)))] w := by
  unfold j_X5_next_195
  refine GE_run flG_T (pc1 := 201) (L1 := [some (.inr (.inr (some (5, 0)))), none, some (.inl x2)]) (S1 := [.inl 3, .inl x2, .inr (.inr (some (5, 0)))]) (w1 := up w 5 0 21 s0) (P := True) [(.putfield 103, 5, 21, 0, 0), (.aload_n 0, 0, 0, 0, 0), (.iload_n 2, 0, 0, 0, 0), (.iconst 3, 0, 0, 3, 0)] (by decide +kernel) rfl trivial ?_
  refine GE_icmpN (k := .ge) (off := 7) (tgt := 208) (by decide +kernel) (by decide) (cnd_ge _ _) (fun c34 => ?_) (fun c34 => ?_)
  · refine GE_run flG_T (pc1 := 403) (L1 := [some (.inr (.inr (some (5, 0)))), none, some (.inl x2)]) (S1 := []) (w1 := up (up w 5 0 21 s0) 5 0 22 (x2 - 3)) (P := True) [(.iload_n 2, 0, 0, 0, 0), (.iconst 3, 0, 0, 3, 0), (.isub, 0, 0, 0, 0), (.putfield 106, 5, 22, 0, 0), (.goto 189, 0, 0, 0, 0)] (by decide +kernel) rfl trivial ?_
    exact GE_vret rfl (by decide +kernel)
  · refine GE_run flG_T (pc1 := 403) (L1 := [some (.inr (.inr (some (5, 0)))), none, some (.inl x2)]) (S1 := []) (w1 := up (up w 5 0 21 s0) 5 0 22 x2) (P := True) [(.iload_n 2, 0, 0, 0, 0), (.goto 6, 0, 0, 0, 0), (.putfield 106, 5, 22, 0, 0), (.goto 189, 0, 0, 0, 0)] (by decide +kernel) rfl trivial ?_
    exact GE_vret rfl (by decide +kernel)
noncomputable def j_X5_next_146    (w : Mem) : Option (Mem) := Option.bind (f_X5_wordFrom (w 5 0 20) (w 5 0 19) w) (fun r32 => if r32.1 < 3 then (j_X5_next_195 r32.1 3 r32.2) else (if r32.1 < 9 then (j_X5_next_195 r32.1 2 r32.2) else (if r32.1 = 12 then (j_X5_next_195 r32.1 (-1) r32.2) else (j_X5_next_195 r32.1 ((4 + r32.1) - 9) r32.2))))
set_option maxRecDepth 100000 in
theorem j_X5_next_146_ok (l : Launch) (X : XC)      (w : Mem) : GE l X mm_X5_next 1 emV 57 flT (j_X5_next_146  w) 146 [some (.inr (.inr (some (5, 0)))), none, none] [] w := by
  unfold j_X5_next_146
  refine GE_run flG_T (pc1 := 155) (L1 := [some (.inr (.inr (some (5, 0)))), none, none]) (S1 := [.inl (w 5 0 19), .inl (w 5 0 20), .inr (.inr (some (5, 0)))]) (w1 := w) (P := True) [(.aload_n 0, 0, 0, 0, 0), (.aload_n 0, 0, 0, 0, 0), (.getfield 100, 5, 20, 0, 0), (.aload_n 0, 0, 0, 0, 0), (.getfield 97, 5, 19, 0, 0)] (by decide +kernel) rfl trivial ?_
  refine GE_callVI (As := [.inl (w 5 0 20), .inl (w 5 0 19)]) (k := 5) (i := 0) (S := []) (t_X5_wordFrom l X (w 5 0 20) (w 5 0 19) w) (by decide) ⟨me_X5_wordFrom, mi_X5_wordFrom, mv_X5_wordFrom, lk_X5_109⟩ rfl (by decide +kernel) rfl (by decide) (by decide) (Nat.le_of_ble_eq_true rfl) (fun r32 _ => ?_)
  refine GE_run flG_T (pc1 := 162) (L1 := [some (.inr (.inr (some (5, 0)))), none, some (.inl r32.1)]) (S1 := [.inl 3, .inl r32.1, .inr (.inr (some (5, 0)))]) (w1 := r32.2) (P := True) [(.istore_n 2, 0, 0, 0, 0), (.aload_n 0, 0, 0, 0, 0), (.iload_n 2, 0, 0, 0, 0), (.iconst 3, 0, 0, 3, 0)] (by decide +kernel) rfl trivial ?_
  refine GE_icmpN (k := .ge) (off := 7) (tgt := 169) (by decide +kernel) (by decide) (cnd_ge _ _) (fun c33 => ?_) (fun c33 => ?_)
  · refine GE_run flG_T (pc1 := 172) (L1 := [some (.inr (.inr (some (5, 0)))), none, some (.inl r32.1)]) (S1 := [.inl 9, .inl r32.1, .inr (.inr (some (5, 0)))]) (w1 := r32.2) (P := True) [(.iload_n 2, 0, 0, 0, 0), (.bipush 9, 0, 0, 9, 0)] (by decide +kernel) rfl trivial ?_
    refine GE_icmpN (k := .ge) (off := 7) (tgt := 179) (by decide +kernel) (by decide) (cnd_ge _ _) (fun c35 => ?_) (fun c35 => ?_)
    · refine GE_run flG_T (pc1 := 182) (L1 := [some (.inr (.inr (some (5, 0)))), none, some (.inl r32.1)]) (S1 := [.inl 12, .inl r32.1, .inr (.inr (some (5, 0)))]) (w1 := r32.2) (P := True) [(.iload_n 2, 0, 0, 0, 0), (.bipush 12, 0, 0, 12, 0)] (by decide +kernel) rfl trivial ?_
      refine GE_icmpN (k := .ne) (off := 7) (tgt := 189) (by decide +kernel) (by decide) (cnd_ne _ _) (fun c36 => ?_) (fun c36 => ?_)
      · refine GE_run flG_T (pc1 := 195) (L1 := [some (.inr (.inr (some (5, 0)))), none, some (.inl r32.1)]) (S1 := [.inl ((4 + r32.1) - 9), .inr (.inr (some (5, 0)))]) (w1 := r32.2) (P := True) [(.iconst 4, 0, 0, 4, 0), (.iload_n 2, 0, 0, 0, 0), (.iadd, 0, 0, 0, 0), (.bipush 9, 0, 0, 9, 0), (.isub, 0, 0, 0, 0)] (by decide +kernel) rfl trivial ?_
        exact GE_weak [true, false, true] (j_X5_next_195_ok l X r32.1 ((4 + r32.1) - 9) r32.2)
      · refine GE_run flG_T (pc1 := 195) (L1 := [some (.inr (.inr (some (5, 0)))), none, some (.inl r32.1)]) (S1 := [.inl (-1), .inr (.inr (some (5, 0)))]) (w1 := r32.2) (P := True) [(.iconst (-1), 0, 0, -1, 0), (.goto 9, 0, 0, 0, 0)] (by decide +kernel) rfl trivial ?_
        exact GE_weak [true, false, true] (j_X5_next_195_ok l X r32.1 (-1) r32.2)
    · refine GE_run flG_T (pc1 := 195) (L1 := [some (.inr (.inr (some (5, 0)))), none, some (.inl r32.1)]) (S1 := [.inl 2, .inr (.inr (some (5, 0)))]) (w1 := r32.2) (P := True) [(.iconst 2, 0, 0, 2, 0), (.goto 19, 0, 0, 0, 0)] (by decide +kernel) rfl trivial ?_
      exact GE_weak [true, false, true] (j_X5_next_195_ok l X r32.1 2 r32.2)
  · refine GE_run flG_T (pc1 := 195) (L1 := [some (.inr (.inr (some (5, 0)))), none, some (.inl r32.1)]) (S1 := [.inl 3, .inr (.inr (some (5, 0)))]) (w1 := r32.2) (P := True) [(.iconst 3, 0, 0, 3, 0), (.goto 29, 0, 0, 0, 0)] (by decide +kernel) rfl trivial ?_
    exact GE_weak [true, false, true] (j_X5_next_195_ok l X r32.1 3 r32.2)
noncomputable def j_X5_next_52    (w : Mem) : Option (Mem) := if ((up (up (up w 5 0 20 (w 5 0 19)) 5 0 21 0) 5 0 22 0) 5 0 19) = ((up (up (up w 5 0 20 (w 5 0 19)) 5 0 21 0) 5 0 22 0) 5 0 7) then (some (up (up (up w 5 0 20 (w 5 0 19)) 5 0 21 0) 5 0 22 0)) else (if inB ((up (up (up w 5 0 20 (w 5 0 19)) 5 0 21 0) 5 0 22 0) 5 0 19) 160 then (if (rng ((up (up (up w 5 0 20 (w 5 0 19)) 5 0 21 0) 5 0 22 0) 23 0 (tn ((up (up (up w 5 0 20 (w 5 0 19)) 5 0 21 0) 5 0 22 0) 5 0 19))) 97 122) = 0 then (if (rng ((up (up (up w 5 0 20 (w 5 0 19)) 5 0 21 0) 5 0 22 0) 23 0 (tn ((up (up (up w 5 0 20 (w 5 0 19)) 5 0 21 0) 5 0 22 0) 5 0 19))) 48 57) = 0 then (if ((up (up (up w 5 0 20 (w 5 0 19)) 5 0 21 0) 5 0 22 0) 23 0 (tn ((up (up (up w 5 0 20 (w 5 0 19)) 5 0 21 0) 5 0 22 0) 5 0 19))) = 40 then (j_X5_next_374 ((up (up (up w 5 0 20 (w 5 0 19)) 5 0 21 0) 5 0 22 0) 23 0 (tn ((up (up (up w 5 0 20 (w 5 0 19)) 5 0 21 0) 5 0 22 0) 5 0 19))) (up (up (up w 5 0 20 (w 5 0 19)) 5 0 21 0) 5 0 22 0)) else (if ((up (up (up w 5 0 20 (w 5 0 19)) 5 0 21 0) 5 0 22 0) 23 0 (tn ((up (up (up w 5 0 20 (w 5 0 19)) 5 0 21 0) 5 0 22 0) 5 0 19))) = 41 then (j_X5_next_374 ((up (up (up w 5 0 20 (w 5 0 19)) 5 0 21 0) 5 0 22 0) 23 0 (tn ((up (up (up w 5 0 20 (w 5 0 19)) 5 0 21 0) 5 0 22 0) 5 0 19))) (up (up (up w 5 0 20 (w 5 0 19)) 5 0 21 0) 5 0 22 0)) else (if ((up (up (up w 5 0 20 (w 5 0 19)) 5 0 21 0) 5 0 22 0) 23 0 (tn ((up (up (up w 5 0 20 (w 5 0 19)) 5 0 21 0) 5 0 22 0) 5 0 19))) = 59 then (j_X5_next_374 ((up (up (up w 5 0 20 (w 5 0 19)) 5 0 21 0) 5 0 22 0) 23 0 (tn ((up (up (up w 5 0 20 (w 5 0 19)) 5 0 21 0) 5 0 22 0) 5 0 19))) (up (up (up w 5 0 20 (w 5 0 19)) 5 0 21 0) 5 0 22 0)) else (if ((up (up (up w 5 0 20 (w 5 0 19)) 5 0 21 0) 5 0 22 0) 23 0 (tn ((up (up (up w 5 0 20 (w 5 0 19)) 5 0 21 0) 5 0 22 0) 5 0 19))) = 43 then (j_X5_next_374 ((up (up (up w 5 0 20 (w 5 0 19)) 5 0 21 0) 5 0 22 0) 23 0 (tn ((up (up (up w 5 0 20 (w 5 0 19)) 5 0 21 0) 5 0 22 0) 5 0 19))) (up (up (up w 5 0 20 (w 5 0 19)) 5 0 21 0) 5 0 22 0)) else (if ((up (up (up w 5 0 20 (w 5 0 19)) 5 0 21 0) 5 0 22 0) 23 0 (tn ((up (up (up w 5 0 20 (w 5 0 19)) 5 0 21 0) 5 0 22 0) 5 0 19))) = 45 then (j_X5_next_374 ((up (up (up w 5 0 20 (w 5 0 19)) 5 0 21 0) 5 0 22 0) 23 0 (tn ((up (up (up w 5 0 20 (w 5 0 19)) 5 0 21 0) 5 0 22 0) 5 0 19))) (up (up (up w 5 0 20 (w 5 0 19)) 5 0 21 0) 5 0 22 0)) else (if ((up (up (up w 5 0 20 (w 5 0 19)) 5 0 21 0) 5 0 22 0) 23 0 (tn ((up (up (up w 5 0 20 (w 5 0 19)) 5 0 21 0) 5 0 22 0) 5 0 19))) = 42 then (j_X5_next_374 ((up (up (up w 5 0 20 (w 5 0 19)) 5 0 21 0) 5 0 22 0) 23 0 (tn ((up (up (up w 5 0 20 (w 5 0 19)) 5 0 21 0) 5 0 22 0) 5 0 19))) (up (up (up w 5 0 20 (w 5 0 19)) 5 0 21 0) 5 0 22 0)) else (if ((up (up (up w 5 0 20 (w 5 0 19)) 5 0 21 0) 5 0 22 0) 23 0 (tn ((up (up (up w 5 0 20 (w 5 0 19)) 5 0 21 0) 5 0 22 0) 5 0 19))) = 60 then (j_X5_next_374 ((up (up (up w 5 0 20 (w 5 0 19)) 5 0 21 0) 5 0 22 0) 23 0 (tn ((up (up (up w 5 0 20 (w 5 0 19)) 5 0 21 0) 5 0 22 0) 5 0 19))) (up (up (up w 5 0 20 (w 5 0 19)) 5 0 21 0) 5 0 22 0)) else (if ((up (up (up w 5 0 20 (w 5 0 19)) 5 0 21 0) 5 0 22 0) 23 0 (tn ((up (up (up w 5 0 20 (w 5 0 19)) 5 0 21 0) 5 0 22 0) 5 0 19))) = 61 then (j_X5_next_374 ((up (up (up w 5 0 20 (w 5 0 19)) 5 0 21 0) 5 0 22 0) 23 0 (tn ((up (up (up w 5 0 20 (w 5 0 19)) 5 0 21 0) 5 0 22 0) 5 0 19))) (up (up (up w 5 0 20 (w 5 0 19)) 5 0 21 0) 5 0 22 0)) else (j_X5_next_379 ((up (up (up w 5 0 20 (w 5 0 19)) 5 0 21 0) 5 0 22 0) 23 0 (tn ((up (up (up w 5 0 20 (w 5 0 19)) 5 0 21 0) 5 0 22 0) 5 0 19))) 0 (up (up (up w 5 0 20 (w 5 0 19)) 5 0 21 0) 5 0 22 0)))))))))) else (h_X5_next_230 (fun x2_25 w26 => j_X5_next_309 x2_25 w26) FU 0 (up (up (up w 5 0 20 (w 5 0 19)) 5 0 21 0) 5 0 22 0))) else (h_X5_next_103 (fun w31 => j_X5_next_146 w31) FU (up (up (up w 5 0 20 (w 5 0 19)) 5 0 21 0) 5 0 22 0))) else none)
set_option maxRecDepth 100000 in
theorem j_X5_next_52_ok (l : Launch) (X : XC)      (w : Mem) : GE l X mm_X5_next 1 emV 57 flT (j_X5_next_52  w) 52 [some (.inr (.inr (some (5, 0)))), none, none] [] w := by
  unfold j_X5_next_52
  refine GE_run flG_T (pc1 := 78) (L1 := [some (.inr (.inr (some (5, 0)))), none, none]) (S1 := [.inl ((up (up (up w 5 0 20 (w 5 0 19)) 5 0 21 0) 5 0 22 0) 5 0 7), .inl ((up (up (up w 5 0 20 (w 5 0 19)) 5 0 21 0) 5 0 22 0) 5 0 19)]) (w1 := up (up (up w 5 0 20 (w 5 0 19)) 5 0 21 0) 5 0 22 0) (P := True) [(.aload_n 0, 0, 0, 0, 0), (.aload_n 0, 0, 0, 0, 0), (.getfield 97, 5, 19, 0, 0), (.putfield 100, 5, 20, 0, 0), (.aload_n 0, 0, 0, 0, 0), (.iconst 0, 0, 0, 0, 0), (.putfield 103, 5, 21, 0, 0), (.aload_n 0, 0, 0, 0, 0), (.iconst 0, 0, 0, 0, 0), (.putfield 106, 5, 22, 0, 0), (.aload_n 0, 0, 0, 0, 0), (.getfield 97, 5, 19, 0, 0), (.aload_n 0, 0, 0, 0, 0), (.getfield 61, 5, 7, 0, 0)] (by decide +kernel) rfl trivial ?_
  refine GE_icmpN (k := .ne) (off := 4) (tgt := 82) (by decide +kernel) (by decide) (cnd_ne _ _) (fun c7 => ?_) (fun c7 => ?_)
  · refine GE_chk (fun h8 => ?_)
    refine GE_run flG_T (pc1 := 97) (L1 := [some (.inr (.inr (some (5, 0)))), some (.inl ((up (up (up w 5 0 20 (w 5 0 19)) 5 0 21 0) 5 0 22 0) 23 0 (tn ((up (up (up w 5 0 20 (w 5 0 19)) 5 0 21 0) 5 0 22 0) 5 0 19)))), none]) (S1 := [.inl 122, .inl 97, .inl ((up (up (up w 5 0 20 (w 5 0 19)) 5 0 21 0) 5 0 22 0) 23 0 (tn ((up (up (up w 5 0 20 (w 5 0 19)) 5 0 21 0) 5 0 22 0) 5 0 19)))]) (w1 := up (up (up w 5 0 20 (w 5 0 19)) 5 0 21 0) 5 0 22 0) (P := (inB ((up (up (up w 5 0 20 (w 5 0 19)) 5 0 21 0) 5 0 22 0) 5 0 19) 160) ∧ True) [(.aload_n 0, 0, 0, 0, 0), (.getfield 19, 5, 6, 0, 0), (.aload_n 0, 0, 0, 0, 0), (.getfield 97, 5, 19, 0, 0), (.iaload, 0, 0, 0, 0), (.istore_n 1, 0, 0, 0, 0), (.iload_n 1, 0, 0, 0, 0), (.bipush 97, 0, 0, 97, 0), (.bipush 122, 0, 0, 122, 0)] (by decide +kernel) rfl ⟨h8, trivial⟩ ?_
    refine GE_callSIp (As := [.inl ((up (up (up w 5 0 20 (w 5 0 19)) 5 0 21 0) 5 0 22 0) 23 0 (tn ((up (up (up w 5 0 20 (w 5 0 19)) 5 0 21 0) 5 0 22 0) 5 0 19))), .inl 97, .inl 122]) (S := []) (p_X5_in l X ((up (up (up w 5 0 20 (w 5 0 19)) 5 0 21 0) 5 0 22 0) 23 0 (tn ((up (up (up w 5 0 20 (w 5 0 19)) 5 0 21 0) 5 0 22 0) 5 0 19))) 97 122 (up (up (up w 5 0 20 (w 5 0 19)) 5 0 21 0) 5 0 22 0)) ⟨me_X5_in, ms_X5_in, lk_X5_72⟩ (by decide +kernel) rfl (by decide) (by decide) (Nat.le_of_ble_eq_true rfl) ?_
    refine GE_if (k := .eq) (off := 117) (tgt := 217) (by decide +kernel) (by decide) (cnd_eq _ _) (fun c9 => ?_) (fun c9 => ?_)
    · refine GE_run flG_T (pc1 := 222) (L1 := [some (.inr (.inr (some (5, 0)))), some (.inl ((up (up (up w 5 0 20 (w 5 0 19)) 5 0 21 0) 5 0 22 0) 23 0 (tn ((up (up (up w 5 0 20 (w 5 0 19)) 5 0 21 0) 5 0 22 0) 5 0 19)))), none]) (S1 := [.inl 57, .inl 48, .inl ((up (up (up w 5 0 20 (w 5 0 19)) 5 0 21 0) 5 0 22 0) 23 0 (tn ((up (up (up w 5 0 20 (w 5 0 19)) 5 0 21 0) 5 0 22 0) 5 0 19)))]) (w1 := up (up (up w 5 0 20 (w 5 0 19)) 5 0 21 0) 5 0 22 0) (P := True) [(.iload_n 1, 0, 0, 0, 0), (.bipush 48, 0, 0, 48, 0), (.bipush 57, 0, 0, 57, 0)] (by decide +kernel) rfl trivial ?_
      refine GE_callSIp (As := [.inl ((up (up (up w 5 0 20 (w 5 0 19)) 5 0 21 0) 5 0 22 0) 23 0 (tn ((up (up (up w 5 0 20 (w 5 0 19)) 5 0 21 0) 5 0 22 0) 5 0 19))), .inl 48, .inl 57]) (S := []) (p_X5_in l X ((up (up (up w 5 0 20 (w 5 0 19)) 5 0 21 0) 5 0 22 0) 23 0 (tn ((up (up (up w 5 0 20 (w 5 0 19)) 5 0 21 0) 5 0 22 0) 5 0 19))) 48 57 (up (up (up w 5 0 20 (w 5 0 19)) 5 0 21 0) 5 0 22 0)) ⟨me_X5_in, ms_X5_in, lk_X5_72⟩ (by decide +kernel) rfl (by decide) (by decide) (Nat.le_of_ble_eq_true rfl) ?_
      refine GE_if (k := .eq) (off := 101) (tgt := 326) (by decide +kernel) (by decide) (cnd_eq _ _) (fun c10 => ?_) (fun c10 => ?_)
      · refine GE_run flG_T (pc1 := 329) (L1 := [some (.inr (.inr (some (5, 0)))), some (.inl ((up (up (up w 5 0 20 (w 5 0 19)) 5 0 21 0) 5 0 22 0) 23 0 (tn ((up (up (up w 5 0 20 (w 5 0 19)) 5 0 21 0) 5 0 22 0) 5 0 19)))), none]) (S1 := [.inl 40, .inl ((up (up (up w 5 0 20 (w 5 0 19)) 5 0 21 0) 5 0 22 0) 23 0 (tn ((up (up (up w 5 0 20 (w 5 0 19)) 5 0 21 0) 5 0 22 0) 5 0 19)))]) (w1 := up (up (up w 5 0 20 (w 5 0 19)) 5 0 21 0) 5 0 22 0) (P := True) [(.iload_n 1, 0, 0, 0, 0), (.bipush 40, 0, 0, 40, 0)] (by decide +kernel) rfl trivial ?_
        refine GE_icmp (k := .eq) (off := 45) (tgt := 374) (by decide +kernel) (by decide) (cnd_eq _ _) (fun c11 => ?_) (fun c11 => ?_)
        · exact GE_weak [true, true, false] (j_X5_next_374_ok l X ((up (up (up w 5 0 20 (w 5 0 19)) 5 0 21 0) 5 0 22 0) 23 0 (tn ((up (up (up w 5 0 20 (w 5 0 19)) 5 0 21 0) 5 0 22 0) 5 0 19))) (up (up (up w 5 0 20 (w 5 0 19)) 5 0 21 0) 5 0 22 0))
        · refine GE_run flG_T (pc1 := 335) (L1 := [some (.inr (.inr (some (5, 0)))), some (.inl ((up (up (up w 5 0 20 (w 5 0 19)) 5 0 21 0) 5 0 22 0) 23 0 (tn ((up (up (up w 5 0 20 (w 5 0 19)) 5 0 21 0) 5 0 22 0) 5 0 19)))), none]) (S1 := [.inl 41, .inl ((up (up (up w 5 0 20 (w 5 0 19)) 5 0 21 0) 5 0 22 0) 23 0 (tn ((up (up (up w 5 0 20 (w 5 0 19)) 5 0 21 0) 5 0 22 0) 5 0 19)))]) (w1 := up (up (up w 5 0 20 (w 5 0 19)) 5 0 21 0) 5 0 22 0) (P := True) [(.iload_n 1, 0, 0, 0, 0), (.bipush 41, 0, 0, 41, 0)] (by decide +kernel) rfl trivial ?_
          refine GE_icmp (k := .eq) (off := 39) (tgt := 374) (by decide +kernel) (by decide) (cnd_eq _ _) (fun c13 => ?_) (fun c13 => ?_)
          · exact GE_weak [true, true, false] (j_X5_next_374_ok l X ((up (up (up w 5 0 20 (w 5 0 19)) 5 0 21 0) 5 0 22 0) 23 0 (tn ((up (up (up w 5 0 20 (w 5 0 19)) 5 0 21 0) 5 0 22 0) 5 0 19))) (up (up (up w 5 0 20 (w 5 0 19)) 5 0 21 0) 5 0 22 0))
          · refine GE_run flG_T (pc1 := 341) (L1 := [some (.inr (.inr (some (5, 0)))), some (.inl ((up (up (up w 5 0 20 (w 5 0 19)) 5 0 21 0) 5 0 22 0) 23 0 (tn ((up (up (up w 5 0 20 (w 5 0 19)) 5 0 21 0) 5 0 22 0) 5 0 19)))), none]) (S1 := [.inl 59, .inl ((up (up (up w 5 0 20 (w 5 0 19)) 5 0 21 0) 5 0 22 0) 23 0 (tn ((up (up (up w 5 0 20 (w 5 0 19)) 5 0 21 0) 5 0 22 0) 5 0 19)))]) (w1 := up (up (up w 5 0 20 (w 5 0 19)) 5 0 21 0) 5 0 22 0) (P := True) [(.iload_n 1, 0, 0, 0, 0), (.bipush 59, 0, 0, 59, 0)] (by decide +kernel) rfl trivial ?_
            refine GE_icmp (k := .eq) (off := 33) (tgt := 374) (by decide +kernel) (by decide) (cnd_eq _ _) (fun c14 => ?_) (fun c14 => ?_)
            · exact GE_weak [true, true, false] (j_X5_next_374_ok l X ((up (up (up w 5 0 20 (w 5 0 19)) 5 0 21 0) 5 0 22 0) 23 0 (tn ((up (up (up w 5 0 20 (w 5 0 19)) 5 0 21 0) 5 0 22 0) 5 0 19))) (up (up (up w 5 0 20 (w 5 0 19)) 5 0 21 0) 5 0 22 0))
            · refine GE_run flG_T (pc1 := 347) (L1 := [some (.inr (.inr (some (5, 0)))), some (.inl ((up (up (up w 5 0 20 (w 5 0 19)) 5 0 21 0) 5 0 22 0) 23 0 (tn ((up (up (up w 5 0 20 (w 5 0 19)) 5 0 21 0) 5 0 22 0) 5 0 19)))), none]) (S1 := [.inl 43, .inl ((up (up (up w 5 0 20 (w 5 0 19)) 5 0 21 0) 5 0 22 0) 23 0 (tn ((up (up (up w 5 0 20 (w 5 0 19)) 5 0 21 0) 5 0 22 0) 5 0 19)))]) (w1 := up (up (up w 5 0 20 (w 5 0 19)) 5 0 21 0) 5 0 22 0) (P := True) [(.iload_n 1, 0, 0, 0, 0), (.bipush 43, 0, 0, 43, 0)] (by decide +kernel) rfl trivial ?_
              refine GE_icmp (k := .eq) (off := 27) (tgt := 374) (by decide +kernel) (by decide) (cnd_eq _ _) (fun c15 => ?_) (fun c15 => ?_)
              · exact GE_weak [true, true, false] (j_X5_next_374_ok l X ((up (up (up w 5 0 20 (w 5 0 19)) 5 0 21 0) 5 0 22 0) 23 0 (tn ((up (up (up w 5 0 20 (w 5 0 19)) 5 0 21 0) 5 0 22 0) 5 0 19))) (up (up (up w 5 0 20 (w 5 0 19)) 5 0 21 0) 5 0 22 0))
              · refine GE_run flG_T (pc1 := 353) (L1 := [some (.inr (.inr (some (5, 0)))), some (.inl ((up (up (up w 5 0 20 (w 5 0 19)) 5 0 21 0) 5 0 22 0) 23 0 (tn ((up (up (up w 5 0 20 (w 5 0 19)) 5 0 21 0) 5 0 22 0) 5 0 19)))), none]) (S1 := [.inl 45, .inl ((up (up (up w 5 0 20 (w 5 0 19)) 5 0 21 0) 5 0 22 0) 23 0 (tn ((up (up (up w 5 0 20 (w 5 0 19)) 5 0 21 0) 5 0 22 0) 5 0 19)))]) (w1 := up (up (up w 5 0 20 (w 5 0 19)) 5 0 21 0) 5 0 22 0) (P := True) [(.iload_n 1, 0, 0, 0, 0), (.bipush 45, 0, 0, 45, 0)] (by decide +kernel) rfl trivial ?_
                refine GE_icmp (k := .eq) (off := 21) (tgt := 374) (by decide +kernel) (by decide) (cnd_eq _ _) (fun c16 => ?_) (fun c16 => ?_)
                · exact GE_weak [true, true, false] (j_X5_next_374_ok l X ((up (up (up w 5 0 20 (w 5 0 19)) 5 0 21 0) 5 0 22 0) 23 0 (tn ((up (up (up w 5 0 20 (w 5 0 19)) 5 0 21 0) 5 0 22 0) 5 0 19))) (up (up (up w 5 0 20 (w 5 0 19)) 5 0 21 0) 5 0 22 0))
                · refine GE_run flG_T (pc1 := 359) (L1 := [some (.inr (.inr (some (5, 0)))), some (.inl ((up (up (up w 5 0 20 (w 5 0 19)) 5 0 21 0) 5 0 22 0) 23 0 (tn ((up (up (up w 5 0 20 (w 5 0 19)) 5 0 21 0) 5 0 22 0) 5 0 19)))), none]) (S1 := [.inl 42, .inl ((up (up (up w 5 0 20 (w 5 0 19)) 5 0 21 0) 5 0 22 0) 23 0 (tn ((up (up (up w 5 0 20 (w 5 0 19)) 5 0 21 0) 5 0 22 0) 5 0 19)))]) (w1 := up (up (up w 5 0 20 (w 5 0 19)) 5 0 21 0) 5 0 22 0) (P := True) [(.iload_n 1, 0, 0, 0, 0), (.bipush 42, 0, 0, 42, 0)] (by decide +kernel) rfl trivial ?_
                  refine GE_icmp (k := .eq) (off := 15) (tgt := 374) (by decide +kernel) (by decide) (cnd_eq _ _) (fun c17 => ?_) (fun c17 => ?_)
                  · exact GE_weak [true, true, false] (j_X5_next_374_ok l X ((up (up (up w 5 0 20 (w 5 0 19)) 5 0 21 0) 5 0 22 0) 23 0 (tn ((up (up (up w 5 0 20 (w 5 0 19)) 5 0 21 0) 5 0 22 0) 5 0 19))) (up (up (up w 5 0 20 (w 5 0 19)) 5 0 21 0) 5 0 22 0))
                  · refine GE_run flG_T (pc1 := 365) (L1 := [some (.inr (.inr (some (5, 0)))), some (.inl ((up (up (up w 5 0 20 (w 5 0 19)) 5 0 21 0) 5 0 22 0) 23 0 (tn ((up (up (up w 5 0 20 (w 5 0 19)) 5 0 21 0) 5 0 22 0) 5 0 19)))), none]) (S1 := [.inl 60, .inl ((up (up (up w 5 0 20 (w 5 0 19)) 5 0 21 0) 5 0 22 0) 23 0 (tn ((up (up (up w 5 0 20 (w 5 0 19)) 5 0 21 0) 5 0 22 0) 5 0 19)))]) (w1 := up (up (up w 5 0 20 (w 5 0 19)) 5 0 21 0) 5 0 22 0) (P := True) [(.iload_n 1, 0, 0, 0, 0), (.bipush 60, 0, 0, 60, 0)] (by decide +kernel) rfl trivial ?_
                    refine GE_icmp (k := .eq) (off := 9) (tgt := 374) (by decide +kernel) (by decide) (cnd_eq _ _) (fun c18 => ?_) (fun c18 => ?_)
                    · exact GE_weak [true, true, false] (j_X5_next_374_ok l X ((up (up (up w 5 0 20 (w 5 0 19)) 5 0 21 0) 5 0 22 0) 23 0 (tn ((up (up (up w 5 0 20 (w 5 0 19)) 5 0 21 0) 5 0 22 0) 5 0 19))) (up (up (up w 5 0 20 (w 5 0 19)) 5 0 21 0) 5 0 22 0))
                    · refine GE_run flG_T (pc1 := 371) (L1 := [some (.inr (.inr (some (5, 0)))), some (.inl ((up (up (up w 5 0 20 (w 5 0 19)) 5 0 21 0) 5 0 22 0) 23 0 (tn ((up (up (up w 5 0 20 (w 5 0 19)) 5 0 21 0) 5 0 22 0) 5 0 19)))), none]) (S1 := [.inl 61, .inl ((up (up (up w 5 0 20 (w 5 0 19)) 5 0 21 0) 5 0 22 0) 23 0 (tn ((up (up (up w 5 0 20 (w 5 0 19)) 5 0 21 0) 5 0 22 0) 5 0 19)))]) (w1 := up (up (up w 5 0 20 (w 5 0 19)) 5 0 21 0) 5 0 22 0) (P := True) [(.iload_n 1, 0, 0, 0, 0), (.bipush 61, 0, 0, 61, 0)] (by decide +kernel) rfl trivial ?_
                      refine GE_icmpN (k := .ne) (off := 7) (tgt := 378) (by decide +kernel) (by decide) (cnd_ne _ _) (fun c19 => ?_) (fun c19 => ?_)
                      · refine GE_run flG_T (pc1 := 379) (L1 := [some (.inr (.inr (some (5, 0)))), some (.inl ((up (up (up w 5 0 20 (w 5 0 19)) 5 0 21 0) 5 0 22 0) 23 0 (tn ((up (up (up w 5 0 20 (w 5 0 19)) 5 0 21 0) 5 0 22 0) 5 0 19)))), none]) (S1 := [.inl 0]) (w1 := up (up (up w 5 0 20 (w 5 0 19)) 5 0 21 0) 5 0 22 0) (P := True) [(.iconst 0, 0, 0, 0, 0)] (by decide +kernel) rfl trivial ?_
                        exact GE_weak [true, true, false] (j_X5_next_379_ok l X ((up (up (up w 5 0 20 (w 5 0 19)) 5 0 21 0) 5 0 22 0) 23 0 (tn ((up (up (up w 5 0 20 (w 5 0 19)) 5 0 21 0) 5 0 22 0) 5 0 19))) 0 (up (up (up w 5 0 20 (w 5 0 19)) 5 0 21 0) 5 0 22 0))
                      · exact GE_weak [true, true, false] (j_X5_next_374_ok l X ((up (up (up w 5 0 20 (w 5 0 19)) 5 0 21 0) 5 0 22 0) 23 0 (tn ((up (up (up w 5 0 20 (w 5 0 19)) 5 0 21 0) 5 0 22 0) 5 0 19))) (up (up (up w 5 0 20 (w 5 0 19)) 5 0 21 0) 5 0 22 0))
      · refine GE_run flG_T (pc1 := 230) (L1 := [some (.inr (.inr (some (5, 0)))), some (.inl ((up (up (up w 5 0 20 (w 5 0 19)) 5 0 21 0) 5 0 22 0) 23 0 (tn ((up (up (up w 5 0 20 (w 5 0 19)) 5 0 21 0) 5 0 22 0) 5 0 19)))), some (.inl 0)]) (S1 := []) (w1 := up (up (up w 5 0 20 (w 5 0 19)) 5 0 21 0) 5 0 22 0) (P := True) [(.iconst 0, 0, 0, 0, 0), (.istore_n 2, 0, 0, 0, 0)] (by decide +kernel) rfl trivial ?_
        refine GE_weak [true, false, true] (h_X5_next_230_ok l X _ ?_ FU 0 (up (up (up w 5 0 20 (w 5 0 19)) 5 0 21 0) 5 0 22 0))
        · intro x2_25 w26
          exact GE_weak [true, false, true] (j_X5_next_309_ok l X x2_25 w26)
    · refine GE_weak [true, false, false] (h_X5_next_103_ok l X _ ?_ FU (up (up (up w 5 0 20 (w 5 0 19)) 5 0 21 0) 5 0 22 0))
      · intro w31
        exact GE_weak [true, false, false] (j_X5_next_146_ok l X w31)
  · exact GE_vret rfl (by decide +kernel)
noncomputable def f_X5_next  (w : Mem) : Option (Mem) := h_X5_next_0 (fun w6 => j_X5_next_52 w6) FU w
set_option maxRecDepth 100000 in
theorem t_X5_next (l : Launch) (X : XC)   (w : Mem) : Ct l X 1 yX5_next cX5_next 3 none emV [.inr (.inr (some (5, 0)))] 57 flT w (f_X5_next  w) := by
  refine Ct_of (mi := mm_X5_next) (mik_X5 _ _ _) me_X5_next rfl (okAs_cons (by decide) okAs_nil) (Nat.le_of_ble_eq_true rfl) ?_
  unfold f_X5_next
  refine GE_weak [true, false, false] (h_X5_next_0_ok l X _ ?_ FU w)
  · intro w6
    exact GE_weak [true, false, false] (j_X5_next_52_ok l X w6)
abbrev mm_X5_rank : MI := (RX5, cX5_rank, 1, (some .int), ftp_X5.map (fun q => q.1), ctp_X5.map (fun q => q.1), clp_X5.map (fun q => q.1))
noncomputable def f_X5_rank (a1 : Int32) (w : Mem) : Option (Int32 × Mem) := if a1 = 0 then (some (0, w)) else (if a1 = 11 then (some (1, w)) else (if a1 = 12 then (some (2, w)) else (if a1 = 13 then (some (3, w)) else (if a1 ≤ 15 then (some (4, w)) else (if a1 ≤ 17 then (some (5, w)) else (if a1 = 18 then (some (6, w)) else (some (7, w))))))))
set_option maxRecDepth 100000 in
theorem t_X5_rank (l : Launch) (X : XC)  (a1 : Int32) (w : Mem) : Ct l X 0 yX5_rank cX5_rank 1 (some .int) emI [.inl a1] 57 flT w (f_X5_rank a1 w) := by
  refine Ct_of (mi := mm_X5_rank) (mik_X5 _ _ _) me_X5_rank rfl (okAs_cons rfl okAs_nil) (Nat.le_of_ble_eq_true rfl) ?_
  unfold f_X5_rank
  refine GE_run flG_T (pc1 := 1) (L1 := [some (.inl a1)]) (S1 := [.inl a1]) (w1 := w) (P := True) [(.iload_n 0, 0, 0, 0, 0)] (by decide +kernel) rfl trivial ?_
  refine GE_ifN (k := .ne) (off := 7) (tgt := 8) (by decide +kernel) (by decide) (cnd_ne _ _) (fun c1 => ?_) (fun c1 => ?_)
  · refine GE_run flG_T (pc1 := 11) (L1 := [some (.inl a1)]) (S1 := [.inl 11, .inl a1]) (w1 := w) (P := True) [(.iload_n 0, 0, 0, 0, 0), (.bipush 11, 0, 0, 11, 0)] (by decide +kernel) rfl trivial ?_
    refine GE_icmpN (k := .ne) (off := 7) (tgt := 18) (by decide +kernel) (by decide) (cnd_ne _ _) (fun c2 => ?_) (fun c2 => ?_)
    · refine GE_run flG_T (pc1 := 21) (L1 := [some (.inl a1)]) (S1 := [.inl 12, .inl a1]) (w1 := w) (P := True) [(.iload_n 0, 0, 0, 0, 0), (.bipush 12, 0, 0, 12, 0)] (by decide +kernel) rfl trivial ?_
      refine GE_icmpN (k := .ne) (off := 7) (tgt := 28) (by decide +kernel) (by decide) (cnd_ne _ _) (fun c3 => ?_) (fun c3 => ?_)
      · refine GE_run flG_T (pc1 := 31) (L1 := [some (.inl a1)]) (S1 := [.inl 13, .inl a1]) (w1 := w) (P := True) [(.iload_n 0, 0, 0, 0, 0), (.bipush 13, 0, 0, 13, 0)] (by decide +kernel) rfl trivial ?_
        refine GE_icmpN (k := .ne) (off := 7) (tgt := 38) (by decide +kernel) (by decide) (cnd_ne _ _) (fun c4 => ?_) (fun c4 => ?_)
        · refine GE_run flG_T (pc1 := 41) (L1 := [some (.inl a1)]) (S1 := [.inl 15, .inl a1]) (w1 := w) (P := True) [(.iload_n 0, 0, 0, 0, 0), (.bipush 15, 0, 0, 15, 0)] (by decide +kernel) rfl trivial ?_
          refine GE_icmpN (k := .gt) (off := 7) (tgt := 48) (by decide +kernel) (by decide) (cnd_gt _ _) (fun c5 => ?_) (fun c5 => ?_)
          · refine GE_run flG_T (pc1 := 51) (L1 := [some (.inl a1)]) (S1 := [.inl 17, .inl a1]) (w1 := w) (P := True) [(.iload_n 0, 0, 0, 0, 0), (.bipush 17, 0, 0, 17, 0)] (by decide +kernel) rfl trivial ?_
            refine GE_icmpN (k := .gt) (off := 7) (tgt := 58) (by decide +kernel) (by decide) (cnd_gt _ _) (fun c6 => ?_) (fun c6 => ?_)
            · refine GE_run flG_T (pc1 := 61) (L1 := [some (.inl a1)]) (S1 := [.inl 18, .inl a1]) (w1 := w) (P := True) [(.iload_n 0, 0, 0, 0, 0), (.bipush 18, 0, 0, 18, 0)] (by decide +kernel) rfl trivial ?_
              refine GE_icmpN (k := .ne) (off := 8) (tgt := 69) (by decide +kernel) (by decide) (cnd_ne _ _) (fun c7 => ?_) (fun c7 => ?_)
              · refine GE_run flG_T (pc1 := 71) (L1 := [some (.inl a1)]) (S1 := [.inl 7]) (w1 := w) (P := True) [(.bipush 7, 0, 0, 7, 0)] (by decide +kernel) rfl trivial ?_
                exact GE_iret rfl (by decide +kernel)
              · refine GE_run flG_T (pc1 := 71) (L1 := [some (.inl a1)]) (S1 := [.inl 6]) (w1 := w) (P := True) [(.bipush 6, 0, 0, 6, 0), (.goto 5, 0, 0, 0, 0)] (by decide +kernel) rfl trivial ?_
                exact GE_iret rfl (by decide +kernel)
            · refine GE_run flG_T (pc1 := 71) (L1 := [some (.inl a1)]) (S1 := [.inl 5]) (w1 := w) (P := True) [(.iconst 5, 0, 0, 5, 0), (.goto 16, 0, 0, 0, 0)] (by decide +kernel) rfl trivial ?_
              exact GE_iret rfl (by decide +kernel)
          · refine GE_run flG_T (pc1 := 71) (L1 := [some (.inl a1)]) (S1 := [.inl 4]) (w1 := w) (P := True) [(.iconst 4, 0, 0, 4, 0), (.goto 26, 0, 0, 0, 0)] (by decide +kernel) rfl trivial ?_
            exact GE_iret rfl (by decide +kernel)
        · refine GE_run flG_T (pc1 := 71) (L1 := [some (.inl a1)]) (S1 := [.inl 3]) (w1 := w) (P := True) [(.iconst 3, 0, 0, 3, 0), (.goto 36, 0, 0, 0, 0)] (by decide +kernel) rfl trivial ?_
          exact GE_iret rfl (by decide +kernel)
      · refine GE_run flG_T (pc1 := 71) (L1 := [some (.inl a1)]) (S1 := [.inl 2]) (w1 := w) (P := True) [(.iconst 2, 0, 0, 2, 0), (.goto 46, 0, 0, 0, 0)] (by decide +kernel) rfl trivial ?_
        exact GE_iret rfl (by decide +kernel)
    · refine GE_run flG_T (pc1 := 71) (L1 := [some (.inl a1)]) (S1 := [.inl 1]) (w1 := w) (P := True) [(.iconst 1, 0, 0, 1, 0), (.goto 56, 0, 0, 0, 0)] (by decide +kernel) rfl trivial ?_
      exact GE_iret rfl (by decide +kernel)
  · refine GE_run flG_T (pc1 := 71) (L1 := [some (.inl a1)]) (S1 := [.inl 0]) (w1 := w) (P := True) [(.iconst 0, 0, 0, 0, 0), (.goto 66, 0, 0, 0, 0)] (by decide +kernel) rfl trivial ?_
    exact GE_iret rfl (by decide +kernel)
abbrev mm_X5_puts : MI := (RX5, cX5_puts, 2, none, ftp_X5.map (fun q => q.1), ctp_X5.map (fun q => q.1), clp_X5.map (fun q => q.1))
noncomputable def f_X5_puts (a1 : Int32) (w : Mem) : Option (Mem) := if inB ((200 * (w 5 0 10)) + (w 5 0 27)) 1200 then (some (up (up w 24 0 (tn ((200 * (w 5 0 10)) + (w 5 0 27))) a1) 5 0 27 (((up w 24 0 (tn ((200 * (w 5 0 10)) + (w 5 0 27))) a1) 5 0 27) + 1))) else none
set_option maxRecDepth 100000 in
theorem t_X5_puts (l : Launch) (X : XC)  (a1 : Int32) (w : Mem) : Ct l X 0 yX5_puts cX5_puts 2 none emV [.inr (.inr (some (5, 0))), .inl a1] 57 flT w (f_X5_puts a1 w) := by
  refine Ct_of (mi := mm_X5_puts) (mik_X5 _ _ _) me_X5_puts rfl (okAs_cons (by decide) (okAs_cons rfl okAs_nil)) (Nat.le_of_ble_eq_true rfl) ?_
  unfold f_X5_puts
  refine GE_chk (fun h1 => ?_)
  refine GE_run flG_T (pc1 := 29) (L1 := [some (.inr (.inr (some (5, 0)))), some (.inl a1)]) (S1 := []) (w1 := up (up w 24 0 (tn ((200 * (w 5 0 10)) + (w 5 0 27))) a1) 5 0 27 (((up w 24 0 (tn ((200 * (w 5 0 10)) + (w 5 0 27))) a1) 5 0 27) + 1)) (P := (inB ((200 * (w 5 0 10)) + (w 5 0 27)) 1200) ∧ True) [(.aload_n 0, 0, 0, 0, 0), (.getfield 22, 5, 8, 0, 0), (.sipush 200, 0, 0, 200, 0), (.aload_n 0, 0, 0, 0, 0), (.getfield 86, 5, 10, 0, 0), (.imul, 0, 0, 0, 0), (.aload_n 0, 0, 0, 0, 0), (.getfield 113, 5, 27, 0, 0), (.iadd, 0, 0, 0, 0), (.iload_n 1, 0, 0, 0, 0), (.iastore, 0, 0, 0, 0), (.aload_n 0, 0, 0, 0, 0), (.dup, 0, 0, 0, 0), (.getfield 113, 5, 27, 0, 0), (.iconst 1, 0, 0, 1, 0), (.iadd, 0, 0, 0, 0), (.putfield 113, 5, 27, 0, 0)] (by decide +kernel) rfl ⟨h1, trivial⟩ ?_
  exact GE_vret rfl (by decide +kernel)
abbrev mm_X5_unwinds : MI := (RX5, cX5_unwinds, 3, none, ftp_X5.map (fun q => q.1), ctp_X5.map (fun q => q.1), clp_X5.map (fun q => q.1))
noncomputable def j_X5_unwinds_67  (kl0 : Mem → Option (Mem)) (x1 : Int32) (x2 : Int32) (s0 : Int32) (s1 : Int32) (w : Mem) : Option (Mem) := Option.bind (f_X5_puts x2 (up w 5 0 26 (s1 - s0))) (fun r7 => kl0 r7)
set_option maxRecDepth 100000 in
theorem j_X5_unwinds_67_ok (l : Launch) (X : XC)  (kl0 : Mem → Option (Mem)) (x1 : Int32) (x2 : Int32) (s0 : Int32) (s1 : Int32)  (ih : ∀  (w : Mem), GE l X mm_X5_unwinds 1 emV 57 flT (kl0 w) 0 [some (.inr (.inr (some (5, 0)))), some (.inl x1), none] [] w) (w : Mem) : GE l X mm_X5_unwinds 1 emV 57 flT (j_X5_unwinds_67 kl0 x1 x2 s0 s1 w) 67 [some (.inr (.inr (some (5, 0)))), some (.inl x1), some (.inl x2)] [.inl s0, .inl s1, .inr (.inr (some (5, 0)))] w := by
  unfold j_X5_unwinds_67
  refine GE_run flG_T (pc1 := 73) (L1 := [some (.inr (.inr (some (5, 0)))), some (.inl x1), some (.inl x2)]) (S1 := [.inl x2, .inr (.inr (some (5, 0)))]) (w1 := up w 5 0 26 (s1 - s0)) (P := True) [(.isub, 0, 0, 0, 0), (.putfield 122, 5, 26, 0, 0), (.aload_n 0, 0, 0, 0, 0), (.iload_n 2, 0, 0, 0, 0)] (by decide +kernel) rfl trivial ?_
  refine GE_callVV (As := [.inl x2]) (k := 5) (i := 0) (S := []) (t_X5_puts l X x2 (up w 5 0 26 (s1 - s0))) (by decide) ⟨me_X5_puts, mi_X5_puts, mv_X5_puts, lk_X5_125⟩ rfl (by decide +kernel) rfl (by decide) (by decide) (Nat.le_of_ble_eq_true rfl) (fun r7 _ => ?_)
  refine GE_run flG_T (pc1 := 0) (L1 := [some (.inr (.inr (some (5, 0)))), some (.inl x1), some (.inl x2)]) (S1 := []) (w1 := r7) (P := True) [(.goto (-76), 0, 0, 0, 0)] (by decide +kernel) rfl trivial ?_
  exact GE_weak [true, true, false] (ih r7)
noncomputable def j_X5_unwinds_62  (kl0 : Mem → Option (Mem)) (x1 : Int32) (x2 : Int32) (s0 : Int32) (w : Mem) : Option (Mem) := j_X5_unwinds_67 kl0 x1 x2 1 s0 w
set_option maxRecDepth 100000 in
theorem j_X5_unwinds_62_ok (l : Launch) (X : XC)  (kl0 : Mem → Option (Mem)) (x1 : Int32) (x2 : Int32) (s0 : Int32)  (ih : ∀  (w : Mem), GE l X mm_X5_unwinds 1 emV 57 flT (kl0 w) 0 [some (.inr (.inr (some (5, 0)))), some (.inl x1), none] [] w) (w : Mem) : GE l X mm_X5_unwinds 1 emV 57 flT (j_X5_unwinds_62 kl0 x1 x2 s0 w) 62 [some (.inr (.inr (some (5, 0)))), some (.inl x1), some (.inl x2)] [.inl s0, .inr (.inr (some (5, 0)))] w := by
  unfold j_X5_unwinds_62
  refine GE_run flG_T (pc1 := 67) (L1 := [some (.inr (.inr (some (5, 0)))), some (.inl x1), some (.inl x2)]) (S1 := [.inl 1, .inl s0, .inr (.inr (some (5, 0)))]) (w1 := w) (P := True) [(.iconst 1, 0, 0, 1, 0), (.goto 4, 0, 0, 0, 0)] (by decide +kernel) rfl trivial ?_
  exact GE_weak [true, true, true] (j_X5_unwinds_67_ok l X kl0 x1 x2 1 s0 ih w)
noncomputable def h_X5_unwinds_0 (x1 : Int32) (k79 : Mem → Option (Mem)) : Nat → Mem → Option (Mem)
  | 0, _ => none
  | n + 1, w => if (w 5 0 25) ≤ 0 then (k79 w) else (if inB ((w 5 0 25) - 1) 200 then (Option.bind (f_X5_rank (w 33 0 (tn ((w 5 0 25) - 1))) w) (fun r3 => if r3.1 < x1 then (k79 r3.2) else (if inB ((up r3.2 5 0 25 ((r3.2 5 0 25) - 1)) 5 0 25) 200 then (if ((up r3.2 5 0 25 ((r3.2 5 0 25) - 1)) 33 0 (tn ((up r3.2 5 0 25 ((r3.2 5 0 25) - 1)) 5 0 25))) = 13 then (j_X5_unwinds_62 (h_X5_unwinds_0 x1 k79 n) x1 ((up r3.2 5 0 25 ((r3.2 5 0 25) - 1)) 33 0 (tn ((up r3.2 5 0 25 ((r3.2 5 0 25) - 1)) 5 0 25))) ((up r3.2 5 0 25 ((r3.2 5 0 25) - 1)) 5 0 26) (up r3.2 5 0 25 ((r3.2 5 0 25) - 1))) else (if ((up r3.2 5 0 25 ((r3.2 5 0 25) - 1)) 33 0 (tn ((up r3.2 5 0 25 ((r3.2 5 0 25) - 1)) 5 0 25))) = 19 then (j_X5_unwinds_62 (h_X5_unwinds_0 x1 k79 n) x1 ((up r3.2 5 0 25 ((r3.2 5 0 25) - 1)) 33 0 (tn ((up r3.2 5 0 25 ((r3.2 5 0 25) - 1)) 5 0 25))) ((up r3.2 5 0 25 ((r3.2 5 0 25) - 1)) 5 0 26) (up r3.2 5 0 25 ((r3.2 5 0 25) - 1))) else (j_X5_unwinds_67 (h_X5_unwinds_0 x1 k79 n) x1 ((up r3.2 5 0 25 ((r3.2 5 0 25) - 1)) 33 0 (tn ((up r3.2 5 0 25 ((r3.2 5 0 25) - 1)) 5 0 25))) 0 ((up r3.2 5 0 25 ((r3.2 5 0 25) - 1)) 5 0 26) (up r3.2 5 0 25 ((r3.2 5 0 25) - 1))))) else none))) else none)
set_option maxRecDepth 100000 in
theorem h_X5_unwinds_0_ok (l : Launch) (X : XC) (x1 : Int32) (k79 : Mem → Option (Mem))  (hk79 : ∀  (w : Mem), GE l X mm_X5_unwinds 1 emV 57 flT (k79 w) 79 [none, none, none] [] w) : ∀ (n : Nat)  (w : Mem), GE l X mm_X5_unwinds 1 emV 57 flT ((h_X5_unwinds_0 x1 k79 n)  w) 0 [some (.inr (.inr (some (5, 0)))), some (.inl x1), none] [] w := by
  intro n
  induction n with
  | zero => intro w; exact GE_none
  | succ n ih =>
    intro w
    unfold h_X5_unwinds_0
    refine GE_run flG_T (pc1 := 4) (L1 := [some (.inr (.inr (some (5, 0)))), some (.inl x1), none]) (S1 := [.inl (w 5 0 25)]) (w1 := w) (P := True) [(.aload_n 0, 0, 0, 0, 0), (.getfield 116, 5, 25, 0, 0)] (by decide +kernel) rfl trivial ?_
    refine GE_if (k := .le) (off := 75) (tgt := 79) (by decide +kernel) (by decide) (cnd_le _ _) (fun c1 => ?_) (fun c1 => ?_)
    · exact GE_weak [false, false, false] (hk79 w)
    · refine GE_chk (fun h2 => ?_)
      refine GE_run flG_T (pc1 := 18) (L1 := [some (.inr (.inr (some (5, 0)))), some (.inl x1), none]) (S1 := [.inl (w 33 0 (tn ((w 5 0 25) - 1)))]) (w1 := w) (P := (inB ((w 5 0 25) - 1) 200) ∧ True) [(.aload_n 0, 0, 0, 0, 0), (.getfield 49, 5, 24, 0, 0), (.aload_n 0, 0, 0, 0, 0), (.getfield 116, 5, 25, 0, 0), (.iconst 1, 0, 0, 1, 0), (.isub, 0, 0, 0, 0), (.iaload, 0, 0, 0, 0)] (by decide +kernel) rfl ⟨h2, trivial⟩ ?_
      refine GE_callSI (As := [.inl (w 33 0 (tn ((w 5 0 25) - 1)))]) (S := []) (t_X5_rank l X (w 33 0 (tn ((w 5 0 25) - 1))) w) ⟨me_X5_rank, ms_X5_rank, lk_X5_119⟩ (by decide +kernel) rfl (by decide) (by decide) (Nat.le_of_ble_eq_true rfl) (fun r3 _ => ?_)
      refine GE_run flG_T (pc1 := 22) (L1 := [some (.inr (.inr (some (5, 0)))), some (.inl x1), none]) (S1 := [.inl x1, .inl r3.1]) (w1 := r3.2) (P := True) [(.iload_n 1, 0, 0, 0, 0)] (by decide +kernel) rfl trivial ?_
      refine GE_icmp (k := .lt) (off := 57) (tgt := 79) (by decide +kernel) (by decide) (cnd_lt _ _) (fun c4 => ?_) (fun c4 => ?_)
      · exact GE_weak [false, false, false] (hk79 r3.2)
      · refine GE_chk (fun h5 => ?_)
        refine GE_run flG_T (pc1 := 53) (L1 := [some (.inr (.inr (some (5, 0)))), some (.inl x1), some (.inl ((up r3.2 5 0 25 ((r3.2 5 0 25) - 1)) 33 0 (tn ((up r3.2 5 0 25 ((r3.2 5 0 25) - 1)) 5 0 25))))]) (S1 := [.inl 13, .inl ((up r3.2 5 0 25 ((r3.2 5 0 25) - 1)) 33 0 (tn ((up r3.2 5 0 25 ((r3.2 5 0 25) - 1)) 5 0 25))), .inl ((up r3.2 5 0 25 ((r3.2 5 0 25) - 1)) 5 0 26), .inr (.inr (some (5, 0)))]) (w1 := up r3.2 5 0 25 ((r3.2 5 0 25) - 1)) (P := (inB ((up r3.2 5 0 25 ((r3.2 5 0 25) - 1)) 5 0 25) 200) ∧ True) [(.aload_n 0, 0, 0, 0, 0), (.dup, 0, 0, 0, 0), (.getfield 116, 5, 25, 0, 0), (.iconst 1, 0, 0, 1, 0), (.isub, 0, 0, 0, 0), (.putfield 116, 5, 25, 0, 0), (.aload_n 0, 0, 0, 0, 0), (.getfield 49, 5, 24, 0, 0), (.aload_n 0, 0, 0, 0, 0), (.getfield 116, 5, 25, 0, 0), (.iaload, 0, 0, 0, 0), (.istore_n 2, 0, 0, 0, 0), (.aload_n 0, 0, 0, 0, 0), (.dup, 0, 0, 0, 0), (.getfield 122, 5, 26, 0, 0), (.iload_n 2, 0, 0, 0, 0), (.bipush 13, 0, 0, 13, 0)] (by decide +kernel) rfl ⟨h5, trivial⟩ ?_
        refine GE_icmp (k := .eq) (off := 9) (tgt := 62) (by decide +kernel) (by decide) (cnd_eq _ _) (fun c6 => ?_) (fun c6 => ?_)
        · exact GE_weak [true, true, true] (j_X5_unwinds_62_ok l X (h_X5_unwinds_0 x1 k79 n) x1 ((up r3.2 5 0 25 ((r3.2 5 0 25) - 1)) 33 0 (tn ((up r3.2 5 0 25 ((r3.2 5 0 25) - 1)) 5 0 25))) ((up r3.2 5 0 25 ((r3.2 5 0 25) - 1)) 5 0 26) ih (up r3.2 5 0 25 ((r3.2 5 0 25) - 1)))
        · refine GE_run flG_T (pc1 := 59) (L1 := [some (.inr (.inr (some (5, 0)))), some (.inl x1), some (.inl ((up r3.2 5 0 25 ((r3.2 5 0 25) - 1)) 33 0 (tn ((up r3.2 5 0 25 ((r3.2 5 0 25) - 1)) 5 0 25))))]) (S1 := [.inl 19, .inl ((up r3.2 5 0 25 ((r3.2 5 0 25) - 1)) 33 0 (tn ((up r3.2 5 0 25 ((r3.2 5 0 25) - 1)) 5 0 25))), .inl ((up r3.2 5 0 25 ((r3.2 5 0 25) - 1)) 5 0 26), .inr (.inr (some (5, 0)))]) (w1 := up r3.2 5 0 25 ((r3.2 5 0 25) - 1)) (P := True) [(.iload_n 2, 0, 0, 0, 0), (.bipush 19, 0, 0, 19, 0)] (by decide +kernel) rfl trivial ?_
          refine GE_icmpN (k := .ne) (off := 7) (tgt := 66) (by decide +kernel) (by decide) (cnd_ne _ _) (fun c8 => ?_) (fun c8 => ?_)
          · refine GE_run flG_T (pc1 := 67) (L1 := [some (.inr (.inr (some (5, 0)))), some (.inl x1), some (.inl ((up r3.2 5 0 25 ((r3.2 5 0 25) - 1)) 33 0 (tn ((up r3.2 5 0 25 ((r3.2 5 0 25) - 1)) 5 0 25))))]) (S1 := [.inl 0, .inl ((up r3.2 5 0 25 ((r3.2 5 0 25) - 1)) 5 0 26), .inr (.inr (some (5, 0)))]) (w1 := up r3.2 5 0 25 ((r3.2 5 0 25) - 1)) (P := True) [(.iconst 0, 0, 0, 0, 0)] (by decide +kernel) rfl trivial ?_
            exact GE_weak [true, true, true] (j_X5_unwinds_67_ok l X (h_X5_unwinds_0 x1 k79 n) x1 ((up r3.2 5 0 25 ((r3.2 5 0 25) - 1)) 33 0 (tn ((up r3.2 5 0 25 ((r3.2 5 0 25) - 1)) 5 0 25))) 0 ((up r3.2 5 0 25 ((r3.2 5 0 25) - 1)) 5 0 26) ih (up r3.2 5 0 25 ((r3.2 5 0 25) - 1)))
          · exact GE_weak [true, true, true] (j_X5_unwinds_62_ok l X (h_X5_unwinds_0 x1 k79 n) x1 ((up r3.2 5 0 25 ((r3.2 5 0 25) - 1)) 33 0 (tn ((up r3.2 5 0 25 ((r3.2 5 0 25) - 1)) 5 0 25))) ((up r3.2 5 0 25 ((r3.2 5 0 25) - 1)) 5 0 26) ih (up r3.2 5 0 25 ((r3.2 5 0 25) - 1)))
noncomputable def f_X5_unwinds (a1 : Int32) (w : Mem) : Option (Mem) := h_X5_unwinds_0 a1 (fun w9 => some w9) FU w
set_option maxRecDepth 100000 in
theorem t_X5_unwinds (l : Launch) (X : XC)  (a1 : Int32) (w : Mem) : Ct l X 1 yX5_unwinds cX5_unwinds 3 none emV [.inr (.inr (some (5, 0))), .inl a1] 57 flT w (f_X5_unwinds a1 w) := by
  refine Ct_of (mi := mm_X5_unwinds) (mik_X5 _ _ _) me_X5_unwinds rfl (okAs_cons (by decide) (okAs_cons rfl okAs_nil)) (Nat.le_of_ble_eq_true rfl) ?_
  unfold f_X5_unwinds
  refine GE_weak [true, true, false] (h_X5_unwinds_0_ok l X a1 _ ?_ FU w)
  · intro w9
    exact GE_vret rfl (by decide +kernel)
abbrev mm_X5_holds : MI := (RX5, cX5_holds, 2, none, ftp_X5.map (fun q => q.1), ctp_X5.map (fun q => q.1), clp_X5.map (fun q => q.1))
noncomputable def f_X5_holds (a1 : Int32) (w : Mem) : Option (Mem) := if inB (w 5 0 25) 200 then (some (up (up w 33 0 (tn (w 5 0 25)) a1) 5 0 25 (((up w 33 0 (tn (w 5 0 25)) a1) 5 0 25) + 1))) else none
set_option maxRecDepth 100000 in
theorem t_X5_holds (l : Launch) (X : XC)  (a1 : Int32) (w : Mem) : Ct l X 0 yX5_holds cX5_holds 2 none emV [.inr (.inr (some (5, 0))), .inl a1] 57 flT w (f_X5_holds a1 w) := by
  refine Ct_of (mi := mm_X5_holds) (mik_X5 _ _ _) me_X5_holds rfl (okAs_cons (by decide) (okAs_cons rfl okAs_nil)) (Nat.le_of_ble_eq_true rfl) ?_
  unfold f_X5_holds
  refine GE_chk (fun h1 => ?_)
  refine GE_run flG_T (pc1 := 20) (L1 := [some (.inr (.inr (some (5, 0)))), some (.inl a1)]) (S1 := []) (w1 := up (up w 33 0 (tn (w 5 0 25)) a1) 5 0 25 (((up w 33 0 (tn (w 5 0 25)) a1) 5 0 25) + 1)) (P := (inB (w 5 0 25) 200) ∧ True) [(.aload_n 0, 0, 0, 0, 0), (.getfield 49, 5, 24, 0, 0), (.aload_n 0, 0, 0, 0, 0), (.getfield 116, 5, 25, 0, 0), (.iload_n 1, 0, 0, 0, 0), (.iastore, 0, 0, 0, 0), (.aload_n 0, 0, 0, 0, 0), (.dup, 0, 0, 0, 0), (.getfield 116, 5, 25, 0, 0), (.iconst 1, 0, 0, 1, 0), (.iadd, 0, 0, 0, 0), (.putfield 116, 5, 25, 0, 0)] (by decide +kernel) rfl ⟨h1, trivial⟩ ?_
  exact GE_vret rfl (by decide +kernel)
abbrev mm_X5_opensOne : MI := (RX5, cX5_opensOne, 2, (some .boolean), ftp_X5.map (fun q => q.1), ctp_X5.map (fun q => q.1), clp_X5.map (fun q => q.1))
noncomputable def f_X5_opensOne (a1 : Int32) (w : Mem) : Option (Int32 × Mem) := if (w 5 0 26) = 5 then (some (0, w)) else (Option.bind (f_X5_holds a1 (up w 5 0 26 ((w 5 0 26) + 1))) (fun r2 => some (1, r2)))
set_option maxRecDepth 100000 in
theorem t_X5_opensOne (l : Launch) (X : XC)  (a1 : Int32) (w : Mem) : Ct l X 1 yX5_opensOne cX5_opensOne 2 (some .boolean) emI [.inr (.inr (some (5, 0))), .inl a1] 57 flT w (f_X5_opensOne a1 w) := by
  refine Ct_of (mi := mm_X5_opensOne) (mik_X5 _ _ _) me_X5_opensOne rfl (okAs_cons (by decide) (okAs_cons rfl okAs_nil)) (Nat.le_of_ble_eq_true rfl) ?_
  unfold f_X5_opensOne
  refine GE_run flG_T (pc1 := 5) (L1 := [some (.inr (.inr (some (5, 0)))), some (.inl a1)]) (S1 := [.inl 5, .inl (w 5 0 26)]) (w1 := w) (P := True) [(.aload_n 0, 0, 0, 0, 0), (.getfield 122, 5, 26, 0, 0), (.iconst 5, 0, 0, 5, 0)] (by decide +kernel) rfl trivial ?_
  refine GE_icmpN (k := .ne) (off := 5) (tgt := 10) (by decide +kernel) (by decide) (cnd_ne _ _) (fun c1 => ?_) (fun c1 => ?_)
  · refine GE_run flG_T (pc1 := 22) (L1 := [some (.inr (.inr (some (5, 0)))), some (.inl a1)]) (S1 := [.inl a1, .inr (.inr (some (5, 0)))]) (w1 := up w 5 0 26 ((w 5 0 26) + 1)) (P := True) [(.aload_n 0, 0, 0, 0, 0), (.dup, 0, 0, 0, 0), (.getfield 122, 5, 26, 0, 0), (.iconst 1, 0, 0, 1, 0), (.iadd, 0, 0, 0, 0), (.putfield 122, 5, 26, 0, 0), (.aload_n 0, 0, 0, 0, 0), (.iload_n 1, 0, 0, 0, 0)] (by decide +kernel) rfl trivial ?_
    refine GE_callVV (As := [.inl a1]) (k := 5) (i := 0) (S := []) (t_X5_holds l X a1 (up w 5 0 26 ((w 5 0 26) + 1))) (by decide) ⟨me_X5_holds, mi_X5_holds, mv_X5_holds, lk_X5_129⟩ rfl (by decide +kernel) rfl (by decide) (by decide) (Nat.le_of_ble_eq_true rfl) (fun r2 _ => ?_)
    refine GE_run flG_T (pc1 := 26) (L1 := [some (.inr (.inr (some (5, 0)))), some (.inl a1)]) (S1 := [.inl 1]) (w1 := r2) (P := True) [(.iconst 1, 0, 0, 1, 0)] (by decide +kernel) rfl trivial ?_
    exact GE_zret (ty := .boolean) rfl (by decide +kernel) (by decide +kernel)
  · refine GE_run flG_T (pc1 := 9) (L1 := [some (.inr (.inr (some (5, 0)))), some (.inl a1)]) (S1 := [.inl 0]) (w1 := w) (P := True) [(.iconst 0, 0, 0, 0, 0)] (by decide +kernel) rfl trivial ?_
    exact GE_zret (ty := .boolean) rfl (by decide +kernel) (by decide +kernel)
abbrev mm_X5_between : MI := (RX5, cX5_between, 2, (some .boolean), ftp_X5.map (fun q => q.1), ctp_X5.map (fun q => q.1), clp_X5.map (fun q => q.1))
noncomputable def j_X5_between_55   (x1 : Int32) (w : Mem) : Option (Int32 × Mem) := Option.bind (f_X5_holds x1 w) (fun r7 => some (1, r7))
set_option maxRecDepth 100000 in
theorem j_X5_between_55_ok (l : Launch) (X : XC)   (x1 : Int32)   (w : Mem) : GE l X mm_X5_between 2 emI 57 flT (j_X5_between_55 x1 w) 55 [some (.inr (.inr (some (5, 0)))), some (.inl x1)] [] w := by
  unfold j_X5_between_55
  refine GE_run flG_T (pc1 := 57) (L1 := [some (.inr (.inr (some (5, 0)))), some (.inl x1)]) (S1 := [.inl x1, .inr (.inr (some (5, 0)))]) (w1 := w) (P := True) [(.aload_n 0, 0, 0, 0, 0), (.iload_n 1, 0, 0, 0, 0)] (by decide +kernel) rfl trivial ?_
  refine GE_callVV (As := [.inl x1]) (k := 5) (i := 0) (S := []) (t_X5_holds l X x1 w) (by decide) ⟨me_X5_holds, mi_X5_holds, mv_X5_holds, lk_X5_129⟩ rfl (by decide +kernel) rfl (by decide) (by decide) (Nat.le_of_ble_eq_true rfl) (fun r7 _ => ?_)
  refine GE_run flG_T (pc1 := 61) (L1 := [some (.inr (.inr (some (5, 0)))), some (.inl x1)]) (S1 := [.inl 1]) (w1 := r7) (P := True) [(.iconst 1, 0, 0, 1, 0)] (by decide +kernel) rfl trivial ?_
  exact GE_zret (ty := .boolean) rfl (by decide +kernel) (by decide +kernel)
noncomputable def j_X5_between_17   (x1 : Int32) (s0 : Int32) (w : Mem) : Option (Int32 × Mem) := Option.bind (f_X5_unwinds s0 w) (fun r3 => Option.bind (f_X5_rank x1 r3) (fun r4 => if r4.1 = 4 then (if (r4.2 5 0 25) ≤ 0 then (j_X5_between_55 x1 r4.2) else (if inB ((r4.2 5 0 25) - 1) 200 then (Option.bind (f_X5_rank (r4.2 33 0 (tn ((r4.2 5 0 25) - 1))) r4.2) (fun r9 => if r9.1 = 4 then (some (0, r9.2)) else (j_X5_between_55 x1 r9.2))) else none)) else (j_X5_between_55 x1 r4.2)))
set_option maxRecDepth 100000 in
theorem j_X5_between_17_ok (l : Launch) (X : XC)   (x1 : Int32) (s0 : Int32)   (w : Mem) : GE l X mm_X5_between 2 emI 57 flT (j_X5_between_17 x1 s0 w) 17 [some (.inr (.inr (some (5, 0)))), some (.inl x1)] [.inl s0, .inr (.inr (some (5, 0)))] w := by
  unfold j_X5_between_17
  refine GE_callVV (As := [.inl s0]) (k := 5) (i := 0) (S := []) (t_X5_unwinds l X s0 w) (by decide) ⟨me_X5_unwinds, mi_X5_unwinds, mv_X5_unwinds, lk_X5_132⟩ rfl (by decide +kernel) rfl (by decide) (by decide) (Nat.le_of_ble_eq_true rfl) (fun r3 _ => ?_)
  refine GE_run flG_T (pc1 := 21) (L1 := [some (.inr (.inr (some (5, 0)))), some (.inl x1)]) (S1 := [.inl x1]) (w1 := r3) (P := True) [(.iload_n 1, 0, 0, 0, 0)] (by decide +kernel) rfl trivial ?_
  refine GE_callSI (As := [.inl x1]) (S := []) (t_X5_rank l X x1 r3) ⟨me_X5_rank, ms_X5_rank, lk_X5_119⟩ (by decide +kernel) rfl (by decide) (by decide) (Nat.le_of_ble_eq_true rfl) (fun r4 _ => ?_)
  refine GE_run flG_T (pc1 := 25) (L1 := [some (.inr (.inr (some (5, 0)))), some (.inl x1)]) (S1 := [.inl 4, .inl r4.1]) (w1 := r4.2) (P := True) [(.iconst 4, 0, 0, 4, 0)] (by decide +kernel) rfl trivial ?_
  refine GE_icmpN (k := .ne) (off := 30) (tgt := 55) (by decide +kernel) (by decide) (cnd_ne _ _) (fun c5 => ?_) (fun c5 => ?_)
  · exact GE_weak [true, true] (j_X5_between_55_ok l X x1 r4.2)
  · refine GE_run flG_T (pc1 := 32) (L1 := [some (.inr (.inr (some (5, 0)))), some (.inl x1)]) (S1 := [.inl (r4.2 5 0 25)]) (w1 := r4.2) (P := True) [(.aload_n 0, 0, 0, 0, 0), (.getfield 116, 5, 25, 0, 0)] (by decide +kernel) rfl trivial ?_
    refine GE_if (k := .le) (off := 23) (tgt := 55) (by decide +kernel) (by decide) (cnd_le _ _) (fun c6 => ?_) (fun c6 => ?_)
    · exact GE_weak [true, true] (j_X5_between_55_ok l X x1 r4.2)
    · refine GE_chk (fun h8 => ?_)
      refine GE_run flG_T (pc1 := 46) (L1 := [some (.inr (.inr (some (5, 0)))), some (.inl x1)]) (S1 := [.inl (r4.2 33 0 (tn ((r4.2 5 0 25) - 1)))]) (w1 := r4.2) (P := (inB ((r4.2 5 0 25) - 1) 200) ∧ True) [(.aload_n 0, 0, 0, 0, 0), (.getfield 49, 5, 24, 0, 0), (.aload_n 0, 0, 0, 0, 0), (.getfield 116, 5, 25, 0, 0), (.iconst 1, 0, 0, 1, 0), (.isub, 0, 0, 0, 0), (.iaload, 0, 0, 0, 0)] (by decide +kernel) rfl ⟨h8, trivial⟩ ?_
      refine GE_callSI (As := [.inl (r4.2 33 0 (tn ((r4.2 5 0 25) - 1)))]) (S := []) (t_X5_rank l X (r4.2 33 0 (tn ((r4.2 5 0 25) - 1))) r4.2) ⟨me_X5_rank, ms_X5_rank, lk_X5_119⟩ (by decide +kernel) rfl (by decide) (by decide) (Nat.le_of_ble_eq_true rfl) (fun r9 _ => ?_)
      refine GE_run flG_T (pc1 := 50) (L1 := [some (.inr (.inr (some (5, 0)))), some (.inl x1)]) (S1 := [.inl 4, .inl r9.1]) (w1 := r9.2) (P := True) [(.iconst 4, 0, 0, 4, 0)] (by decide +kernel) rfl trivial ?_
      refine GE_icmpN (k := .ne) (off := 5) (tgt := 55) (by decide +kernel) (by decide) (cnd_ne _ _) (fun c10 => ?_) (fun c10 => ?_)
      · exact GE_weak [true, true] (j_X5_between_55_ok l X x1 r9.2)
      · refine GE_run flG_T (pc1 := 54) (L1 := [some (.inr (.inr (some (5, 0)))), some (.inl x1)]) (S1 := [.inl 0]) (w1 := r9.2) (P := True) [(.iconst 0, 0, 0, 0, 0)] (by decide +kernel) rfl trivial ?_
        exact GE_zret (ty := .boolean) rfl (by decide +kernel) (by decide +kernel)
noncomputable def f_X5_between (a1 : Int32) (w : Mem) : Option (Int32 × Mem) := Option.bind (f_X5_rank a1 w) (fun r1 => if r1.1 = 4 then (j_X5_between_17 a1 5 r1.2) else (Option.bind (f_X5_rank a1 r1.2) (fun r11 => j_X5_between_17 a1 r11.1 r11.2)))
set_option maxRecDepth 100000 in
theorem t_X5_between (l : Launch) (X : XC)  (a1 : Int32) (w : Mem) : Ct l X 2 yX5_between cX5_between 2 (some .boolean) emI [.inr (.inr (some (5, 0))), .inl a1] 57 flT w (f_X5_between a1 w) := by
  refine Ct_of (mi := mm_X5_between) (mik_X5 _ _ _) me_X5_between rfl (okAs_cons (by decide) (okAs_cons rfl okAs_nil)) (Nat.le_of_ble_eq_true rfl) ?_
  unfold f_X5_between
  refine GE_run flG_T (pc1 := 2) (L1 := [some (.inr (.inr (some (5, 0)))), some (.inl a1)]) (S1 := [.inl a1, .inr (.inr (some (5, 0)))]) (w1 := w) (P := True) [(.aload_n 0, 0, 0, 0, 0), (.iload_n 1, 0, 0, 0, 0)] (by decide +kernel) rfl trivial ?_
  refine GE_callSI (As := [.inl a1]) (S := [.inr (.inr (some (5, 0)))]) (t_X5_rank l X a1 w) ⟨me_X5_rank, ms_X5_rank, lk_X5_119⟩ (by decide +kernel) rfl (by decide) (by decide) (Nat.le_of_ble_eq_true rfl) (fun r1 _ => ?_)
  refine GE_run flG_T (pc1 := 6) (L1 := [some (.inr (.inr (some (5, 0)))), some (.inl a1)]) (S1 := [.inl 4, .inl r1.1, .inr (.inr (some (5, 0)))]) (w1 := r1.2) (P := True) [(.iconst 4, 0, 0, 4, 0)] (by decide +kernel) rfl trivial ?_
  refine GE_icmpN (k := .ne) (off := 7) (tgt := 13) (by decide +kernel) (by decide) (cnd_ne _ _) (fun c2 => ?_) (fun c2 => ?_)
  · refine GE_run flG_T (pc1 := 14) (L1 := [some (.inr (.inr (some (5, 0)))), some (.inl a1)]) (S1 := [.inl a1, .inr (.inr (some (5, 0)))]) (w1 := r1.2) (P := True) [(.iload_n 1, 0, 0, 0, 0)] (by decide +kernel) rfl trivial ?_
    refine GE_callSI (As := [.inl a1]) (S := [.inr (.inr (some (5, 0)))]) (t_X5_rank l X a1 r1.2) ⟨me_X5_rank, ms_X5_rank, lk_X5_119⟩ (by decide +kernel) rfl (by decide) (by decide) (Nat.le_of_ble_eq_true rfl) (fun r11 _ => ?_)
    exact GE_weak [true, true] (j_X5_between_17_ok l X a1 r11.1 r11.2)
  · refine GE_run flG_T (pc1 := 17) (L1 := [some (.inr (.inr (some (5, 0)))), some (.inl a1)]) (S1 := [.inl 5, .inr (.inr (some (5, 0)))]) (w1 := r1.2) (P := True) [(.iconst 5, 0, 0, 5, 0), (.goto 7, 0, 0, 0, 0)] (by decide +kernel) rfl trivial ?_
    exact GE_weak [true, true] (j_X5_between_17_ok l X a1 5 r1.2)
abbrev mm_X5_signOf : MI := (RX5, cX5_signOf, 1, (some .int), ftp_X5.map (fun q => q.1), ctp_X5.map (fun q => q.1), clp_X5.map (fun q => q.1))
noncomputable def f_X5_signOf  (w : Mem) : Option (Int32 × Mem) := if (w 5 0 21) = 4 then (some (11, w)) else (if (w 5 0 21) = 5 then (some (12, w)) else (if (w 5 0 21) = 60 then (some (14, w)) else (if (w 5 0 21) = 61 then (some (15, w)) else (if (w 5 0 21) = 43 then (some (16, w)) else (if (w 5 0 21) = 45 then (some (17, w)) else (if (w 5 0 21) = 42 then (some (18, w)) else (some ((-1), w))))))))
set_option maxRecDepth 100000 in
theorem t_X5_signOf (l : Launch) (X : XC)   (w : Mem) : Ct l X 0 yX5_signOf cX5_signOf 1 (some .int) emI [.inr (.inr (some (5, 0)))] 57 flT w (f_X5_signOf  w) := by
  refine Ct_of (mi := mm_X5_signOf) (mik_X5 _ _ _) me_X5_signOf rfl (okAs_cons (by decide) okAs_nil) (Nat.le_of_ble_eq_true rfl) ?_
  unfold f_X5_signOf
  refine GE_run flG_T (pc1 := 5) (L1 := [some (.inr (.inr (some (5, 0))))]) (S1 := [.inl 4, .inl (w 5 0 21)]) (w1 := w) (P := True) [(.aload_n 0, 0, 0, 0, 0), (.getfield 103, 5, 21, 0, 0), (.iconst 4, 0, 0, 4, 0)] (by decide +kernel) rfl trivial ?_
  refine GE_icmpN (k := .ne) (off := 8) (tgt := 13) (by decide +kernel) (by decide) (cnd_ne _ _) (fun c1 => ?_) (fun c1 => ?_)
  · refine GE_run flG_T (pc1 := 18) (L1 := [some (.inr (.inr (some (5, 0))))]) (S1 := [.inl 5, .inl (w 5 0 21)]) (w1 := w) (P := True) [(.aload_n 0, 0, 0, 0, 0), (.getfield 103, 5, 21, 0, 0), (.iconst 5, 0, 0, 5, 0)] (by decide +kernel) rfl trivial ?_
    refine GE_icmpN (k := .ne) (off := 8) (tgt := 26) (by decide +kernel) (by decide) (cnd_ne _ _) (fun c2 => ?_) (fun c2 => ?_)
    · refine GE_run flG_T (pc1 := 32) (L1 := [some (.inr (.inr (some (5, 0))))]) (S1 := [.inl 60, .inl (w 5 0 21)]) (w1 := w) (P := True) [(.aload_n 0, 0, 0, 0, 0), (.getfield 103, 5, 21, 0, 0), (.bipush 60, 0, 0, 60, 0)] (by decide +kernel) rfl trivial ?_
      refine GE_icmpN (k := .ne) (off := 8) (tgt := 40) (by decide +kernel) (by decide) (cnd_ne _ _) (fun c3 => ?_) (fun c3 => ?_)
      · refine GE_run flG_T (pc1 := 46) (L1 := [some (.inr (.inr (some (5, 0))))]) (S1 := [.inl 61, .inl (w 5 0 21)]) (w1 := w) (P := True) [(.aload_n 0, 0, 0, 0, 0), (.getfield 103, 5, 21, 0, 0), (.bipush 61, 0, 0, 61, 0)] (by decide +kernel) rfl trivial ?_
        refine GE_icmpN (k := .ne) (off := 8) (tgt := 54) (by decide +kernel) (by decide) (cnd_ne _ _) (fun c4 => ?_) (fun c4 => ?_)
        · refine GE_run flG_T (pc1 := 60) (L1 := [some (.inr (.inr (some (5, 0))))]) (S1 := [.inl 43, .inl (w 5 0 21)]) (w1 := w) (P := True) [(.aload_n 0, 0, 0, 0, 0), (.getfield 103, 5, 21, 0, 0), (.bipush 43, 0, 0, 43, 0)] (by decide +kernel) rfl trivial ?_
          refine GE_icmpN (k := .ne) (off := 8) (tgt := 68) (by decide +kernel) (by decide) (cnd_ne _ _) (fun c5 => ?_) (fun c5 => ?_)
          · refine GE_run flG_T (pc1 := 74) (L1 := [some (.inr (.inr (some (5, 0))))]) (S1 := [.inl 45, .inl (w 5 0 21)]) (w1 := w) (P := True) [(.aload_n 0, 0, 0, 0, 0), (.getfield 103, 5, 21, 0, 0), (.bipush 45, 0, 0, 45, 0)] (by decide +kernel) rfl trivial ?_
            refine GE_icmpN (k := .ne) (off := 8) (tgt := 82) (by decide +kernel) (by decide) (cnd_ne _ _) (fun c6 => ?_) (fun c6 => ?_)
            · refine GE_run flG_T (pc1 := 88) (L1 := [some (.inr (.inr (some (5, 0))))]) (S1 := [.inl 42, .inl (w 5 0 21)]) (w1 := w) (P := True) [(.aload_n 0, 0, 0, 0, 0), (.getfield 103, 5, 21, 0, 0), (.bipush 42, 0, 0, 42, 0)] (by decide +kernel) rfl trivial ?_
              refine GE_icmpN (k := .ne) (off := 8) (tgt := 96) (by decide +kernel) (by decide) (cnd_ne _ _) (fun c7 => ?_) (fun c7 => ?_)
              · refine GE_run flG_T (pc1 := 97) (L1 := [some (.inr (.inr (some (5, 0))))]) (S1 := [.inl (-1)]) (w1 := w) (P := True) [(.iconst (-1), 0, 0, -1, 0)] (by decide +kernel) rfl trivial ?_
                exact GE_iret rfl (by decide +kernel)
              · refine GE_run flG_T (pc1 := 97) (L1 := [some (.inr (.inr (some (5, 0))))]) (S1 := [.inl 18]) (w1 := w) (P := True) [(.bipush 18, 0, 0, 18, 0), (.goto 4, 0, 0, 0, 0)] (by decide +kernel) rfl trivial ?_
                exact GE_iret rfl (by decide +kernel)
            · refine GE_run flG_T (pc1 := 97) (L1 := [some (.inr (.inr (some (5, 0))))]) (S1 := [.inl 17]) (w1 := w) (P := True) [(.bipush 17, 0, 0, 17, 0), (.goto 18, 0, 0, 0, 0)] (by decide +kernel) rfl trivial ?_
              exact GE_iret rfl (by decide +kernel)
          · refine GE_run flG_T (pc1 := 97) (L1 := [some (.inr (.inr (some (5, 0))))]) (S1 := [.inl 16]) (w1 := w) (P := True) [(.bipush 16, 0, 0, 16, 0), (.goto 32, 0, 0, 0, 0)] (by decide +kernel) rfl trivial ?_
            exact GE_iret rfl (by decide +kernel)
        · refine GE_run flG_T (pc1 := 97) (L1 := [some (.inr (.inr (some (5, 0))))]) (S1 := [.inl 15]) (w1 := w) (P := True) [(.bipush 15, 0, 0, 15, 0), (.goto 46, 0, 0, 0, 0)] (by decide +kernel) rfl trivial ?_
          exact GE_iret rfl (by decide +kernel)
      · refine GE_run flG_T (pc1 := 97) (L1 := [some (.inr (.inr (some (5, 0))))]) (S1 := [.inl 14]) (w1 := w) (P := True) [(.bipush 14, 0, 0, 14, 0), (.goto 60, 0, 0, 0, 0)] (by decide +kernel) rfl trivial ?_
        exact GE_iret rfl (by decide +kernel)
    · refine GE_run flG_T (pc1 := 97) (L1 := [some (.inr (.inr (some (5, 0))))]) (S1 := [.inl 12]) (w1 := w) (P := True) [(.bipush 12, 0, 0, 12, 0), (.goto 74, 0, 0, 0, 0)] (by decide +kernel) rfl trivial ?_
      exact GE_iret rfl (by decide +kernel)
  · refine GE_run flG_T (pc1 := 97) (L1 := [some (.inr (.inr (some (5, 0))))]) (S1 := [.inl 11]) (w1 := w) (P := True) [(.bipush 11, 0, 0, 11, 0), (.goto 87, 0, 0, 0, 0)] (by decide +kernel) rfl trivial ?_
    exact GE_iret rfl (by decide +kernel)
abbrev mm_X5_eRead : MI := (RX5, cX5_eRead, 4, (some .boolean), ftp_X5.map (fun q => q.1), ctp_X5.map (fun q => q.1), clp_X5.map (fun q => q.1))
noncomputable def j_X5_eRead_61  (kl14 : Int32 → Int32 → Mem → Option (Int32 × Mem)) (x2 : Int32) (s0 : Int32) (w : Mem) : Option (Int32 × Mem) := Option.bind (f_X5_puts s0 w) (fun r15 => Option.bind (f_X5_unwinds 7 r15) (fun r16 => kl14 0 x2 r16))
set_option maxRecDepth 100000 in
theorem j_X5_eRead_61_ok (l : Launch) (X : XC)  (kl14 : Int32 → Int32 → Mem → Option (Int32 × Mem)) (x2 : Int32) (s0 : Int32)  (ih : ∀ (x1 : Int32) (x2 : Int32) (w : Mem), GE l X mm_X5_eRead 3 emI 57 flT (kl14 x1 x2 w) 14 [some (.inr (.inr (some (5, 0)))), some (.inl x1), some (.inl x2), none] [] w) (w : Mem) : GE l X mm_X5_eRead 3 emI 57 flT (j_X5_eRead_61 kl14 x2 s0 w) 61 [some (.inr (.inr (some (5, 0)))), none, some (.inl x2), none] [.inl s0, .inr (.inr (some (5, 0)))] w := by
  unfold j_X5_eRead_61
  refine GE_callVV (As := [.inl s0]) (k := 5) (i := 0) (S := []) (t_X5_puts l X s0 w) (by decide) ⟨me_X5_puts, mi_X5_puts, mv_X5_puts, lk_X5_125⟩ rfl (by decide +kernel) rfl (by decide) (by decide) (Nat.le_of_ble_eq_true rfl) (fun r15 _ => ?_)
  refine GE_run flG_T (pc1 := 67) (L1 := [some (.inr (.inr (some (5, 0)))), none, some (.inl x2), none]) (S1 := [.inl 7, .inr (.inr (some (5, 0)))]) (w1 := r15) (P := True) [(.aload_n 0, 0, 0, 0, 0), (.bipush 7, 0, 0, 7, 0)] (by decide +kernel) rfl trivial ?_
  refine GE_callVV (As := [.inl 7]) (k := 5) (i := 0) (S := []) (t_X5_unwinds l X 7 r15) (by decide) ⟨me_X5_unwinds, mi_X5_unwinds, mv_X5_unwinds, lk_X5_132⟩ rfl (by decide +kernel) rfl (by decide) (by decide) (Nat.le_of_ble_eq_true rfl) (fun r16 _ => ?_)
  refine GE_run flG_T (pc1 := 14) (L1 := [some (.inr (.inr (some (5, 0)))), some (.inl 0), some (.inl x2), none]) (S1 := []) (w1 := r16) (P := True) [(.iconst 0, 0, 0, 0, 0), (.istore_n 1, 0, 0, 0, 0), (.goto (-58), 0, 0, 0, 0)] (by decide +kernel) rfl trivial ?_
  exact GE_weak [true, true, true, false] (ih 0 x2 r16)
noncomputable def j_X5_eRead_38  (kl14 : Int32 → Int32 → Mem → Option (Int32 × Mem)) (x2 : Int32) (w : Mem) : Option (Int32 × Mem) := if (w 5 0 21) = 1 then (j_X5_eRead_61 kl14 x2 (100000 + (w 5 0 22)) w) else (j_X5_eRead_61 kl14 x2 (w 5 0 22) w)
set_option maxRecDepth 100000 in
theorem j_X5_eRead_38_ok (l : Launch) (X : XC)  (kl14 : Int32 → Int32 → Mem → Option (Int32 × Mem)) (x2 : Int32)  (ih : ∀ (x1 : Int32) (x2 : Int32) (w : Mem), GE l X mm_X5_eRead 3 emI 57 flT (kl14 x1 x2 w) 14 [some (.inr (.inr (some (5, 0)))), some (.inl x1), some (.inl x2), none] [] w) (w : Mem) : GE l X mm_X5_eRead 3 emI 57 flT (j_X5_eRead_38 kl14 x2 w) 38 [some (.inr (.inr (some (5, 0)))), none, some (.inl x2), none] [] w := by
  unfold j_X5_eRead_38
  refine GE_run flG_T (pc1 := 44) (L1 := [some (.inr (.inr (some (5, 0)))), none, some (.inl x2), none]) (S1 := [.inl 1, .inl (w 5 0 21), .inr (.inr (some (5, 0)))]) (w1 := w) (P := True) [(.aload_n 0, 0, 0, 0, 0), (.aload_n 0, 0, 0, 0, 0), (.getfield 103, 5, 21, 0, 0), (.iconst 1, 0, 0, 1, 0)] (by decide +kernel) rfl trivial ?_
  refine GE_icmpN (k := .ne) (off := 13) (tgt := 57) (by decide +kernel) (by decide) (cnd_ne _ _) (fun c14 => ?_) (fun c14 => ?_)
  · refine GE_run flG_T (pc1 := 61) (L1 := [some (.inr (.inr (some (5, 0)))), none, some (.inl x2), none]) (S1 := [.inl (w 5 0 22), .inr (.inr (some (5, 0)))]) (w1 := w) (P := True) [(.aload_n 0, 0, 0, 0, 0), (.getfield 106, 5, 22, 0, 0)] (by decide +kernel) rfl trivial ?_
    exact GE_weak [true, false, true, false] (j_X5_eRead_61_ok l X kl14 x2 (w 5 0 22) ih w)
  · refine GE_run flG_T (pc1 := 61) (L1 := [some (.inr (.inr (some (5, 0)))), none, some (.inl x2), none]) (S1 := [.inl (100000 + (w 5 0 22)), .inr (.inr (some (5, 0)))]) (w1 := w) (P := True) [(.ldc 138, 0, 0, 100000, 0), (.aload_n 0, 0, 0, 0, 0), (.getfield 106, 5, 22, 0, 0), (.iadd, 0, 0, 0, 0), (.goto 7, 0, 0, 0, 0)] (by decide +kernel) rfl trivial ?_
    exact GE_weak [true, false, true, false] (j_X5_eRead_61_ok l X kl14 x2 (100000 + (w 5 0 22)) ih w)
noncomputable def j_X5_eRead_99  (kl14 : Int32 → Int32 → Mem → Option (Int32 × Mem)) (x1 : Int32) (w : Mem) : Option (Int32 × Mem) := if (w 5 0 21) = 45 then (Option.bind (f_X5_opensOne 19 w) (fun r21 => if r21.1 = 0 then (some (0, r21.2)) else (kl14 x1 0 r21.2))) else (if (w 5 0 21) = 40 then (Option.bind (f_X5_opensOne 0 w) (fun r24 => if r24.1 = 0 then (some (0, r24.2)) else (kl14 x1 1 r24.2))) else (some (0, w)))
set_option maxRecDepth 100000 in
theorem j_X5_eRead_99_ok (l : Launch) (X : XC)  (kl14 : Int32 → Int32 → Mem → Option (Int32 × Mem)) (x1 : Int32)  (ih : ∀ (x1 : Int32) (x2 : Int32) (w : Mem), GE l X mm_X5_eRead 3 emI 57 flT (kl14 x1 x2 w) 14 [some (.inr (.inr (some (5, 0)))), some (.inl x1), some (.inl x2), none] [] w) (w : Mem) : GE l X mm_X5_eRead 3 emI 57 flT (j_X5_eRead_99 kl14 x1 w) 99 [some (.inr (.inr (some (5, 0)))), some (.inl x1), none, none] [] w := by
  unfold j_X5_eRead_99
  refine GE_run flG_T (pc1 := 105) (L1 := [some (.inr (.inr (some (5, 0)))), some (.inl x1), none, none]) (S1 := [.inl 45, .inl (w 5 0 21)]) (w1 := w) (P := True) [(.aload_n 0, 0, 0, 0, 0), (.getfield 103, 5, 21, 0, 0), (.bipush 45, 0, 0, 45, 0)] (by decide +kernel) rfl trivial ?_
  refine GE_icmpN (k := .ne) (off := 19) (tgt := 124) (by decide +kernel) (by decide) (cnd_ne _ _) (fun c20 => ?_) (fun c20 => ?_)
  · refine GE_run flG_T (pc1 := 130) (L1 := [some (.inr (.inr (some (5, 0)))), some (.inl x1), none, none]) (S1 := [.inl 40, .inl (w 5 0 21)]) (w1 := w) (P := True) [(.aload_n 0, 0, 0, 0, 0), (.getfield 103, 5, 21, 0, 0), (.bipush 40, 0, 0, 40, 0)] (by decide +kernel) rfl trivial ?_
    refine GE_icmpN (k := .ne) (off := 18) (tgt := 148) (by decide +kernel) (by decide) (cnd_ne _ _) (fun c23 => ?_) (fun c23 => ?_)
    · refine GE_run flG_T (pc1 := 149) (L1 := [some (.inr (.inr (some (5, 0)))), some (.inl x1), none, none]) (S1 := [.inl 0]) (w1 := w) (P := True) [(.iconst 0, 0, 0, 0, 0)] (by decide +kernel) rfl trivial ?_
      exact GE_zret (ty := .boolean) rfl (by decide +kernel) (by decide +kernel)
    · refine GE_run flG_T (pc1 := 135) (L1 := [some (.inr (.inr (some (5, 0)))), some (.inl x1), none, none]) (S1 := [.inl 0, .inr (.inr (some (5, 0)))]) (w1 := w) (P := True) [(.aload_n 0, 0, 0, 0, 0), (.iconst 0, 0, 0, 0, 0)] (by decide +kernel) rfl trivial ?_
      refine GE_callVI (As := [.inl 0]) (k := 5) (i := 0) (S := []) (t_X5_opensOne l X 0 w) (by decide) ⟨me_X5_opensOne, mi_X5_opensOne, mv_X5_opensOne, lk_X5_139⟩ rfl (by decide +kernel) rfl (by decide) (by decide) (Nat.le_of_ble_eq_true rfl) (fun r24 _ => ?_)
      refine GE_ifN (k := .ne) (off := 5) (tgt := 143) (by decide +kernel) (by decide) (cnd_ne _ _) (fun c25 => ?_) (fun c25 => ?_)
      · refine GE_run flG_T (pc1 := 14) (L1 := [some (.inr (.inr (some (5, 0)))), some (.inl x1), some (.inl 1), none]) (S1 := []) (w1 := r24.2) (P := True) [(.iconst 1, 0, 0, 1, 0), (.istore_n 2, 0, 0, 0, 0), (.goto (-131), 0, 0, 0, 0)] (by decide +kernel) rfl trivial ?_
        exact GE_weak [true, true, true, false] (ih x1 1 r24.2)
      · refine GE_run flG_T (pc1 := 142) (L1 := [some (.inr (.inr (some (5, 0)))), some (.inl x1), none, none]) (S1 := [.inl 0]) (w1 := r24.2) (P := True) [(.iconst 0, 0, 0, 0, 0)] (by decide +kernel) rfl trivial ?_
        exact GE_zret (ty := .boolean) rfl (by decide +kernel) (by decide +kernel)
  · refine GE_run flG_T (pc1 := 111) (L1 := [some (.inr (.inr (some (5, 0)))), some (.inl x1), none, none]) (S1 := [.inl 19, .inr (.inr (some (5, 0)))]) (w1 := w) (P := True) [(.aload_n 0, 0, 0, 0, 0), (.bipush 19, 0, 0, 19, 0)] (by decide +kernel) rfl trivial ?_
    refine GE_callVI (As := [.inl 19]) (k := 5) (i := 0) (S := []) (t_X5_opensOne l X 19 w) (by decide) ⟨me_X5_opensOne, mi_X5_opensOne, mv_X5_opensOne, lk_X5_139⟩ rfl (by decide +kernel) rfl (by decide) (by decide) (Nat.le_of_ble_eq_true rfl) (fun r21 _ => ?_)
    refine GE_ifN (k := .ne) (off := 5) (tgt := 119) (by decide +kernel) (by decide) (cnd_ne _ _) (fun c22 => ?_) (fun c22 => ?_)
    · refine GE_run flG_T (pc1 := 14) (L1 := [some (.inr (.inr (some (5, 0)))), some (.inl x1), some (.inl 0), none]) (S1 := []) (w1 := r21.2) (P := True) [(.iconst 0, 0, 0, 0, 0), (.istore_n 2, 0, 0, 0, 0), (.goto (-107), 0, 0, 0, 0)] (by decide +kernel) rfl trivial ?_
      exact GE_weak [true, true, true, false] (ih x1 0 r21.2)
    · refine GE_run flG_T (pc1 := 118) (L1 := [some (.inr (.inr (some (5, 0)))), some (.inl x1), none, none]) (S1 := [.inl 0]) (w1 := r21.2) (P := True) [(.iconst 0, 0, 0, 0, 0)] (by decide +kernel) rfl trivial ?_
      exact GE_zret (ty := .boolean) rfl (by decide +kernel) (by decide +kernel)
noncomputable def h_X5_eRead_14  (k159 : Mem → Option (Int32 × Mem)) : Nat → Int32 → Int32 → Mem → Option (Int32 × Mem)
  | 0, _, _, _ => none
  | n + 1, x1, x2, w => Option.bind (f_X5_next w) (fun r1 => if x1 = 0 then (if (r1 5 0 21) = 59 then (k159 r1) else (if (r1 5 0 21) = 41 then (Option.bind (f_X5_unwinds 1 r1) (fun r5 => if (r5 5 0 25) = 0 then (some (0, r5)) else (Option.bind (f_X5_unwinds 7 (up (up r5 5 0 25 ((r5 5 0 25) - 1)) 5 0 26 (((up r5 5 0 25 ((r5 5 0 25) - 1)) 5 0 26) - 1))) (fun r7 => (h_X5_eRead_14 k159 n) x1 x2 r7)))) else (Option.bind (f_X5_signOf r1) (fun r8 => if r8.1 = (-1) then (some (0, r8.2)) else (Option.bind (f_X5_between r8.1 r8.2) (fun r10 => if r10.1 = 0 then (some (0, r10.2)) else (if r8.1 ≤ 12 then ((h_X5_eRead_14 k159 n) 1 1 r10.2) else ((h_X5_eRead_14 k159 n) 1 0 r10.2)))))))) else (if (r1 5 0 21) = 1 then (j_X5_eRead_38 (h_X5_eRead_14 k159 n) x2 r1) else (if (r1 5 0 21) = 2 then (j_X5_eRead_38 (h_X5_eRead_14 k159 n) x2 r1) else (if (r1 5 0 21) = 6 then (if x2 = 0 then (j_X5_eRead_99 (h_X5_eRead_14 k159 n) x1 r1) else (Option.bind (f_X5_opensOne 13 r1) (fun r26 => if r26.1 = 0 then (some (0, r26.2)) else ((h_X5_eRead_14 k159 n) x1 x2 r26.2)))) else (j_X5_eRead_99 (h_X5_eRead_14 k159 n) x1 r1)))))
set_option maxRecDepth 100000 in
theorem h_X5_eRead_14_ok (l : Launch) (X : XC)  (k159 : Mem → Option (Int32 × Mem))  (hk159 : ∀  (w : Mem), GE l X mm_X5_eRead 3 emI 57 flT (k159 w) 159 [some (.inr (.inr (some (5, 0)))), none, none, none] [] w) : ∀ (n : Nat) (x1 : Int32) (x2 : Int32) (w : Mem), GE l X mm_X5_eRead 3 emI 57 flT ((h_X5_eRead_14 k159 n) x1 x2 w) 14 [some (.inr (.inr (some (5, 0)))), some (.inl x1), some (.inl x2), none] [] w := by
  intro n
  induction n with
  | zero => intro x1 x2 w; exact GE_none
  | succ n ih =>
    intro x1 x2 w
    unfold h_X5_eRead_14
    refine GE_run flG_T (pc1 := 15) (L1 := [some (.inr (.inr (some (5, 0)))), some (.inl x1), some (.inl x2), none]) (S1 := [.inr (.inr (some (5, 0)))]) (w1 := w) (P := True) [(.aload_n 0, 0, 0, 0, 0)] (by decide +kernel) rfl trivial ?_
    refine GE_callVV (As := []) (k := 5) (i := 0) (S := []) (t_X5_next l X w) (by decide) ⟨me_X5_next, mi_X5_next, mv_X5_next, lk_X5_135⟩ rfl (by decide +kernel) rfl (by decide) (by decide) (Nat.le_of_ble_eq_true rfl) (fun r1 _ => ?_)
    refine GE_run flG_T (pc1 := 19) (L1 := [some (.inr (.inr (some (5, 0)))), some (.inl x1), some (.inl x2), none]) (S1 := [.inl x1]) (w1 := r1) (P := True) [(.iload_n 1, 0, 0, 0, 0)] (by decide +kernel) rfl trivial ?_
    refine GE_if (k := .eq) (off := 131) (tgt := 150) (by decide +kernel) (by decide) (cnd_eq _ _) (fun c2 => ?_) (fun c2 => ?_)
    · refine GE_run flG_T (pc1 := 156) (L1 := [some (.inr (.inr (some (5, 0)))), some (.inl x1), some (.inl x2), none]) (S1 := [.inl 59, .inl (r1 5 0 21)]) (w1 := r1) (P := True) [(.aload_n 0, 0, 0, 0, 0), (.getfield 103, 5, 21, 0, 0), (.bipush 59, 0, 0, 59, 0)] (by decide +kernel) rfl trivial ?_
      refine GE_icmpN (k := .ne) (off := 21) (tgt := 177) (by decide +kernel) (by decide) (cnd_ne _ _) (fun c3 => ?_) (fun c3 => ?_)
      · refine GE_run flG_T (pc1 := 183) (L1 := [some (.inr (.inr (some (5, 0)))), some (.inl x1), some (.inl x2), none]) (S1 := [.inl 41, .inl (r1 5 0 21)]) (w1 := r1) (P := True) [(.aload_n 0, 0, 0, 0, 0), (.getfield 103, 5, 21, 0, 0), (.bipush 41, 0, 0, 41, 0)] (by decide +kernel) rfl trivial ?_
        refine GE_icmpN (k := .ne) (off := 46) (tgt := 229) (by decide +kernel) (by decide) (cnd_ne _ _) (fun c4 => ?_) (fun c4 => ?_)
        · refine GE_run flG_T (pc1 := 230) (L1 := [some (.inr (.inr (some (5, 0)))), some (.inl x1), some (.inl x2), none]) (S1 := [.inr (.inr (some (5, 0)))]) (w1 := r1) (P := True) [(.aload_n 0, 0, 0, 0, 0)] (by decide +kernel) rfl trivial ?_
          refine GE_callVI (As := []) (k := 5) (i := 0) (S := []) (t_X5_signOf l X r1) (by decide) ⟨me_X5_signOf, mi_X5_signOf, mv_X5_signOf, lk_X5_142⟩ rfl (by decide +kernel) rfl (by decide) (by decide) (Nat.le_of_ble_eq_true rfl) (fun r8 _ => ?_)
          refine GE_run flG_T (pc1 := 236) (L1 := [some (.inr (.inr (some (5, 0)))), some (.inl x1), some (.inl x2), some (.inl r8.1)]) (S1 := [.inl (-1), .inl r8.1]) (w1 := r8.2) (P := True) [(.istore_n 3, 0, 0, 0, 0), (.iload_n 3, 0, 0, 0, 0), (.iconst (-1), 0, 0, -1, 0)] (by decide +kernel) rfl trivial ?_
          refine GE_icmp (k := .eq) (off := 11) (tgt := 247) (by decide +kernel) (by decide) (cnd_eq _ _) (fun c9 => ?_) (fun c9 => ?_)
          · refine GE_run flG_T (pc1 := 248) (L1 := [some (.inr (.inr (some (5, 0)))), some (.inl x1), some (.inl x2), some (.inl r8.1)]) (S1 := [.inl 0]) (w1 := r8.2) (P := True) [(.iconst 0, 0, 0, 0, 0)] (by decide +kernel) rfl trivial ?_
            exact GE_zret (ty := .boolean) rfl (by decide +kernel) (by decide +kernel)
          · refine GE_run flG_T (pc1 := 241) (L1 := [some (.inr (.inr (some (5, 0)))), some (.inl x1), some (.inl x2), some (.inl r8.1)]) (S1 := [.inl r8.1, .inr (.inr (some (5, 0)))]) (w1 := r8.2) (P := True) [(.aload_n 0, 0, 0, 0, 0), (.iload_n 3, 0, 0, 0, 0)] (by decide +kernel) rfl trivial ?_
            refine GE_callVI (As := [.inl r8.1]) (k := 5) (i := 0) (S := []) (t_X5_between l X r8.1 r8.2) (by decide) ⟨me_X5_between, mi_X5_between, mv_X5_between, lk_X5_145⟩ rfl (by decide +kernel) rfl (by decide) (by decide) (Nat.le_of_ble_eq_true rfl) (fun r10 _ => ?_)
            refine GE_ifN (k := .ne) (off := 5) (tgt := 249) (by decide +kernel) (by decide) (cnd_ne _ _) (fun c11 => ?_) (fun c11 => ?_)
            · refine GE_run flG_T (pc1 := 254) (L1 := [some (.inr (.inr (some (5, 0)))), some (.inl 1), some (.inl x2), some (.inl r8.1)]) (S1 := [.inl 12, .inl r8.1]) (w1 := r10.2) (P := True) [(.iconst 1, 0, 0, 1, 0), (.istore_n 1, 0, 0, 0, 0), (.iload_n 3, 0, 0, 0, 0), (.bipush 12, 0, 0, 12, 0)] (by decide +kernel) rfl trivial ?_
              refine GE_icmpN (k := .gt) (off := 7) (tgt := 261) (by decide +kernel) (by decide) (cnd_gt _ _) (fun c12 => ?_) (fun c12 => ?_)
              · refine GE_run flG_T (pc1 := 14) (L1 := [some (.inr (.inr (some (5, 0)))), some (.inl 1), some (.inl 0), some (.inl r8.1)]) (S1 := []) (w1 := r10.2) (P := True) [(.iconst 0, 0, 0, 0, 0), (.istore_n 2, 0, 0, 0, 0), (.goto (-249), 0, 0, 0, 0)] (by decide +kernel) rfl trivial ?_
                exact GE_weak [true, true, true, false] (ih 1 0 r10.2)
              · refine GE_run flG_T (pc1 := 14) (L1 := [some (.inr (.inr (some (5, 0)))), some (.inl 1), some (.inl 1), some (.inl r8.1)]) (S1 := []) (w1 := r10.2) (P := True) [(.iconst 1, 0, 0, 1, 0), (.goto 4, 0, 0, 0, 0), (.istore_n 2, 0, 0, 0, 0), (.goto (-249), 0, 0, 0, 0)] (by decide +kernel) rfl trivial ?_
                exact GE_weak [true, true, true, false] (ih 1 1 r10.2)
            · refine GE_run flG_T (pc1 := 248) (L1 := [some (.inr (.inr (some (5, 0)))), some (.inl x1), some (.inl x2), some (.inl r8.1)]) (S1 := [.inl 0]) (w1 := r10.2) (P := True) [(.iconst 0, 0, 0, 0, 0)] (by decide +kernel) rfl trivial ?_
              exact GE_zret (ty := .boolean) rfl (by decide +kernel) (by decide +kernel)
        · refine GE_run flG_T (pc1 := 188) (L1 := [some (.inr (.inr (some (5, 0)))), some (.inl x1), some (.inl x2), none]) (S1 := [.inl 1, .inr (.inr (some (5, 0)))]) (w1 := r1) (P := True) [(.aload_n 0, 0, 0, 0, 0), (.iconst 1, 0, 0, 1, 0)] (by decide +kernel) rfl trivial ?_
          refine GE_callVV (As := [.inl 1]) (k := 5) (i := 0) (S := []) (t_X5_unwinds l X 1 r1) (by decide) ⟨me_X5_unwinds, mi_X5_unwinds, mv_X5_unwinds, lk_X5_132⟩ rfl (by decide +kernel) rfl (by decide) (by decide) (Nat.le_of_ble_eq_true rfl) (fun r5 _ => ?_)
          refine GE_run flG_T (pc1 := 195) (L1 := [some (.inr (.inr (some (5, 0)))), some (.inl x1), some (.inl x2), none]) (S1 := [.inl (r5 5 0 25)]) (w1 := r5) (P := True) [(.aload_n 0, 0, 0, 0, 0), (.getfield 116, 5, 25, 0, 0)] (by decide +kernel) rfl trivial ?_
          refine GE_ifN (k := .ne) (off := 5) (tgt := 200) (by decide +kernel) (by decide) (cnd_ne _ _) (fun c6 => ?_) (fun c6 => ?_)
          · refine GE_run flG_T (pc1 := 223) (L1 := [some (.inr (.inr (some (5, 0)))), some (.inl x1), some (.inl x2), none]) (S1 := [.inl 7, .inr (.inr (some (5, 0)))]) (w1 := up (up r5 5 0 25 ((r5 5 0 25) - 1)) 5 0 26 (((up r5 5 0 25 ((r5 5 0 25) - 1)) 5 0 26) - 1)) (P := True) [(.aload_n 0, 0, 0, 0, 0), (.dup, 0, 0, 0, 0), (.getfield 116, 5, 25, 0, 0), (.iconst 1, 0, 0, 1, 0), (.isub, 0, 0, 0, 0), (.putfield 116, 5, 25, 0, 0), (.aload_n 0, 0, 0, 0, 0), (.dup, 0, 0, 0, 0), (.getfield 122, 5, 26, 0, 0), (.iconst 1, 0, 0, 1, 0), (.isub, 0, 0, 0, 0), (.putfield 122, 5, 26, 0, 0), (.aload_n 0, 0, 0, 0, 0), (.bipush 7, 0, 0, 7, 0)] (by decide +kernel) rfl trivial ?_
            refine GE_callVV (As := [.inl 7]) (k := 5) (i := 0) (S := []) (t_X5_unwinds l X 7 (up (up r5 5 0 25 ((r5 5 0 25) - 1)) 5 0 26 (((up r5 5 0 25 ((r5 5 0 25) - 1)) 5 0 26) - 1))) (by decide) ⟨me_X5_unwinds, mi_X5_unwinds, mv_X5_unwinds, lk_X5_132⟩ rfl (by decide +kernel) rfl (by decide) (by decide) (Nat.le_of_ble_eq_true rfl) (fun r7 _ => ?_)
            refine GE_run flG_T (pc1 := 14) (L1 := [some (.inr (.inr (some (5, 0)))), some (.inl x1), some (.inl x2), none]) (S1 := []) (w1 := r7) (P := True) [(.goto (-212), 0, 0, 0, 0)] (by decide +kernel) rfl trivial ?_
            exact GE_weak [true, true, true, false] (ih x1 x2 r7)
          · refine GE_run flG_T (pc1 := 199) (L1 := [some (.inr (.inr (some (5, 0)))), some (.inl x1), some (.inl x2), none]) (S1 := [.inl 0]) (w1 := r5) (P := True) [(.iconst 0, 0, 0, 0, 0)] (by decide +kernel) rfl trivial ?_
            exact GE_zret (ty := .boolean) rfl (by decide +kernel) (by decide +kernel)
      · exact GE_weak [true, false, false, false] (hk159 r1)
    · refine GE_run flG_T (pc1 := 27) (L1 := [some (.inr (.inr (some (5, 0)))), some (.inl x1), some (.inl x2), none]) (S1 := [.inl 1, .inl (r1 5 0 21)]) (w1 := r1) (P := True) [(.aload_n 0, 0, 0, 0, 0), (.getfield 103, 5, 21, 0, 0), (.iconst 1, 0, 0, 1, 0)] (by decide +kernel) rfl trivial ?_
      refine GE_icmp (k := .eq) (off := 11) (tgt := 38) (by decide +kernel) (by decide) (cnd_eq _ _) (fun c13 => ?_) (fun c13 => ?_)
      · exact GE_weak [true, false, true, false] (j_X5_eRead_38_ok l X (h_X5_eRead_14 k159 n) x2 ih r1)
      · refine GE_run flG_T (pc1 := 35) (L1 := [some (.inr (.inr (some (5, 0)))), some (.inl x1), some (.inl x2), none]) (S1 := [.inl 2, .inl (r1 5 0 21)]) (w1 := r1) (P := True) [(.aload_n 0, 0, 0, 0, 0), (.getfield 103, 5, 21, 0, 0), (.iconst 2, 0, 0, 2, 0)] (by decide +kernel) rfl trivial ?_
        refine GE_icmpN (k := .ne) (off := 40) (tgt := 75) (by decide +kernel) (by decide) (cnd_ne _ _) (fun c17 => ?_) (fun c17 => ?_)
        · refine GE_run flG_T (pc1 := 81) (L1 := [some (.inr (.inr (some (5, 0)))), some (.inl x1), some (.inl x2), none]) (S1 := [.inl 6, .inl (r1 5 0 21)]) (w1 := r1) (P := True) [(.aload_n 0, 0, 0, 0, 0), (.getfield 103, 5, 21, 0, 0), (.bipush 6, 0, 0, 6, 0)] (by decide +kernel) rfl trivial ?_
          refine GE_icmpN (k := .ne) (off := 18) (tgt := 99) (by decide +kernel) (by decide) (cnd_ne _ _) (fun c18 => ?_) (fun c18 => ?_)
          · exact GE_weak [true, true, false, false] (j_X5_eRead_99_ok l X (h_X5_eRead_14 k159 n) x1 ih r1)
          · refine GE_run flG_T (pc1 := 85) (L1 := [some (.inr (.inr (some (5, 0)))), some (.inl x1), some (.inl x2), none]) (S1 := [.inl x2]) (w1 := r1) (P := True) [(.iload_n 2, 0, 0, 0, 0)] (by decide +kernel) rfl trivial ?_
            refine GE_if (k := .eq) (off := 14) (tgt := 99) (by decide +kernel) (by decide) (cnd_eq _ _) (fun c19 => ?_) (fun c19 => ?_)
            · exact GE_weak [true, true, false, false] (j_X5_eRead_99_ok l X (h_X5_eRead_14 k159 n) x1 ih r1)
            · refine GE_run flG_T (pc1 := 91) (L1 := [some (.inr (.inr (some (5, 0)))), some (.inl x1), some (.inl x2), none]) (S1 := [.inl 13, .inr (.inr (some (5, 0)))]) (w1 := r1) (P := True) [(.aload_n 0, 0, 0, 0, 0), (.bipush 13, 0, 0, 13, 0)] (by decide +kernel) rfl trivial ?_
              refine GE_callVI (As := [.inl 13]) (k := 5) (i := 0) (S := []) (t_X5_opensOne l X 13 r1) (by decide) ⟨me_X5_opensOne, mi_X5_opensOne, mv_X5_opensOne, lk_X5_139⟩ rfl (by decide +kernel) rfl (by decide) (by decide) (Nat.le_of_ble_eq_true rfl) (fun r26 _ => ?_)
              refine GE_ifN (k := .ne) (off := -80) (tgt := 14) (by decide +kernel) (by decide) (cnd_ne _ _) (fun c27 => ?_) (fun c27 => ?_)
              · exact GE_weak [true, true, true, false] (ih x1 x2 r26.2)
              · refine GE_run flG_T (pc1 := 98) (L1 := [some (.inr (.inr (some (5, 0)))), some (.inl x1), some (.inl x2), none]) (S1 := [.inl 0]) (w1 := r26.2) (P := True) [(.iconst 0, 0, 0, 0, 0)] (by decide +kernel) rfl trivial ?_
                exact GE_zret (ty := .boolean) rfl (by decide +kernel) (by decide +kernel)
        · exact GE_weak [true, false, true, false] (j_X5_eRead_38_ok l X (h_X5_eRead_14 k159 n) x2 ih r1)
noncomputable def f_X5_eRead  (w : Mem) : Option (Int32 × Mem) := h_X5_eRead_14 (fun w28 => Option.bind (f_X5_unwinds 1 w28) (fun r29 => if (r29 5 0 25) = 0 then (some (1, r29)) else (some (0, r29)))) FU 1 1 (up (up w 5 0 25 0) 5 0 26 0)
set_option maxRecDepth 100000 in
theorem t_X5_eRead (l : Launch) (X : XC)   (w : Mem) : Ct l X 3 yX5_eRead cX5_eRead 4 (some .boolean) emI [.inr (.inr (some (5, 0)))] 57 flT w (f_X5_eRead  w) := by
  refine Ct_of (mi := mm_X5_eRead) (mik_X5 _ _ _) me_X5_eRead rfl (okAs_cons (by decide) okAs_nil) (Nat.le_of_ble_eq_true rfl) ?_
  unfold f_X5_eRead
  refine GE_run flG_T (pc1 := 14) (L1 := [some (.inr (.inr (some (5, 0)))), some (.inl 1), some (.inl 1), none]) (S1 := []) (w1 := up (up w 5 0 25 0) 5 0 26 0) (P := True) [(.aload_n 0, 0, 0, 0, 0), (.iconst 0, 0, 0, 0, 0), (.putfield 116, 5, 25, 0, 0), (.aload_n 0, 0, 0, 0, 0), (.iconst 0, 0, 0, 0, 0), (.putfield 122, 5, 26, 0, 0), (.iconst 1, 0, 0, 1, 0), (.istore_n 1, 0, 0, 0, 0), (.iconst 1, 0, 0, 1, 0), (.istore_n 2, 0, 0, 0, 0)] (by decide +kernel) rfl trivial ?_
  refine GE_weak [true, true, true, false] (h_X5_eRead_14_ok l X _ ?_ FU 1 1 (up (up w 5 0 25 0) 5 0 26 0))
  · intro w28
    refine GE_run flG_T (pc1 := 161) (L1 := [some (.inr (.inr (some (5, 0)))), none, none, none]) (S1 := [.inl 1, .inr (.inr (some (5, 0)))]) (w1 := w28) (P := True) [(.aload_n 0, 0, 0, 0, 0), (.iconst 1, 0, 0, 1, 0)] (by decide +kernel) rfl trivial ?_
    refine GE_callVV (As := [.inl 1]) (k := 5) (i := 0) (S := []) (t_X5_unwinds l X 1 w28) (by decide) ⟨me_X5_unwinds, mi_X5_unwinds, mv_X5_unwinds, lk_X5_132⟩ rfl (by decide +kernel) rfl (by decide) (by decide) (Nat.le_of_ble_eq_true rfl) (fun r29 _ => ?_)
    refine GE_run flG_T (pc1 := 168) (L1 := [some (.inr (.inr (some (5, 0)))), none, none, none]) (S1 := [.inl (r29 5 0 25)]) (w1 := r29) (P := True) [(.aload_n 0, 0, 0, 0, 0), (.getfield 116, 5, 25, 0, 0)] (by decide +kernel) rfl trivial ?_
    refine GE_ifN (k := .ne) (off := 7) (tgt := 175) (by decide +kernel) (by decide) (cnd_ne _ _) (fun c30 => ?_) (fun c30 => ?_)
    · refine GE_run flG_T (pc1 := 176) (L1 := [some (.inr (.inr (some (5, 0)))), none, none, none]) (S1 := [.inl 0]) (w1 := r29) (P := True) [(.iconst 0, 0, 0, 0, 0)] (by decide +kernel) rfl trivial ?_
      exact GE_zret (ty := .boolean) rfl (by decide +kernel) (by decide +kernel)
    · refine GE_run flG_T (pc1 := 176) (L1 := [some (.inr (.inr (some (5, 0)))), none, none, none]) (S1 := [.inl 1]) (w1 := r29) (P := True) [(.iconst 1, 0, 0, 1, 0), (.goto 4, 0, 0, 0, 0)] (by decide +kernel) rfl trivial ?_
      exact GE_zret (ty := .boolean) rfl (by decide +kernel) (by decide +kernel)
abbrev mm_X5_text : MI := (RX5, cX5_text, 3, (some .int), ftp_X5.map (fun q => q.1), ctp_X5.map (fun q => q.1), clp_X5.map (fun q => q.1))
noncomputable def j_X5_text_60  (kl26 : Int32 → Int32 → Mem → Option (Int32 × Mem)) (x2 : Int32) (s0 : Int32) (w : Mem) : Option (Int32 × Mem) := if inB ((4 * (w 5 0 10)) + x2) 24 then (if s0 = 0 then (kl26 0 (x2 + 1) (up w 25 0 (tn ((4 * (w 5 0 10)) + x2)) (w 5 0 27))) else (Option.bind (f_X5_eRead (up w 25 0 (tn ((4 * (w 5 0 10)) + x2)) (w 5 0 27))) (fun r9 => if r9.1 = 0 then (kl26 0 (x2 + 1) r9.2) else (kl26 1 (x2 + 1) r9.2)))) else none
set_option maxRecDepth 100000 in
theorem j_X5_text_60_ok (l : Launch) (X : XC)  (kl26 : Int32 → Int32 → Mem → Option (Int32 × Mem)) (x2 : Int32) (s0 : Int32)  (ih : ∀ (x1 : Int32) (x2 : Int32) (w : Mem), GE l X mm_X5_text 4 emI 57 flT (kl26 x1 x2 w) 26 [some (.inr (.inr (some (5, 0)))), some (.inl x1), some (.inl x2)] [] w) (w : Mem) : GE l X mm_X5_text 4 emI 57 flT (j_X5_text_60 kl26 x2 s0 w) 60 [some (.inr (.inr (some (5, 0)))), none, some (.inl x2)] [.inl s0] w := by
  unfold j_X5_text_60
  refine GE_chk (fun h7 => ?_)
  refine GE_run flG_T (pc1 := 79) (L1 := [some (.inr (.inr (some (5, 0)))), some (.inl s0), some (.inl x2)]) (S1 := [.inl s0]) (w1 := up w 25 0 (tn ((4 * (w 5 0 10)) + x2)) (w 5 0 27)) (P := (inB ((4 * (w 5 0 10)) + x2) 24) ∧ True) [(.istore_n 1, 0, 0, 0, 0), (.aload_n 0, 0, 0, 0, 0), (.getfield 25, 5, 9, 0, 0), (.iconst 4, 0, 0, 4, 0), (.aload_n 0, 0, 0, 0, 0), (.getfield 86, 5, 10, 0, 0), (.imul, 0, 0, 0, 0), (.iload_n 2, 0, 0, 0, 0), (.iadd, 0, 0, 0, 0), (.aload_n 0, 0, 0, 0, 0), (.getfield 113, 5, 27, 0, 0), (.iastore, 0, 0, 0, 0), (.iload_n 1, 0, 0, 0, 0)] (by decide +kernel) rfl ⟨h7, trivial⟩ ?_
  refine GE_if (k := .eq) (off := 14) (tgt := 93) (by decide +kernel) (by decide) (cnd_eq _ _) (fun c8 => ?_) (fun c8 => ?_)
  · refine GE_run flG_T (pc1 := 26) (L1 := [some (.inr (.inr (some (5, 0)))), some (.inl 0), some (.inl (x2 + 1))]) (S1 := []) (w1 := up w 25 0 (tn ((4 * (w 5 0 10)) + x2)) (w 5 0 27)) (P := True) [(.iconst 0, 0, 0, 0, 0), (.istore_n 1, 0, 0, 0, 0), (.iinc 2 1, 0, 0, 1, 0), (.goto (-72), 0, 0, 0, 0)] (by decide +kernel) rfl trivial ?_
    exact GE_weak [true, true, true] (ih 0 (x2 + 1) (up w 25 0 (tn ((4 * (w 5 0 10)) + x2)) (w 5 0 27)))
  · refine GE_run flG_T (pc1 := 83) (L1 := [some (.inr (.inr (some (5, 0)))), some (.inl s0), some (.inl x2)]) (S1 := [.inr (.inr (some (5, 0)))]) (w1 := up w 25 0 (tn ((4 * (w 5 0 10)) + x2)) (w 5 0 27)) (P := True) [(.aload_n 0, 0, 0, 0, 0)] (by decide +kernel) rfl trivial ?_
    refine GE_callVI (As := []) (k := 5) (i := 0) (S := []) (t_X5_eRead l X (up w 25 0 (tn ((4 * (w 5 0 10)) + x2)) (w 5 0 27))) (by decide) ⟨me_X5_eRead, mi_X5_eRead, mv_X5_eRead, lk_X5_148⟩ rfl (by decide +kernel) rfl (by decide) (by decide) (Nat.le_of_ble_eq_true rfl) (fun r9 _ => ?_)
    refine GE_if (k := .eq) (off := 7) (tgt := 93) (by decide +kernel) (by decide) (cnd_eq _ _) (fun c10 => ?_) (fun c10 => ?_)
    · refine GE_run flG_T (pc1 := 26) (L1 := [some (.inr (.inr (some (5, 0)))), some (.inl 0), some (.inl (x2 + 1))]) (S1 := []) (w1 := r9.2) (P := True) [(.iconst 0, 0, 0, 0, 0), (.istore_n 1, 0, 0, 0, 0), (.iinc 2 1, 0, 0, 1, 0), (.goto (-72), 0, 0, 0, 0)] (by decide +kernel) rfl trivial ?_
      exact GE_weak [true, true, true] (ih 0 (x2 + 1) r9.2)
    · refine GE_run flG_T (pc1 := 26) (L1 := [some (.inr (.inr (some (5, 0)))), some (.inl 1), some (.inl (x2 + 1))]) (S1 := []) (w1 := r9.2) (P := True) [(.iconst 1, 0, 0, 1, 0), (.goto 4, 0, 0, 0, 0), (.istore_n 1, 0, 0, 0, 0), (.iinc 2 1, 0, 0, 1, 0), (.goto (-72), 0, 0, 0, 0)] (by decide +kernel) rfl trivial ?_
      exact GE_weak [true, true, true] (ih 1 (x2 + 1) r9.2)
noncomputable def j_X5_text_59  (kl26 : Int32 → Int32 → Mem → Option (Int32 × Mem)) (x2 : Int32) (w : Mem) : Option (Int32 × Mem) := j_X5_text_60 kl26 x2 0 w
set_option maxRecDepth 100000 in
theorem j_X5_text_59_ok (l : Launch) (X : XC)  (kl26 : Int32 → Int32 → Mem → Option (Int32 × Mem)) (x2 : Int32)  (ih : ∀ (x1 : Int32) (x2 : Int32) (w : Mem), GE l X mm_X5_text 4 emI 57 flT (kl26 x1 x2 w) 26 [some (.inr (.inr (some (5, 0)))), some (.inl x1), some (.inl x2)] [] w) (w : Mem) : GE l X mm_X5_text 4 emI 57 flT (j_X5_text_59 kl26 x2 w) 59 [some (.inr (.inr (some (5, 0)))), none, some (.inl x2)] [] w := by
  unfold j_X5_text_59
  refine GE_run flG_T (pc1 := 60) (L1 := [some (.inr (.inr (some (5, 0)))), none, some (.inl x2)]) (S1 := [.inl 0]) (w1 := w) (P := True) [(.iconst 0, 0, 0, 0, 0)] (by decide +kernel) rfl trivial ?_
  exact GE_weak [true, false, true] (j_X5_text_60_ok l X kl26 x2 0 ih w)
noncomputable def h_X5_text_26  (k101 : Int32 → Mem → Option (Int32 × Mem)) : Nat → Int32 → Int32 → Mem → Option (Int32 × Mem)
  | 0, _, _, _ => none
  | n + 1, x1, x2, w => if x2 < 3 then (if x1 = 0 then (k101 x1 w) else (Option.bind (f_X5_next w) (fun r4 => if (r4 5 0 21) = 3 then (if (r4 5 0 22) = x2 then (j_X5_text_60 (h_X5_text_26 k101 n) x2 1 r4) else (j_X5_text_59 (h_X5_text_26 k101 n) x2 r4)) else (j_X5_text_59 (h_X5_text_26 k101 n) x2 r4)))) else (k101 x1 w)
set_option maxRecDepth 100000 in
theorem h_X5_text_26_ok (l : Launch) (X : XC)  (k101 : Int32 → Mem → Option (Int32 × Mem))  (hk101 : ∀ (x1 : Int32) (w : Mem), GE l X mm_X5_text 4 emI 57 flT (k101 x1 w) 101 [some (.inr (.inr (some (5, 0)))), some (.inl x1), none] [] w) : ∀ (n : Nat) (x1 : Int32) (x2 : Int32) (w : Mem), GE l X mm_X5_text 4 emI 57 flT ((h_X5_text_26 k101 n) x1 x2 w) 26 [some (.inr (.inr (some (5, 0)))), some (.inl x1), some (.inl x2)] [] w := by
  intro n
  induction n with
  | zero => intro x1 x2 w; exact GE_none
  | succ n ih =>
    intro x1 x2 w
    unfold h_X5_text_26
    refine GE_run flG_T (pc1 := 28) (L1 := [some (.inr (.inr (some (5, 0)))), some (.inl x1), some (.inl x2)]) (S1 := [.inl 3, .inl x2]) (w1 := w) (P := True) [(.iload_n 2, 0, 0, 0, 0), (.iconst 3, 0, 0, 3, 0)] (by decide +kernel) rfl trivial ?_
    refine GE_icmpN (k := .ge) (off := 73) (tgt := 101) (by decide +kernel) (by decide) (cnd_ge _ _) (fun c2 => ?_) (fun c2 => ?_)
    · exact GE_weak [true, true, false] (hk101 x1 w)
    · refine GE_run flG_T (pc1 := 32) (L1 := [some (.inr (.inr (some (5, 0)))), some (.inl x1), some (.inl x2)]) (S1 := [.inl x1]) (w1 := w) (P := True) [(.iload_n 1, 0, 0, 0, 0)] (by decide +kernel) rfl trivial ?_
      refine GE_if (k := .eq) (off := 69) (tgt := 101) (by decide +kernel) (by decide) (cnd_eq _ _) (fun c3 => ?_) (fun c3 => ?_)
      · exact GE_weak [true, true, false] (hk101 x1 w)
      · refine GE_run flG_T (pc1 := 36) (L1 := [some (.inr (.inr (some (5, 0)))), some (.inl x1), some (.inl x2)]) (S1 := [.inr (.inr (some (5, 0)))]) (w1 := w) (P := True) [(.aload_n 0, 0, 0, 0, 0)] (by decide +kernel) rfl trivial ?_
        refine GE_callVV (As := []) (k := 5) (i := 0) (S := []) (t_X5_next l X w) (by decide) ⟨me_X5_next, mi_X5_next, mv_X5_next, lk_X5_135⟩ rfl (by decide +kernel) rfl (by decide) (by decide) (Nat.le_of_ble_eq_true rfl) (fun r4 _ => ?_)
        refine GE_run flG_T (pc1 := 44) (L1 := [some (.inr (.inr (some (5, 0)))), some (.inl x1), some (.inl x2)]) (S1 := [.inl 3, .inl (r4 5 0 21)]) (w1 := r4) (P := True) [(.aload_n 0, 0, 0, 0, 0), (.getfield 103, 5, 21, 0, 0), (.iconst 3, 0, 0, 3, 0)] (by decide +kernel) rfl trivial ?_
        refine GE_icmpN (k := .ne) (off := 15) (tgt := 59) (by decide +kernel) (by decide) (cnd_ne _ _) (fun c5 => ?_) (fun c5 => ?_)
        · exact GE_weak [true, false, true] (j_X5_text_59_ok l X (h_X5_text_26 k101 n) x2 ih r4)
        · refine GE_run flG_T (pc1 := 52) (L1 := [some (.inr (.inr (some (5, 0)))), some (.inl x1), some (.inl x2)]) (S1 := [.inl x2, .inl (r4 5 0 22)]) (w1 := r4) (P := True) [(.aload_n 0, 0, 0, 0, 0), (.getfield 106, 5, 22, 0, 0), (.iload_n 2, 0, 0, 0, 0)] (by decide +kernel) rfl trivial ?_
          refine GE_icmpN (k := .ne) (off := 7) (tgt := 59) (by decide +kernel) (by decide) (cnd_ne _ _) (fun c6 => ?_) (fun c6 => ?_)
          · exact GE_weak [true, false, true] (j_X5_text_59_ok l X (h_X5_text_26 k101 n) x2 ih r4)
          · refine GE_run flG_T (pc1 := 60) (L1 := [some (.inr (.inr (some (5, 0)))), some (.inl x1), some (.inl x2)]) (S1 := [.inl 1]) (w1 := r4) (P := True) [(.iconst 1, 0, 0, 1, 0), (.goto 4, 0, 0, 0, 0)] (by decide +kernel) rfl trivial ?_
            exact GE_weak [true, false, true] (j_X5_text_60_ok l X (h_X5_text_26 k101 n) x2 1 ih r4)
noncomputable def j_X5_text_122   (x1 : Int32) (w : Mem) : Option (Int32 × Mem) := if inB ((4 * (w 5 0 10)) + 3) 24 then (if x1 = 0 then (some ((-100) - ((up (up w 25 0 (tn ((4 * (w 5 0 10)) + 3)) (w 5 0 27)) 5 0 7 0) 5 0 20), up (up w 25 0 (tn ((4 * (w 5 0 10)) + 3)) (w 5 0 27)) 5 0 7 0)) else (some (((up (up (up w 25 0 (tn ((4 * (w 5 0 10)) + 3)) (w 5 0 27)) 5 0 7 0) 5 0 10 (((up (up w 25 0 (tn ((4 * (w 5 0 10)) + 3)) (w 5 0 27)) 5 0 7 0) 5 0 10) + 1)) 5 0 10) - 1, up (up (up w 25 0 (tn ((4 * (w 5 0 10)) + 3)) (w 5 0 27)) 5 0 7 0) 5 0 10 (((up (up w 25 0 (tn ((4 * (w 5 0 10)) + 3)) (w 5 0 27)) 5 0 7 0) 5 0 10) + 1)))) else none
set_option maxRecDepth 100000 in
theorem j_X5_text_122_ok (l : Launch) (X : XC)   (x1 : Int32)   (w : Mem) : GE l X mm_X5_text 4 emI 57 flT (j_X5_text_122 x1 w) 122 [some (.inr (.inr (some (5, 0)))), some (.inl x1), none] [] w := by
  unfold j_X5_text_122
  refine GE_chk (fun h14 => ?_)
  refine GE_run flG_T (pc1 := 145) (L1 := [some (.inr (.inr (some (5, 0)))), some (.inl x1), none]) (S1 := [.inl x1]) (w1 := up (up w 25 0 (tn ((4 * (w 5 0 10)) + 3)) (w 5 0 27)) 5 0 7 0) (P := (inB ((4 * (w 5 0 10)) + 3) 24) ∧ True) [(.aload_n 0, 0, 0, 0, 0), (.getfield 25, 5, 9, 0, 0), (.iconst 4, 0, 0, 4, 0), (.aload_n 0, 0, 0, 0, 0), (.getfield 86, 5, 10, 0, 0), (.imul, 0, 0, 0, 0), (.iconst 3, 0, 0, 3, 0), (.iadd, 0, 0, 0, 0), (.aload_n 0, 0, 0, 0, 0), (.getfield 113, 5, 27, 0, 0), (.iastore, 0, 0, 0, 0), (.aload_n 0, 0, 0, 0, 0), (.iconst 0, 0, 0, 0, 0), (.putfield 61, 5, 7, 0, 0), (.iload_n 1, 0, 0, 0, 0)] (by decide +kernel) rfl ⟨h14, trivial⟩ ?_
  refine GE_ifN (k := .ne) (off := 11) (tgt := 156) (by decide +kernel) (by decide) (cnd_ne _ _) (fun c15 => ?_) (fun c15 => ?_)
  · refine GE_run flG_T (pc1 := 172) (L1 := [some (.inr (.inr (some (5, 0)))), some (.inl x1), none]) (S1 := [.inl (((up (up (up w 25 0 (tn ((4 * (w 5 0 10)) + 3)) (w 5 0 27)) 5 0 7 0) 5 0 10 (((up (up w 25 0 (tn ((4 * (w 5 0 10)) + 3)) (w 5 0 27)) 5 0 7 0) 5 0 10) + 1)) 5 0 10) - 1)]) (w1 := up (up (up w 25 0 (tn ((4 * (w 5 0 10)) + 3)) (w 5 0 27)) 5 0 7 0) 5 0 10 (((up (up w 25 0 (tn ((4 * (w 5 0 10)) + 3)) (w 5 0 27)) 5 0 7 0) 5 0 10) + 1)) (P := True) [(.aload_n 0, 0, 0, 0, 0), (.dup, 0, 0, 0, 0), (.getfield 86, 5, 10, 0, 0), (.iconst 1, 0, 0, 1, 0), (.iadd, 0, 0, 0, 0), (.putfield 86, 5, 10, 0, 0), (.aload_n 0, 0, 0, 0, 0), (.getfield 86, 5, 10, 0, 0), (.iconst 1, 0, 0, 1, 0), (.isub, 0, 0, 0, 0)] (by decide +kernel) rfl trivial ?_
    exact GE_iret rfl (by decide +kernel)
  · refine GE_run flG_T (pc1 := 155) (L1 := [some (.inr (.inr (some (5, 0)))), some (.inl x1), none]) (S1 := [.inl ((-100) - ((up (up w 25 0 (tn ((4 * (w 5 0 10)) + 3)) (w 5 0 27)) 5 0 7 0) 5 0 20))]) (w1 := up (up w 25 0 (tn ((4 * (w 5 0 10)) + 3)) (w 5 0 27)) 5 0 7 0) (P := True) [(.bipush (-100), 0, 0, -100, 0), (.aload_n 0, 0, 0, 0, 0), (.getfield 100, 5, 20, 0, 0), (.isub, 0, 0, 0, 0)] (by decide +kernel) rfl trivial ?_
    exact GE_iret rfl (by decide +kernel)
noncomputable def j_X5_text_121   (s0 : Int32) (w : Mem) : Option (Int32 × Mem) := j_X5_text_122 s0 w
set_option maxRecDepth 100000 in
theorem j_X5_text_121_ok (l : Launch) (X : XC)   (s0 : Int32)   (w : Mem) : GE l X mm_X5_text 4 emI 57 flT (j_X5_text_121 s0 w) 121 [some (.inr (.inr (some (5, 0)))), none, none] [.inl s0] w := by
  unfold j_X5_text_121
  refine GE_run flG_T (pc1 := 122) (L1 := [some (.inr (.inr (some (5, 0)))), some (.inl s0), none]) (S1 := []) (w1 := w) (P := True) [(.istore_n 1, 0, 0, 0, 0)] (by decide +kernel) rfl trivial ?_
  exact GE_weak [true, true, false] (j_X5_text_122_ok l X s0 w)
noncomputable def j_X5_text_101   (x1 : Int32) (w : Mem) : Option (Int32 × Mem) := if x1 = 0 then (j_X5_text_122 x1 w) else (Option.bind (f_X5_next w) (fun r16 => if (r16 5 0 21) = 0 then (j_X5_text_121 1 r16) else (j_X5_text_121 0 r16)))
set_option maxRecDepth 100000 in
theorem j_X5_text_101_ok (l : Launch) (X : XC)   (x1 : Int32)   (w : Mem) : GE l X mm_X5_text 4 emI 57 flT (j_X5_text_101 x1 w) 101 [some (.inr (.inr (some (5, 0)))), some (.inl x1), none] [] w := by
  unfold j_X5_text_101
  refine GE_run flG_T (pc1 := 102) (L1 := [some (.inr (.inr (some (5, 0)))), some (.inl x1), none]) (S1 := [.inl x1]) (w1 := w) (P := True) [(.iload_n 1, 0, 0, 0, 0)] (by decide +kernel) rfl trivial ?_
  refine GE_if (k := .eq) (off := 20) (tgt := 122) (by decide +kernel) (by decide) (cnd_eq _ _) (fun c13 => ?_) (fun c13 => ?_)
  · exact GE_weak [true, true, false] (j_X5_text_122_ok l X x1 w)
  · refine GE_run flG_T (pc1 := 106) (L1 := [some (.inr (.inr (some (5, 0)))), some (.inl x1), none]) (S1 := [.inr (.inr (some (5, 0)))]) (w1 := w) (P := True) [(.aload_n 0, 0, 0, 0, 0)] (by decide +kernel) rfl trivial ?_
    refine GE_callVV (As := []) (k := 5) (i := 0) (S := []) (t_X5_next l X w) (by decide) ⟨me_X5_next, mi_X5_next, mv_X5_next, lk_X5_135⟩ rfl (by decide +kernel) rfl (by decide) (by decide) (Nat.le_of_ble_eq_true rfl) (fun r16 _ => ?_)
    refine GE_run flG_T (pc1 := 113) (L1 := [some (.inr (.inr (some (5, 0)))), some (.inl x1), none]) (S1 := [.inl (r16 5 0 21)]) (w1 := r16) (P := True) [(.aload_n 0, 0, 0, 0, 0), (.getfield 103, 5, 21, 0, 0)] (by decide +kernel) rfl trivial ?_
    refine GE_ifN (k := .ne) (off := 7) (tgt := 120) (by decide +kernel) (by decide) (cnd_ne _ _) (fun c17 => ?_) (fun c17 => ?_)
    · refine GE_run flG_T (pc1 := 121) (L1 := [some (.inr (.inr (some (5, 0)))), some (.inl x1), none]) (S1 := [.inl 0]) (w1 := r16) (P := True) [(.iconst 0, 0, 0, 0, 0)] (by decide +kernel) rfl trivial ?_
      exact GE_weak [true, false, false] (j_X5_text_121_ok l X 0 r16)
    · refine GE_run flG_T (pc1 := 121) (L1 := [some (.inr (.inr (some (5, 0)))), some (.inl x1), none]) (S1 := [.inl 1]) (w1 := r16) (P := True) [(.iconst 1, 0, 0, 1, 0), (.goto 4, 0, 0, 0, 0)] (by decide +kernel) rfl trivial ?_
      exact GE_weak [true, false, false] (j_X5_text_121_ok l X 1 r16)
noncomputable def f_X5_text  (w : Mem) : Option (Int32 × Mem) := if (w 5 0 10) = 6 then (some ((-4), w)) else (h_X5_text_26 (fun x1_11 w12 => j_X5_text_101 x1_11 w12) FU 1 0 (up (up w 5 0 19 0) 5 0 27 0))
set_option maxRecDepth 100000 in
theorem t_X5_text (l : Launch) (X : XC)   (w : Mem) : Ct l X 4 yX5_text cX5_text 3 (some .int) emI [.inr (.inr (some (5, 0)))] 57 flT w (f_X5_text  w) := by
  refine Ct_of (mi := mm_X5_text) (mik_X5 _ _ _) me_X5_text rfl (okAs_cons (by decide) okAs_nil) (Nat.le_of_ble_eq_true rfl) ?_
  unfold f_X5_text
  refine GE_run flG_T (pc1 := 6) (L1 := [some (.inr (.inr (some (5, 0)))), none, none]) (S1 := [.inl 6, .inl (w 5 0 10)]) (w1 := w) (P := True) [(.aload_n 0, 0, 0, 0, 0), (.getfield 86, 5, 10, 0, 0), (.bipush 6, 0, 0, 6, 0)] (by decide +kernel) rfl trivial ?_
  refine GE_icmpN (k := .ne) (off := 6) (tgt := 12) (by decide +kernel) (by decide) (cnd_ne _ _) (fun c1 => ?_) (fun c1 => ?_)
  · refine GE_run flG_T (pc1 := 26) (L1 := [some (.inr (.inr (some (5, 0)))), some (.inl 1), some (.inl 0)]) (S1 := []) (w1 := up (up w 5 0 19 0) 5 0 27 0) (P := True) [(.aload_n 0, 0, 0, 0, 0), (.iconst 0, 0, 0, 0, 0), (.putfield 97, 5, 19, 0, 0), (.aload_n 0, 0, 0, 0, 0), (.iconst 0, 0, 0, 0, 0), (.putfield 113, 5, 27, 0, 0), (.iconst 1, 0, 0, 1, 0), (.istore_n 1, 0, 0, 0, 0), (.iconst 0, 0, 0, 0, 0), (.istore_n 2, 0, 0, 0, 0)] (by decide +kernel) rfl trivial ?_
    refine GE_weak [true, true, true] (h_X5_text_26_ok l X _ ?_ FU 1 0 (up (up w 5 0 19 0) 5 0 27 0))
    · intro x1_11 w12
      exact GE_weak [true, true, false] (j_X5_text_101_ok l X x1_11 w12)
  · refine GE_run flG_T (pc1 := 11) (L1 := [some (.inr (.inr (some (5, 0)))), none, none]) (S1 := [.inl (-4)]) (w1 := w) (P := True) [(.bipush (-4), 0, 0, -4, 0)] (by decide +kernel) rfl trivial ?_
    exact GE_iret rfl (by decide +kernel)
abbrev mm_X5_two : MI := (RX5, cX5_two, 3, (some .int), ftp_X5.map (fun q => q.1), ctp_X5.map (fun q => q.1), clp_X5.map (fun q => q.1))
noncomputable def f_X5_two (a1 : Int32) (a2 : Int32) (a3 : Int32) (w : Mem) : Option (Int32 × Mem) := swE a1 11 [if a2 = 0 then (if a3 = 0 then (some (0, w)) else (some (1, w))) else (some (1, w)), if a2 = 0 then (some (0, w)) else (if a3 = 0 then (some (0, w)) else (some (1, w))), some (a2 * a3, w), if a2 < a3 then (some (1, w)) else (some (0, w)), if a2 = a3 then (some (1, w)) else (some (0, w)), some (a2 + a3, w), some (a2 - a3, w)] (some (a2 * a3, w))
set_option maxRecDepth 100000 in
theorem t_X5_two (l : Launch) (X : XC)  (a1 : Int32) (a2 : Int32) (a3 : Int32) (w : Mem) : Ct l X 0 yX5_two cX5_two 3 (some .int) emI [.inl a1, .inl a2, .inl a3] 57 flT w (f_X5_two a1 a2 a3 w) := by
  refine Ct_of (mi := mm_X5_two) (mik_X5 _ _ _) me_X5_two rfl (okAs_cons rfl (okAs_cons rfl (okAs_cons rfl okAs_nil))) (Nat.le_of_ble_eq_true rfl) ?_
  unfold f_X5_two
  refine GE_run flG_T (pc1 := 1) (L1 := [some (.inl a1), some (.inl a2), some (.inl a3)]) (S1 := [.inl a1]) (w1 := w) (P := True) [(.iload_n 0, 0, 0, 0, 0)] (by decide +kernel) rfl trivial ?_
  refine GE_swm (dflt := 101) (lo := 11) (hi := 17) (offs := #[43, 57, 101, 71, 82, 93, 97]) (len := 43) (dt := 102) (mm := 7) [44, 58, 102, 72, 83, 94, 98] (by decide +kernel) rfl (by decide +kernel) (And.intro (fun _ => ?_) (And.intro (fun _ => ?_) (And.intro (fun _ => ?_) (And.intro (fun _ => ?_) (And.intro (fun _ => ?_) (And.intro (fun _ => ?_) (And.intro (fun _ => ?_) (trivial)))))))) ?_
  · refine GE_run flG_T (pc1 := 45) (L1 := [some (.inl a1), some (.inl a2), some (.inl a3)]) (S1 := [.inl a2]) (w1 := w) (P := True) [(.iload_n 1, 0, 0, 0, 0)] (by decide +kernel) rfl trivial ?_
    refine GE_ifN (k := .ne) (off := 7) (tgt := 52) (by decide +kernel) (by decide) (cnd_ne _ _) (fun c1 => ?_) (fun c1 => ?_)
    · refine GE_run flG_T (pc1 := 57) (L1 := [some (.inl a1), some (.inl a2), some (.inl a3)]) (S1 := [.inl 1]) (w1 := w) (P := True) [(.iconst 1, 0, 0, 1, 0), (.goto 4, 0, 0, 0, 0)] (by decide +kernel) rfl trivial ?_
      exact GE_iret rfl (by decide +kernel)
    · refine GE_run flG_T (pc1 := 49) (L1 := [some (.inl a1), some (.inl a2), some (.inl a3)]) (S1 := [.inl a3]) (w1 := w) (P := True) [(.iload_n 2, 0, 0, 0, 0)] (by decide +kernel) rfl trivial ?_
      refine GE_if (k := .eq) (off := 7) (tgt := 56) (by decide +kernel) (by decide) (cnd_eq _ _) (fun c2 => ?_) (fun c2 => ?_)
      · refine GE_run flG_T (pc1 := 57) (L1 := [some (.inl a1), some (.inl a2), some (.inl a3)]) (S1 := [.inl 0]) (w1 := w) (P := True) [(.iconst 0, 0, 0, 0, 0)] (by decide +kernel) rfl trivial ?_
        exact GE_iret rfl (by decide +kernel)
      · refine GE_run flG_T (pc1 := 57) (L1 := [some (.inl a1), some (.inl a2), some (.inl a3)]) (S1 := [.inl 1]) (w1 := w) (P := True) [(.iconst 1, 0, 0, 1, 0), (.goto 4, 0, 0, 0, 0)] (by decide +kernel) rfl trivial ?_
        exact GE_iret rfl (by decide +kernel)
  · refine GE_run flG_T (pc1 := 59) (L1 := [some (.inl a1), some (.inl a2), some (.inl a3)]) (S1 := [.inl a2]) (w1 := w) (P := True) [(.iload_n 1, 0, 0, 0, 0)] (by decide +kernel) rfl trivial ?_
    refine GE_if (k := .eq) (off := 11) (tgt := 70) (by decide +kernel) (by decide) (cnd_eq _ _) (fun c3 => ?_) (fun c3 => ?_)
    · refine GE_run flG_T (pc1 := 71) (L1 := [some (.inl a1), some (.inl a2), some (.inl a3)]) (S1 := [.inl 0]) (w1 := w) (P := True) [(.iconst 0, 0, 0, 0, 0)] (by decide +kernel) rfl trivial ?_
      exact GE_iret rfl (by decide +kernel)
    · refine GE_run flG_T (pc1 := 63) (L1 := [some (.inl a1), some (.inl a2), some (.inl a3)]) (S1 := [.inl a3]) (w1 := w) (P := True) [(.iload_n 2, 0, 0, 0, 0)] (by decide +kernel) rfl trivial ?_
      refine GE_if (k := .eq) (off := 7) (tgt := 70) (by decide +kernel) (by decide) (cnd_eq _ _) (fun c4 => ?_) (fun c4 => ?_)
      · refine GE_run flG_T (pc1 := 71) (L1 := [some (.inl a1), some (.inl a2), some (.inl a3)]) (S1 := [.inl 0]) (w1 := w) (P := True) [(.iconst 0, 0, 0, 0, 0)] (by decide +kernel) rfl trivial ?_
        exact GE_iret rfl (by decide +kernel)
      · refine GE_run flG_T (pc1 := 71) (L1 := [some (.inl a1), some (.inl a2), some (.inl a3)]) (S1 := [.inl 1]) (w1 := w) (P := True) [(.iconst 1, 0, 0, 1, 0), (.goto 4, 0, 0, 0, 0)] (by decide +kernel) rfl trivial ?_
        exact GE_iret rfl (by decide +kernel)
  · refine GE_run flG_T (pc1 := 105) (L1 := [some (.inl a1), some (.inl a2), some (.inl a3)]) (S1 := [.inl (a2 * a3)]) (w1 := w) (P := True) [(.iload_n 1, 0, 0, 0, 0), (.iload_n 2, 0, 0, 0, 0), (.imul, 0, 0, 0, 0)] (by decide +kernel) rfl trivial ?_
    exact GE_iret rfl (by decide +kernel)
  · refine GE_run flG_T (pc1 := 74) (L1 := [some (.inl a1), some (.inl a2), some (.inl a3)]) (S1 := [.inl a3, .inl a2]) (w1 := w) (P := True) [(.iload_n 1, 0, 0, 0, 0), (.iload_n 2, 0, 0, 0, 0)] (by decide +kernel) rfl trivial ?_
    refine GE_icmpN (k := .ge) (off := 7) (tgt := 81) (by decide +kernel) (by decide) (cnd_ge _ _) (fun c5 => ?_) (fun c5 => ?_)
    · refine GE_run flG_T (pc1 := 82) (L1 := [some (.inl a1), some (.inl a2), some (.inl a3)]) (S1 := [.inl 0]) (w1 := w) (P := True) [(.iconst 0, 0, 0, 0, 0)] (by decide +kernel) rfl trivial ?_
      exact GE_iret rfl (by decide +kernel)
    · refine GE_run flG_T (pc1 := 82) (L1 := [some (.inl a1), some (.inl a2), some (.inl a3)]) (S1 := [.inl 1]) (w1 := w) (P := True) [(.iconst 1, 0, 0, 1, 0), (.goto 4, 0, 0, 0, 0)] (by decide +kernel) rfl trivial ?_
      exact GE_iret rfl (by decide +kernel)
  · refine GE_run flG_T (pc1 := 85) (L1 := [some (.inl a1), some (.inl a2), some (.inl a3)]) (S1 := [.inl a3, .inl a2]) (w1 := w) (P := True) [(.iload_n 1, 0, 0, 0, 0), (.iload_n 2, 0, 0, 0, 0)] (by decide +kernel) rfl trivial ?_
    refine GE_icmpN (k := .ne) (off := 7) (tgt := 92) (by decide +kernel) (by decide) (cnd_ne _ _) (fun c6 => ?_) (fun c6 => ?_)
    · refine GE_run flG_T (pc1 := 93) (L1 := [some (.inl a1), some (.inl a2), some (.inl a3)]) (S1 := [.inl 0]) (w1 := w) (P := True) [(.iconst 0, 0, 0, 0, 0)] (by decide +kernel) rfl trivial ?_
      exact GE_iret rfl (by decide +kernel)
    · refine GE_run flG_T (pc1 := 93) (L1 := [some (.inl a1), some (.inl a2), some (.inl a3)]) (S1 := [.inl 1]) (w1 := w) (P := True) [(.iconst 1, 0, 0, 1, 0), (.goto 4, 0, 0, 0, 0)] (by decide +kernel) rfl trivial ?_
      exact GE_iret rfl (by decide +kernel)
  · refine GE_run flG_T (pc1 := 97) (L1 := [some (.inl a1), some (.inl a2), some (.inl a3)]) (S1 := [.inl (a2 + a3)]) (w1 := w) (P := True) [(.iload_n 1, 0, 0, 0, 0), (.iload_n 2, 0, 0, 0, 0), (.iadd, 0, 0, 0, 0)] (by decide +kernel) rfl trivial ?_
    exact GE_iret rfl (by decide +kernel)
  · refine GE_run flG_T (pc1 := 101) (L1 := [some (.inl a1), some (.inl a2), some (.inl a3)]) (S1 := [.inl (a2 - a3)]) (w1 := w) (P := True) [(.iload_n 1, 0, 0, 0, 0), (.iload_n 2, 0, 0, 0, 0), (.isub, 0, 0, 0, 0)] (by decide +kernel) rfl trivial ?_
    exact GE_iret rfl (by decide +kernel)
  · refine GE_run flG_T (pc1 := 105) (L1 := [some (.inl a1), some (.inl a2), some (.inl a3)]) (S1 := [.inl (a2 * a3)]) (w1 := w) (P := True) [(.iload_n 1, 0, 0, 0, 0), (.iload_n 2, 0, 0, 0, 0), (.imul, 0, 0, 0, 0)] (by decide +kernel) rfl trivial ?_
    exact GE_iret rfl (by decide +kernel)
abbrev mm_X5_says : MI := (RX5, cX5_says, 5, (some .int), ftp_X5.map (fun q => q.1), ctp_X5.map (fun q => q.1), clp_X5.map (fun q => q.1))
noncomputable def j_X5_says_93  (kl16 : Int32 → Int32 → Mem → Option (Int32 × Mem)) (x1 : Int32) (x2 : Int32) (x3 : Int32) (s0 : Int32) (s1 : Int32) (w : Mem) : Option (Int32 × Mem) := if inB s1 200 then (kl16 (x2 + 1) (x3 + 1) (up w 34 0 (tn s1) s0)) else none
set_option maxRecDepth 100000 in
theorem j_X5_says_93_ok (l : Launch) (X : XC)  (kl16 : Int32 → Int32 → Mem → Option (Int32 × Mem)) (x1 : Int32) (x2 : Int32) (x3 : Int32) (s0 : Int32) (s1 : Int32)  (ih : ∀ (x2 : Int32) (x3 : Int32) (w : Mem), GE l X mm_X5_says 1 emI 57 flT (kl16 x2 x3 w) 16 [some (.inr (.inr (some (5, 0)))), some (.inl x1), some (.inl x2), some (.inl x3), none] [] w) (w : Mem) : GE l X mm_X5_says 1 emI 57 flT (j_X5_says_93 kl16 x1 x2 x3 s0 s1 w) 93 [some (.inr (.inr (some (5, 0)))), some (.inl x1), some (.inl x2), some (.inl x3), none] [.inl s0, .inl s1, .inr (.inr (some (34, 0)))] w := by
  unfold j_X5_says_93
  refine GE_chk (fun h9 => ?_)
  refine GE_run flG_T (pc1 := 16) (L1 := [some (.inr (.inr (some (5, 0)))), some (.inl x1), some (.inl (x2 + 1)), some (.inl (x3 + 1)), none]) (S1 := []) (w1 := up w 34 0 (tn s1) s0) (P := (inB s1 200) ∧ True) [(.iastore, 0, 0, 0, 0), (.iinc 2 1, 0, 0, 1, 0), (.goto 94, 0, 0, 0, 0), (.iinc 3 1, 0, 0, 1, 0), (.goto (-178), 0, 0, 0, 0)] (by decide +kernel) rfl ⟨h9, trivial⟩ ?_
  exact GE_weak [true, true, true, true, false] (ih (x2 + 1) (x3 + 1) (up w 34 0 (tn s1) s0))
noncomputable def j_X5_says_66  (kl16 : Int32 → Int32 → Mem → Option (Int32 × Mem)) (x1 : Int32) (x2 : Int32) (x3 : Int32) (x4 : Int32) (w : Mem) : Option (Int32 × Mem) := if x4 < 11 then (if inB x4 6 then (j_X5_says_93 kl16 x1 x2 x3 (w 35 0 (tn x4)) x2 w) else none) else (j_X5_says_93 kl16 x1 x2 x3 (x4 - 100000) x2 w)
set_option maxRecDepth 100000 in
theorem j_X5_says_66_ok (l : Launch) (X : XC)  (kl16 : Int32 → Int32 → Mem → Option (Int32 × Mem)) (x1 : Int32) (x2 : Int32) (x3 : Int32) (x4 : Int32)  (ih : ∀ (x2 : Int32) (x3 : Int32) (w : Mem), GE l X mm_X5_says 1 emI 57 flT (kl16 x2 x3 w) 16 [some (.inr (.inr (some (5, 0)))), some (.inl x1), some (.inl x2), some (.inl x3), none] [] w) (w : Mem) : GE l X mm_X5_says 1 emI 57 flT (j_X5_says_66 kl16 x1 x2 x3 x4 w) 66 [some (.inr (.inr (some (5, 0)))), some (.inl x1), some (.inl x2), some (.inl x3), some (.inl x4)] [] w := by
  unfold j_X5_says_66
  refine GE_run flG_T (pc1 := 75) (L1 := [some (.inr (.inr (some (5, 0)))), some (.inl x1), some (.inl x2), some (.inl x3), some (.inl x4)]) (S1 := [.inl 11, .inl x4, .inl x2, .inr (.inr (some (34, 0)))]) (w1 := w) (P := True) [(.aload_n 0, 0, 0, 0, 0), (.getfield 52, 5, 28, 0, 0), (.iload_n 2, 0, 0, 0, 0), (.iload 4, 0, 0, 0, 0), (.bipush 11, 0, 0, 11, 0)] (by decide +kernel) rfl trivial ?_
  refine GE_icmpN (k := .ge) (off := 13) (tgt := 88) (by decide +kernel) (by decide) (cnd_ge _ _) (fun c7 => ?_) (fun c7 => ?_)
  · refine GE_run flG_T (pc1 := 93) (L1 := [some (.inr (.inr (some (5, 0)))), some (.inl x1), some (.inl x2), some (.inl x3), some (.inl x4)]) (S1 := [.inl (x4 - 100000), .inl x2, .inr (.inr (some (34, 0)))]) (w1 := w) (P := True) [(.iload 4, 0, 0, 0, 0), (.ldc 138, 0, 0, 100000, 0), (.isub, 0, 0, 0, 0)] (by decide +kernel) rfl trivial ?_
    exact GE_weak [true, true, true, true, false] (j_X5_says_93_ok l X kl16 x1 x2 x3 (x4 - 100000) x2 ih w)
  · refine GE_chk (fun h8 => ?_)
    refine GE_run flG_T (pc1 := 93) (L1 := [some (.inr (.inr (some (5, 0)))), some (.inl x1), some (.inl x2), some (.inl x3), some (.inl x4)]) (S1 := [.inl (w 35 0 (tn x4)), .inl x2, .inr (.inr (some (34, 0)))]) (w1 := w) (P := (inB x4 6) ∧ True) [(.aload_n 0, 0, 0, 0, 0), (.getfield 55, 5, 29, 0, 0), (.iload 4, 0, 0, 0, 0), (.iaload, 0, 0, 0, 0), (.goto 8, 0, 0, 0, 0)] (by decide +kernel) rfl ⟨h8, trivial⟩ ?_
    exact GE_weak [true, true, true, true, false] (j_X5_says_93_ok l X kl16 x1 x2 x3 (w 35 0 (tn x4)) x2 ih w)
noncomputable def h_X5_says_16 (x1 : Int32) (k197 : Mem → Option (Int32 × Mem)) : Nat → Int32 → Int32 → Mem → Option (Int32 × Mem)
  | 0, _, _, _ => none
  | n + 1, x2, x3, w => if inB (((4 * (w 5 0 11)) + x1) + 1) 24 then (if x3 < (w 25 0 (tn (((4 * (w 5 0 11)) + x1) + 1))) then (if inB ((200 * (w 5 0 11)) + x3) 1200 then (if (w 24 0 (tn ((200 * (w 5 0 11)) + x3))) < 100000 then (if (w 24 0 (tn ((200 * (w 5 0 11)) + x3))) < 11 then (j_X5_says_66 (h_X5_says_16 x1 k197 n) x1 x2 x3 (w 24 0 (tn ((200 * (w 5 0 11)) + x3))) w) else (if (w 24 0 (tn ((200 * (w 5 0 11)) + x3))) = 13 then (if inB (x2 - 1) 200 then (if (w 34 0 (tn (x2 - 1))) = 0 then (if inB (x2 - 1) 200 then ((h_X5_says_16 x1 k197 n) x2 (x3 + 1) (up w 34 0 (tn (x2 - 1)) 1)) else none) else (if inB (x2 - 1) 200 then ((h_X5_says_16 x1 k197 n) x2 (x3 + 1) (up w 34 0 (tn (x2 - 1)) 0)) else none)) else none) else (if (w 24 0 (tn ((200 * (w 5 0 11)) + x3))) = 19 then (if inB (x2 - 1) 200 then (if inB (x2 - 1) 200 then ((h_X5_says_16 x1 k197 n) x2 (x3 + 1) (up w 34 0 (tn (x2 - 1)) (-(w 34 0 (tn (x2 - 1)))))) else none) else none) else (if inB ((x2 + (-1)) - 1) 200 then (if inB (x2 + (-1)) 200 then (Option.bind (f_X5_two (w 24 0 (tn ((200 * (w 5 0 11)) + x3))) (w 34 0 (tn ((x2 + (-1)) - 1))) (w 34 0 (tn (x2 + (-1)))) w) (fun r20 => if inB ((x2 + (-1)) - 1) 200 then ((h_X5_says_16 x1 k197 n) (x2 + (-1)) (x3 + 1) (up r20.2 34 0 (tn ((x2 + (-1)) - 1)) r20.1)) else none)) else none) else none)))) else (j_X5_says_66 (h_X5_says_16 x1 k197 n) x1 x2 x3 (w 24 0 (tn ((200 * (w 5 0 11)) + x3))) w)) else none) else (k197 w)) else none
set_option maxRecDepth 100000 in
theorem h_X5_says_16_ok (l : Launch) (X : XC) (x1 : Int32) (k197 : Mem → Option (Int32 × Mem))  (hk197 : ∀  (w : Mem), GE l X mm_X5_says 1 emI 57 flT (k197 w) 197 [some (.inr (.inr (some (5, 0)))), none, none, none, none] [] w) : ∀ (n : Nat) (x2 : Int32) (x3 : Int32) (w : Mem), GE l X mm_X5_says 1 emI 57 flT ((h_X5_says_16 x1 k197 n) x2 x3 w) 16 [some (.inr (.inr (some (5, 0)))), some (.inl x1), some (.inl x2), some (.inl x3), none] [] w := by
  intro n
  induction n with
  | zero => intro x2 x3 w; exact GE_none
  | succ n ih =>
    intro x2 x3 w
    unfold h_X5_says_16
    refine GE_chk (fun h2 => ?_)
    refine GE_run flG_T (pc1 := 32) (L1 := [some (.inr (.inr (some (5, 0)))), some (.inl x1), some (.inl x2), some (.inl x3), none]) (S1 := [.inl (w 25 0 (tn (((4 * (w 5 0 11)) + x1) + 1))), .inl x3]) (w1 := w) (P := (inB (((4 * (w 5 0 11)) + x1) + 1) 24) ∧ True) [(.iload_n 3, 0, 0, 0, 0), (.aload_n 0, 0, 0, 0, 0), (.getfield 25, 5, 9, 0, 0), (.iconst 4, 0, 0, 4, 0), (.aload_n 0, 0, 0, 0, 0), (.getfield 89, 5, 11, 0, 0), (.imul, 0, 0, 0, 0), (.iload_n 1, 0, 0, 0, 0), (.iadd, 0, 0, 0, 0), (.iconst 1, 0, 0, 1, 0), (.iadd, 0, 0, 0, 0), (.iaload, 0, 0, 0, 0)] (by decide +kernel) rfl ⟨h2, trivial⟩ ?_
    refine GE_icmpN (k := .ge) (off := 165) (tgt := 197) (by decide +kernel) (by decide) (cnd_ge _ _) (fun c3 => ?_) (fun c3 => ?_)
    · exact GE_weak [true, false, false, false, false] (hk197 w)
    · refine GE_chk (fun h4 => ?_)
      refine GE_run flG_T (pc1 := 56) (L1 := [some (.inr (.inr (some (5, 0)))), some (.inl x1), some (.inl x2), some (.inl x3), some (.inl (w 24 0 (tn ((200 * (w 5 0 11)) + x3))))]) (S1 := [.inl 100000, .inl (w 24 0 (tn ((200 * (w 5 0 11)) + x3)))]) (w1 := w) (P := (inB ((200 * (w 5 0 11)) + x3) 1200) ∧ True) [(.aload_n 0, 0, 0, 0, 0), (.getfield 22, 5, 8, 0, 0), (.sipush 200, 0, 0, 200, 0), (.aload_n 0, 0, 0, 0, 0), (.getfield 89, 5, 11, 0, 0), (.imul, 0, 0, 0, 0), (.iload_n 3, 0, 0, 0, 0), (.iadd, 0, 0, 0, 0), (.iaload, 0, 0, 0, 0), (.istore 4, 0, 0, 0, 0), (.iload 4, 0, 0, 0, 0), (.ldc 138, 0, 0, 100000, 0)] (by decide +kernel) rfl ⟨h4, trivial⟩ ?_
      refine GE_icmpN (k := .ge) (off := 10) (tgt := 66) (by decide +kernel) (by decide) (cnd_ge _ _) (fun c5 => ?_) (fun c5 => ?_)
      · exact GE_weak [true, true, true, true, true] (j_X5_says_66_ok l X (h_X5_says_16 x1 k197 n) x1 x2 x3 (w 24 0 (tn ((200 * (w 5 0 11)) + x3))) ih w)
      · refine GE_run flG_T (pc1 := 63) (L1 := [some (.inr (.inr (some (5, 0)))), some (.inl x1), some (.inl x2), some (.inl x3), some (.inl (w 24 0 (tn ((200 * (w 5 0 11)) + x3))))]) (S1 := [.inl 11, .inl (w 24 0 (tn ((200 * (w 5 0 11)) + x3)))]) (w1 := w) (P := True) [(.iload 4, 0, 0, 0, 0), (.bipush 11, 0, 0, 11, 0)] (by decide +kernel) rfl trivial ?_
        refine GE_icmpN (k := .ge) (off := 37) (tgt := 100) (by decide +kernel) (by decide) (cnd_ge _ _) (fun c6 => ?_) (fun c6 => ?_)
        · refine GE_run flG_T (pc1 := 104) (L1 := [some (.inr (.inr (some (5, 0)))), some (.inl x1), some (.inl x2), some (.inl x3), some (.inl (w 24 0 (tn ((200 * (w 5 0 11)) + x3))))]) (S1 := [.inl 13, .inl (w 24 0 (tn ((200 * (w 5 0 11)) + x3)))]) (w1 := w) (P := True) [(.iload 4, 0, 0, 0, 0), (.bipush 13, 0, 0, 13, 0)] (by decide +kernel) rfl trivial ?_
          refine GE_icmpN (k := .ne) (off := 30) (tgt := 134) (by decide +kernel) (by decide) (cnd_ne _ _) (fun c10 => ?_) (fun c10 => ?_)
          · refine GE_run flG_T (pc1 := 138) (L1 := [some (.inr (.inr (some (5, 0)))), some (.inl x1), some (.inl x2), some (.inl x3), some (.inl (w 24 0 (tn ((200 * (w 5 0 11)) + x3))))]) (S1 := [.inl 19, .inl (w 24 0 (tn ((200 * (w 5 0 11)) + x3)))]) (w1 := w) (P := True) [(.iload 4, 0, 0, 0, 0), (.bipush 19, 0, 0, 19, 0)] (by decide +kernel) rfl trivial ?_
            refine GE_icmpN (k := .ne) (off := 23) (tgt := 161) (by decide +kernel) (by decide) (cnd_ne _ _) (fun c15 => ?_) (fun c15 => ?_)
            · refine GE_chk (fun h18 => ?_)
              refine GE_chk (fun h19 => ?_)
              refine GE_run flG_T (pc1 := 187) (L1 := [some (.inr (.inr (some (5, 0)))), some (.inl x1), some (.inl (x2 + (-1))), some (.inl x3), some (.inl (w 24 0 (tn ((200 * (w 5 0 11)) + x3))))]) (S1 := [.inl (w 34 0 (tn (x2 + (-1)))), .inl (w 34 0 (tn ((x2 + (-1)) - 1))), .inl (w 24 0 (tn ((200 * (w 5 0 11)) + x3))), .inl ((x2 + (-1)) - 1), .inr (.inr (some (34, 0)))]) (w1 := w) (P := (inB ((x2 + (-1)) - 1) 200) ∧ (inB (x2 + (-1)) 200) ∧ True) [(.iinc 2 (-1), 0, 0, -1, 0), (.aload_n 0, 0, 0, 0, 0), (.getfield 52, 5, 28, 0, 0), (.iload_n 2, 0, 0, 0, 0), (.iconst 1, 0, 0, 1, 0), (.isub, 0, 0, 0, 0), (.iload 4, 0, 0, 0, 0), (.aload_n 0, 0, 0, 0, 0), (.getfield 52, 5, 28, 0, 0), (.iload_n 2, 0, 0, 0, 0), (.iconst 1, 0, 0, 1, 0), (.isub, 0, 0, 0, 0), (.iaload, 0, 0, 0, 0), (.aload_n 0, 0, 0, 0, 0), (.getfield 52, 5, 28, 0, 0), (.iload_n 2, 0, 0, 0, 0), (.iaload, 0, 0, 0, 0)] (by decide +kernel) rfl ⟨h18, h19, trivial⟩ ?_
              refine GE_callSI (As := [.inl (w 24 0 (tn ((200 * (w 5 0 11)) + x3))), .inl (w 34 0 (tn ((x2 + (-1)) - 1))), .inl (w 34 0 (tn (x2 + (-1))))]) (S := [.inl ((x2 + (-1)) - 1), .inr (.inr (some (34, 0)))]) (t_X5_two l X (w 24 0 (tn ((200 * (w 5 0 11)) + x3))) (w 34 0 (tn ((x2 + (-1)) - 1))) (w 34 0 (tn (x2 + (-1)))) w) ⟨me_X5_two, ms_X5_two, lk_X5_152⟩ (by decide +kernel) rfl (by decide) (by decide) (Nat.le_of_ble_eq_true rfl) (fun r20 _ => ?_)
              refine GE_chk (fun h21 => ?_)
              refine GE_run flG_T (pc1 := 16) (L1 := [some (.inr (.inr (some (5, 0)))), some (.inl x1), some (.inl (x2 + (-1))), some (.inl (x3 + 1)), some (.inl (w 24 0 (tn ((200 * (w 5 0 11)) + x3))))]) (S1 := []) (w1 := up r20.2 34 0 (tn ((x2 + (-1)) - 1)) r20.1) (P := (inB ((x2 + (-1)) - 1) 200) ∧ True) [(.iastore, 0, 0, 0, 0), (.iinc 3 1, 0, 0, 1, 0), (.goto (-178), 0, 0, 0, 0)] (by decide +kernel) rfl ⟨h21, trivial⟩ ?_
              exact GE_weak [true, true, true, true, false] (ih (x2 + (-1)) (x3 + 1) (up r20.2 34 0 (tn ((x2 + (-1)) - 1)) r20.1))
            · refine GE_chk (fun h16 => ?_)
              refine GE_chk (fun h17 => ?_)
              refine GE_run flG_T (pc1 := 16) (L1 := [some (.inr (.inr (some (5, 0)))), some (.inl x1), some (.inl x2), some (.inl (x3 + 1)), some (.inl (w 24 0 (tn ((200 * (w 5 0 11)) + x3))))]) (S1 := []) (w1 := up w 34 0 (tn (x2 - 1)) (-(w 34 0 (tn (x2 - 1))))) (P := (inB (x2 - 1) 200) ∧ (inB (x2 - 1) 200) ∧ True) [(.aload_n 0, 0, 0, 0, 0), (.getfield 52, 5, 28, 0, 0), (.iload_n 2, 0, 0, 0, 0), (.iconst 1, 0, 0, 1, 0), (.isub, 0, 0, 0, 0), (.aload_n 0, 0, 0, 0, 0), (.getfield 52, 5, 28, 0, 0), (.iload_n 2, 0, 0, 0, 0), (.iconst 1, 0, 0, 1, 0), (.isub, 0, 0, 0, 0), (.iaload, 0, 0, 0, 0), (.ineg, 0, 0, 0, 0), (.iastore, 0, 0, 0, 0), (.goto 33, 0, 0, 0, 0), (.iinc 3 1, 0, 0, 1, 0), (.goto (-178), 0, 0, 0, 0)] (by decide +kernel) rfl ⟨h16, h17, trivial⟩ ?_
              exact GE_weak [true, true, true, true, false] (ih x2 (x3 + 1) (up w 34 0 (tn (x2 - 1)) (-(w 34 0 (tn (x2 - 1))))))
          · refine GE_chk (fun h11 => ?_)
            refine GE_run flG_T (pc1 := 122) (L1 := [some (.inr (.inr (some (5, 0)))), some (.inl x1), some (.inl x2), some (.inl x3), some (.inl (w 24 0 (tn ((200 * (w 5 0 11)) + x3))))]) (S1 := [.inl (w 34 0 (tn (x2 - 1))), .inl (x2 - 1), .inr (.inr (some (34, 0)))]) (w1 := w) (P := (inB (x2 - 1) 200) ∧ True) [(.aload_n 0, 0, 0, 0, 0), (.getfield 52, 5, 28, 0, 0), (.iload_n 2, 0, 0, 0, 0), (.iconst 1, 0, 0, 1, 0), (.isub, 0, 0, 0, 0), (.aload_n 0, 0, 0, 0, 0), (.getfield 52, 5, 28, 0, 0), (.iload_n 2, 0, 0, 0, 0), (.iconst 1, 0, 0, 1, 0), (.isub, 0, 0, 0, 0), (.iaload, 0, 0, 0, 0)] (by decide +kernel) rfl ⟨h11, trivial⟩ ?_
            refine GE_ifN (k := .ne) (off := 7) (tgt := 129) (by decide +kernel) (by decide) (cnd_ne _ _) (fun c12 => ?_) (fun c12 => ?_)
            · refine GE_chk (fun h14 => ?_)
              refine GE_run flG_T (pc1 := 16) (L1 := [some (.inr (.inr (some (5, 0)))), some (.inl x1), some (.inl x2), some (.inl (x3 + 1)), some (.inl (w 24 0 (tn ((200 * (w 5 0 11)) + x3))))]) (S1 := []) (w1 := up w 34 0 (tn (x2 - 1)) 0) (P := (inB (x2 - 1) 200) ∧ True) [(.iconst 0, 0, 0, 0, 0), (.iastore, 0, 0, 0, 0), (.goto 60, 0, 0, 0, 0), (.iinc 3 1, 0, 0, 1, 0), (.goto (-178), 0, 0, 0, 0)] (by decide +kernel) rfl ⟨h14, trivial⟩ ?_
              exact GE_weak [true, true, true, true, false] (ih x2 (x3 + 1) (up w 34 0 (tn (x2 - 1)) 0))
            · refine GE_chk (fun h13 => ?_)
              refine GE_run flG_T (pc1 := 16) (L1 := [some (.inr (.inr (some (5, 0)))), some (.inl x1), some (.inl x2), some (.inl (x3 + 1)), some (.inl (w 24 0 (tn ((200 * (w 5 0 11)) + x3))))]) (S1 := []) (w1 := up w 34 0 (tn (x2 - 1)) 1) (P := (inB (x2 - 1) 200) ∧ True) [(.iconst 1, 0, 0, 1, 0), (.goto 4, 0, 0, 0, 0), (.iastore, 0, 0, 0, 0), (.goto 60, 0, 0, 0, 0), (.iinc 3 1, 0, 0, 1, 0), (.goto (-178), 0, 0, 0, 0)] (by decide +kernel) rfl ⟨h13, trivial⟩ ?_
              exact GE_weak [true, true, true, true, false] (ih x2 (x3 + 1) (up w 34 0 (tn (x2 - 1)) 1))
        · exact GE_weak [true, true, true, true, true] (j_X5_says_66_ok l X (h_X5_says_16 x1 k197 n) x1 x2 x3 (w 24 0 (tn ((200 * (w 5 0 11)) + x3))) ih w)
noncomputable def f_X5_says (a1 : Int32) (w : Mem) : Option (Int32 × Mem) := if inB ((4 * (w 5 0 11)) + a1) 24 then (h_X5_says_16 a1 (fun w22 => if inB 0 200 then (some (w22 34 0 (tn 0), w22)) else none) FU 0 (w 25 0 (tn ((4 * (w 5 0 11)) + a1))) w) else none
set_option maxRecDepth 100000 in
theorem t_X5_says (l : Launch) (X : XC)  (a1 : Int32) (w : Mem) : Ct l X 1 yX5_says cX5_says 5 (some .int) emI [.inr (.inr (some (5, 0))), .inl a1] 57 flT w (f_X5_says a1 w) := by
  refine Ct_of (mi := mm_X5_says) (mik_X5 _ _ _) me_X5_says rfl (okAs_cons (by decide) (okAs_cons rfl okAs_nil)) (Nat.le_of_ble_eq_true rfl) ?_
  unfold f_X5_says
  refine GE_chk (fun h1 => ?_)
  refine GE_run flG_T (pc1 := 16) (L1 := [some (.inr (.inr (some (5, 0)))), some (.inl a1), some (.inl 0), some (.inl (w 25 0 (tn ((4 * (w 5 0 11)) + a1)))), none]) (S1 := []) (w1 := w) (P := (inB ((4 * (w 5 0 11)) + a1) 24) ∧ True) [(.iconst 0, 0, 0, 0, 0), (.istore_n 2, 0, 0, 0, 0), (.aload_n 0, 0, 0, 0, 0), (.getfield 25, 5, 9, 0, 0), (.iconst 4, 0, 0, 4, 0), (.aload_n 0, 0, 0, 0, 0), (.getfield 89, 5, 11, 0, 0), (.imul, 0, 0, 0, 0), (.iload_n 1, 0, 0, 0, 0), (.iadd, 0, 0, 0, 0), (.iaload, 0, 0, 0, 0), (.istore_n 3, 0, 0, 0, 0)] (by decide +kernel) rfl ⟨h1, trivial⟩ ?_
  refine GE_weak [true, true, true, true, false] (h_X5_says_16_ok l X a1 _ ?_ FU 0 (w 25 0 (tn ((4 * (w 5 0 11)) + a1))) w)
  · intro w22
    refine GE_chk (fun h23 => ?_)
    refine GE_run flG_T (pc1 := 203) (L1 := [some (.inr (.inr (some (5, 0)))), none, none, none, none]) (S1 := [.inl (w22 34 0 (tn 0))]) (w1 := w22) (P := (inB 0 200) ∧ True) [(.aload_n 0, 0, 0, 0, 0), (.getfield 52, 5, 28, 0, 0), (.iconst 0, 0, 0, 0, 0), (.iaload, 0, 0, 0, 0)] (by decide +kernel) rfl ⟨h23, trivial⟩ ?_
    exact GE_iret rfl (by decide +kernel)
abbrev mm_X5_force : MI := (RX5, cX5_force, 3, (some .int), ftp_X5.map (fun q => q.1), ctp_X5.map (fun q => q.1), clp_X5.map (fun q => q.1))
noncomputable def f_X5_force (a1 : Int32) (w : Mem) : Option (Int32 × Mem) := if (rng a1 0 ((w 5 0 10) - 1)) = 0 then (some ((-2), w)) else (some (w 5 0 11, up w 5 0 11 a1))
set_option maxRecDepth 100000 in
theorem t_X5_force (l : Launch) (X : XC)  (a1 : Int32) (w : Mem) : Ct l X 1 yX5_force cX5_force 3 (some .int) emI [.inr (.inr (some (5, 0))), .inl a1] 57 flT w (f_X5_force a1 w) := by
  refine Ct_of (mi := mm_X5_force) (mik_X5 _ _ _) me_X5_force rfl (okAs_cons (by decide) (okAs_cons rfl okAs_nil)) (Nat.le_of_ble_eq_true rfl) ?_
  unfold f_X5_force
  refine GE_run flG_T (pc1 := 8) (L1 := [some (.inr (.inr (some (5, 0)))), some (.inl a1), none]) (S1 := [.inl ((w 5 0 10) - 1), .inl 0, .inl a1]) (w1 := w) (P := True) [(.iload_n 1, 0, 0, 0, 0), (.iconst 0, 0, 0, 0, 0), (.aload_n 0, 0, 0, 0, 0), (.getfield 86, 5, 10, 0, 0), (.iconst 1, 0, 0, 1, 0), (.isub, 0, 0, 0, 0)] (by decide +kernel) rfl trivial ?_
  refine GE_callSIp (As := [.inl a1, .inl 0, .inl ((w 5 0 10) - 1)]) (S := []) (p_X5_in l X a1 0 ((w 5 0 10) - 1) w) ⟨me_X5_in, ms_X5_in, lk_X5_72⟩ (by decide +kernel) rfl (by decide) (by decide) (Nat.le_of_ble_eq_true rfl) ?_
  refine GE_ifN (k := .ne) (off := 6) (tgt := 17) (by decide +kernel) (by decide) (cnd_ne _ _) (fun c1 => ?_) (fun c1 => ?_)
  · refine GE_run flG_T (pc1 := 28) (L1 := [some (.inr (.inr (some (5, 0)))), some (.inl a1), some (.inl (w 5 0 11))]) (S1 := [.inl (w 5 0 11)]) (w1 := up w 5 0 11 a1) (P := True) [(.aload_n 0, 0, 0, 0, 0), (.getfield 89, 5, 11, 0, 0), (.istore_n 2, 0, 0, 0, 0), (.aload_n 0, 0, 0, 0, 0), (.iload_n 1, 0, 0, 0, 0), (.putfield 89, 5, 11, 0, 0), (.iload_n 2, 0, 0, 0, 0)] (by decide +kernel) rfl trivial ?_
    exact GE_iret rfl (by decide +kernel)
  · refine GE_run flG_T (pc1 := 16) (L1 := [some (.inr (.inr (some (5, 0)))), some (.inl a1), none]) (S1 := [.inl (-2)]) (w1 := w) (P := True) [(.bipush (-2), 0, 0, -2, 0)] (by decide +kernel) rfl trivial ?_
    exact GE_iret rfl (by decide +kernel)
abbrev mm_X5_asksOf : MI := (RX5, cX5_asksOf, 4, (some .int), ftp_X5.map (fun q => q.1), ctp_X5.map (fun q => q.1), clp_X5.map (fun q => q.1))
noncomputable def j_X5_asksOf_106   (x1 : Int32) (s0 : Int32) (s1 : Int32) (w : Mem) : Option (Int32 × Mem) := if x1 = 2 then (some (wiF s1 s0 16, w)) else (some (wiF s1 s0 99, w))
set_option maxRecDepth 100000 in
theorem j_X5_asksOf_106_ok (l : Launch) (X : XC)   (x1 : Int32) (s0 : Int32) (s1 : Int32)   (w : Mem) : GE l X mm_X5_asksOf 2 emI 57 flT (j_X5_asksOf_106 x1 s0 s1 w) 106 [none, some (.inl x1), none, none] [.inl s0, .inl s1] w := by
  unfold j_X5_asksOf_106
  refine GE_run flG_T (pc1 := 108) (L1 := [none, some (.inl x1), none, none]) (S1 := [.inl 2, .inl x1, .inl s0, .inl s1]) (w1 := w) (P := True) [(.iload_n 1, 0, 0, 0, 0), (.iconst 2, 0, 0, 2, 0)] (by decide +kernel) rfl trivial ?_
  refine GE_icmpN (k := .ne) (off := 8) (tgt := 116) (by decide +kernel) (by decide) (cnd_ne _ _) (fun c14 => ?_) (fun c14 => ?_)
  · refine GE_run flG_T (pc1 := 118) (L1 := [none, some (.inl x1), none, none]) (S1 := [.inl 99, .inl s0, .inl s1]) (w1 := w) (P := True) [(.bipush 99, 0, 0, 99, 0)] (by decide +kernel) rfl trivial ?_
    refine GE_callSIp (As := [.inl s1, .inl s0, .inl 99]) (S := []) (p_X5_within l X s1 s0 99 w) ⟨me_X5_within, ms_X5_within, lk_X5_159⟩ (by decide +kernel) rfl (by decide) (by decide) (Nat.le_of_ble_eq_true rfl) ?_
    exact GE_iret rfl (by decide +kernel)
  · refine GE_run flG_T (pc1 := 118) (L1 := [none, some (.inl x1), none, none]) (S1 := [.inl 16, .inl s0, .inl s1]) (w1 := w) (P := True) [(.bipush 16, 0, 0, 16, 0), (.goto 5, 0, 0, 0, 0)] (by decide +kernel) rfl trivial ?_
    refine GE_callSIp (As := [.inl s1, .inl s0, .inl 16]) (S := []) (p_X5_within l X s1 s0 16 w) ⟨me_X5_within, ms_X5_within, lk_X5_159⟩ (by decide +kernel) rfl (by decide) (by decide) (Nat.le_of_ble_eq_true rfl) ?_
    exact GE_iret rfl (by decide +kernel)
noncomputable def j_X5_asksOf_15   (x1 : Int32) (x2 : Int32) (s0 : Int32) (s1 : Int32) (w : Mem) : Option (Int32 × Mem) := if inB s1 6 then (if inB (3 * x2) 18 then (if inB 1 6 then (if inB ((3 * x2) + 1) 18 then (if inB 2 6 then (if inB 3 6 then (if inB ((3 * x2) + 2) 18 then (if inB 4 6 then (if inB x2 6 then (if inB 5 6 then (Option.bind (f_X5_says x1 (up (up (up (up (up (up w 35 0 (tn s1) s0) 35 0 (tn 1) (bitsF ((up w 35 0 (tn s1) s0) 22 0 (tn (3 * x2))))) 35 0 (tn 2) (bitsF ((up (up w 35 0 (tn s1) s0) 35 0 (tn 1) (bitsF ((up w 35 0 (tn s1) s0) 22 0 (tn (3 * x2))))) 22 0 (tn ((3 * x2) + 1))))) 35 0 (tn 3) ((up (up (up w 35 0 (tn s1) s0) 35 0 (tn 1) (bitsF ((up w 35 0 (tn s1) s0) 22 0 (tn (3 * x2))))) 35 0 (tn 2) (bitsF ((up (up w 35 0 (tn s1) s0) 35 0 (tn 1) (bitsF ((up w 35 0 (tn s1) s0) 22 0 (tn (3 * x2))))) 22 0 (tn ((3 * x2) + 1))))) 5 0 5)) 35 0 (tn 4) ((up (up (up (up w 35 0 (tn s1) s0) 35 0 (tn 1) (bitsF ((up w 35 0 (tn s1) s0) 22 0 (tn (3 * x2))))) 35 0 (tn 2) (bitsF ((up (up w 35 0 (tn s1) s0) 35 0 (tn 1) (bitsF ((up w 35 0 (tn s1) s0) 22 0 (tn (3 * x2))))) 22 0 (tn ((3 * x2) + 1))))) 35 0 (tn 3) ((up (up (up w 35 0 (tn s1) s0) 35 0 (tn 1) (bitsF ((up w 35 0 (tn s1) s0) 22 0 (tn (3 * x2))))) 35 0 (tn 2) (bitsF ((up (up w 35 0 (tn s1) s0) 35 0 (tn 1) (bitsF ((up w 35 0 (tn s1) s0) 22 0 (tn (3 * x2))))) 22 0 (tn ((3 * x2) + 1))))) 5 0 5)) 22 0 (tn ((3 * x2) + 2)))) 35 0 (tn 5) ((up (up (up (up (up w 35 0 (tn s1) s0) 35 0 (tn 1) (bitsF ((up w 35 0 (tn s1) s0) 22 0 (tn (3 * x2))))) 35 0 (tn 2) (bitsF ((up (up w 35 0 (tn s1) s0) 35 0 (tn 1) (bitsF ((up w 35 0 (tn s1) s0) 22 0 (tn (3 * x2))))) 22 0 (tn ((3 * x2) + 1))))) 35 0 (tn 3) ((up (up (up w 35 0 (tn s1) s0) 35 0 (tn 1) (bitsF ((up w 35 0 (tn s1) s0) 22 0 (tn (3 * x2))))) 35 0 (tn 2) (bitsF ((up (up w 35 0 (tn s1) s0) 35 0 (tn 1) (bitsF ((up w 35 0 (tn s1) s0) 22 0 (tn (3 * x2))))) 22 0 (tn ((3 * x2) + 1))))) 5 0 5)) 35 0 (tn 4) ((up (up (up (up w 35 0 (tn s1) s0) 35 0 (tn 1) (bitsF ((up w 35 0 (tn s1) s0) 22 0 (tn (3 * x2))))) 35 0 (tn 2) (bitsF ((up (up w 35 0 (tn s1) s0) 35 0 (tn 1) (bitsF ((up w 35 0 (tn s1) s0) 22 0 (tn (3 * x2))))) 22 0 (tn ((3 * x2) + 1))))) 35 0 (tn 3) ((up (up (up w 35 0 (tn s1) s0) 35 0 (tn 1) (bitsF ((up w 35 0 (tn s1) s0) 22 0 (tn (3 * x2))))) 35 0 (tn 2) (bitsF ((up (up w 35 0 (tn s1) s0) 35 0 (tn 1) (bitsF ((up w 35 0 (tn s1) s0) 22 0 (tn (3 * x2))))) 22 0 (tn ((3 * x2) + 1))))) 5 0 5)) 22 0 (tn ((3 * x2) + 2)))) 21 0 (tn x2)))) (fun r12 => if x1 = 2 then (j_X5_asksOf_106 x1 0 r12.1 r12.2) else (j_X5_asksOf_106 x1 (-99) r12.1 r12.2))) else none) else none) else none) else none) else none) else none) else none) else none) else none) else none
set_option maxRecDepth 100000 in
theorem j_X5_asksOf_15_ok (l : Launch) (X : XC)   (x1 : Int32) (x2 : Int32) (s0 : Int32) (s1 : Int32)   (w : Mem) : GE l X mm_X5_asksOf 2 emI 57 flT (j_X5_asksOf_15 x1 x2 s0 s1 w) 15 [some (.inr (.inr (some (5, 0)))), some (.inl x1), some (.inl x2), none] [.inl s0, .inl s1, .inr (.inr (some (35, 0)))] w := by
  unfold j_X5_asksOf_15
  refine GE_chk (fun h2 => ?_)
  refine GE_chk (fun h3 => ?_)
  refine GE_run flG_T (pc1 := 29) (L1 := [some (.inr (.inr (some (5, 0)))), some (.inl x1), some (.inl x2), none]) (S1 := [.inl ((up w 35 0 (tn s1) s0) 22 0 (tn (3 * x2))), .inl 1, .inr (.inr (some (35, 0)))]) (w1 := up w 35 0 (tn s1) s0) (P := (inB s1 6) ∧ (inB (3 * x2) 18) ∧ True) [(.iastore, 0, 0, 0, 0), (.aload_n 0, 0, 0, 0, 0), (.getfield 55, 5, 29, 0, 0), (.iconst 1, 0, 0, 1, 0), (.aload_n 0, 0, 0, 0, 0), (.getfield 16, 5, 3, 0, 0), (.iconst 3, 0, 0, 3, 0), (.iload_n 2, 0, 0, 0, 0), (.imul, 0, 0, 0, 0), (.iaload, 0, 0, 0, 0)] (by decide +kernel) rfl ⟨h2, h3, trivial⟩ ?_
  refine GE_callSIp (As := [.inl ((up w 35 0 (tn s1) s0) 22 0 (tn (3 * x2)))]) (S := [.inl 1, .inr (.inr (some (35, 0)))]) (p_X5_bitsOf l X ((up w 35 0 (tn s1) s0) 22 0 (tn (3 * x2))) (up w 35 0 (tn s1) s0)) ⟨me_X5_bitsOf, ms_X5_bitsOf, lk_X5_79⟩ (by decide +kernel) rfl (by decide) (by decide) (Nat.le_of_ble_eq_true rfl) ?_
  refine GE_chk (fun h4 => ?_)
  refine GE_chk (fun h5 => ?_)
  refine GE_run flG_T (pc1 := 48) (L1 := [some (.inr (.inr (some (5, 0)))), some (.inl x1), some (.inl x2), none]) (S1 := [.inl ((up (up w 35 0 (tn s1) s0) 35 0 (tn 1) (bitsF ((up w 35 0 (tn s1) s0) 22 0 (tn (3 * x2))))) 22 0 (tn ((3 * x2) + 1))), .inl 2, .inr (.inr (some (35, 0)))]) (w1 := up (up w 35 0 (tn s1) s0) 35 0 (tn 1) (bitsF ((up w 35 0 (tn s1) s0) 22 0 (tn (3 * x2))))) (P := (inB 1 6) ∧ (inB ((3 * x2) + 1) 18) ∧ True) [(.iastore, 0, 0, 0, 0), (.aload_n 0, 0, 0, 0, 0), (.getfield 55, 5, 29, 0, 0), (.iconst 2, 0, 0, 2, 0), (.aload_n 0, 0, 0, 0, 0), (.getfield 16, 5, 3, 0, 0), (.iconst 3, 0, 0, 3, 0), (.iload_n 2, 0, 0, 0, 0), (.imul, 0, 0, 0, 0), (.iconst 1, 0, 0, 1, 0), (.iadd, 0, 0, 0, 0), (.iaload, 0, 0, 0, 0)] (by decide +kernel) rfl ⟨h4, h5, trivial⟩ ?_
  refine GE_callSIp (As := [.inl ((up (up w 35 0 (tn s1) s0) 35 0 (tn 1) (bitsF ((up w 35 0 (tn s1) s0) 22 0 (tn (3 * x2))))) 22 0 (tn ((3 * x2) + 1)))]) (S := [.inl 2, .inr (.inr (some (35, 0)))]) (p_X5_bitsOf l X ((up (up w 35 0 (tn s1) s0) 35 0 (tn 1) (bitsF ((up w 35 0 (tn s1) s0) 22 0 (tn (3 * x2))))) 22 0 (tn ((3 * x2) + 1))) (up (up w 35 0 (tn s1) s0) 35 0 (tn 1) (bitsF ((up w 35 0 (tn s1) s0) 22 0 (tn (3 * x2)))))) ⟨me_X5_bitsOf, ms_X5_bitsOf, lk_X5_79⟩ (by decide +kernel) rfl (by decide) (by decide) (Nat.le_of_ble_eq_true rfl) ?_
  refine GE_chk (fun h6 => ?_)
  refine GE_chk (fun h7 => ?_)
  refine GE_chk (fun h8 => ?_)
  refine GE_chk (fun h9 => ?_)
  refine GE_chk (fun h10 => ?_)
  refine GE_chk (fun h11 => ?_)
  refine GE_run flG_T (pc1 := 92) (L1 := [some (.inr (.inr (some (5, 0)))), some (.inl x1), some (.inl x2), none]) (S1 := [.inl x1, .inr (.inr (some (5, 0)))]) (w1 := up (up (up (up (up (up w 35 0 (tn s1) s0) 35 0 (tn 1) (bitsF ((up w 35 0 (tn s1) s0) 22 0 (tn (3 * x2))))) 35 0 (tn 2) (bitsF ((up (up w 35 0 (tn s1) s0) 35 0 (tn 1) (bitsF ((up w 35 0 (tn s1) s0) 22 0 (tn (3 * x2))))) 22 0 (tn ((3 * x2) + 1))))) 35 0 (tn 3) ((up (up (up w 35 0 (tn s1) s0) 35 0 (tn 1) (bitsF ((up w 35 0 (tn s1) s0) 22 0 (tn (3 * x2))))) 35 0 (tn 2) (bitsF ((up (up w 35 0 (tn s1) s0) 35 0 (tn 1) (bitsF ((up w 35 0 (tn s1) s0) 22 0 (tn (3 * x2))))) 22 0 (tn ((3 * x2) + 1))))) 5 0 5)) 35 0 (tn 4) ((up (up (up (up w 35 0 (tn s1) s0) 35 0 (tn 1) (bitsF ((up w 35 0 (tn s1) s0) 22 0 (tn (3 * x2))))) 35 0 (tn 2) (bitsF ((up (up w 35 0 (tn s1) s0) 35 0 (tn 1) (bitsF ((up w 35 0 (tn s1) s0) 22 0 (tn (3 * x2))))) 22 0 (tn ((3 * x2) + 1))))) 35 0 (tn 3) ((up (up (up w 35 0 (tn s1) s0) 35 0 (tn 1) (bitsF ((up w 35 0 (tn s1) s0) 22 0 (tn (3 * x2))))) 35 0 (tn 2) (bitsF ((up (up w 35 0 (tn s1) s0) 35 0 (tn 1) (bitsF ((up w 35 0 (tn s1) s0) 22 0 (tn (3 * x2))))) 22 0 (tn ((3 * x2) + 1))))) 5 0 5)) 22 0 (tn ((3 * x2) + 2)))) 35 0 (tn 5) ((up (up (up (up (up w 35 0 (tn s1) s0) 35 0 (tn 1) (bitsF ((up w 35 0 (tn s1) s0) 22 0 (tn (3 * x2))))) 35 0 (tn 2) (bitsF ((up (up w 35 0 (tn s1) s0) 35 0 (tn 1) (bitsF ((up w 35 0 (tn s1) s0) 22 0 (tn (3 * x2))))) 22 0 (tn ((3 * x2) + 1))))) 35 0 (tn 3) ((up (up (up w 35 0 (tn s1) s0) 35 0 (tn 1) (bitsF ((up w 35 0 (tn s1) s0) 22 0 (tn (3 * x2))))) 35 0 (tn 2) (bitsF ((up (up w 35 0 (tn s1) s0) 35 0 (tn 1) (bitsF ((up w 35 0 (tn s1) s0) 22 0 (tn (3 * x2))))) 22 0 (tn ((3 * x2) + 1))))) 5 0 5)) 35 0 (tn 4) ((up (up (up (up w 35 0 (tn s1) s0) 35 0 (tn 1) (bitsF ((up w 35 0 (tn s1) s0) 22 0 (tn (3 * x2))))) 35 0 (tn 2) (bitsF ((up (up w 35 0 (tn s1) s0) 35 0 (tn 1) (bitsF ((up w 35 0 (tn s1) s0) 22 0 (tn (3 * x2))))) 22 0 (tn ((3 * x2) + 1))))) 35 0 (tn 3) ((up (up (up w 35 0 (tn s1) s0) 35 0 (tn 1) (bitsF ((up w 35 0 (tn s1) s0) 22 0 (tn (3 * x2))))) 35 0 (tn 2) (bitsF ((up (up w 35 0 (tn s1) s0) 35 0 (tn 1) (bitsF ((up w 35 0 (tn s1) s0) 22 0 (tn (3 * x2))))) 22 0 (tn ((3 * x2) + 1))))) 5 0 5)) 22 0 (tn ((3 * x2) + 2)))) 21 0 (tn x2))) (P := (inB 2 6) ∧ (inB 3 6) ∧ (inB ((3 * x2) + 2) 18) ∧ (inB 4 6) ∧ (inB x2 6) ∧ (inB 5 6) ∧ True) [(.iastore, 0, 0, 0, 0), (.aload_n 0, 0, 0, 0, 0), (.getfield 55, 5, 29, 0, 0), (.iconst 3, 0, 0, 3, 0), (.aload_n 0, 0, 0, 0, 0), (.getfield 83, 5, 5, 0, 0), (.iastore, 0, 0, 0, 0), (.aload_n 0, 0, 0, 0, 0), (.getfield 55, 5, 29, 0, 0), (.iconst 4, 0, 0, 4, 0), (.aload_n 0, 0, 0, 0, 0), (.getfield 16, 5, 3, 0, 0), (.iconst 3, 0, 0, 3, 0), (.iload_n 2, 0, 0, 0, 0), (.imul, 0, 0, 0, 0), (.iconst 2, 0, 0, 2, 0), (.iadd, 0, 0, 0, 0), (.iaload, 0, 0, 0, 0), (.iastore, 0, 0, 0, 0), (.aload_n 0, 0, 0, 0, 0), (.getfield 55, 5, 29, 0, 0), (.iconst 5, 0, 0, 5, 0), (.aload_n 0, 0, 0, 0, 0), (.getfield 13, 5, 2, 0, 0), (.iload_n 2, 0, 0, 0, 0), (.iaload, 0, 0, 0, 0), (.iastore, 0, 0, 0, 0), (.aload_n 0, 0, 0, 0, 0), (.iload_n 1, 0, 0, 0, 0)] (by decide +kernel) rfl ⟨h6, h7, h8, h9, h10, h11, trivial⟩ ?_
  refine GE_callVI (As := [.inl x1]) (k := 5) (i := 0) (S := []) (t_X5_says l X x1 (up (up (up (up (up (up w 35 0 (tn s1) s0) 35 0 (tn 1) (bitsF ((up w 35 0 (tn s1) s0) 22 0 (tn (3 * x2))))) 35 0 (tn 2) (bitsF ((up (up w 35 0 (tn s1) s0) 35 0 (tn 1) (bitsF ((up w 35 0 (tn s1) s0) 22 0 (tn (3 * x2))))) 22 0 (tn ((3 * x2) + 1))))) 35 0 (tn 3) ((up (up (up w 35 0 (tn s1) s0) 35 0 (tn 1) (bitsF ((up w 35 0 (tn s1) s0) 22 0 (tn (3 * x2))))) 35 0 (tn 2) (bitsF ((up (up w 35 0 (tn s1) s0) 35 0 (tn 1) (bitsF ((up w 35 0 (tn s1) s0) 22 0 (tn (3 * x2))))) 22 0 (tn ((3 * x2) + 1))))) 5 0 5)) 35 0 (tn 4) ((up (up (up (up w 35 0 (tn s1) s0) 35 0 (tn 1) (bitsF ((up w 35 0 (tn s1) s0) 22 0 (tn (3 * x2))))) 35 0 (tn 2) (bitsF ((up (up w 35 0 (tn s1) s0) 35 0 (tn 1) (bitsF ((up w 35 0 (tn s1) s0) 22 0 (tn (3 * x2))))) 22 0 (tn ((3 * x2) + 1))))) 35 0 (tn 3) ((up (up (up w 35 0 (tn s1) s0) 35 0 (tn 1) (bitsF ((up w 35 0 (tn s1) s0) 22 0 (tn (3 * x2))))) 35 0 (tn 2) (bitsF ((up (up w 35 0 (tn s1) s0) 35 0 (tn 1) (bitsF ((up w 35 0 (tn s1) s0) 22 0 (tn (3 * x2))))) 22 0 (tn ((3 * x2) + 1))))) 5 0 5)) 22 0 (tn ((3 * x2) + 2)))) 35 0 (tn 5) ((up (up (up (up (up w 35 0 (tn s1) s0) 35 0 (tn 1) (bitsF ((up w 35 0 (tn s1) s0) 22 0 (tn (3 * x2))))) 35 0 (tn 2) (bitsF ((up (up w 35 0 (tn s1) s0) 35 0 (tn 1) (bitsF ((up w 35 0 (tn s1) s0) 22 0 (tn (3 * x2))))) 22 0 (tn ((3 * x2) + 1))))) 35 0 (tn 3) ((up (up (up w 35 0 (tn s1) s0) 35 0 (tn 1) (bitsF ((up w 35 0 (tn s1) s0) 22 0 (tn (3 * x2))))) 35 0 (tn 2) (bitsF ((up (up w 35 0 (tn s1) s0) 35 0 (tn 1) (bitsF ((up w 35 0 (tn s1) s0) 22 0 (tn (3 * x2))))) 22 0 (tn ((3 * x2) + 1))))) 5 0 5)) 35 0 (tn 4) ((up (up (up (up w 35 0 (tn s1) s0) 35 0 (tn 1) (bitsF ((up w 35 0 (tn s1) s0) 22 0 (tn (3 * x2))))) 35 0 (tn 2) (bitsF ((up (up w 35 0 (tn s1) s0) 35 0 (tn 1) (bitsF ((up w 35 0 (tn s1) s0) 22 0 (tn (3 * x2))))) 22 0 (tn ((3 * x2) + 1))))) 35 0 (tn 3) ((up (up (up w 35 0 (tn s1) s0) 35 0 (tn 1) (bitsF ((up w 35 0 (tn s1) s0) 22 0 (tn (3 * x2))))) 35 0 (tn 2) (bitsF ((up (up w 35 0 (tn s1) s0) 35 0 (tn 1) (bitsF ((up w 35 0 (tn s1) s0) 22 0 (tn (3 * x2))))) 22 0 (tn ((3 * x2) + 1))))) 5 0 5)) 22 0 (tn ((3 * x2) + 2)))) 21 0 (tn x2)))) (by decide) ⟨me_X5_says, mi_X5_says, mv_X5_says, lk_X5_156⟩ rfl (by decide +kernel) rfl (by decide) (by decide) (Nat.le_of_ble_eq_true rfl) (fun r12 _ => ?_)
  refine GE_run flG_T (pc1 := 97) (L1 := [some (.inr (.inr (some (5, 0)))), some (.inl x1), some (.inl x2), none]) (S1 := [.inl 2, .inl x1, .inl r12.1]) (w1 := r12.2) (P := True) [(.iload_n 1, 0, 0, 0, 0), (.iconst 2, 0, 0, 2, 0)] (by decide +kernel) rfl trivial ?_
  refine GE_icmpN (k := .ne) (off := 7) (tgt := 104) (by decide +kernel) (by decide) (cnd_ne _ _) (fun c13 => ?_) (fun c13 => ?_)
  · refine GE_run flG_T (pc1 := 106) (L1 := [some (.inr (.inr (some (5, 0)))), some (.inl x1), some (.inl x2), none]) (S1 := [.inl (-99), .inl r12.1]) (w1 := r12.2) (P := True) [(.bipush (-99), 0, 0, -99, 0)] (by decide +kernel) rfl trivial ?_
    exact GE_weak [false, true, false, false] (j_X5_asksOf_106_ok l X x1 (-99) r12.1 r12.2)
  · refine GE_run flG_T (pc1 := 106) (L1 := [some (.inr (.inr (some (5, 0)))), some (.inl x1), some (.inl x2), none]) (S1 := [.inl 0, .inl r12.1]) (w1 := r12.2) (P := True) [(.iconst 0, 0, 0, 0, 0), (.goto 5, 0, 0, 0, 0)] (by decide +kernel) rfl trivial ?_
    exact GE_weak [false, true, false, false] (j_X5_asksOf_106_ok l X x1 0 r12.1 r12.2)
noncomputable def f_X5_asksOf (a1 : Int32) (a2 : Int32) (a3 : Int32) (w : Mem) : Option (Int32 × Mem) := if a1 = 2 then (j_X5_asksOf_15 a1 a2 0 0 w) else (j_X5_asksOf_15 a1 a2 a3 0 w)
set_option maxRecDepth 100000 in
theorem t_X5_asksOf (l : Launch) (X : XC)  (a1 : Int32) (a2 : Int32) (a3 : Int32) (w : Mem) : Ct l X 2 yX5_asksOf cX5_asksOf 4 (some .int) emI [.inr (.inr (some (5, 0))), .inl a1, .inl a2, .inl a3] 57 flT w (f_X5_asksOf a1 a2 a3 w) := by
  refine Ct_of (mi := mm_X5_asksOf) (mik_X5 _ _ _) me_X5_asksOf rfl (okAs_cons (by decide) (okAs_cons rfl (okAs_cons rfl (okAs_cons rfl okAs_nil)))) (Nat.le_of_ble_eq_true rfl) ?_
  unfold f_X5_asksOf
  refine GE_run flG_T (pc1 := 7) (L1 := [some (.inr (.inr (some (5, 0)))), some (.inl a1), some (.inl a2), some (.inl a3)]) (S1 := [.inl 2, .inl a1, .inl 0, .inr (.inr (some (35, 0)))]) (w1 := w) (P := True) [(.aload_n 0, 0, 0, 0, 0), (.getfield 55, 5, 29, 0, 0), (.iconst 0, 0, 0, 0, 0), (.iload_n 1, 0, 0, 0, 0), (.iconst 2, 0, 0, 2, 0)] (by decide +kernel) rfl trivial ?_
  refine GE_icmpN (k := .ne) (off := 7) (tgt := 14) (by decide +kernel) (by decide) (cnd_ne _ _) (fun c1 => ?_) (fun c1 => ?_)
  · refine GE_run flG_T (pc1 := 15) (L1 := [some (.inr (.inr (some (5, 0)))), some (.inl a1), some (.inl a2), some (.inl a3)]) (S1 := [.inl a3, .inl 0, .inr (.inr (some (35, 0)))]) (w1 := w) (P := True) [(.iload_n 3, 0, 0, 0, 0)] (by decide +kernel) rfl trivial ?_
    exact GE_weak [true, true, true, false] (j_X5_asksOf_15_ok l X a1 a2 a3 0 w)
  · refine GE_run flG_T (pc1 := 15) (L1 := [some (.inr (.inr (some (5, 0)))), some (.inl a1), some (.inl a2), some (.inl a3)]) (S1 := [.inl 0, .inl 0, .inr (.inr (some (35, 0)))]) (w1 := w) (P := True) [(.iconst 0, 0, 0, 0, 0), (.goto 4, 0, 0, 0, 0)] (by decide +kernel) rfl trivial ?_
    exact GE_weak [true, true, true, false] (j_X5_asksOf_15_ok l X a1 a2 0 0 w)
abbrev mm_X5_asks : MI := (RX5, cX5_asks, 4, (some .int), ftp_X5.map (fun q => q.1), ctp_X5.map (fun q => q.1), clp_X5.map (fun q => q.1))
noncomputable def f_X5_asks (a1 : Int32) (a2 : Int32) (a3 : Int32) (w : Mem) : Option (Int32 × Mem) := if (rng a1 0 2) = 0 then (some ((-1000), w)) else (if (rng a2 0 (w 5 0 0 - 1)) = 0 then (some ((-1000), w)) else (if (rng a3 0 15) = 0 then (some ((-1000), w)) else (Option.bind (f_X5_asksOf a1 a2 a3 w) (fun r4 => some (r4.1, r4.2)))))
set_option maxRecDepth 100000 in
theorem t_X5_asks (l : Launch) (X : XC)  (a1 : Int32) (a2 : Int32) (a3 : Int32) (w : Mem) : Ct l X 3 yX5_asks cX5_asks 4 (some .int) emI [.inr (.inr (some (5, 0))), .inl a1, .inl a2, .inl a3] 57 flT w (f_X5_asks a1 a2 a3 w) := by
  refine Ct_of (mi := mm_X5_asks) (mik_X5 _ _ _) me_X5_asks rfl (okAs_cons (by decide) (okAs_cons rfl (okAs_cons rfl (okAs_cons rfl okAs_nil)))) (Nat.le_of_ble_eq_true rfl) ?_
  unfold f_X5_asks
  refine GE_run flG_T (pc1 := 3) (L1 := [some (.inr (.inr (some (5, 0)))), some (.inl a1), some (.inl a2), some (.inl a3)]) (S1 := [.inl 2, .inl 0, .inl a1]) (w1 := w) (P := True) [(.iload_n 1, 0, 0, 0, 0), (.iconst 0, 0, 0, 0, 0), (.iconst 2, 0, 0, 2, 0)] (by decide +kernel) rfl trivial ?_
  refine GE_callSIp (As := [.inl a1, .inl 0, .inl 2]) (S := []) (p_X5_in l X a1 0 2 w) ⟨me_X5_in, ms_X5_in, lk_X5_72⟩ (by decide +kernel) rfl (by decide) (by decide) (Nat.le_of_ble_eq_true rfl) ?_
  refine GE_if (k := .eq) (off := 28) (tgt := 34) (by decide +kernel) (by decide) (cnd_eq _ _) (fun c1 => ?_) (fun c1 => ?_)
  · refine GE_run flG_T (pc1 := 37) (L1 := [some (.inr (.inr (some (5, 0)))), some (.inl a1), some (.inl a2), some (.inl a3)]) (S1 := [.inl (-1000)]) (w1 := w) (P := True) [(.sipush (-1000), 0, 0, -1000, 0)] (by decide +kernel) rfl trivial ?_
    exact GE_iret rfl (by decide +kernel)
  · refine GE_run flG_T (pc1 := 11) (L1 := [some (.inr (.inr (some (5, 0)))), some (.inl a1), some (.inl a2), some (.inl a3)]) (S1 := [.inl a2, .inr (.inr (some (5, 0)))]) (w1 := w) (P := True) [(.aload_n 0, 0, 0, 0, 0), (.iload_n 2, 0, 0, 0, 0)] (by decide +kernel) rfl trivial ?_
    refine GE_callVIp (As := [.inl a2]) (k := 5) (i := 0) (S := []) (p_X5_isOne l X a2 w) (by decide) ⟨me_X5_isOne, mi_X5_isOne, mv_X5_isOne, lk_X5_162⟩ rfl (by decide +kernel) rfl (by decide) (by decide) (Nat.le_of_ble_eq_true rfl) ?_
    refine GE_if (k := .eq) (off := 20) (tgt := 34) (by decide +kernel) (by decide) (cnd_eq _ _) (fun c2 => ?_) (fun c2 => ?_)
    · refine GE_run flG_T (pc1 := 37) (L1 := [some (.inr (.inr (some (5, 0)))), some (.inl a1), some (.inl a2), some (.inl a3)]) (S1 := [.inl (-1000)]) (w1 := w) (P := True) [(.sipush (-1000), 0, 0, -1000, 0)] (by decide +kernel) rfl trivial ?_
      exact GE_iret rfl (by decide +kernel)
    · refine GE_run flG_T (pc1 := 18) (L1 := [some (.inr (.inr (some (5, 0)))), some (.inl a1), some (.inl a2), some (.inl a3)]) (S1 := [.inl a3]) (w1 := w) (P := True) [(.iload_n 3, 0, 0, 0, 0)] (by decide +kernel) rfl trivial ?_
      refine GE_callSIp (As := [.inl a3]) (S := []) (p_X5_isThing l X a3 w) ⟨me_X5_isThing, ms_X5_isThing, lk_X5_165⟩ (by decide +kernel) rfl (by decide) (by decide) (Nat.le_of_ble_eq_true rfl) ?_
      refine GE_if (k := .eq) (off := 13) (tgt := 34) (by decide +kernel) (by decide) (cnd_eq _ _) (fun c3 => ?_) (fun c3 => ?_)
      · refine GE_run flG_T (pc1 := 37) (L1 := [some (.inr (.inr (some (5, 0)))), some (.inl a1), some (.inl a2), some (.inl a3)]) (S1 := [.inl (-1000)]) (w1 := w) (P := True) [(.sipush (-1000), 0, 0, -1000, 0)] (by decide +kernel) rfl trivial ?_
        exact GE_iret rfl (by decide +kernel)
      · refine GE_run flG_T (pc1 := 28) (L1 := [some (.inr (.inr (some (5, 0)))), some (.inl a1), some (.inl a2), some (.inl a3)]) (S1 := [.inl a3, .inl a2, .inl a1, .inr (.inr (some (5, 0)))]) (w1 := w) (P := True) [(.aload_n 0, 0, 0, 0, 0), (.iload_n 1, 0, 0, 0, 0), (.iload_n 2, 0, 0, 0, 0), (.iload_n 3, 0, 0, 0, 0)] (by decide +kernel) rfl trivial ?_
        refine GE_callVI (As := [.inl a1, .inl a2, .inl a3]) (k := 5) (i := 0) (S := []) (t_X5_asksOf l X a1 a2 a3 w) (by decide) ⟨me_X5_asksOf, mi_X5_asksOf, mv_X5_asksOf, lk_X5_168⟩ rfl (by decide +kernel) rfl (by decide) (by decide) (Nat.le_of_ble_eq_true rfl) (fun r4 _ => ?_)
        refine GE_run flG_T (pc1 := 37) (L1 := [some (.inr (.inr (some (5, 0)))), some (.inl a1), some (.inl a2), some (.inl a3)]) (S1 := [.inl r4.1]) (w1 := r4.2) (P := True) [(.goto 6, 0, 0, 0, 0)] (by decide +kernel) rfl trivial ?_
        exact GE_iret rfl (by decide +kernel)
abbrev mm_X5_fisher : MI := (RX5, cX5_fisher, 3, (some .int), ftp_X5.map (fun q => q.1), ctp_X5.map (fun q => q.1), clp_X5.map (fun q => q.1))
noncomputable def f_X5_fisher (a1 : Int32) (a2 : Int32) (w : Mem) : Option (Int32 × Mem) := if (rng a1 0 59) = 0 then (some ((-2), w)) else (if (rng a2 0 65535) = 0 then (some ((-2), w)) else (if (w 5 0 0) = 6 then (some ((-4), w)) else (if ¬ (10 : Int32) = 0 then (if inB (w 5 0 0) 6 then (if ¬ (10 : Int32) = 0 then (if inB ((up w 20 0 (tn (w 5 0 0)) (a1 / 10)) 5 0 0) 6 then (if inB (3 * ((up (up w 20 0 (tn (w 5 0 0)) (a1 / 10)) 21 0 (tn ((up w 20 0 (tn (w 5 0 0)) (a1 / 10)) 5 0 0)) (rmI a1 10)) 5 0 0)) 18 then (if inB ((3 * ((up (up (up w 20 0 (tn (w 5 0 0)) (a1 / 10)) 21 0 (tn ((up w 20 0 (tn (w 5 0 0)) (a1 / 10)) 5 0 0)) (rmI a1 10)) 22 0 (tn (3 * ((up (up w 20 0 (tn (w 5 0 0)) (a1 / 10)) 21 0 (tn ((up w 20 0 (tn (w 5 0 0)) (a1 / 10)) 5 0 0)) (rmI a1 10)) 5 0 0))) a2) 5 0 0)) + 1) 18 then (if inB ((3 * ((up (up (up (up w 20 0 (tn (w 5 0 0)) (a1 / 10)) 21 0 (tn ((up w 20 0 (tn (w 5 0 0)) (a1 / 10)) 5 0 0)) (rmI a1 10)) 22 0 (tn (3 * ((up (up w 20 0 (tn (w 5 0 0)) (a1 / 10)) 21 0 (tn ((up w 20 0 (tn (w 5 0 0)) (a1 / 10)) 5 0 0)) (rmI a1 10)) 5 0 0))) a2) 22 0 (tn ((3 * ((up (up (up w 20 0 (tn (w 5 0 0)) (a1 / 10)) 21 0 (tn ((up w 20 0 (tn (w 5 0 0)) (a1 / 10)) 5 0 0)) (rmI a1 10)) 22 0 (tn (3 * ((up (up w 20 0 (tn (w 5 0 0)) (a1 / 10)) 21 0 (tn ((up w 20 0 (tn (w 5 0 0)) (a1 / 10)) 5 0 0)) (rmI a1 10)) 5 0 0))) a2) 5 0 0)) + 1)) 0) 5 0 0)) + 2) 18 then (some (((up (up (up (up (up (up w 20 0 (tn (w 5 0 0)) (a1 / 10)) 21 0 (tn ((up w 20 0 (tn (w 5 0 0)) (a1 / 10)) 5 0 0)) (rmI a1 10)) 22 0 (tn (3 * ((up (up w 20 0 (tn (w 5 0 0)) (a1 / 10)) 21 0 (tn ((up w 20 0 (tn (w 5 0 0)) (a1 / 10)) 5 0 0)) (rmI a1 10)) 5 0 0))) a2) 22 0 (tn ((3 * ((up (up (up w 20 0 (tn (w 5 0 0)) (a1 / 10)) 21 0 (tn ((up w 20 0 (tn (w 5 0 0)) (a1 / 10)) 5 0 0)) (rmI a1 10)) 22 0 (tn (3 * ((up (up w 20 0 (tn (w 5 0 0)) (a1 / 10)) 21 0 (tn ((up w 20 0 (tn (w 5 0 0)) (a1 / 10)) 5 0 0)) (rmI a1 10)) 5 0 0))) a2) 5 0 0)) + 1)) 0) 22 0 (tn ((3 * ((up (up (up (up w 20 0 (tn (w 5 0 0)) (a1 / 10)) 21 0 (tn ((up w 20 0 (tn (w 5 0 0)) (a1 / 10)) 5 0 0)) (rmI a1 10)) 22 0 (tn (3 * ((up (up w 20 0 (tn (w 5 0 0)) (a1 / 10)) 21 0 (tn ((up w 20 0 (tn (w 5 0 0)) (a1 / 10)) 5 0 0)) (rmI a1 10)) 5 0 0))) a2) 22 0 (tn ((3 * ((up (up (up w 20 0 (tn (w 5 0 0)) (a1 / 10)) 21 0 (tn ((up w 20 0 (tn (w 5 0 0)) (a1 / 10)) 5 0 0)) (rmI a1 10)) 22 0 (tn (3 * ((up (up w 20 0 (tn (w 5 0 0)) (a1 / 10)) 21 0 (tn ((up w 20 0 (tn (w 5 0 0)) (a1 / 10)) 5 0 0)) (rmI a1 10)) 5 0 0))) a2) 5 0 0)) + 1)) 0) 5 0 0)) + 2)) 50) 5 0 0 (((up (up (up (up (up w 20 0 (tn (w 5 0 0)) (a1 / 10)) 21 0 (tn ((up w 20 0 (tn (w 5 0 0)) (a1 / 10)) 5 0 0)) (rmI a1 10)) 22 0 (tn (3 * ((up (up w 20 0 (tn (w 5 0 0)) (a1 / 10)) 21 0 (tn ((up w 20 0 (tn (w 5 0 0)) (a1 / 10)) 5 0 0)) (rmI a1 10)) 5 0 0))) a2) 22 0 (tn ((3 * ((up (up (up w 20 0 (tn (w 5 0 0)) (a1 / 10)) 21 0 (tn ((up w 20 0 (tn (w 5 0 0)) (a1 / 10)) 5 0 0)) (rmI a1 10)) 22 0 (tn (3 * ((up (up w 20 0 (tn (w 5 0 0)) (a1 / 10)) 21 0 (tn ((up w 20 0 (tn (w 5 0 0)) (a1 / 10)) 5 0 0)) (rmI a1 10)) 5 0 0))) a2) 5 0 0)) + 1)) 0) 22 0 (tn ((3 * ((up (up (up (up w 20 0 (tn (w 5 0 0)) (a1 / 10)) 21 0 (tn ((up w 20 0 (tn (w 5 0 0)) (a1 / 10)) 5 0 0)) (rmI a1 10)) 22 0 (tn (3 * ((up (up w 20 0 (tn (w 5 0 0)) (a1 / 10)) 21 0 (tn ((up w 20 0 (tn (w 5 0 0)) (a1 / 10)) 5 0 0)) (rmI a1 10)) 5 0 0))) a2) 22 0 (tn ((3 * ((up (up (up w 20 0 (tn (w 5 0 0)) (a1 / 10)) 21 0 (tn ((up w 20 0 (tn (w 5 0 0)) (a1 / 10)) 5 0 0)) (rmI a1 10)) 22 0 (tn (3 * ((up (up w 20 0 (tn (w 5 0 0)) (a1 / 10)) 21 0 (tn ((up w 20 0 (tn (w 5 0 0)) (a1 / 10)) 5 0 0)) (rmI a1 10)) 5 0 0))) a2) 5 0 0)) + 1)) 0) 5 0 0)) + 2)) 50) 5 0 0) + 1)) 5 0 0) - 1, up (up (up (up (up (up w 20 0 (tn (w 5 0 0)) (a1 / 10)) 21 0 (tn ((up w 20 0 (tn (w 5 0 0)) (a1 / 10)) 5 0 0)) (rmI a1 10)) 22 0 (tn (3 * ((up (up w 20 0 (tn (w 5 0 0)) (a1 / 10)) 21 0 (tn ((up w 20 0 (tn (w 5 0 0)) (a1 / 10)) 5 0 0)) (rmI a1 10)) 5 0 0))) a2) 22 0 (tn ((3 * ((up (up (up w 20 0 (tn (w 5 0 0)) (a1 / 10)) 21 0 (tn ((up w 20 0 (tn (w 5 0 0)) (a1 / 10)) 5 0 0)) (rmI a1 10)) 22 0 (tn (3 * ((up (up w 20 0 (tn (w 5 0 0)) (a1 / 10)) 21 0 (tn ((up w 20 0 (tn (w 5 0 0)) (a1 / 10)) 5 0 0)) (rmI a1 10)) 5 0 0))) a2) 5 0 0)) + 1)) 0) 22 0 (tn ((3 * ((up (up (up (up w 20 0 (tn (w 5 0 0)) (a1 / 10)) 21 0 (tn ((up w 20 0 (tn (w 5 0 0)) (a1 / 10)) 5 0 0)) (rmI a1 10)) 22 0 (tn (3 * ((up (up w 20 0 (tn (w 5 0 0)) (a1 / 10)) 21 0 (tn ((up w 20 0 (tn (w 5 0 0)) (a1 / 10)) 5 0 0)) (rmI a1 10)) 5 0 0))) a2) 22 0 (tn ((3 * ((up (up (up w 20 0 (tn (w 5 0 0)) (a1 / 10)) 21 0 (tn ((up w 20 0 (tn (w 5 0 0)) (a1 / 10)) 5 0 0)) (rmI a1 10)) 22 0 (tn (3 * ((up (up w 20 0 (tn (w 5 0 0)) (a1 / 10)) 21 0 (tn ((up w 20 0 (tn (w 5 0 0)) (a1 / 10)) 5 0 0)) (rmI a1 10)) 5 0 0))) a2) 5 0 0)) + 1)) 0) 5 0 0)) + 2)) 50) 5 0 0 (((up (up (up (up (up w 20 0 (tn (w 5 0 0)) (a1 / 10)) 21 0 (tn ((up w 20 0 (tn (w 5 0 0)) (a1 / 10)) 5 0 0)) (rmI a1 10)) 22 0 (tn (3 * ((up (up w 20 0 (tn (w 5 0 0)) (a1 / 10)) 21 0 (tn ((up w 20 0 (tn (w 5 0 0)) (a1 / 10)) 5 0 0)) (rmI a1 10)) 5 0 0))) a2) 22 0 (tn ((3 * ((up (up (up w 20 0 (tn (w 5 0 0)) (a1 / 10)) 21 0 (tn ((up w 20 0 (tn (w 5 0 0)) (a1 / 10)) 5 0 0)) (rmI a1 10)) 22 0 (tn (3 * ((up (up w 20 0 (tn (w 5 0 0)) (a1 / 10)) 21 0 (tn ((up w 20 0 (tn (w 5 0 0)) (a1 / 10)) 5 0 0)) (rmI a1 10)) 5 0 0))) a2) 5 0 0)) + 1)) 0) 22 0 (tn ((3 * ((up (up (up (up w 20 0 (tn (w 5 0 0)) (a1 / 10)) 21 0 (tn ((up w 20 0 (tn (w 5 0 0)) (a1 / 10)) 5 0 0)) (rmI a1 10)) 22 0 (tn (3 * ((up (up w 20 0 (tn (w 5 0 0)) (a1 / 10)) 21 0 (tn ((up w 20 0 (tn (w 5 0 0)) (a1 / 10)) 5 0 0)) (rmI a1 10)) 5 0 0))) a2) 22 0 (tn ((3 * ((up (up (up w 20 0 (tn (w 5 0 0)) (a1 / 10)) 21 0 (tn ((up w 20 0 (tn (w 5 0 0)) (a1 / 10)) 5 0 0)) (rmI a1 10)) 22 0 (tn (3 * ((up (up w 20 0 (tn (w 5 0 0)) (a1 / 10)) 21 0 (tn ((up w 20 0 (tn (w 5 0 0)) (a1 / 10)) 5 0 0)) (rmI a1 10)) 5 0 0))) a2) 5 0 0)) + 1)) 0) 5 0 0)) + 2)) 50) 5 0 0) + 1))) else none) else none) else none) else none) else none) else none) else none)))
set_option maxRecDepth 100000 in
theorem t_X5_fisher (l : Launch) (X : XC)  (a1 : Int32) (a2 : Int32) (w : Mem) : Ct l X 1 yX5_fisher cX5_fisher 3 (some .int) emI [.inr (.inr (some (5, 0))), .inl a1, .inl a2] 57 flT w (f_X5_fisher a1 a2 w) := by
  refine Ct_of (mi := mm_X5_fisher) (mik_X5 _ _ _) me_X5_fisher rfl (okAs_cons (by decide) (okAs_cons rfl (okAs_cons rfl okAs_nil))) (Nat.le_of_ble_eq_true rfl) ?_
  unfold f_X5_fisher
  refine GE_run flG_T (pc1 := 4) (L1 := [some (.inr (.inr (some (5, 0)))), some (.inl a1), some (.inl a2)]) (S1 := [.inl 59, .inl 0, .inl a1]) (w1 := w) (P := True) [(.iload_n 1, 0, 0, 0, 0), (.iconst 0, 0, 0, 0, 0), (.bipush 59, 0, 0, 59, 0)] (by decide +kernel) rfl trivial ?_
  refine GE_callSIp (As := [.inl a1, .inl 0, .inl 59]) (S := []) (p_X5_in l X a1 0 59 w) ⟨me_X5_in, ms_X5_in, lk_X5_72⟩ (by decide +kernel) rfl (by decide) (by decide) (Nat.le_of_ble_eq_true rfl) ?_
  refine GE_if (k := .eq) (off := 13) (tgt := 20) (by decide +kernel) (by decide) (cnd_eq _ _) (fun c1 => ?_) (fun c1 => ?_)
  · refine GE_run flG_T (pc1 := 22) (L1 := [some (.inr (.inr (some (5, 0)))), some (.inl a1), some (.inl a2)]) (S1 := [.inl (-2)]) (w1 := w) (P := True) [(.bipush (-2), 0, 0, -2, 0)] (by decide +kernel) rfl trivial ?_
    exact GE_iret rfl (by decide +kernel)
  · refine GE_run flG_T (pc1 := 14) (L1 := [some (.inr (.inr (some (5, 0)))), some (.inl a1), some (.inl a2)]) (S1 := [.inl 65535, .inl 0, .inl a2]) (w1 := w) (P := True) [(.iload_n 2, 0, 0, 0, 0), (.iconst 0, 0, 0, 0, 0), (.ldc 92, 0, 0, 65535, 0)] (by decide +kernel) rfl trivial ?_
    refine GE_callSIp (As := [.inl a2, .inl 0, .inl 65535]) (S := []) (p_X5_in l X a2 0 65535 w) ⟨me_X5_in, ms_X5_in, lk_X5_72⟩ (by decide +kernel) rfl (by decide) (by decide) (Nat.le_of_ble_eq_true rfl) ?_
    refine GE_ifN (k := .ne) (off := 6) (tgt := 23) (by decide +kernel) (by decide) (cnd_ne _ _) (fun c2 => ?_) (fun c2 => ?_)
    · refine GE_run flG_T (pc1 := 29) (L1 := [some (.inr (.inr (some (5, 0)))), some (.inl a1), some (.inl a2)]) (S1 := [.inl 6, .inl (w 5 0 0)]) (w1 := w) (P := True) [(.aload_n 0, 0, 0, 0, 0), (.getfield 69, 5, 0, 0, 0), (.bipush 6, 0, 0, 6, 0)] (by decide +kernel) rfl trivial ?_
      refine GE_icmpN (k := .ne) (off := 6) (tgt := 35) (by decide +kernel) (by decide) (cnd_ne _ _) (fun c3 => ?_) (fun c3 => ?_)
      · refine GE_chk (fun h4 => ?_)
        refine GE_chk (fun h5 => ?_)
        refine GE_chk (fun h6 => ?_)
        refine GE_chk (fun h7 => ?_)
        refine GE_chk (fun h8 => ?_)
        refine GE_chk (fun h9 => ?_)
        refine GE_chk (fun h10 => ?_)
        refine GE_run flG_T (pc1 := 118) (L1 := [some (.inr (.inr (some (5, 0)))), some (.inl a1), some (.inl a2)]) (S1 := [.inl (((up (up (up (up (up (up w 20 0 (tn (w 5 0 0)) (a1 / 10)) 21 0 (tn ((up w 20 0 (tn (w 5 0 0)) (a1 / 10)) 5 0 0)) (rmI a1 10)) 22 0 (tn (3 * ((up (up w 20 0 (tn (w 5 0 0)) (a1 / 10)) 21 0 (tn ((up w 20 0 (tn (w 5 0 0)) (a1 / 10)) 5 0 0)) (rmI a1 10)) 5 0 0))) a2) 22 0 (tn ((3 * ((up (up (up w 20 0 (tn (w 5 0 0)) (a1 / 10)) 21 0 (tn ((up w 20 0 (tn (w 5 0 0)) (a1 / 10)) 5 0 0)) (rmI a1 10)) 22 0 (tn (3 * ((up (up w 20 0 (tn (w 5 0 0)) (a1 / 10)) 21 0 (tn ((up w 20 0 (tn (w 5 0 0)) (a1 / 10)) 5 0 0)) (rmI a1 10)) 5 0 0))) a2) 5 0 0)) + 1)) 0) 22 0 (tn ((3 * ((up (up (up (up w 20 0 (tn (w 5 0 0)) (a1 / 10)) 21 0 (tn ((up w 20 0 (tn (w 5 0 0)) (a1 / 10)) 5 0 0)) (rmI a1 10)) 22 0 (tn (3 * ((up (up w 20 0 (tn (w 5 0 0)) (a1 / 10)) 21 0 (tn ((up w 20 0 (tn (w 5 0 0)) (a1 / 10)) 5 0 0)) (rmI a1 10)) 5 0 0))) a2) 22 0 (tn ((3 * ((up (up (up w 20 0 (tn (w 5 0 0)) (a1 / 10)) 21 0 (tn ((up w 20 0 (tn (w 5 0 0)) (a1 / 10)) 5 0 0)) (rmI a1 10)) 22 0 (tn (3 * ((up (up w 20 0 (tn (w 5 0 0)) (a1 / 10)) 21 0 (tn ((up w 20 0 (tn (w 5 0 0)) (a1 / 10)) 5 0 0)) (rmI a1 10)) 5 0 0))) a2) 5 0 0)) + 1)) 0) 5 0 0)) + 2)) 50) 5 0 0 (((up (up (up (up (up w 20 0 (tn (w 5 0 0)) (a1 / 10)) 21 0 (tn ((up w 20 0 (tn (w 5 0 0)) (a1 / 10)) 5 0 0)) (rmI a1 10)) 22 0 (tn (3 * ((up (up w 20 0 (tn (w 5 0 0)) (a1 / 10)) 21 0 (tn ((up w 20 0 (tn (w 5 0 0)) (a1 / 10)) 5 0 0)) (rmI a1 10)) 5 0 0))) a2) 22 0 (tn ((3 * ((up (up (up w 20 0 (tn (w 5 0 0)) (a1 / 10)) 21 0 (tn ((up w 20 0 (tn (w 5 0 0)) (a1 / 10)) 5 0 0)) (rmI a1 10)) 22 0 (tn (3 * ((up (up w 20 0 (tn (w 5 0 0)) (a1 / 10)) 21 0 (tn ((up w 20 0 (tn (w 5 0 0)) (a1 / 10)) 5 0 0)) (rmI a1 10)) 5 0 0))) a2) 5 0 0)) + 1)) 0) 22 0 (tn ((3 * ((up (up (up (up w 20 0 (tn (w 5 0 0)) (a1 / 10)) 21 0 (tn ((up w 20 0 (tn (w 5 0 0)) (a1 / 10)) 5 0 0)) (rmI a1 10)) 22 0 (tn (3 * ((up (up w 20 0 (tn (w 5 0 0)) (a1 / 10)) 21 0 (tn ((up w 20 0 (tn (w 5 0 0)) (a1 / 10)) 5 0 0)) (rmI a1 10)) 5 0 0))) a2) 22 0 (tn ((3 * ((up (up (up w 20 0 (tn (w 5 0 0)) (a1 / 10)) 21 0 (tn ((up w 20 0 (tn (w 5 0 0)) (a1 / 10)) 5 0 0)) (rmI a1 10)) 22 0 (tn (3 * ((up (up w 20 0 (tn (w 5 0 0)) (a1 / 10)) 21 0 (tn ((up w 20 0 (tn (w 5 0 0)) (a1 / 10)) 5 0 0)) (rmI a1 10)) 5 0 0))) a2) 5 0 0)) + 1)) 0) 5 0 0)) + 2)) 50) 5 0 0) + 1)) 5 0 0) - 1)]) (w1 := up (up (up (up (up (up w 20 0 (tn (w 5 0 0)) (a1 / 10)) 21 0 (tn ((up w 20 0 (tn (w 5 0 0)) (a1 / 10)) 5 0 0)) (rmI a1 10)) 22 0 (tn (3 * ((up (up w 20 0 (tn (w 5 0 0)) (a1 / 10)) 21 0 (tn ((up w 20 0 (tn (w 5 0 0)) (a1 / 10)) 5 0 0)) (rmI a1 10)) 5 0 0))) a2) 22 0 (tn ((3 * ((up (up (up w 20 0 (tn (w 5 0 0)) (a1 / 10)) 21 0 (tn ((up w 20 0 (tn (w 5 0 0)) (a1 / 10)) 5 0 0)) (rmI a1 10)) 22 0 (tn (3 * ((up (up w 20 0 (tn (w 5 0 0)) (a1 / 10)) 21 0 (tn ((up w 20 0 (tn (w 5 0 0)) (a1 / 10)) 5 0 0)) (rmI a1 10)) 5 0 0))) a2) 5 0 0)) + 1)) 0) 22 0 (tn ((3 * ((up (up (up (up w 20 0 (tn (w 5 0 0)) (a1 / 10)) 21 0 (tn ((up w 20 0 (tn (w 5 0 0)) (a1 / 10)) 5 0 0)) (rmI a1 10)) 22 0 (tn (3 * ((up (up w 20 0 (tn (w 5 0 0)) (a1 / 10)) 21 0 (tn ((up w 20 0 (tn (w 5 0 0)) (a1 / 10)) 5 0 0)) (rmI a1 10)) 5 0 0))) a2) 22 0 (tn ((3 * ((up (up (up w 20 0 (tn (w 5 0 0)) (a1 / 10)) 21 0 (tn ((up w 20 0 (tn (w 5 0 0)) (a1 / 10)) 5 0 0)) (rmI a1 10)) 22 0 (tn (3 * ((up (up w 20 0 (tn (w 5 0 0)) (a1 / 10)) 21 0 (tn ((up w 20 0 (tn (w 5 0 0)) (a1 / 10)) 5 0 0)) (rmI a1 10)) 5 0 0))) a2) 5 0 0)) + 1)) 0) 5 0 0)) + 2)) 50) 5 0 0 (((up (up (up (up (up w 20 0 (tn (w 5 0 0)) (a1 / 10)) 21 0 (tn ((up w 20 0 (tn (w 5 0 0)) (a1 / 10)) 5 0 0)) (rmI a1 10)) 22 0 (tn (3 * ((up (up w 20 0 (tn (w 5 0 0)) (a1 / 10)) 21 0 (tn ((up w 20 0 (tn (w 5 0 0)) (a1 / 10)) 5 0 0)) (rmI a1 10)) 5 0 0))) a2) 22 0 (tn ((3 * ((up (up (up w 20 0 (tn (w 5 0 0)) (a1 / 10)) 21 0 (tn ((up w 20 0 (tn (w 5 0 0)) (a1 / 10)) 5 0 0)) (rmI a1 10)) 22 0 (tn (3 * ((up (up w 20 0 (tn (w 5 0 0)) (a1 / 10)) 21 0 (tn ((up w 20 0 (tn (w 5 0 0)) (a1 / 10)) 5 0 0)) (rmI a1 10)) 5 0 0))) a2) 5 0 0)) + 1)) 0) 22 0 (tn ((3 * ((up (up (up (up w 20 0 (tn (w 5 0 0)) (a1 / 10)) 21 0 (tn ((up w 20 0 (tn (w 5 0 0)) (a1 / 10)) 5 0 0)) (rmI a1 10)) 22 0 (tn (3 * ((up (up w 20 0 (tn (w 5 0 0)) (a1 / 10)) 21 0 (tn ((up w 20 0 (tn (w 5 0 0)) (a1 / 10)) 5 0 0)) (rmI a1 10)) 5 0 0))) a2) 22 0 (tn ((3 * ((up (up (up w 20 0 (tn (w 5 0 0)) (a1 / 10)) 21 0 (tn ((up w 20 0 (tn (w 5 0 0)) (a1 / 10)) 5 0 0)) (rmI a1 10)) 22 0 (tn (3 * ((up (up w 20 0 (tn (w 5 0 0)) (a1 / 10)) 21 0 (tn ((up w 20 0 (tn (w 5 0 0)) (a1 / 10)) 5 0 0)) (rmI a1 10)) 5 0 0))) a2) 5 0 0)) + 1)) 0) 5 0 0)) + 2)) 50) 5 0 0) + 1)) (P := (¬ (10 : Int32) = 0) ∧ (inB (w 5 0 0) 6) ∧ (¬ (10 : Int32) = 0) ∧ (inB ((up w 20 0 (tn (w 5 0 0)) (a1 / 10)) 5 0 0) 6) ∧ (inB (3 * ((up (up w 20 0 (tn (w 5 0 0)) (a1 / 10)) 21 0 (tn ((up w 20 0 (tn (w 5 0 0)) (a1 / 10)) 5 0 0)) (rmI a1 10)) 5 0 0)) 18) ∧ (inB ((3 * ((up (up (up w 20 0 (tn (w 5 0 0)) (a1 / 10)) 21 0 (tn ((up w 20 0 (tn (w 5 0 0)) (a1 / 10)) 5 0 0)) (rmI a1 10)) 22 0 (tn (3 * ((up (up w 20 0 (tn (w 5 0 0)) (a1 / 10)) 21 0 (tn ((up w 20 0 (tn (w 5 0 0)) (a1 / 10)) 5 0 0)) (rmI a1 10)) 5 0 0))) a2) 5 0 0)) + 1) 18) ∧ (inB ((3 * ((up (up (up (up w 20 0 (tn (w 5 0 0)) (a1 / 10)) 21 0 (tn ((up w 20 0 (tn (w 5 0 0)) (a1 / 10)) 5 0 0)) (rmI a1 10)) 22 0 (tn (3 * ((up (up w 20 0 (tn (w 5 0 0)) (a1 / 10)) 21 0 (tn ((up w 20 0 (tn (w 5 0 0)) (a1 / 10)) 5 0 0)) (rmI a1 10)) 5 0 0))) a2) 22 0 (tn ((3 * ((up (up (up w 20 0 (tn (w 5 0 0)) (a1 / 10)) 21 0 (tn ((up w 20 0 (tn (w 5 0 0)) (a1 / 10)) 5 0 0)) (rmI a1 10)) 22 0 (tn (3 * ((up (up w 20 0 (tn (w 5 0 0)) (a1 / 10)) 21 0 (tn ((up w 20 0 (tn (w 5 0 0)) (a1 / 10)) 5 0 0)) (rmI a1 10)) 5 0 0))) a2) 5 0 0)) + 1)) 0) 5 0 0)) + 2) 18) ∧ True) [(.aload_n 0, 0, 0, 0, 0), (.getfield 7, 5, 1, 0, 0), (.aload_n 0, 0, 0, 0, 0), (.getfield 69, 5, 0, 0, 0), (.iload_n 1, 0, 0, 0, 0), (.bipush 10, 0, 0, 10, 0), (.idiv, 0, 0, 0, 0), (.iastore, 0, 0, 0, 0), (.aload_n 0, 0, 0, 0, 0), (.getfield 13, 5, 2, 0, 0), (.aload_n 0, 0, 0, 0, 0), (.getfield 69, 5, 0, 0, 0), (.iload_n 1, 0, 0, 0, 0), (.bipush 10, 0, 0, 10, 0), (.irem, 0, 0, 0, 0), (.iastore, 0, 0, 0, 0), (.aload_n 0, 0, 0, 0, 0), (.getfield 16, 5, 3, 0, 0), (.iconst 3, 0, 0, 3, 0), (.aload_n 0, 0, 0, 0, 0), (.getfield 69, 5, 0, 0, 0), (.imul, 0, 0, 0, 0), (.iload_n 2, 0, 0, 0, 0), (.iastore, 0, 0, 0, 0), (.aload_n 0, 0, 0, 0, 0), (.getfield 16, 5, 3, 0, 0), (.iconst 3, 0, 0, 3, 0), (.aload_n 0, 0, 0, 0, 0), (.getfield 69, 5, 0, 0, 0), (.imul, 0, 0, 0, 0), (.iconst 1, 0, 0, 1, 0), (.iadd, 0, 0, 0, 0), (.iconst 0, 0, 0, 0, 0), (.iastore, 0, 0, 0, 0), (.aload_n 0, 0, 0, 0, 0), (.getfield 16, 5, 3, 0, 0), (.iconst 3, 0, 0, 3, 0), (.aload_n 0, 0, 0, 0, 0), (.getfield 69, 5, 0, 0, 0), (.imul, 0, 0, 0, 0), (.iconst 2, 0, 0, 2, 0), (.iadd, 0, 0, 0, 0), (.bipush 50, 0, 0, 50, 0), (.iastore, 0, 0, 0, 0), (.aload_n 0, 0, 0, 0, 0), (.dup, 0, 0, 0, 0), (.getfield 69, 5, 0, 0, 0), (.iconst 1, 0, 0, 1, 0), (.iadd, 0, 0, 0, 0), (.putfield 69, 5, 0, 0, 0), (.aload_n 0, 0, 0, 0, 0), (.getfield 69, 5, 0, 0, 0), (.iconst 1, 0, 0, 1, 0), (.isub, 0, 0, 0, 0)] (by decide +kernel) rfl ⟨h4, h5, h6, h7, h8, h9, h10, trivial⟩ ?_
        exact GE_iret rfl (by decide +kernel)
      · refine GE_run flG_T (pc1 := 34) (L1 := [some (.inr (.inr (some (5, 0)))), some (.inl a1), some (.inl a2)]) (S1 := [.inl (-4)]) (w1 := w) (P := True) [(.bipush (-4), 0, 0, -4, 0)] (by decide +kernel) rfl trivial ?_
        exact GE_iret rfl (by decide +kernel)
    · refine GE_run flG_T (pc1 := 22) (L1 := [some (.inr (.inr (some (5, 0)))), some (.inl a1), some (.inl a2)]) (S1 := [.inl (-2)]) (w1 := w) (P := True) [(.bipush (-2), 0, 0, -2, 0)] (by decide +kernel) rfl trivial ?_
      exact GE_iret rfl (by decide +kernel)
abbrev mm_X5_put : MI := (RX5, cX5_put, 5, (some .int), ftp_X5.map (fun q => q.1), ctp_X5.map (fun q => q.1), clp_X5.map (fun q => q.1))
noncomputable def j_X5_put_34   (x1 : Int32) (x2 : Int32) (x3 : Int32) (s0 : Int32) (s1 : Int32) (s2 : Int32) (w : Mem) : Option (Int32 × Mem) := if (rng s2 s1 s0) = 0 then (some ((-7), w)) else (if inB ((3 * x1) + x2) 18 then (if inB ((3 * x1) + x2) 18 then (some (w 22 0 (tn ((3 * x1) + x2)), up w 22 0 (tn ((3 * x1) + x2)) x3)) else none) else none)
set_option maxRecDepth 100000 in
theorem j_X5_put_34_ok (l : Launch) (X : XC)   (x1 : Int32) (x2 : Int32) (x3 : Int32) (s0 : Int32) (s1 : Int32) (s2 : Int32)   (w : Mem) : GE l X mm_X5_put 2 emI 57 flT (j_X5_put_34 x1 x2 x3 s0 s1 s2 w) 34 [some (.inr (.inr (some (5, 0)))), some (.inl x1), some (.inl x2), some (.inl x3), none] [.inl s0, .inl s1, .inl s2] w := by
  unfold j_X5_put_34
  refine GE_callSIp (As := [.inl s2, .inl s1, .inl s0]) (S := []) (p_X5_in l X s2 s1 s0 w) ⟨me_X5_in, ms_X5_in, lk_X5_72⟩ (by decide +kernel) rfl (by decide) (by decide) (Nat.le_of_ble_eq_true rfl) ?_
  refine GE_ifN (k := .ne) (off := 6) (tgt := 43) (by decide +kernel) (by decide) (cnd_ne _ _) (fun c4 => ?_) (fun c4 => ?_)
  · refine GE_chk (fun h5 => ?_)
    refine GE_chk (fun h6 => ?_)
    refine GE_run flG_T (pc1 := 68) (L1 := [some (.inr (.inr (some (5, 0)))), some (.inl x1), some (.inl x2), some (.inl x3), some (.inl (w 22 0 (tn ((3 * x1) + x2))))]) (S1 := [.inl (w 22 0 (tn ((3 * x1) + x2)))]) (w1 := up w 22 0 (tn ((3 * x1) + x2)) x3) (P := (inB ((3 * x1) + x2) 18) ∧ (inB ((3 * x1) + x2) 18) ∧ True) [(.aload_n 0, 0, 0, 0, 0), (.getfield 16, 5, 3, 0, 0), (.iconst 3, 0, 0, 3, 0), (.iload_n 1, 0, 0, 0, 0), (.imul, 0, 0, 0, 0), (.iload_n 2, 0, 0, 0, 0), (.iadd, 0, 0, 0, 0), (.iaload, 0, 0, 0, 0), (.istore 4, 0, 0, 0, 0), (.aload_n 0, 0, 0, 0, 0), (.getfield 16, 5, 3, 0, 0), (.iconst 3, 0, 0, 3, 0), (.iload_n 1, 0, 0, 0, 0), (.imul, 0, 0, 0, 0), (.iload_n 2, 0, 0, 0, 0), (.iadd, 0, 0, 0, 0), (.iload_n 3, 0, 0, 0, 0), (.iastore, 0, 0, 0, 0), (.iload 4, 0, 0, 0, 0)] (by decide +kernel) rfl ⟨h5, h6, trivial⟩ ?_
    exact GE_iret rfl (by decide +kernel)
  · refine GE_run flG_T (pc1 := 42) (L1 := [some (.inr (.inr (some (5, 0)))), some (.inl x1), some (.inl x2), some (.inl x3), none]) (S1 := [.inl (-7)]) (w1 := w) (P := True) [(.bipush (-7), 0, 0, -7, 0)] (by decide +kernel) rfl trivial ?_
    exact GE_iret rfl (by decide +kernel)
noncomputable def f_X5_put (a1 : Int32) (a2 : Int32) (a3 : Int32) (w : Mem) : Option (Int32 × Mem) := if (rng a1 0 (w 5 0 0 - 1)) = 0 then (some ((-5), w)) else (if (rng a2 0 2) = 0 then (some ((-7), w)) else (if a2 = 2 then (j_X5_put_34 a1 a2 a3 99 0 a3 w) else (j_X5_put_34 a1 a2 a3 65535 0 a3 w)))
set_option maxRecDepth 100000 in
theorem t_X5_put (l : Launch) (X : XC)  (a1 : Int32) (a2 : Int32) (a3 : Int32) (w : Mem) : Ct l X 2 yX5_put cX5_put 5 (some .int) emI [.inr (.inr (some (5, 0))), .inl a1, .inl a2, .inl a3] 57 flT w (f_X5_put a1 a2 a3 w) := by
  refine Ct_of (mi := mm_X5_put) (mik_X5 _ _ _) me_X5_put rfl (okAs_cons (by decide) (okAs_cons rfl (okAs_cons rfl (okAs_cons rfl okAs_nil)))) (Nat.le_of_ble_eq_true rfl) ?_
  unfold f_X5_put
  refine GE_run flG_T (pc1 := 2) (L1 := [some (.inr (.inr (some (5, 0)))), some (.inl a1), some (.inl a2), some (.inl a3), none]) (S1 := [.inl a1, .inr (.inr (some (5, 0)))]) (w1 := w) (P := True) [(.aload_n 0, 0, 0, 0, 0), (.iload_n 1, 0, 0, 0, 0)] (by decide +kernel) rfl trivial ?_
  refine GE_callVIp (As := [.inl a1]) (k := 5) (i := 0) (S := []) (p_X5_isOne l X a1 w) (by decide) ⟨me_X5_isOne, mi_X5_isOne, mv_X5_isOne, lk_X5_162⟩ rfl (by decide +kernel) rfl (by decide) (by decide) (Nat.le_of_ble_eq_true rfl) ?_
  refine GE_ifN (k := .ne) (off := 6) (tgt := 11) (by decide +kernel) (by decide) (cnd_ne _ _) (fun c1 => ?_) (fun c1 => ?_)
  · refine GE_run flG_T (pc1 := 14) (L1 := [some (.inr (.inr (some (5, 0)))), some (.inl a1), some (.inl a2), some (.inl a3), none]) (S1 := [.inl 2, .inl 0, .inl a2]) (w1 := w) (P := True) [(.iload_n 2, 0, 0, 0, 0), (.iconst 0, 0, 0, 0, 0), (.iconst 2, 0, 0, 2, 0)] (by decide +kernel) rfl trivial ?_
    refine GE_callSIp (As := [.inl a2, .inl 0, .inl 2]) (S := []) (p_X5_in l X a2 0 2 w) ⟨me_X5_in, ms_X5_in, lk_X5_72⟩ (by decide +kernel) rfl (by decide) (by decide) (Nat.le_of_ble_eq_true rfl) ?_
    refine GE_if (k := .eq) (off := 23) (tgt := 40) (by decide +kernel) (by decide) (cnd_eq _ _) (fun c2 => ?_) (fun c2 => ?_)
    · refine GE_run flG_T (pc1 := 42) (L1 := [some (.inr (.inr (some (5, 0)))), some (.inl a1), some (.inl a2), some (.inl a3), none]) (S1 := [.inl (-7)]) (w1 := w) (P := True) [(.bipush (-7), 0, 0, -7, 0)] (by decide +kernel) rfl trivial ?_
      exact GE_iret rfl (by decide +kernel)
    · refine GE_run flG_T (pc1 := 24) (L1 := [some (.inr (.inr (some (5, 0)))), some (.inl a1), some (.inl a2), some (.inl a3), none]) (S1 := [.inl 2, .inl a2, .inl 0, .inl a3]) (w1 := w) (P := True) [(.iload_n 3, 0, 0, 0, 0), (.iconst 0, 0, 0, 0, 0), (.iload_n 2, 0, 0, 0, 0), (.iconst 2, 0, 0, 2, 0)] (by decide +kernel) rfl trivial ?_
      refine GE_icmpN (k := .ne) (off := 8) (tgt := 32) (by decide +kernel) (by decide) (cnd_ne _ _) (fun c3 => ?_) (fun c3 => ?_)
      · refine GE_run flG_T (pc1 := 34) (L1 := [some (.inr (.inr (some (5, 0)))), some (.inl a1), some (.inl a2), some (.inl a3), none]) (S1 := [.inl 65535, .inl 0, .inl a3]) (w1 := w) (P := True) [(.ldc 92, 0, 0, 65535, 0)] (by decide +kernel) rfl trivial ?_
        exact GE_weak [true, true, true, true, false] (j_X5_put_34_ok l X a1 a2 a3 65535 0 a3 w)
      · refine GE_run flG_T (pc1 := 34) (L1 := [some (.inr (.inr (some (5, 0)))), some (.inl a1), some (.inl a2), some (.inl a3), none]) (S1 := [.inl 99, .inl 0, .inl a3]) (w1 := w) (P := True) [(.bipush 99, 0, 0, 99, 0), (.goto 5, 0, 0, 0, 0)] (by decide +kernel) rfl trivial ?_
        exact GE_weak [true, true, true, true, false] (j_X5_put_34_ok l X a1 a2 a3 99 0 a3 w)
  · refine GE_run flG_T (pc1 := 10) (L1 := [some (.inr (.inr (some (5, 0)))), some (.inl a1), some (.inl a2), some (.inl a3), none]) (S1 := [.inl (-5)]) (w1 := w) (P := True) [(.bipush (-5), 0, 0, -5, 0)] (by decide +kernel) rfl trivial ?_
    exact GE_iret rfl (by decide +kernel)
abbrev mm_X5_letsOf : MI := (RX5, cX5_letsOf, 8, (some .int), ftp_X5.map (fun q => q.1), ctp_X5.map (fun q => q.1), clp_X5.map (fun q => q.1))
noncomputable def j_X5_letsOf_146   (x1 : Int32) (x7 : Int32) (w : Mem) : Option (Int32 × Mem) := if inB (3 * x1) 18 then (some (nthF (w 22 0 (tn (3 * x1))) x7, w)) else none
set_option maxRecDepth 100000 in
theorem j_X5_letsOf_146_ok (l : Launch) (X : XC)   (x1 : Int32) (x7 : Int32)   (w : Mem) : GE l X mm_X5_letsOf 3 emI 57 flT (j_X5_letsOf_146 x1 x7 w) 146 [some (.inr (.inr (some (5, 0)))), some (.inl x1), none, none, none, none, none, some (.inl x7)] [] w := by
  unfold j_X5_letsOf_146
  refine GE_chk (fun h8 => ?_)
  refine GE_run flG_T (pc1 := 156) (L1 := [some (.inr (.inr (some (5, 0)))), some (.inl x1), none, none, none, none, none, some (.inl x7)]) (S1 := [.inl x7, .inl (w 22 0 (tn (3 * x1)))]) (w1 := w) (P := (inB (3 * x1) 18) ∧ True) [(.aload_n 0, 0, 0, 0, 0), (.getfield 16, 5, 3, 0, 0), (.iconst 3, 0, 0, 3, 0), (.iload_n 1, 0, 0, 0, 0), (.imul, 0, 0, 0, 0), (.iaload, 0, 0, 0, 0), (.iload 7, 0, 0, 0, 0)] (by decide +kernel) rfl ⟨h8, trivial⟩ ?_
  refine GE_callSIp (As := [.inl (w 22 0 (tn (3 * x1))), .inl x7]) (S := []) (p_X5_nthOf l X (w 22 0 (tn (3 * x1))) x7 w) ⟨me_X5_nthOf, ms_X5_nthOf, lk_X5_171⟩ (by decide +kernel) rfl (by decide) (by decide) (Nat.le_of_ble_eq_true rfl) ?_
  exact GE_iret rfl (by decide +kernel)
noncomputable def j_X5_letsOf_142   (x1 : Int32) (x5 : Int32) (w : Mem) : Option (Int32 × Mem) := j_X5_letsOf_146 x1 x5 w
set_option maxRecDepth 100000 in
theorem j_X5_letsOf_142_ok (l : Launch) (X : XC)   (x1 : Int32) (x5 : Int32)   (w : Mem) : GE l X mm_X5_letsOf 3 emI 57 flT (j_X5_letsOf_142 x1 x5 w) 142 [some (.inr (.inr (some (5, 0)))), some (.inl x1), none, none, none, some (.inl x5), none, none] [] w := by
  unfold j_X5_letsOf_142
  refine GE_run flG_T (pc1 := 146) (L1 := [some (.inr (.inr (some (5, 0)))), some (.inl x1), none, none, none, some (.inl x5), none, some (.inl x5)]) (S1 := []) (w1 := w) (P := True) [(.iload 5, 0, 0, 0, 0), (.istore 7, 0, 0, 0, 0)] (by decide +kernel) rfl trivial ?_
  exact GE_weak [true, true, false, false, false, false, false, true] (j_X5_letsOf_146_ok l X x1 x5 w)
noncomputable def j_X5_letsOf_124   (x1 : Int32) (s0 : Int32) (w : Mem) : Option (Int32 × Mem) := j_X5_letsOf_146 x1 s0 w
set_option maxRecDepth 100000 in
theorem j_X5_letsOf_124_ok (l : Launch) (X : XC)   (x1 : Int32) (s0 : Int32)   (w : Mem) : GE l X mm_X5_letsOf 3 emI 57 flT (j_X5_letsOf_124 x1 s0 w) 124 [some (.inr (.inr (some (5, 0)))), some (.inl x1), none, none, none, none, none, none] [.inl s0] w := by
  unfold j_X5_letsOf_124
  refine GE_run flG_T (pc1 := 146) (L1 := [some (.inr (.inr (some (5, 0)))), some (.inl x1), none, none, none, none, none, some (.inl s0)]) (S1 := []) (w1 := w) (P := True) [(.istore 7, 0, 0, 0, 0), (.goto 20, 0, 0, 0, 0)] (by decide +kernel) rfl trivial ?_
  exact GE_weak [true, true, false, false, false, false, false, true] (j_X5_letsOf_146_ok l X x1 s0 w)
noncomputable def j_X5_letsOf_122   (x1 : Int32) (x6 : Int32) (w : Mem) : Option (Int32 × Mem) := j_X5_letsOf_124 x1 x6 w
set_option maxRecDepth 100000 in
theorem j_X5_letsOf_122_ok (l : Launch) (X : XC)   (x1 : Int32) (x6 : Int32)   (w : Mem) : GE l X mm_X5_letsOf 3 emI 57 flT (j_X5_letsOf_122 x1 x6 w) 122 [some (.inr (.inr (some (5, 0)))), some (.inl x1), none, none, none, none, some (.inl x6), none] [] w := by
  unfold j_X5_letsOf_122
  refine GE_run flG_T (pc1 := 124) (L1 := [some (.inr (.inr (some (5, 0)))), some (.inl x1), none, none, none, none, some (.inl x6), none]) (S1 := [.inl x6]) (w1 := w) (P := True) [(.iload 6, 0, 0, 0, 0)] (by decide +kernel) rfl trivial ?_
  exact GE_weak [true, true, false, false, false, false, false, false] (j_X5_letsOf_124_ok l X x1 x6 w)
noncomputable def j_X5_letsOf_47   (x1 : Int32) (x3 : Int32) (s0 : Int32) (w : Mem) : Option (Int32 × Mem) := if inB x1 6 then (swE (w 20 0 (tn x1)) 1 [j_X5_letsOf_146 x1 ((x3 - 1) - s0) w, j_X5_letsOf_142 x1 s0 w, if x3 ≤ 1 then (j_X5_letsOf_122 x1 ((x3 - 1) - s0) w) else (if ((x3 - 1) - s0) < 1 then (j_X5_letsOf_124 x1 1 w) else (j_X5_letsOf_122 x1 ((x3 - 1) - s0) w)), j_X5_letsOf_142 x1 s0 w, if inB x1 6 then (if ¬ (x3 : Int32) = 0 then (j_X5_letsOf_146 x1 (rmI (w 21 0 (tn x1)) x3) w) else none) else none] (j_X5_letsOf_142 x1 s0 w)) else none
set_option maxRecDepth 100000 in
theorem j_X5_letsOf_47_ok (l : Launch) (X : XC)   (x1 : Int32) (x3 : Int32) (s0 : Int32)   (w : Mem) : GE l X mm_X5_letsOf 3 emI 57 flT (j_X5_letsOf_47 x1 x3 s0 w) 47 [some (.inr (.inr (some (5, 0)))), some (.inl x1), none, some (.inl x3), none, none, none, none] [.inl s0] w := by
  unfold j_X5_letsOf_47
  refine GE_chk (fun h7 => ?_)
  refine GE_run flG_T (pc1 := 67) (L1 := [some (.inr (.inr (some (5, 0)))), some (.inl x1), none, some (.inl x3), none, some (.inl s0), some (.inl ((x3 - 1) - s0)), some (.inl s0)]) (S1 := [.inl (w 20 0 (tn x1))]) (w1 := w) (P := (inB x1 6) ∧ True) [(.istore 5, 0, 0, 0, 0), (.iload_n 3, 0, 0, 0, 0), (.iconst 1, 0, 0, 1, 0), (.isub, 0, 0, 0, 0), (.iload 5, 0, 0, 0, 0), (.isub, 0, 0, 0, 0), (.istore 6, 0, 0, 0, 0), (.iload 5, 0, 0, 0, 0), (.istore 7, 0, 0, 0, 0), (.aload_n 0, 0, 0, 0, 0), (.getfield 7, 5, 1, 0, 0), (.iload_n 1, 0, 0, 0, 0), (.iaload, 0, 0, 0, 0)] (by decide +kernel) rfl ⟨h7, trivial⟩ ?_
  refine GE_swm (dflt := 75) (lo := 1) (hi := 5) (offs := #[33, 75, 40, 75, 62]) (len := 33) (dt := 142) (mm := 5) [100, 142, 107, 142, 129] (by decide +kernel) rfl (by decide +kernel) (And.intro (fun _ => ?_) (And.intro (fun _ => ?_) (And.intro (fun _ => ?_) (And.intro (fun _ => ?_) (And.intro (fun _ => ?_) (trivial)))))) ?_
  · refine GE_run flG_T (pc1 := 146) (L1 := [some (.inr (.inr (some (5, 0)))), some (.inl x1), none, some (.inl x3), none, some (.inl s0), some (.inl ((x3 - 1) - s0)), some (.inl ((x3 - 1) - s0))]) (S1 := []) (w1 := w) (P := True) [(.iload 6, 0, 0, 0, 0), (.istore 7, 0, 0, 0, 0), (.goto 42, 0, 0, 0, 0)] (by decide +kernel) rfl trivial ?_
    exact GE_weak [true, true, false, false, false, false, false, true] (j_X5_letsOf_146_ok l X x1 ((x3 - 1) - s0) w)
  · exact GE_weak [true, true, false, false, false, true, false, false] (j_X5_letsOf_142_ok l X x1 s0 w)
  · refine GE_run flG_T (pc1 := 109) (L1 := [some (.inr (.inr (some (5, 0)))), some (.inl x1), none, some (.inl x3), none, some (.inl s0), some (.inl ((x3 - 1) - s0)), some (.inl s0)]) (S1 := [.inl 1, .inl x3]) (w1 := w) (P := True) [(.iload_n 3, 0, 0, 0, 0), (.iconst 1, 0, 0, 1, 0)] (by decide +kernel) rfl trivial ?_
    refine GE_icmp (k := .le) (off := 13) (tgt := 122) (by decide +kernel) (by decide) (cnd_le _ _) (fun c9 => ?_) (fun c9 => ?_)
    · exact GE_weak [true, true, false, false, false, false, true, false] (j_X5_letsOf_122_ok l X x1 ((x3 - 1) - s0) w)
    · refine GE_run flG_T (pc1 := 115) (L1 := [some (.inr (.inr (some (5, 0)))), some (.inl x1), none, some (.inl x3), none, some (.inl s0), some (.inl ((x3 - 1) - s0)), some (.inl s0)]) (S1 := [.inl 1, .inl ((x3 - 1) - s0)]) (w1 := w) (P := True) [(.iload 6, 0, 0, 0, 0), (.iconst 1, 0, 0, 1, 0)] (by decide +kernel) rfl trivial ?_
      refine GE_icmpN (k := .ge) (off := 7) (tgt := 122) (by decide +kernel) (by decide) (cnd_ge _ _) (fun c10 => ?_) (fun c10 => ?_)
      · exact GE_weak [true, true, false, false, false, false, true, false] (j_X5_letsOf_122_ok l X x1 ((x3 - 1) - s0) w)
      · refine GE_run flG_T (pc1 := 124) (L1 := [some (.inr (.inr (some (5, 0)))), some (.inl x1), none, some (.inl x3), none, some (.inl s0), some (.inl ((x3 - 1) - s0)), some (.inl s0)]) (S1 := [.inl 1]) (w1 := w) (P := True) [(.iconst 1, 0, 0, 1, 0), (.goto 5, 0, 0, 0, 0)] (by decide +kernel) rfl trivial ?_
        exact GE_weak [true, true, false, false, false, false, false, false] (j_X5_letsOf_124_ok l X x1 1 w)
  · exact GE_weak [true, true, false, false, false, true, false, false] (j_X5_letsOf_142_ok l X x1 s0 w)
  · refine GE_chk (fun h11 => ?_)
    refine GE_chk (fun h12 => ?_)
    refine GE_run flG_T (pc1 := 146) (L1 := [some (.inr (.inr (some (5, 0)))), some (.inl x1), none, some (.inl x3), none, some (.inl s0), some (.inl ((x3 - 1) - s0)), some (.inl (rmI (w 21 0 (tn x1)) x3))]) (S1 := []) (w1 := w) (P := (inB x1 6) ∧ (¬ (x3 : Int32) = 0) ∧ True) [(.aload_n 0, 0, 0, 0, 0), (.getfield 13, 5, 2, 0, 0), (.iload_n 1, 0, 0, 0, 0), (.iaload, 0, 0, 0, 0), (.iload_n 3, 0, 0, 0, 0), (.irem, 0, 0, 0, 0), (.istore 7, 0, 0, 0, 0), (.goto 7, 0, 0, 0, 0)] (by decide +kernel) rfl ⟨h11, h12, trivial⟩ ?_
    exact GE_weak [true, true, false, false, false, false, false, true] (j_X5_letsOf_146_ok l X x1 (rmI (w 21 0 (tn x1)) x3) w)
  · exact GE_weak [true, true, false, false, false, true, false, false] (j_X5_letsOf_142_ok l X x1 s0 w)
noncomputable def f_X5_letsOf (a1 : Int32) (a2 : Int32) (w : Mem) : Option (Int32 × Mem) := if inB (3 * a1) 18 then (if (bitsF (w 22 0 (tn (3 * a1)))) = 0 then (some ((-1), w)) else (Option.bind (f_X5_asksOf 0 a1 a2 w) (fun r3 => if ¬ (bitsF (w 22 0 (tn (3 * a1))) : Int32) = 0 then (if (rmI r3.1 (bitsF (w 22 0 (tn (3 * a1))))) < 0 then (if ¬ (bitsF (w 22 0 (tn (3 * a1))) : Int32) = 0 then (j_X5_letsOf_47 a1 (bitsF (w 22 0 (tn (3 * a1)))) ((rmI r3.1 (bitsF (w 22 0 (tn (3 * a1))))) + (bitsF (w 22 0 (tn (3 * a1))))) r3.2) else none) else (if ¬ (bitsF (w 22 0 (tn (3 * a1))) : Int32) = 0 then (j_X5_letsOf_47 a1 (bitsF (w 22 0 (tn (3 * a1)))) (rmI r3.1 (bitsF (w 22 0 (tn (3 * a1))))) r3.2) else none)) else none))) else none
set_option maxRecDepth 100000 in
theorem t_X5_letsOf (l : Launch) (X : XC)  (a1 : Int32) (a2 : Int32) (w : Mem) : Ct l X 3 yX5_letsOf cX5_letsOf 8 (some .int) emI [.inr (.inr (some (5, 0))), .inl a1, .inl a2] 57 flT w (f_X5_letsOf a1 a2 w) := by
  refine Ct_of (mi := mm_X5_letsOf) (mik_X5 _ _ _) me_X5_letsOf rfl (okAs_cons (by decide) (okAs_cons rfl (okAs_cons rfl okAs_nil))) (Nat.le_of_ble_eq_true rfl) ?_
  unfold f_X5_letsOf
  refine GE_chk (fun h1 => ?_)
  refine GE_run flG_T (pc1 := 8) (L1 := [some (.inr (.inr (some (5, 0)))), some (.inl a1), some (.inl a2), none, none, none, none, none]) (S1 := [.inl (w 22 0 (tn (3 * a1)))]) (w1 := w) (P := (inB (3 * a1) 18) ∧ True) [(.aload_n 0, 0, 0, 0, 0), (.getfield 16, 5, 3, 0, 0), (.iconst 3, 0, 0, 3, 0), (.iload_n 1, 0, 0, 0, 0), (.imul, 0, 0, 0, 0), (.iaload, 0, 0, 0, 0)] (by decide +kernel) rfl ⟨h1, trivial⟩ ?_
  refine GE_callSIp (As := [.inl (w 22 0 (tn (3 * a1)))]) (S := []) (p_X5_bitsOf l X (w 22 0 (tn (3 * a1))) w) ⟨me_X5_bitsOf, ms_X5_bitsOf, lk_X5_79⟩ (by decide +kernel) rfl (by decide) (by decide) (Nat.le_of_ble_eq_true rfl) ?_
  refine GE_run flG_T (pc1 := 13) (L1 := [some (.inr (.inr (some (5, 0)))), some (.inl a1), some (.inl a2), some (.inl (bitsF (w 22 0 (tn (3 * a1))))), none, none, none, none]) (S1 := [.inl (bitsF (w 22 0 (tn (3 * a1))))]) (w1 := w) (P := True) [(.istore_n 3, 0, 0, 0, 0), (.iload_n 3, 0, 0, 0, 0)] (by decide +kernel) rfl trivial ?_
  refine GE_ifN (k := .ne) (off := 5) (tgt := 18) (by decide +kernel) (by decide) (cnd_ne _ _) (fun c2 => ?_) (fun c2 => ?_)
  · refine GE_run flG_T (pc1 := 22) (L1 := [some (.inr (.inr (some (5, 0)))), some (.inl a1), some (.inl a2), some (.inl (bitsF (w 22 0 (tn (3 * a1))))), none, none, none, none]) (S1 := [.inl a2, .inl a1, .inl 0, .inr (.inr (some (5, 0)))]) (w1 := w) (P := True) [(.aload_n 0, 0, 0, 0, 0), (.iconst 0, 0, 0, 0, 0), (.iload_n 1, 0, 0, 0, 0), (.iload_n 2, 0, 0, 0, 0)] (by decide +kernel) rfl trivial ?_
    refine GE_callVI (As := [.inl 0, .inl a1, .inl a2]) (k := 5) (i := 0) (S := []) (t_X5_asksOf l X 0 a1 a2 w) (by decide) ⟨me_X5_asksOf, mi_X5_asksOf, mv_X5_asksOf, lk_X5_168⟩ rfl (by decide +kernel) rfl (by decide) (by decide) (Nat.le_of_ble_eq_true rfl) (fun r3 _ => ?_)
    refine GE_chk (fun h4 => ?_)
    refine GE_run flG_T (pc1 := 31) (L1 := [some (.inr (.inr (some (5, 0)))), some (.inl a1), some (.inl a2), some (.inl (bitsF (w 22 0 (tn (3 * a1))))), some (.inl r3.1), none, none, none]) (S1 := [.inl (rmI r3.1 (bitsF (w 22 0 (tn (3 * a1)))))]) (w1 := r3.2) (P := (¬ (bitsF (w 22 0 (tn (3 * a1))) : Int32) = 0) ∧ True) [(.istore 4, 0, 0, 0, 0), (.iload 4, 0, 0, 0, 0), (.iload_n 3, 0, 0, 0, 0), (.irem, 0, 0, 0, 0)] (by decide +kernel) rfl ⟨h4, trivial⟩ ?_
    refine GE_ifN (k := .ge) (off := 12) (tgt := 43) (by decide +kernel) (by decide) (cnd_ge _ _) (fun c5 => ?_) (fun c5 => ?_)
    · refine GE_chk (fun h13 => ?_)
      refine GE_run flG_T (pc1 := 47) (L1 := [some (.inr (.inr (some (5, 0)))), some (.inl a1), some (.inl a2), some (.inl (bitsF (w 22 0 (tn (3 * a1))))), some (.inl r3.1), none, none, none]) (S1 := [.inl (rmI r3.1 (bitsF (w 22 0 (tn (3 * a1)))))]) (w1 := r3.2) (P := (¬ (bitsF (w 22 0 (tn (3 * a1))) : Int32) = 0) ∧ True) [(.iload 4, 0, 0, 0, 0), (.iload_n 3, 0, 0, 0, 0), (.irem, 0, 0, 0, 0)] (by decide +kernel) rfl ⟨h13, trivial⟩ ?_
      exact GE_weak [true, true, false, true, false, false, false, false] (j_X5_letsOf_47_ok l X a1 (bitsF (w 22 0 (tn (3 * a1)))) (rmI r3.1 (bitsF (w 22 0 (tn (3 * a1))))) r3.2)
    · refine GE_chk (fun h6 => ?_)
      refine GE_run flG_T (pc1 := 47) (L1 := [some (.inr (.inr (some (5, 0)))), some (.inl a1), some (.inl a2), some (.inl (bitsF (w 22 0 (tn (3 * a1))))), some (.inl r3.1), none, none, none]) (S1 := [.inl ((rmI r3.1 (bitsF (w 22 0 (tn (3 * a1))))) + (bitsF (w 22 0 (tn (3 * a1)))))]) (w1 := r3.2) (P := (¬ (bitsF (w 22 0 (tn (3 * a1))) : Int32) = 0) ∧ True) [(.iload 4, 0, 0, 0, 0), (.iload_n 3, 0, 0, 0, 0), (.irem, 0, 0, 0, 0), (.iload_n 3, 0, 0, 0, 0), (.iadd, 0, 0, 0, 0), (.goto 7, 0, 0, 0, 0)] (by decide +kernel) rfl ⟨h6, trivial⟩ ?_
      exact GE_weak [true, true, false, true, false, false, false, false] (j_X5_letsOf_47_ok l X a1 (bitsF (w 22 0 (tn (3 * a1)))) ((rmI r3.1 (bitsF (w 22 0 (tn (3 * a1))))) + (bitsF (w 22 0 (tn (3 * a1))))) r3.2)
  · refine GE_run flG_T (pc1 := 17) (L1 := [some (.inr (.inr (some (5, 0)))), some (.inl a1), some (.inl a2), some (.inl (bitsF (w 22 0 (tn (3 * a1))))), none, none, none, none]) (S1 := [.inl (-1)]) (w1 := w) (P := True) [(.iconst (-1), 0, 0, -1, 0)] (by decide +kernel) rfl trivial ?_
    exact GE_iret rfl (by decide +kernel)
abbrev mm_X5_lucksOf : MI := (RX5, cX5_lucksOf, 5, (some .int), ftp_X5.map (fun q => q.1), ctp_X5.map (fun q => q.1), clp_X5.map (fun q => q.1))
noncomputable def j_X5_lucksOf_68   (x1 : Int32) (x3 : Int32) (x4 : Int32) (w : Mem) : Option (Int32 × Mem) := if x4 = 0 then (if inB x1 6 then (some (x3 - (w 21 0 (tn x1)), w)) else none) else (some (x3, w))
set_option maxRecDepth 100000 in
theorem j_X5_lucksOf_68_ok (l : Launch) (X : XC)   (x1 : Int32) (x3 : Int32) (x4 : Int32)   (w : Mem) : GE l X mm_X5_lucksOf 3 emI 57 flT (j_X5_lucksOf_68 x1 x3 x4 w) 68 [some (.inr (.inr (some (5, 0)))), some (.inl x1), none, some (.inl x3), some (.inl x4)] [] w := by
  unfold j_X5_lucksOf_68
  refine GE_run flG_T (pc1 := 70) (L1 := [some (.inr (.inr (some (5, 0)))), some (.inl x1), none, some (.inl x3), some (.inl x4)]) (S1 := [.inl x4]) (w1 := w) (P := True) [(.iload 4, 0, 0, 0, 0)] (by decide +kernel) rfl trivial ?_
  refine GE_if (k := .eq) (off := 7) (tgt := 77) (by decide +kernel) (by decide) (cnd_eq _ _) (fun c5 => ?_) (fun c5 => ?_)
  · refine GE_chk (fun h6 => ?_)
    refine GE_run flG_T (pc1 := 85) (L1 := [some (.inr (.inr (some (5, 0)))), some (.inl x1), none, some (.inl x3), some (.inl x4)]) (S1 := [.inl (x3 - (w 21 0 (tn x1)))]) (w1 := w) (P := (inB x1 6) ∧ True) [(.iload_n 3, 0, 0, 0, 0), (.aload_n 0, 0, 0, 0, 0), (.getfield 13, 5, 2, 0, 0), (.iload_n 1, 0, 0, 0, 0), (.iaload, 0, 0, 0, 0), (.isub, 0, 0, 0, 0)] (by decide +kernel) rfl ⟨h6, trivial⟩ ?_
    exact GE_iret rfl (by decide +kernel)
  · refine GE_run flG_T (pc1 := 85) (L1 := [some (.inr (.inr (some (5, 0)))), some (.inl x1), none, some (.inl x3), some (.inl x4)]) (S1 := [.inl x3]) (w1 := w) (P := True) [(.iload_n 3, 0, 0, 0, 0), (.goto 11, 0, 0, 0, 0)] (by decide +kernel) rfl trivial ?_
    exact GE_iret rfl (by decide +kernel)
noncomputable def j_X5_lucksOf_29   (x1 : Int32) (x3 : Int32) (s0 : Int32) (w : Mem) : Option (Int32 × Mem) := if inB x1 6 then (swE (w 20 0 (tn x1)) 1 [j_X5_lucksOf_68 x1 x3 s0 w, if ¬ (2 : Int32) = 0 then (some (x3 / 2, w)) else none, j_X5_lucksOf_68 x1 x3 s0 w, if s0 = 0 then (if ¬ (2 : Int32) = 0 then (some (x3 / 2, w)) else none) else (if inB x1 6 then (some (w 21 0 (tn x1), w)) else none)] (some (x3, w))) else none
set_option maxRecDepth 100000 in
theorem j_X5_lucksOf_29_ok (l : Launch) (X : XC)   (x1 : Int32) (x3 : Int32) (s0 : Int32)   (w : Mem) : GE l X mm_X5_lucksOf 3 emI 57 flT (j_X5_lucksOf_29 x1 x3 s0 w) 29 [some (.inr (.inr (some (5, 0)))), some (.inl x1), none, some (.inl x3), none] [.inl s0] w := by
  unfold j_X5_lucksOf_29
  refine GE_chk (fun h4 => ?_)
  refine GE_run flG_T (pc1 := 37) (L1 := [some (.inr (.inr (some (5, 0)))), some (.inl x1), none, some (.inl x3), some (.inl s0)]) (S1 := [.inl (w 20 0 (tn x1))]) (w1 := w) (P := (inB x1 6) ∧ True) [(.istore 4, 0, 0, 0, 0), (.aload_n 0, 0, 0, 0, 0), (.getfield 7, 5, 1, 0, 0), (.iload_n 1, 0, 0, 0, 0), (.iaload, 0, 0, 0, 0)] (by decide +kernel) rfl ⟨h4, trivial⟩ ?_
  refine GE_swm (dflt := 71) (lo := 1) (hi := 4) (offs := #[31, 49, 31, 53]) (len := 31) (dt := 108) (mm := 4) [68, 86, 68, 90] (by decide +kernel) rfl (by decide +kernel) (And.intro (fun _ => ?_) (And.intro (fun _ => ?_) (And.intro (fun _ => ?_) (And.intro (fun _ => ?_) (trivial))))) ?_
  · exact GE_weak [true, true, false, true, true] (j_X5_lucksOf_68_ok l X x1 x3 s0 w)
  · refine GE_chk (fun h7 => ?_)
    refine GE_run flG_T (pc1 := 89) (L1 := [some (.inr (.inr (some (5, 0)))), some (.inl x1), none, some (.inl x3), some (.inl s0)]) (S1 := [.inl (x3 / 2)]) (w1 := w) (P := (¬ (2 : Int32) = 0) ∧ True) [(.iload_n 3, 0, 0, 0, 0), (.iconst 2, 0, 0, 2, 0), (.idiv, 0, 0, 0, 0)] (by decide +kernel) rfl ⟨h7, trivial⟩ ?_
    exact GE_iret rfl (by decide +kernel)
  · exact GE_weak [true, true, false, true, true] (j_X5_lucksOf_68_ok l X x1 x3 s0 w)
  · refine GE_run flG_T (pc1 := 92) (L1 := [some (.inr (.inr (some (5, 0)))), some (.inl x1), none, some (.inl x3), some (.inl s0)]) (S1 := [.inl s0]) (w1 := w) (P := True) [(.iload 4, 0, 0, 0, 0)] (by decide +kernel) rfl trivial ?_
    refine GE_if (k := .eq) (off := 12) (tgt := 104) (by decide +kernel) (by decide) (cnd_eq _ _) (fun c8 => ?_) (fun c8 => ?_)
    · refine GE_chk (fun h9 => ?_)
      refine GE_run flG_T (pc1 := 107) (L1 := [some (.inr (.inr (some (5, 0)))), some (.inl x1), none, some (.inl x3), some (.inl s0)]) (S1 := [.inl (x3 / 2)]) (w1 := w) (P := (¬ (2 : Int32) = 0) ∧ True) [(.iload_n 3, 0, 0, 0, 0), (.iconst 2, 0, 0, 2, 0), (.idiv, 0, 0, 0, 0)] (by decide +kernel) rfl ⟨h9, trivial⟩ ?_
      exact GE_iret rfl (by decide +kernel)
    · refine GE_chk (fun h10 => ?_)
      refine GE_run flG_T (pc1 := 107) (L1 := [some (.inr (.inr (some (5, 0)))), some (.inl x1), none, some (.inl x3), some (.inl s0)]) (S1 := [.inl (w 21 0 (tn x1))]) (w1 := w) (P := (inB x1 6) ∧ True) [(.aload_n 0, 0, 0, 0, 0), (.getfield 13, 5, 2, 0, 0), (.iload_n 1, 0, 0, 0, 0), (.iaload, 0, 0, 0, 0), (.goto 6, 0, 0, 0, 0)] (by decide +kernel) rfl ⟨h10, trivial⟩ ?_
      exact GE_iret rfl (by decide +kernel)
  · refine GE_run flG_T (pc1 := 109) (L1 := [some (.inr (.inr (some (5, 0)))), some (.inl x1), none, some (.inl x3), some (.inl s0)]) (S1 := [.inl x3]) (w1 := w) (P := True) [(.iload_n 3, 0, 0, 0, 0)] (by decide +kernel) rfl trivial ?_
    exact GE_iret rfl (by decide +kernel)
noncomputable def f_X5_lucksOf (a1 : Int32) (a2 : Int32) (w : Mem) : Option (Int32 × Mem) := Option.bind (f_X5_asksOf 1 a1 a2 w) (fun r1 => if inB (3 * a1) 18 then (if ((shrI (r1.2 22 0 (tn (3 * a1))) a2) &&& 1) = 1 then (j_X5_lucksOf_29 a1 r1.1 1 r1.2) else (j_X5_lucksOf_29 a1 r1.1 0 r1.2)) else none)
set_option maxRecDepth 100000 in
theorem t_X5_lucksOf (l : Launch) (X : XC)  (a1 : Int32) (a2 : Int32) (w : Mem) : Ct l X 3 yX5_lucksOf cX5_lucksOf 5 (some .int) emI [.inr (.inr (some (5, 0))), .inl a1, .inl a2] 57 flT w (f_X5_lucksOf a1 a2 w) := by
  refine Ct_of (mi := mm_X5_lucksOf) (mik_X5 _ _ _) me_X5_lucksOf rfl (okAs_cons (by decide) (okAs_cons rfl (okAs_cons rfl okAs_nil))) (Nat.le_of_ble_eq_true rfl) ?_
  unfold f_X5_lucksOf
  refine GE_run flG_T (pc1 := 4) (L1 := [some (.inr (.inr (some (5, 0)))), some (.inl a1), some (.inl a2), none, none]) (S1 := [.inl a2, .inl a1, .inl 1, .inr (.inr (some (5, 0)))]) (w1 := w) (P := True) [(.aload_n 0, 0, 0, 0, 0), (.iconst 1, 0, 0, 1, 0), (.iload_n 1, 0, 0, 0, 0), (.iload_n 2, 0, 0, 0, 0)] (by decide +kernel) rfl trivial ?_
  refine GE_callVI (As := [.inl 1, .inl a1, .inl a2]) (k := 5) (i := 0) (S := []) (t_X5_asksOf l X 1 a1 a2 w) (by decide) ⟨me_X5_asksOf, mi_X5_asksOf, mv_X5_asksOf, lk_X5_168⟩ rfl (by decide +kernel) rfl (by decide) (by decide) (Nat.le_of_ble_eq_true rfl) (fun r1 _ => ?_)
  refine GE_chk (fun h2 => ?_)
  refine GE_run flG_T (pc1 := 21) (L1 := [some (.inr (.inr (some (5, 0)))), some (.inl a1), some (.inl a2), some (.inl r1.1), none]) (S1 := [.inl 1, .inl ((shrI (r1.2 22 0 (tn (3 * a1))) a2) &&& 1)]) (w1 := r1.2) (P := (inB (3 * a1) 18) ∧ True) [(.istore_n 3, 0, 0, 0, 0), (.aload_n 0, 0, 0, 0, 0), (.getfield 16, 5, 3, 0, 0), (.iconst 3, 0, 0, 3, 0), (.iload_n 1, 0, 0, 0, 0), (.imul, 0, 0, 0, 0), (.iaload, 0, 0, 0, 0), (.iload_n 2, 0, 0, 0, 0), (.ishr, 0, 0, 0, 0), (.iconst 1, 0, 0, 1, 0), (.iand, 0, 0, 0, 0), (.iconst 1, 0, 0, 1, 0)] (by decide +kernel) rfl ⟨h2, trivial⟩ ?_
  refine GE_icmpN (k := .ne) (off := 7) (tgt := 28) (by decide +kernel) (by decide) (cnd_ne _ _) (fun c3 => ?_) (fun c3 => ?_)
  · refine GE_run flG_T (pc1 := 29) (L1 := [some (.inr (.inr (some (5, 0)))), some (.inl a1), some (.inl a2), some (.inl r1.1), none]) (S1 := [.inl 0]) (w1 := r1.2) (P := True) [(.iconst 0, 0, 0, 0, 0)] (by decide +kernel) rfl trivial ?_
    exact GE_weak [true, true, false, true, false] (j_X5_lucksOf_29_ok l X a1 r1.1 0 r1.2)
  · refine GE_run flG_T (pc1 := 29) (L1 := [some (.inr (.inr (some (5, 0)))), some (.inl a1), some (.inl a2), some (.inl r1.1), none]) (S1 := [.inl 1]) (w1 := r1.2) (P := True) [(.iconst 1, 0, 0, 1, 0), (.goto 4, 0, 0, 0, 0)] (by decide +kernel) rfl trivial ?_
    exact GE_weak [true, true, false, true, false] (j_X5_lucksOf_29_ok l X a1 r1.1 1 r1.2)
abbrev mm_X5_takesOf : MI := (RX5, cX5_takesOf, 3, (some .int), ftp_X5.map (fun q => q.1), ctp_X5.map (fun q => q.1), clp_X5.map (fun q => q.1))
noncomputable def f_X5_takesOf (a1 : Int32) (w : Mem) : Option (Int32 × Mem) := Option.bind (f_X5_asksOf 2 a1 0 w) (fun r1 => if inB a1 6 then (swE (r1.2 20 0 (tn a1)) 2 [if inB a1 6 then (some (r1.1 + (r1.2 21 0 (tn a1)), r1.2)) else none, if ¬ (3 : Int32) = 0 then (if (rmI (r1.2 5 0 5) 3) = 0 then (some (r1.1, r1.2)) else (some (0, r1.2))) else none, if inB a1 6 then (some (2 * (r1.1 + (r1.2 21 0 (tn a1))), r1.2)) else none, some (1, r1.2)] (some (r1.1, r1.2))) else none)
set_option maxRecDepth 100000 in
theorem t_X5_takesOf (l : Launch) (X : XC)  (a1 : Int32) (w : Mem) : Ct l X 3 yX5_takesOf cX5_takesOf 3 (some .int) emI [.inr (.inr (some (5, 0))), .inl a1] 57 flT w (f_X5_takesOf a1 w) := by
  refine Ct_of (mi := mm_X5_takesOf) (mik_X5 _ _ _) me_X5_takesOf rfl (okAs_cons (by decide) (okAs_cons rfl okAs_nil)) (Nat.le_of_ble_eq_true rfl) ?_
  unfold f_X5_takesOf
  refine GE_run flG_T (pc1 := 4) (L1 := [some (.inr (.inr (some (5, 0)))), some (.inl a1), none]) (S1 := [.inl 0, .inl a1, .inl 2, .inr (.inr (some (5, 0)))]) (w1 := w) (P := True) [(.aload_n 0, 0, 0, 0, 0), (.iconst 2, 0, 0, 2, 0), (.iload_n 1, 0, 0, 0, 0), (.iconst 0, 0, 0, 0, 0)] (by decide +kernel) rfl trivial ?_
  refine GE_callVI (As := [.inl 2, .inl a1, .inl 0]) (k := 5) (i := 0) (S := []) (t_X5_asksOf l X 2 a1 0 w) (by decide) ⟨me_X5_asksOf, mi_X5_asksOf, mv_X5_asksOf, lk_X5_168⟩ rfl (by decide +kernel) rfl (by decide) (by decide) (Nat.le_of_ble_eq_true rfl) (fun r1 _ => ?_)
  refine GE_chk (fun h2 => ?_)
  refine GE_run flG_T (pc1 := 14) (L1 := [some (.inr (.inr (some (5, 0)))), some (.inl a1), some (.inl r1.1)]) (S1 := [.inl (r1.2 20 0 (tn a1))]) (w1 := r1.2) (P := (inB a1 6) ∧ True) [(.istore_n 2, 0, 0, 0, 0), (.aload_n 0, 0, 0, 0, 0), (.getfield 7, 5, 1, 0, 0), (.iload_n 1, 0, 0, 0, 0), (.iaload, 0, 0, 0, 0)] (by decide +kernel) rfl ⟨h2, trivial⟩ ?_
  refine GE_swm (dflt := 67) (lo := 2) (hi := 5) (offs := #[30, 39, 54, 65]) (len := 30) (dt := 81) (mm := 4) [44, 53, 68, 79] (by decide +kernel) rfl (by decide +kernel) (And.intro (fun _ => ?_) (And.intro (fun _ => ?_) (And.intro (fun _ => ?_) (And.intro (fun _ => ?_) (trivial))))) ?_
  · refine GE_chk (fun h3 => ?_)
    refine GE_run flG_T (pc1 := 52) (L1 := [some (.inr (.inr (some (5, 0)))), some (.inl a1), some (.inl r1.1)]) (S1 := [.inl (r1.1 + (r1.2 21 0 (tn a1)))]) (w1 := r1.2) (P := (inB a1 6) ∧ True) [(.iload_n 2, 0, 0, 0, 0), (.aload_n 0, 0, 0, 0, 0), (.getfield 13, 5, 2, 0, 0), (.iload_n 1, 0, 0, 0, 0), (.iaload, 0, 0, 0, 0), (.iadd, 0, 0, 0, 0)] (by decide +kernel) rfl ⟨h3, trivial⟩ ?_
    exact GE_iret rfl (by decide +kernel)
  · refine GE_chk (fun h4 => ?_)
    refine GE_run flG_T (pc1 := 59) (L1 := [some (.inr (.inr (some (5, 0)))), some (.inl a1), some (.inl r1.1)]) (S1 := [.inl (rmI (r1.2 5 0 5) 3)]) (w1 := r1.2) (P := (¬ (3 : Int32) = 0) ∧ True) [(.aload_n 0, 0, 0, 0, 0), (.getfield 83, 5, 5, 0, 0), (.iconst 3, 0, 0, 3, 0), (.irem, 0, 0, 0, 0)] (by decide +kernel) rfl ⟨h4, trivial⟩ ?_
    refine GE_ifN (k := .ne) (off := 7) (tgt := 66) (by decide +kernel) (by decide) (cnd_ne _ _) (fun c5 => ?_) (fun c5 => ?_)
    · refine GE_run flG_T (pc1 := 67) (L1 := [some (.inr (.inr (some (5, 0)))), some (.inl a1), some (.inl r1.1)]) (S1 := [.inl 0]) (w1 := r1.2) (P := True) [(.iconst 0, 0, 0, 0, 0)] (by decide +kernel) rfl trivial ?_
      exact GE_iret rfl (by decide +kernel)
    · refine GE_run flG_T (pc1 := 67) (L1 := [some (.inr (.inr (some (5, 0)))), some (.inl a1), some (.inl r1.1)]) (S1 := [.inl r1.1]) (w1 := r1.2) (P := True) [(.iload_n 2, 0, 0, 0, 0), (.goto 4, 0, 0, 0, 0)] (by decide +kernel) rfl trivial ?_
      exact GE_iret rfl (by decide +kernel)
  · refine GE_chk (fun h6 => ?_)
    refine GE_run flG_T (pc1 := 78) (L1 := [some (.inr (.inr (some (5, 0)))), some (.inl a1), some (.inl r1.1)]) (S1 := [.inl (2 * (r1.1 + (r1.2 21 0 (tn a1))))]) (w1 := r1.2) (P := (inB a1 6) ∧ True) [(.iconst 2, 0, 0, 2, 0), (.iload_n 2, 0, 0, 0, 0), (.aload_n 0, 0, 0, 0, 0), (.getfield 13, 5, 2, 0, 0), (.iload_n 1, 0, 0, 0, 0), (.iaload, 0, 0, 0, 0), (.iadd, 0, 0, 0, 0), (.imul, 0, 0, 0, 0)] (by decide +kernel) rfl ⟨h6, trivial⟩ ?_
    exact GE_iret rfl (by decide +kernel)
  · refine GE_run flG_T (pc1 := 80) (L1 := [some (.inr (.inr (some (5, 0)))), some (.inl a1), some (.inl r1.1)]) (S1 := [.inl 1]) (w1 := r1.2) (P := True) [(.iconst 1, 0, 0, 1, 0)] (by decide +kernel) rfl trivial ?_
    exact GE_iret rfl (by decide +kernel)
  · refine GE_run flG_T (pc1 := 82) (L1 := [some (.inr (.inr (some (5, 0)))), some (.inl a1), some (.inl r1.1)]) (S1 := [.inl r1.1]) (w1 := r1.2) (P := True) [(.iload_n 2, 0, 0, 0, 0)] (by decide +kernel) rfl trivial ?_
    exact GE_iret rfl (by decide +kernel)
abbrev mm_X5_told : MI := (RX5, cX5_told, 3, (some .int), ftp_X5.map (fun q => q.1), ctp_X5.map (fun q => q.1), clp_X5.map (fun q => q.1))
noncomputable def j_X5_told_56   (x1 : Int32) (x2 : Int32) (w : Mem) : Option (Int32 × Mem) := if inB ((3 * x1) + x2) 18 then (some (w 22 0 (tn ((3 * x1) + x2)), w)) else none
set_option maxRecDepth 100000 in
theorem j_X5_told_56_ok (l : Launch) (X : XC)   (x1 : Int32) (x2 : Int32)   (w : Mem) : GE l X mm_X5_told 4 emI 57 flT (j_X5_told_56 x1 x2 w) 56 [some (.inr (.inr (some (5, 0)))), some (.inl x1), some (.inl x2)] [] w := by
  unfold j_X5_told_56
  refine GE_chk (fun h2 => ?_)
  refine GE_run flG_T (pc1 := 66) (L1 := [some (.inr (.inr (some (5, 0)))), some (.inl x1), some (.inl x2)]) (S1 := [.inl (w 22 0 (tn ((3 * x1) + x2)))]) (w1 := w) (P := (inB ((3 * x1) + x2) 18) ∧ True) [(.aload_n 0, 0, 0, 0, 0), (.getfield 16, 5, 3, 0, 0), (.iconst 3, 0, 0, 3, 0), (.iload_n 1, 0, 0, 0, 0), (.imul, 0, 0, 0, 0), (.iload_n 2, 0, 0, 0, 0), (.iadd, 0, 0, 0, 0), (.iaload, 0, 0, 0, 0)] (by decide +kernel) rfl ⟨h2, trivial⟩ ?_
  exact GE_iret rfl (by decide +kernel)
noncomputable def f_X5_told (a1 : Int32) (a2 : Int32) (w : Mem) : Option (Int32 × Mem) := if (rng a1 0 (w 5 0 0 - 1)) = 0 then (some ((-5), w)) else (swE a2 0 [j_X5_told_56 a1 a2 w, j_X5_told_56 a1 a2 w, j_X5_told_56 a1 a2 w, if inB a1 6 then (some (w 20 0 (tn a1), w)) else none, if inB a1 6 then (some (w 21 0 (tn a1), w)) else none, if inB ((3 * a1) + 1) 18 then (if inB (3 * a1) 18 then (some ((w 22 0 (tn ((3 * a1) + 1))) &&& ((w 22 0 (tn (3 * a1))) ^^^ (-1)), w)) else none) else none, Option.bind (f_X5_takesOf a1 w) (fun r7 => some (r7.1, r7.2))] (some ((-7), w)))
set_option maxRecDepth 100000 in
theorem t_X5_told (l : Launch) (X : XC)  (a1 : Int32) (a2 : Int32) (w : Mem) : Ct l X 4 yX5_told cX5_told 3 (some .int) emI [.inr (.inr (some (5, 0))), .inl a1, .inl a2] 57 flT w (f_X5_told a1 a2 w) := by
  refine Ct_of (mi := mm_X5_told) (mik_X5 _ _ _) me_X5_told rfl (okAs_cons (by decide) (okAs_cons rfl (okAs_cons rfl okAs_nil))) (Nat.le_of_ble_eq_true rfl) ?_
  unfold f_X5_told
  refine GE_run flG_T (pc1 := 2) (L1 := [some (.inr (.inr (some (5, 0)))), some (.inl a1), some (.inl a2)]) (S1 := [.inl a1, .inr (.inr (some (5, 0)))]) (w1 := w) (P := True) [(.aload_n 0, 0, 0, 0, 0), (.iload_n 1, 0, 0, 0, 0)] (by decide +kernel) rfl trivial ?_
  refine GE_callVIp (As := [.inl a1]) (k := 5) (i := 0) (S := []) (p_X5_isOne l X a1 w) (by decide) ⟨me_X5_isOne, mi_X5_isOne, mv_X5_isOne, lk_X5_162⟩ rfl (by decide +kernel) rfl (by decide) (by decide) (Nat.le_of_ble_eq_true rfl) ?_
  refine GE_ifN (k := .ne) (off := 6) (tgt := 11) (by decide +kernel) (by decide) (cnd_ne _ _) (fun c1 => ?_) (fun c1 => ?_)
  · refine GE_run flG_T (pc1 := 12) (L1 := [some (.inr (.inr (some (5, 0)))), some (.inl a1), some (.inl a2)]) (S1 := [.inl a2]) (w1 := w) (P := True) [(.iload_n 2, 0, 0, 0, 0)] (by decide +kernel) rfl trivial ?_
    refine GE_swm (dflt := 97) (lo := 0) (hi := 6) (offs := #[44, 44, 44, 55, 62, 69, 91]) (len := 44) (dt := 109) (mm := 7) [56, 56, 56, 67, 74, 81, 103] (by decide +kernel) rfl (by decide +kernel) (And.intro (fun _ => ?_) (And.intro (fun _ => ?_) (And.intro (fun _ => ?_) (And.intro (fun _ => ?_) (And.intro (fun _ => ?_) (And.intro (fun _ => ?_) (And.intro (fun _ => ?_) (trivial)))))))) ?_
    · exact GE_weak [true, true, true] (j_X5_told_56_ok l X a1 a2 w)
    · exact GE_weak [true, true, true] (j_X5_told_56_ok l X a1 a2 w)
    · exact GE_weak [true, true, true] (j_X5_told_56_ok l X a1 a2 w)
    · refine GE_chk (fun h3 => ?_)
      refine GE_run flG_T (pc1 := 73) (L1 := [some (.inr (.inr (some (5, 0)))), some (.inl a1), some (.inl a2)]) (S1 := [.inl (w 20 0 (tn a1))]) (w1 := w) (P := (inB a1 6) ∧ True) [(.aload_n 0, 0, 0, 0, 0), (.getfield 7, 5, 1, 0, 0), (.iload_n 1, 0, 0, 0, 0), (.iaload, 0, 0, 0, 0)] (by decide +kernel) rfl ⟨h3, trivial⟩ ?_
      exact GE_iret rfl (by decide +kernel)
    · refine GE_chk (fun h4 => ?_)
      refine GE_run flG_T (pc1 := 80) (L1 := [some (.inr (.inr (some (5, 0)))), some (.inl a1), some (.inl a2)]) (S1 := [.inl (w 21 0 (tn a1))]) (w1 := w) (P := (inB a1 6) ∧ True) [(.aload_n 0, 0, 0, 0, 0), (.getfield 13, 5, 2, 0, 0), (.iload_n 1, 0, 0, 0, 0), (.iaload, 0, 0, 0, 0)] (by decide +kernel) rfl ⟨h4, trivial⟩ ?_
      exact GE_iret rfl (by decide +kernel)
    · refine GE_chk (fun h5 => ?_)
      refine GE_chk (fun h6 => ?_)
      refine GE_run flG_T (pc1 := 102) (L1 := [some (.inr (.inr (some (5, 0)))), some (.inl a1), some (.inl a2)]) (S1 := [.inl ((w 22 0 (tn ((3 * a1) + 1))) &&& ((w 22 0 (tn (3 * a1))) ^^^ (-1)))]) (w1 := w) (P := (inB ((3 * a1) + 1) 18) ∧ (inB (3 * a1) 18) ∧ True) [(.aload_n 0, 0, 0, 0, 0), (.getfield 16, 5, 3, 0, 0), (.iconst 3, 0, 0, 3, 0), (.iload_n 1, 0, 0, 0, 0), (.imul, 0, 0, 0, 0), (.iconst 1, 0, 0, 1, 0), (.iadd, 0, 0, 0, 0), (.iaload, 0, 0, 0, 0), (.aload_n 0, 0, 0, 0, 0), (.getfield 16, 5, 3, 0, 0), (.iconst 3, 0, 0, 3, 0), (.iload_n 1, 0, 0, 0, 0), (.imul, 0, 0, 0, 0), (.iaload, 0, 0, 0, 0), (.iconst (-1), 0, 0, -1, 0), (.ixor, 0, 0, 0, 0), (.iand, 0, 0, 0, 0)] (by decide +kernel) rfl ⟨h5, h6, trivial⟩ ?_
      exact GE_iret rfl (by decide +kernel)
    · refine GE_run flG_T (pc1 := 105) (L1 := [some (.inr (.inr (some (5, 0)))), some (.inl a1), some (.inl a2)]) (S1 := [.inl a1, .inr (.inr (some (5, 0)))]) (w1 := w) (P := True) [(.aload_n 0, 0, 0, 0, 0), (.iload_n 1, 0, 0, 0, 0)] (by decide +kernel) rfl trivial ?_
      refine GE_callVI (As := [.inl a1]) (k := 5) (i := 0) (S := []) (t_X5_takesOf l X a1 w) (by decide) ⟨me_X5_takesOf, mi_X5_takesOf, mv_X5_takesOf, lk_X5_174⟩ rfl (by decide +kernel) rfl (by decide) (by decide) (Nat.le_of_ble_eq_true rfl) (fun r7 _ => ?_)
      exact GE_iret rfl (by decide +kernel)
    · refine GE_run flG_T (pc1 := 111) (L1 := [some (.inr (.inr (some (5, 0)))), some (.inl a1), some (.inl a2)]) (S1 := [.inl (-7)]) (w1 := w) (P := True) [(.bipush (-7), 0, 0, -7, 0)] (by decide +kernel) rfl trivial ?_
      exact GE_iret rfl (by decide +kernel)
  · refine GE_run flG_T (pc1 := 10) (L1 := [some (.inr (.inr (some (5, 0)))), some (.inl a1), some (.inl a2)]) (S1 := [.inl (-5)]) (w1 := w) (P := True) [(.bipush (-5), 0, 0, -5, 0)] (by decide +kernel) rfl trivial ?_
    exact GE_iret rfl (by decide +kernel)
abbrev mm_X5_lands : MI := (RX5, cX5_lands, 4, (some .int), ftp_X5.map (fun q => q.1), ctp_X5.map (fun q => q.1), clp_X5.map (fun q => q.1))
noncomputable def f_X5_lands (a1 : Int32) (a2 : Int32) (a3 : Int32) (w : Mem) : Option (Int32 × Mem) := if (rng a1 0 (w 5 0 0 - 1)) = 0 then (some ((-5000), w)) else (if (rng a2 0 15) = 0 then (some ((-5000), w)) else (if (rng a3 0 1) = 0 then (some ((-7000), w)) else (if a3 = 0 then (Option.bind (f_X5_letsOf a1 a2 w) (fun r5 => some (r5.1, r5.2))) else (Option.bind (f_X5_lucksOf a1 a2 w) (fun r6 => some (r6.1, r6.2))))))
set_option maxRecDepth 100000 in
theorem t_X5_lands (l : Launch) (X : XC)  (a1 : Int32) (a2 : Int32) (a3 : Int32) (w : Mem) : Ct l X 4 yX5_lands cX5_lands 4 (some .int) emI [.inr (.inr (some (5, 0))), .inl a1, .inl a2, .inl a3] 57 flT w (f_X5_lands a1 a2 a3 w) := by
  refine Ct_of (mi := mm_X5_lands) (mik_X5 _ _ _) me_X5_lands rfl (okAs_cons (by decide) (okAs_cons rfl (okAs_cons rfl (okAs_cons rfl okAs_nil)))) (Nat.le_of_ble_eq_true rfl) ?_
  unfold f_X5_lands
  refine GE_run flG_T (pc1 := 2) (L1 := [some (.inr (.inr (some (5, 0)))), some (.inl a1), some (.inl a2), some (.inl a3)]) (S1 := [.inl a1, .inr (.inr (some (5, 0)))]) (w1 := w) (P := True) [(.aload_n 0, 0, 0, 0, 0), (.iload_n 1, 0, 0, 0, 0)] (by decide +kernel) rfl trivial ?_
  refine GE_callVIp (As := [.inl a1]) (k := 5) (i := 0) (S := []) (p_X5_isOne l X a1 w) (by decide) ⟨me_X5_isOne, mi_X5_isOne, mv_X5_isOne, lk_X5_162⟩ rfl (by decide +kernel) rfl (by decide) (by decide) (Nat.le_of_ble_eq_true rfl) ?_
  refine GE_if (k := .eq) (off := 10) (tgt := 15) (by decide +kernel) (by decide) (cnd_eq _ _) (fun c1 => ?_) (fun c1 => ?_)
  · refine GE_run flG_T (pc1 := 18) (L1 := [some (.inr (.inr (some (5, 0)))), some (.inl a1), some (.inl a2), some (.inl a3)]) (S1 := [.inl (-5000)]) (w1 := w) (P := True) [(.sipush (-5000), 0, 0, -5000, 0)] (by decide +kernel) rfl trivial ?_
    exact GE_iret rfl (by decide +kernel)
  · refine GE_run flG_T (pc1 := 9) (L1 := [some (.inr (.inr (some (5, 0)))), some (.inl a1), some (.inl a2), some (.inl a3)]) (S1 := [.inl a2]) (w1 := w) (P := True) [(.iload_n 2, 0, 0, 0, 0)] (by decide +kernel) rfl trivial ?_
    refine GE_callSIp (As := [.inl a2]) (S := []) (p_X5_isThing l X a2 w) ⟨me_X5_isThing, ms_X5_isThing, lk_X5_165⟩ (by decide +kernel) rfl (by decide) (by decide) (Nat.le_of_ble_eq_true rfl) ?_
    refine GE_ifN (k := .ne) (off := 7) (tgt := 19) (by decide +kernel) (by decide) (cnd_ne _ _) (fun c2 => ?_) (fun c2 => ?_)
    · refine GE_run flG_T (pc1 := 22) (L1 := [some (.inr (.inr (some (5, 0)))), some (.inl a1), some (.inl a2), some (.inl a3)]) (S1 := [.inl 1, .inl 0, .inl a3]) (w1 := w) (P := True) [(.iload_n 3, 0, 0, 0, 0), (.iconst 0, 0, 0, 0, 0), (.iconst 1, 0, 0, 1, 0)] (by decide +kernel) rfl trivial ?_
      refine GE_callSIp (As := [.inl a3, .inl 0, .inl 1]) (S := []) (p_X5_in l X a3 0 1 w) ⟨me_X5_in, ms_X5_in, lk_X5_72⟩ (by decide +kernel) rfl (by decide) (by decide) (Nat.le_of_ble_eq_true rfl) ?_
      refine GE_ifN (k := .ne) (off := 7) (tgt := 32) (by decide +kernel) (by decide) (cnd_ne _ _) (fun c3 => ?_) (fun c3 => ?_)
      · refine GE_run flG_T (pc1 := 33) (L1 := [some (.inr (.inr (some (5, 0)))), some (.inl a1), some (.inl a2), some (.inl a3)]) (S1 := [.inl a3]) (w1 := w) (P := True) [(.iload_n 3, 0, 0, 0, 0)] (by decide +kernel) rfl trivial ?_
        refine GE_ifN (k := .ne) (off := 12) (tgt := 45) (by decide +kernel) (by decide) (cnd_ne _ _) (fun c4 => ?_) (fun c4 => ?_)
        · refine GE_run flG_T (pc1 := 48) (L1 := [some (.inr (.inr (some (5, 0)))), some (.inl a1), some (.inl a2), some (.inl a3)]) (S1 := [.inl a2, .inl a1, .inr (.inr (some (5, 0)))]) (w1 := w) (P := True) [(.aload_n 0, 0, 0, 0, 0), (.iload_n 1, 0, 0, 0, 0), (.iload_n 2, 0, 0, 0, 0)] (by decide +kernel) rfl trivial ?_
          refine GE_callVI (As := [.inl a1, .inl a2]) (k := 5) (i := 0) (S := []) (t_X5_lucksOf l X a1 a2 w) (by decide) ⟨me_X5_lucksOf, mi_X5_lucksOf, mv_X5_lucksOf, lk_X5_180⟩ rfl (by decide +kernel) rfl (by decide) (by decide) (Nat.le_of_ble_eq_true rfl) (fun r6 _ => ?_)
          exact GE_iret rfl (by decide +kernel)
        · refine GE_run flG_T (pc1 := 39) (L1 := [some (.inr (.inr (some (5, 0)))), some (.inl a1), some (.inl a2), some (.inl a3)]) (S1 := [.inl a2, .inl a1, .inr (.inr (some (5, 0)))]) (w1 := w) (P := True) [(.aload_n 0, 0, 0, 0, 0), (.iload_n 1, 0, 0, 0, 0), (.iload_n 2, 0, 0, 0, 0)] (by decide +kernel) rfl trivial ?_
          refine GE_callVI (As := [.inl a1, .inl a2]) (k := 5) (i := 0) (S := []) (t_X5_letsOf l X a1 a2 w) (by decide) ⟨me_X5_letsOf, mi_X5_letsOf, mv_X5_letsOf, lk_X5_177⟩ rfl (by decide +kernel) rfl (by decide) (by decide) (Nat.le_of_ble_eq_true rfl) (fun r5 _ => ?_)
          refine GE_run flG_T (pc1 := 51) (L1 := [some (.inr (.inr (some (5, 0)))), some (.inl a1), some (.inl a2), some (.inl a3)]) (S1 := [.inl r5.1]) (w1 := r5.2) (P := True) [(.goto 9, 0, 0, 0, 0)] (by decide +kernel) rfl trivial ?_
          exact GE_iret rfl (by decide +kernel)
      · refine GE_run flG_T (pc1 := 31) (L1 := [some (.inr (.inr (some (5, 0)))), some (.inl a1), some (.inl a2), some (.inl a3)]) (S1 := [.inl (-7000)]) (w1 := w) (P := True) [(.sipush (-7000), 0, 0, -7000, 0)] (by decide +kernel) rfl trivial ?_
        exact GE_iret rfl (by decide +kernel)
    · refine GE_run flG_T (pc1 := 18) (L1 := [some (.inr (.inr (some (5, 0)))), some (.inl a1), some (.inl a2), some (.inl a3)]) (S1 := [.inl (-5000)]) (w1 := w) (P := True) [(.sipush (-5000), 0, 0, -5000, 0)] (by decide +kernel) rfl trivial ?_
      exact GE_iret rfl (by decide +kernel)
abbrev mm_X5_landOf : MI := (RX5, cX5_landOf, 5, (some .int), ftp_X5.map (fun q => q.1), ctp_X5.map (fun q => q.1), clp_X5.map (fun q => q.1))
noncomputable def j_X5_landOf_64   (x1 : Int32) (x3 : Int32) (x4 : Int32) (w : Mem) : Option (Int32 × Mem) := if inB ((3 * x1) + 2) 18 then (if inB ((3 * x1) + 2) 18 then (some (x3, up w 22 0 (tn ((3 * x1) + 2)) (wiF ((w 22 0 (tn ((3 * x1) + 2))) + x4) 0 99))) else none) else none
set_option maxRecDepth 100000 in
theorem j_X5_landOf_64_ok (l : Launch) (X : XC)   (x1 : Int32) (x3 : Int32) (x4 : Int32)   (w : Mem) : GE l X mm_X5_landOf 4 emI 57 flT (j_X5_landOf_64 x1 x3 x4 w) 64 [some (.inr (.inr (some (5, 0)))), some (.inl x1), none, some (.inl x3), some (.inl x4)] [] w := by
  unfold j_X5_landOf_64
  refine GE_chk (fun h6 => ?_)
  refine GE_run flG_T (pc1 := 89) (L1 := [some (.inr (.inr (some (5, 0)))), some (.inl x1), none, some (.inl x3), some (.inl x4)]) (S1 := [.inl 99, .inl 0, .inl ((w 22 0 (tn ((3 * x1) + 2))) + x4), .inl ((3 * x1) + 2), .inr (.inr (some (22, 0)))]) (w1 := w) (P := (inB ((3 * x1) + 2) 18) ∧ True) [(.aload_n 0, 0, 0, 0, 0), (.getfield 16, 5, 3, 0, 0), (.iconst 3, 0, 0, 3, 0), (.iload_n 1, 0, 0, 0, 0), (.imul, 0, 0, 0, 0), (.iconst 2, 0, 0, 2, 0), (.iadd, 0, 0, 0, 0), (.aload_n 0, 0, 0, 0, 0), (.getfield 16, 5, 3, 0, 0), (.iconst 3, 0, 0, 3, 0), (.iload_n 1, 0, 0, 0, 0), (.imul, 0, 0, 0, 0), (.iconst 2, 0, 0, 2, 0), (.iadd, 0, 0, 0, 0), (.iaload, 0, 0, 0, 0), (.iload 4, 0, 0, 0, 0), (.iadd, 0, 0, 0, 0), (.iconst 0, 0, 0, 0, 0), (.bipush 99, 0, 0, 99, 0)] (by decide +kernel) rfl ⟨h6, trivial⟩ ?_
  refine GE_callSIp (As := [.inl ((w 22 0 (tn ((3 * x1) + 2))) + x4), .inl 0, .inl 99]) (S := [.inl ((3 * x1) + 2), .inr (.inr (some (22, 0)))]) (p_X5_within l X ((w 22 0 (tn ((3 * x1) + 2))) + x4) 0 99 w) ⟨me_X5_within, ms_X5_within, lk_X5_159⟩ (by decide +kernel) rfl (by decide) (by decide) (Nat.le_of_ble_eq_true rfl) ?_
  refine GE_chk (fun h7 => ?_)
  refine GE_run flG_T (pc1 := 94) (L1 := [some (.inr (.inr (some (5, 0)))), some (.inl x1), none, some (.inl x3), some (.inl x4)]) (S1 := [.inl x3]) (w1 := up w 22 0 (tn ((3 * x1) + 2)) (wiF ((w 22 0 (tn ((3 * x1) + 2))) + x4) 0 99)) (P := (inB ((3 * x1) + 2) 18) ∧ True) [(.iastore, 0, 0, 0, 0), (.iload_n 3, 0, 0, 0, 0)] (by decide +kernel) rfl ⟨h7, trivial⟩ ?_
  exact GE_iret rfl (by decide +kernel)
noncomputable def f_X5_landOf (a1 : Int32) (a2 : Int32) (w : Mem) : Option (Int32 × Mem) := Option.bind (f_X5_letsOf a1 a2 w) (fun r1 => Option.bind (f_X5_lucksOf a1 a2 r1.2) (fun r2 => if inB ((3 * a1) + 1) 18 then (if inB ((3 * a1) + 1) 18 then (if r1.1 = (-1) then (j_X5_landOf_64 a1 r1.1 r2.1 (up r2.2 22 0 (tn ((3 * a1) + 1)) ((r2.2 22 0 (tn ((3 * a1) + 1))) ||| (shlI 1 a2)))) else (if inB (3 * a1) 18 then (if inB (3 * a1) 18 then (j_X5_landOf_64 a1 r1.1 r2.1 (up (up (up r2.2 22 0 (tn ((3 * a1) + 1)) ((r2.2 22 0 (tn ((3 * a1) + 1))) ||| (shlI 1 a2))) 22 0 (tn (3 * a1)) (((up r2.2 22 0 (tn ((3 * a1) + 1)) ((r2.2 22 0 (tn ((3 * a1) + 1))) ||| (shlI 1 a2))) 22 0 (tn (3 * a1))) &&& ((shlI 1 r1.1) ^^^ (-1)))) 5 0 4 (((up (up r2.2 22 0 (tn ((3 * a1) + 1)) ((r2.2 22 0 (tn ((3 * a1) + 1))) ||| (shlI 1 a2))) 22 0 (tn (3 * a1)) (((up r2.2 22 0 (tn ((3 * a1) + 1)) ((r2.2 22 0 (tn ((3 * a1) + 1))) ||| (shlI 1 a2))) 22 0 (tn (3 * a1))) &&& ((shlI 1 r1.1) ^^^ (-1)))) 5 0 4) ||| (shlI 1 r1.1)))) else none) else none)) else none) else none))
set_option maxRecDepth 100000 in
theorem t_X5_landOf (l : Launch) (X : XC)  (a1 : Int32) (a2 : Int32) (w : Mem) : Ct l X 4 yX5_landOf cX5_landOf 5 (some .int) emI [.inr (.inr (some (5, 0))), .inl a1, .inl a2] 57 flT w (f_X5_landOf a1 a2 w) := by
  refine Ct_of (mi := mm_X5_landOf) (mik_X5 _ _ _) me_X5_landOf rfl (okAs_cons (by decide) (okAs_cons rfl (okAs_cons rfl okAs_nil))) (Nat.le_of_ble_eq_true rfl) ?_
  unfold f_X5_landOf
  refine GE_run flG_T (pc1 := 3) (L1 := [some (.inr (.inr (some (5, 0)))), some (.inl a1), some (.inl a2), none, none]) (S1 := [.inl a2, .inl a1, .inr (.inr (some (5, 0)))]) (w1 := w) (P := True) [(.aload_n 0, 0, 0, 0, 0), (.iload_n 1, 0, 0, 0, 0), (.iload_n 2, 0, 0, 0, 0)] (by decide +kernel) rfl trivial ?_
  refine GE_callVI (As := [.inl a1, .inl a2]) (k := 5) (i := 0) (S := []) (t_X5_letsOf l X a1 a2 w) (by decide) ⟨me_X5_letsOf, mi_X5_letsOf, mv_X5_letsOf, lk_X5_177⟩ rfl (by decide +kernel) rfl (by decide) (by decide) (Nat.le_of_ble_eq_true rfl) (fun r1 _ => ?_)
  refine GE_run flG_T (pc1 := 10) (L1 := [some (.inr (.inr (some (5, 0)))), some (.inl a1), some (.inl a2), some (.inl r1.1), none]) (S1 := [.inl a2, .inl a1, .inr (.inr (some (5, 0)))]) (w1 := r1.2) (P := True) [(.istore_n 3, 0, 0, 0, 0), (.aload_n 0, 0, 0, 0, 0), (.iload_n 1, 0, 0, 0, 0), (.iload_n 2, 0, 0, 0, 0)] (by decide +kernel) rfl trivial ?_
  refine GE_callVI (As := [.inl a1, .inl a2]) (k := 5) (i := 0) (S := []) (t_X5_lucksOf l X a1 a2 r1.2) (by decide) ⟨me_X5_lucksOf, mi_X5_lucksOf, mv_X5_lucksOf, lk_X5_180⟩ rfl (by decide +kernel) rfl (by decide) (by decide) (Nat.le_of_ble_eq_true rfl) (fun r2 _ => ?_)
  refine GE_chk (fun h3 => ?_)
  refine GE_chk (fun h4 => ?_)
  refine GE_run flG_T (pc1 := 33) (L1 := [some (.inr (.inr (some (5, 0)))), some (.inl a1), some (.inl a2), some (.inl r1.1), some (.inl r2.1)]) (S1 := [.inl (-1), .inl r1.1]) (w1 := up r2.2 22 0 (tn ((3 * a1) + 1)) ((r2.2 22 0 (tn ((3 * a1) + 1))) ||| (shlI 1 a2))) (P := (inB ((3 * a1) + 1) 18) ∧ (inB ((3 * a1) + 1) 18) ∧ True) [(.istore 4, 0, 0, 0, 0), (.aload_n 0, 0, 0, 0, 0), (.getfield 16, 5, 3, 0, 0), (.iconst 3, 0, 0, 3, 0), (.iload_n 1, 0, 0, 0, 0), (.imul, 0, 0, 0, 0), (.iconst 1, 0, 0, 1, 0), (.iadd, 0, 0, 0, 0), (.dup2, 0, 0, 0, 0), (.iaload, 0, 0, 0, 0), (.iconst 1, 0, 0, 1, 0), (.iload_n 2, 0, 0, 0, 0), (.ishl, 0, 0, 0, 0), (.ior, 0, 0, 0, 0), (.iastore, 0, 0, 0, 0), (.iload_n 3, 0, 0, 0, 0), (.iconst (-1), 0, 0, -1, 0)] (by decide +kernel) rfl ⟨h3, h4, trivial⟩ ?_
  refine GE_icmp (k := .eq) (off := 31) (tgt := 64) (by decide +kernel) (by decide) (cnd_eq _ _) (fun c5 => ?_) (fun c5 => ?_)
  · exact GE_weak [true, true, false, true, true] (j_X5_landOf_64_ok l X a1 r1.1 r2.1 (up r2.2 22 0 (tn ((3 * a1) + 1)) ((r2.2 22 0 (tn ((3 * a1) + 1))) ||| (shlI 1 a2))))
  · refine GE_chk (fun h8 => ?_)
    refine GE_chk (fun h9 => ?_)
    refine GE_run flG_T (pc1 := 64) (L1 := [some (.inr (.inr (some (5, 0)))), some (.inl a1), some (.inl a2), some (.inl r1.1), some (.inl r2.1)]) (S1 := []) (w1 := up (up (up r2.2 22 0 (tn ((3 * a1) + 1)) ((r2.2 22 0 (tn ((3 * a1) + 1))) ||| (shlI 1 a2))) 22 0 (tn (3 * a1)) (((up r2.2 22 0 (tn ((3 * a1) + 1)) ((r2.2 22 0 (tn ((3 * a1) + 1))) ||| (shlI 1 a2))) 22 0 (tn (3 * a1))) &&& ((shlI 1 r1.1) ^^^ (-1)))) 5 0 4 (((up (up r2.2 22 0 (tn ((3 * a1) + 1)) ((r2.2 22 0 (tn ((3 * a1) + 1))) ||| (shlI 1 a2))) 22 0 (tn (3 * a1)) (((up r2.2 22 0 (tn ((3 * a1) + 1)) ((r2.2 22 0 (tn ((3 * a1) + 1))) ||| (shlI 1 a2))) 22 0 (tn (3 * a1))) &&& ((shlI 1 r1.1) ^^^ (-1)))) 5 0 4) ||| (shlI 1 r1.1))) (P := (inB (3 * a1) 18) ∧ (inB (3 * a1) 18) ∧ True) [(.aload_n 0, 0, 0, 0, 0), (.getfield 16, 5, 3, 0, 0), (.iconst 3, 0, 0, 3, 0), (.iload_n 1, 0, 0, 0, 0), (.imul, 0, 0, 0, 0), (.dup2, 0, 0, 0, 0), (.iaload, 0, 0, 0, 0), (.iconst 1, 0, 0, 1, 0), (.iload_n 3, 0, 0, 0, 0), (.ishl, 0, 0, 0, 0), (.iconst (-1), 0, 0, -1, 0), (.ixor, 0, 0, 0, 0), (.iand, 0, 0, 0, 0), (.iastore, 0, 0, 0, 0), (.aload_n 0, 0, 0, 0, 0), (.dup, 0, 0, 0, 0), (.getfield 76, 5, 4, 0, 0), (.iconst 1, 0, 0, 1, 0), (.iload_n 3, 0, 0, 0, 0), (.ishl, 0, 0, 0, 0), (.ior, 0, 0, 0, 0), (.putfield 76, 5, 4, 0, 0)] (by decide +kernel) rfl ⟨h8, h9, trivial⟩ ?_
    exact GE_weak [true, true, false, true, true] (j_X5_landOf_64_ok l X a1 r1.1 r2.1 (up (up (up r2.2 22 0 (tn ((3 * a1) + 1)) ((r2.2 22 0 (tn ((3 * a1) + 1))) ||| (shlI 1 a2))) 22 0 (tn (3 * a1)) (((up r2.2 22 0 (tn ((3 * a1) + 1)) ((r2.2 22 0 (tn ((3 * a1) + 1))) ||| (shlI 1 a2))) 22 0 (tn (3 * a1))) &&& ((shlI 1 r1.1) ^^^ (-1)))) 5 0 4 (((up (up r2.2 22 0 (tn ((3 * a1) + 1)) ((r2.2 22 0 (tn ((3 * a1) + 1))) ||| (shlI 1 a2))) 22 0 (tn (3 * a1)) (((up r2.2 22 0 (tn ((3 * a1) + 1)) ((r2.2 22 0 (tn ((3 * a1) + 1))) ||| (shlI 1 a2))) 22 0 (tn (3 * a1))) &&& ((shlI 1 r1.1) ^^^ (-1)))) 5 0 4) ||| (shlI 1 r1.1))))
abbrev mm_X5_land : MI := (RX5, cX5_land, 3, (some .int), ftp_X5.map (fun q => q.1), ctp_X5.map (fun q => q.1), clp_X5.map (fun q => q.1))
noncomputable def f_X5_land (a1 : Int32) (a2 : Int32) (w : Mem) : Option (Int32 × Mem) := if (rng a1 0 (w 5 0 0 - 1)) = 0 then (some ((-5), w)) else (if (rng a2 0 15) = 0 then (some ((-6), w)) else (Option.bind (f_X5_landOf a1 a2 w) (fun r3 => some (r3.1, r3.2))))
set_option maxRecDepth 100000 in
theorem t_X5_land (l : Launch) (X : XC)  (a1 : Int32) (a2 : Int32) (w : Mem) : Ct l X 5 yX5_land cX5_land 3 (some .int) emI [.inr (.inr (some (5, 0))), .inl a1, .inl a2] 57 flT w (f_X5_land a1 a2 w) := by
  refine Ct_of (mi := mm_X5_land) (mik_X5 _ _ _) me_X5_land rfl (okAs_cons (by decide) (okAs_cons rfl (okAs_cons rfl okAs_nil))) (Nat.le_of_ble_eq_true rfl) ?_
  unfold f_X5_land
  refine GE_run flG_T (pc1 := 2) (L1 := [some (.inr (.inr (some (5, 0)))), some (.inl a1), some (.inl a2)]) (S1 := [.inl a1, .inr (.inr (some (5, 0)))]) (w1 := w) (P := True) [(.aload_n 0, 0, 0, 0, 0), (.iload_n 1, 0, 0, 0, 0)] (by decide +kernel) rfl trivial ?_
  refine GE_callVIp (As := [.inl a1]) (k := 5) (i := 0) (S := []) (p_X5_isOne l X a1 w) (by decide) ⟨me_X5_isOne, mi_X5_isOne, mv_X5_isOne, lk_X5_162⟩ rfl (by decide +kernel) rfl (by decide) (by decide) (Nat.le_of_ble_eq_true rfl) ?_
  refine GE_ifN (k := .ne) (off := 6) (tgt := 11) (by decide +kernel) (by decide) (cnd_ne _ _) (fun c1 => ?_) (fun c1 => ?_)
  · refine GE_run flG_T (pc1 := 12) (L1 := [some (.inr (.inr (some (5, 0)))), some (.inl a1), some (.inl a2)]) (S1 := [.inl a2]) (w1 := w) (P := True) [(.iload_n 2, 0, 0, 0, 0)] (by decide +kernel) rfl trivial ?_
    refine GE_callSIp (As := [.inl a2]) (S := []) (p_X5_isThing l X a2 w) ⟨me_X5_isThing, ms_X5_isThing, lk_X5_165⟩ (by decide +kernel) rfl (by decide) (by decide) (Nat.le_of_ble_eq_true rfl) ?_
    refine GE_if (k := .eq) (off := 12) (tgt := 27) (by decide +kernel) (by decide) (cnd_eq _ _) (fun c2 => ?_) (fun c2 => ?_)
    · refine GE_run flG_T (pc1 := 29) (L1 := [some (.inr (.inr (some (5, 0)))), some (.inl a1), some (.inl a2)]) (S1 := [.inl (-6)]) (w1 := w) (P := True) [(.bipush (-6), 0, 0, -6, 0)] (by decide +kernel) rfl trivial ?_
      exact GE_iret rfl (by decide +kernel)
    · refine GE_run flG_T (pc1 := 21) (L1 := [some (.inr (.inr (some (5, 0)))), some (.inl a1), some (.inl a2)]) (S1 := [.inl a2, .inl a1, .inr (.inr (some (5, 0)))]) (w1 := w) (P := True) [(.aload_n 0, 0, 0, 0, 0), (.iload_n 1, 0, 0, 0, 0), (.iload_n 2, 0, 0, 0, 0)] (by decide +kernel) rfl trivial ?_
      refine GE_callVI (As := [.inl a1, .inl a2]) (k := 5) (i := 0) (S := []) (t_X5_landOf l X a1 a2 w) (by decide) ⟨me_X5_landOf, mi_X5_landOf, mv_X5_landOf, lk_X5_183⟩ rfl (by decide +kernel) rfl (by decide) (by decide) (Nat.le_of_ble_eq_true rfl) (fun r3 _ => ?_)
      refine GE_run flG_T (pc1 := 29) (L1 := [some (.inr (.inr (some (5, 0)))), some (.inl a1), some (.inl a2)]) (S1 := [.inl r3.1]) (w1 := r3.2) (P := True) [(.goto 5, 0, 0, 0, 0)] (by decide +kernel) rfl trivial ?_
      exact GE_iret rfl (by decide +kernel)
  · refine GE_run flG_T (pc1 := 10) (L1 := [some (.inr (.inr (some (5, 0)))), some (.inl a1), some (.inl a2)]) (S1 := [.inl (-5)]) (w1 := w) (P := True) [(.bipush (-5), 0, 0, -5, 0)] (by decide +kernel) rfl trivial ?_
    exact GE_iret rfl (by decide +kernel)
abbrev mm_X5_lessonOf : MI := (RX5, cX5_lessonOf, 8, (some .int), ftp_X5.map (fun q => q.1), ctp_X5.map (fun q => q.1), clp_X5.map (fun q => q.1))
noncomputable def h_X5_lessonOf_36 (x2 : Int32) (x3 : Int32) (x4 : Int32) (k78 : Int32 → Mem → Option (Int32 × Mem)) : Nat → Int32 → Int32 → Int32 → Mem → Option (Int32 × Mem)
  | 0, _, _, _, _ => none
  | n + 1, x5, x6, x7, w => if x7 < 16 then (if x6 < x4 then (if ((shrI x3 x7) &&& 1) = 1 then ((h_X5_lessonOf_36 x2 x3 x4 k78 n) (x5 ||| (shlI 1 x7)) (x6 + 1) (x7 + 1) w) else ((h_X5_lessonOf_36 x2 x3 x4 k78 n) x5 x6 (x7 + 1) w)) else (k78 x5 w)) else (k78 x5 w)
set_option maxRecDepth 100000 in
theorem h_X5_lessonOf_36_ok (l : Launch) (X : XC) (x2 : Int32) (x3 : Int32) (x4 : Int32) (k78 : Int32 → Mem → Option (Int32 × Mem))  (hk78 : ∀ (x5 : Int32) (w : Mem), GE l X mm_X5_lessonOf 4 emI 57 flT (k78 x5 w) 78 [some (.inr (.inr (some (5, 0)))), none, some (.inl x2), none, none, some (.inl x5), none, none] [] w) : ∀ (n : Nat) (x5 : Int32) (x6 : Int32) (x7 : Int32) (w : Mem), GE l X mm_X5_lessonOf 4 emI 57 flT ((h_X5_lessonOf_36 x2 x3 x4 k78 n) x5 x6 x7 w) 36 [some (.inr (.inr (some (5, 0)))), none, some (.inl x2), some (.inl x3), some (.inl x4), some (.inl x5), some (.inl x6), some (.inl x7)] [] w := by
  intro n
  induction n with
  | zero => intro x5 x6 x7 w; exact GE_none
  | succ n ih =>
    intro x5 x6 x7 w
    unfold h_X5_lessonOf_36
    refine GE_run flG_T (pc1 := 40) (L1 := [some (.inr (.inr (some (5, 0)))), none, some (.inl x2), some (.inl x3), some (.inl x4), some (.inl x5), some (.inl x6), some (.inl x7)]) (S1 := [.inl 16, .inl x7]) (w1 := w) (P := True) [(.iload 7, 0, 0, 0, 0), (.bipush 16, 0, 0, 16, 0)] (by decide +kernel) rfl trivial ?_
    refine GE_icmpN (k := .ge) (off := 38) (tgt := 78) (by decide +kernel) (by decide) (cnd_ge _ _) (fun c4 => ?_) (fun c4 => ?_)
    · exact GE_weak [true, false, true, false, false, true, false, false] (hk78 x5 w)
    · refine GE_run flG_T (pc1 := 47) (L1 := [some (.inr (.inr (some (5, 0)))), none, some (.inl x2), some (.inl x3), some (.inl x4), some (.inl x5), some (.inl x6), some (.inl x7)]) (S1 := [.inl x4, .inl x6]) (w1 := w) (P := True) [(.iload 6, 0, 0, 0, 0), (.iload 4, 0, 0, 0, 0)] (by decide +kernel) rfl trivial ?_
      refine GE_icmpN (k := .ge) (off := 31) (tgt := 78) (by decide +kernel) (by decide) (cnd_ge _ _) (fun c5 => ?_) (fun c5 => ?_)
      · exact GE_weak [true, false, true, false, false, true, false, false] (hk78 x5 w)
      · refine GE_run flG_T (pc1 := 57) (L1 := [some (.inr (.inr (some (5, 0)))), none, some (.inl x2), some (.inl x3), some (.inl x4), some (.inl x5), some (.inl x6), some (.inl x7)]) (S1 := [.inl 1, .inl ((shrI x3 x7) &&& 1)]) (w1 := w) (P := True) [(.iload_n 3, 0, 0, 0, 0), (.iload 7, 0, 0, 0, 0), (.ishr, 0, 0, 0, 0), (.iconst 1, 0, 0, 1, 0), (.iand, 0, 0, 0, 0), (.iconst 1, 0, 0, 1, 0)] (by decide +kernel) rfl trivial ?_
        refine GE_icmpN (k := .ne) (off := 15) (tgt := 72) (by decide +kernel) (by decide) (cnd_ne _ _) (fun c6 => ?_) (fun c6 => ?_)
        · refine GE_run flG_T (pc1 := 36) (L1 := [some (.inr (.inr (some (5, 0)))), none, some (.inl x2), some (.inl x3), some (.inl x4), some (.inl x5), some (.inl x6), some (.inl (x7 + 1))]) (S1 := []) (w1 := w) (P := True) [(.iinc 7 1, 0, 0, 1, 0), (.goto (-39), 0, 0, 0, 0)] (by decide +kernel) rfl trivial ?_
          exact GE_weak [true, false, true, true, true, true, true, true] (ih x5 x6 (x7 + 1) w)
        · refine GE_run flG_T (pc1 := 36) (L1 := [some (.inr (.inr (some (5, 0)))), none, some (.inl x2), some (.inl x3), some (.inl x4), some (.inl (x5 ||| (shlI 1 x7))), some (.inl (x6 + 1)), some (.inl (x7 + 1))]) (S1 := []) (w1 := w) (P := True) [(.iload 5, 0, 0, 0, 0), (.iconst 1, 0, 0, 1, 0), (.iload 7, 0, 0, 0, 0), (.ishl, 0, 0, 0, 0), (.ior, 0, 0, 0, 0), (.istore 5, 0, 0, 0, 0), (.iinc 6 1, 0, 0, 1, 0), (.iinc 7 1, 0, 0, 1, 0), (.goto (-39), 0, 0, 0, 0)] (by decide +kernel) rfl trivial ?_
          exact GE_weak [true, false, true, true, true, true, true, true] (ih (x5 ||| (shlI 1 x7)) (x6 + 1) (x7 + 1) w)
noncomputable def j_X5_lessonOf_78   (x2 : Int32) (x5 : Int32) (w : Mem) : Option (Int32 × Mem) := if inB (3 * x2) 18 then (if inB (3 * x2) 18 then (some (x5, up w 22 0 (tn (3 * x2)) ((w 22 0 (tn (3 * x2))) ||| x5))) else none) else none
set_option maxRecDepth 100000 in
theorem j_X5_lessonOf_78_ok (l : Launch) (X : XC)   (x2 : Int32) (x5 : Int32)   (w : Mem) : GE l X mm_X5_lessonOf 4 emI 57 flT (j_X5_lessonOf_78 x2 x5 w) 78 [some (.inr (.inr (some (5, 0)))), none, some (.inl x2), none, none, some (.inl x5), none, none] [] w := by
  unfold j_X5_lessonOf_78
  refine GE_chk (fun h9 => ?_)
  refine GE_chk (fun h10 => ?_)
  refine GE_run flG_T (pc1 := 93) (L1 := [some (.inr (.inr (some (5, 0)))), none, some (.inl x2), none, none, some (.inl x5), none, none]) (S1 := [.inl x5]) (w1 := up w 22 0 (tn (3 * x2)) ((w 22 0 (tn (3 * x2))) ||| x5)) (P := (inB (3 * x2) 18) ∧ (inB (3 * x2) 18) ∧ True) [(.aload_n 0, 0, 0, 0, 0), (.getfield 16, 5, 3, 0, 0), (.iconst 3, 0, 0, 3, 0), (.iload_n 2, 0, 0, 0, 0), (.imul, 0, 0, 0, 0), (.dup2, 0, 0, 0, 0), (.iaload, 0, 0, 0, 0), (.iload 5, 0, 0, 0, 0), (.ior, 0, 0, 0, 0), (.iastore, 0, 0, 0, 0), (.iload 5, 0, 0, 0, 0)] (by decide +kernel) rfl ⟨h9, h10, trivial⟩ ?_
  exact GE_iret rfl (by decide +kernel)
noncomputable def f_X5_lessonOf (a1 : Int32) (a2 : Int32) (w : Mem) : Option (Int32 × Mem) := if inB (3 * a1) 18 then (if inB (3 * a2) 18 then (Option.bind (f_X5_takesOf a2 w) (fun r3 => h_X5_lessonOf_36 a2 ((w 22 0 (tn (3 * a1))) &&& ((w 22 0 (tn (3 * a2))) ^^^ (-1))) r3.1 (fun x5_7 w8 => j_X5_lessonOf_78 a2 x5_7 w8) FU 0 0 0 r3.2)) else none) else none
set_option maxRecDepth 100000 in
theorem t_X5_lessonOf (l : Launch) (X : XC)  (a1 : Int32) (a2 : Int32) (w : Mem) : Ct l X 4 yX5_lessonOf cX5_lessonOf 8 (some .int) emI [.inr (.inr (some (5, 0))), .inl a1, .inl a2] 57 flT w (f_X5_lessonOf a1 a2 w) := by
  refine Ct_of (mi := mm_X5_lessonOf) (mik_X5 _ _ _) me_X5_lessonOf rfl (okAs_cons (by decide) (okAs_cons rfl (okAs_cons rfl okAs_nil))) (Nat.le_of_ble_eq_true rfl) ?_
  unfold f_X5_lessonOf
  refine GE_chk (fun h1 => ?_)
  refine GE_chk (fun h2 => ?_)
  refine GE_run flG_T (pc1 := 22) (L1 := [some (.inr (.inr (some (5, 0)))), some (.inl a1), some (.inl a2), some (.inl ((w 22 0 (tn (3 * a1))) &&& ((w 22 0 (tn (3 * a2))) ^^^ (-1)))), none, none, none, none]) (S1 := [.inl a2, .inr (.inr (some (5, 0)))]) (w1 := w) (P := (inB (3 * a1) 18) ∧ (inB (3 * a2) 18) ∧ True) [(.aload_n 0, 0, 0, 0, 0), (.getfield 16, 5, 3, 0, 0), (.iconst 3, 0, 0, 3, 0), (.iload_n 1, 0, 0, 0, 0), (.imul, 0, 0, 0, 0), (.iaload, 0, 0, 0, 0), (.aload_n 0, 0, 0, 0, 0), (.getfield 16, 5, 3, 0, 0), (.iconst 3, 0, 0, 3, 0), (.iload_n 2, 0, 0, 0, 0), (.imul, 0, 0, 0, 0), (.iaload, 0, 0, 0, 0), (.iconst (-1), 0, 0, -1, 0), (.ixor, 0, 0, 0, 0), (.iand, 0, 0, 0, 0), (.istore_n 3, 0, 0, 0, 0), (.aload_n 0, 0, 0, 0, 0), (.iload_n 2, 0, 0, 0, 0)] (by decide +kernel) rfl ⟨h1, h2, trivial⟩ ?_
  refine GE_callVI (As := [.inl a2]) (k := 5) (i := 0) (S := []) (t_X5_takesOf l X a2 w) (by decide) ⟨me_X5_takesOf, mi_X5_takesOf, mv_X5_takesOf, lk_X5_174⟩ rfl (by decide +kernel) rfl (by decide) (by decide) (Nat.le_of_ble_eq_true rfl) (fun r3 _ => ?_)
  refine GE_run flG_T (pc1 := 36) (L1 := [some (.inr (.inr (some (5, 0)))), some (.inl a1), some (.inl a2), some (.inl ((w 22 0 (tn (3 * a1))) &&& ((w 22 0 (tn (3 * a2))) ^^^ (-1)))), some (.inl r3.1), some (.inl 0), some (.inl 0), some (.inl 0)]) (S1 := []) (w1 := r3.2) (P := True) [(.istore 4, 0, 0, 0, 0), (.iconst 0, 0, 0, 0, 0), (.istore 5, 0, 0, 0, 0), (.iconst 0, 0, 0, 0, 0), (.istore 6, 0, 0, 0, 0), (.iconst 0, 0, 0, 0, 0), (.istore 7, 0, 0, 0, 0)] (by decide +kernel) rfl trivial ?_
  refine GE_weak [true, false, true, true, true, true, true, true] (h_X5_lessonOf_36_ok l X a2 ((w 22 0 (tn (3 * a1))) &&& ((w 22 0 (tn (3 * a2))) ^^^ (-1))) r3.1 _ ?_ FU 0 0 0 r3.2)
  · intro x5_7 w8
    exact GE_weak [true, false, true, false, false, true, false, false] (j_X5_lessonOf_78_ok l X a2 x5_7 w8)
abbrev mm_X5_teach : MI := (RX5, cX5_teach, 3, (some .int), ftp_X5.map (fun q => q.1), ctp_X5.map (fun q => q.1), clp_X5.map (fun q => q.1))
noncomputable def f_X5_teach (a1 : Int32) (a2 : Int32) (w : Mem) : Option (Int32 × Mem) := if (rng a1 0 (w 5 0 0 - 1)) = 0 then (some ((-5), w)) else (if (rng a2 0 (w 5 0 0 - 1)) = 0 then (some ((-5), w)) else (if a1 = a2 then (some ((-5), w)) else (Option.bind (f_X5_lessonOf a1 a2 w) (fun r4 => some (r4.1, r4.2)))))
set_option maxRecDepth 100000 in
theorem t_X5_teach (l : Launch) (X : XC)  (a1 : Int32) (a2 : Int32) (w : Mem) : Ct l X 5 yX5_teach cX5_teach 3 (some .int) emI [.inr (.inr (some (5, 0))), .inl a1, .inl a2] 57 flT w (f_X5_teach a1 a2 w) := by
  refine Ct_of (mi := mm_X5_teach) (mik_X5 _ _ _) me_X5_teach rfl (okAs_cons (by decide) (okAs_cons rfl (okAs_cons rfl okAs_nil))) (Nat.le_of_ble_eq_true rfl) ?_
  unfold f_X5_teach
  refine GE_run flG_T (pc1 := 2) (L1 := [some (.inr (.inr (some (5, 0)))), some (.inl a1), some (.inl a2)]) (S1 := [.inl a1, .inr (.inr (some (5, 0)))]) (w1 := w) (P := True) [(.aload_n 0, 0, 0, 0, 0), (.iload_n 1, 0, 0, 0, 0)] (by decide +kernel) rfl trivial ?_
  refine GE_callVIp (As := [.inl a1]) (k := 5) (i := 0) (S := []) (p_X5_isOne l X a1 w) (by decide) ⟨me_X5_isOne, mi_X5_isOne, mv_X5_isOne, lk_X5_162⟩ rfl (by decide +kernel) rfl (by decide) (by decide) (Nat.le_of_ble_eq_true rfl) ?_
  refine GE_if (k := .eq) (off := 25) (tgt := 30) (by decide +kernel) (by decide) (cnd_eq _ _) (fun c1 => ?_) (fun c1 => ?_)
  · refine GE_run flG_T (pc1 := 32) (L1 := [some (.inr (.inr (some (5, 0)))), some (.inl a1), some (.inl a2)]) (S1 := [.inl (-5)]) (w1 := w) (P := True) [(.bipush (-5), 0, 0, -5, 0)] (by decide +kernel) rfl trivial ?_
    exact GE_iret rfl (by decide +kernel)
  · refine GE_run flG_T (pc1 := 10) (L1 := [some (.inr (.inr (some (5, 0)))), some (.inl a1), some (.inl a2)]) (S1 := [.inl a2, .inr (.inr (some (5, 0)))]) (w1 := w) (P := True) [(.aload_n 0, 0, 0, 0, 0), (.iload_n 2, 0, 0, 0, 0)] (by decide +kernel) rfl trivial ?_
    refine GE_callVIp (As := [.inl a2]) (k := 5) (i := 0) (S := []) (p_X5_isOne l X a2 w) (by decide) ⟨me_X5_isOne, mi_X5_isOne, mv_X5_isOne, lk_X5_162⟩ rfl (by decide +kernel) rfl (by decide) (by decide) (Nat.le_of_ble_eq_true rfl) ?_
    refine GE_if (k := .eq) (off := 17) (tgt := 30) (by decide +kernel) (by decide) (cnd_eq _ _) (fun c2 => ?_) (fun c2 => ?_)
    · refine GE_run flG_T (pc1 := 32) (L1 := [some (.inr (.inr (some (5, 0)))), some (.inl a1), some (.inl a2)]) (S1 := [.inl (-5)]) (w1 := w) (P := True) [(.bipush (-5), 0, 0, -5, 0)] (by decide +kernel) rfl trivial ?_
      exact GE_iret rfl (by decide +kernel)
    · refine GE_run flG_T (pc1 := 18) (L1 := [some (.inr (.inr (some (5, 0)))), some (.inl a1), some (.inl a2)]) (S1 := [.inl a2, .inl a1]) (w1 := w) (P := True) [(.iload_n 1, 0, 0, 0, 0), (.iload_n 2, 0, 0, 0, 0)] (by decide +kernel) rfl trivial ?_
      refine GE_icmp (k := .eq) (off := 12) (tgt := 30) (by decide +kernel) (by decide) (cnd_eq _ _) (fun c3 => ?_) (fun c3 => ?_)
      · refine GE_run flG_T (pc1 := 32) (L1 := [some (.inr (.inr (some (5, 0)))), some (.inl a1), some (.inl a2)]) (S1 := [.inl (-5)]) (w1 := w) (P := True) [(.bipush (-5), 0, 0, -5, 0)] (by decide +kernel) rfl trivial ?_
        exact GE_iret rfl (by decide +kernel)
      · refine GE_run flG_T (pc1 := 24) (L1 := [some (.inr (.inr (some (5, 0)))), some (.inl a1), some (.inl a2)]) (S1 := [.inl a2, .inl a1, .inr (.inr (some (5, 0)))]) (w1 := w) (P := True) [(.aload_n 0, 0, 0, 0, 0), (.iload_n 1, 0, 0, 0, 0), (.iload_n 2, 0, 0, 0, 0)] (by decide +kernel) rfl trivial ?_
        refine GE_callVI (As := [.inl a1, .inl a2]) (k := 5) (i := 0) (S := []) (t_X5_lessonOf l X a1 a2 w) (by decide) ⟨me_X5_lessonOf, mi_X5_lessonOf, mv_X5_lessonOf, lk_X5_186⟩ rfl (by decide +kernel) rfl (by decide) (by decide) (Nat.le_of_ble_eq_true rfl) (fun r4 _ => ?_)
        refine GE_run flG_T (pc1 := 32) (L1 := [some (.inr (.inr (some (5, 0)))), some (.inl a1), some (.inl a2)]) (S1 := [.inl r4.1]) (w1 := r4.2) (P := True) [(.goto 5, 0, 0, 0, 0)] (by decide +kernel) rfl trivial ?_
        exact GE_iret rfl (by decide +kernel)
abbrev mm_X5_tideOf : MI := (RX5, cX5_tideOf, 4, (some .int), ftp_X5.map (fun q => q.1), ctp_X5.map (fun q => q.1), clp_X5.map (fun q => q.1))
noncomputable def h_X5_tideOf_37 (x1 : Int32) (k82 : Int32 → Mem → Option (Int32 × Mem)) : Nat → Int32 → Int32 → Mem → Option (Int32 × Mem)
  | 0, _, _, _ => none
  | n + 1, x2, x3, w => if x3 < (w 5 0 0) then (if inB (3 * x3) 18 then (if inB (3 * x2) 18 then (if (bitsF (w 22 0 (tn (3 * x3)))) < (bitsF (w 22 0 (tn (3 * x2)))) then ((h_X5_tideOf_37 x1 k82 n) x3 (x3 + 1) w) else ((h_X5_tideOf_37 x1 k82 n) x2 (x3 + 1) w)) else none) else none) else (k82 x2 w)
set_option maxRecDepth 100000 in
theorem h_X5_tideOf_37_ok (l : Launch) (X : XC) (x1 : Int32) (k82 : Int32 → Mem → Option (Int32 × Mem))  (hk82 : ∀ (x2 : Int32) (w : Mem), GE l X mm_X5_tideOf 1 emI 57 flT (k82 x2 w) 82 [some (.inr (.inr (some (5, 0)))), some (.inl x1), some (.inl x2), none] [] w) : ∀ (n : Nat) (x2 : Int32) (x3 : Int32) (w : Mem), GE l X mm_X5_tideOf 1 emI 57 flT ((h_X5_tideOf_37 x1 k82 n) x2 x3 w) 37 [some (.inr (.inr (some (5, 0)))), some (.inl x1), some (.inl x2), some (.inl x3)] [] w := by
  intro n
  induction n with
  | zero => intro x2 x3 w; exact GE_none
  | succ n ih =>
    intro x2 x3 w
    unfold h_X5_tideOf_37
    refine GE_run flG_T (pc1 := 42) (L1 := [some (.inr (.inr (some (5, 0)))), some (.inl x1), some (.inl x2), some (.inl x3)]) (S1 := [.inl (w 5 0 0), .inl x3]) (w1 := w) (P := True) [(.iload_n 3, 0, 0, 0, 0), (.aload_n 0, 0, 0, 0, 0), (.getfield 69, 5, 0, 0, 0)] (by decide +kernel) rfl trivial ?_
    refine GE_icmpN (k := .ge) (off := 40) (tgt := 82) (by decide +kernel) (by decide) (cnd_ge _ _) (fun c3 => ?_) (fun c3 => ?_)
    · exact GE_weak [true, true, true, false] (hk82 x2 w)
    · refine GE_chk (fun h4 => ?_)
      refine GE_run flG_T (pc1 := 53) (L1 := [some (.inr (.inr (some (5, 0)))), some (.inl x1), some (.inl x2), some (.inl x3)]) (S1 := [.inl (w 22 0 (tn (3 * x3)))]) (w1 := w) (P := (inB (3 * x3) 18) ∧ True) [(.aload_n 0, 0, 0, 0, 0), (.getfield 16, 5, 3, 0, 0), (.iconst 3, 0, 0, 3, 0), (.iload_n 3, 0, 0, 0, 0), (.imul, 0, 0, 0, 0), (.iaload, 0, 0, 0, 0)] (by decide +kernel) rfl ⟨h4, trivial⟩ ?_
      refine GE_callSIp (As := [.inl (w 22 0 (tn (3 * x3)))]) (S := []) (p_X5_bitsOf l X (w 22 0 (tn (3 * x3))) w) ⟨me_X5_bitsOf, ms_X5_bitsOf, lk_X5_79⟩ (by decide +kernel) rfl (by decide) (by decide) (Nat.le_of_ble_eq_true rfl) ?_
      refine GE_chk (fun h5 => ?_)
      refine GE_run flG_T (pc1 := 64) (L1 := [some (.inr (.inr (some (5, 0)))), some (.inl x1), some (.inl x2), some (.inl x3)]) (S1 := [.inl (w 22 0 (tn (3 * x2))), .inl (bitsF (w 22 0 (tn (3 * x3))))]) (w1 := w) (P := (inB (3 * x2) 18) ∧ True) [(.aload_n 0, 0, 0, 0, 0), (.getfield 16, 5, 3, 0, 0), (.iconst 3, 0, 0, 3, 0), (.iload_n 2, 0, 0, 0, 0), (.imul, 0, 0, 0, 0), (.iaload, 0, 0, 0, 0)] (by decide +kernel) rfl ⟨h5, trivial⟩ ?_
      refine GE_callSIp (As := [.inl (w 22 0 (tn (3 * x2)))]) (S := [.inl (bitsF (w 22 0 (tn (3 * x3))))]) (p_X5_bitsOf l X (w 22 0 (tn (3 * x2))) w) ⟨me_X5_bitsOf, ms_X5_bitsOf, lk_X5_79⟩ (by decide +kernel) rfl (by decide) (by decide) (Nat.le_of_ble_eq_true rfl) ?_
      refine GE_icmpN (k := .ge) (off := 7) (tgt := 74) (by decide +kernel) (by decide) (cnd_ge _ _) (fun c6 => ?_) (fun c6 => ?_)
      · refine GE_run flG_T (pc1 := 37) (L1 := [some (.inr (.inr (some (5, 0)))), some (.inl x1), some (.inl x2), some (.inl (x3 + 1))]) (S1 := []) (w1 := w) (P := True) [(.iload_n 2, 0, 0, 0, 0), (.istore_n 2, 0, 0, 0, 0), (.iinc 3 1, 0, 0, 1, 0), (.goto (-42), 0, 0, 0, 0)] (by decide +kernel) rfl trivial ?_
        exact GE_weak [true, true, true, true] (ih x2 (x3 + 1) w)
      · refine GE_run flG_T (pc1 := 37) (L1 := [some (.inr (.inr (some (5, 0)))), some (.inl x1), some (.inl x3), some (.inl (x3 + 1))]) (S1 := []) (w1 := w) (P := True) [(.iload_n 3, 0, 0, 0, 0), (.goto 4, 0, 0, 0, 0), (.istore_n 2, 0, 0, 0, 0), (.iinc 3 1, 0, 0, 1, 0), (.goto (-42), 0, 0, 0, 0)] (by decide +kernel) rfl trivial ?_
        exact GE_weak [true, true, true, true] (ih x3 (x3 + 1) w)
noncomputable def f_X5_tideOf  (w : Mem) : Option (Int32 × Mem) := if ((up w 5 0 5 ((w 5 0 5) + 1)) 5 0 0) = 0 then (some ((-1), up w 5 0 5 ((w 5 0 5) + 1))) else (if (nthF ((up w 5 0 5 ((w 5 0 5) + 1)) 5 0 4) 0) = (-1) then (some ((-1), up w 5 0 5 ((w 5 0 5) + 1))) else (h_X5_tideOf_37 (nthF ((up w 5 0 5 ((w 5 0 5) + 1)) 5 0 4) 0) (fun x2_7 w8 => if inB (3 * x2_7) 18 then (if inB (3 * x2_7) 18 then (some (nthF ((up w 5 0 5 ((w 5 0 5) + 1)) 5 0 4) 0, up (up w8 5 0 4 ((w8 5 0 4) &&& ((shlI 1 (nthF ((up w 5 0 5 ((w 5 0 5) + 1)) 5 0 4) 0)) ^^^ (-1)))) 22 0 (tn (3 * x2_7)) (((up w8 5 0 4 ((w8 5 0 4) &&& ((shlI 1 (nthF ((up w 5 0 5 ((w 5 0 5) + 1)) 5 0 4) 0)) ^^^ (-1)))) 22 0 (tn (3 * x2_7))) ||| (shlI 1 (nthF ((up w 5 0 5 ((w 5 0 5) + 1)) 5 0 4) 0))))) else none) else none) FU 0 1 (up w 5 0 5 ((w 5 0 5) + 1))))
set_option maxRecDepth 100000 in
theorem t_X5_tideOf (l : Launch) (X : XC)   (w : Mem) : Ct l X 1 yX5_tideOf cX5_tideOf 4 (some .int) emI [.inr (.inr (some (5, 0)))] 57 flT w (f_X5_tideOf  w) := by
  refine Ct_of (mi := mm_X5_tideOf) (mik_X5 _ _ _) me_X5_tideOf rfl (okAs_cons (by decide) okAs_nil) (Nat.le_of_ble_eq_true rfl) ?_
  unfold f_X5_tideOf
  refine GE_run flG_T (pc1 := 15) (L1 := [some (.inr (.inr (some (5, 0)))), none, none, none]) (S1 := [.inl 0, .inl ((up w 5 0 5 ((w 5 0 5) + 1)) 5 0 4)]) (w1 := up w 5 0 5 ((w 5 0 5) + 1)) (P := True) [(.aload_n 0, 0, 0, 0, 0), (.dup, 0, 0, 0, 0), (.getfield 83, 5, 5, 0, 0), (.iconst 1, 0, 0, 1, 0), (.iadd, 0, 0, 0, 0), (.putfield 83, 5, 5, 0, 0), (.aload_n 0, 0, 0, 0, 0), (.getfield 76, 5, 4, 0, 0), (.iconst 0, 0, 0, 0, 0)] (by decide +kernel) rfl trivial ?_
  refine GE_callSIp (As := [.inl ((up w 5 0 5 ((w 5 0 5) + 1)) 5 0 4), .inl 0]) (S := []) (p_X5_nthOf l X ((up w 5 0 5 ((w 5 0 5) + 1)) 5 0 4) 0 (up w 5 0 5 ((w 5 0 5) + 1))) ⟨me_X5_nthOf, ms_X5_nthOf, lk_X5_171⟩ (by decide +kernel) rfl (by decide) (by decide) (Nat.le_of_ble_eq_true rfl) ?_
  refine GE_run flG_T (pc1 := 23) (L1 := [some (.inr (.inr (some (5, 0)))), some (.inl (nthF ((up w 5 0 5 ((w 5 0 5) + 1)) 5 0 4) 0)), none, none]) (S1 := [.inl ((up w 5 0 5 ((w 5 0 5) + 1)) 5 0 0)]) (w1 := up w 5 0 5 ((w 5 0 5) + 1)) (P := True) [(.istore_n 1, 0, 0, 0, 0), (.aload_n 0, 0, 0, 0, 0), (.getfield 69, 5, 0, 0, 0)] (by decide +kernel) rfl trivial ?_
  refine GE_if (k := .eq) (off := 8) (tgt := 31) (by decide +kernel) (by decide) (cnd_eq _ _) (fun c1 => ?_) (fun c1 => ?_)
  · refine GE_run flG_T (pc1 := 32) (L1 := [some (.inr (.inr (some (5, 0)))), some (.inl (nthF ((up w 5 0 5 ((w 5 0 5) + 1)) 5 0 4) 0)), none, none]) (S1 := [.inl (-1)]) (w1 := up w 5 0 5 ((w 5 0 5) + 1)) (P := True) [(.iconst (-1), 0, 0, -1, 0)] (by decide +kernel) rfl trivial ?_
    exact GE_iret rfl (by decide +kernel)
  · refine GE_run flG_T (pc1 := 28) (L1 := [some (.inr (.inr (some (5, 0)))), some (.inl (nthF ((up w 5 0 5 ((w 5 0 5) + 1)) 5 0 4) 0)), none, none]) (S1 := [.inl (-1), .inl (nthF ((up w 5 0 5 ((w 5 0 5) + 1)) 5 0 4) 0)]) (w1 := up w 5 0 5 ((w 5 0 5) + 1)) (P := True) [(.iload_n 1, 0, 0, 0, 0), (.iconst (-1), 0, 0, -1, 0)] (by decide +kernel) rfl trivial ?_
    refine GE_icmpN (k := .ne) (off := 5) (tgt := 33) (by decide +kernel) (by decide) (cnd_ne _ _) (fun c2 => ?_) (fun c2 => ?_)
    · refine GE_run flG_T (pc1 := 37) (L1 := [some (.inr (.inr (some (5, 0)))), some (.inl (nthF ((up w 5 0 5 ((w 5 0 5) + 1)) 5 0 4) 0)), some (.inl 0), some (.inl 1)]) (S1 := []) (w1 := up w 5 0 5 ((w 5 0 5) + 1)) (P := True) [(.iconst 0, 0, 0, 0, 0), (.istore_n 2, 0, 0, 0, 0), (.iconst 1, 0, 0, 1, 0), (.istore_n 3, 0, 0, 0, 0)] (by decide +kernel) rfl trivial ?_
      refine GE_weak [true, true, true, true] (h_X5_tideOf_37_ok l X (nthF ((up w 5 0 5 ((w 5 0 5) + 1)) 5 0 4) 0) _ ?_ FU 0 1 (up w 5 0 5 ((w 5 0 5) + 1)))
      · intro x2_7 w8
        refine GE_chk (fun h9 => ?_)
        refine GE_chk (fun h10 => ?_)
        refine GE_run flG_T (pc1 := 111) (L1 := [some (.inr (.inr (some (5, 0)))), some (.inl (nthF ((up w 5 0 5 ((w 5 0 5) + 1)) 5 0 4) 0)), some (.inl x2_7), none]) (S1 := [.inl (nthF ((up w 5 0 5 ((w 5 0 5) + 1)) 5 0 4) 0)]) (w1 := up (up w8 5 0 4 ((w8 5 0 4) &&& ((shlI 1 (nthF ((up w 5 0 5 ((w 5 0 5) + 1)) 5 0 4) 0)) ^^^ (-1)))) 22 0 (tn (3 * x2_7)) (((up w8 5 0 4 ((w8 5 0 4) &&& ((shlI 1 (nthF ((up w 5 0 5 ((w 5 0 5) + 1)) 5 0 4) 0)) ^^^ (-1)))) 22 0 (tn (3 * x2_7))) ||| (shlI 1 (nthF ((up w 5 0 5 ((w 5 0 5) + 1)) 5 0 4) 0)))) (P := (inB (3 * x2_7) 18) ∧ (inB (3 * x2_7) 18) ∧ True) [(.aload_n 0, 0, 0, 0, 0), (.dup, 0, 0, 0, 0), (.getfield 76, 5, 4, 0, 0), (.iconst 1, 0, 0, 1, 0), (.iload_n 1, 0, 0, 0, 0), (.ishl, 0, 0, 0, 0), (.iconst (-1), 0, 0, -1, 0), (.ixor, 0, 0, 0, 0), (.iand, 0, 0, 0, 0), (.putfield 76, 5, 4, 0, 0), (.aload_n 0, 0, 0, 0, 0), (.getfield 16, 5, 3, 0, 0), (.iconst 3, 0, 0, 3, 0), (.iload_n 2, 0, 0, 0, 0), (.imul, 0, 0, 0, 0), (.dup2, 0, 0, 0, 0), (.iaload, 0, 0, 0, 0), (.iconst 1, 0, 0, 1, 0), (.iload_n 1, 0, 0, 0, 0), (.ishl, 0, 0, 0, 0), (.ior, 0, 0, 0, 0), (.iastore, 0, 0, 0, 0), (.iload_n 1, 0, 0, 0, 0)] (by decide +kernel) rfl ⟨h9, h10, trivial⟩ ?_
        exact GE_iret rfl (by decide +kernel)
    · refine GE_run flG_T (pc1 := 32) (L1 := [some (.inr (.inr (some (5, 0)))), some (.inl (nthF ((up w 5 0 5 ((w 5 0 5) + 1)) 5 0 4) 0)), none, none]) (S1 := [.inl (-1)]) (w1 := up w 5 0 5 ((w 5 0 5) + 1)) (P := True) [(.iconst (-1), 0, 0, -1, 0)] (by decide +kernel) rfl trivial ?_
      exact GE_iret rfl (by decide +kernel)
abbrev mm_X5_tide : MI := (RX5, cX5_tide, 1, (some .int), ftp_X5.map (fun q => q.1), ctp_X5.map (fun q => q.1), clp_X5.map (fun q => q.1))
noncomputable def f_X5_tide  (w : Mem) : Option (Int32 × Mem) := if (w 5 0 5) = 999 then (some ((-3), w)) else (Option.bind (f_X5_tideOf w) (fun r2 => some (r2.1, r2.2)))
set_option maxRecDepth 100000 in
theorem t_X5_tide (l : Launch) (X : XC)   (w : Mem) : Ct l X 2 yX5_tide cX5_tide 1 (some .int) emI [.inr (.inr (some (5, 0)))] 57 flT w (f_X5_tide  w) := by
  refine Ct_of (mi := mm_X5_tide) (mik_X5 _ _ _) me_X5_tide rfl (okAs_cons (by decide) okAs_nil) (Nat.le_of_ble_eq_true rfl) ?_
  unfold f_X5_tide
  refine GE_run flG_T (pc1 := 7) (L1 := [some (.inr (.inr (some (5, 0))))]) (S1 := [.inl 999, .inl (w 5 0 5)]) (w1 := w) (P := True) [(.aload_n 0, 0, 0, 0, 0), (.getfield 83, 5, 5, 0, 0), (.sipush 999, 0, 0, 999, 0)] (by decide +kernel) rfl trivial ?_
  refine GE_icmpN (k := .ne) (off := 8) (tgt := 15) (by decide +kernel) (by decide) (cnd_ne _ _) (fun c1 => ?_) (fun c1 => ?_)
  · refine GE_run flG_T (pc1 := 16) (L1 := [some (.inr (.inr (some (5, 0))))]) (S1 := [.inr (.inr (some (5, 0)))]) (w1 := w) (P := True) [(.aload_n 0, 0, 0, 0, 0)] (by decide +kernel) rfl trivial ?_
    refine GE_callVI (As := []) (k := 5) (i := 0) (S := []) (t_X5_tideOf l X w) (by decide) ⟨me_X5_tideOf, mi_X5_tideOf, mv_X5_tideOf, lk_X5_189⟩ rfl (by decide +kernel) rfl (by decide) (by decide) (Nat.le_of_ble_eq_true rfl) (fun r2 _ => ?_)
    exact GE_iret rfl (by decide +kernel)
  · refine GE_run flG_T (pc1 := 19) (L1 := [some (.inr (.inr (some (5, 0))))]) (S1 := [.inl (-3)]) (w1 := w) (P := True) [(.bipush (-3), 0, 0, -3, 0), (.goto 7, 0, 0, 0, 0)] (by decide +kernel) rfl trivial ?_
    exact GE_iret rfl (by decide +kernel)
abbrev mm_X5_talk : MI := (RX5, cX5_talk, 7, (some .int), ftp_X5.map (fun q => q.1), ctp_X5.map (fun q => q.1), clp_X5.map (fun q => q.1))
noncomputable def h_X5_talk_40 (x1 : Int32) (x2 : Int32) (k108 : Int32 → Int32 → Int32 → Mem → Option (Int32 × Mem)) : Nat → Int32 → Int32 → Int32 → Int32 → Mem → Option (Int32 × Mem)
  | 0, _, _, _, _, _ => none
  | n + 1, x3, x4, x5, x6, w => if x6 < (w 5 0 0) then (if ((shrI x1 x6) &&& 1) = 1 then (if inB (3 * x6) 18 then (if inB (3 * x6) 18 then (if inB (3 * x6) 18 then ((h_X5_talk_40 x1 x2 k108 n) (x3 &&& (w 22 0 (tn (3 * x6)))) (x4 ||| (w 22 0 (tn (3 * x6)))) (x5 ||| (x4 &&& (w 22 0 (tn (3 * x6))))) (x6 + 1) w) else none) else none) else none) else ((h_X5_talk_40 x1 x2 k108 n) x3 x4 x5 (x6 + 1) w)) else (k108 x3 x4 x5 w)
set_option maxRecDepth 100000 in
theorem h_X5_talk_40_ok (l : Launch) (X : XC) (x1 : Int32) (x2 : Int32) (k108 : Int32 → Int32 → Int32 → Mem → Option (Int32 × Mem))  (hk108 : ∀ (x3 : Int32) (x4 : Int32) (x5 : Int32) (w : Mem), GE l X mm_X5_talk 1 emI 57 flT (k108 x3 x4 x5 w) 108 [none, none, some (.inl x2), some (.inl x3), some (.inl x4), some (.inl x5), none] [] w) : ∀ (n : Nat) (x3 : Int32) (x4 : Int32) (x5 : Int32) (x6 : Int32) (w : Mem), GE l X mm_X5_talk 1 emI 57 flT ((h_X5_talk_40 x1 x2 k108 n) x3 x4 x5 x6 w) 40 [some (.inr (.inr (some (5, 0)))), some (.inl x1), some (.inl x2), some (.inl x3), some (.inl x4), some (.inl x5), some (.inl x6)] [] w := by
  intro n
  induction n with
  | zero => intro x3 x4 x5 x6 w; exact GE_none
  | succ n ih =>
    intro x3 x4 x5 x6 w
    unfold h_X5_talk_40
    refine GE_run flG_T (pc1 := 46) (L1 := [some (.inr (.inr (some (5, 0)))), some (.inl x1), some (.inl x2), some (.inl x3), some (.inl x4), some (.inl x5), some (.inl x6)]) (S1 := [.inl (w 5 0 0), .inl x6]) (w1 := w) (P := True) [(.iload 6, 0, 0, 0, 0), (.aload_n 0, 0, 0, 0, 0), (.getfield 69, 5, 0, 0, 0)] (by decide +kernel) rfl trivial ?_
    refine GE_icmpN (k := .ge) (off := 62) (tgt := 108) (by decide +kernel) (by decide) (cnd_ge _ _) (fun c3 => ?_) (fun c3 => ?_)
    · exact GE_weak [false, false, true, true, true, true, false] (hk108 x3 x4 x5 w)
    · refine GE_run flG_T (pc1 := 56) (L1 := [some (.inr (.inr (some (5, 0)))), some (.inl x1), some (.inl x2), some (.inl x3), some (.inl x4), some (.inl x5), some (.inl x6)]) (S1 := [.inl 1, .inl ((shrI x1 x6) &&& 1)]) (w1 := w) (P := True) [(.iload_n 1, 0, 0, 0, 0), (.iload 6, 0, 0, 0, 0), (.ishr, 0, 0, 0, 0), (.iconst 1, 0, 0, 1, 0), (.iand, 0, 0, 0, 0), (.iconst 1, 0, 0, 1, 0)] (by decide +kernel) rfl trivial ?_
      refine GE_icmpN (k := .ne) (off := 46) (tgt := 102) (by decide +kernel) (by decide) (cnd_ne _ _) (fun c4 => ?_) (fun c4 => ?_)
      · refine GE_run flG_T (pc1 := 40) (L1 := [some (.inr (.inr (some (5, 0)))), some (.inl x1), some (.inl x2), some (.inl x3), some (.inl x4), some (.inl x5), some (.inl (x6 + 1))]) (S1 := []) (w1 := w) (P := True) [(.iinc 6 1, 0, 0, 1, 0), (.goto (-65), 0, 0, 0, 0)] (by decide +kernel) rfl trivial ?_
        exact GE_weak [true, true, true, true, true, true, true] (ih x3 x4 x5 (x6 + 1) w)
      · refine GE_chk (fun h5 => ?_)
        refine GE_chk (fun h6 => ?_)
        refine GE_chk (fun h7 => ?_)
        refine GE_run flG_T (pc1 := 40) (L1 := [some (.inr (.inr (some (5, 0)))), some (.inl x1), some (.inl x2), some (.inl (x3 &&& (w 22 0 (tn (3 * x6))))), some (.inl (x4 ||| (w 22 0 (tn (3 * x6))))), some (.inl (x5 ||| (x4 &&& (w 22 0 (tn (3 * x6)))))), some (.inl (x6 + 1))]) (S1 := []) (w1 := w) (P := (inB (3 * x6) 18) ∧ (inB (3 * x6) 18) ∧ (inB (3 * x6) 18) ∧ True) [(.iload_n 3, 0, 0, 0, 0), (.aload_n 0, 0, 0, 0, 0), (.getfield 16, 5, 3, 0, 0), (.iconst 3, 0, 0, 3, 0), (.iload 6, 0, 0, 0, 0), (.imul, 0, 0, 0, 0), (.iaload, 0, 0, 0, 0), (.iand, 0, 0, 0, 0), (.istore_n 3, 0, 0, 0, 0), (.iload 5, 0, 0, 0, 0), (.iload 4, 0, 0, 0, 0), (.aload_n 0, 0, 0, 0, 0), (.getfield 16, 5, 3, 0, 0), (.iconst 3, 0, 0, 3, 0), (.iload 6, 0, 0, 0, 0), (.imul, 0, 0, 0, 0), (.iaload, 0, 0, 0, 0), (.iand, 0, 0, 0, 0), (.ior, 0, 0, 0, 0), (.istore 5, 0, 0, 0, 0), (.iload 4, 0, 0, 0, 0), (.aload_n 0, 0, 0, 0, 0), (.getfield 16, 5, 3, 0, 0), (.iconst 3, 0, 0, 3, 0), (.iload 6, 0, 0, 0, 0), (.imul, 0, 0, 0, 0), (.iaload, 0, 0, 0, 0), (.ior, 0, 0, 0, 0), (.istore 4, 0, 0, 0, 0), (.iinc 6 1, 0, 0, 1, 0), (.goto (-65), 0, 0, 0, 0)] (by decide +kernel) rfl ⟨h5, h6, h7, trivial⟩ ?_
        exact GE_weak [true, true, true, true, true, true, true] (ih (x3 &&& (w 22 0 (tn (3 * x6)))) (x4 ||| (w 22 0 (tn (3 * x6)))) (x5 ||| (x4 &&& (w 22 0 (tn (3 * x6))))) (x6 + 1) w)
noncomputable def f_X5_talk (a1 : Int32) (a2 : Int32) (w : Mem) : Option (Int32 × Mem) := if (rng a1 0 ((shlI 1 (w 5 0 0)) - 1)) = 0 then (some ((-2), w)) else (if (rng a2 0 3) = 0 then (some ((-2), w)) else (h_X5_talk_40 a1 a2 (fun x3_8 x4_9 x5_10 w11 => if a2 = 0 then (some (x3_8, w11)) else (if a2 = 1 then (some (x4_9, w11)) else (if a2 = 2 then (some (65535 &&& (x4_9 ^^^ (-1)), w11)) else (some (x4_9 &&& (x5_10 ^^^ (-1)), w11))))) FU 65535 0 0 0 w))
set_option maxRecDepth 100000 in
theorem t_X5_talk (l : Launch) (X : XC)  (a1 : Int32) (a2 : Int32) (w : Mem) : Ct l X 1 yX5_talk cX5_talk 7 (some .int) emI [.inr (.inr (some (5, 0))), .inl a1, .inl a2] 57 flT w (f_X5_talk a1 a2 w) := by
  refine Ct_of (mi := mm_X5_talk) (mik_X5 _ _ _) me_X5_talk rfl (okAs_cons (by decide) (okAs_cons rfl (okAs_cons rfl okAs_nil))) (Nat.le_of_ble_eq_true rfl) ?_
  unfold f_X5_talk
  refine GE_run flG_T (pc1 := 10) (L1 := [some (.inr (.inr (some (5, 0)))), some (.inl a1), some (.inl a2), none, none, none, none]) (S1 := [.inl ((shlI 1 (w 5 0 0)) - 1), .inl 0, .inl a1]) (w1 := w) (P := True) [(.iload_n 1, 0, 0, 0, 0), (.iconst 0, 0, 0, 0, 0), (.iconst 1, 0, 0, 1, 0), (.aload_n 0, 0, 0, 0, 0), (.getfield 69, 5, 0, 0, 0), (.ishl, 0, 0, 0, 0), (.iconst 1, 0, 0, 1, 0), (.isub, 0, 0, 0, 0)] (by decide +kernel) rfl trivial ?_
  refine GE_callSIp (As := [.inl a1, .inl 0, .inl ((shlI 1 (w 5 0 0)) - 1)]) (S := []) (p_X5_in l X a1 0 ((shlI 1 (w 5 0 0)) - 1) w) ⟨me_X5_in, ms_X5_in, lk_X5_72⟩ (by decide +kernel) rfl (by decide) (by decide) (Nat.le_of_ble_eq_true rfl) ?_
  refine GE_if (k := .eq) (off := 12) (tgt := 25) (by decide +kernel) (by decide) (cnd_eq _ _) (fun c1 => ?_) (fun c1 => ?_)
  · refine GE_run flG_T (pc1 := 27) (L1 := [some (.inr (.inr (some (5, 0)))), some (.inl a1), some (.inl a2), none, none, none, none]) (S1 := [.inl (-2)]) (w1 := w) (P := True) [(.bipush (-2), 0, 0, -2, 0)] (by decide +kernel) rfl trivial ?_
    exact GE_iret rfl (by decide +kernel)
  · refine GE_run flG_T (pc1 := 19) (L1 := [some (.inr (.inr (some (5, 0)))), some (.inl a1), some (.inl a2), none, none, none, none]) (S1 := [.inl 3, .inl 0, .inl a2]) (w1 := w) (P := True) [(.iload_n 2, 0, 0, 0, 0), (.iconst 0, 0, 0, 0, 0), (.iconst 3, 0, 0, 3, 0)] (by decide +kernel) rfl trivial ?_
    refine GE_callSIp (As := [.inl a2, .inl 0, .inl 3]) (S := []) (p_X5_in l X a2 0 3 w) ⟨me_X5_in, ms_X5_in, lk_X5_72⟩ (by decide +kernel) rfl (by decide) (by decide) (Nat.le_of_ble_eq_true rfl) ?_
    refine GE_ifN (k := .ne) (off := 6) (tgt := 28) (by decide +kernel) (by decide) (cnd_ne _ _) (fun c2 => ?_) (fun c2 => ?_)
    · refine GE_run flG_T (pc1 := 40) (L1 := [some (.inr (.inr (some (5, 0)))), some (.inl a1), some (.inl a2), some (.inl 65535), some (.inl 0), some (.inl 0), some (.inl 0)]) (S1 := []) (w1 := w) (P := True) [(.ldc 92, 0, 0, 65535, 0), (.istore_n 3, 0, 0, 0, 0), (.iconst 0, 0, 0, 0, 0), (.istore 4, 0, 0, 0, 0), (.iconst 0, 0, 0, 0, 0), (.istore 5, 0, 0, 0, 0), (.iconst 0, 0, 0, 0, 0), (.istore 6, 0, 0, 0, 0)] (by decide +kernel) rfl trivial ?_
      refine GE_weak [true, true, true, true, true, true, true] (h_X5_talk_40_ok l X a1 a2 _ ?_ FU 65535 0 0 0 w)
      · intro x3_8 x4_9 x5_10 w11
        refine GE_run flG_T (pc1 := 109) (L1 := [none, none, some (.inl a2), some (.inl x3_8), some (.inl x4_9), some (.inl x5_10), none]) (S1 := [.inl a2]) (w1 := w11) (P := True) [(.iload_n 2, 0, 0, 0, 0)] (by decide +kernel) rfl trivial ?_
        refine GE_ifN (k := .ne) (off := 7) (tgt := 116) (by decide +kernel) (by decide) (cnd_ne _ _) (fun c12 => ?_) (fun c12 => ?_)
        · refine GE_run flG_T (pc1 := 118) (L1 := [none, none, some (.inl a2), some (.inl x3_8), some (.inl x4_9), some (.inl x5_10), none]) (S1 := [.inl 1, .inl a2]) (w1 := w11) (P := True) [(.iload_n 2, 0, 0, 0, 0), (.iconst 1, 0, 0, 1, 0)] (by decide +kernel) rfl trivial ?_
          refine GE_icmpN (k := .ne) (off := 8) (tgt := 126) (by decide +kernel) (by decide) (cnd_ne _ _) (fun c13 => ?_) (fun c13 => ?_)
          · refine GE_run flG_T (pc1 := 128) (L1 := [none, none, some (.inl a2), some (.inl x3_8), some (.inl x4_9), some (.inl x5_10), none]) (S1 := [.inl 2, .inl a2]) (w1 := w11) (P := True) [(.iload_n 2, 0, 0, 0, 0), (.iconst 2, 0, 0, 2, 0)] (by decide +kernel) rfl trivial ?_
            refine GE_icmpN (k := .ne) (off := 13) (tgt := 141) (by decide +kernel) (by decide) (cnd_ne _ _) (fun c14 => ?_) (fun c14 => ?_)
            · refine GE_run flG_T (pc1 := 148) (L1 := [none, none, some (.inl a2), some (.inl x3_8), some (.inl x4_9), some (.inl x5_10), none]) (S1 := [.inl (x4_9 &&& (x5_10 ^^^ (-1)))]) (w1 := w11) (P := True) [(.iload 4, 0, 0, 0, 0), (.iload 5, 0, 0, 0, 0), (.iconst (-1), 0, 0, -1, 0), (.ixor, 0, 0, 0, 0), (.iand, 0, 0, 0, 0)] (by decide +kernel) rfl trivial ?_
              exact GE_iret rfl (by decide +kernel)
            · refine GE_run flG_T (pc1 := 148) (L1 := [none, none, some (.inl a2), some (.inl x3_8), some (.inl x4_9), some (.inl x5_10), none]) (S1 := [.inl (65535 &&& (x4_9 ^^^ (-1)))]) (w1 := w11) (P := True) [(.ldc 92, 0, 0, 65535, 0), (.iload 4, 0, 0, 0, 0), (.iconst (-1), 0, 0, -1, 0), (.ixor, 0, 0, 0, 0), (.iand, 0, 0, 0, 0), (.goto 10, 0, 0, 0, 0)] (by decide +kernel) rfl trivial ?_
              exact GE_iret rfl (by decide +kernel)
          · refine GE_run flG_T (pc1 := 148) (L1 := [none, none, some (.inl a2), some (.inl x3_8), some (.inl x4_9), some (.inl x5_10), none]) (S1 := [.inl x4_9]) (w1 := w11) (P := True) [(.iload 4, 0, 0, 0, 0), (.goto 25, 0, 0, 0, 0)] (by decide +kernel) rfl trivial ?_
            exact GE_iret rfl (by decide +kernel)
        · refine GE_run flG_T (pc1 := 148) (L1 := [none, none, some (.inl a2), some (.inl x3_8), some (.inl x4_9), some (.inl x5_10), none]) (S1 := [.inl x3_8]) (w1 := w11) (P := True) [(.iload_n 3, 0, 0, 0, 0), (.goto 35, 0, 0, 0, 0)] (by decide +kernel) rfl trivial ?_
          exact GE_iret rfl (by decide +kernel)
    · refine GE_run flG_T (pc1 := 27) (L1 := [some (.inr (.inr (some (5, 0)))), some (.inl a1), some (.inl a2), none, none, none, none]) (S1 := [.inl (-2)]) (w1 := w) (P := True) [(.bipush (-2), 0, 0, -2, 0)] (by decide +kernel) rfl trivial ?_
      exact GE_iret rfl (by decide +kernel)
