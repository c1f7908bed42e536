/-! the reference, second half -/
abbrev mm_X5_keeps : MI := (RX5, cX5_keeps, 2, none, ftp_X5.map (fun q => q.1), ctp_X5.map (fun q => q.1), clp_X5.map (fun q => q.1))
noncomputable def h_X5_keeps_2  (k26 : Mem → Option (Mem)) : Nat → Int32 → Mem → Option (Mem)
  | 0, _, _ => none
  | n + 1, x1, w => if x1 < 18 then (if inB x1 18 then (if inB x1 20 then ((h_X5_keeps_2 k26 n) (x1 + 1) (up w 36 0 (tn x1) (w 22 0 (tn x1)))) else none) else none) else (k26 w)
set_option maxRecDepth 100000 in
theorem h_X5_keeps_2_ok (l : Launch) (X : XC)  (k26 : Mem → Option (Mem))  (hk26 : ∀  (w : Mem), GE l X mm_X5_keeps 0 emV 57 flT (k26 w) 26 [some (.inr (.inr (some (5, 0)))), none] [] w) : ∀ (n : Nat) (x1 : Int32) (w : Mem), GE l X mm_X5_keeps 0 emV 57 flT ((h_X5_keeps_2 k26 n) x1 w) 2 [some (.inr (.inr (some (5, 0)))), some (.inl x1)] [] w := by
  intro n
  induction n with
  | zero => intro x1 w; exact GE_none
  | succ n ih =>
    intro x1 w
    unfold h_X5_keeps_2
    refine GE_run flG_T (pc1 := 5) (L1 := [some (.inr (.inr (some (5, 0)))), some (.inl x1)]) (S1 := [.inl 18, .inl x1]) (w1 := w) (P := True) [(.iload_n 1, 0, 0, 0, 0), (.bipush 18, 0, 0, 18, 0)] (by decide +kernel) rfl trivial ?_
    refine GE_icmpN (k := .ge) (off := 21) (tgt := 26) (by decide +kernel) (by decide) (cnd_ge _ _) (fun c1 => ?_) (fun c1 => ?_)
    · exact GE_weak [true, false] (hk26 w)
    · refine GE_chk (fun h2 => ?_)
      refine GE_chk (fun h3 => ?_)
      refine GE_run flG_T (pc1 := 2) (L1 := [some (.inr (.inr (some (5, 0)))), some (.inl (x1 + 1))]) (S1 := []) (w1 := up w 36 0 (tn x1) (w 22 0 (tn x1))) (P := (inB x1 18) ∧ (inB x1 20) ∧ True) [(.aload_n 0, 0, 0, 0, 0), (.getfield 58, 5, 30, 0, 0), (.iload_n 1, 0, 0, 0, 0), (.aload_n 0, 0, 0, 0, 0), (.getfield 16, 5, 3, 0, 0), (.iload_n 1, 0, 0, 0, 0), (.iaload, 0, 0, 0, 0), (.iastore, 0, 0, 0, 0), (.iinc 1 1, 0, 0, 1, 0), (.goto (-21), 0, 0, 0, 0)] (by decide +kernel) rfl ⟨h2, h3, trivial⟩ ?_
      exact GE_weak [true, true] (ih (x1 + 1) (up w 36 0 (tn x1) (w 22 0 (tn x1))))
noncomputable def f_X5_keeps  (w : Mem) : Option (Mem) := h_X5_keeps_2 (fun w4 => if inB 18 20 then (if inB 19 20 then (some (up (up w4 36 0 (tn 18) (w4 5 0 4)) 36 0 (tn 19) ((up w4 36 0 (tn 18) (w4 5 0 4)) 5 0 5))) else none) else none) FU 0 w
set_option maxRecDepth 100000 in
theorem t_X5_keeps (l : Launch) (X : XC)   (w : Mem) : Ct l X 0 yX5_keeps cX5_keeps 2 none emV [.inr (.inr (some (5, 0)))] 57 flT w (f_X5_keeps  w) := by
  refine Ct_of (mi := mm_X5_keeps) (mik_X5 _ _ _) me_X5_keeps rfl (okAs_cons (by decide) okAs_nil) (Nat.le_of_ble_eq_true rfl) ?_
  unfold f_X5_keeps
  refine GE_run flG_T (pc1 := 2) (L1 := [some (.inr (.inr (some (5, 0)))), some (.inl 0)]) (S1 := []) (w1 := w) (P := True) [(.iconst 0, 0, 0, 0, 0), (.istore_n 1, 0, 0, 0, 0)] (by decide +kernel) rfl trivial ?_
  refine GE_weak [true, true] (h_X5_keeps_2_ok l X _ ?_ FU 0 w)
  · intro w4
    refine GE_chk (fun h5 => ?_)
    refine GE_chk (fun h6 => ?_)
    refine GE_run flG_T (pc1 := 48) (L1 := [some (.inr (.inr (some (5, 0)))), none]) (S1 := []) (w1 := up (up w4 36 0 (tn 18) (w4 5 0 4)) 36 0 (tn 19) ((up w4 36 0 (tn 18) (w4 5 0 4)) 5 0 5)) (P := (inB 18 20) ∧ (inB 19 20) ∧ True) [(.aload_n 0, 0, 0, 0, 0), (.getfield 58, 5, 30, 0, 0), (.bipush 18, 0, 0, 18, 0), (.aload_n 0, 0, 0, 0, 0), (.getfield 76, 5, 4, 0, 0), (.iastore, 0, 0, 0, 0), (.aload_n 0, 0, 0, 0, 0), (.getfield 58, 5, 30, 0, 0), (.bipush 19, 0, 0, 19, 0), (.aload_n 0, 0, 0, 0, 0), (.getfield 83, 5, 5, 0, 0), (.iastore, 0, 0, 0, 0)] (by decide +kernel) rfl ⟨h5, h6, trivial⟩ ?_
    exact GE_vret rfl (by decide +kernel)
abbrev mm_X5_lays : MI := (RX5, cX5_lays, 2, none, ftp_X5.map (fun q => q.1), ctp_X5.map (fun q => q.1), clp_X5.map (fun q => q.1))
noncomputable def h_X5_lays_2  (k26 : Mem → Option (Mem)) : Nat → Int32 → Mem → Option (Mem)
  | 0, _, _ => none
  | n + 1, x1, w => if x1 < 18 then (if inB x1 20 then (if inB x1 18 then ((h_X5_lays_2 k26 n) (x1 + 1) (up w 22 0 (tn x1) (w 36 0 (tn x1)))) else none) else none) else (k26 w)
set_option maxRecDepth 100000 in
theorem h_X5_lays_2_ok (l : Launch) (X : XC)  (k26 : Mem → Option (Mem))  (hk26 : ∀  (w : Mem), GE l X mm_X5_lays 0 emV 57 flT (k26 w) 26 [some (.inr (.inr (some (5, 0)))), none] [] w) : ∀ (n : Nat) (x1 : Int32) (w : Mem), GE l X mm_X5_lays 0 emV 57 flT ((h_X5_lays_2 k26 n) x1 w) 2 [some (.inr (.inr (some (5, 0)))), some (.inl x1)] [] w := by
  intro n
  induction n with
  | zero => intro x1 w; exact GE_none
  | succ n ih =>
    intro x1 w
    unfold h_X5_lays_2
    refine GE_run flG_T (pc1 := 5) (L1 := [some (.inr (.inr (some (5, 0)))), some (.inl x1)]) (S1 := [.inl 18, .inl x1]) (w1 := w) (P := True) [(.iload_n 1, 0, 0, 0, 0), (.bipush 18, 0, 0, 18, 0)] (by decide +kernel) rfl trivial ?_
    refine GE_icmpN (k := .ge) (off := 21) (tgt := 26) (by decide +kernel) (by decide) (cnd_ge _ _) (fun c1 => ?_) (fun c1 => ?_)
    · exact GE_weak [true, false] (hk26 w)
    · refine GE_chk (fun h2 => ?_)
      refine GE_chk (fun h3 => ?_)
      refine GE_run flG_T (pc1 := 2) (L1 := [some (.inr (.inr (some (5, 0)))), some (.inl (x1 + 1))]) (S1 := []) (w1 := up w 22 0 (tn x1) (w 36 0 (tn x1))) (P := (inB x1 20) ∧ (inB x1 18) ∧ True) [(.aload_n 0, 0, 0, 0, 0), (.getfield 16, 5, 3, 0, 0), (.iload_n 1, 0, 0, 0, 0), (.aload_n 0, 0, 0, 0, 0), (.getfield 58, 5, 30, 0, 0), (.iload_n 1, 0, 0, 0, 0), (.iaload, 0, 0, 0, 0), (.iastore, 0, 0, 0, 0), (.iinc 1 1, 0, 0, 1, 0), (.goto (-21), 0, 0, 0, 0)] (by decide +kernel) rfl ⟨h2, h3, trivial⟩ ?_
      exact GE_weak [true, true] (ih (x1 + 1) (up w 22 0 (tn x1) (w 36 0 (tn x1))))
noncomputable def f_X5_lays  (w : Mem) : Option (Mem) := h_X5_lays_2 (fun w4 => if inB 18 20 then (if inB 19 20 then (some (up (up w4 5 0 4 (w4 36 0 (tn 18))) 5 0 5 ((up w4 5 0 4 (w4 36 0 (tn 18))) 36 0 (tn 19)))) else none) else none) FU 0 w
set_option maxRecDepth 100000 in
theorem t_X5_lays (l : Launch) (X : XC)   (w : Mem) : Ct l X 0 yX5_lays cX5_lays 2 none emV [.inr (.inr (some (5, 0)))] 57 flT w (f_X5_lays  w) := by
  refine Ct_of (mi := mm_X5_lays) (mik_X5 _ _ _) me_X5_lays rfl (okAs_cons (by decide) okAs_nil) (Nat.le_of_ble_eq_true rfl) ?_
  unfold f_X5_lays
  refine GE_run flG_T (pc1 := 2) (L1 := [some (.inr (.inr (some (5, 0)))), some (.inl 0)]) (S1 := []) (w1 := w) (P := True) [(.iconst 0, 0, 0, 0, 0), (.istore_n 1, 0, 0, 0, 0)] (by decide +kernel) rfl trivial ?_
  refine GE_weak [true, true] (h_X5_lays_2_ok l X _ ?_ FU 0 w)
  · intro w4
    refine GE_chk (fun h5 => ?_)
    refine GE_chk (fun h6 => ?_)
    refine GE_run flG_T (pc1 := 48) (L1 := [some (.inr (.inr (some (5, 0)))), none]) (S1 := []) (w1 := up (up w4 5 0 4 (w4 36 0 (tn 18))) 5 0 5 ((up w4 5 0 4 (w4 36 0 (tn 18))) 36 0 (tn 19))) (P := (inB 18 20) ∧ (inB 19 20) ∧ True) [(.aload_n 0, 0, 0, 0, 0), (.aload_n 0, 0, 0, 0, 0), (.getfield 58, 5, 30, 0, 0), (.bipush 18, 0, 0, 18, 0), (.iaload, 0, 0, 0, 0), (.putfield 76, 5, 4, 0, 0), (.aload_n 0, 0, 0, 0, 0), (.aload_n 0, 0, 0, 0, 0), (.getfield 58, 5, 30, 0, 0), (.bipush 19, 0, 0, 19, 0), (.iaload, 0, 0, 0, 0), (.putfield 83, 5, 5, 0, 0)] (by decide +kernel) rfl ⟨h5, h6, trivial⟩ ?_
    exact GE_vret rfl (by decide +kernel)
abbrev mm_X5_seasonWrong : MI := (RX5, cX5_seasonWrong, 3, (some .int), ftp_X5.map (fun q => q.1), ctp_X5.map (fun q => q.1), clp_X5.map (fun q => q.1))
noncomputable def h_X5_seasonWrong_27 (x1 : Int32) (k63 : Mem → Option (Int32 × Mem)) : Nat → Int32 → Mem → Option (Int32 × Mem)
  | 0, _, _ => none
  | n + 1, x2, w => if inB x1 4 then (if x2 < (w 29 0 (tn x1)) then (if inB ((40 * x1) + x2) 160 then (if (rng (w 30 0 (tn ((40 * x1) + x2))) 0 15) = 0 then (some ((-2), w)) else ((h_X5_seasonWrong_27 x1 k63 n) (x2 + 1) w)) else none) else (k63 w)) else none
set_option maxRecDepth 100000 in
theorem h_X5_seasonWrong_27_ok (l : Launch) (X : XC) (x1 : Int32) (k63 : Mem → Option (Int32 × Mem))  (hk63 : ∀  (w : Mem), GE l X mm_X5_seasonWrong 2 emI 57 flT (k63 w) 63 [none, none, none] [] w) : ∀ (n : Nat) (x2 : Int32) (w : Mem), GE l X mm_X5_seasonWrong 2 emI 57 flT ((h_X5_seasonWrong_27 x1 k63 n) x2 w) 27 [some (.inr (.inr (some (5, 0)))), some (.inl x1), some (.inl x2)] [] w := by
  intro n
  induction n with
  | zero => intro x2 w; exact GE_none
  | succ n ih =>
    intro x2 w
    unfold h_X5_seasonWrong_27
    refine GE_chk (fun h4 => ?_)
    refine GE_run flG_T (pc1 := 34) (L1 := [some (.inr (.inr (some (5, 0)))), some (.inl x1), some (.inl x2)]) (S1 := [.inl (w 29 0 (tn x1)), .inl x2]) (w1 := w) (P := (inB x1 4) ∧ True) [(.iload_n 2, 0, 0, 0, 0), (.aload_n 0, 0, 0, 0, 0), (.getfield 37, 5, 16, 0, 0), (.iload_n 1, 0, 0, 0, 0), (.iaload, 0, 0, 0, 0)] (by decide +kernel) rfl ⟨h4, trivial⟩ ?_
    refine GE_icmpN (k := .ge) (off := 29) (tgt := 63) (by decide +kernel) (by decide) (cnd_ge _ _) (fun c5 => ?_) (fun c5 => ?_)
    · exact GE_weak [false, false, false] (hk63 w)
    · refine GE_chk (fun h6 => ?_)
      refine GE_run flG_T (pc1 := 48) (L1 := [some (.inr (.inr (some (5, 0)))), some (.inl x1), some (.inl x2)]) (S1 := [.inl (w 30 0 (tn ((40 * x1) + x2)))]) (w1 := w) (P := (inB ((40 * x1) + x2) 160) ∧ True) [(.aload_n 0, 0, 0, 0, 0), (.getfield 40, 5, 17, 0, 0), (.bipush 40, 0, 0, 40, 0), (.iload_n 1, 0, 0, 0, 0), (.imul, 0, 0, 0, 0), (.iload_n 2, 0, 0, 0, 0), (.iadd, 0, 0, 0, 0), (.iaload, 0, 0, 0, 0)] (by decide +kernel) rfl ⟨h6, trivial⟩ ?_
      refine GE_callSIp (As := [.inl (w 30 0 (tn ((40 * x1) + x2)))]) (S := []) (p_X5_isThing l X (w 30 0 (tn ((40 * x1) + x2))) w) ⟨me_X5_isThing, ms_X5_isThing, lk_X5_165⟩ (by decide +kernel) rfl (by decide) (by decide) (Nat.le_of_ble_eq_true rfl) ?_
      refine GE_ifN (k := .ne) (off := 6) (tgt := 57) (by decide +kernel) (by decide) (cnd_ne _ _) (fun c7 => ?_) (fun c7 => ?_)
      · refine GE_run flG_T (pc1 := 27) (L1 := [some (.inr (.inr (some (5, 0)))), some (.inl x1), some (.inl (x2 + 1))]) (S1 := []) (w1 := w) (P := True) [(.iinc 2 1, 0, 0, 1, 0), (.goto (-33), 0, 0, 0, 0)] (by decide +kernel) rfl trivial ?_
        exact GE_weak [true, true, true] (ih (x2 + 1) w)
      · refine GE_run flG_T (pc1 := 56) (L1 := [some (.inr (.inr (some (5, 0)))), some (.inl x1), some (.inl x2)]) (S1 := [.inl (-2)]) (w1 := w) (P := True) [(.bipush (-2), 0, 0, -2, 0)] (by decide +kernel) rfl trivial ?_
        exact GE_iret rfl (by decide +kernel)
noncomputable def f_X5_seasonWrong (a1 : Int32) (w : Mem) : Option (Int32 × Mem) := if (rng a1 0 3) = 0 then (some ((-2), w)) else (if inB a1 4 then (if (w 28 0 (tn a1)) = (-1) then (some ((-11), w)) else (h_X5_seasonWrong_27 a1 (fun w8 => some (0, w8)) FU 0 w)) else none)
set_option maxRecDepth 100000 in
theorem t_X5_seasonWrong (l : Launch) (X : XC)  (a1 : Int32) (w : Mem) : Ct l X 2 yX5_seasonWrong cX5_seasonWrong 3 (some .int) emI [.inr (.inr (some (5, 0))), .inl a1] 57 flT w (f_X5_seasonWrong a1 w) := by
  refine Ct_of (mi := mm_X5_seasonWrong) (mik_X5 _ _ _) me_X5_seasonWrong rfl (okAs_cons (by decide) (okAs_cons rfl okAs_nil)) (Nat.le_of_ble_eq_true rfl) ?_
  unfold f_X5_seasonWrong
  refine GE_run flG_T (pc1 := 3) (L1 := [some (.inr (.inr (some (5, 0)))), some (.inl a1), none]) (S1 := [.inl 3, .inl 0, .inl a1]) (w1 := w) (P := True) [(.iload_n 1, 0, 0, 0, 0), (.iconst 0, 0, 0, 0, 0), (.iconst 3, 0, 0, 3, 0)] (by decide +kernel) rfl trivial ?_
  refine GE_callSIp (As := [.inl a1, .inl 0, .inl 3]) (S := []) (p_X5_in l X a1 0 3 w) ⟨me_X5_in, ms_X5_in, lk_X5_72⟩ (by decide +kernel) rfl (by decide) (by decide) (Nat.le_of_ble_eq_true rfl) ?_
  refine GE_ifN (k := .ne) (off := 6) (tgt := 12) (by decide +kernel) (by decide) (cnd_ne _ _) (fun c1 => ?_) (fun c1 => ?_)
  · refine GE_chk (fun h2 => ?_)
    refine GE_run flG_T (pc1 := 19) (L1 := [some (.inr (.inr (some (5, 0)))), some (.inl a1), none]) (S1 := [.inl (-1), .inl (w 28 0 (tn a1))]) (w1 := w) (P := (inB a1 4) ∧ True) [(.aload_n 0, 0, 0, 0, 0), (.getfield 34, 5, 15, 0, 0), (.iload_n 1, 0, 0, 0, 0), (.iaload, 0, 0, 0, 0), (.iconst (-1), 0, 0, -1, 0)] (by decide +kernel) rfl ⟨h2, trivial⟩ ?_
    refine GE_icmpN (k := .ne) (off := 6) (tgt := 25) (by decide +kernel) (by decide) (cnd_ne _ _) (fun c3 => ?_) (fun c3 => ?_)
    · refine GE_run flG_T (pc1 := 27) (L1 := [some (.inr (.inr (some (5, 0)))), some (.inl a1), some (.inl 0)]) (S1 := []) (w1 := w) (P := True) [(.iconst 0, 0, 0, 0, 0), (.istore_n 2, 0, 0, 0, 0)] (by decide +kernel) rfl trivial ?_
      refine GE_weak [true, true, true] (h_X5_seasonWrong_27_ok l X a1 _ ?_ FU 0 w)
      · intro w8
        refine GE_run flG_T (pc1 := 64) (L1 := [none, none, none]) (S1 := [.inl 0]) (w1 := w8) (P := True) [(.iconst 0, 0, 0, 0, 0)] (by decide +kernel) rfl trivial ?_
        exact GE_iret rfl (by decide +kernel)
    · refine GE_run flG_T (pc1 := 24) (L1 := [some (.inr (.inr (some (5, 0)))), some (.inl a1), none]) (S1 := [.inl (-11)]) (w1 := w) (P := True) [(.bipush (-11), 0, 0, -11, 0)] (by decide +kernel) rfl trivial ?_
      exact GE_iret rfl (by decide +kernel)
  · refine GE_run flG_T (pc1 := 11) (L1 := [some (.inr (.inr (some (5, 0)))), some (.inl a1), none]) (S1 := [.inl (-2)]) (w1 := w) (P := True) [(.bipush (-2), 0, 0, -2, 0)] (by decide +kernel) rfl trivial ?_
    exact GE_iret rfl (by decide +kernel)
abbrev mm_X5_oneWrong : MI := (RX5, cX5_oneWrong, 4, (some .int), ftp_X5.map (fun q => q.1), ctp_X5.map (fun q => q.1), clp_X5.map (fun q => q.1))
noncomputable def f_X5_oneWrong (a1 : Int32) (a2 : Int32) (w : Mem) : Option (Int32 × Mem) := Option.bind (f_X5_seasonWrong a1 w) (fun r1 => if r1.1 = 0 then (if (rng a2 0 (r1.2 5 0 0 - 1)) = 0 then (some ((-5), r1.2)) else (some (0, r1.2))) else (some (r1.1, r1.2)))
set_option maxRecDepth 100000 in
theorem t_X5_oneWrong (l : Launch) (X : XC)  (a1 : Int32) (a2 : Int32) (w : Mem) : Ct l X 3 yX5_oneWrong cX5_oneWrong 4 (some .int) emI [.inr (.inr (some (5, 0))), .inl a1, .inl a2] 57 flT w (f_X5_oneWrong a1 a2 w) := by
  refine Ct_of (mi := mm_X5_oneWrong) (mik_X5 _ _ _) me_X5_oneWrong rfl (okAs_cons (by decide) (okAs_cons rfl (okAs_cons rfl okAs_nil))) (Nat.le_of_ble_eq_true rfl) ?_
  unfold f_X5_oneWrong
  refine GE_run flG_T (pc1 := 2) (L1 := [some (.inr (.inr (some (5, 0)))), some (.inl a1), some (.inl a2), none]) (S1 := [.inl a1, .inr (.inr (some (5, 0)))]) (w1 := w) (P := True) [(.aload_n 0, 0, 0, 0, 0), (.iload_n 1, 0, 0, 0, 0)] (by decide +kernel) rfl trivial ?_
  refine GE_callVI (As := [.inl a1]) (k := 5) (i := 0) (S := []) (t_X5_seasonWrong l X a1 w) (by decide) ⟨me_X5_seasonWrong, mi_X5_seasonWrong, mv_X5_seasonWrong, lk_X5_192⟩ rfl (by decide +kernel) rfl (by decide) (by decide) (Nat.le_of_ble_eq_true rfl) (fun r1 _ => ?_)
  refine GE_run flG_T (pc1 := 7) (L1 := [some (.inr (.inr (some (5, 0)))), some (.inl a1), some (.inl a2), some (.inl r1.1)]) (S1 := [.inl r1.1]) (w1 := r1.2) (P := True) [(.istore_n 3, 0, 0, 0, 0), (.iload_n 3, 0, 0, 0, 0)] (by decide +kernel) rfl trivial ?_
  refine GE_if (k := .eq) (off := 7) (tgt := 14) (by decide +kernel) (by decide) (cnd_eq _ _) (fun c2 => ?_) (fun c2 => ?_)
  · refine GE_run flG_T (pc1 := 16) (L1 := [some (.inr (.inr (some (5, 0)))), some (.inl a1), some (.inl a2), some (.inl r1.1)]) (S1 := [.inl a2, .inr (.inr (some (5, 0)))]) (w1 := r1.2) (P := True) [(.aload_n 0, 0, 0, 0, 0), (.iload_n 2, 0, 0, 0, 0)] (by decide +kernel) rfl trivial ?_
    refine GE_callVIp (As := [.inl a2]) (k := 5) (i := 0) (S := []) (p_X5_isOne l X a2 r1.2) (by decide) ⟨me_X5_isOne, mi_X5_isOne, mv_X5_isOne, lk_X5_162⟩ rfl (by decide +kernel) rfl (by decide) (by decide) (Nat.le_of_ble_eq_true rfl) ?_
    refine GE_if (k := .eq) (off := 7) (tgt := 26) (by decide +kernel) (by decide) (cnd_eq _ _) (fun c3 => ?_) (fun c3 => ?_)
    · refine GE_run flG_T (pc1 := 28) (L1 := [some (.inr (.inr (some (5, 0)))), some (.inl a1), some (.inl a2), some (.inl r1.1)]) (S1 := [.inl (-5)]) (w1 := r1.2) (P := True) [(.bipush (-5), 0, 0, -5, 0)] (by decide +kernel) rfl trivial ?_
      exact GE_iret rfl (by decide +kernel)
    · refine GE_run flG_T (pc1 := 28) (L1 := [some (.inr (.inr (some (5, 0)))), some (.inl a1), some (.inl a2), some (.inl r1.1)]) (S1 := [.inl 0]) (w1 := r1.2) (P := True) [(.iconst 0, 0, 0, 0, 0), (.goto 5, 0, 0, 0, 0)] (by decide +kernel) rfl trivial ?_
      exact GE_iret rfl (by decide +kernel)
  · refine GE_run flG_T (pc1 := 28) (L1 := [some (.inr (.inr (some (5, 0)))), some (.inl a1), some (.inl a2), some (.inl r1.1)]) (S1 := [.inl r1.1]) (w1 := r1.2) (P := True) [(.iload_n 3, 0, 0, 0, 0), (.goto 17, 0, 0, 0, 0)] (by decide +kernel) rfl trivial ?_
    exact GE_iret rfl (by decide +kernel)
abbrev mm_X5_goes : MI := (RX5, cX5_goes, 5, none, ftp_X5.map (fun q => q.1), ctp_X5.map (fun q => q.1), clp_X5.map (fun q => q.1))
noncomputable def j_X5_goes_57  (kl7 : Int32 → Mem → Option (Mem)) (x1 : Int32) (x2 : Int32) (x3 : Int32) (s0 : Int32) (s1 : Int32) (w : Mem) : Option (Mem) := Option.bind (f_X5_tideOf (up w 5 0 31 (s1 + s0))) (fun r6 => kl7 (x3 + 1) r6.2)
set_option maxRecDepth 100000 in
theorem j_X5_goes_57_ok (l : Launch) (X : XC)  (kl7 : Int32 → Mem → Option (Mem)) (x1 : Int32) (x2 : Int32) (x3 : Int32) (s0 : Int32) (s1 : Int32)  (ih : ∀ (x3 : Int32) (w : Mem), GE l X mm_X5_goes 5 emV 57 flT (kl7 x3 w) 7 [some (.inr (.inr (some (5, 0)))), some (.inl x1), some (.inl x2), some (.inl x3), none] [] w) (w : Mem) : GE l X mm_X5_goes 5 emV 57 flT (j_X5_goes_57 kl7 x1 x2 x3 s0 s1 w) 57 [some (.inr (.inr (some (5, 0)))), some (.inl x1), some (.inl x2), some (.inl x3), none] [.inl s0, .inl s1, .inr (.inr (some (5, 0)))] w := by
  unfold j_X5_goes_57
  refine GE_run flG_T (pc1 := 62) (L1 := [some (.inr (.inr (some (5, 0)))), some (.inl x1), some (.inl x2), some (.inl x3), none]) (S1 := [.inr (.inr (some (5, 0)))]) (w1 := up w 5 0 31 (s1 + s0)) (P := True) [(.iadd, 0, 0, 0, 0), (.putfield 195, 5, 31, 0, 0), (.aload_n 0, 0, 0, 0, 0)] (by decide +kernel) rfl trivial ?_
  refine GE_callVI (As := []) (k := 5) (i := 0) (S := []) (t_X5_tideOf l X (up w 5 0 31 (s1 + s0))) (by decide) ⟨me_X5_tideOf, mi_X5_tideOf, mv_X5_tideOf, lk_X5_189⟩ rfl (by decide +kernel) rfl (by decide) (by decide) (Nat.le_of_ble_eq_true rfl) (fun r6 _ => ?_)
  refine GE_run flG_T (pc1 := 7) (L1 := [some (.inr (.inr (some (5, 0)))), some (.inl x1), some (.inl x2), some (.inl (x3 + 1)), none]) (S1 := []) (w1 := r6.2) (P := True) [(.pop, 0, 0, 0, 0), (.iinc 3 1, 0, 0, 1, 0), (.goto (-62), 0, 0, 0, 0)] (by decide +kernel) rfl trivial ?_
  exact GE_weak [true, true, true, true, false] (ih (x3 + 1) r6.2)
noncomputable def h_X5_goes_7 (x1 : Int32) (x2 : Int32) (k72 : Mem → Option (Mem)) : Nat → Int32 → Mem → Option (Mem)
  | 0, _, _ => none
  | n + 1, x3, w => if inB x1 4 then (if x3 < (w 29 0 (tn x1)) then (if inB ((40 * x1) + x3) 160 then (Option.bind (f_X5_landOf x2 (wiF (w 30 0 (tn ((40 * x1) + x3))) 0 15) w) (fun r4 => if r4.1 = (-1) then (j_X5_goes_57 (h_X5_goes_7 x1 x2 k72 n) x1 x2 x3 1 (r4.2 5 0 31) r4.2) else (j_X5_goes_57 (h_X5_goes_7 x1 x2 k72 n) x1 x2 x3 0 (r4.2 5 0 31) r4.2))) else none) else (k72 w)) else none
set_option maxRecDepth 100000 in
theorem h_X5_goes_7_ok (l : Launch) (X : XC) (x1 : Int32) (x2 : Int32) (k72 : Mem → Option (Mem))  (hk72 : ∀  (w : Mem), GE l X mm_X5_goes 5 emV 57 flT (k72 w) 72 [none, none, none, none, none] [] w) : ∀ (n : Nat) (x3 : Int32) (w : Mem), GE l X mm_X5_goes 5 emV 57 flT ((h_X5_goes_7 x1 x2 k72 n) x3 w) 7 [some (.inr (.inr (some (5, 0)))), some (.inl x1), some (.inl x2), some (.inl x3), none] [] w := by
  intro n
  induction n with
  | zero => intro x3 w; exact GE_none
  | succ n ih =>
    intro x3 w
    unfold h_X5_goes_7
    refine GE_chk (fun h1 => ?_)
    refine GE_run flG_T (pc1 := 14) (L1 := [some (.inr (.inr (some (5, 0)))), some (.inl x1), some (.inl x2), some (.inl x3), none]) (S1 := [.inl (w 29 0 (tn x1)), .inl x3]) (w1 := w) (P := (inB x1 4) ∧ True) [(.iload_n 3, 0, 0, 0, 0), (.aload_n 0, 0, 0, 0, 0), (.getfield 37, 5, 16, 0, 0), (.iload_n 1, 0, 0, 0, 0), (.iaload, 0, 0, 0, 0)] (by decide +kernel) rfl ⟨h1, trivial⟩ ?_
    refine GE_icmpN (k := .ge) (off := 58) (tgt := 72) (by decide +kernel) (by decide) (cnd_ge _ _) (fun c2 => ?_) (fun c2 => ?_)
    · exact GE_weak [false, false, false, false, false] (hk72 w)
    · refine GE_chk (fun h3 => ?_)
      refine GE_run flG_T (pc1 := 33) (L1 := [some (.inr (.inr (some (5, 0)))), some (.inl x1), some (.inl x2), some (.inl x3), none]) (S1 := [.inl 15, .inl 0, .inl (w 30 0 (tn ((40 * x1) + x3))), .inl x2, .inr (.inr (some (5, 0)))]) (w1 := w) (P := (inB ((40 * x1) + x3) 160) ∧ True) [(.aload_n 0, 0, 0, 0, 0), (.iload_n 2, 0, 0, 0, 0), (.aload_n 0, 0, 0, 0, 0), (.getfield 40, 5, 17, 0, 0), (.bipush 40, 0, 0, 40, 0), (.iload_n 1, 0, 0, 0, 0), (.imul, 0, 0, 0, 0), (.iload_n 3, 0, 0, 0, 0), (.iadd, 0, 0, 0, 0), (.iaload, 0, 0, 0, 0), (.iconst 0, 0, 0, 0, 0), (.bipush 15, 0, 0, 15, 0)] (by decide +kernel) rfl ⟨h3, trivial⟩ ?_
      refine GE_callSIp (As := [.inl (w 30 0 (tn ((40 * x1) + x3))), .inl 0, .inl 15]) (S := [.inl x2, .inr (.inr (some (5, 0)))]) (p_X5_within l X (w 30 0 (tn ((40 * x1) + x3))) 0 15 w) ⟨me_X5_within, ms_X5_within, lk_X5_159⟩ (by decide +kernel) rfl (by decide) (by decide) (Nat.le_of_ble_eq_true rfl) ?_
      refine GE_callVI (As := [.inl x2, .inl (wiF (w 30 0 (tn ((40 * x1) + x3))) 0 15)]) (k := 5) (i := 0) (S := []) (t_X5_landOf l X x2 (wiF (w 30 0 (tn ((40 * x1) + x3))) 0 15) w) (by decide) ⟨me_X5_landOf, mi_X5_landOf, mv_X5_landOf, lk_X5_183⟩ rfl (by decide +kernel) rfl (by decide) (by decide) (Nat.le_of_ble_eq_true rfl) (fun r4 _ => ?_)
      refine GE_run flG_T (pc1 := 49) (L1 := [some (.inr (.inr (some (5, 0)))), some (.inl x1), some (.inl x2), some (.inl x3), some (.inl r4.1)]) (S1 := [.inl (-1), .inl r4.1, .inl (r4.2 5 0 31), .inr (.inr (some (5, 0)))]) (w1 := r4.2) (P := True) [(.istore 4, 0, 0, 0, 0), (.aload_n 0, 0, 0, 0, 0), (.dup, 0, 0, 0, 0), (.getfield 195, 5, 31, 0, 0), (.iload 4, 0, 0, 0, 0), (.iconst (-1), 0, 0, -1, 0)] (by decide +kernel) rfl trivial ?_
      refine GE_icmpN (k := .ne) (off := 7) (tgt := 56) (by decide +kernel) (by decide) (cnd_ne _ _) (fun c5 => ?_) (fun c5 => ?_)
      · refine GE_run flG_T (pc1 := 57) (L1 := [some (.inr (.inr (some (5, 0)))), some (.inl x1), some (.inl x2), some (.inl x3), some (.inl r4.1)]) (S1 := [.inl 0, .inl (r4.2 5 0 31), .inr (.inr (some (5, 0)))]) (w1 := r4.2) (P := True) [(.iconst 0, 0, 0, 0, 0)] (by decide +kernel) rfl trivial ?_
        exact GE_weak [true, true, true, true, false] (j_X5_goes_57_ok l X (h_X5_goes_7 x1 x2 k72 n) x1 x2 x3 0 (r4.2 5 0 31) ih r4.2)
      · refine GE_run flG_T (pc1 := 57) (L1 := [some (.inr (.inr (some (5, 0)))), some (.inl x1), some (.inl x2), some (.inl x3), some (.inl r4.1)]) (S1 := [.inl 1, .inl (r4.2 5 0 31), .inr (.inr (some (5, 0)))]) (w1 := r4.2) (P := True) [(.iconst 1, 0, 0, 1, 0), (.goto 4, 0, 0, 0, 0)] (by decide +kernel) rfl trivial ?_
        exact GE_weak [true, true, true, true, false] (j_X5_goes_57_ok l X (h_X5_goes_7 x1 x2 k72 n) x1 x2 x3 1 (r4.2 5 0 31) ih r4.2)
noncomputable def f_X5_goes (a1 : Int32) (a2 : Int32) (w : Mem) : Option (Mem) := h_X5_goes_7 a1 a2 (fun w7 => some w7) FU 0 (up w 5 0 31 0)
set_option maxRecDepth 100000 in
theorem t_X5_goes (l : Launch) (X : XC)  (a1 : Int32) (a2 : Int32) (w : Mem) : Ct l X 5 yX5_goes cX5_goes 5 none emV [.inr (.inr (some (5, 0))), .inl a1, .inl a2] 57 flT w (f_X5_goes a1 a2 w) := by
  refine Ct_of (mi := mm_X5_goes) (mik_X5 _ _ _) me_X5_goes rfl (okAs_cons (by decide) (okAs_cons rfl (okAs_cons rfl okAs_nil))) (Nat.le_of_ble_eq_true rfl) ?_
  unfold f_X5_goes
  refine GE_run flG_T (pc1 := 7) (L1 := [some (.inr (.inr (some (5, 0)))), some (.inl a1), some (.inl a2), some (.inl 0), none]) (S1 := []) (w1 := up w 5 0 31 0) (P := True) [(.aload_n 0, 0, 0, 0, 0), (.iconst 0, 0, 0, 0, 0), (.putfield 195, 5, 31, 0, 0), (.iconst 0, 0, 0, 0, 0), (.istore_n 3, 0, 0, 0, 0)] (by decide +kernel) rfl trivial ?_
  refine GE_weak [true, true, true, true, false] (h_X5_goes_7_ok l X a1 a2 _ ?_ FU 0 (up w 5 0 31 0))
  · intro w7
    exact GE_vret rfl (by decide +kernel)
abbrev mm_X5_season : MI := (RX5, cX5_season, 6, (some .int), ftp_X5.map (fun q => q.1), ctp_X5.map (fun q => q.1), clp_X5.map (fun q => q.1))
noncomputable def f_X5_season (a1 : Int32) (a2 : Int32) (a3 : Int32) (w : Mem) : Option (Int32 × Mem) := Option.bind (f_X5_oneWrong a1 a2 w) (fun r1 => if r1.1 = 0 then (if (rng a3 0 4) = 0 then (some ((-7), r1.2)) else (Option.bind (f_X5_keeps r1.2) (fun r4 => Option.bind (f_X5_goes a1 a2 r4) (fun r5 => swE a3 0 [if inB (3 * a2) 18 then (Option.bind (f_X5_lays r5) (fun r7 => some (bitsF (r5 22 0 (tn (3 * a2))), r7))) else none, if inB ((3 * a2) + 2) 18 then (Option.bind (f_X5_lays r5) (fun r9 => some (r5 22 0 (tn ((3 * a2) + 2)), r9))) else none, Option.bind (f_X5_lays r5) (fun r10 => some (r5 5 0 4, r10)), Option.bind (f_X5_lays r5) (fun r11 => some (r5 5 0 31, r11))] (if inB ((3 * a2) + 1) 18 then (if inB (3 * a2) 18 then (Option.bind (f_X5_lays r5) (fun r14 => some ((r5 22 0 (tn ((3 * a2) + 1))) &&& ((r5 22 0 (tn (3 * a2))) ^^^ (-1)), r14))) else none) else none))))) else (some (r1.1, r1.2)))
set_option maxRecDepth 100000 in
theorem t_X5_season (l : Launch) (X : XC)  (a1 : Int32) (a2 : Int32) (a3 : Int32) (w : Mem) : Ct l X 6 yX5_season cX5_season 6 (some .int) emI [.inr (.inr (some (5, 0))), .inl a1, .inl a2, .inl a3] 57 flT w (f_X5_season a1 a2 a3 w) := by
  refine Ct_of (mi := mm_X5_season) (mik_X5 _ _ _) me_X5_season rfl (okAs_cons (by decide) (okAs_cons rfl (okAs_cons rfl (okAs_cons rfl okAs_nil)))) (Nat.le_of_ble_eq_true rfl) ?_
  unfold f_X5_season
  refine GE_run flG_T (pc1 := 3) (L1 := [some (.inr (.inr (some (5, 0)))), some (.inl a1), some (.inl a2), some (.inl a3), none, none]) (S1 := [.inl a2, .inl a1, .inr (.inr (some (5, 0)))]) (w1 := w) (P := True) [(.aload_n 0, 0, 0, 0, 0), (.iload_n 1, 0, 0, 0, 0), (.iload_n 2, 0, 0, 0, 0)] (by decide +kernel) rfl trivial ?_
  refine GE_callVI (As := [.inl a1, .inl a2]) (k := 5) (i := 0) (S := []) (t_X5_oneWrong l X a1 a2 w) (by decide) ⟨me_X5_oneWrong, mi_X5_oneWrong, mv_X5_oneWrong, lk_X5_198⟩ rfl (by decide +kernel) rfl (by decide) (by decide) (Nat.le_of_ble_eq_true rfl) (fun r1 _ => ?_)
  refine GE_run flG_T (pc1 := 10) (L1 := [some (.inr (.inr (some (5, 0)))), some (.inl a1), some (.inl a2), some (.inl a3), some (.inl r1.1), none]) (S1 := [.inl r1.1]) (w1 := r1.2) (P := True) [(.istore 4, 0, 0, 0, 0), (.iload 4, 0, 0, 0, 0)] (by decide +kernel) rfl trivial ?_
  refine GE_if (k := .eq) (off := 6) (tgt := 16) (by decide +kernel) (by decide) (cnd_eq _ _) (fun c2 => ?_) (fun c2 => ?_)
  · refine GE_run flG_T (pc1 := 19) (L1 := [some (.inr (.inr (some (5, 0)))), some (.inl a1), some (.inl a2), some (.inl a3), some (.inl r1.1), none]) (S1 := [.inl 4, .inl 0, .inl a3]) (w1 := r1.2) (P := True) [(.iload_n 3, 0, 0, 0, 0), (.iconst 0, 0, 0, 0, 0), (.iconst 4, 0, 0, 4, 0)] (by decide +kernel) rfl trivial ?_
    refine GE_callSIp (As := [.inl a3, .inl 0, .inl 4]) (S := []) (p_X5_in l X a3 0 4 r1.2) ⟨me_X5_in, ms_X5_in, lk_X5_72⟩ (by decide +kernel) rfl (by decide) (by decide) (Nat.le_of_ble_eq_true rfl) ?_
    refine GE_ifN (k := .ne) (off := 6) (tgt := 28) (by decide +kernel) (by decide) (cnd_ne _ _) (fun c3 => ?_) (fun c3 => ?_)
    · refine GE_run flG_T (pc1 := 29) (L1 := [some (.inr (.inr (some (5, 0)))), some (.inl a1), some (.inl a2), some (.inl a3), some (.inl r1.1), none]) (S1 := [.inr (.inr (some (5, 0)))]) (w1 := r1.2) (P := True) [(.aload_n 0, 0, 0, 0, 0)] (by decide +kernel) rfl trivial ?_
      refine GE_callVV (As := []) (k := 5) (i := 0) (S := []) (t_X5_keeps l X r1.2) (by decide) ⟨me_X5_keeps, mi_X5_keeps, mv_X5_keeps, lk_X5_201⟩ rfl (by decide +kernel) rfl (by decide) (by decide) (Nat.le_of_ble_eq_true rfl) (fun r4 _ => ?_)
      refine GE_run flG_T (pc1 := 35) (L1 := [some (.inr (.inr (some (5, 0)))), some (.inl a1), some (.inl a2), some (.inl a3), some (.inl r1.1), none]) (S1 := [.inl a2, .inl a1, .inr (.inr (some (5, 0)))]) (w1 := r4) (P := True) [(.aload_n 0, 0, 0, 0, 0), (.iload_n 1, 0, 0, 0, 0), (.iload_n 2, 0, 0, 0, 0)] (by decide +kernel) rfl trivial ?_
      refine GE_callVV (As := [.inl a1, .inl a2]) (k := 5) (i := 0) (S := []) (t_X5_goes l X a1 a2 r4) (by decide) ⟨me_X5_goes, mi_X5_goes, mv_X5_goes, lk_X5_204⟩ rfl (by decide +kernel) rfl (by decide) (by decide) (Nat.le_of_ble_eq_true rfl) (fun r5 _ => ?_)
      refine GE_run flG_T (pc1 := 42) (L1 := [some (.inr (.inr (some (5, 0)))), some (.inl a1), some (.inl a2), some (.inl a3), some (.inl r1.1), some (.inl 0)]) (S1 := [.inl a3]) (w1 := r5) (P := True) [(.iconst 0, 0, 0, 0, 0), (.istore 5, 0, 0, 0, 0), (.iload_n 3, 0, 0, 0, 0)] (by decide +kernel) rfl trivial ?_
      refine GE_swm (dflt := 79) (lo := 0) (hi := 3) (offs := #[30, 46, 61, 70]) (len := 30) (dt := 121) (mm := 4) [72, 88, 103, 112] (by decide +kernel) rfl (by decide +kernel) (And.intro (fun _ => ?_) (And.intro (fun _ => ?_) (And.intro (fun _ => ?_) (And.intro (fun _ => ?_) (trivial))))) ?_
      · refine GE_chk (fun h6 => ?_)
        refine GE_run flG_T (pc1 := 80) (L1 := [some (.inr (.inr (some (5, 0)))), some (.inl a1), some (.inl a2), some (.inl a3), some (.inl r1.1), some (.inl 0)]) (S1 := [.inl (r5 22 0 (tn (3 * a2)))]) (w1 := r5) (P := (inB (3 * a2) 18) ∧ True) [(.aload_n 0, 0, 0, 0, 0), (.getfield 16, 5, 3, 0, 0), (.iconst 3, 0, 0, 3, 0), (.iload_n 2, 0, 0, 0, 0), (.imul, 0, 0, 0, 0), (.iaload, 0, 0, 0, 0)] (by decide +kernel) rfl ⟨h6, trivial⟩ ?_
        refine GE_callSIp (As := [.inl (r5 22 0 (tn (3 * a2)))]) (S := []) (p_X5_bitsOf l X (r5 22 0 (tn (3 * a2))) r5) ⟨me_X5_bitsOf, ms_X5_bitsOf, lk_X5_79⟩ (by decide +kernel) rfl (by decide) (by decide) (Nat.le_of_ble_eq_true rfl) ?_
        refine GE_run flG_T (pc1 := 145) (L1 := [some (.inr (.inr (some (5, 0)))), some (.inl a1), some (.inl a2), some (.inl a3), some (.inl r1.1), some (.inl (bitsF (r5 22 0 (tn (3 * a2)))))]) (S1 := [.inr (.inr (some (5, 0)))]) (w1 := r5) (P := True) [(.istore 5, 0, 0, 0, 0), (.goto 59, 0, 0, 0, 0), (.aload_n 0, 0, 0, 0, 0)] (by decide +kernel) rfl trivial ?_
        refine GE_callVV (As := []) (k := 5) (i := 0) (S := []) (t_X5_lays l X r5) (by decide) ⟨me_X5_lays, mi_X5_lays, mv_X5_lays, lk_X5_208⟩ rfl (by decide +kernel) rfl (by decide) (by decide) (Nat.le_of_ble_eq_true rfl) (fun r7 _ => ?_)
        refine GE_run flG_T (pc1 := 150) (L1 := [some (.inr (.inr (some (5, 0)))), some (.inl a1), some (.inl a2), some (.inl a3), some (.inl r1.1), some (.inl (bitsF (r5 22 0 (tn (3 * a2)))))]) (S1 := [.inl (bitsF (r5 22 0 (tn (3 * a2))))]) (w1 := r7) (P := True) [(.iload 5, 0, 0, 0, 0)] (by decide +kernel) rfl trivial ?_
        exact GE_iret rfl (by decide +kernel)
      · refine GE_chk (fun h8 => ?_)
        refine GE_run flG_T (pc1 := 145) (L1 := [some (.inr (.inr (some (5, 0)))), some (.inl a1), some (.inl a2), some (.inl a3), some (.inl r1.1), some (.inl (r5 22 0 (tn ((3 * a2) + 2))))]) (S1 := [.inr (.inr (some (5, 0)))]) (w1 := r5) (P := (inB ((3 * a2) + 2) 18) ∧ True) [(.aload_n 0, 0, 0, 0, 0), (.getfield 16, 5, 3, 0, 0), (.iconst 3, 0, 0, 3, 0), (.iload_n 2, 0, 0, 0, 0), (.imul, 0, 0, 0, 0), (.iconst 2, 0, 0, 2, 0), (.iadd, 0, 0, 0, 0), (.iaload, 0, 0, 0, 0), (.istore 5, 0, 0, 0, 0), (.goto 44, 0, 0, 0, 0), (.aload_n 0, 0, 0, 0, 0)] (by decide +kernel) rfl ⟨h8, trivial⟩ ?_
        refine GE_callVV (As := []) (k := 5) (i := 0) (S := []) (t_X5_lays l X r5) (by decide) ⟨me_X5_lays, mi_X5_lays, mv_X5_lays, lk_X5_208⟩ rfl (by decide +kernel) rfl (by decide) (by decide) (Nat.le_of_ble_eq_true rfl) (fun r9 _ => ?_)
        refine GE_run flG_T (pc1 := 150) (L1 := [some (.inr (.inr (some (5, 0)))), some (.inl a1), some (.inl a2), some (.inl a3), some (.inl r1.1), some (.inl (r5 22 0 (tn ((3 * a2) + 2))))]) (S1 := [.inl (r5 22 0 (tn ((3 * a2) + 2)))]) (w1 := r9) (P := True) [(.iload 5, 0, 0, 0, 0)] (by decide +kernel) rfl trivial ?_
        exact GE_iret rfl (by decide +kernel)
      · refine GE_run flG_T (pc1 := 145) (L1 := [some (.inr (.inr (some (5, 0)))), some (.inl a1), some (.inl a2), some (.inl a3), some (.inl r1.1), some (.inl (r5 5 0 4))]) (S1 := [.inr (.inr (some (5, 0)))]) (w1 := r5) (P := True) [(.aload_n 0, 0, 0, 0, 0), (.getfield 76, 5, 4, 0, 0), (.istore 5, 0, 0, 0, 0), (.goto 35, 0, 0, 0, 0), (.aload_n 0, 0, 0, 0, 0)] (by decide +kernel) rfl trivial ?_
        refine GE_callVV (As := []) (k := 5) (i := 0) (S := []) (t_X5_lays l X r5) (by decide) ⟨me_X5_lays, mi_X5_lays, mv_X5_lays, lk_X5_208⟩ rfl (by decide +kernel) rfl (by decide) (by decide) (Nat.le_of_ble_eq_true rfl) (fun r10 _ => ?_)
        refine GE_run flG_T (pc1 := 150) (L1 := [some (.inr (.inr (some (5, 0)))), some (.inl a1), some (.inl a2), some (.inl a3), some (.inl r1.1), some (.inl (r5 5 0 4))]) (S1 := [.inl (r5 5 0 4)]) (w1 := r10) (P := True) [(.iload 5, 0, 0, 0, 0)] (by decide +kernel) rfl trivial ?_
        exact GE_iret rfl (by decide +kernel)
      · refine GE_run flG_T (pc1 := 145) (L1 := [some (.inr (.inr (some (5, 0)))), some (.inl a1), some (.inl a2), some (.inl a3), some (.inl r1.1), some (.inl (r5 5 0 31))]) (S1 := [.inr (.inr (some (5, 0)))]) (w1 := r5) (P := True) [(.aload_n 0, 0, 0, 0, 0), (.getfield 195, 5, 31, 0, 0), (.istore 5, 0, 0, 0, 0), (.goto 26, 0, 0, 0, 0), (.aload_n 0, 0, 0, 0, 0)] (by decide +kernel) rfl trivial ?_
        refine GE_callVV (As := []) (k := 5) (i := 0) (S := []) (t_X5_lays l X r5) (by decide) ⟨me_X5_lays, mi_X5_lays, mv_X5_lays, lk_X5_208⟩ rfl (by decide +kernel) rfl (by decide) (by decide) (Nat.le_of_ble_eq_true rfl) (fun r11 _ => ?_)
        refine GE_run flG_T (pc1 := 150) (L1 := [some (.inr (.inr (some (5, 0)))), some (.inl a1), some (.inl a2), some (.inl a3), some (.inl r1.1), some (.inl (r5 5 0 31))]) (S1 := [.inl (r5 5 0 31)]) (w1 := r11) (P := True) [(.iload 5, 0, 0, 0, 0)] (by decide +kernel) rfl trivial ?_
        exact GE_iret rfl (by decide +kernel)
      · refine GE_chk (fun h12 => ?_)
        refine GE_chk (fun h13 => ?_)
        refine GE_run flG_T (pc1 := 145) (L1 := [some (.inr (.inr (some (5, 0)))), some (.inl a1), some (.inl a2), some (.inl a3), some (.inl r1.1), some (.inl ((r5 22 0 (tn ((3 * a2) + 1))) &&& ((r5 22 0 (tn (3 * a2))) ^^^ (-1))))]) (S1 := [.inr (.inr (some (5, 0)))]) (w1 := r5) (P := (inB ((3 * a2) + 1) 18) ∧ (inB (3 * a2) 18) ∧ True) [(.aload_n 0, 0, 0, 0, 0), (.getfield 16, 5, 3, 0, 0), (.iconst 3, 0, 0, 3, 0), (.iload_n 2, 0, 0, 0, 0), (.imul, 0, 0, 0, 0), (.iconst 1, 0, 0, 1, 0), (.iadd, 0, 0, 0, 0), (.iaload, 0, 0, 0, 0), (.aload_n 0, 0, 0, 0, 0), (.getfield 16, 5, 3, 0, 0), (.iconst 3, 0, 0, 3, 0), (.iload_n 2, 0, 0, 0, 0), (.imul, 0, 0, 0, 0), (.iaload, 0, 0, 0, 0), (.iconst (-1), 0, 0, -1, 0), (.ixor, 0, 0, 0, 0), (.iand, 0, 0, 0, 0), (.istore 5, 0, 0, 0, 0), (.aload_n 0, 0, 0, 0, 0)] (by decide +kernel) rfl ⟨h12, h13, trivial⟩ ?_
        refine GE_callVV (As := []) (k := 5) (i := 0) (S := []) (t_X5_lays l X r5) (by decide) ⟨me_X5_lays, mi_X5_lays, mv_X5_lays, lk_X5_208⟩ rfl (by decide +kernel) rfl (by decide) (by decide) (Nat.le_of_ble_eq_true rfl) (fun r14 _ => ?_)
        refine GE_run flG_T (pc1 := 150) (L1 := [some (.inr (.inr (some (5, 0)))), some (.inl a1), some (.inl a2), some (.inl a3), some (.inl r1.1), some (.inl ((r5 22 0 (tn ((3 * a2) + 1))) &&& ((r5 22 0 (tn (3 * a2))) ^^^ (-1))))]) (S1 := [.inl ((r5 22 0 (tn ((3 * a2) + 1))) &&& ((r5 22 0 (tn (3 * a2))) ^^^ (-1)))]) (w1 := r14) (P := True) [(.iload 5, 0, 0, 0, 0)] (by decide +kernel) rfl trivial ?_
        exact GE_iret rfl (by decide +kernel)
    · refine GE_run flG_T (pc1 := 27) (L1 := [some (.inr (.inr (some (5, 0)))), some (.inl a1), some (.inl a2), some (.inl a3), some (.inl r1.1), none]) (S1 := [.inl (-7)]) (w1 := r1.2) (P := True) [(.bipush (-7), 0, 0, -7, 0)] (by decide +kernel) rfl trivial ?_
      exact GE_iret rfl (by decide +kernel)
  · refine GE_run flG_T (pc1 := 15) (L1 := [some (.inr (.inr (some (5, 0)))), some (.inl a1), some (.inl a2), some (.inl a3), some (.inl r1.1), none]) (S1 := [.inl r1.1]) (w1 := r1.2) (P := True) [(.iload 4, 0, 0, 0, 0)] (by decide +kernel) rfl trivial ?_
    exact GE_iret rfl (by decide +kernel)
abbrev mm_X5_fish : MI := (RX5, cX5_fish, 4, (some .int), ftp_X5.map (fun q => q.1), ctp_X5.map (fun q => q.1), clp_X5.map (fun q => q.1))
noncomputable def f_X5_fish (a1 : Int32) (a2 : Int32) (w : Mem) : Option (Int32 × Mem) := Option.bind (f_X5_oneWrong a1 a2 w) (fun r1 => if r1.1 = 0 then (if inB a1 4 then (if ((r1.2 5 0 5) + (r1.2 29 0 (tn a1))) ≤ 999 then (Option.bind (f_X5_goes a1 a2 r1.2) (fun r5 => if inB (3 * a2) 18 then (some (bitsF (r5 22 0 (tn (3 * a2))), r5)) else none)) else (some ((-3), r1.2))) else none) else (some (r1.1, r1.2)))
set_option maxRecDepth 100000 in
theorem t_X5_fish (l : Launch) (X : XC)  (a1 : Int32) (a2 : Int32) (w : Mem) : Ct l X 6 yX5_fish cX5_fish 4 (some .int) emI [.inr (.inr (some (5, 0))), .inl a1, .inl a2] 57 flT w (f_X5_fish a1 a2 w) := by
  refine Ct_of (mi := mm_X5_fish) (mik_X5 _ _ _) me_X5_fish rfl (okAs_cons (by decide) (okAs_cons rfl (okAs_cons rfl okAs_nil))) (Nat.le_of_ble_eq_true rfl) ?_
  unfold f_X5_fish
  refine GE_run flG_T (pc1 := 3) (L1 := [some (.inr (.inr (some (5, 0)))), some (.inl a1), some (.inl a2), none]) (S1 := [.inl a2, .inl a1, .inr (.inr (some (5, 0)))]) (w1 := w) (P := True) [(.aload_n 0, 0, 0, 0, 0), (.iload_n 1, 0, 0, 0, 0), (.iload_n 2, 0, 0, 0, 0)] (by decide +kernel) rfl trivial ?_
  refine GE_callVI (As := [.inl a1, .inl a2]) (k := 5) (i := 0) (S := []) (t_X5_oneWrong l X a1 a2 w) (by decide) ⟨me_X5_oneWrong, mi_X5_oneWrong, mv_X5_oneWrong, lk_X5_198⟩ rfl (by decide +kernel) rfl (by decide) (by decide) (Nat.le_of_ble_eq_true rfl) (fun r1 _ => ?_)
  refine GE_run flG_T (pc1 := 8) (L1 := [some (.inr (.inr (some (5, 0)))), some (.inl a1), some (.inl a2), some (.inl r1.1)]) (S1 := [.inl r1.1]) (w1 := r1.2) (P := True) [(.istore_n 3, 0, 0, 0, 0), (.iload_n 3, 0, 0, 0, 0)] (by decide +kernel) rfl trivial ?_
  refine GE_if (k := .eq) (off := 5) (tgt := 13) (by decide +kernel) (by decide) (cnd_eq _ _) (fun c2 => ?_) (fun c2 => ?_)
  · refine GE_chk (fun h3 => ?_)
    refine GE_run flG_T (pc1 := 27) (L1 := [some (.inr (.inr (some (5, 0)))), some (.inl a1), some (.inl a2), some (.inl r1.1)]) (S1 := [.inl 999, .inl ((r1.2 5 0 5) + (r1.2 29 0 (tn a1)))]) (w1 := r1.2) (P := (inB a1 4) ∧ True) [(.aload_n 0, 0, 0, 0, 0), (.getfield 83, 5, 5, 0, 0), (.aload_n 0, 0, 0, 0, 0), (.getfield 37, 5, 16, 0, 0), (.iload_n 1, 0, 0, 0, 0), (.iaload, 0, 0, 0, 0), (.iadd, 0, 0, 0, 0), (.sipush 999, 0, 0, 999, 0)] (by decide +kernel) rfl ⟨h3, trivial⟩ ?_
    refine GE_icmp (k := .le) (off := 6) (tgt := 33) (by decide +kernel) (by decide) (cnd_le _ _) (fun c4 => ?_) (fun c4 => ?_)
    · refine GE_run flG_T (pc1 := 36) (L1 := [some (.inr (.inr (some (5, 0)))), some (.inl a1), some (.inl a2), some (.inl r1.1)]) (S1 := [.inl a2, .inl a1, .inr (.inr (some (5, 0)))]) (w1 := r1.2) (P := True) [(.aload_n 0, 0, 0, 0, 0), (.iload_n 1, 0, 0, 0, 0), (.iload_n 2, 0, 0, 0, 0)] (by decide +kernel) rfl trivial ?_
      refine GE_callVV (As := [.inl a1, .inl a2]) (k := 5) (i := 0) (S := []) (t_X5_goes l X a1 a2 r1.2) (by decide) ⟨me_X5_goes, mi_X5_goes, mv_X5_goes, lk_X5_204⟩ rfl (by decide +kernel) rfl (by decide) (by decide) (Nat.le_of_ble_eq_true rfl) (fun r5 _ => ?_)
      refine GE_chk (fun h6 => ?_)
      refine GE_run flG_T (pc1 := 47) (L1 := [some (.inr (.inr (some (5, 0)))), some (.inl a1), some (.inl a2), some (.inl r1.1)]) (S1 := [.inl (r5 22 0 (tn (3 * a2)))]) (w1 := r5) (P := (inB (3 * a2) 18) ∧ True) [(.aload_n 0, 0, 0, 0, 0), (.getfield 16, 5, 3, 0, 0), (.iconst 3, 0, 0, 3, 0), (.iload_n 2, 0, 0, 0, 0), (.imul, 0, 0, 0, 0), (.iaload, 0, 0, 0, 0)] (by decide +kernel) rfl ⟨h6, trivial⟩ ?_
      refine GE_callSIp (As := [.inl (r5 22 0 (tn (3 * a2)))]) (S := []) (p_X5_bitsOf l X (r5 22 0 (tn (3 * a2))) r5) ⟨me_X5_bitsOf, ms_X5_bitsOf, lk_X5_79⟩ (by decide +kernel) rfl (by decide) (by decide) (Nat.le_of_ble_eq_true rfl) ?_
      exact GE_iret rfl (by decide +kernel)
    · refine GE_run flG_T (pc1 := 32) (L1 := [some (.inr (.inr (some (5, 0)))), some (.inl a1), some (.inl a2), some (.inl r1.1)]) (S1 := [.inl (-3)]) (w1 := r1.2) (P := True) [(.bipush (-3), 0, 0, -3, 0)] (by decide +kernel) rfl trivial ?_
      exact GE_iret rfl (by decide +kernel)
  · refine GE_run flG_T (pc1 := 12) (L1 := [some (.inr (.inr (some (5, 0)))), some (.inl a1), some (.inl a2), some (.inl r1.1)]) (S1 := [.inl r1.1]) (w1 := r1.2) (P := True) [(.iload_n 3, 0, 0, 0, 0)] (by decide +kernel) rfl trivial ?_
    exact GE_iret rfl (by decide +kernel)
abbrev mm_X5_which : MI := (RX5, cX5_which, 8, (some .int), ftp_X5.map (fun q => q.1), ctp_X5.map (fun q => q.1), clp_X5.map (fun q => q.1))
noncomputable def j_X5_which_121  (kl40 : Int32 → Int32 → Int32 → Mem → Option (Int32 × Mem)) (x1 : Int32) (x2 : Int32) (x4 : Int32) (x5 : Int32) (x6 : Int32) (x7 : Int32) (s0 : Int32) (w : Mem) : Option (Int32 × Mem) := if x7 = 0 then (kl40 s0 x4 (x5 + 1) w) else (kl40 s0 x6 (x5 + 1) w)
set_option maxRecDepth 100000 in
theorem j_X5_which_121_ok (l : Launch) (X : XC)  (kl40 : Int32 → Int32 → Int32 → Mem → Option (Int32 × Mem)) (x1 : Int32) (x2 : Int32) (x4 : Int32) (x5 : Int32) (x6 : Int32) (x7 : Int32) (s0 : Int32)  (ih : ∀ (x3 : Int32) (x4 : Int32) (x5 : Int32) (w : Mem), GE l X mm_X5_which 4 emI 57 flT (kl40 x3 x4 x5 w) 40 [some (.inr (.inr (some (5, 0)))), some (.inl x1), some (.inl x2), some (.inl x3), some (.inl x4), some (.inl x5), none, none] [] w) (w : Mem) : GE l X mm_X5_which 4 emI 57 flT (j_X5_which_121 kl40 x1 x2 x4 x5 x6 x7 s0 w) 121 [some (.inr (.inr (some (5, 0)))), some (.inl x1), some (.inl x2), none, some (.inl x4), some (.inl x5), some (.inl x6), some (.inl x7)] [.inl s0] w := by
  unfold j_X5_which_121
  refine GE_run flG_T (pc1 := 124) (L1 := [some (.inr (.inr (some (5, 0)))), some (.inl x1), some (.inl x2), some (.inl s0), some (.inl x4), some (.inl x5), some (.inl x6), some (.inl x7)]) (S1 := [.inl x7]) (w1 := w) (P := True) [(.istore_n 3, 0, 0, 0, 0), (.iload 7, 0, 0, 0, 0)] (by decide +kernel) rfl trivial ?_
  refine GE_if (k := .eq) (off := 8) (tgt := 132) (by decide +kernel) (by decide) (cnd_eq _ _) (fun c11 => ?_) (fun c11 => ?_)
  · refine GE_run flG_T (pc1 := 40) (L1 := [some (.inr (.inr (some (5, 0)))), some (.inl x1), some (.inl x2), some (.inl s0), some (.inl x4), some (.inl (x5 + 1)), some (.inl x6), some (.inl x7)]) (S1 := []) (w1 := w) (P := True) [(.iload 4, 0, 0, 0, 0), (.istore 4, 0, 0, 0, 0), (.iinc 5 1, 0, 0, 1, 0), (.goto (-99), 0, 0, 0, 0)] (by decide +kernel) rfl trivial ?_
    exact GE_weak [true, true, true, true, true, true, false, false] (ih s0 x4 (x5 + 1) w)
  · refine GE_run flG_T (pc1 := 40) (L1 := [some (.inr (.inr (some (5, 0)))), some (.inl x1), some (.inl x2), some (.inl s0), some (.inl x6), some (.inl (x5 + 1)), some (.inl x6), some (.inl x7)]) (S1 := []) (w1 := w) (P := True) [(.iload 6, 0, 0, 0, 0), (.goto 5, 0, 0, 0, 0), (.istore 4, 0, 0, 0, 0), (.iinc 5 1, 0, 0, 1, 0), (.goto (-99), 0, 0, 0, 0)] (by decide +kernel) rfl trivial ?_
    exact GE_weak [true, true, true, true, true, true, false, false] (ih s0 x6 (x5 + 1) w)
noncomputable def j_X5_which_108  (kl40 : Int32 → Int32 → Int32 → Mem → Option (Int32 × Mem)) (x1 : Int32) (x2 : Int32) (x3 : Int32) (x4 : Int32) (x5 : Int32) (x6 : Int32) (s0 : Int32) (w : Mem) : Option (Int32 × Mem) := if s0 = 0 then (j_X5_which_121 kl40 x1 x2 x4 x5 x6 s0 x3 w) else (j_X5_which_121 kl40 x1 x2 x4 x5 x6 s0 x5 w)
set_option maxRecDepth 100000 in
theorem j_X5_which_108_ok (l : Launch) (X : XC)  (kl40 : Int32 → Int32 → Int32 → Mem → Option (Int32 × Mem)) (x1 : Int32) (x2 : Int32) (x3 : Int32) (x4 : Int32) (x5 : Int32) (x6 : Int32) (s0 : Int32)  (ih : ∀ (x3 : Int32) (x4 : Int32) (x5 : Int32) (w : Mem), GE l X mm_X5_which 4 emI 57 flT (kl40 x3 x4 x5 w) 40 [some (.inr (.inr (some (5, 0)))), some (.inl x1), some (.inl x2), some (.inl x3), some (.inl x4), some (.inl x5), none, none] [] w) (w : Mem) : GE l X mm_X5_which 4 emI 57 flT (j_X5_which_108 kl40 x1 x2 x3 x4 x5 x6 s0 w) 108 [some (.inr (.inr (some (5, 0)))), some (.inl x1), some (.inl x2), some (.inl x3), some (.inl x4), some (.inl x5), some (.inl x6), none] [.inl s0] w := by
  unfold j_X5_which_108
  refine GE_run flG_T (pc1 := 112) (L1 := [some (.inr (.inr (some (5, 0)))), some (.inl x1), some (.inl x2), some (.inl x3), some (.inl x4), some (.inl x5), some (.inl x6), some (.inl s0)]) (S1 := [.inl s0]) (w1 := w) (P := True) [(.istore 7, 0, 0, 0, 0), (.iload 7, 0, 0, 0, 0)] (by decide +kernel) rfl trivial ?_
  refine GE_if (k := .eq) (off := 8) (tgt := 120) (by decide +kernel) (by decide) (cnd_eq _ _) (fun c10 => ?_) (fun c10 => ?_)
  · refine GE_run flG_T (pc1 := 121) (L1 := [some (.inr (.inr (some (5, 0)))), some (.inl x1), some (.inl x2), some (.inl x3), some (.inl x4), some (.inl x5), some (.inl x6), some (.inl s0)]) (S1 := [.inl x3]) (w1 := w) (P := True) [(.iload_n 3, 0, 0, 0, 0)] (by decide +kernel) rfl trivial ?_
    exact GE_weak [true, true, true, false, true, true, true, true] (j_X5_which_121_ok l X kl40 x1 x2 x4 x5 x6 s0 x3 ih w)
  · refine GE_run flG_T (pc1 := 121) (L1 := [some (.inr (.inr (some (5, 0)))), some (.inl x1), some (.inl x2), some (.inl x3), some (.inl x4), some (.inl x5), some (.inl x6), some (.inl s0)]) (S1 := [.inl x5]) (w1 := w) (P := True) [(.iload 5, 0, 0, 0, 0), (.goto 4, 0, 0, 0, 0)] (by decide +kernel) rfl trivial ?_
    exact GE_weak [true, true, true, false, true, true, true, true] (j_X5_which_121_ok l X kl40 x1 x2 x4 x5 x6 s0 x5 ih w)
noncomputable def j_X5_which_103  (kl40 : Int32 → Int32 → Int32 → Mem → Option (Int32 × Mem)) (x1 : Int32) (x2 : Int32) (x3 : Int32) (x4 : Int32) (x5 : Int32) (x6 : Int32) (w : Mem) : Option (Int32 × Mem) := j_X5_which_108 kl40 x1 x2 x3 x4 x5 x6 1 w
set_option maxRecDepth 100000 in
theorem j_X5_which_103_ok (l : Launch) (X : XC)  (kl40 : Int32 → Int32 → Int32 → Mem → Option (Int32 × Mem)) (x1 : Int32) (x2 : Int32) (x3 : Int32) (x4 : Int32) (x5 : Int32) (x6 : Int32)  (ih : ∀ (x3 : Int32) (x4 : Int32) (x5 : Int32) (w : Mem), GE l X mm_X5_which 4 emI 57 flT (kl40 x3 x4 x5 w) 40 [some (.inr (.inr (some (5, 0)))), some (.inl x1), some (.inl x2), some (.inl x3), some (.inl x4), some (.inl x5), none, none] [] w) (w : Mem) : GE l X mm_X5_which 4 emI 57 flT (j_X5_which_103 kl40 x1 x2 x3 x4 x5 x6 w) 103 [some (.inr (.inr (some (5, 0)))), some (.inl x1), some (.inl x2), some (.inl x3), some (.inl x4), some (.inl x5), some (.inl x6), none] [] w := by
  unfold j_X5_which_103
  refine GE_run flG_T (pc1 := 108) (L1 := [some (.inr (.inr (some (5, 0)))), some (.inl x1), some (.inl x2), some (.inl x3), some (.inl x4), some (.inl x5), some (.inl x6), none]) (S1 := [.inl 1]) (w1 := w) (P := True) [(.iconst 1, 0, 0, 1, 0), (.goto 4, 0, 0, 0, 0)] (by decide +kernel) rfl trivial ?_
  exact GE_weak [true, true, true, true, true, true, true, false] (j_X5_which_108_ok l X kl40 x1 x2 x3 x4 x5 x6 1 ih w)
noncomputable def h_X5_which_40 (x1 : Int32) (x2 : Int32) (k142 : Int32 → Int32 → Mem → Option (Int32 × Mem)) : Nat → Int32 → Int32 → Int32 → Mem → Option (Int32 × Mem)
  | 0, _, _, _, _ => none
  | n + 1, x3, x4, x5, w => if x5 < 16 then (if inB ((3 * x1) + 1) 18 then (if ((shrI (w 22 0 (tn ((3 * x1) + 1))) x5) &&& 1) = 0 then (if inB ((3 * x1) + 2) 18 then (Option.bind (f_X5_lucksOf x1 x5 w) (fun r8 => if x3 = (-1) then (j_X5_which_103 (h_X5_which_40 x1 x2 k142 n) x1 x2 x3 x4 x5 (wiF ((w 22 0 (tn ((3 * x1) + 2))) + r8.1) 0 99) r8.2) else (if (wiF ((w 22 0 (tn ((3 * x1) + 2))) + r8.1) 0 99) ≤ x4 then (j_X5_which_108 (h_X5_which_40 x1 x2 k142 n) x1 x2 x3 x4 x5 (wiF ((w 22 0 (tn ((3 * x1) + 2))) + r8.1) 0 99) 0 r8.2) else (j_X5_which_103 (h_X5_which_40 x1 x2 k142 n) x1 x2 x3 x4 x5 (wiF ((w 22 0 (tn ((3 * x1) + 2))) + r8.1) 0 99) r8.2)))) else none) else ((h_X5_which_40 x1 x2 k142 n) x3 x4 (x5 + 1) w)) else none) else (k142 x3 x4 w)
set_option maxRecDepth 100000 in
theorem h_X5_which_40_ok (l : Launch) (X : XC) (x1 : Int32) (x2 : Int32) (k142 : Int32 → Int32 → Mem → Option (Int32 × Mem))  (hk142 : ∀ (x3 : Int32) (x4 : Int32) (w : Mem), GE l X mm_X5_which 4 emI 57 flT (k142 x3 x4 w) 142 [none, none, some (.inl x2), some (.inl x3), some (.inl x4), none, none, none] [] w) : ∀ (n : Nat) (x3 : Int32) (x4 : Int32) (x5 : Int32) (w : Mem), GE l X mm_X5_which 4 emI 57 flT ((h_X5_which_40 x1 x2 k142 n) x3 x4 x5 w) 40 [some (.inr (.inr (some (5, 0)))), some (.inl x1), some (.inl x2), some (.inl x3), some (.inl x4), some (.inl x5), none, none] [] w := by
  intro n
  induction n with
  | zero => intro x3 x4 x5 w; exact GE_none
  | succ n ih =>
    intro x3 x4 x5 w
    unfold h_X5_which_40
    refine GE_run flG_T (pc1 := 44) (L1 := [some (.inr (.inr (some (5, 0)))), some (.inl x1), some (.inl x2), some (.inl x3), some (.inl x4), some (.inl x5), none, none]) (S1 := [.inl 16, .inl x5]) (w1 := w) (P := True) [(.iload 5, 0, 0, 0, 0), (.bipush 16, 0, 0, 16, 0)] (by decide +kernel) rfl trivial ?_
    refine GE_icmpN (k := .ge) (off := 98) (tgt := 142) (by decide +kernel) (by decide) (cnd_ge _ _) (fun c4 => ?_) (fun c4 => ?_)
    · exact GE_weak [false, false, true, true, true, false, false, false] (hk142 x3 x4 w)
    · refine GE_chk (fun h5 => ?_)
      refine GE_run flG_T (pc1 := 62) (L1 := [some (.inr (.inr (some (5, 0)))), some (.inl x1), some (.inl x2), some (.inl x3), some (.inl x4), some (.inl x5), none, none]) (S1 := [.inl ((shrI (w 22 0 (tn ((3 * x1) + 1))) x5) &&& 1)]) (w1 := w) (P := (inB ((3 * x1) + 1) 18) ∧ True) [(.aload_n 0, 0, 0, 0, 0), (.getfield 16, 5, 3, 0, 0), (.iconst 3, 0, 0, 3, 0), (.iload_n 1, 0, 0, 0, 0), (.imul, 0, 0, 0, 0), (.iconst 1, 0, 0, 1, 0), (.iadd, 0, 0, 0, 0), (.iaload, 0, 0, 0, 0), (.iload 5, 0, 0, 0, 0), (.ishr, 0, 0, 0, 0), (.iconst 1, 0, 0, 1, 0), (.iand, 0, 0, 0, 0)] (by decide +kernel) rfl ⟨h5, trivial⟩ ?_
      refine GE_ifN (k := .ne) (off := 74) (tgt := 136) (by decide +kernel) (by decide) (cnd_ne _ _) (fun c6 => ?_) (fun c6 => ?_)
      · refine GE_run flG_T (pc1 := 40) (L1 := [some (.inr (.inr (some (5, 0)))), some (.inl x1), some (.inl x2), some (.inl x3), some (.inl x4), some (.inl (x5 + 1)), none, none]) (S1 := []) (w1 := w) (P := True) [(.iinc 5 1, 0, 0, 1, 0), (.goto (-99), 0, 0, 0, 0)] (by decide +kernel) rfl trivial ?_
        exact GE_weak [true, true, true, true, true, true, false, false] (ih x3 x4 (x5 + 1) w)
      · refine GE_chk (fun h7 => ?_)
        refine GE_run flG_T (pc1 := 79) (L1 := [some (.inr (.inr (some (5, 0)))), some (.inl x1), some (.inl x2), some (.inl x3), some (.inl x4), some (.inl x5), none, none]) (S1 := [.inl x5, .inl x1, .inr (.inr (some (5, 0))), .inl (w 22 0 (tn ((3 * x1) + 2)))]) (w1 := w) (P := (inB ((3 * x1) + 2) 18) ∧ True) [(.aload_n 0, 0, 0, 0, 0), (.getfield 16, 5, 3, 0, 0), (.iconst 3, 0, 0, 3, 0), (.iload_n 1, 0, 0, 0, 0), (.imul, 0, 0, 0, 0), (.iconst 2, 0, 0, 2, 0), (.iadd, 0, 0, 0, 0), (.iaload, 0, 0, 0, 0), (.aload_n 0, 0, 0, 0, 0), (.iload_n 1, 0, 0, 0, 0), (.iload 5, 0, 0, 0, 0)] (by decide +kernel) rfl ⟨h7, trivial⟩ ?_
        refine GE_callVI (As := [.inl x1, .inl x5]) (k := 5) (i := 0) (S := [.inl (w 22 0 (tn ((3 * x1) + 2)))]) (t_X5_lucksOf l X x1 x5 w) (by decide) ⟨me_X5_lucksOf, mi_X5_lucksOf, mv_X5_lucksOf, lk_X5_180⟩ rfl (by decide +kernel) rfl (by decide) (by decide) (Nat.le_of_ble_eq_true rfl) (fun r8 _ => ?_)
        refine GE_run flG_T (pc1 := 86) (L1 := [some (.inr (.inr (some (5, 0)))), some (.inl x1), some (.inl x2), some (.inl x3), some (.inl x4), some (.inl x5), none, none]) (S1 := [.inl 99, .inl 0, .inl ((w 22 0 (tn ((3 * x1) + 2))) + r8.1)]) (w1 := r8.2) (P := True) [(.iadd, 0, 0, 0, 0), (.iconst 0, 0, 0, 0, 0), (.bipush 99, 0, 0, 99, 0)] (by decide +kernel) rfl trivial ?_
        refine GE_callSIp (As := [.inl ((w 22 0 (tn ((3 * x1) + 2))) + r8.1), .inl 0, .inl 99]) (S := []) (p_X5_within l X ((w 22 0 (tn ((3 * x1) + 2))) + r8.1) 0 99 r8.2) ⟨me_X5_within, ms_X5_within, lk_X5_159⟩ (by decide +kernel) rfl (by decide) (by decide) (Nat.le_of_ble_eq_true rfl) ?_
        refine GE_run flG_T (pc1 := 93) (L1 := [some (.inr (.inr (some (5, 0)))), some (.inl x1), some (.inl x2), some (.inl x3), some (.inl x4), some (.inl x5), some (.inl (wiF ((w 22 0 (tn ((3 * x1) + 2))) + r8.1) 0 99)), none]) (S1 := [.inl (-1), .inl x3]) (w1 := r8.2) (P := True) [(.istore 6, 0, 0, 0, 0), (.iload_n 3, 0, 0, 0, 0), (.iconst (-1), 0, 0, -1, 0)] (by decide +kernel) rfl trivial ?_
        refine GE_icmp (k := .eq) (off := 10) (tgt := 103) (by decide +kernel) (by decide) (cnd_eq _ _) (fun c9 => ?_) (fun c9 => ?_)
        · exact GE_weak [true, true, true, true, true, true, true, false] (j_X5_which_103_ok l X (h_X5_which_40 x1 x2 k142 n) x1 x2 x3 x4 x5 (wiF ((w 22 0 (tn ((3 * x1) + 2))) + r8.1) 0 99) ih r8.2)
        · refine GE_run flG_T (pc1 := 100) (L1 := [some (.inr (.inr (some (5, 0)))), some (.inl x1), some (.inl x2), some (.inl x3), some (.inl x4), some (.inl x5), some (.inl (wiF ((w 22 0 (tn ((3 * x1) + 2))) + r8.1) 0 99)), none]) (S1 := [.inl x4, .inl (wiF ((w 22 0 (tn ((3 * x1) + 2))) + r8.1) 0 99)]) (w1 := r8.2) (P := True) [(.iload 6, 0, 0, 0, 0), (.iload 4, 0, 0, 0, 0)] (by decide +kernel) rfl trivial ?_
          refine GE_icmp (k := .le) (off := 7) (tgt := 107) (by decide +kernel) (by decide) (cnd_le _ _) (fun c12 => ?_) (fun c12 => ?_)
          · refine GE_run flG_T (pc1 := 108) (L1 := [some (.inr (.inr (some (5, 0)))), some (.inl x1), some (.inl x2), some (.inl x3), some (.inl x4), some (.inl x5), some (.inl (wiF ((w 22 0 (tn ((3 * x1) + 2))) + r8.1) 0 99)), none]) (S1 := [.inl 0]) (w1 := r8.2) (P := True) [(.iconst 0, 0, 0, 0, 0)] (by decide +kernel) rfl trivial ?_
            exact GE_weak [true, true, true, true, true, true, true, false] (j_X5_which_108_ok l X (h_X5_which_40 x1 x2 k142 n) x1 x2 x3 x4 x5 (wiF ((w 22 0 (tn ((3 * x1) + 2))) + r8.1) 0 99) 0 ih r8.2)
          · exact GE_weak [true, true, true, true, true, true, true, false] (j_X5_which_103_ok l X (h_X5_which_40 x1 x2 k142 n) x1 x2 x3 x4 x5 (wiF ((w 22 0 (tn ((3 * x1) + 2))) + r8.1) 0 99) ih r8.2)
noncomputable def f_X5_which (a1 : Int32) (a2 : Int32) (w : Mem) : Option (Int32 × Mem) := if (rng a1 0 (w 5 0 0 - 1)) = 0 then (some ((-5), w)) else (if (rng a2 0 1) = 0 then (some ((-7), w)) else (if inB ((3 * a1) + 2) 18 then (h_X5_which_40 a1 a2 (fun x3_13 x4_14 w15 => if a2 = 0 then (some (x3_13, w15)) else (some (x4_14, w15))) FU (-1) (w 22 0 (tn ((3 * a1) + 2))) 0 w) else none))
set_option maxRecDepth 100000 in
theorem t_X5_which (l : Launch) (X : XC)  (a1 : Int32) (a2 : Int32) (w : Mem) : Ct l X 4 yX5_which cX5_which 8 (some .int) emI [.inr (.inr (some (5, 0))), .inl a1, .inl a2] 57 flT w (f_X5_which a1 a2 w) := by
  refine Ct_of (mi := mm_X5_which) (mik_X5 _ _ _) me_X5_which rfl (okAs_cons (by decide) (okAs_cons rfl (okAs_cons rfl okAs_nil))) (Nat.le_of_ble_eq_true rfl) ?_
  unfold f_X5_which
  refine GE_run flG_T (pc1 := 2) (L1 := [some (.inr (.inr (some (5, 0)))), some (.inl a1), some (.inl a2), none, none, none, none, none]) (S1 := [.inl a1, .inr (.inr (some (5, 0)))]) (w1 := w) (P := True) [(.aload_n 0, 0, 0, 0, 0), (.iload_n 1, 0, 0, 0, 0)] (by decide +kernel) rfl trivial ?_
  refine GE_callVIp (As := [.inl a1]) (k := 5) (i := 0) (S := []) (p_X5_isOne l X a1 w) (by decide) ⟨me_X5_isOne, mi_X5_isOne, mv_X5_isOne, lk_X5_162⟩ rfl (by decide +kernel) rfl (by decide) (by decide) (Nat.le_of_ble_eq_true rfl) ?_
  refine GE_ifN (k := .ne) (off := 6) (tgt := 11) (by decide +kernel) (by decide) (cnd_ne _ _) (fun c1 => ?_) (fun c1 => ?_)
  · refine GE_run flG_T (pc1 := 14) (L1 := [some (.inr (.inr (some (5, 0)))), some (.inl a1), some (.inl a2), none, none, none, none, none]) (S1 := [.inl 1, .inl 0, .inl a2]) (w1 := w) (P := True) [(.iload_n 2, 0, 0, 0, 0), (.iconst 0, 0, 0, 0, 0), (.iconst 1, 0, 0, 1, 0)] (by decide +kernel) rfl trivial ?_
    refine GE_callSIp (As := [.inl a2, .inl 0, .inl 1]) (S := []) (p_X5_in l X a2 0 1 w) ⟨me_X5_in, ms_X5_in, lk_X5_72⟩ (by decide +kernel) rfl (by decide) (by decide) (Nat.le_of_ble_eq_true rfl) ?_
    refine GE_ifN (k := .ne) (off := 6) (tgt := 23) (by decide +kernel) (by decide) (cnd_ne _ _) (fun c2 => ?_) (fun c2 => ?_)
    · refine GE_chk (fun h3 => ?_)
      refine GE_run flG_T (pc1 := 40) (L1 := [some (.inr (.inr (some (5, 0)))), some (.inl a1), some (.inl a2), some (.inl (-1)), some (.inl (w 22 0 (tn ((3 * a1) + 2)))), some (.inl 0), none, none]) (S1 := []) (w1 := w) (P := (inB ((3 * a1) + 2) 18) ∧ True) [(.iconst (-1), 0, 0, -1, 0), (.istore_n 3, 0, 0, 0, 0), (.aload_n 0, 0, 0, 0, 0), (.getfield 16, 5, 3, 0, 0), (.iconst 3, 0, 0, 3, 0), (.iload_n 1, 0, 0, 0, 0), (.imul, 0, 0, 0, 0), (.iconst 2, 0, 0, 2, 0), (.iadd, 0, 0, 0, 0), (.iaload, 0, 0, 0, 0), (.istore 4, 0, 0, 0, 0), (.iconst 0, 0, 0, 0, 0), (.istore 5, 0, 0, 0, 0)] (by decide +kernel) rfl ⟨h3, trivial⟩ ?_
      refine GE_weak [true, true, true, true, true, true, false, false] (h_X5_which_40_ok l X a1 a2 _ ?_ FU (-1) (w 22 0 (tn ((3 * a1) + 2))) 0 w)
      · intro x3_13 x4_14 w15
        refine GE_run flG_T (pc1 := 143) (L1 := [none, none, some (.inl a2), some (.inl x3_13), some (.inl x4_14), none, none, none]) (S1 := [.inl a2]) (w1 := w15) (P := True) [(.iload_n 2, 0, 0, 0, 0)] (by decide +kernel) rfl trivial ?_
        refine GE_ifN (k := .ne) (off := 7) (tgt := 150) (by decide +kernel) (by decide) (cnd_ne _ _) (fun c16 => ?_) (fun c16 => ?_)
        · refine GE_run flG_T (pc1 := 152) (L1 := [none, none, some (.inl a2), some (.inl x3_13), some (.inl x4_14), none, none, none]) (S1 := [.inl x4_14]) (w1 := w15) (P := True) [(.iload 4, 0, 0, 0, 0)] (by decide +kernel) rfl trivial ?_
          exact GE_iret rfl (by decide +kernel)
        · refine GE_run flG_T (pc1 := 152) (L1 := [none, none, some (.inl a2), some (.inl x3_13), some (.inl x4_14), none, none, none]) (S1 := [.inl x3_13]) (w1 := w15) (P := True) [(.iload_n 3, 0, 0, 0, 0), (.goto 5, 0, 0, 0, 0)] (by decide +kernel) rfl trivial ?_
          exact GE_iret rfl (by decide +kernel)
    · refine GE_run flG_T (pc1 := 22) (L1 := [some (.inr (.inr (some (5, 0)))), some (.inl a1), some (.inl a2), none, none, none, none, none]) (S1 := [.inl (-7)]) (w1 := w) (P := True) [(.bipush (-7), 0, 0, -7, 0)] (by decide +kernel) rfl trivial ?_
      exact GE_iret rfl (by decide +kernel)
  · refine GE_run flG_T (pc1 := 10) (L1 := [some (.inr (.inr (some (5, 0)))), some (.inl a1), some (.inl a2), none, none, none, none, none]) (S1 := [.inl (-5)]) (w1 := w) (P := True) [(.bipush (-5), 0, 0, -5, 0)] (by decide +kernel) rfl trivial ?_
    exact GE_iret rfl (by decide +kernel)
abbrev mm_X5_taught : MI := (RX5, cX5_taught, 8, (some .int), ftp_X5.map (fun q => q.1), ctp_X5.map (fun q => q.1), clp_X5.map (fun q => q.1))
noncomputable def j_X5_taught_110  (kl38 : Int32 → Int32 → Int32 → Mem → Option (Int32 × Mem)) (x1 : Int32) (x2 : Int32) (x3 : Int32) (x5 : Int32) (x6 : Int32) (x7 : Int32) (s0 : Int32) (w : Mem) : Option (Int32 × Mem) := if x7 ≤ x5 then (kl38 s0 x5 (x6 + 1) w) else (kl38 s0 x7 (x6 + 1) w)
set_option maxRecDepth 100000 in
theorem j_X5_taught_110_ok (l : Launch) (X : XC)  (kl38 : Int32 → Int32 → Int32 → Mem → Option (Int32 × Mem)) (x1 : Int32) (x2 : Int32) (x3 : Int32) (x5 : Int32) (x6 : Int32) (x7 : Int32) (s0 : Int32)  (ih : ∀ (x4 : Int32) (x5 : Int32) (x6 : Int32) (w : Mem), GE l X mm_X5_taught 4 emI 57 flT (kl38 x4 x5 x6 w) 38 [some (.inr (.inr (some (5, 0)))), some (.inl x1), some (.inl x2), some (.inl x3), some (.inl x4), some (.inl x5), some (.inl x6), none] [] w) (w : Mem) : GE l X mm_X5_taught 4 emI 57 flT (j_X5_taught_110 kl38 x1 x2 x3 x5 x6 x7 s0 w) 110 [some (.inr (.inr (some (5, 0)))), some (.inl x1), some (.inl x2), some (.inl x3), none, some (.inl x5), some (.inl x6), some (.inl x7)] [.inl s0] w := by
  unfold j_X5_taught_110
  refine GE_run flG_T (pc1 := 116) (L1 := [some (.inr (.inr (some (5, 0)))), some (.inl x1), some (.inl x2), some (.inl x3), some (.inl s0), some (.inl x5), some (.inl x6), some (.inl x7)]) (S1 := [.inl x5, .inl x7]) (w1 := w) (P := True) [(.istore 4, 0, 0, 0, 0), (.iload 7, 0, 0, 0, 0), (.iload 5, 0, 0, 0, 0)] (by decide +kernel) rfl trivial ?_
  refine GE_icmp (k := .le) (off := 8) (tgt := 124) (by decide +kernel) (by decide) (cnd_le _ _) (fun c8 => ?_) (fun c8 => ?_)
  · refine GE_run flG_T (pc1 := 38) (L1 := [some (.inr (.inr (some (5, 0)))), some (.inl x1), some (.inl x2), some (.inl x3), some (.inl s0), some (.inl x5), some (.inl (x6 + 1)), some (.inl x7)]) (S1 := []) (w1 := w) (P := True) [(.iload 5, 0, 0, 0, 0), (.istore 5, 0, 0, 0, 0), (.iinc 6 1, 0, 0, 1, 0), (.goto (-93), 0, 0, 0, 0)] (by decide +kernel) rfl trivial ?_
    exact GE_weak [true, true, true, true, true, true, true, false] (ih s0 x5 (x6 + 1) w)
  · refine GE_run flG_T (pc1 := 38) (L1 := [some (.inr (.inr (some (5, 0)))), some (.inl x1), some (.inl x2), some (.inl x3), some (.inl s0), some (.inl x7), some (.inl (x6 + 1)), some (.inl x7)]) (S1 := []) (w1 := w) (P := True) [(.iload 7, 0, 0, 0, 0), (.goto 5, 0, 0, 0, 0), (.istore 5, 0, 0, 0, 0), (.iinc 6 1, 0, 0, 1, 0), (.goto (-93), 0, 0, 0, 0)] (by decide +kernel) rfl trivial ?_
    exact GE_weak [true, true, true, true, true, true, true, false] (ih s0 x7 (x6 + 1) w)
noncomputable def j_X5_taught_94  (kl38 : Int32 → Int32 → Int32 → Mem → Option (Int32 × Mem)) (x1 : Int32) (x2 : Int32) (x3 : Int32) (x4 : Int32) (x5 : Int32) (x6 : Int32) (s0 : Int32) (w : Mem) : Option (Int32 × Mem) := if s0 ≤ x5 then (j_X5_taught_110 kl38 x1 x2 x3 x5 x6 s0 x4 w) else (j_X5_taught_110 kl38 x1 x2 x3 x5 x6 s0 x6 w)
set_option maxRecDepth 100000 in
theorem j_X5_taught_94_ok (l : Launch) (X : XC)  (kl38 : Int32 → Int32 → Int32 → Mem → Option (Int32 × Mem)) (x1 : Int32) (x2 : Int32) (x3 : Int32) (x4 : Int32) (x5 : Int32) (x6 : Int32) (s0 : Int32)  (ih : ∀ (x4 : Int32) (x5 : Int32) (x6 : Int32) (w : Mem), GE l X mm_X5_taught 4 emI 57 flT (kl38 x4 x5 x6 w) 38 [some (.inr (.inr (some (5, 0)))), some (.inl x1), some (.inl x2), some (.inl x3), some (.inl x4), some (.inl x5), some (.inl x6), none] [] w) (w : Mem) : GE l X mm_X5_taught 4 emI 57 flT (j_X5_taught_94 kl38 x1 x2 x3 x4 x5 x6 s0 w) 94 [some (.inr (.inr (some (5, 0)))), some (.inl x1), some (.inl x2), some (.inl x3), some (.inl x4), some (.inl x5), some (.inl x6), none] [.inl s0] w := by
  unfold j_X5_taught_94
  refine GE_run flG_T (pc1 := 100) (L1 := [some (.inr (.inr (some (5, 0)))), some (.inl x1), some (.inl x2), some (.inl x3), some (.inl x4), some (.inl x5), some (.inl x6), some (.inl s0)]) (S1 := [.inl x5, .inl s0]) (w1 := w) (P := True) [(.istore 7, 0, 0, 0, 0), (.iload 7, 0, 0, 0, 0), (.iload 5, 0, 0, 0, 0)] (by decide +kernel) rfl trivial ?_
  refine GE_icmp (k := .le) (off := 8) (tgt := 108) (by decide +kernel) (by decide) (cnd_le _ _) (fun c7 => ?_) (fun c7 => ?_)
  · refine GE_run flG_T (pc1 := 110) (L1 := [some (.inr (.inr (some (5, 0)))), some (.inl x1), some (.inl x2), some (.inl x3), some (.inl x4), some (.inl x5), some (.inl x6), some (.inl s0)]) (S1 := [.inl x4]) (w1 := w) (P := True) [(.iload 4, 0, 0, 0, 0)] (by decide +kernel) rfl trivial ?_
    exact GE_weak [true, true, true, true, false, true, true, true] (j_X5_taught_110_ok l X kl38 x1 x2 x3 x5 x6 s0 x4 ih w)
  · refine GE_run flG_T (pc1 := 110) (L1 := [some (.inr (.inr (some (5, 0)))), some (.inl x1), some (.inl x2), some (.inl x3), some (.inl x4), some (.inl x5), some (.inl x6), some (.inl s0)]) (S1 := [.inl x6]) (w1 := w) (P := True) [(.iload 6, 0, 0, 0, 0), (.goto 5, 0, 0, 0, 0)] (by decide +kernel) rfl trivial ?_
    exact GE_weak [true, true, true, true, false, true, true, true] (j_X5_taught_110_ok l X kl38 x1 x2 x3 x5 x6 s0 x6 ih w)
noncomputable def j_X5_taught_80  (kl38 : Int32 → Int32 → Int32 → Mem → Option (Int32 × Mem)) (x1 : Int32) (x2 : Int32) (x3 : Int32) (x4 : Int32) (x5 : Int32) (x6 : Int32) (s0 : Int32) (w : Mem) : Option (Int32 × Mem) := if s0 < x3 then (j_X5_taught_94 kl38 x1 x2 x3 x4 x5 x6 s0 w) else (j_X5_taught_94 kl38 x1 x2 x3 x4 x5 x6 x3 w)
set_option maxRecDepth 100000 in
theorem j_X5_taught_80_ok (l : Launch) (X : XC)  (kl38 : Int32 → Int32 → Int32 → Mem → Option (Int32 × Mem)) (x1 : Int32) (x2 : Int32) (x3 : Int32) (x4 : Int32) (x5 : Int32) (x6 : Int32) (s0 : Int32)  (ih : ∀ (x4 : Int32) (x5 : Int32) (x6 : Int32) (w : Mem), GE l X mm_X5_taught 4 emI 57 flT (kl38 x4 x5 x6 w) 38 [some (.inr (.inr (some (5, 0)))), some (.inl x1), some (.inl x2), some (.inl x3), some (.inl x4), some (.inl x5), some (.inl x6), none] [] w) (w : Mem) : GE l X mm_X5_taught 4 emI 57 flT (j_X5_taught_80 kl38 x1 x2 x3 x4 x5 x6 s0 w) 80 [some (.inr (.inr (some (5, 0)))), some (.inl x1), some (.inl x2), some (.inl x3), some (.inl x4), some (.inl x5), some (.inl x6), none] [.inl s0] w := by
  unfold j_X5_taught_80
  refine GE_run flG_T (pc1 := 85) (L1 := [some (.inr (.inr (some (5, 0)))), some (.inl x1), some (.inl x2), some (.inl x3), some (.inl x4), some (.inl x5), some (.inl x6), some (.inl s0)]) (S1 := [.inl x3, .inl s0]) (w1 := w) (P := True) [(.istore 7, 0, 0, 0, 0), (.iload 7, 0, 0, 0, 0), (.iload_n 3, 0, 0, 0, 0)] (by decide +kernel) rfl trivial ?_
  refine GE_icmpN (k := .ge) (off := 8) (tgt := 93) (by decide +kernel) (by decide) (cnd_ge _ _) (fun c6 => ?_) (fun c6 => ?_)
  · refine GE_run flG_T (pc1 := 94) (L1 := [some (.inr (.inr (some (5, 0)))), some (.inl x1), some (.inl x2), some (.inl x3), some (.inl x4), some (.inl x5), some (.inl x6), some (.inl s0)]) (S1 := [.inl x3]) (w1 := w) (P := True) [(.iload_n 3, 0, 0, 0, 0)] (by decide +kernel) rfl trivial ?_
    exact GE_weak [true, true, true, true, true, true, true, false] (j_X5_taught_94_ok l X kl38 x1 x2 x3 x4 x5 x6 x3 ih w)
  · refine GE_run flG_T (pc1 := 94) (L1 := [some (.inr (.inr (some (5, 0)))), some (.inl x1), some (.inl x2), some (.inl x3), some (.inl x4), some (.inl x5), some (.inl x6), some (.inl s0)]) (S1 := [.inl s0]) (w1 := w) (P := True) [(.iload 7, 0, 0, 0, 0), (.goto 4, 0, 0, 0, 0)] (by decide +kernel) rfl trivial ?_
    exact GE_weak [true, true, true, true, true, true, true, false] (j_X5_taught_94_ok l X kl38 x1 x2 x3 x4 x5 x6 s0 ih w)
noncomputable def h_X5_taught_38 (x1 : Int32) (x2 : Int32) (x3 : Int32) (k134 : Int32 → Int32 → Mem → Option (Int32 × Mem)) : Nat → Int32 → Int32 → Int32 → Mem → Option (Int32 × Mem)
  | 0, _, _, _, _ => none
  | n + 1, x4, x5, x6, w => if x6 < (w 5 0 0) then (if x6 = x1 then (j_X5_taught_80 (h_X5_taught_38 x1 x2 x3 k134 n) x1 x2 x3 x4 x5 x6 0 w) else (if inB (3 * x6) 18 then (if inB (3 * x1) 18 then (j_X5_taught_80 (h_X5_taught_38 x1 x2 x3 k134 n) x1 x2 x3 x4 x5 x6 (bitsF ((w 22 0 (tn (3 * x6))) &&& ((w 22 0 (tn (3 * x1))) ^^^ (-1)))) w) else none) else none)) else (k134 x4 x5 w)
set_option maxRecDepth 100000 in
theorem h_X5_taught_38_ok (l : Launch) (X : XC) (x1 : Int32) (x2 : Int32) (x3 : Int32) (k134 : Int32 → Int32 → Mem → Option (Int32 × Mem))  (hk134 : ∀ (x4 : Int32) (x5 : Int32) (w : Mem), GE l X mm_X5_taught 4 emI 57 flT (k134 x4 x5 w) 134 [none, none, some (.inl x2), none, some (.inl x4), some (.inl x5), none, none] [] w) : ∀ (n : Nat) (x4 : Int32) (x5 : Int32) (x6 : Int32) (w : Mem), GE l X mm_X5_taught 4 emI 57 flT ((h_X5_taught_38 x1 x2 x3 k134 n) x4 x5 x6 w) 38 [some (.inr (.inr (some (5, 0)))), some (.inl x1), some (.inl x2), some (.inl x3), some (.inl x4), some (.inl x5), some (.inl x6), none] [] w := by
  intro n
  induction n with
  | zero => intro x4 x5 x6 w; exact GE_none
  | succ n ih =>
    intro x4 x5 x6 w
    unfold h_X5_taught_38
    refine GE_run flG_T (pc1 := 44) (L1 := [some (.inr (.inr (some (5, 0)))), some (.inl x1), some (.inl x2), some (.inl x3), some (.inl x4), some (.inl x5), some (.inl x6), none]) (S1 := [.inl (w 5 0 0), .inl x6]) (w1 := w) (P := True) [(.iload 6, 0, 0, 0, 0), (.aload_n 0, 0, 0, 0, 0), (.getfield 69, 5, 0, 0, 0)] (by decide +kernel) rfl trivial ?_
    refine GE_icmpN (k := .ge) (off := 90) (tgt := 134) (by decide +kernel) (by decide) (cnd_ge _ _) (fun c4 => ?_) (fun c4 => ?_)
    · exact GE_weak [false, false, true, false, true, true, false, false] (hk134 x4 x5 w)
    · refine GE_run flG_T (pc1 := 50) (L1 := [some (.inr (.inr (some (5, 0)))), some (.inl x1), some (.inl x2), some (.inl x3), some (.inl x4), some (.inl x5), some (.inl x6), none]) (S1 := [.inl x1, .inl x6]) (w1 := w) (P := True) [(.iload 6, 0, 0, 0, 0), (.iload_n 1, 0, 0, 0, 0)] (by decide +kernel) rfl trivial ?_
      refine GE_icmpN (k := .ne) (off := 7) (tgt := 57) (by decide +kernel) (by decide) (cnd_ne _ _) (fun c5 => ?_) (fun c5 => ?_)
      · refine GE_chk (fun h9 => ?_)
        refine GE_chk (fun h10 => ?_)
        refine GE_run flG_T (pc1 := 77) (L1 := [some (.inr (.inr (some (5, 0)))), some (.inl x1), some (.inl x2), some (.inl x3), some (.inl x4), some (.inl x5), some (.inl x6), none]) (S1 := [.inl ((w 22 0 (tn (3 * x6))) &&& ((w 22 0 (tn (3 * x1))) ^^^ (-1)))]) (w1 := w) (P := (inB (3 * x6) 18) ∧ (inB (3 * x1) 18) ∧ True) [(.aload_n 0, 0, 0, 0, 0), (.getfield 16, 5, 3, 0, 0), (.iconst 3, 0, 0, 3, 0), (.iload 6, 0, 0, 0, 0), (.imul, 0, 0, 0, 0), (.iaload, 0, 0, 0, 0), (.aload_n 0, 0, 0, 0, 0), (.getfield 16, 5, 3, 0, 0), (.iconst 3, 0, 0, 3, 0), (.iload_n 1, 0, 0, 0, 0), (.imul, 0, 0, 0, 0), (.iaload, 0, 0, 0, 0), (.iconst (-1), 0, 0, -1, 0), (.ixor, 0, 0, 0, 0), (.iand, 0, 0, 0, 0)] (by decide +kernel) rfl ⟨h9, h10, trivial⟩ ?_
        refine GE_callSIp (As := [.inl ((w 22 0 (tn (3 * x6))) &&& ((w 22 0 (tn (3 * x1))) ^^^ (-1)))]) (S := []) (p_X5_bitsOf l X ((w 22 0 (tn (3 * x6))) &&& ((w 22 0 (tn (3 * x1))) ^^^ (-1))) w) ⟨me_X5_bitsOf, ms_X5_bitsOf, lk_X5_79⟩ (by decide +kernel) rfl (by decide) (by decide) (Nat.le_of_ble_eq_true rfl) ?_
        exact GE_weak [true, true, true, true, true, true, true, false] (j_X5_taught_80_ok l X (h_X5_taught_38 x1 x2 x3 k134 n) x1 x2 x3 x4 x5 x6 (bitsF ((w 22 0 (tn (3 * x6))) &&& ((w 22 0 (tn (3 * x1))) ^^^ (-1)))) ih w)
      · refine GE_run flG_T (pc1 := 80) (L1 := [some (.inr (.inr (some (5, 0)))), some (.inl x1), some (.inl x2), some (.inl x3), some (.inl x4), some (.inl x5), some (.inl x6), none]) (S1 := [.inl 0]) (w1 := w) (P := True) [(.iconst 0, 0, 0, 0, 0), (.goto 26, 0, 0, 0, 0)] (by decide +kernel) rfl trivial ?_
        exact GE_weak [true, true, true, true, true, true, true, false] (j_X5_taught_80_ok l X (h_X5_taught_38 x1 x2 x3 k134 n) x1 x2 x3 x4 x5 x6 0 ih w)
noncomputable def f_X5_taught (a1 : Int32) (a2 : Int32) (w : Mem) : Option (Int32 × Mem) := if (rng a1 0 (w 5 0 0 - 1)) = 0 then (some ((-5), w)) else (if (rng a2 0 1) = 0 then (some ((-7), w)) else (Option.bind (f_X5_takesOf a1 w) (fun r3 => h_X5_taught_38 a1 a2 r3.1 (fun x4_11 x5_12 w13 => if a2 = 0 then (some (x4_11, w13)) else (some (x5_12, w13))) FU (-1) 0 0 r3.2)))
set_option maxRecDepth 100000 in
theorem t_X5_taught (l : Launch) (X : XC)  (a1 : Int32) (a2 : Int32) (w : Mem) : Ct l X 4 yX5_taught cX5_taught 8 (some .int) emI [.inr (.inr (some (5, 0))), .inl a1, .inl a2] 57 flT w (f_X5_taught a1 a2 w) := by
  refine Ct_of (mi := mm_X5_taught) (mik_X5 _ _ _) me_X5_taught rfl (okAs_cons (by decide) (okAs_cons rfl (okAs_cons rfl okAs_nil))) (Nat.le_of_ble_eq_true rfl) ?_
  unfold f_X5_taught
  refine GE_run flG_T (pc1 := 2) (L1 := [some (.inr (.inr (some (5, 0)))), some (.inl a1), some (.inl a2), none, none, none, none, none]) (S1 := [.inl a1, .inr (.inr (some (5, 0)))]) (w1 := w) (P := True) [(.aload_n 0, 0, 0, 0, 0), (.iload_n 1, 0, 0, 0, 0)] (by decide +kernel) rfl trivial ?_
  refine GE_callVIp (As := [.inl a1]) (k := 5) (i := 0) (S := []) (p_X5_isOne l X a1 w) (by decide) ⟨me_X5_isOne, mi_X5_isOne, mv_X5_isOne, lk_X5_162⟩ rfl (by decide +kernel) rfl (by decide) (by decide) (Nat.le_of_ble_eq_true rfl) ?_
  refine GE_ifN (k := .ne) (off := 6) (tgt := 11) (by decide +kernel) (by decide) (cnd_ne _ _) (fun c1 => ?_) (fun c1 => ?_)
  · refine GE_run flG_T (pc1 := 14) (L1 := [some (.inr (.inr (some (5, 0)))), some (.inl a1), some (.inl a2), none, none, none, none, none]) (S1 := [.inl 1, .inl 0, .inl a2]) (w1 := w) (P := True) [(.iload_n 2, 0, 0, 0, 0), (.iconst 0, 0, 0, 0, 0), (.iconst 1, 0, 0, 1, 0)] (by decide +kernel) rfl trivial ?_
    refine GE_callSIp (As := [.inl a2, .inl 0, .inl 1]) (S := []) (p_X5_in l X a2 0 1 w) ⟨me_X5_in, ms_X5_in, lk_X5_72⟩ (by decide +kernel) rfl (by decide) (by decide) (Nat.le_of_ble_eq_true rfl) ?_
    refine GE_ifN (k := .ne) (off := 6) (tgt := 23) (by decide +kernel) (by decide) (cnd_ne _ _) (fun c2 => ?_) (fun c2 => ?_)
    · refine GE_run flG_T (pc1 := 25) (L1 := [some (.inr (.inr (some (5, 0)))), some (.inl a1), some (.inl a2), none, none, none, none, none]) (S1 := [.inl a1, .inr (.inr (some (5, 0)))]) (w1 := w) (P := True) [(.aload_n 0, 0, 0, 0, 0), (.iload_n 1, 0, 0, 0, 0)] (by decide +kernel) rfl trivial ?_
      refine GE_callVI (As := [.inl a1]) (k := 5) (i := 0) (S := []) (t_X5_takesOf l X a1 w) (by decide) ⟨me_X5_takesOf, mi_X5_takesOf, mv_X5_takesOf, lk_X5_174⟩ rfl (by decide +kernel) rfl (by decide) (by decide) (Nat.le_of_ble_eq_true rfl) (fun r3 _ => ?_)
      refine GE_run flG_T (pc1 := 38) (L1 := [some (.inr (.inr (some (5, 0)))), some (.inl a1), some (.inl a2), some (.inl r3.1), some (.inl (-1)), some (.inl 0), some (.inl 0), none]) (S1 := []) (w1 := r3.2) (P := True) [(.istore_n 3, 0, 0, 0, 0), (.iconst (-1), 0, 0, -1, 0), (.istore 4, 0, 0, 0, 0), (.iconst 0, 0, 0, 0, 0), (.istore 5, 0, 0, 0, 0), (.iconst 0, 0, 0, 0, 0), (.istore 6, 0, 0, 0, 0)] (by decide +kernel) rfl trivial ?_
      refine GE_weak [true, true, true, true, true, true, true, false] (h_X5_taught_38_ok l X a1 a2 r3.1 _ ?_ FU (-1) 0 0 r3.2)
      · intro x4_11 x5_12 w13
        refine GE_run flG_T (pc1 := 135) (L1 := [none, none, some (.inl a2), none, some (.inl x4_11), some (.inl x5_12), none, none]) (S1 := [.inl a2]) (w1 := w13) (P := True) [(.iload_n 2, 0, 0, 0, 0)] (by decide +kernel) rfl trivial ?_
        refine GE_ifN (k := .ne) (off := 8) (tgt := 143) (by decide +kernel) (by decide) (cnd_ne _ _) (fun c14 => ?_) (fun c14 => ?_)
        · refine GE_run flG_T (pc1 := 145) (L1 := [none, none, some (.inl a2), none, some (.inl x4_11), some (.inl x5_12), none, none]) (S1 := [.inl x5_12]) (w1 := w13) (P := True) [(.iload 5, 0, 0, 0, 0)] (by decide +kernel) rfl trivial ?_
          exact GE_iret rfl (by decide +kernel)
        · refine GE_run flG_T (pc1 := 145) (L1 := [none, none, some (.inl a2), none, some (.inl x4_11), some (.inl x5_12), none, none]) (S1 := [.inl x4_11]) (w1 := w13) (P := True) [(.iload 4, 0, 0, 0, 0), (.goto 5, 0, 0, 0, 0)] (by decide +kernel) rfl trivial ?_
          exact GE_iret rfl (by decide +kernel)
    · refine GE_run flG_T (pc1 := 22) (L1 := [some (.inr (.inr (some (5, 0)))), some (.inl a1), some (.inl a2), none, none, none, none, none]) (S1 := [.inl (-7)]) (w1 := w) (P := True) [(.bipush (-7), 0, 0, -7, 0)] (by decide +kernel) rfl trivial ?_
      exact GE_iret rfl (by decide +kernel)
  · refine GE_run flG_T (pc1 := 10) (L1 := [some (.inr (.inr (some (5, 0)))), some (.inl a1), some (.inl a2), none, none, none, none, none]) (S1 := [.inl (-5)]) (w1 := w) (P := True) [(.bipush (-5), 0, 0, -5, 0)] (by decide +kernel) rfl trivial ?_
    exact GE_iret rfl (by decide +kernel)
abbrev mm_X5_knowsBy : MI := (RX5, cX5_knowsBy, 12, (some .boolean), ftp_X5.map (fun q => q.1), ctp_X5.map (fun q => q.1), clp_X5.map (fun q => q.1))
noncomputable def h_X5_knowsBy_6 (x1 : Int32) (x2 : Int32) (x3 : Int32) (x4 : Int32) (k26 : Int32 → Mem → Option (Int32 × Mem)) : Nat → Int32 → Int32 → Mem → Option (Int32 × Mem)
  | 0, _, _, _ => none
  | n + 1, x5, x6, w => if x6 < x4 then ((h_X5_knowsBy_6 x1 x2 x3 x4 k26 n) (x5 * 36) (x6 + 1) w) else (k26 x5 w)
set_option maxRecDepth 100000 in
theorem h_X5_knowsBy_6_ok (l : Launch) (X : XC) (x1 : Int32) (x2 : Int32) (x3 : Int32) (x4 : Int32) (k26 : Int32 → Mem → Option (Int32 × Mem))  (hk26 : ∀ (x5 : Int32) (w : Mem), GE l X mm_X5_knowsBy 5 emI 57 flT (k26 x5 w) 26 [some (.inr (.inr (some (5, 0)))), some (.inl x1), some (.inl x2), some (.inl x3), some (.inl x4), some (.inl x5), none, none, none, none, none, none] [] w) : ∀ (n : Nat) (x5 : Int32) (x6 : Int32) (w : Mem), GE l X mm_X5_knowsBy 5 emI 57 flT ((h_X5_knowsBy_6 x1 x2 x3 x4 k26 n) x5 x6 w) 6 [some (.inr (.inr (some (5, 0)))), some (.inl x1), some (.inl x2), some (.inl x3), some (.inl x4), some (.inl x5), some (.inl x6), none, none, none, none, none] [] w := by
  intro n
  induction n with
  | zero => intro x5 x6 w; exact GE_none
  | succ n ih =>
    intro x5 x6 w
    unfold h_X5_knowsBy_6
    refine GE_run flG_T (pc1 := 10) (L1 := [some (.inr (.inr (some (5, 0)))), some (.inl x1), some (.inl x2), some (.inl x3), some (.inl x4), some (.inl x5), some (.inl x6), none, none, none, none, none]) (S1 := [.inl x4, .inl x6]) (w1 := w) (P := True) [(.iload 6, 0, 0, 0, 0), (.iload 4, 0, 0, 0, 0)] (by decide +kernel) rfl trivial ?_
    refine GE_icmpN (k := .ge) (off := 16) (tgt := 26) (by decide +kernel) (by decide) (cnd_ge _ _) (fun c1 => ?_) (fun c1 => ?_)
    · exact GE_weak [true, true, true, true, true, true, false, false, false, false, false, false] (hk26 x5 w)
    · refine GE_run flG_T (pc1 := 6) (L1 := [some (.inr (.inr (some (5, 0)))), some (.inl x1), some (.inl x2), some (.inl x3), some (.inl x4), some (.inl (x5 * 36)), some (.inl (x6 + 1)), none, none, none, none, none]) (S1 := []) (w1 := w) (P := True) [(.iload 5, 0, 0, 0, 0), (.bipush 36, 0, 0, 36, 0), (.imul, 0, 0, 0, 0), (.istore 5, 0, 0, 0, 0), (.iinc 6 1, 0, 0, 1, 0), (.goto (-17), 0, 0, 0, 0)] (by decide +kernel) rfl trivial ?_
      exact GE_weak [true, true, true, true, true, true, true, false, false, false, false, false] (ih (x5 * 36) (x6 + 1) w)
noncomputable def j_X5_knowsBy_141  (kl44 : Int32 → Int32 → Int32 → Int32 → Mem → Option (Int32 × Mem)) (x1 : Int32) (x2 : Int32) (x4 : Int32) (x5 : Int32) (x6 : Int32) (x8 : Int32) (x10 : Int32) (x11 : Int32) (s0 : Int32) (w : Mem) : Option (Int32 × Mem) := if s0 = 0 then (kl44 x5 x6 s0 (x8 + 1) w) else (Option.bind (f_X5_lessonOf x10 x11 w) (fun r16 => kl44 x5 x6 s0 (x8 + 1) (up r16.2 5 0 32 ((((100 * (r16.2 5 0 32)) + (10 * x10)) + x11) + 1))))
set_option maxRecDepth 100000 in
theorem j_X5_knowsBy_141_ok (l : Launch) (X : XC)  (kl44 : Int32 → Int32 → Int32 → Int32 → Mem → Option (Int32 × Mem)) (x1 : Int32) (x2 : Int32) (x4 : Int32) (x5 : Int32) (x6 : Int32) (x8 : Int32) (x10 : Int32) (x11 : Int32) (s0 : Int32)  (ih : ∀ (x5 : Int32) (x6 : Int32) (x7 : Int32) (x8 : Int32) (w : Mem), GE l X mm_X5_knowsBy 5 emI 57 flT (kl44 x5 x6 x7 x8 w) 44 [some (.inr (.inr (some (5, 0)))), some (.inl x1), some (.inl x2), none, some (.inl x4), some (.inl x5), some (.inl x6), some (.inl x7), some (.inl x8), none, none, none] [] w) (w : Mem) : GE l X mm_X5_knowsBy 5 emI 57 flT (j_X5_knowsBy_141 kl44 x1 x2 x4 x5 x6 x8 x10 x11 s0 w) 141 [some (.inr (.inr (some (5, 0)))), some (.inl x1), some (.inl x2), none, some (.inl x4), some (.inl x5), some (.inl x6), none, some (.inl x8), none, some (.inl x10), some (.inl x11)] [.inl s0] w := by
  unfold j_X5_knowsBy_141
  refine GE_run flG_T (pc1 := 145) (L1 := [some (.inr (.inr (some (5, 0)))), some (.inl x1), some (.inl x2), none, some (.inl x4), some (.inl x5), some (.inl x6), some (.inl s0), some (.inl x8), none, some (.inl x10), some (.inl x11)]) (S1 := [.inl s0]) (w1 := w) (P := True) [(.istore 7, 0, 0, 0, 0), (.iload 7, 0, 0, 0, 0)] (by decide +kernel) rfl trivial ?_
  refine GE_if (k := .eq) (off := 34) (tgt := 179) (by decide +kernel) (by decide) (cnd_eq _ _) (fun c15 => ?_) (fun c15 => ?_)
  · refine GE_run flG_T (pc1 := 44) (L1 := [some (.inr (.inr (some (5, 0)))), some (.inl x1), some (.inl x2), none, some (.inl x4), some (.inl x5), some (.inl x6), some (.inl s0), some (.inl (x8 + 1)), none, some (.inl x10), some (.inl x11)]) (S1 := []) (w1 := w) (P := True) [(.iinc 8 1, 0, 0, 1, 0), (.goto (-138), 0, 0, 0, 0)] (by decide +kernel) rfl trivial ?_
    exact GE_weak [true, true, true, false, true, true, true, true, true, false, false, false] (ih x5 x6 s0 (x8 + 1) w)
  · refine GE_run flG_T (pc1 := 153) (L1 := [some (.inr (.inr (some (5, 0)))), some (.inl x1), some (.inl x2), none, some (.inl x4), some (.inl x5), some (.inl x6), some (.inl s0), some (.inl x8), none, some (.inl x10), some (.inl x11)]) (S1 := [.inl x11, .inl x10, .inr (.inr (some (5, 0)))]) (w1 := w) (P := True) [(.aload_n 0, 0, 0, 0, 0), (.iload 10, 0, 0, 0, 0), (.iload 11, 0, 0, 0, 0)] (by decide +kernel) rfl trivial ?_
    refine GE_callVI (As := [.inl x10, .inl x11]) (k := 5) (i := 0) (S := []) (t_X5_lessonOf l X x10 x11 w) (by decide) ⟨me_X5_lessonOf, mi_X5_lessonOf, mv_X5_lessonOf, lk_X5_186⟩ rfl (by decide +kernel) rfl (by decide) (by decide) (Nat.le_of_ble_eq_true rfl) (fun r16 _ => ?_)
    refine GE_run flG_T (pc1 := 44) (L1 := [some (.inr (.inr (some (5, 0)))), some (.inl x1), some (.inl x2), none, some (.inl x4), some (.inl x5), some (.inl x6), some (.inl s0), some (.inl (x8 + 1)), none, some (.inl x10), some (.inl x11)]) (S1 := []) (w1 := up r16.2 5 0 32 ((((100 * (r16.2 5 0 32)) + (10 * x10)) + x11) + 1)) (P := True) [(.pop, 0, 0, 0, 0), (.aload_n 0, 0, 0, 0, 0), (.bipush 100, 0, 0, 100, 0), (.aload_n 0, 0, 0, 0, 0), (.getfield 211, 5, 32, 0, 0), (.imul, 0, 0, 0, 0), (.bipush 10, 0, 0, 10, 0), (.iload 10, 0, 0, 0, 0), (.imul, 0, 0, 0, 0), (.iadd, 0, 0, 0, 0), (.iload 11, 0, 0, 0, 0), (.iadd, 0, 0, 0, 0), (.iconst 1, 0, 0, 1, 0), (.iadd, 0, 0, 0, 0), (.putfield 211, 5, 32, 0, 0), (.iinc 8 1, 0, 0, 1, 0), (.goto (-138), 0, 0, 0, 0)] (by decide +kernel) rfl trivial ?_
    exact GE_weak [true, true, true, false, true, true, true, true, true, false, false, false] (ih x5 x6 s0 (x8 + 1) (up r16.2 5 0 32 ((((100 * (r16.2 5 0 32)) + (10 * x10)) + x11) + 1)))
noncomputable def j_X5_knowsBy_140  (kl44 : Int32 → Int32 → Int32 → Int32 → Mem → Option (Int32 × Mem)) (x1 : Int32) (x2 : Int32) (x4 : Int32) (x5 : Int32) (x6 : Int32) (x8 : Int32) (x10 : Int32) (x11 : Int32) (w : Mem) : Option (Int32 × Mem) := j_X5_knowsBy_141 kl44 x1 x2 x4 x5 x6 x8 x10 x11 0 w
set_option maxRecDepth 100000 in
theorem j_X5_knowsBy_140_ok (l : Launch) (X : XC)  (kl44 : Int32 → Int32 → Int32 → Int32 → Mem → Option (Int32 × Mem)) (x1 : Int32) (x2 : Int32) (x4 : Int32) (x5 : Int32) (x6 : Int32) (x8 : Int32) (x10 : Int32) (x11 : Int32)  (ih : ∀ (x5 : Int32) (x6 : Int32) (x7 : Int32) (x8 : Int32) (w : Mem), GE l X mm_X5_knowsBy 5 emI 57 flT (kl44 x5 x6 x7 x8 w) 44 [some (.inr (.inr (some (5, 0)))), some (.inl x1), some (.inl x2), none, some (.inl x4), some (.inl x5), some (.inl x6), some (.inl x7), some (.inl x8), none, none, none] [] w) (w : Mem) : GE l X mm_X5_knowsBy 5 emI 57 flT (j_X5_knowsBy_140 kl44 x1 x2 x4 x5 x6 x8 x10 x11 w) 140 [some (.inr (.inr (some (5, 0)))), some (.inl x1), some (.inl x2), none, some (.inl x4), some (.inl x5), some (.inl x6), none, some (.inl x8), none, some (.inl x10), some (.inl x11)] [] w := by
  unfold j_X5_knowsBy_140
  refine GE_run flG_T (pc1 := 141) (L1 := [some (.inr (.inr (some (5, 0)))), some (.inl x1), some (.inl x2), none, some (.inl x4), some (.inl x5), some (.inl x6), none, some (.inl x8), none, some (.inl x10), some (.inl x11)]) (S1 := [.inl 0]) (w1 := w) (P := True) [(.iconst 0, 0, 0, 0, 0)] (by decide +kernel) rfl trivial ?_
  exact GE_weak [true, true, true, false, true, true, true, false, true, false, true, true] (j_X5_knowsBy_141_ok l X kl44 x1 x2 x4 x5 x6 x8 x10 x11 0 ih w)
noncomputable def j_X5_knowsBy_85  (kl44 : Int32 → Int32 → Int32 → Int32 → Mem → Option (Int32 × Mem)) (x1 : Int32) (x2 : Int32) (x4 : Int32) (x6 : Int32) (x8 : Int32) (x9 : Int32) (s0 : Int32) (w : Mem) : Option (Int32 × Mem) := if ¬ (6 : Int32) = 0 then (if ¬ (6 : Int32) = 0 then (if (wiF (x9 / 6) 0 5) < (w 5 0 0) then (if (wiF (rmI x9 6) 0 5) < (w 5 0 0) then (if (wiF (x9 / 6) 0 5) = (wiF (rmI x9 6) 0 5) then (j_X5_knowsBy_140 kl44 x1 x2 x4 s0 x6 x8 (wiF (x9 / 6) 0 5) (wiF (rmI x9 6) 0 5) w) else (j_X5_knowsBy_141 kl44 x1 x2 x4 s0 x6 x8 (wiF (x9 / 6) 0 5) (wiF (rmI x9 6) 0 5) 1 w)) else (j_X5_knowsBy_140 kl44 x1 x2 x4 s0 x6 x8 (wiF (x9 / 6) 0 5) (wiF (rmI x9 6) 0 5) w)) else (j_X5_knowsBy_140 kl44 x1 x2 x4 s0 x6 x8 (wiF (x9 / 6) 0 5) (wiF (rmI x9 6) 0 5) w)) else none) else none
set_option maxRecDepth 100000 in
theorem j_X5_knowsBy_85_ok (l : Launch) (X : XC)  (kl44 : Int32 → Int32 → Int32 → Int32 → Mem → Option (Int32 × Mem)) (x1 : Int32) (x2 : Int32) (x4 : Int32) (x6 : Int32) (x8 : Int32) (x9 : Int32) (s0 : Int32)  (ih : ∀ (x5 : Int32) (x6 : Int32) (x7 : Int32) (x8 : Int32) (w : Mem), GE l X mm_X5_knowsBy 5 emI 57 flT (kl44 x5 x6 x7 x8 w) 44 [some (.inr (.inr (some (5, 0)))), some (.inl x1), some (.inl x2), none, some (.inl x4), some (.inl x5), some (.inl x6), some (.inl x7), some (.inl x8), none, none, none] [] w) (w : Mem) : GE l X mm_X5_knowsBy 5 emI 57 flT (j_X5_knowsBy_85 kl44 x1 x2 x4 x6 x8 x9 s0 w) 85 [some (.inr (.inr (some (5, 0)))), some (.inl x1), some (.inl x2), none, some (.inl x4), none, some (.inl x6), none, some (.inl x8), some (.inl x9), none, none] [.inl s0] w := by
  unfold j_X5_knowsBy_85
  refine GE_chk (fun h10 => ?_)
  refine GE_run flG_T (pc1 := 94) (L1 := [some (.inr (.inr (some (5, 0)))), some (.inl x1), some (.inl x2), none, some (.inl x4), some (.inl s0), some (.inl x6), none, some (.inl x8), some (.inl x9), none, none]) (S1 := [.inl 5, .inl 0, .inl (x9 / 6)]) (w1 := w) (P := (¬ (6 : Int32) = 0) ∧ True) [(.istore 5, 0, 0, 0, 0), (.iload 9, 0, 0, 0, 0), (.bipush 6, 0, 0, 6, 0), (.idiv, 0, 0, 0, 0), (.iconst 0, 0, 0, 0, 0), (.iconst 5, 0, 0, 5, 0)] (by decide +kernel) rfl ⟨h10, trivial⟩ ?_
  refine GE_callSIp (As := [.inl (x9 / 6), .inl 0, .inl 5]) (S := []) (p_X5_within l X (x9 / 6) 0 5 w) ⟨me_X5_within, ms_X5_within, lk_X5_159⟩ (by decide +kernel) rfl (by decide) (by decide) (Nat.le_of_ble_eq_true rfl) ?_
  refine GE_chk (fun h11 => ?_)
  refine GE_run flG_T (pc1 := 106) (L1 := [some (.inr (.inr (some (5, 0)))), some (.inl x1), some (.inl x2), none, some (.inl x4), some (.inl s0), some (.inl x6), none, some (.inl x8), some (.inl x9), some (.inl (wiF (x9 / 6) 0 5)), none]) (S1 := [.inl 5, .inl 0, .inl (rmI x9 6)]) (w1 := w) (P := (¬ (6 : Int32) = 0) ∧ True) [(.istore 10, 0, 0, 0, 0), (.iload 9, 0, 0, 0, 0), (.bipush 6, 0, 0, 6, 0), (.irem, 0, 0, 0, 0), (.iconst 0, 0, 0, 0, 0), (.iconst 5, 0, 0, 5, 0)] (by decide +kernel) rfl ⟨h11, trivial⟩ ?_
  refine GE_callSIp (As := [.inl (rmI x9 6), .inl 0, .inl 5]) (S := []) (p_X5_within l X (rmI x9 6) 0 5 w) ⟨me_X5_within, ms_X5_within, lk_X5_159⟩ (by decide +kernel) rfl (by decide) (by decide) (Nat.le_of_ble_eq_true rfl) ?_
  refine GE_run flG_T (pc1 := 117) (L1 := [some (.inr (.inr (some (5, 0)))), some (.inl x1), some (.inl x2), none, some (.inl x4), some (.inl s0), some (.inl x6), none, some (.inl x8), some (.inl x9), some (.inl (wiF (x9 / 6) 0 5)), some (.inl (wiF (rmI x9 6) 0 5))]) (S1 := [.inl (w 5 0 0), .inl (wiF (x9 / 6) 0 5)]) (w1 := w) (P := True) [(.istore 11, 0, 0, 0, 0), (.iload 10, 0, 0, 0, 0), (.aload_n 0, 0, 0, 0, 0), (.getfield 69, 5, 0, 0, 0)] (by decide +kernel) rfl trivial ?_
  refine GE_icmpN (k := .ge) (off := 23) (tgt := 140) (by decide +kernel) (by decide) (cnd_ge _ _) (fun c12 => ?_) (fun c12 => ?_)
  · exact GE_weak [true, true, true, false, true, true, true, false, true, false, true, true] (j_X5_knowsBy_140_ok l X kl44 x1 x2 x4 s0 x6 x8 (wiF (x9 / 6) 0 5) (wiF (rmI x9 6) 0 5) ih w)
  · refine GE_run flG_T (pc1 := 126) (L1 := [some (.inr (.inr (some (5, 0)))), some (.inl x1), some (.inl x2), none, some (.inl x4), some (.inl s0), some (.inl x6), none, some (.inl x8), some (.inl x9), some (.inl (wiF (x9 / 6) 0 5)), some (.inl (wiF (rmI x9 6) 0 5))]) (S1 := [.inl (w 5 0 0), .inl (wiF (rmI x9 6) 0 5)]) (w1 := w) (P := True) [(.iload 11, 0, 0, 0, 0), (.aload_n 0, 0, 0, 0, 0), (.getfield 69, 5, 0, 0, 0)] (by decide +kernel) rfl trivial ?_
    refine GE_icmpN (k := .ge) (off := 14) (tgt := 140) (by decide +kernel) (by decide) (cnd_ge _ _) (fun c13 => ?_) (fun c13 => ?_)
    · exact GE_weak [true, true, true, false, true, true, true, false, true, false, true, true] (j_X5_knowsBy_140_ok l X kl44 x1 x2 x4 s0 x6 x8 (wiF (x9 / 6) 0 5) (wiF (rmI x9 6) 0 5) ih w)
    · refine GE_run flG_T (pc1 := 133) (L1 := [some (.inr (.inr (some (5, 0)))), some (.inl x1), some (.inl x2), none, some (.inl x4), some (.inl s0), some (.inl x6), none, some (.inl x8), some (.inl x9), some (.inl (wiF (x9 / 6) 0 5)), some (.inl (wiF (rmI x9 6) 0 5))]) (S1 := [.inl (wiF (rmI x9 6) 0 5), .inl (wiF (x9 / 6) 0 5)]) (w1 := w) (P := True) [(.iload 10, 0, 0, 0, 0), (.iload 11, 0, 0, 0, 0)] (by decide +kernel) rfl trivial ?_
      refine GE_icmp (k := .eq) (off := 7) (tgt := 140) (by decide +kernel) (by decide) (cnd_eq _ _) (fun c14 => ?_) (fun c14 => ?_)
      · exact GE_weak [true, true, true, false, true, true, true, false, true, false, true, true] (j_X5_knowsBy_140_ok l X kl44 x1 x2 x4 s0 x6 x8 (wiF (x9 / 6) 0 5) (wiF (rmI x9 6) 0 5) ih w)
      · refine GE_run flG_T (pc1 := 141) (L1 := [some (.inr (.inr (some (5, 0)))), some (.inl x1), some (.inl x2), none, some (.inl x4), some (.inl s0), some (.inl x6), none, some (.inl x8), some (.inl x9), some (.inl (wiF (x9 / 6) 0 5)), some (.inl (wiF (rmI x9 6) 0 5))]) (S1 := [.inl 1]) (w1 := w) (P := True) [(.iconst 1, 0, 0, 1, 0), (.goto 4, 0, 0, 0, 0)] (by decide +kernel) rfl trivial ?_
        exact GE_weak [true, true, true, false, true, true, true, false, true, false, true, true] (j_X5_knowsBy_141_ok l X kl44 x1 x2 x4 s0 x6 x8 (wiF (x9 / 6) 0 5) (wiF (rmI x9 6) 0 5) 1 ih w)
noncomputable def h_X5_knowsBy_44 (x1 : Int32) (x2 : Int32) (x4 : Int32) (k185 : Int32 → Mem → Option (Int32 × Mem)) : Nat → Int32 → Int32 → Int32 → Int32 → Mem → Option (Int32 × Mem)
  | 0, _, _, _, _, _ => none
  | n + 1, x5, x6, x7, x8, w => if x8 < x4 then (if x7 = 0 then (k185 x7 w) else (if ¬ (x5 : Int32) = 0 then (if ¬ (x5 : Int32) = 0 then (if x5 ≤ 1 then (j_X5_knowsBy_85 (h_X5_knowsBy_44 x1 x2 x4 k185 n) x1 x2 x4 (rmI x6 x5) x8 (x6 / x5) 1 w) else (if ¬ (36 : Int32) = 0 then (j_X5_knowsBy_85 (h_X5_knowsBy_44 x1 x2 x4 k185 n) x1 x2 x4 (rmI x6 x5) x8 (x6 / x5) (x5 / 36) w) else none)) else none) else none)) else (k185 x7 w)
set_option maxRecDepth 100000 in
theorem h_X5_knowsBy_44_ok (l : Launch) (X : XC) (x1 : Int32) (x2 : Int32) (x4 : Int32) (k185 : Int32 → Mem → Option (Int32 × Mem))  (hk185 : ∀ (x7 : Int32) (w : Mem), GE l X mm_X5_knowsBy 5 emI 57 flT (k185 x7 w) 185 [some (.inr (.inr (some (5, 0)))), some (.inl x1), some (.inl x2), none, none, none, none, some (.inl x7), none, none, none, none] [] w) : ∀ (n : Nat) (x5 : Int32) (x6 : Int32) (x7 : Int32) (x8 : Int32) (w : Mem), GE l X mm_X5_knowsBy 5 emI 57 flT ((h_X5_knowsBy_44 x1 x2 x4 k185 n) x5 x6 x7 x8 w) 44 [some (.inr (.inr (some (5, 0)))), some (.inl x1), some (.inl x2), none, some (.inl x4), some (.inl x5), some (.inl x6), some (.inl x7), some (.inl x8), none, none, none] [] w := by
  intro n
  induction n with
  | zero => intro x5 x6 x7 x8 w; exact GE_none
  | succ n ih =>
    intro x5 x6 x7 x8 w
    unfold h_X5_knowsBy_44
    refine GE_run flG_T (pc1 := 48) (L1 := [some (.inr (.inr (some (5, 0)))), some (.inl x1), some (.inl x2), none, some (.inl x4), some (.inl x5), some (.inl x6), some (.inl x7), some (.inl x8), none, none, none]) (S1 := [.inl x4, .inl x8]) (w1 := w) (P := True) [(.iload 8, 0, 0, 0, 0), (.iload 4, 0, 0, 0, 0)] (by decide +kernel) rfl trivial ?_
    refine GE_icmpN (k := .ge) (off := 137) (tgt := 185) (by decide +kernel) (by decide) (cnd_ge _ _) (fun c5 => ?_) (fun c5 => ?_)
    · exact GE_weak [true, true, true, false, false, false, false, true, false, false, false, false] (hk185 x7 w)
    · refine GE_run flG_T (pc1 := 53) (L1 := [some (.inr (.inr (some (5, 0)))), some (.inl x1), some (.inl x2), none, some (.inl x4), some (.inl x5), some (.inl x6), some (.inl x7), some (.inl x8), none, none, none]) (S1 := [.inl x7]) (w1 := w) (P := True) [(.iload 7, 0, 0, 0, 0)] (by decide +kernel) rfl trivial ?_
      refine GE_if (k := .eq) (off := 132) (tgt := 185) (by decide +kernel) (by decide) (cnd_eq _ _) (fun c6 => ?_) (fun c6 => ?_)
      · exact GE_weak [true, true, true, false, false, false, false, true, false, false, false, false] (hk185 x7 w)
      · refine GE_chk (fun h7 => ?_)
        refine GE_chk (fun h8 => ?_)
        refine GE_run flG_T (pc1 := 73) (L1 := [some (.inr (.inr (some (5, 0)))), some (.inl x1), some (.inl x2), none, some (.inl x4), some (.inl x5), some (.inl (rmI x6 x5)), some (.inl x7), some (.inl x8), some (.inl (x6 / x5)), none, none]) (S1 := [.inl 1, .inl x5]) (w1 := w) (P := (¬ (x5 : Int32) = 0) ∧ (¬ (x5 : Int32) = 0) ∧ True) [(.iload 6, 0, 0, 0, 0), (.iload 5, 0, 0, 0, 0), (.idiv, 0, 0, 0, 0), (.istore 9, 0, 0, 0, 0), (.iload 6, 0, 0, 0, 0), (.iload 5, 0, 0, 0, 0), (.irem, 0, 0, 0, 0), (.istore 6, 0, 0, 0, 0), (.iload 5, 0, 0, 0, 0), (.iconst 1, 0, 0, 1, 0)] (by decide +kernel) rfl ⟨h7, h8, trivial⟩ ?_
        refine GE_icmp (k := .le) (off := 11) (tgt := 84) (by decide +kernel) (by decide) (cnd_le _ _) (fun c9 => ?_) (fun c9 => ?_)
        · refine GE_run flG_T (pc1 := 85) (L1 := [some (.inr (.inr (some (5, 0)))), some (.inl x1), some (.inl x2), none, some (.inl x4), some (.inl x5), some (.inl (rmI x6 x5)), some (.inl x7), some (.inl x8), some (.inl (x6 / x5)), none, none]) (S1 := [.inl 1]) (w1 := w) (P := True) [(.iconst 1, 0, 0, 1, 0)] (by decide +kernel) rfl trivial ?_
          exact GE_weak [true, true, true, false, true, false, true, false, true, true, false, false] (j_X5_knowsBy_85_ok l X (h_X5_knowsBy_44 x1 x2 x4 k185 n) x1 x2 x4 (rmI x6 x5) x8 (x6 / x5) 1 ih w)
        · refine GE_chk (fun h17 => ?_)
          refine GE_run flG_T (pc1 := 85) (L1 := [some (.inr (.inr (some (5, 0)))), some (.inl x1), some (.inl x2), none, some (.inl x4), some (.inl x5), some (.inl (rmI x6 x5)), some (.inl x7), some (.inl x8), some (.inl (x6 / x5)), none, none]) (S1 := [.inl (x5 / 36)]) (w1 := w) (P := (¬ (36 : Int32) = 0) ∧ True) [(.iload 5, 0, 0, 0, 0), (.bipush 36, 0, 0, 36, 0), (.idiv, 0, 0, 0, 0), (.goto 4, 0, 0, 0, 0)] (by decide +kernel) rfl ⟨h17, trivial⟩ ?_
          exact GE_weak [true, true, true, false, true, false, true, false, true, true, false, false] (j_X5_knowsBy_85_ok l X (h_X5_knowsBy_44 x1 x2 x4 k185 n) x1 x2 x4 (rmI x6 x5) x8 (x6 / x5) (x5 / 36) ih w)
noncomputable def j_X5_knowsBy_211   (s0 : Int32) (w : Mem) : Option (Int32 × Mem) := Option.bind (f_X5_lays w) (fun r21 => if s0 = 0 ∨ s0 = 1 then some (s0, r21) else none)
set_option maxRecDepth 100000 in
theorem j_X5_knowsBy_211_ok (l : Launch) (X : XC)   (s0 : Int32)   (w : Mem) : GE l X mm_X5_knowsBy 5 emI 57 flT (j_X5_knowsBy_211 s0 w) 211 [some (.inr (.inr (some (5, 0)))), none, none, none, none, none, none, none, none, none, none, none] [.inl s0] w := by
  unfold j_X5_knowsBy_211
  refine GE_run flG_T (pc1 := 214) (L1 := [some (.inr (.inr (some (5, 0)))), none, none, none, none, none, none, some (.inl s0), none, none, none, none]) (S1 := [.inr (.inr (some (5, 0)))]) (w1 := w) (P := True) [(.istore 7, 0, 0, 0, 0), (.aload_n 0, 0, 0, 0, 0)] (by decide +kernel) rfl trivial ?_
  refine GE_callVV (As := []) (k := 5) (i := 0) (S := []) (t_X5_lays l X w) (by decide) ⟨me_X5_lays, mi_X5_lays, mv_X5_lays, lk_X5_208⟩ rfl (by decide +kernel) rfl (by decide) (by decide) (Nat.le_of_ble_eq_true rfl) (fun r21 _ => ?_)
  refine GE_run flG_T (pc1 := 219) (L1 := [some (.inr (.inr (some (5, 0)))), none, none, none, none, none, none, some (.inl s0), none, none, none, none]) (S1 := [.inl s0]) (w1 := r21) (P := True) [(.iload 7, 0, 0, 0, 0)] (by decide +kernel) rfl trivial ?_
  exact GE_bret rfl (by decide +kernel)
noncomputable def j_X5_knowsBy_210    (w : Mem) : Option (Int32 × Mem) := j_X5_knowsBy_211 0 w
set_option maxRecDepth 100000 in
theorem j_X5_knowsBy_210_ok (l : Launch) (X : XC)      (w : Mem) : GE l X mm_X5_knowsBy 5 emI 57 flT (j_X5_knowsBy_210  w) 210 [some (.inr (.inr (some (5, 0)))), none, none, none, none, none, none, none, none, none, none, none] [] w := by
  unfold j_X5_knowsBy_210
  refine GE_run flG_T (pc1 := 211) (L1 := [some (.inr (.inr (some (5, 0)))), none, none, none, none, none, none, none, none, none, none, none]) (S1 := [.inl 0]) (w1 := w) (P := True) [(.iconst 0, 0, 0, 0, 0)] (by decide +kernel) rfl trivial ?_
  exact GE_weak [true, false, false, false, false, false, false, false, false, false, false, false] (j_X5_knowsBy_211_ok l X 0 w)
noncomputable def j_X5_knowsBy_185   (x1 : Int32) (x2 : Int32) (x7 : Int32) (w : Mem) : Option (Int32 × Mem) := if x7 = 0 then (j_X5_knowsBy_210 w) else (if inB (3 * x1) 18 then (if ((shrI (w 22 0 (tn (3 * x1))) x2) &&& 1) = 1 then (j_X5_knowsBy_211 1 w) else (j_X5_knowsBy_210 w)) else none)
set_option maxRecDepth 100000 in
theorem j_X5_knowsBy_185_ok (l : Launch) (X : XC)   (x1 : Int32) (x2 : Int32) (x7 : Int32)   (w : Mem) : GE l X mm_X5_knowsBy 5 emI 57 flT (j_X5_knowsBy_185 x1 x2 x7 w) 185 [some (.inr (.inr (some (5, 0)))), some (.inl x1), some (.inl x2), none, none, none, none, some (.inl x7), none, none, none, none] [] w := by
  unfold j_X5_knowsBy_185
  refine GE_run flG_T (pc1 := 187) (L1 := [some (.inr (.inr (some (5, 0)))), some (.inl x1), some (.inl x2), none, none, none, none, some (.inl x7), none, none, none, none]) (S1 := [.inl x7]) (w1 := w) (P := True) [(.iload 7, 0, 0, 0, 0)] (by decide +kernel) rfl trivial ?_
  refine GE_if (k := .eq) (off := 23) (tgt := 210) (by decide +kernel) (by decide) (cnd_eq _ _) (fun c20 => ?_) (fun c20 => ?_)
  · exact GE_weak [true, false, false, false, false, false, false, false, false, false, false, false] (j_X5_knowsBy_210_ok l X w)
  · refine GE_chk (fun h22 => ?_)
    refine GE_run flG_T (pc1 := 203) (L1 := [some (.inr (.inr (some (5, 0)))), some (.inl x1), some (.inl x2), none, none, none, none, some (.inl x7), none, none, none, none]) (S1 := [.inl 1, .inl ((shrI (w 22 0 (tn (3 * x1))) x2) &&& 1)]) (w1 := w) (P := (inB (3 * x1) 18) ∧ True) [(.aload_n 0, 0, 0, 0, 0), (.getfield 16, 5, 3, 0, 0), (.iconst 3, 0, 0, 3, 0), (.iload_n 1, 0, 0, 0, 0), (.imul, 0, 0, 0, 0), (.iaload, 0, 0, 0, 0), (.iload_n 2, 0, 0, 0, 0), (.ishr, 0, 0, 0, 0), (.iconst 1, 0, 0, 1, 0), (.iand, 0, 0, 0, 0), (.iconst 1, 0, 0, 1, 0)] (by decide +kernel) rfl ⟨h22, trivial⟩ ?_
    refine GE_icmpN (k := .ne) (off := 7) (tgt := 210) (by decide +kernel) (by decide) (cnd_ne _ _) (fun c23 => ?_) (fun c23 => ?_)
    · exact GE_weak [true, false, false, false, false, false, false, false, false, false, false, false] (j_X5_knowsBy_210_ok l X w)
    · refine GE_run flG_T (pc1 := 211) (L1 := [some (.inr (.inr (some (5, 0)))), some (.inl x1), some (.inl x2), none, none, none, none, some (.inl x7), none, none, none, none]) (S1 := [.inl 1]) (w1 := w) (P := True) [(.iconst 1, 0, 0, 1, 0), (.goto 4, 0, 0, 0, 0)] (by decide +kernel) rfl trivial ?_
      exact GE_weak [true, false, false, false, false, false, false, false, false, false, false, false] (j_X5_knowsBy_211_ok l X 1 w)
noncomputable def f_X5_knowsBy (a1 : Int32) (a2 : Int32) (a3 : Int32) (a4 : Int32) (w : Mem) : Option (Int32 × Mem) := h_X5_knowsBy_6 a1 a2 a3 a4 (fun x5_2 w3 => Option.bind (f_X5_keeps (up w3 5 0 32 0)) (fun r4 => h_X5_knowsBy_44 a1 a2 a4 (fun x7_18 w19 => j_X5_knowsBy_185 a1 a2 x7_18 w19) FU x5_2 a3 1 0 r4)) FU 1 1 w
set_option maxRecDepth 100000 in
theorem t_X5_knowsBy (l : Launch) (X : XC)  (a1 : Int32) (a2 : Int32) (a3 : Int32) (a4 : Int32) (w : Mem) : Ct l X 5 yX5_knowsBy cX5_knowsBy 12 (some .boolean) emI [.inr (.inr (some (5, 0))), .inl a1, .inl a2, .inl a3, .inl a4] 57 flT w (f_X5_knowsBy a1 a2 a3 a4 w) := by
  refine Ct_of (mi := mm_X5_knowsBy) (mik_X5 _ _ _) me_X5_knowsBy rfl (okAs_cons (by decide) (okAs_cons rfl (okAs_cons rfl (okAs_cons rfl (okAs_cons rfl okAs_nil))))) (Nat.le_of_ble_eq_true rfl) ?_
  unfold f_X5_knowsBy
  refine GE_run flG_T (pc1 := 6) (L1 := [some (.inr (.inr (some (5, 0)))), some (.inl a1), some (.inl a2), some (.inl a3), some (.inl a4), some (.inl 1), some (.inl 1), none, none, none, none, none]) (S1 := []) (w1 := w) (P := True) [(.iconst 1, 0, 0, 1, 0), (.istore 5, 0, 0, 0, 0), (.iconst 1, 0, 0, 1, 0), (.istore 6, 0, 0, 0, 0)] (by decide +kernel) rfl trivial ?_
  refine GE_weak [true, true, true, true, true, true, true, false, false, false, false, false] (h_X5_knowsBy_6_ok l X a1 a2 a3 a4 _ ?_ FU 1 1 w)
  · intro x5_2 w3
    refine GE_run flG_T (pc1 := 38) (L1 := [some (.inr (.inr (some (5, 0)))), some (.inl a1), some (.inl a2), some (.inl a3), some (.inl a4), some (.inl x5_2), some (.inl a3), some (.inl 1), none, none, none, none]) (S1 := [.inr (.inr (some (5, 0)))]) (w1 := up w3 5 0 32 0) (P := True) [(.iload_n 3, 0, 0, 0, 0), (.istore 6, 0, 0, 0, 0), (.iconst 1, 0, 0, 1, 0), (.istore 7, 0, 0, 0, 0), (.aload_n 0, 0, 0, 0, 0), (.iconst 0, 0, 0, 0, 0), (.putfield 211, 5, 32, 0, 0), (.aload_n 0, 0, 0, 0, 0)] (by decide +kernel) rfl trivial ?_
    refine GE_callVV (As := []) (k := 5) (i := 0) (S := []) (t_X5_keeps l X (up w3 5 0 32 0)) (by decide) ⟨me_X5_keeps, mi_X5_keeps, mv_X5_keeps, lk_X5_201⟩ rfl (by decide +kernel) rfl (by decide) (by decide) (Nat.le_of_ble_eq_true rfl) (fun r4 _ => ?_)
    refine GE_run flG_T (pc1 := 44) (L1 := [some (.inr (.inr (some (5, 0)))), some (.inl a1), some (.inl a2), some (.inl a3), some (.inl a4), some (.inl x5_2), some (.inl a3), some (.inl 1), some (.inl 0), none, none, none]) (S1 := []) (w1 := r4) (P := True) [(.iconst 0, 0, 0, 0, 0), (.istore 8, 0, 0, 0, 0)] (by decide +kernel) rfl trivial ?_
    refine GE_weak [true, true, true, false, true, true, true, true, true, false, false, false] (h_X5_knowsBy_44_ok l X a1 a2 a4 _ ?_ FU x5_2 a3 1 0 r4)
    · intro x7_18 w19
      exact GE_weak [true, true, true, false, false, false, false, true, false, false, false, false] (j_X5_knowsBy_185_ok l X a1 a2 x7_18 w19)
abbrev mm_X5_fewestLessons : MI := (RX5, cX5_fewestLessons, 6, (some .int), ftp_X5.map (fun q => q.1), ctp_X5.map (fun q => q.1), clp_X5.map (fun q => q.1))
noncomputable def h_X5_fewestLessons_14 (x1 : Int32) (x2 : Int32) (x3 : Int32) (x4 : Int32) (k42 : Mem → Option (Int32 × Mem)) : Nat → Int32 → Mem → Option (Int32 × Mem)
  | 0, _, _ => none
  | n + 1, x5, w => if x5 < x3 then (Option.bind (f_X5_knowsBy x1 x2 x5 x4 w) (fun r3 => if r3.1 = 0 then ((h_X5_fewestLessons_14 x1 x2 x3 x4 k42 n) (x5 + 1) r3.2) else (some (x4, r3.2)))) else (k42 w)
set_option maxRecDepth 100000 in
theorem h_X5_fewestLessons_14_ok (l : Launch) (X : XC) (x1 : Int32) (x2 : Int32) (x3 : Int32) (x4 : Int32) (k42 : Mem → Option (Int32 × Mem))  (hk42 : ∀  (w : Mem), GE l X mm_X5_fewestLessons 6 emI 57 flT (k42 w) 42 [some (.inr (.inr (some (5, 0)))), some (.inl x1), some (.inl x2), some (.inl x3), some (.inl x4), none] [] w) : ∀ (n : Nat) (x5 : Int32) (w : Mem), GE l X mm_X5_fewestLessons 6 emI 57 flT ((h_X5_fewestLessons_14 x1 x2 x3 x4 k42 n) x5 w) 14 [some (.inr (.inr (some (5, 0)))), some (.inl x1), some (.inl x2), some (.inl x3), some (.inl x4), some (.inl x5)] [] w := by
  intro n
  induction n with
  | zero => intro x5 w; exact GE_none
  | succ n ih =>
    intro x5 w
    unfold h_X5_fewestLessons_14
    refine GE_run flG_T (pc1 := 17) (L1 := [some (.inr (.inr (some (5, 0)))), some (.inl x1), some (.inl x2), some (.inl x3), some (.inl x4), some (.inl x5)]) (S1 := [.inl x3, .inl x5]) (w1 := w) (P := True) [(.iload 5, 0, 0, 0, 0), (.iload_n 3, 0, 0, 0, 0)] (by decide +kernel) rfl trivial ?_
    refine GE_icmpN (k := .ge) (off := 25) (tgt := 42) (by decide +kernel) (by decide) (cnd_ge _ _) (fun c2 => ?_) (fun c2 => ?_)
    · exact GE_weak [true, true, true, true, true, false] (hk42 w)
    · refine GE_run flG_T (pc1 := 27) (L1 := [some (.inr (.inr (some (5, 0)))), some (.inl x1), some (.inl x2), some (.inl x3), some (.inl x4), some (.inl x5)]) (S1 := [.inl x4, .inl x5, .inl x2, .inl x1, .inr (.inr (some (5, 0)))]) (w1 := w) (P := True) [(.aload_n 0, 0, 0, 0, 0), (.iload_n 1, 0, 0, 0, 0), (.iload_n 2, 0, 0, 0, 0), (.iload 5, 0, 0, 0, 0), (.iload 4, 0, 0, 0, 0)] (by decide +kernel) rfl trivial ?_
      refine GE_callVI (As := [.inl x1, .inl x2, .inl x5, .inl x4]) (k := 5) (i := 0) (S := []) (t_X5_knowsBy l X x1 x2 x5 x4 w) (by decide) ⟨me_X5_knowsBy, mi_X5_knowsBy, mv_X5_knowsBy, lk_X5_214⟩ rfl (by decide +kernel) rfl (by decide) (by decide) (Nat.le_of_ble_eq_true rfl) (fun r3 _ => ?_)
      refine GE_if (k := .eq) (off := 6) (tgt := 36) (by decide +kernel) (by decide) (cnd_eq _ _) (fun c4 => ?_) (fun c4 => ?_)
      · refine GE_run flG_T (pc1 := 14) (L1 := [some (.inr (.inr (some (5, 0)))), some (.inl x1), some (.inl x2), some (.inl x3), some (.inl x4), some (.inl (x5 + 1))]) (S1 := []) (w1 := r3.2) (P := True) [(.iinc 5 1, 0, 0, 1, 0), (.goto (-25), 0, 0, 0, 0)] (by decide +kernel) rfl trivial ?_
        exact GE_weak [true, true, true, true, true, true] (ih (x5 + 1) r3.2)
      · refine GE_run flG_T (pc1 := 35) (L1 := [some (.inr (.inr (some (5, 0)))), some (.inl x1), some (.inl x2), some (.inl x3), some (.inl x4), some (.inl x5)]) (S1 := [.inl x4]) (w1 := r3.2) (P := True) [(.iload 4, 0, 0, 0, 0)] (by decide +kernel) rfl trivial ?_
        exact GE_iret rfl (by decide +kernel)
noncomputable def h_X5_fewestLessons_5 (x1 : Int32) (x2 : Int32) (k53 : Mem → Option (Int32 × Mem)) : Nat → Int32 → Int32 → Mem → Option (Int32 × Mem)
  | 0, _, _, _ => none
  | n + 1, x3, x4, w => if x4 ≤ 3 then (h_X5_fewestLessons_14 x1 x2 x3 x4 (fun w5 => (h_X5_fewestLessons_5 x1 x2 k53 n) (x3 * 36) (x4 + 1) w5) FU 0 w) else (k53 w)
set_option maxRecDepth 100000 in
theorem h_X5_fewestLessons_5_ok (l : Launch) (X : XC) (x1 : Int32) (x2 : Int32) (k53 : Mem → Option (Int32 × Mem))  (hk53 : ∀  (w : Mem), GE l X mm_X5_fewestLessons 6 emI 57 flT (k53 w) 53 [none, none, none, none, none, none] [] w) : ∀ (n : Nat) (x3 : Int32) (x4 : Int32) (w : Mem), GE l X mm_X5_fewestLessons 6 emI 57 flT ((h_X5_fewestLessons_5 x1 x2 k53 n) x3 x4 w) 5 [some (.inr (.inr (some (5, 0)))), some (.inl x1), some (.inl x2), some (.inl x3), some (.inl x4), none] [] w := by
  intro n
  induction n with
  | zero => intro x3 x4 w; exact GE_none
  | succ n ih =>
    intro x3 x4 w
    unfold h_X5_fewestLessons_5
    refine GE_run flG_T (pc1 := 8) (L1 := [some (.inr (.inr (some (5, 0)))), some (.inl x1), some (.inl x2), some (.inl x3), some (.inl x4), none]) (S1 := [.inl 3, .inl x4]) (w1 := w) (P := True) [(.iload 4, 0, 0, 0, 0), (.iconst 3, 0, 0, 3, 0)] (by decide +kernel) rfl trivial ?_
    refine GE_icmpN (k := .gt) (off := 45) (tgt := 53) (by decide +kernel) (by decide) (cnd_gt _ _) (fun c1 => ?_) (fun c1 => ?_)
    · exact GE_weak [false, false, false, false, false, false] (hk53 w)
    · refine GE_run flG_T (pc1 := 14) (L1 := [some (.inr (.inr (some (5, 0)))), some (.inl x1), some (.inl x2), some (.inl x3), some (.inl x4), some (.inl 0)]) (S1 := []) (w1 := w) (P := True) [(.iconst 0, 0, 0, 0, 0), (.istore 5, 0, 0, 0, 0)] (by decide +kernel) rfl trivial ?_
      refine GE_weak [true, true, true, true, true, true] (h_X5_fewestLessons_14_ok l X x1 x2 x3 x4 _ ?_ FU 0 w)
      · intro w5
        refine GE_run flG_T (pc1 := 5) (L1 := [some (.inr (.inr (some (5, 0)))), some (.inl x1), some (.inl x2), some (.inl (x3 * 36)), some (.inl (x4 + 1)), none]) (S1 := []) (w1 := w5) (P := True) [(.iload_n 3, 0, 0, 0, 0), (.bipush 36, 0, 0, 36, 0), (.imul, 0, 0, 0, 0), (.istore_n 3, 0, 0, 0, 0), (.iinc 4 1, 0, 0, 1, 0), (.goto (-45), 0, 0, 0, 0)] (by decide +kernel) rfl trivial ?_
        exact GE_weak [true, true, true, true, true, false] (ih (x3 * 36) (x4 + 1) w5)
noncomputable def f_X5_fewestLessons (a1 : Int32) (a2 : Int32) (w : Mem) : Option (Int32 × Mem) := h_X5_fewestLessons_5 a1 a2 (fun w6 => some ((-1), w6)) FU 1 0 w
set_option maxRecDepth 100000 in
theorem t_X5_fewestLessons (l : Launch) (X : XC)  (a1 : Int32) (a2 : Int32) (w : Mem) : Ct l X 6 yX5_fewestLessons cX5_fewestLessons 6 (some .int) emI [.inr (.inr (some (5, 0))), .inl a1, .inl a2] 57 flT w (f_X5_fewestLessons a1 a2 w) := by
  refine Ct_of (mi := mm_X5_fewestLessons) (mik_X5 _ _ _) me_X5_fewestLessons rfl (okAs_cons (by decide) (okAs_cons rfl (okAs_cons rfl okAs_nil))) (Nat.le_of_ble_eq_true rfl) ?_
  unfold f_X5_fewestLessons
  refine GE_run flG_T (pc1 := 5) (L1 := [some (.inr (.inr (some (5, 0)))), some (.inl a1), some (.inl a2), some (.inl 1), some (.inl 0), none]) (S1 := []) (w1 := w) (P := True) [(.iconst 1, 0, 0, 1, 0), (.istore_n 3, 0, 0, 0, 0), (.iconst 0, 0, 0, 0, 0), (.istore 4, 0, 0, 0, 0)] (by decide +kernel) rfl trivial ?_
  refine GE_weak [true, true, true, true, true, false] (h_X5_fewestLessons_5_ok l X a1 a2 _ ?_ FU 1 0 w)
  · intro w6
    refine GE_run flG_T (pc1 := 54) (L1 := [none, none, none, none, none, none]) (S1 := [.inl (-1)]) (w1 := w6) (P := True) [(.iconst (-1), 0, 0, -1, 0)] (by decide +kernel) rfl trivial ?_
    exact GE_iret rfl (by decide +kernel)
abbrev mm_X5_lessons : MI := (RX5, cX5_lessons, 5, (some .int), ftp_X5.map (fun q => q.1), ctp_X5.map (fun q => q.1), clp_X5.map (fun q => q.1))
noncomputable def f_X5_lessons (a1 : Int32) (a2 : Int32) (a3 : Int32) (w : Mem) : Option (Int32 × Mem) := if (rng a1 0 (w 5 0 0 - 1)) = 0 then (some ((-5), w)) else (if (rng a2 0 15) = 0 then (some ((-7), w)) else (if (rng a3 0 1) = 0 then (some ((-7), w)) else (Option.bind (f_X5_fewestLessons a1 a2 w) (fun r4 => if a3 = 0 then (some (r4.1, r4.2)) else (if r4.1 = (-1) then (some (r4.1, r4.2)) else (some (r4.2 5 0 32, r4.2)))))))
set_option maxRecDepth 100000 in
theorem t_X5_lessons (l : Launch) (X : XC)  (a1 : Int32) (a2 : Int32) (a3 : Int32) (w : Mem) : Ct l X 7 yX5_lessons cX5_lessons 5 (some .int) emI [.inr (.inr (some (5, 0))), .inl a1, .inl a2, .inl a3] 57 flT w (f_X5_lessons a1 a2 a3 w) := by
  refine Ct_of (mi := mm_X5_lessons) (mik_X5 _ _ _) me_X5_lessons rfl (okAs_cons (by decide) (okAs_cons rfl (okAs_cons rfl (okAs_cons rfl okAs_nil)))) (Nat.le_of_ble_eq_true rfl) ?_
  unfold f_X5_lessons
  refine GE_run flG_T (pc1 := 2) (L1 := [some (.inr (.inr (some (5, 0)))), some (.inl a1), some (.inl a2), some (.inl a3), none]) (S1 := [.inl a1, .inr (.inr (some (5, 0)))]) (w1 := w) (P := True) [(.aload_n 0, 0, 0, 0, 0), (.iload_n 1, 0, 0, 0, 0)] (by decide +kernel) rfl trivial ?_
  refine GE_callVIp (As := [.inl a1]) (k := 5) (i := 0) (S := []) (p_X5_isOne l X a1 w) (by decide) ⟨me_X5_isOne, mi_X5_isOne, mv_X5_isOne, lk_X5_162⟩ rfl (by decide +kernel) rfl (by decide) (by decide) (Nat.le_of_ble_eq_true rfl) ?_
  refine GE_ifN (k := .ne) (off := 6) (tgt := 11) (by decide +kernel) (by decide) (cnd_ne _ _) (fun c1 => ?_) (fun c1 => ?_)
  · refine GE_run flG_T (pc1 := 12) (L1 := [some (.inr (.inr (some (5, 0)))), some (.inl a1), some (.inl a2), some (.inl a3), none]) (S1 := [.inl a2]) (w1 := w) (P := True) [(.iload_n 2, 0, 0, 0, 0)] (by decide +kernel) rfl trivial ?_
    refine GE_callSIp (As := [.inl a2]) (S := []) (p_X5_isThing l X a2 w) ⟨me_X5_isThing, ms_X5_isThing, lk_X5_165⟩ (by decide +kernel) rfl (by decide) (by decide) (Nat.le_of_ble_eq_true rfl) ?_
    refine GE_if (k := .eq) (off := 12) (tgt := 27) (by decide +kernel) (by decide) (cnd_eq _ _) (fun c2 => ?_) (fun c2 => ?_)
    · refine GE_run flG_T (pc1 := 29) (L1 := [some (.inr (.inr (some (5, 0)))), some (.inl a1), some (.inl a2), some (.inl a3), none]) (S1 := [.inl (-7)]) (w1 := w) (P := True) [(.bipush (-7), 0, 0, -7, 0)] (by decide +kernel) rfl trivial ?_
      exact GE_iret rfl (by decide +kernel)
    · refine GE_run flG_T (pc1 := 21) (L1 := [some (.inr (.inr (some (5, 0)))), some (.inl a1), some (.inl a2), some (.inl a3), none]) (S1 := [.inl 1, .inl 0, .inl a3]) (w1 := w) (P := True) [(.iload_n 3, 0, 0, 0, 0), (.iconst 0, 0, 0, 0, 0), (.iconst 1, 0, 0, 1, 0)] (by decide +kernel) rfl trivial ?_
      refine GE_callSIp (As := [.inl a3, .inl 0, .inl 1]) (S := []) (p_X5_in l X a3 0 1 w) ⟨me_X5_in, ms_X5_in, lk_X5_72⟩ (by decide +kernel) rfl (by decide) (by decide) (Nat.le_of_ble_eq_true rfl) ?_
      refine GE_ifN (k := .ne) (off := 6) (tgt := 30) (by decide +kernel) (by decide) (cnd_ne _ _) (fun c3 => ?_) (fun c3 => ?_)
      · refine GE_run flG_T (pc1 := 33) (L1 := [some (.inr (.inr (some (5, 0)))), some (.inl a1), some (.inl a2), some (.inl a3), none]) (S1 := [.inl a2, .inl a1, .inr (.inr (some (5, 0)))]) (w1 := w) (P := True) [(.aload_n 0, 0, 0, 0, 0), (.iload_n 1, 0, 0, 0, 0), (.iload_n 2, 0, 0, 0, 0)] (by decide +kernel) rfl trivial ?_
        refine GE_callVI (As := [.inl a1, .inl a2]) (k := 5) (i := 0) (S := []) (t_X5_fewestLessons l X a1 a2 w) (by decide) ⟨me_X5_fewestLessons, mi_X5_fewestLessons, mv_X5_fewestLessons, lk_X5_218⟩ rfl (by decide +kernel) rfl (by decide) (by decide) (Nat.le_of_ble_eq_true rfl) (fun r4 _ => ?_)
        refine GE_run flG_T (pc1 := 39) (L1 := [some (.inr (.inr (some (5, 0)))), some (.inl a1), some (.inl a2), some (.inl a3), some (.inl r4.1)]) (S1 := [.inl a3]) (w1 := r4.2) (P := True) [(.istore 4, 0, 0, 0, 0), (.iload_n 3, 0, 0, 0, 0)] (by decide +kernel) rfl trivial ?_
        refine GE_if (k := .eq) (off := 9) (tgt := 48) (by decide +kernel) (by decide) (cnd_eq _ _) (fun c5 => ?_) (fun c5 => ?_)
        · refine GE_run flG_T (pc1 := 57) (L1 := [some (.inr (.inr (some (5, 0)))), some (.inl a1), some (.inl a2), some (.inl a3), some (.inl r4.1)]) (S1 := [.inl r4.1]) (w1 := r4.2) (P := True) [(.iload 4, 0, 0, 0, 0), (.goto 7, 0, 0, 0, 0)] (by decide +kernel) rfl trivial ?_
          exact GE_iret rfl (by decide +kernel)
        · refine GE_run flG_T (pc1 := 45) (L1 := [some (.inr (.inr (some (5, 0)))), some (.inl a1), some (.inl a2), some (.inl a3), some (.inl r4.1)]) (S1 := [.inl (-1), .inl r4.1]) (w1 := r4.2) (P := True) [(.iload 4, 0, 0, 0, 0), (.iconst (-1), 0, 0, -1, 0)] (by decide +kernel) rfl trivial ?_
          refine GE_icmpN (k := .ne) (off := 8) (tgt := 53) (by decide +kernel) (by decide) (cnd_ne _ _) (fun c6 => ?_) (fun c6 => ?_)
          · refine GE_run flG_T (pc1 := 57) (L1 := [some (.inr (.inr (some (5, 0)))), some (.inl a1), some (.inl a2), some (.inl a3), some (.inl r4.1)]) (S1 := [.inl (r4.2 5 0 32)]) (w1 := r4.2) (P := True) [(.aload_n 0, 0, 0, 0, 0), (.getfield 211, 5, 32, 0, 0)] (by decide +kernel) rfl trivial ?_
            exact GE_iret rfl (by decide +kernel)
          · refine GE_run flG_T (pc1 := 57) (L1 := [some (.inr (.inr (some (5, 0)))), some (.inl a1), some (.inl a2), some (.inl a3), some (.inl r4.1)]) (S1 := [.inl r4.1]) (w1 := r4.2) (P := True) [(.iload 4, 0, 0, 0, 0), (.goto 7, 0, 0, 0, 0)] (by decide +kernel) rfl trivial ?_
            exact GE_iret rfl (by decide +kernel)
      · refine GE_run flG_T (pc1 := 29) (L1 := [some (.inr (.inr (some (5, 0)))), some (.inl a1), some (.inl a2), some (.inl a3), none]) (S1 := [.inl (-7)]) (w1 := w) (P := True) [(.bipush (-7), 0, 0, -7, 0)] (by decide +kernel) rfl trivial ?_
        exact GE_iret rfl (by decide +kernel)
  · refine GE_run flG_T (pc1 := 10) (L1 := [some (.inr (.inr (some (5, 0)))), some (.inl a1), some (.inl a2), some (.inl a3), none]) (S1 := [.inl (-5)]) (w1 := w) (P := True) [(.bipush (-5), 0, 0, -5, 0)] (by decide +kernel) rfl trivial ?_
    exact GE_iret rfl (by decide +kernel)
abbrev mm_X5_isNow : MI := (RX5, cX5_isNow, 3, (some .boolean), ftp_X5.map (fun q => q.1), ctp_X5.map (fun q => q.1), clp_X5.map (fun q => q.1))
noncomputable def h_X5_isNow_20 (x1 : Int32) (k52 : Mem → Option (Int32 × Mem)) : Nat → Int32 → Mem → Option (Int32 × Mem)
  | 0, _, _ => none
  | n + 1, x2, w => if x2 < (w 5 0 0) then (if inB (3 * x2) 18 then (if ((shrI (w 22 0 (tn (3 * x2))) x1) &&& 1) = 1 then (some (1, w)) else ((h_X5_isNow_20 x1 k52 n) (x2 + 1) w)) else none) else (k52 w)
set_option maxRecDepth 100000 in
theorem h_X5_isNow_20_ok (l : Launch) (X : XC) (x1 : Int32) (k52 : Mem → Option (Int32 × Mem))  (hk52 : ∀  (w : Mem), GE l X mm_X5_isNow 0 emI 57 flT (k52 w) 52 [none, none, none] [] w) : ∀ (n : Nat) (x2 : Int32) (w : Mem), GE l X mm_X5_isNow 0 emI 57 flT ((h_X5_isNow_20 x1 k52 n) x2 w) 20 [some (.inr (.inr (some (5, 0)))), some (.inl x1), some (.inl x2)] [] w := by
  intro n
  induction n with
  | zero => intro x2 w; exact GE_none
  | succ n ih =>
    intro x2 w
    unfold h_X5_isNow_20
    refine GE_run flG_T (pc1 := 25) (L1 := [some (.inr (.inr (some (5, 0)))), some (.inl x1), some (.inl x2)]) (S1 := [.inl (w 5 0 0), .inl x2]) (w1 := w) (P := True) [(.iload_n 2, 0, 0, 0, 0), (.aload_n 0, 0, 0, 0, 0), (.getfield 69, 5, 0, 0, 0)] (by decide +kernel) rfl trivial ?_
    refine GE_icmpN (k := .ge) (off := 27) (tgt := 52) (by decide +kernel) (by decide) (cnd_ge _ _) (fun c3 => ?_) (fun c3 => ?_)
    · exact GE_weak [false, false, false] (hk52 w)
    · refine GE_chk (fun h4 => ?_)
      refine GE_run flG_T (pc1 := 41) (L1 := [some (.inr (.inr (some (5, 0)))), some (.inl x1), some (.inl x2)]) (S1 := [.inl 1, .inl ((shrI (w 22 0 (tn (3 * x2))) x1) &&& 1)]) (w1 := w) (P := (inB (3 * x2) 18) ∧ True) [(.aload_n 0, 0, 0, 0, 0), (.getfield 16, 5, 3, 0, 0), (.iconst 3, 0, 0, 3, 0), (.iload_n 2, 0, 0, 0, 0), (.imul, 0, 0, 0, 0), (.iaload, 0, 0, 0, 0), (.iload_n 1, 0, 0, 0, 0), (.ishr, 0, 0, 0, 0), (.iconst 1, 0, 0, 1, 0), (.iand, 0, 0, 0, 0), (.iconst 1, 0, 0, 1, 0)] (by decide +kernel) rfl ⟨h4, trivial⟩ ?_
      refine GE_icmpN (k := .ne) (off := 5) (tgt := 46) (by decide +kernel) (by decide) (cnd_ne _ _) (fun c5 => ?_) (fun c5 => ?_)
      · refine GE_run flG_T (pc1 := 20) (L1 := [some (.inr (.inr (some (5, 0)))), some (.inl x1), some (.inl (x2 + 1))]) (S1 := []) (w1 := w) (P := True) [(.iinc 2 1, 0, 0, 1, 0), (.goto (-29), 0, 0, 0, 0)] (by decide +kernel) rfl trivial ?_
        exact GE_weak [true, true, true] (ih (x2 + 1) w)
      · refine GE_run flG_T (pc1 := 45) (L1 := [some (.inr (.inr (some (5, 0)))), some (.inl x1), some (.inl x2)]) (S1 := [.inl 1]) (w1 := w) (P := True) [(.iconst 1, 0, 0, 1, 0)] (by decide +kernel) rfl trivial ?_
        exact GE_zret (ty := .boolean) rfl (by decide +kernel) (by decide +kernel)
noncomputable def f_X5_isNow (a1 : Int32) (w : Mem) : Option (Int32 × Mem) := if a1 = (-1) then (if (w 5 0 4) = 0 then (some (1, w)) else (some (0, w))) else (h_X5_isNow_20 a1 (fun w6 => some (0, w6)) FU 0 w)
set_option maxRecDepth 100000 in
theorem t_X5_isNow (l : Launch) (X : XC)  (a1 : Int32) (w : Mem) : Ct l X 0 yX5_isNow cX5_isNow 3 (some .boolean) emI [.inr (.inr (some (5, 0))), .inl a1] 57 flT w (f_X5_isNow a1 w) := by
  refine Ct_of (mi := mm_X5_isNow) (mik_X5 _ _ _) me_X5_isNow rfl (okAs_cons (by decide) (okAs_cons rfl okAs_nil)) (Nat.le_of_ble_eq_true rfl) ?_
  unfold f_X5_isNow
  refine GE_run flG_T (pc1 := 2) (L1 := [some (.inr (.inr (some (5, 0)))), some (.inl a1), none]) (S1 := [.inl (-1), .inl a1]) (w1 := w) (P := True) [(.iload_n 1, 0, 0, 0, 0), (.iconst (-1), 0, 0, -1, 0)] (by decide +kernel) rfl trivial ?_
  refine GE_icmpN (k := .ne) (off := 16) (tgt := 18) (by decide +kernel) (by decide) (cnd_ne _ _) (fun c1 => ?_) (fun c1 => ?_)
  · refine GE_run flG_T (pc1 := 20) (L1 := [some (.inr (.inr (some (5, 0)))), some (.inl a1), some (.inl 0)]) (S1 := []) (w1 := w) (P := True) [(.iconst 0, 0, 0, 0, 0), (.istore_n 2, 0, 0, 0, 0)] (by decide +kernel) rfl trivial ?_
    refine GE_weak [true, true, true] (h_X5_isNow_20_ok l X a1 _ ?_ FU 0 w)
    · intro w6
      refine GE_run flG_T (pc1 := 53) (L1 := [none, none, none]) (S1 := [.inl 0]) (w1 := w6) (P := True) [(.iconst 0, 0, 0, 0, 0)] (by decide +kernel) rfl trivial ?_
      exact GE_zret (ty := .boolean) rfl (by decide +kernel) (by decide +kernel)
  · refine GE_run flG_T (pc1 := 9) (L1 := [some (.inr (.inr (some (5, 0)))), some (.inl a1), none]) (S1 := [.inl (w 5 0 4)]) (w1 := w) (P := True) [(.aload_n 0, 0, 0, 0, 0), (.getfield 76, 5, 4, 0, 0)] (by decide +kernel) rfl trivial ?_
    refine GE_ifN (k := .ne) (off := 7) (tgt := 16) (by decide +kernel) (by decide) (cnd_ne _ _) (fun c2 => ?_) (fun c2 => ?_)
    · refine GE_run flG_T (pc1 := 17) (L1 := [some (.inr (.inr (some (5, 0)))), some (.inl a1), none]) (S1 := [.inl 0]) (w1 := w) (P := True) [(.iconst 0, 0, 0, 0, 0)] (by decide +kernel) rfl trivial ?_
      exact GE_zret (ty := .boolean) rfl (by decide +kernel) (by decide +kernel)
    · refine GE_run flG_T (pc1 := 17) (L1 := [some (.inr (.inr (some (5, 0)))), some (.inl a1), none]) (S1 := [.inl 1]) (w1 := w) (P := True) [(.iconst 1, 0, 0, 1, 0), (.goto 4, 0, 0, 0, 0)] (by decide +kernel) rfl trivial ?_
      exact GE_zret (ty := .boolean) rfl (by decide +kernel) (by decide +kernel)
abbrev mm_X5_when : MI := (RX5, cX5_when, 4, (some .int), ftp_X5.map (fun q => q.1), ctp_X5.map (fun q => q.1), clp_X5.map (fun q => q.1))
noncomputable def j_X5_when_45  (kl21 : Int32 → Int32 → Mem → Option (Int32 × Mem)) (x1 : Int32) (x3 : Int32) (s0 : Int32) (w : Mem) : Option (Int32 × Mem) := Option.bind (f_X5_tideOf w) (fun r7 => kl21 s0 (x3 + 1) r7.2)
set_option maxRecDepth 100000 in
theorem j_X5_when_45_ok (l : Launch) (X : XC)  (kl21 : Int32 → Int32 → Mem → Option (Int32 × Mem)) (x1 : Int32) (x3 : Int32) (s0 : Int32)  (ih : ∀ (x2 : Int32) (x3 : Int32) (w : Mem), GE l X mm_X5_when 2 emI 57 flT (kl21 x2 x3 w) 21 [some (.inr (.inr (some (5, 0)))), some (.inl x1), some (.inl x2), some (.inl x3)] [] w) (w : Mem) : GE l X mm_X5_when 2 emI 57 flT (j_X5_when_45 kl21 x1 x3 s0 w) 45 [some (.inr (.inr (some (5, 0)))), some (.inl x1), none, some (.inl x3)] [.inl s0] w := by
  unfold j_X5_when_45
  refine GE_run flG_T (pc1 := 47) (L1 := [some (.inr (.inr (some (5, 0)))), some (.inl x1), some (.inl s0), some (.inl x3)]) (S1 := [.inr (.inr (some (5, 0)))]) (w1 := w) (P := True) [(.istore_n 2, 0, 0, 0, 0), (.aload_n 0, 0, 0, 0, 0)] (by decide +kernel) rfl trivial ?_
  refine GE_callVI (As := []) (k := 5) (i := 0) (S := []) (t_X5_tideOf l X w) (by decide) ⟨me_X5_tideOf, mi_X5_tideOf, mv_X5_tideOf, lk_X5_189⟩ rfl (by decide +kernel) rfl (by decide) (by decide) (Nat.le_of_ble_eq_true rfl) (fun r7 _ => ?_)
  refine GE_run flG_T (pc1 := 21) (L1 := [some (.inr (.inr (some (5, 0)))), some (.inl x1), some (.inl s0), some (.inl (x3 + 1))]) (S1 := []) (w1 := r7.2) (P := True) [(.pop, 0, 0, 0, 0), (.iinc 3 1, 0, 0, 1, 0), (.goto (-33), 0, 0, 0, 0)] (by decide +kernel) rfl trivial ?_
  exact GE_weak [true, true, true, true] (ih s0 (x3 + 1) r7.2)
noncomputable def h_X5_when_21 (x1 : Int32) (k57 : Int32 → Mem → Option (Int32 × Mem)) : Nat → Int32 → Int32 → Mem → Option (Int32 × Mem)
  | 0, _, _, _ => none
  | n + 1, x2, x3, w => if x3 ≤ 60 then (if x2 = (-1) then (Option.bind (f_X5_isNow x1 w) (fun r5 => if r5.1 = 0 then (j_X5_when_45 (h_X5_when_21 x1 k57 n) x1 x3 (-1) r5.2) else (j_X5_when_45 (h_X5_when_21 x1 k57 n) x1 x3 x3 r5.2))) else (k57 x2 w)) else (k57 x2 w)
set_option maxRecDepth 100000 in
theorem h_X5_when_21_ok (l : Launch) (X : XC) (x1 : Int32) (k57 : Int32 → Mem → Option (Int32 × Mem))  (hk57 : ∀ (x2 : Int32) (w : Mem), GE l X mm_X5_when 2 emI 57 flT (k57 x2 w) 57 [some (.inr (.inr (some (5, 0)))), none, some (.inl x2), none] [] w) : ∀ (n : Nat) (x2 : Int32) (x3 : Int32) (w : Mem), GE l X mm_X5_when 2 emI 57 flT ((h_X5_when_21 x1 k57 n) x2 x3 w) 21 [some (.inr (.inr (some (5, 0)))), some (.inl x1), some (.inl x2), some (.inl x3)] [] w := by
  intro n
  induction n with
  | zero => intro x2 x3 w; exact GE_none
  | succ n ih =>
    intro x2 x3 w
    unfold h_X5_when_21
    refine GE_run flG_T (pc1 := 24) (L1 := [some (.inr (.inr (some (5, 0)))), some (.inl x1), some (.inl x2), some (.inl x3)]) (S1 := [.inl 60, .inl x3]) (w1 := w) (P := True) [(.iload_n 3, 0, 0, 0, 0), (.bipush 60, 0, 0, 60, 0)] (by decide +kernel) rfl trivial ?_
    refine GE_icmpN (k := .gt) (off := 33) (tgt := 57) (by decide +kernel) (by decide) (cnd_gt _ _) (fun c3 => ?_) (fun c3 => ?_)
    · exact GE_weak [true, false, true, false] (hk57 x2 w)
    · refine GE_run flG_T (pc1 := 29) (L1 := [some (.inr (.inr (some (5, 0)))), some (.inl x1), some (.inl x2), some (.inl x3)]) (S1 := [.inl (-1), .inl x2]) (w1 := w) (P := True) [(.iload_n 2, 0, 0, 0, 0), (.iconst (-1), 0, 0, -1, 0)] (by decide +kernel) rfl trivial ?_
      refine GE_icmpN (k := .ne) (off := 28) (tgt := 57) (by decide +kernel) (by decide) (cnd_ne _ _) (fun c4 => ?_) (fun c4 => ?_)
      · exact GE_weak [true, false, true, false] (hk57 x2 w)
      · refine GE_run flG_T (pc1 := 34) (L1 := [some (.inr (.inr (some (5, 0)))), some (.inl x1), some (.inl x2), some (.inl x3)]) (S1 := [.inl x1, .inr (.inr (some (5, 0)))]) (w1 := w) (P := True) [(.aload_n 0, 0, 0, 0, 0), (.iload_n 1, 0, 0, 0, 0)] (by decide +kernel) rfl trivial ?_
        refine GE_callVI (As := [.inl x1]) (k := 5) (i := 0) (S := []) (t_X5_isNow l X x1 w) (by decide) ⟨me_X5_isNow, mi_X5_isNow, mv_X5_isNow, lk_X5_221⟩ rfl (by decide +kernel) rfl (by decide) (by decide) (Nat.le_of_ble_eq_true rfl) (fun r5 _ => ?_)
        refine GE_if (k := .eq) (off := 7) (tgt := 44) (by decide +kernel) (by decide) (cnd_eq _ _) (fun c6 => ?_) (fun c6 => ?_)
        · refine GE_run flG_T (pc1 := 45) (L1 := [some (.inr (.inr (some (5, 0)))), some (.inl x1), some (.inl x2), some (.inl x3)]) (S1 := [.inl (-1)]) (w1 := r5.2) (P := True) [(.iconst (-1), 0, 0, -1, 0)] (by decide +kernel) rfl trivial ?_
          exact GE_weak [true, true, false, true] (j_X5_when_45_ok l X (h_X5_when_21 x1 k57 n) x1 x3 (-1) ih r5.2)
        · refine GE_run flG_T (pc1 := 45) (L1 := [some (.inr (.inr (some (5, 0)))), some (.inl x1), some (.inl x2), some (.inl x3)]) (S1 := [.inl x3]) (w1 := r5.2) (P := True) [(.iload_n 3, 0, 0, 0, 0), (.goto 4, 0, 0, 0, 0)] (by decide +kernel) rfl trivial ?_
          exact GE_weak [true, true, false, true] (j_X5_when_45_ok l X (h_X5_when_21 x1 k57 n) x1 x3 x3 ih r5.2)
noncomputable def f_X5_when (a1 : Int32) (w : Mem) : Option (Int32 × Mem) := if (rng a1 (-1) 15) = 0 then (some ((-2), w)) else (Option.bind (f_X5_keeps w) (fun r2 => h_X5_when_21 a1 (fun x2_8 w9 => Option.bind (f_X5_lays w9) (fun r10 => some (x2_8, r10))) FU (-1) 0 r2))
set_option maxRecDepth 100000 in
theorem t_X5_when (l : Launch) (X : XC)  (a1 : Int32) (w : Mem) : Ct l X 2 yX5_when cX5_when 4 (some .int) emI [.inr (.inr (some (5, 0))), .inl a1] 57 flT w (f_X5_when a1 w) := by
  refine Ct_of (mi := mm_X5_when) (mik_X5 _ _ _) me_X5_when rfl (okAs_cons (by decide) (okAs_cons rfl okAs_nil)) (Nat.le_of_ble_eq_true rfl) ?_
  unfold f_X5_when
  refine GE_run flG_T (pc1 := 4) (L1 := [some (.inr (.inr (some (5, 0)))), some (.inl a1), none, none]) (S1 := [.inl 15, .inl (-1), .inl a1]) (w1 := w) (P := True) [(.iload_n 1, 0, 0, 0, 0), (.iconst (-1), 0, 0, -1, 0), (.bipush 15, 0, 0, 15, 0)] (by decide +kernel) rfl trivial ?_
  refine GE_callSIp (As := [.inl a1, .inl (-1), .inl 15]) (S := []) (p_X5_in l X a1 (-1) 15 w) ⟨me_X5_in, ms_X5_in, lk_X5_72⟩ (by decide +kernel) rfl (by decide) (by decide) (Nat.le_of_ble_eq_true rfl) ?_
  refine GE_ifN (k := .ne) (off := 6) (tgt := 13) (by decide +kernel) (by decide) (cnd_ne _ _) (fun c1 => ?_) (fun c1 => ?_)
  · refine GE_run flG_T (pc1 := 16) (L1 := [some (.inr (.inr (some (5, 0)))), some (.inl a1), some (.inl (-1)), none]) (S1 := [.inr (.inr (some (5, 0)))]) (w1 := w) (P := True) [(.iconst (-1), 0, 0, -1, 0), (.istore_n 2, 0, 0, 0, 0), (.aload_n 0, 0, 0, 0, 0)] (by decide +kernel) rfl trivial ?_
    refine GE_callVV (As := []) (k := 5) (i := 0) (S := []) (t_X5_keeps l X w) (by decide) ⟨me_X5_keeps, mi_X5_keeps, mv_X5_keeps, lk_X5_201⟩ rfl (by decide +kernel) rfl (by decide) (by decide) (Nat.le_of_ble_eq_true rfl) (fun r2 _ => ?_)
    refine GE_run flG_T (pc1 := 21) (L1 := [some (.inr (.inr (some (5, 0)))), some (.inl a1), some (.inl (-1)), some (.inl 0)]) (S1 := []) (w1 := r2) (P := True) [(.iconst 0, 0, 0, 0, 0), (.istore_n 3, 0, 0, 0, 0)] (by decide +kernel) rfl trivial ?_
    refine GE_weak [true, true, true, true] (h_X5_when_21_ok l X a1 _ ?_ FU (-1) 0 r2)
    · intro x2_8 w9
      refine GE_run flG_T (pc1 := 58) (L1 := [some (.inr (.inr (some (5, 0)))), none, some (.inl x2_8), none]) (S1 := [.inr (.inr (some (5, 0)))]) (w1 := w9) (P := True) [(.aload_n 0, 0, 0, 0, 0)] (by decide +kernel) rfl trivial ?_
      refine GE_callVV (As := []) (k := 5) (i := 0) (S := []) (t_X5_lays l X w9) (by decide) ⟨me_X5_lays, mi_X5_lays, mv_X5_lays, lk_X5_208⟩ rfl (by decide +kernel) rfl (by decide) (by decide) (Nat.le_of_ble_eq_true rfl) (fun r10 _ => ?_)
      refine GE_run flG_T (pc1 := 62) (L1 := [some (.inr (.inr (some (5, 0)))), none, some (.inl x2_8), none]) (S1 := [.inl x2_8]) (w1 := r10) (P := True) [(.iload_n 2, 0, 0, 0, 0)] (by decide +kernel) rfl trivial ?_
      exact GE_iret rfl (by decide +kernel)
  · refine GE_run flG_T (pc1 := 12) (L1 := [some (.inr (.inr (some (5, 0)))), some (.inl a1), none, none]) (S1 := [.inl (-2)]) (w1 := w) (P := True) [(.bipush (-2), 0, 0, -2, 0)] (by decide +kernel) rfl trivial ?_
    exact GE_iret rfl (by decide +kernel)
abbrev mm_X5_lowest : MI := (RX5, cX5_lowest, 11, (some .long), ftp_X5.map (fun q => q.1), ctp_X5.map (fun q => q.1), clp_X5.map (fun q => q.1))
noncomputable def h_X5_lowest_16 (x0 : Int64) (x2 : Int64) (x4 : Int32) (k41 : Int64 → Mem → Option (Int64 × Mem)) : Nat → Int64 → Int64 → Mem → Option (Int64 × Mem)
  | 0, _, _, _ => none
  | n + 1, x5, x7, w => if (lg_cmp x7 0) = 0 then (k41 x5 w) else (if ¬ (x7 : Int64) = 0 then ((h_X5_lowest_16 x0 x2 x4 k41 n) x7 (rmL x5 x7) w) else none)
set_option maxRecDepth 100000 in
theorem h_X5_lowest_16_ok (l : Launch) (X : XC) (x0 : Int64) (x2 : Int64) (x4 : Int32) (k41 : Int64 → Mem → Option (Int64 × Mem))  (hk41 : ∀ (x5 : Int64) (w : Mem), GE l X mm_X5_lowest 0 emL 57 flT (k41 x5 w) 41 [some (.inr (.inl x0)), none, some (.inr (.inl x2)), none, some (.inl x4), some (.inr (.inl x5)), none, none, none, none, none] [] w) : ∀ (n : Nat) (x5 : Int64) (x7 : Int64) (w : Mem), GE l X mm_X5_lowest 0 emL 57 flT ((h_X5_lowest_16 x0 x2 x4 k41 n) x5 x7 w) 16 [some (.inr (.inl x0)), none, some (.inr (.inl x2)), none, some (.inl x4), some (.inr (.inl x5)), none, some (.inr (.inl x7)), none, none, none] [] w := by
  intro n
  induction n with
  | zero => intro x5 x7 w; exact GE_none
  | succ n ih =>
    intro x5 x7 w
    unfold h_X5_lowest_16
    refine GE_run flG_T (pc1 := 20) (L1 := [some (.inr (.inl x0)), none, some (.inr (.inl x2)), none, some (.inl x4), some (.inr (.inl x5)), none, some (.inr (.inl x7)), none, none, none]) (S1 := [.inl (lg_cmp x7 0)]) (w1 := w) (P := True) [(.lload 7, 0, 0, 0, 0), (.lconst 0, 0, 0, 0, 0), (.lcmp, 0, 0, 0, 0)] (by decide +kernel) rfl trivial ?_
    refine GE_if (k := .eq) (off := 21) (tgt := 41) (by decide +kernel) (by decide) (cnd_eq _ _) (fun c2 => ?_) (fun c2 => ?_)
    · exact GE_weak [true, false, true, false, true, true, false, false, false, false, false] (hk41 x5 w)
    · refine GE_chk (fun h3 => ?_)
      refine GE_run flG_T (pc1 := 16) (L1 := [some (.inr (.inl x0)), none, some (.inr (.inl x2)), none, some (.inl x4), some (.inr (.inl x7)), none, some (.inr (.inl (rmL x5 x7))), none, some (.inr (.inl (rmL x5 x7))), none]) (S1 := []) (w1 := w) (P := (¬ (x7 : Int64) = 0) ∧ True) [(.lload 5, 0, 0, 0, 0), (.lload 7, 0, 0, 0, 0), (.lrem, 0, 0, 0, 0), (.lstore 9, 0, 0, 0, 0), (.lload 7, 0, 0, 0, 0), (.lstore 5, 0, 0, 0, 0), (.lload 9, 0, 0, 0, 0), (.lstore 7, 0, 0, 0, 0), (.goto (-22), 0, 0, 0, 0)] (by decide +kernel) rfl ⟨h3, trivial⟩ ?_
      exact GE_weak [true, false, true, false, true, true, false, true, false, false, false] (ih x7 (rmL x5 x7) w)
noncomputable def f_X5_lowest (a1 : Int64) (a2 : Int64) (a3 : Int32) (w : Mem) : Option (Int64 × Mem) := if (lg_cmp a1 0) = 0 then (some (Int32.toInt64 a3, w)) else (h_X5_lowest_16 a1 a2 a3 (fun x5_4 w5 => if a3 = 0 then (if ¬ (x5_4 : Int64) = 0 then (some (a1 / x5_4, w5)) else none) else (if ¬ (x5_4 : Int64) = 0 then (some (a2 / x5_4, w5)) else none)) FU a1 a2 w)
set_option maxRecDepth 100000 in
theorem t_X5_lowest (l : Launch) (X : XC)  (a1 : Int64) (a2 : Int64) (a3 : Int32) (w : Mem) : Ct l X 0 yX5_lowest cX5_lowest 11 (some .long) emL [.inr (.inl a1), .inr (.inl a2), .inl a3] 57 flT w (f_X5_lowest a1 a2 a3 w) := by
  refine Ct_of (mi := mm_X5_lowest) (mik_X5 _ _ _) me_X5_lowest rfl (okAs_cons rfl (okAs_cons rfl (okAs_cons rfl okAs_nil))) (Nat.le_of_ble_eq_true rfl) ?_
  unfold f_X5_lowest
  refine GE_run flG_T (pc1 := 3) (L1 := [some (.inr (.inl a1)), none, some (.inr (.inl a2)), none, some (.inl a3), none, none, none, none, none, none]) (S1 := [.inl (lg_cmp a1 0)]) (w1 := w) (P := True) [(.lload_n 0, 0, 0, 0, 0), (.lconst 0, 0, 0, 0, 0), (.lcmp, 0, 0, 0, 0)] (by decide +kernel) rfl trivial ?_
  refine GE_ifN (k := .ne) (off := 7) (tgt := 10) (by decide +kernel) (by decide) (cnd_ne _ _) (fun c1 => ?_) (fun c1 => ?_)
  · refine GE_run flG_T (pc1 := 16) (L1 := [some (.inr (.inl a1)), none, some (.inr (.inl a2)), none, some (.inl a3), some (.inr (.inl a1)), none, some (.inr (.inl a2)), none, none, none]) (S1 := []) (w1 := w) (P := True) [(.lload_n 0, 0, 0, 0, 0), (.lstore 5, 0, 0, 0, 0), (.lload_n 2, 0, 0, 0, 0), (.lstore 7, 0, 0, 0, 0)] (by decide +kernel) rfl trivial ?_
    refine GE_weak [true, false, true, false, true, true, false, true, false, false, false] (h_X5_lowest_16_ok l X a1 a2 a3 _ ?_ FU a1 a2 w)
    · intro x5_4 w5
      refine GE_run flG_T (pc1 := 43) (L1 := [some (.inr (.inl a1)), none, some (.inr (.inl a2)), none, some (.inl a3), some (.inr (.inl x5_4)), none, none, none, none, none]) (S1 := [.inl a3]) (w1 := w5) (P := True) [(.iload 4, 0, 0, 0, 0)] (by decide +kernel) rfl trivial ?_
      refine GE_ifN (k := .ne) (off := 7) (tgt := 50) (by decide +kernel) (by decide) (cnd_ne _ _) (fun c6 => ?_) (fun c6 => ?_)
      · refine GE_chk (fun h8 => ?_)
        refine GE_run flG_T (pc1 := 54) (L1 := [some (.inr (.inl a1)), none, some (.inr (.inl a2)), none, some (.inl a3), some (.inr (.inl x5_4)), none, none, none, none, none]) (S1 := [.inr (.inl (a2 / x5_4))]) (w1 := w5) (P := (¬ (x5_4 : Int64) = 0) ∧ True) [(.lload_n 2, 0, 0, 0, 0), (.lload 5, 0, 0, 0, 0), (.ldiv, 0, 0, 0, 0)] (by decide +kernel) rfl ⟨h8, trivial⟩ ?_
        exact GE_lret rfl (by decide +kernel)
      · refine GE_chk (fun h7 => ?_)
        refine GE_run flG_T (pc1 := 54) (L1 := [some (.inr (.inl a1)), none, some (.inr (.inl a2)), none, some (.inl a3), some (.inr (.inl x5_4)), none, none, none, none, none]) (S1 := [.inr (.inl (a1 / x5_4))]) (w1 := w5) (P := (¬ (x5_4 : Int64) = 0) ∧ True) [(.lload_n 0, 0, 0, 0, 0), (.goto 4, 0, 0, 0, 0), (.lload 5, 0, 0, 0, 0), (.ldiv, 0, 0, 0, 0)] (by decide +kernel) rfl ⟨h7, trivial⟩ ?_
        exact GE_lret rfl (by decide +kernel)
  · refine GE_run flG_T (pc1 := 9) (L1 := [some (.inr (.inl a1)), none, some (.inr (.inl a2)), none, some (.inl a3), none, none, none, none, none, none]) (S1 := [.inr (.inl (Int32.toInt64 a3))]) (w1 := w) (P := True) [(.iload 4, 0, 0, 0, 0), (.i2l, 0, 0, 0, 0)] (by decide +kernel) rfl trivial ?_
    exact GE_lret rfl (by decide +kernel)
abbrev mm_X5_share : MI := (RX5, cX5_share, 3, (some .long), ftp_X5.map (fun q => q.1), ctp_X5.map (fun q => q.1), clp_X5.map (fun q => q.1))
noncomputable def f_X5_share (a1 : Int32) (a2 : Int32) (w : Mem) : Option (Int64 × Mem) := if (rng a1 0 (w 5 0 0 - 1)) = 0 then (some ((-4611686018427387904), w)) else (if (rng a2 0 1) = 0 then (some ((-4611686018427387904), w)) else (if inB ((3 * a1) + 1) 18 then (if (w 22 0 (tn ((3 * a1) + 1))) = 0 then (some ((-4611686018427387904), w)) else (if inB ((3 * a1) + 1) 18 then (if inB (3 * a1) 18 then (if inB ((3 * a1) + 1) 18 then (Option.bind (f_X5_lowest (Int32.toInt64 (bitsF ((w 22 0 (tn ((3 * a1) + 1))) &&& (w 22 0 (tn (3 * a1)))))) (Int32.toInt64 (bitsF (w 22 0 (tn ((3 * a1) + 1))))) a2 w) (fun r8 => some (r8.1, r8.2))) else none) else none) else none)) else none))
set_option maxRecDepth 100000 in
theorem t_X5_share (l : Launch) (X : XC)  (a1 : Int32) (a2 : Int32) (w : Mem) : Ct l X 2 yX5_share cX5_share 3 (some .long) emL [.inr (.inr (some (5, 0))), .inl a1, .inl a2] 57 flT w (f_X5_share a1 a2 w) := by
  refine Ct_of (mi := mm_X5_share) (mik_X5 _ _ _) me_X5_share rfl (okAs_cons (by decide) (okAs_cons rfl (okAs_cons rfl okAs_nil))) (Nat.le_of_ble_eq_true rfl) ?_
  unfold f_X5_share
  refine GE_run flG_T (pc1 := 2) (L1 := [some (.inr (.inr (some (5, 0)))), some (.inl a1), some (.inl a2)]) (S1 := [.inl a1, .inr (.inr (some (5, 0)))]) (w1 := w) (P := True) [(.aload_n 0, 0, 0, 0, 0), (.iload_n 1, 0, 0, 0, 0)] (by decide +kernel) rfl trivial ?_
  refine GE_callVIp (As := [.inl a1]) (k := 5) (i := 0) (S := []) (p_X5_isOne l X a1 w) (by decide) ⟨me_X5_isOne, mi_X5_isOne, mv_X5_isOne, lk_X5_162⟩ rfl (by decide +kernel) rfl (by decide) (by decide) (Nat.le_of_ble_eq_true rfl) ?_
  refine GE_if (k := .eq) (off := 25) (tgt := 30) (by decide +kernel) (by decide) (cnd_eq _ _) (fun c1 => ?_) (fun c1 => ?_)
  · refine GE_run flG_T (pc1 := 33) (L1 := [some (.inr (.inr (some (5, 0)))), some (.inl a1), some (.inl a2)]) (S1 := [.inr (.inl (-4611686018427387904))]) (w1 := w) (P := True) [(.ldc2_w 224, 0, 0, 0, -4611686018427387904)] (by decide +kernel) rfl trivial ?_
    exact GE_lret rfl (by decide +kernel)
  · refine GE_run flG_T (pc1 := 11) (L1 := [some (.inr (.inr (some (5, 0)))), some (.inl a1), some (.inl a2)]) (S1 := [.inl 1, .inl 0, .inl a2]) (w1 := w) (P := True) [(.iload_n 2, 0, 0, 0, 0), (.iconst 0, 0, 0, 0, 0), (.iconst 1, 0, 0, 1, 0)] (by decide +kernel) rfl trivial ?_
    refine GE_callSIp (As := [.inl a2, .inl 0, .inl 1]) (S := []) (p_X5_in l X a2 0 1 w) ⟨me_X5_in, ms_X5_in, lk_X5_72⟩ (by decide +kernel) rfl (by decide) (by decide) (Nat.le_of_ble_eq_true rfl) ?_
    refine GE_if (k := .eq) (off := 16) (tgt := 30) (by decide +kernel) (by decide) (cnd_eq _ _) (fun c2 => ?_) (fun c2 => ?_)
    · refine GE_run flG_T (pc1 := 33) (L1 := [some (.inr (.inr (some (5, 0)))), some (.inl a1), some (.inl a2)]) (S1 := [.inr (.inl (-4611686018427387904))]) (w1 := w) (P := True) [(.ldc2_w 224, 0, 0, 0, -4611686018427387904)] (by decide +kernel) rfl trivial ?_
      exact GE_lret rfl (by decide +kernel)
    · refine GE_chk (fun h3 => ?_)
      refine GE_run flG_T (pc1 := 27) (L1 := [some (.inr (.inr (some (5, 0)))), some (.inl a1), some (.inl a2)]) (S1 := [.inl (w 22 0 (tn ((3 * a1) + 1)))]) (w1 := w) (P := (inB ((3 * a1) + 1) 18) ∧ True) [(.aload_n 0, 0, 0, 0, 0), (.getfield 16, 5, 3, 0, 0), (.iconst 3, 0, 0, 3, 0), (.iload_n 1, 0, 0, 0, 0), (.imul, 0, 0, 0, 0), (.iconst 1, 0, 0, 1, 0), (.iadd, 0, 0, 0, 0), (.iaload, 0, 0, 0, 0)] (by decide +kernel) rfl ⟨h3, trivial⟩ ?_
      refine GE_ifN (k := .ne) (off := 7) (tgt := 34) (by decide +kernel) (by decide) (cnd_ne _ _) (fun c4 => ?_) (fun c4 => ?_)
      · refine GE_chk (fun h5 => ?_)
        refine GE_chk (fun h6 => ?_)
        refine GE_run flG_T (pc1 := 53) (L1 := [some (.inr (.inr (some (5, 0)))), some (.inl a1), some (.inl a2)]) (S1 := [.inl ((w 22 0 (tn ((3 * a1) + 1))) &&& (w 22 0 (tn (3 * a1))))]) (w1 := w) (P := (inB ((3 * a1) + 1) 18) ∧ (inB (3 * a1) 18) ∧ True) [(.aload_n 0, 0, 0, 0, 0), (.getfield 16, 5, 3, 0, 0), (.iconst 3, 0, 0, 3, 0), (.iload_n 1, 0, 0, 0, 0), (.imul, 0, 0, 0, 0), (.iconst 1, 0, 0, 1, 0), (.iadd, 0, 0, 0, 0), (.iaload, 0, 0, 0, 0), (.aload_n 0, 0, 0, 0, 0), (.getfield 16, 5, 3, 0, 0), (.iconst 3, 0, 0, 3, 0), (.iload_n 1, 0, 0, 0, 0), (.imul, 0, 0, 0, 0), (.iaload, 0, 0, 0, 0), (.iand, 0, 0, 0, 0)] (by decide +kernel) rfl ⟨h5, h6, trivial⟩ ?_
        refine GE_callSIp (As := [.inl ((w 22 0 (tn ((3 * a1) + 1))) &&& (w 22 0 (tn (3 * a1))))]) (S := []) (p_X5_bitsOf l X ((w 22 0 (tn ((3 * a1) + 1))) &&& (w 22 0 (tn (3 * a1)))) w) ⟨me_X5_bitsOf, ms_X5_bitsOf, lk_X5_79⟩ (by decide +kernel) rfl (by decide) (by decide) (Nat.le_of_ble_eq_true rfl) ?_
        refine GE_chk (fun h7 => ?_)
        refine GE_run flG_T (pc1 := 67) (L1 := [some (.inr (.inr (some (5, 0)))), some (.inl a1), some (.inl a2)]) (S1 := [.inl (w 22 0 (tn ((3 * a1) + 1))), .inr (.inl (Int32.toInt64 (bitsF ((w 22 0 (tn ((3 * a1) + 1))) &&& (w 22 0 (tn (3 * a1)))))))]) (w1 := w) (P := (inB ((3 * a1) + 1) 18) ∧ True) [(.i2l, 0, 0, 0, 0), (.aload_n 0, 0, 0, 0, 0), (.getfield 16, 5, 3, 0, 0), (.iconst 3, 0, 0, 3, 0), (.iload_n 1, 0, 0, 0, 0), (.imul, 0, 0, 0, 0), (.iconst 1, 0, 0, 1, 0), (.iadd, 0, 0, 0, 0), (.iaload, 0, 0, 0, 0)] (by decide +kernel) rfl ⟨h7, trivial⟩ ?_
        refine GE_callSIp (As := [.inl (w 22 0 (tn ((3 * a1) + 1)))]) (S := [.inr (.inl (Int32.toInt64 (bitsF ((w 22 0 (tn ((3 * a1) + 1))) &&& (w 22 0 (tn (3 * a1)))))))]) (p_X5_bitsOf l X (w 22 0 (tn ((3 * a1) + 1))) w) ⟨me_X5_bitsOf, ms_X5_bitsOf, lk_X5_79⟩ (by decide +kernel) rfl (by decide) (by decide) (Nat.le_of_ble_eq_true rfl) ?_
        refine GE_run flG_T (pc1 := 72) (L1 := [some (.inr (.inr (some (5, 0)))), some (.inl a1), some (.inl a2)]) (S1 := [.inl a2, .inr (.inl (Int32.toInt64 (bitsF (w 22 0 (tn ((3 * a1) + 1)))))), .inr (.inl (Int32.toInt64 (bitsF ((w 22 0 (tn ((3 * a1) + 1))) &&& (w 22 0 (tn (3 * a1)))))))]) (w1 := w) (P := True) [(.i2l, 0, 0, 0, 0), (.iload_n 2, 0, 0, 0, 0)] (by decide +kernel) rfl trivial ?_
        refine GE_callSL (As := [.inr (.inl (Int32.toInt64 (bitsF ((w 22 0 (tn ((3 * a1) + 1))) &&& (w 22 0 (tn (3 * a1))))))), .inr (.inl (Int32.toInt64 (bitsF (w 22 0 (tn ((3 * a1) + 1)))))), .inl a2]) (S := []) (t_X5_lowest l X (Int32.toInt64 (bitsF ((w 22 0 (tn ((3 * a1) + 1))) &&& (w 22 0 (tn (3 * a1)))))) (Int32.toInt64 (bitsF (w 22 0 (tn ((3 * a1) + 1))))) a2 w) ⟨me_X5_lowest, ms_X5_lowest, lk_X5_226⟩ (by decide +kernel) rfl (by decide) (by decide) (Nat.le_of_ble_eq_true rfl) (fun r8 _ => ?_)
        exact GE_lret rfl (by decide +kernel)
      · refine GE_run flG_T (pc1 := 33) (L1 := [some (.inr (.inr (some (5, 0)))), some (.inl a1), some (.inl a2)]) (S1 := [.inr (.inl (-4611686018427387904))]) (w1 := w) (P := True) [(.ldc2_w 224, 0, 0, 0, -4611686018427387904)] (by decide +kernel) rfl trivial ?_
        exact GE_lret rfl (by decide +kernel)
abbrev mm_X5_twoWrong : MI := (RX5, cX5_twoWrong, 4, (some .int), ftp_X5.map (fun q => q.1), ctp_X5.map (fun q => q.1), clp_X5.map (fun q => q.1))
noncomputable def f_X5_twoWrong (a1 : Int32) (a2 : Int32) (w : Mem) : Option (Int32 × Mem) := if (rng a2 0 3) = 0 then (some ((-2), w)) else (Option.bind (f_X5_seasonWrong a1 w) (fun r2 => if r2.1 = 0 then (if inB a2 4 then (if (r2.2 28 0 (tn a2)) = (-1) then (some ((-11), r2.2)) else (if inB a2 4 then (if inB a1 4 then (if (r2.2 29 0 (tn a2)) ≤ (r2.2 29 0 (tn a1)) then (some (0, r2.2)) else (some ((-2), r2.2))) else none) else none)) else none) else (some (r2.1, r2.2))))
set_option maxRecDepth 100000 in
theorem t_X5_twoWrong (l : Launch) (X : XC)  (a1 : Int32) (a2 : Int32) (w : Mem) : Ct l X 3 yX5_twoWrong cX5_twoWrong 4 (some .int) emI [.inr (.inr (some (5, 0))), .inl a1, .inl a2] 57 flT w (f_X5_twoWrong a1 a2 w) := by
  refine Ct_of (mi := mm_X5_twoWrong) (mik_X5 _ _ _) me_X5_twoWrong rfl (okAs_cons (by decide) (okAs_cons rfl (okAs_cons rfl okAs_nil))) (Nat.le_of_ble_eq_true rfl) ?_
  unfold f_X5_twoWrong
  refine GE_run flG_T (pc1 := 3) (L1 := [some (.inr (.inr (some (5, 0)))), some (.inl a1), some (.inl a2), none]) (S1 := [.inl 3, .inl 0, .inl a2]) (w1 := w) (P := True) [(.iload_n 2, 0, 0, 0, 0), (.iconst 0, 0, 0, 0, 0), (.iconst 3, 0, 0, 3, 0)] (by decide +kernel) rfl trivial ?_
  refine GE_callSIp (As := [.inl a2, .inl 0, .inl 3]) (S := []) (p_X5_in l X a2 0 3 w) ⟨me_X5_in, ms_X5_in, lk_X5_72⟩ (by decide +kernel) rfl (by decide) (by decide) (Nat.le_of_ble_eq_true rfl) ?_
  refine GE_ifN (k := .ne) (off := 6) (tgt := 12) (by decide +kernel) (by decide) (cnd_ne _ _) (fun c1 => ?_) (fun c1 => ?_)
  · refine GE_run flG_T (pc1 := 14) (L1 := [some (.inr (.inr (some (5, 0)))), some (.inl a1), some (.inl a2), none]) (S1 := [.inl a1, .inr (.inr (some (5, 0)))]) (w1 := w) (P := True) [(.aload_n 0, 0, 0, 0, 0), (.iload_n 1, 0, 0, 0, 0)] (by decide +kernel) rfl trivial ?_
    refine GE_callVI (As := [.inl a1]) (k := 5) (i := 0) (S := []) (t_X5_seasonWrong l X a1 w) (by decide) ⟨me_X5_seasonWrong, mi_X5_seasonWrong, mv_X5_seasonWrong, lk_X5_192⟩ rfl (by decide +kernel) rfl (by decide) (by decide) (Nat.le_of_ble_eq_true rfl) (fun r2 _ => ?_)
    refine GE_run flG_T (pc1 := 19) (L1 := [some (.inr (.inr (some (5, 0)))), some (.inl a1), some (.inl a2), some (.inl r2.1)]) (S1 := [.inl r2.1]) (w1 := r2.2) (P := True) [(.istore_n 3, 0, 0, 0, 0), (.iload_n 3, 0, 0, 0, 0)] (by decide +kernel) rfl trivial ?_
    refine GE_if (k := .eq) (off := 5) (tgt := 24) (by decide +kernel) (by decide) (cnd_eq _ _) (fun c3 => ?_) (fun c3 => ?_)
    · refine GE_chk (fun h4 => ?_)
      refine GE_run flG_T (pc1 := 31) (L1 := [some (.inr (.inr (some (5, 0)))), some (.inl a1), some (.inl a2), some (.inl r2.1)]) (S1 := [.inl (-1), .inl (r2.2 28 0 (tn a2))]) (w1 := r2.2) (P := (inB a2 4) ∧ True) [(.aload_n 0, 0, 0, 0, 0), (.getfield 34, 5, 15, 0, 0), (.iload_n 2, 0, 0, 0, 0), (.iaload, 0, 0, 0, 0), (.iconst (-1), 0, 0, -1, 0)] (by decide +kernel) rfl ⟨h4, trivial⟩ ?_
      refine GE_icmpN (k := .ne) (off := 6) (tgt := 37) (by decide +kernel) (by decide) (cnd_ne _ _) (fun c5 => ?_) (fun c5 => ?_)
      · refine GE_chk (fun h6 => ?_)
        refine GE_chk (fun h7 => ?_)
        refine GE_run flG_T (pc1 := 49) (L1 := [some (.inr (.inr (some (5, 0)))), some (.inl a1), some (.inl a2), some (.inl r2.1)]) (S1 := [.inl (r2.2 29 0 (tn a1)), .inl (r2.2 29 0 (tn a2))]) (w1 := r2.2) (P := (inB a2 4) ∧ (inB a1 4) ∧ True) [(.aload_n 0, 0, 0, 0, 0), (.getfield 37, 5, 16, 0, 0), (.iload_n 2, 0, 0, 0, 0), (.iaload, 0, 0, 0, 0), (.aload_n 0, 0, 0, 0, 0), (.getfield 37, 5, 16, 0, 0), (.iload_n 1, 0, 0, 0, 0), (.iaload, 0, 0, 0, 0)] (by decide +kernel) rfl ⟨h6, h7, trivial⟩ ?_
        refine GE_icmp (k := .le) (off := 8) (tgt := 57) (by decide +kernel) (by decide) (cnd_le _ _) (fun c8 => ?_) (fun c8 => ?_)
        · refine GE_run flG_T (pc1 := 58) (L1 := [some (.inr (.inr (some (5, 0)))), some (.inl a1), some (.inl a2), some (.inl r2.1)]) (S1 := [.inl 0]) (w1 := r2.2) (P := True) [(.iconst 0, 0, 0, 0, 0)] (by decide +kernel) rfl trivial ?_
          exact GE_iret rfl (by decide +kernel)
        · refine GE_run flG_T (pc1 := 58) (L1 := [some (.inr (.inr (some (5, 0)))), some (.inl a1), some (.inl a2), some (.inl r2.1)]) (S1 := [.inl (-2)]) (w1 := r2.2) (P := True) [(.bipush (-2), 0, 0, -2, 0), (.goto 4, 0, 0, 0, 0)] (by decide +kernel) rfl trivial ?_
          exact GE_iret rfl (by decide +kernel)
      · refine GE_run flG_T (pc1 := 36) (L1 := [some (.inr (.inr (some (5, 0)))), some (.inl a1), some (.inl a2), some (.inl r2.1)]) (S1 := [.inl (-11)]) (w1 := r2.2) (P := True) [(.bipush (-11), 0, 0, -11, 0)] (by decide +kernel) rfl trivial ?_
        exact GE_iret rfl (by decide +kernel)
    · refine GE_run flG_T (pc1 := 23) (L1 := [some (.inr (.inr (some (5, 0)))), some (.inl a1), some (.inl a2), some (.inl r2.1)]) (S1 := [.inl r2.1]) (w1 := r2.2) (P := True) [(.iload_n 3, 0, 0, 0, 0)] (by decide +kernel) rfl trivial ?_
      exact GE_iret rfl (by decide +kernel)
  · refine GE_run flG_T (pc1 := 11) (L1 := [some (.inr (.inr (some (5, 0)))), some (.inl a1), some (.inl a2), none]) (S1 := [.inl (-2)]) (w1 := w) (P := True) [(.bipush (-2), 0, 0, -2, 0)] (by decide +kernel) rfl trivial ?_
    exact GE_iret rfl (by decide +kernel)
abbrev mm_X5_toldWrong : MI := (RX5, cX5_toldWrong, 5, (some .int), ftp_X5.map (fun q => q.1), ctp_X5.map (fun q => q.1), clp_X5.map (fun q => q.1))
noncomputable def f_X5_toldWrong (a1 : Int32) (a2 : Int32) (a3 : Int32) (w : Mem) : Option (Int32 × Mem) := Option.bind (f_X5_twoWrong a1 a2 w) (fun r1 => if r1.1 = 0 then (if (rng a3 0 (r1.2 5 0 0 - 1)) = 0 then (some ((-5), r1.2)) else (some (0, r1.2))) else (some (r1.1, r1.2)))
set_option maxRecDepth 100000 in
theorem t_X5_toldWrong (l : Launch) (X : XC)  (a1 : Int32) (a2 : Int32) (a3 : Int32) (w : Mem) : Ct l X 4 yX5_toldWrong cX5_toldWrong 5 (some .int) emI [.inr (.inr (some (5, 0))), .inl a1, .inl a2, .inl a3] 57 flT w (f_X5_toldWrong a1 a2 a3 w) := by
  refine Ct_of (mi := mm_X5_toldWrong) (mik_X5 _ _ _) me_X5_toldWrong rfl (okAs_cons (by decide) (okAs_cons rfl (okAs_cons rfl (okAs_cons rfl okAs_nil)))) (Nat.le_of_ble_eq_true rfl) ?_
  unfold f_X5_toldWrong
  refine GE_run flG_T (pc1 := 3) (L1 := [some (.inr (.inr (some (5, 0)))), some (.inl a1), some (.inl a2), some (.inl a3), none]) (S1 := [.inl a2, .inl a1, .inr (.inr (some (5, 0)))]) (w1 := w) (P := True) [(.aload_n 0, 0, 0, 0, 0), (.iload_n 1, 0, 0, 0, 0), (.iload_n 2, 0, 0, 0, 0)] (by decide +kernel) rfl trivial ?_
  refine GE_callVI (As := [.inl a1, .inl a2]) (k := 5) (i := 0) (S := []) (t_X5_twoWrong l X a1 a2 w) (by decide) ⟨me_X5_twoWrong, mi_X5_twoWrong, mv_X5_twoWrong, lk_X5_230⟩ rfl (by decide +kernel) rfl (by decide) (by decide) (Nat.le_of_ble_eq_true rfl) (fun r1 _ => ?_)
  refine GE_run flG_T (pc1 := 10) (L1 := [some (.inr (.inr (some (5, 0)))), some (.inl a1), some (.inl a2), some (.inl a3), some (.inl r1.1)]) (S1 := [.inl r1.1]) (w1 := r1.2) (P := True) [(.istore 4, 0, 0, 0, 0), (.iload 4, 0, 0, 0, 0)] (by decide +kernel) rfl trivial ?_
  refine GE_if (k := .eq) (off := 8) (tgt := 18) (by decide +kernel) (by decide) (cnd_eq _ _) (fun c2 => ?_) (fun c2 => ?_)
  · refine GE_run flG_T (pc1 := 20) (L1 := [some (.inr (.inr (some (5, 0)))), some (.inl a1), some (.inl a2), some (.inl a3), some (.inl r1.1)]) (S1 := [.inl a3, .inr (.inr (some (5, 0)))]) (w1 := r1.2) (P := True) [(.aload_n 0, 0, 0, 0, 0), (.iload_n 3, 0, 0, 0, 0)] (by decide +kernel) rfl trivial ?_
    refine GE_callVIp (As := [.inl a3]) (k := 5) (i := 0) (S := []) (p_X5_isOne l X a3 r1.2) (by decide) ⟨me_X5_isOne, mi_X5_isOne, mv_X5_isOne, lk_X5_162⟩ rfl (by decide +kernel) rfl (by decide) (by decide) (Nat.le_of_ble_eq_true rfl) ?_
    refine GE_if (k := .eq) (off := 7) (tgt := 30) (by decide +kernel) (by decide) (cnd_eq _ _) (fun c3 => ?_) (fun c3 => ?_)
    · refine GE_run flG_T (pc1 := 32) (L1 := [some (.inr (.inr (some (5, 0)))), some (.inl a1), some (.inl a2), some (.inl a3), some (.inl r1.1)]) (S1 := [.inl (-5)]) (w1 := r1.2) (P := True) [(.bipush (-5), 0, 0, -5, 0)] (by decide +kernel) rfl trivial ?_
      exact GE_iret rfl (by decide +kernel)
    · refine GE_run flG_T (pc1 := 32) (L1 := [some (.inr (.inr (some (5, 0)))), some (.inl a1), some (.inl a2), some (.inl a3), some (.inl r1.1)]) (S1 := [.inl 0]) (w1 := r1.2) (P := True) [(.iconst 0, 0, 0, 0, 0), (.goto 5, 0, 0, 0, 0)] (by decide +kernel) rfl trivial ?_
      exact GE_iret rfl (by decide +kernel)
  · refine GE_run flG_T (pc1 := 32) (L1 := [some (.inr (.inr (some (5, 0)))), some (.inl a1), some (.inl a2), some (.inl a3), some (.inl r1.1)]) (S1 := [.inl r1.1]) (w1 := r1.2) (P := True) [(.iload 4, 0, 0, 0, 0), (.goto 17, 0, 0, 0, 0)] (by decide +kernel) rfl trivial ?_
    exact GE_iret rfl (by decide +kernel)
abbrev mm_X5_unlike : MI := (RX5, cX5_unlike, 6, (some .int), ftp_X5.map (fun q => q.1), ctp_X5.map (fun q => q.1), clp_X5.map (fun q => q.1))
noncomputable def j_X5_unlike_82  (kl10 : Int32 → Int32 → Mem → Option (Int32 × Mem)) (x1 : Int32) (x2 : Int32) (x3 : Int32) (x5 : Int32) (s0 : Int32) (w : Mem) : Option (Int32 × Mem) := Option.bind (f_X5_tideOf w) (fun r10 => kl10 s0 (x5 + 1) r10.2)
set_option maxRecDepth 100000 in
theorem j_X5_unlike_82_ok (l : Launch) (X : XC)  (kl10 : Int32 → Int32 → Mem → Option (Int32 × Mem)) (x1 : Int32) (x2 : Int32) (x3 : Int32) (x5 : Int32) (s0 : Int32)  (ih : ∀ (x4 : Int32) (x5 : Int32) (w : Mem), GE l X mm_X5_unlike 5 emI 57 flT (kl10 x4 x5 w) 10 [some (.inr (.inr (some (5, 0)))), some (.inl x1), some (.inl x2), some (.inl x3), some (.inl x4), some (.inl x5)] [] w) (w : Mem) : GE l X mm_X5_unlike 5 emI 57 flT (j_X5_unlike_82 kl10 x1 x2 x3 x5 s0 w) 82 [some (.inr (.inr (some (5, 0)))), some (.inl x1), some (.inl x2), some (.inl x3), none, some (.inl x5)] [.inl s0] w := by
  unfold j_X5_unlike_82
  refine GE_run flG_T (pc1 := 85) (L1 := [some (.inr (.inr (some (5, 0)))), some (.inl x1), some (.inl x2), some (.inl x3), some (.inl s0), some (.inl x5)]) (S1 := [.inr (.inr (some (5, 0)))]) (w1 := w) (P := True) [(.istore 4, 0, 0, 0, 0), (.aload_n 0, 0, 0, 0, 0)] (by decide +kernel) rfl trivial ?_
  refine GE_callVI (As := []) (k := 5) (i := 0) (S := []) (t_X5_tideOf l X w) (by decide) ⟨me_X5_tideOf, mi_X5_tideOf, mv_X5_tideOf, lk_X5_189⟩ rfl (by decide +kernel) rfl (by decide) (by decide) (Nat.le_of_ble_eq_true rfl) (fun r10 _ => ?_)
  refine GE_run flG_T (pc1 := 10) (L1 := [some (.inr (.inr (some (5, 0)))), some (.inl x1), some (.inl x2), some (.inl x3), some (.inl s0), some (.inl (x5 + 1))]) (S1 := []) (w1 := r10.2) (P := True) [(.pop, 0, 0, 0, 0), (.iinc 5 1, 0, 0, 1, 0), (.goto (-82), 0, 0, 0, 0)] (by decide +kernel) rfl trivial ?_
  exact GE_weak [true, true, true, true, true, true] (ih s0 (x5 + 1) r10.2)
noncomputable def h_X5_unlike_10 (x1 : Int32) (x2 : Int32) (x3 : Int32) (k95 : Int32 → Mem → Option (Int32 × Mem)) : Nat → Int32 → Int32 → Mem → Option (Int32 × Mem)
  | 0, _, _, _ => none
  | n + 1, x4, x5, w => if inB x2 4 then (if x5 < (w 29 0 (tn x2)) then (if x4 = (-1) then (if inB ((40 * x1) + x5) 160 then (Option.bind (f_X5_landOf x3 (wiF (w 30 0 (tn ((40 * x1) + x5))) 0 15) w) (fun r6 => if inB ((40 * x2) + x5) 160 then (if inB ((3 * x3) + 2) 18 then (if (r6.2 30 0 (tn ((40 * x2) + x5))) = (r6.2 22 0 (tn ((3 * x3) + 2))) then (j_X5_unlike_82 (h_X5_unlike_10 x1 x2 x3 k95 n) x1 x2 x3 x5 (-1) r6.2) else (j_X5_unlike_82 (h_X5_unlike_10 x1 x2 x3 k95 n) x1 x2 x3 x5 x5 r6.2)) else none) else none)) else none) else (k95 x4 w)) else (k95 x4 w)) else none
set_option maxRecDepth 100000 in
theorem h_X5_unlike_10_ok (l : Launch) (X : XC) (x1 : Int32) (x2 : Int32) (x3 : Int32) (k95 : Int32 → Mem → Option (Int32 × Mem))  (hk95 : ∀ (x4 : Int32) (w : Mem), GE l X mm_X5_unlike 5 emI 57 flT (k95 x4 w) 95 [some (.inr (.inr (some (5, 0)))), none, none, none, some (.inl x4), none] [] w) : ∀ (n : Nat) (x4 : Int32) (x5 : Int32) (w : Mem), GE l X mm_X5_unlike 5 emI 57 flT ((h_X5_unlike_10 x1 x2 x3 k95 n) x4 x5 w) 10 [some (.inr (.inr (some (5, 0)))), some (.inl x1), some (.inl x2), some (.inl x3), some (.inl x4), some (.inl x5)] [] w := by
  intro n
  induction n with
  | zero => intro x4 x5 w; exact GE_none
  | succ n ih =>
    intro x4 x5 w
    unfold h_X5_unlike_10
    refine GE_chk (fun h2 => ?_)
    refine GE_run flG_T (pc1 := 18) (L1 := [some (.inr (.inr (some (5, 0)))), some (.inl x1), some (.inl x2), some (.inl x3), some (.inl x4), some (.inl x5)]) (S1 := [.inl (w 29 0 (tn x2)), .inl x5]) (w1 := w) (P := (inB x2 4) ∧ True) [(.iload 5, 0, 0, 0, 0), (.aload_n 0, 0, 0, 0, 0), (.getfield 37, 5, 16, 0, 0), (.iload_n 2, 0, 0, 0, 0), (.iaload, 0, 0, 0, 0)] (by decide +kernel) rfl ⟨h2, trivial⟩ ?_
    refine GE_icmpN (k := .ge) (off := 77) (tgt := 95) (by decide +kernel) (by decide) (cnd_ge _ _) (fun c3 => ?_) (fun c3 => ?_)
    · exact GE_weak [true, false, false, false, true, false] (hk95 x4 w)
    · refine GE_run flG_T (pc1 := 24) (L1 := [some (.inr (.inr (some (5, 0)))), some (.inl x1), some (.inl x2), some (.inl x3), some (.inl x4), some (.inl x5)]) (S1 := [.inl (-1), .inl x4]) (w1 := w) (P := True) [(.iload 4, 0, 0, 0, 0), (.iconst (-1), 0, 0, -1, 0)] (by decide +kernel) rfl trivial ?_
      refine GE_icmpN (k := .ne) (off := 71) (tgt := 95) (by decide +kernel) (by decide) (cnd_ne _ _) (fun c4 => ?_) (fun c4 => ?_)
      · exact GE_weak [true, false, false, false, true, false] (hk95 x4 w)
      · refine GE_chk (fun h5 => ?_)
        refine GE_run flG_T (pc1 := 44) (L1 := [some (.inr (.inr (some (5, 0)))), some (.inl x1), some (.inl x2), some (.inl x3), some (.inl x4), some (.inl x5)]) (S1 := [.inl 15, .inl 0, .inl (w 30 0 (tn ((40 * x1) + x5))), .inl x3, .inr (.inr (some (5, 0)))]) (w1 := w) (P := (inB ((40 * x1) + x5) 160) ∧ True) [(.aload_n 0, 0, 0, 0, 0), (.iload_n 3, 0, 0, 0, 0), (.aload_n 0, 0, 0, 0, 0), (.getfield 40, 5, 17, 0, 0), (.bipush 40, 0, 0, 40, 0), (.iload_n 1, 0, 0, 0, 0), (.imul, 0, 0, 0, 0), (.iload 5, 0, 0, 0, 0), (.iadd, 0, 0, 0, 0), (.iaload, 0, 0, 0, 0), (.iconst 0, 0, 0, 0, 0), (.bipush 15, 0, 0, 15, 0)] (by decide +kernel) rfl ⟨h5, trivial⟩ ?_
        refine GE_callSIp (As := [.inl (w 30 0 (tn ((40 * x1) + x5))), .inl 0, .inl 15]) (S := [.inl x3, .inr (.inr (some (5, 0)))]) (p_X5_within l X (w 30 0 (tn ((40 * x1) + x5))) 0 15 w) ⟨me_X5_within, ms_X5_within, lk_X5_159⟩ (by decide +kernel) rfl (by decide) (by decide) (Nat.le_of_ble_eq_true rfl) ?_
        refine GE_callVI (As := [.inl x3, .inl (wiF (w 30 0 (tn ((40 * x1) + x5))) 0 15)]) (k := 5) (i := 0) (S := []) (t_X5_landOf l X x3 (wiF (w 30 0 (tn ((40 * x1) + x5))) 0 15) w) (by decide) ⟨me_X5_landOf, mi_X5_landOf, mv_X5_landOf, lk_X5_183⟩ rfl (by decide +kernel) rfl (by decide) (by decide) (Nat.le_of_ble_eq_true rfl) (fun r6 _ => ?_)
        refine GE_chk (fun h7 => ?_)
        refine GE_chk (fun h8 => ?_)
        refine GE_run flG_T (pc1 := 73) (L1 := [some (.inr (.inr (some (5, 0)))), some (.inl x1), some (.inl x2), some (.inl x3), some (.inl x4), some (.inl x5)]) (S1 := [.inl (r6.2 22 0 (tn ((3 * x3) + 2))), .inl (r6.2 30 0 (tn ((40 * x2) + x5)))]) (w1 := r6.2) (P := (inB ((40 * x2) + x5) 160) ∧ (inB ((3 * x3) + 2) 18) ∧ True) [(.pop, 0, 0, 0, 0), (.aload_n 0, 0, 0, 0, 0), (.getfield 40, 5, 17, 0, 0), (.bipush 40, 0, 0, 40, 0), (.iload_n 2, 0, 0, 0, 0), (.imul, 0, 0, 0, 0), (.iload 5, 0, 0, 0, 0), (.iadd, 0, 0, 0, 0), (.iaload, 0, 0, 0, 0), (.aload_n 0, 0, 0, 0, 0), (.getfield 16, 5, 3, 0, 0), (.iconst 3, 0, 0, 3, 0), (.iload_n 3, 0, 0, 0, 0), (.imul, 0, 0, 0, 0), (.iconst 2, 0, 0, 2, 0), (.iadd, 0, 0, 0, 0), (.iaload, 0, 0, 0, 0)] (by decide +kernel) rfl ⟨h7, h8, trivial⟩ ?_
        refine GE_icmpN (k := .ne) (off := 7) (tgt := 80) (by decide +kernel) (by decide) (cnd_ne _ _) (fun c9 => ?_) (fun c9 => ?_)
        · refine GE_run flG_T (pc1 := 82) (L1 := [some (.inr (.inr (some (5, 0)))), some (.inl x1), some (.inl x2), some (.inl x3), some (.inl x4), some (.inl x5)]) (S1 := [.inl x5]) (w1 := r6.2) (P := True) [(.iload 5, 0, 0, 0, 0)] (by decide +kernel) rfl trivial ?_
          exact GE_weak [true, true, true, true, false, true] (j_X5_unlike_82_ok l X (h_X5_unlike_10 x1 x2 x3 k95 n) x1 x2 x3 x5 x5 ih r6.2)
        · refine GE_run flG_T (pc1 := 82) (L1 := [some (.inr (.inr (some (5, 0)))), some (.inl x1), some (.inl x2), some (.inl x3), some (.inl x4), some (.inl x5)]) (S1 := [.inl (-1)]) (w1 := r6.2) (P := True) [(.iconst (-1), 0, 0, -1, 0), (.goto 5, 0, 0, 0, 0)] (by decide +kernel) rfl trivial ?_
          exact GE_weak [true, true, true, true, false, true] (j_X5_unlike_82_ok l X (h_X5_unlike_10 x1 x2 x3 k95 n) x1 x2 x3 x5 (-1) ih r6.2)
noncomputable def f_X5_unlike (a1 : Int32) (a2 : Int32) (a3 : Int32) (w : Mem) : Option (Int32 × Mem) := Option.bind (f_X5_keeps w) (fun r1 => h_X5_unlike_10 a1 a2 a3 (fun x4_11 w12 => Option.bind (f_X5_lays w12) (fun r13 => some (x4_11, r13))) FU (-1) 0 r1)
set_option maxRecDepth 100000 in
theorem t_X5_unlike (l : Launch) (X : XC)  (a1 : Int32) (a2 : Int32) (a3 : Int32) (w : Mem) : Ct l X 5 yX5_unlike cX5_unlike 6 (some .int) emI [.inr (.inr (some (5, 0))), .inl a1, .inl a2, .inl a3] 57 flT w (f_X5_unlike a1 a2 a3 w) := by
  refine Ct_of (mi := mm_X5_unlike) (mik_X5 _ _ _) me_X5_unlike rfl (okAs_cons (by decide) (okAs_cons rfl (okAs_cons rfl (okAs_cons rfl okAs_nil)))) (Nat.le_of_ble_eq_true rfl) ?_
  unfold f_X5_unlike
  refine GE_run flG_T (pc1 := 4) (L1 := [some (.inr (.inr (some (5, 0)))), some (.inl a1), some (.inl a2), some (.inl a3), some (.inl (-1)), none]) (S1 := [.inr (.inr (some (5, 0)))]) (w1 := w) (P := True) [(.iconst (-1), 0, 0, -1, 0), (.istore 4, 0, 0, 0, 0), (.aload_n 0, 0, 0, 0, 0)] (by decide +kernel) rfl trivial ?_
  refine GE_callVV (As := []) (k := 5) (i := 0) (S := []) (t_X5_keeps l X w) (by decide) ⟨me_X5_keeps, mi_X5_keeps, mv_X5_keeps, lk_X5_201⟩ rfl (by decide +kernel) rfl (by decide) (by decide) (Nat.le_of_ble_eq_true rfl) (fun r1 _ => ?_)
  refine GE_run flG_T (pc1 := 10) (L1 := [some (.inr (.inr (some (5, 0)))), some (.inl a1), some (.inl a2), some (.inl a3), some (.inl (-1)), some (.inl 0)]) (S1 := []) (w1 := r1) (P := True) [(.iconst 0, 0, 0, 0, 0), (.istore 5, 0, 0, 0, 0)] (by decide +kernel) rfl trivial ?_
  refine GE_weak [true, true, true, true, true, true] (h_X5_unlike_10_ok l X a1 a2 a3 _ ?_ FU (-1) 0 r1)
  · intro x4_11 w12
    refine GE_run flG_T (pc1 := 96) (L1 := [some (.inr (.inr (some (5, 0)))), none, none, none, some (.inl x4_11), none]) (S1 := [.inr (.inr (some (5, 0)))]) (w1 := w12) (P := True) [(.aload_n 0, 0, 0, 0, 0)] (by decide +kernel) rfl trivial ?_
    refine GE_callVV (As := []) (k := 5) (i := 0) (S := []) (t_X5_lays l X w12) (by decide) ⟨me_X5_lays, mi_X5_lays, mv_X5_lays, lk_X5_208⟩ rfl (by decide +kernel) rfl (by decide) (by decide) (Nat.le_of_ble_eq_true rfl) (fun r13 _ => ?_)
    refine GE_run flG_T (pc1 := 101) (L1 := [some (.inr (.inr (some (5, 0)))), none, none, none, some (.inl x4_11), none]) (S1 := [.inl x4_11]) (w1 := r13) (P := True) [(.iload 4, 0, 0, 0, 0)] (by decide +kernel) rfl trivial ?_
    exact GE_iret rfl (by decide +kernel)
abbrev mm_X5_judge : MI := (RX5, cX5_judge, 5, (some .int), ftp_X5.map (fun q => q.1), ctp_X5.map (fun q => q.1), clp_X5.map (fun q => q.1))
noncomputable def f_X5_judge (a1 : Int32) (a2 : Int32) (a3 : Int32) (w : Mem) : Option (Int32 × Mem) := Option.bind (f_X5_toldWrong a1 a2 a3 w) (fun r1 => if r1.1 = 0 then (Option.bind (f_X5_unlike a1 a2 a3 r1.2) (fun r3 => some (r3.1, r3.2))) else (some (r1.1, r1.2)))
set_option maxRecDepth 100000 in
theorem t_X5_judge (l : Launch) (X : XC)  (a1 : Int32) (a2 : Int32) (a3 : Int32) (w : Mem) : Ct l X 6 yX5_judge cX5_judge 5 (some .int) emI [.inr (.inr (some (5, 0))), .inl a1, .inl a2, .inl a3] 57 flT w (f_X5_judge a1 a2 a3 w) := by
  refine Ct_of (mi := mm_X5_judge) (mik_X5 _ _ _) me_X5_judge rfl (okAs_cons (by decide) (okAs_cons rfl (okAs_cons rfl (okAs_cons rfl okAs_nil)))) (Nat.le_of_ble_eq_true rfl) ?_
  unfold f_X5_judge
  refine GE_run flG_T (pc1 := 4) (L1 := [some (.inr (.inr (some (5, 0)))), some (.inl a1), some (.inl a2), some (.inl a3), none]) (S1 := [.inl a3, .inl a2, .inl a1, .inr (.inr (some (5, 0)))]) (w1 := w) (P := True) [(.aload_n 0, 0, 0, 0, 0), (.iload_n 1, 0, 0, 0, 0), (.iload_n 2, 0, 0, 0, 0), (.iload_n 3, 0, 0, 0, 0)] (by decide +kernel) rfl trivial ?_
  refine GE_callVI (As := [.inl a1, .inl a2, .inl a3]) (k := 5) (i := 0) (S := []) (t_X5_toldWrong l X a1 a2 a3 w) (by decide) ⟨me_X5_toldWrong, mi_X5_toldWrong, mv_X5_toldWrong, lk_X5_233⟩ rfl (by decide +kernel) rfl (by decide) (by decide) (Nat.le_of_ble_eq_true rfl) (fun r1 _ => ?_)
  refine GE_run flG_T (pc1 := 11) (L1 := [some (.inr (.inr (some (5, 0)))), some (.inl a1), some (.inl a2), some (.inl a3), some (.inl r1.1)]) (S1 := [.inl r1.1]) (w1 := r1.2) (P := True) [(.istore 4, 0, 0, 0, 0), (.iload 4, 0, 0, 0, 0)] (by decide +kernel) rfl trivial ?_
  refine GE_ifN (k := .ne) (off := 13) (tgt := 24) (by decide +kernel) (by decide) (cnd_ne _ _) (fun c2 => ?_) (fun c2 => ?_)
  · refine GE_run flG_T (pc1 := 26) (L1 := [some (.inr (.inr (some (5, 0)))), some (.inl a1), some (.inl a2), some (.inl a3), some (.inl r1.1)]) (S1 := [.inl r1.1]) (w1 := r1.2) (P := True) [(.iload 4, 0, 0, 0, 0)] (by decide +kernel) rfl trivial ?_
    exact GE_iret rfl (by decide +kernel)
  · refine GE_run flG_T (pc1 := 18) (L1 := [some (.inr (.inr (some (5, 0)))), some (.inl a1), some (.inl a2), some (.inl a3), some (.inl r1.1)]) (S1 := [.inl a3, .inl a2, .inl a1, .inr (.inr (some (5, 0)))]) (w1 := r1.2) (P := True) [(.aload_n 0, 0, 0, 0, 0), (.iload_n 1, 0, 0, 0, 0), (.iload_n 2, 0, 0, 0, 0), (.iload_n 3, 0, 0, 0, 0)] (by decide +kernel) rfl trivial ?_
    refine GE_callVI (As := [.inl a1, .inl a2, .inl a3]) (k := 5) (i := 0) (S := []) (t_X5_unlike l X a1 a2 a3 r1.2) (by decide) ⟨me_X5_unlike, mi_X5_unlike, mv_X5_unlike, lk_X5_236⟩ rfl (by decide +kernel) rfl (by decide) (by decide) (Nat.le_of_ble_eq_true rfl) (fun r3 _ => ?_)
    refine GE_run flG_T (pc1 := 26) (L1 := [some (.inr (.inr (some (5, 0)))), some (.inl a1), some (.inl a2), some (.inl a3), some (.inl r1.1)]) (S1 := [.inl r3.1]) (w1 := r3.2) (P := True) [(.goto 5, 0, 0, 0, 0)] (by decide +kernel) rfl trivial ?_
    exact GE_iret rfl (by decide +kernel)
abbrev mm_X5_kinds : MI := (RX5, cX5_kinds, 10, (some .int), ftp_X5.map (fun q => q.1), ctp_X5.map (fun q => q.1), clp_X5.map (fun q => q.1))
noncomputable def j_X5_kinds_105  (kl52 : Int32 → Int32 → Mem → Option (Int32 × Mem)) (x1 : Int32) (x2 : Int32) (x3 : Int32) (x4 : Int32) (x6 : Int32) (x7 : Int32) (x8 : Int32) (x9 : Int32) (s0 : Int32) (s1 : Int32) (w : Mem) : Option (Int32 × Mem) := if inB s1 6 then (Option.bind (f_X5_unlike x1 x2 x3 (up w 21 0 (tn s1) s0)) (fun r12 => if r12.1 = (-1) then (kl52 (x8 ||| (shlI 1 x9)) (x9 + 1) r12.2) else (kl52 (x8 ||| 0) (x9 + 1) r12.2))) else none
set_option maxRecDepth 100000 in
theorem j_X5_kinds_105_ok (l : Launch) (X : XC)  (kl52 : Int32 → Int32 → Mem → Option (Int32 × Mem)) (x1 : Int32) (x2 : Int32) (x3 : Int32) (x4 : Int32) (x6 : Int32) (x7 : Int32) (x8 : Int32) (x9 : Int32) (s0 : Int32) (s1 : Int32)  (ih : ∀ (x8 : Int32) (x9 : Int32) (w : Mem), GE l X mm_X5_kinds 6 emI 57 flT (kl52 x8 x9 w) 52 [some (.inr (.inr (some (5, 0)))), some (.inl x1), some (.inl x2), some (.inl x3), some (.inl x4), none, some (.inl x6), some (.inl x7), some (.inl x8), some (.inl x9)] [] w) (w : Mem) : GE l X mm_X5_kinds 6 emI 57 flT (j_X5_kinds_105 kl52 x1 x2 x3 x4 x6 x7 x8 x9 s0 s1 w) 105 [some (.inr (.inr (some (5, 0)))), some (.inl x1), some (.inl x2), some (.inl x3), some (.inl x4), none, some (.inl x6), some (.inl x7), some (.inl x8), some (.inl x9)] [.inl s0, .inl s1, .inr (.inr (some (21, 0)))] w := by
  unfold j_X5_kinds_105
  refine GE_chk (fun h11 => ?_)
  refine GE_run flG_T (pc1 := 112) (L1 := [some (.inr (.inr (some (5, 0)))), some (.inl x1), some (.inl x2), some (.inl x3), some (.inl x4), none, some (.inl x6), some (.inl x7), some (.inl x8), some (.inl x9)]) (S1 := [.inl x3, .inl x2, .inl x1, .inr (.inr (some (5, 0))), .inl x8]) (w1 := up w 21 0 (tn s1) s0) (P := (inB s1 6) ∧ True) [(.iastore, 0, 0, 0, 0), (.iload 8, 0, 0, 0, 0), (.aload_n 0, 0, 0, 0, 0), (.iload_n 1, 0, 0, 0, 0), (.iload_n 2, 0, 0, 0, 0), (.iload_n 3, 0, 0, 0, 0)] (by decide +kernel) rfl ⟨h11, trivial⟩ ?_
  refine GE_callVI (As := [.inl x1, .inl x2, .inl x3]) (k := 5) (i := 0) (S := [.inl x8]) (t_X5_unlike l X x1 x2 x3 (up w 21 0 (tn s1) s0)) (by decide) ⟨me_X5_unlike, mi_X5_unlike, mv_X5_unlike, lk_X5_236⟩ rfl (by decide +kernel) rfl (by decide) (by decide) (Nat.le_of_ble_eq_true rfl) (fun r12 _ => ?_)
  refine GE_run flG_T (pc1 := 116) (L1 := [some (.inr (.inr (some (5, 0)))), some (.inl x1), some (.inl x2), some (.inl x3), some (.inl x4), none, some (.inl x6), some (.inl x7), some (.inl x8), some (.inl x9)]) (S1 := [.inl (-1), .inl r12.1, .inl x8]) (w1 := r12.2) (P := True) [(.iconst (-1), 0, 0, -1, 0)] (by decide +kernel) rfl trivial ?_
  refine GE_icmpN (k := .ne) (off := 10) (tgt := 126) (by decide +kernel) (by decide) (cnd_ne _ _) (fun c13 => ?_) (fun c13 => ?_)
  · refine GE_run flG_T (pc1 := 52) (L1 := [some (.inr (.inr (some (5, 0)))), some (.inl x1), some (.inl x2), some (.inl x3), some (.inl x4), none, some (.inl x6), some (.inl x7), some (.inl (x8 ||| 0)), some (.inl (x9 + 1))]) (S1 := []) (w1 := r12.2) (P := True) [(.iconst 0, 0, 0, 0, 0), (.ior, 0, 0, 0, 0), (.istore 8, 0, 0, 0, 0), (.iinc 9 1, 0, 0, 1, 0), (.goto (-81), 0, 0, 0, 0)] (by decide +kernel) rfl trivial ?_
    exact GE_weak [true, true, true, true, true, false, true, true, true, true] (ih (x8 ||| 0) (x9 + 1) r12.2)
  · refine GE_run flG_T (pc1 := 52) (L1 := [some (.inr (.inr (some (5, 0)))), some (.inl x1), some (.inl x2), some (.inl x3), some (.inl x4), none, some (.inl x6), some (.inl x7), some (.inl (x8 ||| (shlI 1 x9))), some (.inl (x9 + 1))]) (S1 := []) (w1 := r12.2) (P := True) [(.iconst 1, 0, 0, 1, 0), (.iload 9, 0, 0, 0, 0), (.ishl, 0, 0, 0, 0), (.goto 4, 0, 0, 0, 0), (.ior, 0, 0, 0, 0), (.istore 8, 0, 0, 0, 0), (.iinc 9 1, 0, 0, 1, 0), (.goto (-81), 0, 0, 0, 0)] (by decide +kernel) rfl trivial ?_
    exact GE_weak [true, true, true, true, true, false, true, true, true, true] (ih (x8 ||| (shlI 1 x9)) (x9 + 1) r12.2)
noncomputable def j_X5_kinds_86  (kl52 : Int32 → Int32 → Mem → Option (Int32 × Mem)) (x1 : Int32) (x2 : Int32) (x3 : Int32) (x4 : Int32) (x6 : Int32) (x7 : Int32) (x8 : Int32) (x9 : Int32) (s0 : Int32) (s1 : Int32) (w : Mem) : Option (Int32 × Mem) := if inB s1 6 then (if x4 = 1 then (j_X5_kinds_105 kl52 x1 x2 x3 x4 x6 x7 x8 x9 x9 x3 (up w 20 0 (tn s1) s0)) else (j_X5_kinds_105 kl52 x1 x2 x3 x4 x6 x7 x8 x9 x7 x3 (up w 20 0 (tn s1) s0))) else none
set_option maxRecDepth 100000 in
theorem j_X5_kinds_86_ok (l : Launch) (X : XC)  (kl52 : Int32 → Int32 → Mem → Option (Int32 × Mem)) (x1 : Int32) (x2 : Int32) (x3 : Int32) (x4 : Int32) (x6 : Int32) (x7 : Int32) (x8 : Int32) (x9 : Int32) (s0 : Int32) (s1 : Int32)  (ih : ∀ (x8 : Int32) (x9 : Int32) (w : Mem), GE l X mm_X5_kinds 6 emI 57 flT (kl52 x8 x9 w) 52 [some (.inr (.inr (some (5, 0)))), some (.inl x1), some (.inl x2), some (.inl x3), some (.inl x4), none, some (.inl x6), some (.inl x7), some (.inl x8), some (.inl x9)] [] w) (w : Mem) : GE l X mm_X5_kinds 6 emI 57 flT (j_X5_kinds_86 kl52 x1 x2 x3 x4 x6 x7 x8 x9 s0 s1 w) 86 [some (.inr (.inr (some (5, 0)))), some (.inl x1), some (.inl x2), some (.inl x3), some (.inl x4), none, some (.inl x6), some (.inl x7), some (.inl x8), some (.inl x9)] [.inl s0, .inl s1, .inr (.inr (some (20, 0)))] w := by
  unfold j_X5_kinds_86
  refine GE_chk (fun h9 => ?_)
  refine GE_run flG_T (pc1 := 95) (L1 := [some (.inr (.inr (some (5, 0)))), some (.inl x1), some (.inl x2), some (.inl x3), some (.inl x4), none, some (.inl x6), some (.inl x7), some (.inl x8), some (.inl x9)]) (S1 := [.inl 1, .inl x4, .inl x3, .inr (.inr (some (21, 0)))]) (w1 := up w 20 0 (tn s1) s0) (P := (inB s1 6) ∧ True) [(.iastore, 0, 0, 0, 0), (.aload_n 0, 0, 0, 0, 0), (.getfield 13, 5, 2, 0, 0), (.iload_n 3, 0, 0, 0, 0), (.iload 4, 0, 0, 0, 0), (.iconst 1, 0, 0, 1, 0)] (by decide +kernel) rfl ⟨h9, trivial⟩ ?_
  refine GE_icmpN (k := .ne) (off := 8) (tgt := 103) (by decide +kernel) (by decide) (cnd_ne _ _) (fun c10 => ?_) (fun c10 => ?_)
  · refine GE_run flG_T (pc1 := 105) (L1 := [some (.inr (.inr (some (5, 0)))), some (.inl x1), some (.inl x2), some (.inl x3), some (.inl x4), none, some (.inl x6), some (.inl x7), some (.inl x8), some (.inl x9)]) (S1 := [.inl x7, .inl x3, .inr (.inr (some (21, 0)))]) (w1 := up w 20 0 (tn s1) s0) (P := True) [(.iload 7, 0, 0, 0, 0)] (by decide +kernel) rfl trivial ?_
    exact GE_weak [true, true, true, true, true, false, true, true, true, true] (j_X5_kinds_105_ok l X kl52 x1 x2 x3 x4 x6 x7 x8 x9 x7 x3 ih (up w 20 0 (tn s1) s0))
  · refine GE_run flG_T (pc1 := 105) (L1 := [some (.inr (.inr (some (5, 0)))), some (.inl x1), some (.inl x2), some (.inl x3), some (.inl x4), none, some (.inl x6), some (.inl x7), some (.inl x8), some (.inl x9)]) (S1 := [.inl x9, .inl x3, .inr (.inr (some (21, 0)))]) (w1 := up w 20 0 (tn s1) s0) (P := True) [(.iload 9, 0, 0, 0, 0), (.goto 5, 0, 0, 0, 0)] (by decide +kernel) rfl trivial ?_
    exact GE_weak [true, true, true, true, true, false, true, true, true, true] (j_X5_kinds_105_ok l X kl52 x1 x2 x3 x4 x6 x7 x8 x9 x9 x3 ih (up w 20 0 (tn s1) s0))
noncomputable def j_X5_kinds_66  (k136 : Int32 → Mem → Option (Int32 × Mem)) (kl52 : Int32 → Int32 → Mem → Option (Int32 × Mem)) (x1 : Int32) (x2 : Int32) (x3 : Int32) (x4 : Int32) (x6 : Int32) (x7 : Int32) (x8 : Int32) (x9 : Int32) (s0 : Int32) (s1 : Int32) (w : Mem) : Option (Int32 × Mem) := if s1 < s0 then (if x4 = 0 then (j_X5_kinds_86 kl52 x1 x2 x3 x4 x6 x7 x8 x9 x9 x3 w) else (j_X5_kinds_86 kl52 x1 x2 x3 x4 x6 x7 x8 x9 x6 x3 w)) else (k136 x8 w)
set_option maxRecDepth 100000 in
theorem j_X5_kinds_66_ok (l : Launch) (X : XC)  (k136 : Int32 → Mem → Option (Int32 × Mem)) (kl52 : Int32 → Int32 → Mem → Option (Int32 × Mem)) (x1 : Int32) (x2 : Int32) (x3 : Int32) (x4 : Int32) (x6 : Int32) (x7 : Int32) (x8 : Int32) (x9 : Int32) (s0 : Int32) (s1 : Int32)  (hk136 : ∀ (x8 : Int32) (w : Mem), GE l X mm_X5_kinds 6 emI 57 flT (k136 x8 w) 136 [some (.inr (.inr (some (5, 0)))), none, none, some (.inl x3), none, none, some (.inl x6), some (.inl x7), some (.inl x8), none] [] w) (ih : ∀ (x8 : Int32) (x9 : Int32) (w : Mem), GE l X mm_X5_kinds 6 emI 57 flT (kl52 x8 x9 w) 52 [some (.inr (.inr (some (5, 0)))), some (.inl x1), some (.inl x2), some (.inl x3), some (.inl x4), none, some (.inl x6), some (.inl x7), some (.inl x8), some (.inl x9)] [] w) (w : Mem) : GE l X mm_X5_kinds 6 emI 57 flT (j_X5_kinds_66 k136 kl52 x1 x2 x3 x4 x6 x7 x8 x9 s0 s1 w) 66 [some (.inr (.inr (some (5, 0)))), some (.inl x1), some (.inl x2), some (.inl x3), some (.inl x4), none, some (.inl x6), some (.inl x7), some (.inl x8), some (.inl x9)] [.inl s0, .inl s1] w := by
  unfold j_X5_kinds_66
  refine GE_icmpN (k := .ge) (off := 70) (tgt := 136) (by decide +kernel) (by decide) (cnd_ge _ _) (fun c7 => ?_) (fun c7 => ?_)
  · exact GE_weak [true, false, false, true, false, false, true, true, true, false] (hk136 x8 w)
  · refine GE_run flG_T (pc1 := 76) (L1 := [some (.inr (.inr (some (5, 0)))), some (.inl x1), some (.inl x2), some (.inl x3), some (.inl x4), none, some (.inl x6), some (.inl x7), some (.inl x8), some (.inl x9)]) (S1 := [.inl x4, .inl x3, .inr (.inr (some (20, 0)))]) (w1 := w) (P := True) [(.aload_n 0, 0, 0, 0, 0), (.getfield 7, 5, 1, 0, 0), (.iload_n 3, 0, 0, 0, 0), (.iload 4, 0, 0, 0, 0)] (by decide +kernel) rfl trivial ?_
    refine GE_ifN (k := .ne) (off := 8) (tgt := 84) (by decide +kernel) (by decide) (cnd_ne _ _) (fun c8 => ?_) (fun c8 => ?_)
    · refine GE_run flG_T (pc1 := 86) (L1 := [some (.inr (.inr (some (5, 0)))), some (.inl x1), some (.inl x2), some (.inl x3), some (.inl x4), none, some (.inl x6), some (.inl x7), some (.inl x8), some (.inl x9)]) (S1 := [.inl x6, .inl x3, .inr (.inr (some (20, 0)))]) (w1 := w) (P := True) [(.iload 6, 0, 0, 0, 0)] (by decide +kernel) rfl trivial ?_
      exact GE_weak [true, true, true, true, true, false, true, true, true, true] (j_X5_kinds_86_ok l X kl52 x1 x2 x3 x4 x6 x7 x8 x9 x6 x3 ih w)
    · refine GE_run flG_T (pc1 := 86) (L1 := [some (.inr (.inr (some (5, 0)))), some (.inl x1), some (.inl x2), some (.inl x3), some (.inl x4), none, some (.inl x6), some (.inl x7), some (.inl x8), some (.inl x9)]) (S1 := [.inl x9, .inl x3, .inr (.inr (some (20, 0)))]) (w1 := w) (P := True) [(.iload 9, 0, 0, 0, 0), (.goto 5, 0, 0, 0, 0)] (by decide +kernel) rfl trivial ?_
      exact GE_weak [true, true, true, true, true, false, true, true, true, true] (j_X5_kinds_86_ok l X kl52 x1 x2 x3 x4 x6 x7 x8 x9 x9 x3 ih w)
noncomputable def h_X5_kinds_52 (x1 : Int32) (x2 : Int32) (x3 : Int32) (x4 : Int32) (x6 : Int32) (x7 : Int32) (k136 : Int32 → Mem → Option (Int32 × Mem)) : Nat → Int32 → Int32 → Mem → Option (Int32 × Mem)
  | 0, _, _, _ => none
  | n + 1, x8, x9, w => if x4 = 0 then (j_X5_kinds_66 k136 (h_X5_kinds_52 x1 x2 x3 x4 x6 x7 k136 n) x1 x2 x3 x4 x6 x7 x8 x9 6 x9 w) else (j_X5_kinds_66 k136 (h_X5_kinds_52 x1 x2 x3 x4 x6 x7 k136 n) x1 x2 x3 x4 x6 x7 x8 x9 10 x9 w)
set_option maxRecDepth 100000 in
theorem h_X5_kinds_52_ok (l : Launch) (X : XC) (x1 : Int32) (x2 : Int32) (x3 : Int32) (x4 : Int32) (x6 : Int32) (x7 : Int32) (k136 : Int32 → Mem → Option (Int32 × Mem))  (hk136 : ∀ (x8 : Int32) (w : Mem), GE l X mm_X5_kinds 6 emI 57 flT (k136 x8 w) 136 [some (.inr (.inr (some (5, 0)))), none, none, some (.inl x3), none, none, some (.inl x6), some (.inl x7), some (.inl x8), none] [] w) : ∀ (n : Nat) (x8 : Int32) (x9 : Int32) (w : Mem), GE l X mm_X5_kinds 6 emI 57 flT ((h_X5_kinds_52 x1 x2 x3 x4 x6 x7 k136 n) x8 x9 w) 52 [some (.inr (.inr (some (5, 0)))), some (.inl x1), some (.inl x2), some (.inl x3), some (.inl x4), none, some (.inl x6), some (.inl x7), some (.inl x8), some (.inl x9)] [] w := by
  intro n
  induction n with
  | zero => intro x8 x9 w; exact GE_none
  | succ n ih =>
    intro x8 x9 w
    unfold h_X5_kinds_52
    refine GE_run flG_T (pc1 := 56) (L1 := [some (.inr (.inr (some (5, 0)))), some (.inl x1), some (.inl x2), some (.inl x3), some (.inl x4), none, some (.inl x6), some (.inl x7), some (.inl x8), some (.inl x9)]) (S1 := [.inl x4, .inl x9]) (w1 := w) (P := True) [(.iload 9, 0, 0, 0, 0), (.iload 4, 0, 0, 0, 0)] (by decide +kernel) rfl trivial ?_
    refine GE_ifN (k := .ne) (off := 8) (tgt := 64) (by decide +kernel) (by decide) (cnd_ne _ _) (fun c6 => ?_) (fun c6 => ?_)
    · refine GE_run flG_T (pc1 := 66) (L1 := [some (.inr (.inr (some (5, 0)))), some (.inl x1), some (.inl x2), some (.inl x3), some (.inl x4), none, some (.inl x6), some (.inl x7), some (.inl x8), some (.inl x9)]) (S1 := [.inl 10, .inl x9]) (w1 := w) (P := True) [(.bipush 10, 0, 0, 10, 0)] (by decide +kernel) rfl trivial ?_
      exact GE_weak [true, true, true, true, true, false, true, true, true, true] (j_X5_kinds_66_ok l X k136 (h_X5_kinds_52 x1 x2 x3 x4 x6 x7 k136 n) x1 x2 x3 x4 x6 x7 x8 x9 10 x9 hk136 ih w)
    · refine GE_run flG_T (pc1 := 66) (L1 := [some (.inr (.inr (some (5, 0)))), some (.inl x1), some (.inl x2), some (.inl x3), some (.inl x4), none, some (.inl x6), some (.inl x7), some (.inl x8), some (.inl x9)]) (S1 := [.inl 6, .inl x9]) (w1 := w) (P := True) [(.bipush 6, 0, 0, 6, 0), (.goto 5, 0, 0, 0, 0)] (by decide +kernel) rfl trivial ?_
      exact GE_weak [true, true, true, true, true, false, true, true, true, true] (j_X5_kinds_66_ok l X k136 (h_X5_kinds_52 x1 x2 x3 x4 x6 x7 k136 n) x1 x2 x3 x4 x6 x7 x8 x9 6 x9 hk136 ih w)
noncomputable def f_X5_kinds (a1 : Int32) (a2 : Int32) (a3 : Int32) (a4 : Int32) (w : Mem) : Option (Int32 × Mem) := Option.bind (f_X5_toldWrong a1 a2 a3 w) (fun r1 => if r1.1 = 0 then (if (rng a4 0 1) = 0 then (some ((-7), r1.2)) else (if inB a3 6 then (if inB a3 6 then (h_X5_kinds_52 a1 a2 a3 a4 (r1.2 20 0 (tn a3)) (r1.2 21 0 (tn a3)) (fun x8_14 w15 => if inB a3 6 then (if inB a3 6 then (some (x8_14, up (up w15 20 0 (tn a3) (r1.2 20 0 (tn a3))) 21 0 (tn a3) (r1.2 21 0 (tn a3)))) else none) else none) FU 0 0 r1.2) else none) else none)) else (some (r1.1, r1.2)))
set_option maxRecDepth 100000 in
theorem t_X5_kinds (l : Launch) (X : XC)  (a1 : Int32) (a2 : Int32) (a3 : Int32) (a4 : Int32) (w : Mem) : Ct l X 6 yX5_kinds cX5_kinds 10 (some .int) emI [.inr (.inr (some (5, 0))), .inl a1, .inl a2, .inl a3, .inl a4] 57 flT w (f_X5_kinds a1 a2 a3 a4 w) := by
  refine Ct_of (mi := mm_X5_kinds) (mik_X5 _ _ _) me_X5_kinds rfl (okAs_cons (by decide) (okAs_cons rfl (okAs_cons rfl (okAs_cons rfl (okAs_cons rfl okAs_nil))))) (Nat.le_of_ble_eq_true rfl) ?_
  unfold f_X5_kinds
  refine GE_run flG_T (pc1 := 4) (L1 := [some (.inr (.inr (some (5, 0)))), some (.inl a1), some (.inl a2), some (.inl a3), some (.inl a4), none, none, none, none, none]) (S1 := [.inl a3, .inl a2, .inl a1, .inr (.inr (some (5, 0)))]) (w1 := w) (P := True) [(.aload_n 0, 0, 0, 0, 0), (.iload_n 1, 0, 0, 0, 0), (.iload_n 2, 0, 0, 0, 0), (.iload_n 3, 0, 0, 0, 0)] (by decide +kernel) rfl trivial ?_
  refine GE_callVI (As := [.inl a1, .inl a2, .inl a3]) (k := 5) (i := 0) (S := []) (t_X5_toldWrong l X a1 a2 a3 w) (by decide) ⟨me_X5_toldWrong, mi_X5_toldWrong, mv_X5_toldWrong, lk_X5_233⟩ rfl (by decide +kernel) rfl (by decide) (by decide) (Nat.le_of_ble_eq_true rfl) (fun r1 _ => ?_)
  refine GE_run flG_T (pc1 := 11) (L1 := [some (.inr (.inr (some (5, 0)))), some (.inl a1), some (.inl a2), some (.inl a3), some (.inl a4), some (.inl r1.1), none, none, none, none]) (S1 := [.inl r1.1]) (w1 := r1.2) (P := True) [(.istore 5, 0, 0, 0, 0), (.iload 5, 0, 0, 0, 0)] (by decide +kernel) rfl trivial ?_
  refine GE_if (k := .eq) (off := 6) (tgt := 17) (by decide +kernel) (by decide) (cnd_eq _ _) (fun c2 => ?_) (fun c2 => ?_)
  · refine GE_run flG_T (pc1 := 21) (L1 := [some (.inr (.inr (some (5, 0)))), some (.inl a1), some (.inl a2), some (.inl a3), some (.inl a4), some (.inl r1.1), none, none, none, none]) (S1 := [.inl 1, .inl 0, .inl a4]) (w1 := r1.2) (P := True) [(.iload 4, 0, 0, 0, 0), (.iconst 0, 0, 0, 0, 0), (.iconst 1, 0, 0, 1, 0)] (by decide +kernel) rfl trivial ?_
    refine GE_callSIp (As := [.inl a4, .inl 0, .inl 1]) (S := []) (p_X5_in l X a4 0 1 r1.2) ⟨me_X5_in, ms_X5_in, lk_X5_72⟩ (by decide +kernel) rfl (by decide) (by decide) (Nat.le_of_ble_eq_true rfl) ?_
    refine GE_ifN (k := .ne) (off := 6) (tgt := 30) (by decide +kernel) (by decide) (cnd_ne _ _) (fun c3 => ?_) (fun c3 => ?_)
    · refine GE_chk (fun h4 => ?_)
      refine GE_chk (fun h5 => ?_)
      refine GE_run flG_T (pc1 := 52) (L1 := [some (.inr (.inr (some (5, 0)))), some (.inl a1), some (.inl a2), some (.inl a3), some (.inl a4), some (.inl r1.1), some (.inl (r1.2 20 0 (tn a3))), some (.inl (r1.2 21 0 (tn a3))), some (.inl 0), some (.inl 0)]) (S1 := []) (w1 := r1.2) (P := (inB a3 6) ∧ (inB a3 6) ∧ True) [(.aload_n 0, 0, 0, 0, 0), (.getfield 7, 5, 1, 0, 0), (.iload_n 3, 0, 0, 0, 0), (.iaload, 0, 0, 0, 0), (.istore 6, 0, 0, 0, 0), (.aload_n 0, 0, 0, 0, 0), (.getfield 13, 5, 2, 0, 0), (.iload_n 3, 0, 0, 0, 0), (.iaload, 0, 0, 0, 0), (.istore 7, 0, 0, 0, 0), (.iconst 0, 0, 0, 0, 0), (.istore 8, 0, 0, 0, 0), (.iconst 0, 0, 0, 0, 0), (.istore 9, 0, 0, 0, 0)] (by decide +kernel) rfl ⟨h4, h5, trivial⟩ ?_
      refine GE_weak [true, true, true, true, true, false, true, true, true, true] (h_X5_kinds_52_ok l X a1 a2 a3 a4 (r1.2 20 0 (tn a3)) (r1.2 21 0 (tn a3)) _ ?_ FU 0 0 r1.2)
      · intro x8_14 w15
        refine GE_chk (fun h16 => ?_)
        refine GE_chk (fun h17 => ?_)
        refine GE_run flG_T (pc1 := 154) (L1 := [some (.inr (.inr (some (5, 0)))), none, none, some (.inl a3), none, none, some (.inl (r1.2 20 0 (tn a3))), some (.inl (r1.2 21 0 (tn a3))), some (.inl x8_14), none]) (S1 := [.inl x8_14]) (w1 := up (up w15 20 0 (tn a3) (r1.2 20 0 (tn a3))) 21 0 (tn a3) (r1.2 21 0 (tn a3))) (P := (inB a3 6) ∧ (inB a3 6) ∧ True) [(.aload_n 0, 0, 0, 0, 0), (.getfield 7, 5, 1, 0, 0), (.iload_n 3, 0, 0, 0, 0), (.iload 6, 0, 0, 0, 0), (.iastore, 0, 0, 0, 0), (.aload_n 0, 0, 0, 0, 0), (.getfield 13, 5, 2, 0, 0), (.iload_n 3, 0, 0, 0, 0), (.iload 7, 0, 0, 0, 0), (.iastore, 0, 0, 0, 0), (.iload 8, 0, 0, 0, 0)] (by decide +kernel) rfl ⟨h16, h17, trivial⟩ ?_
        exact GE_iret rfl (by decide +kernel)
    · refine GE_run flG_T (pc1 := 29) (L1 := [some (.inr (.inr (some (5, 0)))), some (.inl a1), some (.inl a2), some (.inl a3), some (.inl a4), some (.inl r1.1), none, none, none, none]) (S1 := [.inl (-7)]) (w1 := r1.2) (P := True) [(.bipush (-7), 0, 0, -7, 0)] (by decide +kernel) rfl trivial ?_
      exact GE_iret rfl (by decide +kernel)
  · refine GE_run flG_T (pc1 := 16) (L1 := [some (.inr (.inr (some (5, 0)))), some (.inl a1), some (.inl a2), some (.inl a3), some (.inl a4), some (.inl r1.1), none, none, none, none]) (S1 := [.inl r1.1]) (w1 := r1.2) (P := True) [(.iload 5, 0, 0, 0, 0)] (by decide +kernel) rfl trivial ?_
    exact GE_iret rfl (by decide +kernel)
abbrev mm_X5_turned : MI := (RX5, cX5_turned, 8, (some .int), ftp_X5.map (fun q => q.1), ctp_X5.map (fun q => q.1), clp_X5.map (fun q => q.1))
noncomputable def h_X5_turned_33 (x1 : Int32) (x2 : Int32) (x3 : Int32) (x5 : Int32) (k85 : Int32 → Mem → Option (Int32 × Mem)) : Nat → Int32 → Int32 → Mem → Option (Int32 × Mem)
  | 0, _, _, _ => none
  | n + 1, x6, x7, w => if x7 < 16 then (if inB (3 * x3) 18 then (Option.bind (f_X5_unlike x1 x2 x3 (up w 22 0 (tn (3 * x3)) (x5 ^^^ (shlI 1 x7)))) (fun r6 => if r6.1 = (-1) then ((h_X5_turned_33 x1 x2 x3 x5 k85 n) (x6 ||| (shlI 1 x7)) (x7 + 1) r6.2) else ((h_X5_turned_33 x1 x2 x3 x5 k85 n) (x6 ||| 0) (x7 + 1) r6.2))) else none) else (k85 x6 w)
set_option maxRecDepth 100000 in
theorem h_X5_turned_33_ok (l : Launch) (X : XC) (x1 : Int32) (x2 : Int32) (x3 : Int32) (x5 : Int32) (k85 : Int32 → Mem → Option (Int32 × Mem))  (hk85 : ∀ (x6 : Int32) (w : Mem), GE l X mm_X5_turned 6 emI 57 flT (k85 x6 w) 85 [some (.inr (.inr (some (5, 0)))), none, none, some (.inl x3), none, some (.inl x5), some (.inl x6), none] [] w) : ∀ (n : Nat) (x6 : Int32) (x7 : Int32) (w : Mem), GE l X mm_X5_turned 6 emI 57 flT ((h_X5_turned_33 x1 x2 x3 x5 k85 n) x6 x7 w) 33 [some (.inr (.inr (some (5, 0)))), some (.inl x1), some (.inl x2), some (.inl x3), none, some (.inl x5), some (.inl x6), some (.inl x7)] [] w := by
  intro n
  induction n with
  | zero => intro x6 x7 w; exact GE_none
  | succ n ih =>
    intro x6 x7 w
    unfold h_X5_turned_33
    refine GE_run flG_T (pc1 := 37) (L1 := [some (.inr (.inr (some (5, 0)))), some (.inl x1), some (.inl x2), some (.inl x3), none, some (.inl x5), some (.inl x6), some (.inl x7)]) (S1 := [.inl 16, .inl x7]) (w1 := w) (P := True) [(.iload 7, 0, 0, 0, 0), (.bipush 16, 0, 0, 16, 0)] (by decide +kernel) rfl trivial ?_
    refine GE_icmpN (k := .ge) (off := 48) (tgt := 85) (by decide +kernel) (by decide) (cnd_ge _ _) (fun c4 => ?_) (fun c4 => ?_)
    · exact GE_weak [true, false, false, true, false, true, true, false] (hk85 x6 w)
    · refine GE_chk (fun h5 => ?_)
      refine GE_run flG_T (pc1 := 61) (L1 := [some (.inr (.inr (some (5, 0)))), some (.inl x1), some (.inl x2), some (.inl x3), none, some (.inl x5), some (.inl x6), some (.inl x7)]) (S1 := [.inl x3, .inl x2, .inl x1, .inr (.inr (some (5, 0))), .inl x6]) (w1 := up w 22 0 (tn (3 * x3)) (x5 ^^^ (shlI 1 x7))) (P := (inB (3 * x3) 18) ∧ True) [(.aload_n 0, 0, 0, 0, 0), (.getfield 16, 5, 3, 0, 0), (.iconst 3, 0, 0, 3, 0), (.iload_n 3, 0, 0, 0, 0), (.imul, 0, 0, 0, 0), (.iload 5, 0, 0, 0, 0), (.iconst 1, 0, 0, 1, 0), (.iload 7, 0, 0, 0, 0), (.ishl, 0, 0, 0, 0), (.ixor, 0, 0, 0, 0), (.iastore, 0, 0, 0, 0), (.iload 6, 0, 0, 0, 0), (.aload_n 0, 0, 0, 0, 0), (.iload_n 1, 0, 0, 0, 0), (.iload_n 2, 0, 0, 0, 0), (.iload_n 3, 0, 0, 0, 0)] (by decide +kernel) rfl ⟨h5, trivial⟩ ?_
      refine GE_callVI (As := [.inl x1, .inl x2, .inl x3]) (k := 5) (i := 0) (S := [.inl x6]) (t_X5_unlike l X x1 x2 x3 (up w 22 0 (tn (3 * x3)) (x5 ^^^ (shlI 1 x7)))) (by decide) ⟨me_X5_unlike, mi_X5_unlike, mv_X5_unlike, lk_X5_236⟩ rfl (by decide +kernel) rfl (by decide) (by decide) (Nat.le_of_ble_eq_true rfl) (fun r6 _ => ?_)
      refine GE_run flG_T (pc1 := 65) (L1 := [some (.inr (.inr (some (5, 0)))), some (.inl x1), some (.inl x2), some (.inl x3), none, some (.inl x5), some (.inl x6), some (.inl x7)]) (S1 := [.inl (-1), .inl r6.1, .inl x6]) (w1 := r6.2) (P := True) [(.iconst (-1), 0, 0, -1, 0)] (by decide +kernel) rfl trivial ?_
      refine GE_icmpN (k := .ne) (off := 10) (tgt := 75) (by decide +kernel) (by decide) (cnd_ne _ _) (fun c7 => ?_) (fun c7 => ?_)
      · refine GE_run flG_T (pc1 := 33) (L1 := [some (.inr (.inr (some (5, 0)))), some (.inl x1), some (.inl x2), some (.inl x3), none, some (.inl x5), some (.inl (x6 ||| 0)), some (.inl (x7 + 1))]) (S1 := []) (w1 := r6.2) (P := True) [(.iconst 0, 0, 0, 0, 0), (.ior, 0, 0, 0, 0), (.istore 6, 0, 0, 0, 0), (.iinc 7 1, 0, 0, 1, 0), (.goto (-49), 0, 0, 0, 0)] (by decide +kernel) rfl trivial ?_
        exact GE_weak [true, true, true, true, false, true, true, true] (ih (x6 ||| 0) (x7 + 1) r6.2)
      · refine GE_run flG_T (pc1 := 33) (L1 := [some (.inr (.inr (some (5, 0)))), some (.inl x1), some (.inl x2), some (.inl x3), none, some (.inl x5), some (.inl (x6 ||| (shlI 1 x7))), some (.inl (x7 + 1))]) (S1 := []) (w1 := r6.2) (P := True) [(.iconst 1, 0, 0, 1, 0), (.iload 7, 0, 0, 0, 0), (.ishl, 0, 0, 0, 0), (.goto 4, 0, 0, 0, 0), (.ior, 0, 0, 0, 0), (.istore 6, 0, 0, 0, 0), (.iinc 7 1, 0, 0, 1, 0), (.goto (-49), 0, 0, 0, 0)] (by decide +kernel) rfl trivial ?_
        exact GE_weak [true, true, true, true, false, true, true, true] (ih (x6 ||| (shlI 1 x7)) (x7 + 1) r6.2)
noncomputable def f_X5_turned (a1 : Int32) (a2 : Int32) (a3 : Int32) (w : Mem) : Option (Int32 × Mem) := Option.bind (f_X5_toldWrong a1 a2 a3 w) (fun r1 => if r1.1 = 0 then (if inB (3 * a3) 18 then (h_X5_turned_33 a1 a2 a3 (r1.2 22 0 (tn (3 * a3))) (fun x6_8 w9 => if inB (3 * a3) 18 then (some (x6_8, up w9 22 0 (tn (3 * a3)) (r1.2 22 0 (tn (3 * a3))))) else none) FU 0 0 r1.2) else none) else (some (r1.1, r1.2)))
set_option maxRecDepth 100000 in
theorem t_X5_turned (l : Launch) (X : XC)  (a1 : Int32) (a2 : Int32) (a3 : Int32) (w : Mem) : Ct l X 6 yX5_turned cX5_turned 8 (some .int) emI [.inr (.inr (some (5, 0))), .inl a1, .inl a2, .inl a3] 57 flT w (f_X5_turned a1 a2 a3 w) := by
  refine Ct_of (mi := mm_X5_turned) (mik_X5 _ _ _) me_X5_turned rfl (okAs_cons (by decide) (okAs_cons rfl (okAs_cons rfl (okAs_cons rfl okAs_nil)))) (Nat.le_of_ble_eq_true rfl) ?_
  unfold f_X5_turned
  refine GE_run flG_T (pc1 := 4) (L1 := [some (.inr (.inr (some (5, 0)))), some (.inl a1), some (.inl a2), some (.inl a3), none, none, none, none]) (S1 := [.inl a3, .inl a2, .inl a1, .inr (.inr (some (5, 0)))]) (w1 := w) (P := True) [(.aload_n 0, 0, 0, 0, 0), (.iload_n 1, 0, 0, 0, 0), (.iload_n 2, 0, 0, 0, 0), (.iload_n 3, 0, 0, 0, 0)] (by decide +kernel) rfl trivial ?_
  refine GE_callVI (As := [.inl a1, .inl a2, .inl a3]) (k := 5) (i := 0) (S := []) (t_X5_toldWrong l X a1 a2 a3 w) (by decide) ⟨me_X5_toldWrong, mi_X5_toldWrong, mv_X5_toldWrong, lk_X5_233⟩ rfl (by decide +kernel) rfl (by decide) (by decide) (Nat.le_of_ble_eq_true rfl) (fun r1 _ => ?_)
  refine GE_run flG_T (pc1 := 11) (L1 := [some (.inr (.inr (some (5, 0)))), some (.inl a1), some (.inl a2), some (.inl a3), some (.inl r1.1), none, none, none]) (S1 := [.inl r1.1]) (w1 := r1.2) (P := True) [(.istore 4, 0, 0, 0, 0), (.iload 4, 0, 0, 0, 0)] (by decide +kernel) rfl trivial ?_
  refine GE_if (k := .eq) (off := 6) (tgt := 17) (by decide +kernel) (by decide) (cnd_eq _ _) (fun c2 => ?_) (fun c2 => ?_)
  · refine GE_chk (fun h3 => ?_)
    refine GE_run flG_T (pc1 := 33) (L1 := [some (.inr (.inr (some (5, 0)))), some (.inl a1), some (.inl a2), some (.inl a3), some (.inl r1.1), some (.inl (r1.2 22 0 (tn (3 * a3)))), some (.inl 0), some (.inl 0)]) (S1 := []) (w1 := r1.2) (P := (inB (3 * a3) 18) ∧ True) [(.aload_n 0, 0, 0, 0, 0), (.getfield 16, 5, 3, 0, 0), (.iconst 3, 0, 0, 3, 0), (.iload_n 3, 0, 0, 0, 0), (.imul, 0, 0, 0, 0), (.iaload, 0, 0, 0, 0), (.istore 5, 0, 0, 0, 0), (.iconst 0, 0, 0, 0, 0), (.istore 6, 0, 0, 0, 0), (.iconst 0, 0, 0, 0, 0), (.istore 7, 0, 0, 0, 0)] (by decide +kernel) rfl ⟨h3, trivial⟩ ?_
    refine GE_weak [true, true, true, true, false, true, true, true] (h_X5_turned_33_ok l X a1 a2 a3 (r1.2 22 0 (tn (3 * a3))) _ ?_ FU 0 0 r1.2)
    · intro x6_8 w9
      refine GE_chk (fun h10 => ?_)
      refine GE_run flG_T (pc1 := 97) (L1 := [some (.inr (.inr (some (5, 0)))), none, none, some (.inl a3), none, some (.inl (r1.2 22 0 (tn (3 * a3)))), some (.inl x6_8), none]) (S1 := [.inl x6_8]) (w1 := up w9 22 0 (tn (3 * a3)) (r1.2 22 0 (tn (3 * a3)))) (P := (inB (3 * a3) 18) ∧ True) [(.aload_n 0, 0, 0, 0, 0), (.getfield 16, 5, 3, 0, 0), (.iconst 3, 0, 0, 3, 0), (.iload_n 3, 0, 0, 0, 0), (.imul, 0, 0, 0, 0), (.iload 5, 0, 0, 0, 0), (.iastore, 0, 0, 0, 0), (.iload 6, 0, 0, 0, 0)] (by decide +kernel) rfl ⟨h10, trivial⟩ ?_
      exact GE_iret rfl (by decide +kernel)
  · refine GE_run flG_T (pc1 := 16) (L1 := [some (.inr (.inr (some (5, 0)))), some (.inl a1), some (.inl a2), some (.inl a3), some (.inl r1.1), none, none, none]) (S1 := [.inl r1.1]) (w1 := r1.2) (P := True) [(.iload 4, 0, 0, 0, 0)] (by decide +kernel) rfl trivial ?_
    exact GE_iret rfl (by decide +kernel)
abbrev mm_X5_lucks : MI := (RX5, cX5_lucks, 11, (some .int), ftp_X5.map (fun q => q.1), ctp_X5.map (fun q => q.1), clp_X5.map (fun q => q.1))
noncomputable def j_X5_lucks_100  (kl51 : Int32 → Int32 → Int32 → Mem → Option (Int32 × Mem)) (x1 : Int32) (x2 : Int32) (x3 : Int32) (x4 : Int32) (x6 : Int32) (x8 : Int32) (x9 : Int32) (x10 : Int32) (s0 : Int32) (s1 : Int32) (w : Mem) : Option (Int32 × Mem) := if x10 = 0 then (kl51 (s1 + s0) x8 (x9 + 1) w) else (if x8 = (-1) then (kl51 (s1 + s0) x9 (x9 + 1) w) else (kl51 (s1 + s0) x8 (x9 + 1) w))
set_option maxRecDepth 100000 in
theorem j_X5_lucks_100_ok (l : Launch) (X : XC)  (kl51 : Int32 → Int32 → Int32 → Mem → Option (Int32 × Mem)) (x1 : Int32) (x2 : Int32) (x3 : Int32) (x4 : Int32) (x6 : Int32) (x8 : Int32) (x9 : Int32) (x10 : Int32) (s0 : Int32) (s1 : Int32)  (ih : ∀ (x7 : Int32) (x8 : Int32) (x9 : Int32) (w : Mem), GE l X mm_X5_lucks 6 emI 57 flT (kl51 x7 x8 x9 w) 51 [some (.inr (.inr (some (5, 0)))), some (.inl x1), some (.inl x2), some (.inl x3), some (.inl x4), none, some (.inl x6), some (.inl x7), some (.inl x8), some (.inl x9), none] [] w) (w : Mem) : GE l X mm_X5_lucks 6 emI 57 flT (j_X5_lucks_100 kl51 x1 x2 x3 x4 x6 x8 x9 x10 s0 s1 w) 100 [some (.inr (.inr (some (5, 0)))), some (.inl x1), some (.inl x2), some (.inl x3), some (.inl x4), none, some (.inl x6), none, some (.inl x8), some (.inl x9), some (.inl x10)] [.inl s0, .inl s1] w := by
  unfold j_X5_lucks_100
  refine GE_run flG_T (pc1 := 105) (L1 := [some (.inr (.inr (some (5, 0)))), some (.inl x1), some (.inl x2), some (.inl x3), some (.inl x4), none, some (.inl x6), some (.inl (s1 + s0)), some (.inl x8), some (.inl x9), some (.inl x10)]) (S1 := [.inl x10]) (w1 := w) (P := True) [(.iadd, 0, 0, 0, 0), (.istore 7, 0, 0, 0, 0), (.iload 10, 0, 0, 0, 0)] (by decide +kernel) rfl trivial ?_
  refine GE_if (k := .eq) (off := 14) (tgt := 119) (by decide +kernel) (by decide) (cnd_eq _ _) (fun c10 => ?_) (fun c10 => ?_)
  · refine GE_run flG_T (pc1 := 51) (L1 := [some (.inr (.inr (some (5, 0)))), some (.inl x1), some (.inl x2), some (.inl x3), some (.inl x4), none, some (.inl x6), some (.inl (s1 + s0)), some (.inl x8), some (.inl (x9 + 1)), some (.inl x10)]) (S1 := []) (w1 := w) (P := True) [(.iload 8, 0, 0, 0, 0), (.istore 8, 0, 0, 0, 0), (.iinc 9 1, 0, 0, 1, 0), (.goto (-75), 0, 0, 0, 0)] (by decide +kernel) rfl trivial ?_
    exact GE_weak [true, true, true, true, true, false, true, true, true, true, false] (ih (s1 + s0) x8 (x9 + 1) w)
  · refine GE_run flG_T (pc1 := 111) (L1 := [some (.inr (.inr (some (5, 0)))), some (.inl x1), some (.inl x2), some (.inl x3), some (.inl x4), none, some (.inl x6), some (.inl (s1 + s0)), some (.inl x8), some (.inl x9), some (.inl x10)]) (S1 := [.inl (-1), .inl x8]) (w1 := w) (P := True) [(.iload 8, 0, 0, 0, 0), (.iconst (-1), 0, 0, -1, 0)] (by decide +kernel) rfl trivial ?_
    refine GE_icmpN (k := .ne) (off := 8) (tgt := 119) (by decide +kernel) (by decide) (cnd_ne _ _) (fun c11 => ?_) (fun c11 => ?_)
    · refine GE_run flG_T (pc1 := 51) (L1 := [some (.inr (.inr (some (5, 0)))), some (.inl x1), some (.inl x2), some (.inl x3), some (.inl x4), none, some (.inl x6), some (.inl (s1 + s0)), some (.inl x8), some (.inl (x9 + 1)), some (.inl x10)]) (S1 := []) (w1 := w) (P := True) [(.iload 8, 0, 0, 0, 0), (.istore 8, 0, 0, 0, 0), (.iinc 9 1, 0, 0, 1, 0), (.goto (-75), 0, 0, 0, 0)] (by decide +kernel) rfl trivial ?_
      exact GE_weak [true, true, true, true, true, false, true, true, true, true, false] (ih (s1 + s0) x8 (x9 + 1) w)
    · refine GE_run flG_T (pc1 := 51) (L1 := [some (.inr (.inr (some (5, 0)))), some (.inl x1), some (.inl x2), some (.inl x3), some (.inl x4), none, some (.inl x6), some (.inl (s1 + s0)), some (.inl x9), some (.inl (x9 + 1)), some (.inl x10)]) (S1 := []) (w1 := w) (P := True) [(.iload 9, 0, 0, 0, 0), (.goto 5, 0, 0, 0, 0), (.istore 8, 0, 0, 0, 0), (.iinc 9 1, 0, 0, 1, 0), (.goto (-75), 0, 0, 0, 0)] (by decide +kernel) rfl trivial ?_
      exact GE_weak [true, true, true, true, true, false, true, true, true, true, false] (ih (s1 + s0) x9 (x9 + 1) w)
noncomputable def j_X5_lucks_86  (kl51 : Int32 → Int32 → Int32 → Mem → Option (Int32 × Mem)) (x1 : Int32) (x2 : Int32) (x3 : Int32) (x4 : Int32) (x6 : Int32) (x7 : Int32) (x8 : Int32) (x9 : Int32) (s0 : Int32) (w : Mem) : Option (Int32 × Mem) := if s0 = 0 then (j_X5_lucks_100 kl51 x1 x2 x3 x4 x6 x8 x9 s0 0 x7 w) else (j_X5_lucks_100 kl51 x1 x2 x3 x4 x6 x8 x9 s0 1 x7 w)
set_option maxRecDepth 100000 in
theorem j_X5_lucks_86_ok (l : Launch) (X : XC)  (kl51 : Int32 → Int32 → Int32 → Mem → Option (Int32 × Mem)) (x1 : Int32) (x2 : Int32) (x3 : Int32) (x4 : Int32) (x6 : Int32) (x7 : Int32) (x8 : Int32) (x9 : Int32) (s0 : Int32)  (ih : ∀ (x7 : Int32) (x8 : Int32) (x9 : Int32) (w : Mem), GE l X mm_X5_lucks 6 emI 57 flT (kl51 x7 x8 x9 w) 51 [some (.inr (.inr (some (5, 0)))), some (.inl x1), some (.inl x2), some (.inl x3), some (.inl x4), none, some (.inl x6), some (.inl x7), some (.inl x8), some (.inl x9), none] [] w) (w : Mem) : GE l X mm_X5_lucks 6 emI 57 flT (j_X5_lucks_86 kl51 x1 x2 x3 x4 x6 x7 x8 x9 s0 w) 86 [some (.inr (.inr (some (5, 0)))), some (.inl x1), some (.inl x2), some (.inl x3), some (.inl x4), none, some (.inl x6), some (.inl x7), some (.inl x8), some (.inl x9), none] [.inl s0] w := by
  unfold j_X5_lucks_86
  refine GE_run flG_T (pc1 := 92) (L1 := [some (.inr (.inr (some (5, 0)))), some (.inl x1), some (.inl x2), some (.inl x3), some (.inl x4), none, some (.inl x6), some (.inl x7), some (.inl x8), some (.inl x9), some (.inl s0)]) (S1 := [.inl s0, .inl x7]) (w1 := w) (P := True) [(.istore 10, 0, 0, 0, 0), (.iload 7, 0, 0, 0, 0), (.iload 10, 0, 0, 0, 0)] (by decide +kernel) rfl trivial ?_
  refine GE_if (k := .eq) (off := 7) (tgt := 99) (by decide +kernel) (by decide) (cnd_eq _ _) (fun c9 => ?_) (fun c9 => ?_)
  · refine GE_run flG_T (pc1 := 100) (L1 := [some (.inr (.inr (some (5, 0)))), some (.inl x1), some (.inl x2), some (.inl x3), some (.inl x4), none, some (.inl x6), some (.inl x7), some (.inl x8), some (.inl x9), some (.inl s0)]) (S1 := [.inl 0, .inl x7]) (w1 := w) (P := True) [(.iconst 0, 0, 0, 0, 0)] (by decide +kernel) rfl trivial ?_
    exact GE_weak [true, true, true, true, true, false, true, false, true, true, true] (j_X5_lucks_100_ok l X kl51 x1 x2 x3 x4 x6 x8 x9 s0 0 x7 ih w)
  · refine GE_run flG_T (pc1 := 100) (L1 := [some (.inr (.inr (some (5, 0)))), some (.inl x1), some (.inl x2), some (.inl x3), some (.inl x4), none, some (.inl x6), some (.inl x7), some (.inl x8), some (.inl x9), some (.inl s0)]) (S1 := [.inl 1, .inl x7]) (w1 := w) (P := True) [(.iconst 1, 0, 0, 1, 0), (.goto 4, 0, 0, 0, 0)] (by decide +kernel) rfl trivial ?_
    exact GE_weak [true, true, true, true, true, false, true, false, true, true, true] (j_X5_lucks_100_ok l X kl51 x1 x2 x3 x4 x6 x8 x9 s0 1 x7 ih w)
noncomputable def h_X5_lucks_51 (x1 : Int32) (x2 : Int32) (x3 : Int32) (x4 : Int32) (x6 : Int32) (k129 : Int32 → Int32 → Mem → Option (Int32 × Mem)) : Nat → Int32 → Int32 → Int32 → Mem → Option (Int32 × Mem)
  | 0, _, _, _, _ => none
  | n + 1, x7, x8, x9, w => if x9 ≤ 99 then (if inB ((3 * x3) + 2) 18 then (Option.bind (f_X5_unlike x1 x2 x3 (up w 22 0 (tn ((3 * x3) + 2)) x9)) (fun r7 => if r7.1 = (-1) then (j_X5_lucks_86 (h_X5_lucks_51 x1 x2 x3 x4 x6 k129 n) x1 x2 x3 x4 x6 x7 x8 x9 1 r7.2) else (j_X5_lucks_86 (h_X5_lucks_51 x1 x2 x3 x4 x6 k129 n) x1 x2 x3 x4 x6 x7 x8 x9 0 r7.2))) else none) else (k129 x7 x8 w)
set_option maxRecDepth 100000 in
theorem h_X5_lucks_51_ok (l : Launch) (X : XC) (x1 : Int32) (x2 : Int32) (x3 : Int32) (x4 : Int32) (x6 : Int32) (k129 : Int32 → Int32 → Mem → Option (Int32 × Mem))  (hk129 : ∀ (x7 : Int32) (x8 : Int32) (w : Mem), GE l X mm_X5_lucks 6 emI 57 flT (k129 x7 x8 w) 129 [some (.inr (.inr (some (5, 0)))), none, none, some (.inl x3), some (.inl x4), none, some (.inl x6), some (.inl x7), some (.inl x8), none, none] [] w) : ∀ (n : Nat) (x7 : Int32) (x8 : Int32) (x9 : Int32) (w : Mem), GE l X mm_X5_lucks 6 emI 57 flT ((h_X5_lucks_51 x1 x2 x3 x4 x6 k129 n) x7 x8 x9 w) 51 [some (.inr (.inr (some (5, 0)))), some (.inl x1), some (.inl x2), some (.inl x3), some (.inl x4), none, some (.inl x6), some (.inl x7), some (.inl x8), some (.inl x9), none] [] w := by
  intro n
  induction n with
  | zero => intro x7 x8 x9 w; exact GE_none
  | succ n ih =>
    intro x7 x8 x9 w
    unfold h_X5_lucks_51
    refine GE_run flG_T (pc1 := 55) (L1 := [some (.inr (.inr (some (5, 0)))), some (.inl x1), some (.inl x2), some (.inl x3), some (.inl x4), none, some (.inl x6), some (.inl x7), some (.inl x8), some (.inl x9), none]) (S1 := [.inl 99, .inl x9]) (w1 := w) (P := True) [(.iload 9, 0, 0, 0, 0), (.bipush 99, 0, 0, 99, 0)] (by decide +kernel) rfl trivial ?_
    refine GE_icmpN (k := .gt) (off := 74) (tgt := 129) (by decide +kernel) (by decide) (cnd_gt _ _) (fun c5 => ?_) (fun c5 => ?_)
    · exact GE_weak [true, false, false, true, true, false, true, true, true, false, false] (hk129 x7 x8 w)
    · refine GE_chk (fun h6 => ?_)
      refine GE_run flG_T (pc1 := 74) (L1 := [some (.inr (.inr (some (5, 0)))), some (.inl x1), some (.inl x2), some (.inl x3), some (.inl x4), none, some (.inl x6), some (.inl x7), some (.inl x8), some (.inl x9), none]) (S1 := [.inl x3, .inl x2, .inl x1, .inr (.inr (some (5, 0)))]) (w1 := up w 22 0 (tn ((3 * x3) + 2)) x9) (P := (inB ((3 * x3) + 2) 18) ∧ True) [(.aload_n 0, 0, 0, 0, 0), (.getfield 16, 5, 3, 0, 0), (.iconst 3, 0, 0, 3, 0), (.iload_n 3, 0, 0, 0, 0), (.imul, 0, 0, 0, 0), (.iconst 2, 0, 0, 2, 0), (.iadd, 0, 0, 0, 0), (.iload 9, 0, 0, 0, 0), (.iastore, 0, 0, 0, 0), (.aload_n 0, 0, 0, 0, 0), (.iload_n 1, 0, 0, 0, 0), (.iload_n 2, 0, 0, 0, 0), (.iload_n 3, 0, 0, 0, 0)] (by decide +kernel) rfl ⟨h6, trivial⟩ ?_
      refine GE_callVI (As := [.inl x1, .inl x2, .inl x3]) (k := 5) (i := 0) (S := []) (t_X5_unlike l X x1 x2 x3 (up w 22 0 (tn ((3 * x3) + 2)) x9)) (by decide) ⟨me_X5_unlike, mi_X5_unlike, mv_X5_unlike, lk_X5_236⟩ rfl (by decide +kernel) rfl (by decide) (by decide) (Nat.le_of_ble_eq_true rfl) (fun r7 _ => ?_)
      refine GE_run flG_T (pc1 := 78) (L1 := [some (.inr (.inr (some (5, 0)))), some (.inl x1), some (.inl x2), some (.inl x3), some (.inl x4), none, some (.inl x6), some (.inl x7), some (.inl x8), some (.inl x9), none]) (S1 := [.inl (-1), .inl r7.1]) (w1 := r7.2) (P := True) [(.iconst (-1), 0, 0, -1, 0)] (by decide +kernel) rfl trivial ?_
      refine GE_icmpN (k := .ne) (off := 7) (tgt := 85) (by decide +kernel) (by decide) (cnd_ne _ _) (fun c8 => ?_) (fun c8 => ?_)
      · refine GE_run flG_T (pc1 := 86) (L1 := [some (.inr (.inr (some (5, 0)))), some (.inl x1), some (.inl x2), some (.inl x3), some (.inl x4), none, some (.inl x6), some (.inl x7), some (.inl x8), some (.inl x9), none]) (S1 := [.inl 0]) (w1 := r7.2) (P := True) [(.iconst 0, 0, 0, 0, 0)] (by decide +kernel) rfl trivial ?_
        exact GE_weak [true, true, true, true, true, false, true, true, true, true, false] (j_X5_lucks_86_ok l X (h_X5_lucks_51 x1 x2 x3 x4 x6 k129 n) x1 x2 x3 x4 x6 x7 x8 x9 0 ih r7.2)
      · refine GE_run flG_T (pc1 := 86) (L1 := [some (.inr (.inr (some (5, 0)))), some (.inl x1), some (.inl x2), some (.inl x3), some (.inl x4), none, some (.inl x6), some (.inl x7), some (.inl x8), some (.inl x9), none]) (S1 := [.inl 1]) (w1 := r7.2) (P := True) [(.iconst 1, 0, 0, 1, 0), (.goto 4, 0, 0, 0, 0)] (by decide +kernel) rfl trivial ?_
        exact GE_weak [true, true, true, true, true, false, true, true, true, true, false] (j_X5_lucks_86_ok l X (h_X5_lucks_51 x1 x2 x3 x4 x6 k129 n) x1 x2 x3 x4 x6 x7 x8 x9 1 ih r7.2)
noncomputable def f_X5_lucks (a1 : Int32) (a2 : Int32) (a3 : Int32) (a4 : Int32) (w : Mem) : Option (Int32 × Mem) := Option.bind (f_X5_toldWrong a1 a2 a3 w) (fun r1 => if r1.1 = 0 then (if (rng a4 0 1) = 0 then (some ((-7), r1.2)) else (if inB ((3 * a3) + 2) 18 then (h_X5_lucks_51 a1 a2 a3 a4 (r1.2 22 0 (tn ((3 * a3) + 2))) (fun x7_12 x8_13 w14 => if inB ((3 * a3) + 2) 18 then (if a4 = 0 then (some (x7_12, up w14 22 0 (tn ((3 * a3) + 2)) (r1.2 22 0 (tn ((3 * a3) + 2))))) else (some (x8_13, up w14 22 0 (tn ((3 * a3) + 2)) (r1.2 22 0 (tn ((3 * a3) + 2)))))) else none) FU 0 (-1) 0 r1.2) else none)) else (some (r1.1, r1.2)))
set_option maxRecDepth 100000 in
theorem t_X5_lucks (l : Launch) (X : XC)  (a1 : Int32) (a2 : Int32) (a3 : Int32) (a4 : Int32) (w : Mem) : Ct l X 6 yX5_lucks cX5_lucks 11 (some .int) emI [.inr (.inr (some (5, 0))), .inl a1, .inl a2, .inl a3, .inl a4] 57 flT w (f_X5_lucks a1 a2 a3 a4 w) := by
  refine Ct_of (mi := mm_X5_lucks) (mik_X5 _ _ _) me_X5_lucks rfl (okAs_cons (by decide) (okAs_cons rfl (okAs_cons rfl (okAs_cons rfl (okAs_cons rfl okAs_nil))))) (Nat.le_of_ble_eq_true rfl) ?_
  unfold f_X5_lucks
  refine GE_run flG_T (pc1 := 4) (L1 := [some (.inr (.inr (some (5, 0)))), some (.inl a1), some (.inl a2), some (.inl a3), some (.inl a4), none, none, none, none, none, none]) (S1 := [.inl a3, .inl a2, .inl a1, .inr (.inr (some (5, 0)))]) (w1 := w) (P := True) [(.aload_n 0, 0, 0, 0, 0), (.iload_n 1, 0, 0, 0, 0), (.iload_n 2, 0, 0, 0, 0), (.iload_n 3, 0, 0, 0, 0)] (by decide +kernel) rfl trivial ?_
  refine GE_callVI (As := [.inl a1, .inl a2, .inl a3]) (k := 5) (i := 0) (S := []) (t_X5_toldWrong l X a1 a2 a3 w) (by decide) ⟨me_X5_toldWrong, mi_X5_toldWrong, mv_X5_toldWrong, lk_X5_233⟩ rfl (by decide +kernel) rfl (by decide) (by decide) (Nat.le_of_ble_eq_true rfl) (fun r1 _ => ?_)
  refine GE_run flG_T (pc1 := 11) (L1 := [some (.inr (.inr (some (5, 0)))), some (.inl a1), some (.inl a2), some (.inl a3), some (.inl a4), some (.inl r1.1), none, none, none, none, none]) (S1 := [.inl r1.1]) (w1 := r1.2) (P := True) [(.istore 5, 0, 0, 0, 0), (.iload 5, 0, 0, 0, 0)] (by decide +kernel) rfl trivial ?_
  refine GE_if (k := .eq) (off := 6) (tgt := 17) (by decide +kernel) (by decide) (cnd_eq _ _) (fun c2 => ?_) (fun c2 => ?_)
  · refine GE_run flG_T (pc1 := 21) (L1 := [some (.inr (.inr (some (5, 0)))), some (.inl a1), some (.inl a2), some (.inl a3), some (.inl a4), some (.inl r1.1), none, none, none, none, none]) (S1 := [.inl 1, .inl 0, .inl a4]) (w1 := r1.2) (P := True) [(.iload 4, 0, 0, 0, 0), (.iconst 0, 0, 0, 0, 0), (.iconst 1, 0, 0, 1, 0)] (by decide +kernel) rfl trivial ?_
    refine GE_callSIp (As := [.inl a4, .inl 0, .inl 1]) (S := []) (p_X5_in l X a4 0 1 r1.2) ⟨me_X5_in, ms_X5_in, lk_X5_72⟩ (by decide +kernel) rfl (by decide) (by decide) (Nat.le_of_ble_eq_true rfl) ?_
    refine GE_ifN (k := .ne) (off := 6) (tgt := 30) (by decide +kernel) (by decide) (cnd_ne _ _) (fun c3 => ?_) (fun c3 => ?_)
    · refine GE_chk (fun h4 => ?_)
      refine GE_run flG_T (pc1 := 51) (L1 := [some (.inr (.inr (some (5, 0)))), some (.inl a1), some (.inl a2), some (.inl a3), some (.inl a4), some (.inl r1.1), some (.inl (r1.2 22 0 (tn ((3 * a3) + 2)))), some (.inl 0), some (.inl (-1)), some (.inl 0), none]) (S1 := []) (w1 := r1.2) (P := (inB ((3 * a3) + 2) 18) ∧ True) [(.aload_n 0, 0, 0, 0, 0), (.getfield 16, 5, 3, 0, 0), (.iconst 3, 0, 0, 3, 0), (.iload_n 3, 0, 0, 0, 0), (.imul, 0, 0, 0, 0), (.iconst 2, 0, 0, 2, 0), (.iadd, 0, 0, 0, 0), (.iaload, 0, 0, 0, 0), (.istore 6, 0, 0, 0, 0), (.iconst 0, 0, 0, 0, 0), (.istore 7, 0, 0, 0, 0), (.iconst (-1), 0, 0, -1, 0), (.istore 8, 0, 0, 0, 0), (.iconst 0, 0, 0, 0, 0), (.istore 9, 0, 0, 0, 0)] (by decide +kernel) rfl ⟨h4, trivial⟩ ?_
      refine GE_weak [true, true, true, true, true, false, true, true, true, true, false] (h_X5_lucks_51_ok l X a1 a2 a3 a4 (r1.2 22 0 (tn ((3 * a3) + 2))) _ ?_ FU 0 (-1) 0 r1.2)
      · intro x7_12 x8_13 w14
        refine GE_chk (fun h15 => ?_)
        refine GE_run flG_T (pc1 := 143) (L1 := [some (.inr (.inr (some (5, 0)))), none, none, some (.inl a3), some (.inl a4), none, some (.inl (r1.2 22 0 (tn ((3 * a3) + 2)))), some (.inl x7_12), some (.inl x8_13), none, none]) (S1 := [.inl a4]) (w1 := up w14 22 0 (tn ((3 * a3) + 2)) (r1.2 22 0 (tn ((3 * a3) + 2)))) (P := (inB ((3 * a3) + 2) 18) ∧ True) [(.aload_n 0, 0, 0, 0, 0), (.getfield 16, 5, 3, 0, 0), (.iconst 3, 0, 0, 3, 0), (.iload_n 3, 0, 0, 0, 0), (.imul, 0, 0, 0, 0), (.iconst 2, 0, 0, 2, 0), (.iadd, 0, 0, 0, 0), (.iload 6, 0, 0, 0, 0), (.iastore, 0, 0, 0, 0), (.iload 4, 0, 0, 0, 0)] (by decide +kernel) rfl ⟨h15, trivial⟩ ?_
        refine GE_ifN (k := .ne) (off := 8) (tgt := 151) (by decide +kernel) (by decide) (cnd_ne _ _) (fun c16 => ?_) (fun c16 => ?_)
        · refine GE_run flG_T (pc1 := 153) (L1 := [some (.inr (.inr (some (5, 0)))), none, none, some (.inl a3), some (.inl a4), none, some (.inl (r1.2 22 0 (tn ((3 * a3) + 2)))), some (.inl x7_12), some (.inl x8_13), none, none]) (S1 := [.inl x8_13]) (w1 := up w14 22 0 (tn ((3 * a3) + 2)) (r1.2 22 0 (tn ((3 * a3) + 2)))) (P := True) [(.iload 8, 0, 0, 0, 0)] (by decide +kernel) rfl trivial ?_
          exact GE_iret rfl (by decide +kernel)
        · refine GE_run flG_T (pc1 := 153) (L1 := [some (.inr (.inr (some (5, 0)))), none, none, some (.inl a3), some (.inl a4), none, some (.inl (r1.2 22 0 (tn ((3 * a3) + 2)))), some (.inl x7_12), some (.inl x8_13), none, none]) (S1 := [.inl x7_12]) (w1 := up w14 22 0 (tn ((3 * a3) + 2)) (r1.2 22 0 (tn ((3 * a3) + 2)))) (P := True) [(.iload 7, 0, 0, 0, 0), (.goto 5, 0, 0, 0, 0)] (by decide +kernel) rfl trivial ?_
          exact GE_iret rfl (by decide +kernel)
    · refine GE_run flG_T (pc1 := 29) (L1 := [some (.inr (.inr (some (5, 0)))), some (.inl a1), some (.inl a2), some (.inl a3), some (.inl a4), some (.inl r1.1), none, none, none, none, none]) (S1 := [.inl (-7)]) (w1 := r1.2) (P := True) [(.bipush (-7), 0, 0, -7, 0)] (by decide +kernel) rfl trivial ?_
      exact GE_iret rfl (by decide +kernel)
  · refine GE_run flG_T (pc1 := 16) (L1 := [some (.inr (.inr (some (5, 0)))), some (.inl a1), some (.inl a2), some (.inl a3), some (.inl a4), some (.inl r1.1), none, none, none, none, none]) (S1 := [.inl r1.1]) (w1 := r1.2) (P := True) [(.iload 5, 0, 0, 0, 0)] (by decide +kernel) rfl trivial ?_
    exact GE_iret rfl (by decide +kernel)
abbrev mm_X5_whose : MI := (RX5, cX5_whose, 6, (some .int), ftp_X5.map (fun q => q.1), ctp_X5.map (fun q => q.1), clp_X5.map (fun q => q.1))
noncomputable def h_X5_whose_19 (x1 : Int32) (x2 : Int32) (k59 : Int32 → Mem → Option (Int32 × Mem)) : Nat → Int32 → Int32 → Mem → Option (Int32 × Mem)
  | 0, _, _, _ => none
  | n + 1, x4, x5, w => if x5 < (w 5 0 0) then (Option.bind (f_X5_unlike x1 x2 x5 w) (fun r4 => if r4.1 = (-1) then ((h_X5_whose_19 x1 x2 k59 n) (x4 ||| (shlI 1 x5)) (x5 + 1) r4.2) else ((h_X5_whose_19 x1 x2 k59 n) (x4 ||| 0) (x5 + 1) r4.2))) else (k59 x4 w)
set_option maxRecDepth 100000 in
theorem h_X5_whose_19_ok (l : Launch) (X : XC) (x1 : Int32) (x2 : Int32) (k59 : Int32 → Mem → Option (Int32 × Mem))  (hk59 : ∀ (x4 : Int32) (w : Mem), GE l X mm_X5_whose 6 emI 57 flT (k59 x4 w) 59 [none, none, none, none, some (.inl x4), none] [] w) : ∀ (n : Nat) (x4 : Int32) (x5 : Int32) (w : Mem), GE l X mm_X5_whose 6 emI 57 flT ((h_X5_whose_19 x1 x2 k59 n) x4 x5 w) 19 [some (.inr (.inr (some (5, 0)))), some (.inl x1), some (.inl x2), none, some (.inl x4), some (.inl x5)] [] w := by
  intro n
  induction n with
  | zero => intro x4 x5 w; exact GE_none
  | succ n ih =>
    intro x4 x5 w
    unfold h_X5_whose_19
    refine GE_run flG_T (pc1 := 25) (L1 := [some (.inr (.inr (some (5, 0)))), some (.inl x1), some (.inl x2), none, some (.inl x4), some (.inl x5)]) (S1 := [.inl (w 5 0 0), .inl x5]) (w1 := w) (P := True) [(.iload 5, 0, 0, 0, 0), (.aload_n 0, 0, 0, 0, 0), (.getfield 69, 5, 0, 0, 0)] (by decide +kernel) rfl trivial ?_
    refine GE_icmpN (k := .ge) (off := 34) (tgt := 59) (by decide +kernel) (by decide) (cnd_ge _ _) (fun c3 => ?_) (fun c3 => ?_)
    · exact GE_weak [false, false, false, false, true, false] (hk59 x4 w)
    · refine GE_run flG_T (pc1 := 35) (L1 := [some (.inr (.inr (some (5, 0)))), some (.inl x1), some (.inl x2), none, some (.inl x4), some (.inl x5)]) (S1 := [.inl x5, .inl x2, .inl x1, .inr (.inr (some (5, 0))), .inl x4]) (w1 := w) (P := True) [(.iload 4, 0, 0, 0, 0), (.aload_n 0, 0, 0, 0, 0), (.iload_n 1, 0, 0, 0, 0), (.iload_n 2, 0, 0, 0, 0), (.iload 5, 0, 0, 0, 0)] (by decide +kernel) rfl trivial ?_
      refine GE_callVI (As := [.inl x1, .inl x2, .inl x5]) (k := 5) (i := 0) (S := [.inl x4]) (t_X5_unlike l X x1 x2 x5 w) (by decide) ⟨me_X5_unlike, mi_X5_unlike, mv_X5_unlike, lk_X5_236⟩ rfl (by decide +kernel) rfl (by decide) (by decide) (Nat.le_of_ble_eq_true rfl) (fun r4 _ => ?_)
      refine GE_run flG_T (pc1 := 39) (L1 := [some (.inr (.inr (some (5, 0)))), some (.inl x1), some (.inl x2), none, some (.inl x4), some (.inl x5)]) (S1 := [.inl (-1), .inl r4.1, .inl x4]) (w1 := r4.2) (P := True) [(.iconst (-1), 0, 0, -1, 0)] (by decide +kernel) rfl trivial ?_
      refine GE_icmpN (k := .ne) (off := 10) (tgt := 49) (by decide +kernel) (by decide) (cnd_ne _ _) (fun c5 => ?_) (fun c5 => ?_)
      · refine GE_run flG_T (pc1 := 19) (L1 := [some (.inr (.inr (some (5, 0)))), some (.inl x1), some (.inl x2), none, some (.inl (x4 ||| 0)), some (.inl (x5 + 1))]) (S1 := []) (w1 := r4.2) (P := True) [(.iconst 0, 0, 0, 0, 0), (.ior, 0, 0, 0, 0), (.istore 4, 0, 0, 0, 0), (.iinc 5 1, 0, 0, 1, 0), (.goto (-37), 0, 0, 0, 0)] (by decide +kernel) rfl trivial ?_
        exact GE_weak [true, true, true, false, true, true] (ih (x4 ||| 0) (x5 + 1) r4.2)
      · refine GE_run flG_T (pc1 := 19) (L1 := [some (.inr (.inr (some (5, 0)))), some (.inl x1), some (.inl x2), none, some (.inl (x4 ||| (shlI 1 x5))), some (.inl (x5 + 1))]) (S1 := []) (w1 := r4.2) (P := True) [(.iconst 1, 0, 0, 1, 0), (.iload 5, 0, 0, 0, 0), (.ishl, 0, 0, 0, 0), (.goto 4, 0, 0, 0, 0), (.ior, 0, 0, 0, 0), (.istore 4, 0, 0, 0, 0), (.iinc 5 1, 0, 0, 1, 0), (.goto (-37), 0, 0, 0, 0)] (by decide +kernel) rfl trivial ?_
        exact GE_weak [true, true, true, false, true, true] (ih (x4 ||| (shlI 1 x5)) (x5 + 1) r4.2)
noncomputable def f_X5_whose (a1 : Int32) (a2 : Int32) (w : Mem) : Option (Int32 × Mem) := Option.bind (f_X5_twoWrong a1 a2 w) (fun r1 => if r1.1 = 0 then (h_X5_whose_19 a1 a2 (fun x4_6 w7 => some (x4_6, w7)) FU 0 0 r1.2) else (some (r1.1, r1.2)))
set_option maxRecDepth 100000 in
theorem t_X5_whose (l : Launch) (X : XC)  (a1 : Int32) (a2 : Int32) (w : Mem) : Ct l X 6 yX5_whose cX5_whose 6 (some .int) emI [.inr (.inr (some (5, 0))), .inl a1, .inl a2] 57 flT w (f_X5_whose a1 a2 w) := by
  refine Ct_of (mi := mm_X5_whose) (mik_X5 _ _ _) me_X5_whose rfl (okAs_cons (by decide) (okAs_cons rfl (okAs_cons rfl okAs_nil))) (Nat.le_of_ble_eq_true rfl) ?_
  unfold f_X5_whose
  refine GE_run flG_T (pc1 := 3) (L1 := [some (.inr (.inr (some (5, 0)))), some (.inl a1), some (.inl a2), none, none, none]) (S1 := [.inl a2, .inl a1, .inr (.inr (some (5, 0)))]) (w1 := w) (P := True) [(.aload_n 0, 0, 0, 0, 0), (.iload_n 1, 0, 0, 0, 0), (.iload_n 2, 0, 0, 0, 0)] (by decide +kernel) rfl trivial ?_
  refine GE_callVI (As := [.inl a1, .inl a2]) (k := 5) (i := 0) (S := []) (t_X5_twoWrong l X a1 a2 w) (by decide) ⟨me_X5_twoWrong, mi_X5_twoWrong, mv_X5_twoWrong, lk_X5_230⟩ rfl (by decide +kernel) rfl (by decide) (by decide) (Nat.le_of_ble_eq_true rfl) (fun r1 _ => ?_)
  refine GE_run flG_T (pc1 := 8) (L1 := [some (.inr (.inr (some (5, 0)))), some (.inl a1), some (.inl a2), some (.inl r1.1), none, none]) (S1 := [.inl r1.1]) (w1 := r1.2) (P := True) [(.istore_n 3, 0, 0, 0, 0), (.iload_n 3, 0, 0, 0, 0)] (by decide +kernel) rfl trivial ?_
  refine GE_if (k := .eq) (off := 5) (tgt := 13) (by decide +kernel) (by decide) (cnd_eq _ _) (fun c2 => ?_) (fun c2 => ?_)
  · refine GE_run flG_T (pc1 := 19) (L1 := [some (.inr (.inr (some (5, 0)))), some (.inl a1), some (.inl a2), some (.inl r1.1), some (.inl 0), some (.inl 0)]) (S1 := []) (w1 := r1.2) (P := True) [(.iconst 0, 0, 0, 0, 0), (.istore 4, 0, 0, 0, 0), (.iconst 0, 0, 0, 0, 0), (.istore 5, 0, 0, 0, 0)] (by decide +kernel) rfl trivial ?_
    refine GE_weak [true, true, true, false, true, true] (h_X5_whose_19_ok l X a1 a2 _ ?_ FU 0 0 r1.2)
    · intro x4_6 w7
      refine GE_run flG_T (pc1 := 61) (L1 := [none, none, none, none, some (.inl x4_6), none]) (S1 := [.inl x4_6]) (w1 := w7) (P := True) [(.iload 4, 0, 0, 0, 0)] (by decide +kernel) rfl trivial ?_
      exact GE_iret rfl (by decide +kernel)
  · refine GE_run flG_T (pc1 := 12) (L1 := [some (.inr (.inr (some (5, 0)))), some (.inl a1), some (.inl a2), some (.inl r1.1), none, none]) (S1 := [.inl r1.1]) (w1 := r1.2) (P := True) [(.iload_n 3, 0, 0, 0, 0)] (by decide +kernel) rfl trivial ?_
    exact GE_iret rfl (by decide +kernel)
abbrev mm_X5_laws : MI := (RX5, cX5_laws, 8, (some .int), ftp_X5.map (fun q => q.1), ctp_X5.map (fun q => q.1), clp_X5.map (fun q => q.1))
noncomputable def h_X5_laws_29 (x1 : Int32) (x2 : Int32) (x3 : Int32) (x5 : Int32) (k74 : Int32 → Mem → Option (Int32 × Mem)) : Nat → Int32 → Int32 → Mem → Option (Int32 × Mem)
  | 0, _, _, _ => none
  | n + 1, x6, x7, w => if x7 < (w 5 0 10) then (Option.bind (f_X5_unlike x1 x2 x3 (up w 5 0 11 x7)) (fun r4 => if r4.1 = (-1) then ((h_X5_laws_29 x1 x2 x3 x5 k74 n) (x6 ||| (shlI 1 x7)) (x7 + 1) r4.2) else ((h_X5_laws_29 x1 x2 x3 x5 k74 n) (x6 ||| 0) (x7 + 1) r4.2))) else (k74 x6 w)
set_option maxRecDepth 100000 in
theorem h_X5_laws_29_ok (l : Launch) (X : XC) (x1 : Int32) (x2 : Int32) (x3 : Int32) (x5 : Int32) (k74 : Int32 → Mem → Option (Int32 × Mem))  (hk74 : ∀ (x6 : Int32) (w : Mem), GE l X mm_X5_laws 6 emI 57 flT (k74 x6 w) 74 [some (.inr (.inr (some (5, 0)))), none, none, none, none, some (.inl x5), some (.inl x6), none] [] w) : ∀ (n : Nat) (x6 : Int32) (x7 : Int32) (w : Mem), GE l X mm_X5_laws 6 emI 57 flT ((h_X5_laws_29 x1 x2 x3 x5 k74 n) x6 x7 w) 29 [some (.inr (.inr (some (5, 0)))), some (.inl x1), some (.inl x2), some (.inl x3), none, some (.inl x5), some (.inl x6), some (.inl x7)] [] w := by
  intro n
  induction n with
  | zero => intro x6 x7 w; exact GE_none
  | succ n ih =>
    intro x6 x7 w
    unfold h_X5_laws_29
    refine GE_run flG_T (pc1 := 35) (L1 := [some (.inr (.inr (some (5, 0)))), some (.inl x1), some (.inl x2), some (.inl x3), none, some (.inl x5), some (.inl x6), some (.inl x7)]) (S1 := [.inl (w 5 0 10), .inl x7]) (w1 := w) (P := True) [(.iload 7, 0, 0, 0, 0), (.aload_n 0, 0, 0, 0, 0), (.getfield 86, 5, 10, 0, 0)] (by decide +kernel) rfl trivial ?_
    refine GE_icmpN (k := .ge) (off := 39) (tgt := 74) (by decide +kernel) (by decide) (cnd_ge _ _) (fun c3 => ?_) (fun c3 => ?_)
    · exact GE_weak [true, false, false, false, false, true, true, false] (hk74 x6 w)
    · refine GE_run flG_T (pc1 := 50) (L1 := [some (.inr (.inr (some (5, 0)))), some (.inl x1), some (.inl x2), some (.inl x3), none, some (.inl x5), some (.inl x6), some (.inl x7)]) (S1 := [.inl x3, .inl x2, .inl x1, .inr (.inr (some (5, 0))), .inl x6]) (w1 := up w 5 0 11 x7) (P := True) [(.aload_n 0, 0, 0, 0, 0), (.iload 7, 0, 0, 0, 0), (.putfield 89, 5, 11, 0, 0), (.iload 6, 0, 0, 0, 0), (.aload_n 0, 0, 0, 0, 0), (.iload_n 1, 0, 0, 0, 0), (.iload_n 2, 0, 0, 0, 0), (.iload_n 3, 0, 0, 0, 0)] (by decide +kernel) rfl trivial ?_
      refine GE_callVI (As := [.inl x1, .inl x2, .inl x3]) (k := 5) (i := 0) (S := [.inl x6]) (t_X5_unlike l X x1 x2 x3 (up w 5 0 11 x7)) (by decide) ⟨me_X5_unlike, mi_X5_unlike, mv_X5_unlike, lk_X5_236⟩ rfl (by decide +kernel) rfl (by decide) (by decide) (Nat.le_of_ble_eq_true rfl) (fun r4 _ => ?_)
      refine GE_run flG_T (pc1 := 54) (L1 := [some (.inr (.inr (some (5, 0)))), some (.inl x1), some (.inl x2), some (.inl x3), none, some (.inl x5), some (.inl x6), some (.inl x7)]) (S1 := [.inl (-1), .inl r4.1, .inl x6]) (w1 := r4.2) (P := True) [(.iconst (-1), 0, 0, -1, 0)] (by decide +kernel) rfl trivial ?_
      refine GE_icmpN (k := .ne) (off := 10) (tgt := 64) (by decide +kernel) (by decide) (cnd_ne _ _) (fun c5 => ?_) (fun c5 => ?_)
      · refine GE_run flG_T (pc1 := 29) (L1 := [some (.inr (.inr (some (5, 0)))), some (.inl x1), some (.inl x2), some (.inl x3), none, some (.inl x5), some (.inl (x6 ||| 0)), some (.inl (x7 + 1))]) (S1 := []) (w1 := r4.2) (P := True) [(.iconst 0, 0, 0, 0, 0), (.ior, 0, 0, 0, 0), (.istore 6, 0, 0, 0, 0), (.iinc 7 1, 0, 0, 1, 0), (.goto (-42), 0, 0, 0, 0)] (by decide +kernel) rfl trivial ?_
        exact GE_weak [true, true, true, true, false, true, true, true] (ih (x6 ||| 0) (x7 + 1) r4.2)
      · refine GE_run flG_T (pc1 := 29) (L1 := [some (.inr (.inr (some (5, 0)))), some (.inl x1), some (.inl x2), some (.inl x3), none, some (.inl x5), some (.inl (x6 ||| (shlI 1 x7))), some (.inl (x7 + 1))]) (S1 := []) (w1 := r4.2) (P := True) [(.iconst 1, 0, 0, 1, 0), (.iload 7, 0, 0, 0, 0), (.ishl, 0, 0, 0, 0), (.goto 4, 0, 0, 0, 0), (.ior, 0, 0, 0, 0), (.istore 6, 0, 0, 0, 0), (.iinc 7 1, 0, 0, 1, 0), (.goto (-42), 0, 0, 0, 0)] (by decide +kernel) rfl trivial ?_
        exact GE_weak [true, true, true, true, false, true, true, true] (ih (x6 ||| (shlI 1 x7)) (x7 + 1) r4.2)
noncomputable def f_X5_laws (a1 : Int32) (a2 : Int32) (a3 : Int32) (w : Mem) : Option (Int32 × Mem) := Option.bind (f_X5_toldWrong a1 a2 a3 w) (fun r1 => if r1.1 = 0 then (h_X5_laws_29 a1 a2 a3 (r1.2 5 0 11) (fun x6_6 w7 => some (x6_6, up w7 5 0 11 (r1.2 5 0 11))) FU 0 0 r1.2) else (some (r1.1, r1.2)))
set_option maxRecDepth 100000 in
theorem t_X5_laws (l : Launch) (X : XC)  (a1 : Int32) (a2 : Int32) (a3 : Int32) (w : Mem) : Ct l X 6 yX5_laws cX5_laws 8 (some .int) emI [.inr (.inr (some (5, 0))), .inl a1, .inl a2, .inl a3] 57 flT w (f_X5_laws a1 a2 a3 w) := by
  refine Ct_of (mi := mm_X5_laws) (mik_X5 _ _ _) me_X5_laws rfl (okAs_cons (by decide) (okAs_cons rfl (okAs_cons rfl (okAs_cons rfl okAs_nil)))) (Nat.le_of_ble_eq_true rfl) ?_
  unfold f_X5_laws
  refine GE_run flG_T (pc1 := 4) (L1 := [some (.inr (.inr (some (5, 0)))), some (.inl a1), some (.inl a2), some (.inl a3), none, none, none, none]) (S1 := [.inl a3, .inl a2, .inl a1, .inr (.inr (some (5, 0)))]) (w1 := w) (P := True) [(.aload_n 0, 0, 0, 0, 0), (.iload_n 1, 0, 0, 0, 0), (.iload_n 2, 0, 0, 0, 0), (.iload_n 3, 0, 0, 0, 0)] (by decide +kernel) rfl trivial ?_
  refine GE_callVI (As := [.inl a1, .inl a2, .inl a3]) (k := 5) (i := 0) (S := []) (t_X5_toldWrong l X a1 a2 a3 w) (by decide) ⟨me_X5_toldWrong, mi_X5_toldWrong, mv_X5_toldWrong, lk_X5_233⟩ rfl (by decide +kernel) rfl (by decide) (by decide) (Nat.le_of_ble_eq_true rfl) (fun r1 _ => ?_)
  refine GE_run flG_T (pc1 := 11) (L1 := [some (.inr (.inr (some (5, 0)))), some (.inl a1), some (.inl a2), some (.inl a3), some (.inl r1.1), none, none, none]) (S1 := [.inl r1.1]) (w1 := r1.2) (P := True) [(.istore 4, 0, 0, 0, 0), (.iload 4, 0, 0, 0, 0)] (by decide +kernel) rfl trivial ?_
  refine GE_if (k := .eq) (off := 6) (tgt := 17) (by decide +kernel) (by decide) (cnd_eq _ _) (fun c2 => ?_) (fun c2 => ?_)
  · refine GE_run flG_T (pc1 := 29) (L1 := [some (.inr (.inr (some (5, 0)))), some (.inl a1), some (.inl a2), some (.inl a3), some (.inl r1.1), some (.inl (r1.2 5 0 11)), some (.inl 0), some (.inl 0)]) (S1 := []) (w1 := r1.2) (P := True) [(.aload_n 0, 0, 0, 0, 0), (.getfield 89, 5, 11, 0, 0), (.istore 5, 0, 0, 0, 0), (.iconst 0, 0, 0, 0, 0), (.istore 6, 0, 0, 0, 0), (.iconst 0, 0, 0, 0, 0), (.istore 7, 0, 0, 0, 0)] (by decide +kernel) rfl trivial ?_
    refine GE_weak [true, true, true, true, false, true, true, true] (h_X5_laws_29_ok l X a1 a2 a3 (r1.2 5 0 11) _ ?_ FU 0 0 r1.2)
    · intro x6_6 w7
      refine GE_run flG_T (pc1 := 82) (L1 := [some (.inr (.inr (some (5, 0)))), none, none, none, none, some (.inl (r1.2 5 0 11)), some (.inl x6_6), none]) (S1 := [.inl x6_6]) (w1 := up w7 5 0 11 (r1.2 5 0 11)) (P := True) [(.aload_n 0, 0, 0, 0, 0), (.iload 5, 0, 0, 0, 0), (.putfield 89, 5, 11, 0, 0), (.iload 6, 0, 0, 0, 0)] (by decide +kernel) rfl trivial ?_
      exact GE_iret rfl (by decide +kernel)
  · refine GE_run flG_T (pc1 := 16) (L1 := [some (.inr (.inr (some (5, 0)))), some (.inl a1), some (.inl a2), some (.inl a3), some (.inl r1.1), none, none, none]) (S1 := [.inl r1.1]) (w1 := r1.2) (P := True) [(.iload 4, 0, 0, 0, 0)] (by decide +kernel) rfl trivial ?_
    exact GE_iret rfl (by decide +kernel)
abbrev mm_X5_film : MI := (RX5, cX5_film, 6, (some .int), ftp_X5.map (fun q => q.1), ctp_X5.map (fun q => q.1), clp_X5.map (fun q => q.1))
noncomputable def h_X5_film_59 (x1 : Int32) (x2 : Int32) (x3 : Int32) (k147 : Mem → Option (Int32 × Mem)) : Nat → Int32 → Mem → Option (Int32 × Mem)
  | 0, _, _ => none
  | n + 1, x5, w => if x5 < 40 then (if inB ((40 * x2) + x5) 160 then (if inB x1 4 then (if x5 < ((up w 30 0 (tn ((40 * x2) + x5)) 0) 29 0 (tn x1)) then (if inB ((40 * x1) + x5) 160 then (Option.bind (f_X5_landOf x3 (wiF ((up w 30 0 (tn ((40 * x2) + x5)) 0) 30 0 (tn ((40 * x1) + x5))) 0 15) (up w 30 0 (tn ((40 * x2) + x5)) 0)) (fun r14 => if inB ((3 * x3) + 2) 18 then (if inB ((40 * x2) + x5) 160 then (Option.bind (f_X5_tideOf (up r14.2 30 0 (tn ((40 * x2) + x5)) (r14.2 22 0 (tn ((3 * x3) + 2))))) (fun r17 => (h_X5_film_59 x1 x2 x3 k147 n) (x5 + 1) r17.2)) else none) else none)) else none) else ((h_X5_film_59 x1 x2 x3 k147 n) (x5 + 1) (up w 30 0 (tn ((40 * x2) + x5)) 0))) else none) else none) else (k147 w)
set_option maxRecDepth 100000 in
theorem h_X5_film_59_ok (l : Launch) (X : XC) (x1 : Int32) (x2 : Int32) (x3 : Int32) (k147 : Mem → Option (Int32 × Mem))  (hk147 : ∀  (w : Mem), GE l X mm_X5_film 5 emI 57 flT (k147 w) 147 [some (.inr (.inr (some (5, 0)))), some (.inl x1), none, none, none, none] [] w) : ∀ (n : Nat) (x5 : Int32) (w : Mem), GE l X mm_X5_film 5 emI 57 flT ((h_X5_film_59 x1 x2 x3 k147 n) x5 w) 59 [some (.inr (.inr (some (5, 0)))), some (.inl x1), some (.inl x2), some (.inl x3), none, some (.inl x5)] [] w := by
  intro n
  induction n with
  | zero => intro x5 w; exact GE_none
  | succ n ih =>
    intro x5 w
    unfold h_X5_film_59
    refine GE_run flG_T (pc1 := 63) (L1 := [some (.inr (.inr (some (5, 0)))), some (.inl x1), some (.inl x2), some (.inl x3), none, some (.inl x5)]) (S1 := [.inl 40, .inl x5]) (w1 := w) (P := True) [(.iload 5, 0, 0, 0, 0), (.bipush 40, 0, 0, 40, 0)] (by decide +kernel) rfl trivial ?_
    refine GE_icmpN (k := .ge) (off := 84) (tgt := 147) (by decide +kernel) (by decide) (cnd_ge _ _) (fun c9 => ?_) (fun c9 => ?_)
    · exact GE_weak [true, true, false, false, false, false] (hk147 w)
    · refine GE_chk (fun h10 => ?_)
      refine GE_chk (fun h11 => ?_)
      refine GE_run flG_T (pc1 := 87) (L1 := [some (.inr (.inr (some (5, 0)))), some (.inl x1), some (.inl x2), some (.inl x3), none, some (.inl x5)]) (S1 := [.inl ((up w 30 0 (tn ((40 * x2) + x5)) 0) 29 0 (tn x1)), .inl x5]) (w1 := up w 30 0 (tn ((40 * x2) + x5)) 0) (P := (inB ((40 * x2) + x5) 160) ∧ (inB x1 4) ∧ True) [(.aload_n 0, 0, 0, 0, 0), (.getfield 40, 5, 17, 0, 0), (.bipush 40, 0, 0, 40, 0), (.iload_n 2, 0, 0, 0, 0), (.imul, 0, 0, 0, 0), (.iload 5, 0, 0, 0, 0), (.iadd, 0, 0, 0, 0), (.iconst 0, 0, 0, 0, 0), (.iastore, 0, 0, 0, 0), (.iload 5, 0, 0, 0, 0), (.aload_n 0, 0, 0, 0, 0), (.getfield 37, 5, 16, 0, 0), (.iload_n 1, 0, 0, 0, 0), (.iaload, 0, 0, 0, 0)] (by decide +kernel) rfl ⟨h10, h11, trivial⟩ ?_
      refine GE_icmpN (k := .ge) (off := 54) (tgt := 141) (by decide +kernel) (by decide) (cnd_ge _ _) (fun c12 => ?_) (fun c12 => ?_)
      · refine GE_run flG_T (pc1 := 59) (L1 := [some (.inr (.inr (some (5, 0)))), some (.inl x1), some (.inl x2), some (.inl x3), none, some (.inl (x5 + 1))]) (S1 := []) (w1 := up w 30 0 (tn ((40 * x2) + x5)) 0) (P := True) [(.iinc 5 1, 0, 0, 1, 0), (.goto (-85), 0, 0, 0, 0)] (by decide +kernel) rfl trivial ?_
        exact GE_weak [true, true, true, true, false, true] (ih (x5 + 1) (up w 30 0 (tn ((40 * x2) + x5)) 0))
      · refine GE_chk (fun h13 => ?_)
        refine GE_run flG_T (pc1 := 107) (L1 := [some (.inr (.inr (some (5, 0)))), some (.inl x1), some (.inl x2), some (.inl x3), none, some (.inl x5)]) (S1 := [.inl 15, .inl 0, .inl ((up w 30 0 (tn ((40 * x2) + x5)) 0) 30 0 (tn ((40 * x1) + x5))), .inl x3, .inr (.inr (some (5, 0)))]) (w1 := up w 30 0 (tn ((40 * x2) + x5)) 0) (P := (inB ((40 * x1) + x5) 160) ∧ True) [(.aload_n 0, 0, 0, 0, 0), (.iload_n 3, 0, 0, 0, 0), (.aload_n 0, 0, 0, 0, 0), (.getfield 40, 5, 17, 0, 0), (.bipush 40, 0, 0, 40, 0), (.iload_n 1, 0, 0, 0, 0), (.imul, 0, 0, 0, 0), (.iload 5, 0, 0, 0, 0), (.iadd, 0, 0, 0, 0), (.iaload, 0, 0, 0, 0), (.iconst 0, 0, 0, 0, 0), (.bipush 15, 0, 0, 15, 0)] (by decide +kernel) rfl ⟨h13, trivial⟩ ?_
        refine GE_callSIp (As := [.inl ((up w 30 0 (tn ((40 * x2) + x5)) 0) 30 0 (tn ((40 * x1) + x5))), .inl 0, .inl 15]) (S := [.inl x3, .inr (.inr (some (5, 0)))]) (p_X5_within l X ((up w 30 0 (tn ((40 * x2) + x5)) 0) 30 0 (tn ((40 * x1) + x5))) 0 15 (up w 30 0 (tn ((40 * x2) + x5)) 0)) ⟨me_X5_within, ms_X5_within, lk_X5_159⟩ (by decide +kernel) rfl (by decide) (by decide) (Nat.le_of_ble_eq_true rfl) ?_
        refine GE_callVI (As := [.inl x3, .inl (wiF ((up w 30 0 (tn ((40 * x2) + x5)) 0) 30 0 (tn ((40 * x1) + x5))) 0 15)]) (k := 5) (i := 0) (S := []) (t_X5_landOf l X x3 (wiF ((up w 30 0 (tn ((40 * x2) + x5)) 0) 30 0 (tn ((40 * x1) + x5))) 0 15) (up w 30 0 (tn ((40 * x2) + x5)) 0)) (by decide) ⟨me_X5_landOf, mi_X5_landOf, mv_X5_landOf, lk_X5_183⟩ rfl (by decide +kernel) rfl (by decide) (by decide) (Nat.le_of_ble_eq_true rfl) (fun r14 _ => ?_)
        refine GE_chk (fun h15 => ?_)
        refine GE_chk (fun h16 => ?_)
        refine GE_run flG_T (pc1 := 137) (L1 := [some (.inr (.inr (some (5, 0)))), some (.inl x1), some (.inl x2), some (.inl x3), none, some (.inl x5)]) (S1 := [.inr (.inr (some (5, 0)))]) (w1 := up r14.2 30 0 (tn ((40 * x2) + x5)) (r14.2 22 0 (tn ((3 * x3) + 2)))) (P := (inB ((3 * x3) + 2) 18) ∧ (inB ((40 * x2) + x5) 160) ∧ True) [(.pop, 0, 0, 0, 0), (.aload_n 0, 0, 0, 0, 0), (.getfield 40, 5, 17, 0, 0), (.bipush 40, 0, 0, 40, 0), (.iload_n 2, 0, 0, 0, 0), (.imul, 0, 0, 0, 0), (.iload 5, 0, 0, 0, 0), (.iadd, 0, 0, 0, 0), (.aload_n 0, 0, 0, 0, 0), (.getfield 16, 5, 3, 0, 0), (.iconst 3, 0, 0, 3, 0), (.iload_n 3, 0, 0, 0, 0), (.imul, 0, 0, 0, 0), (.iconst 2, 0, 0, 2, 0), (.iadd, 0, 0, 0, 0), (.iaload, 0, 0, 0, 0), (.iastore, 0, 0, 0, 0), (.aload_n 0, 0, 0, 0, 0)] (by decide +kernel) rfl ⟨h15, h16, trivial⟩ ?_
        refine GE_callVI (As := []) (k := 5) (i := 0) (S := []) (t_X5_tideOf l X (up r14.2 30 0 (tn ((40 * x2) + x5)) (r14.2 22 0 (tn ((3 * x3) + 2))))) (by decide) ⟨me_X5_tideOf, mi_X5_tideOf, mv_X5_tideOf, lk_X5_189⟩ rfl (by decide +kernel) rfl (by decide) (by decide) (Nat.le_of_ble_eq_true rfl) (fun r17 _ => ?_)
        refine GE_run flG_T (pc1 := 59) (L1 := [some (.inr (.inr (some (5, 0)))), some (.inl x1), some (.inl x2), some (.inl x3), none, some (.inl (x5 + 1))]) (S1 := []) (w1 := r17.2) (P := True) [(.pop, 0, 0, 0, 0), (.iinc 5 1, 0, 0, 1, 0), (.goto (-85), 0, 0, 0, 0)] (by decide +kernel) rfl trivial ?_
        exact GE_weak [true, true, true, true, false, true] (ih (x5 + 1) r17.2)
noncomputable def f_X5_film (a1 : Int32) (a2 : Int32) (a3 : Int32) (w : Mem) : Option (Int32 × Mem) := if (rng a2 0 3) = 0 then (some ((-2), w)) else (if a1 = a2 then (some ((-2), w)) else (Option.bind (f_X5_oneWrong a1 a3 w) (fun r3 => if r3.1 = 0 then (if inB a2 4 then (if inB a1 4 then (if inB a2 4 then (Option.bind (f_X5_keeps (up (up r3.2 28 0 (tn a2) 0) 29 0 (tn a2) ((up r3.2 28 0 (tn a2) 0) 29 0 (tn a1)))) (fun r8 => h_X5_film_59 a1 a2 a3 (fun w18 => Option.bind (f_X5_lays w18) (fun r19 => if inB a1 4 then (some (r19 29 0 (tn a1), r19)) else none)) FU 0 r8)) else none) else none) else none) else (some (r3.1, r3.2)))))
set_option maxRecDepth 100000 in
theorem t_X5_film (l : Launch) (X : XC)  (a1 : Int32) (a2 : Int32) (a3 : Int32) (w : Mem) : Ct l X 5 yX5_film cX5_film 6 (some .int) emI [.inr (.inr (some (5, 0))), .inl a1, .inl a2, .inl a3] 57 flT w (f_X5_film a1 a2 a3 w) := by
  refine Ct_of (mi := mm_X5_film) (mik_X5 _ _ _) me_X5_film rfl (okAs_cons (by decide) (okAs_cons rfl (okAs_cons rfl (okAs_cons rfl okAs_nil)))) (Nat.le_of_ble_eq_true rfl) ?_
  unfold f_X5_film
  refine GE_run flG_T (pc1 := 3) (L1 := [some (.inr (.inr (some (5, 0)))), some (.inl a1), some (.inl a2), some (.inl a3), none, none]) (S1 := [.inl 3, .inl 0, .inl a2]) (w1 := w) (P := True) [(.iload_n 2, 0, 0, 0, 0), (.iconst 0, 0, 0, 0, 0), (.iconst 3, 0, 0, 3, 0)] (by decide +kernel) rfl trivial ?_
  refine GE_callSIp (As := [.inl a2, .inl 0, .inl 3]) (S := []) (p_X5_in l X a2 0 3 w) ⟨me_X5_in, ms_X5_in, lk_X5_72⟩ (by decide +kernel) rfl (by decide) (by decide) (Nat.le_of_ble_eq_true rfl) ?_
  refine GE_if (k := .eq) (off := 8) (tgt := 14) (by decide +kernel) (by decide) (cnd_eq _ _) (fun c1 => ?_) (fun c1 => ?_)
  · refine GE_run flG_T (pc1 := 16) (L1 := [some (.inr (.inr (some (5, 0)))), some (.inl a1), some (.inl a2), some (.inl a3), none, none]) (S1 := [.inl (-2)]) (w1 := w) (P := True) [(.bipush (-2), 0, 0, -2, 0)] (by decide +kernel) rfl trivial ?_
    exact GE_iret rfl (by decide +kernel)
  · refine GE_run flG_T (pc1 := 11) (L1 := [some (.inr (.inr (some (5, 0)))), some (.inl a1), some (.inl a2), some (.inl a3), none, none]) (S1 := [.inl a2, .inl a1]) (w1 := w) (P := True) [(.iload_n 1, 0, 0, 0, 0), (.iload_n 2, 0, 0, 0, 0)] (by decide +kernel) rfl trivial ?_
    refine GE_icmpN (k := .ne) (off := 6) (tgt := 17) (by decide +kernel) (by decide) (cnd_ne _ _) (fun c2 => ?_) (fun c2 => ?_)
    · refine GE_run flG_T (pc1 := 20) (L1 := [some (.inr (.inr (some (5, 0)))), some (.inl a1), some (.inl a2), some (.inl a3), none, none]) (S1 := [.inl a3, .inl a1, .inr (.inr (some (5, 0)))]) (w1 := w) (P := True) [(.aload_n 0, 0, 0, 0, 0), (.iload_n 1, 0, 0, 0, 0), (.iload_n 3, 0, 0, 0, 0)] (by decide +kernel) rfl trivial ?_
      refine GE_callVI (As := [.inl a1, .inl a3]) (k := 5) (i := 0) (S := []) (t_X5_oneWrong l X a1 a3 w) (by decide) ⟨me_X5_oneWrong, mi_X5_oneWrong, mv_X5_oneWrong, lk_X5_198⟩ rfl (by decide +kernel) rfl (by decide) (by decide) (Nat.le_of_ble_eq_true rfl) (fun r3 _ => ?_)
      refine GE_run flG_T (pc1 := 27) (L1 := [some (.inr (.inr (some (5, 0)))), some (.inl a1), some (.inl a2), some (.inl a3), some (.inl r3.1), none]) (S1 := [.inl r3.1]) (w1 := r3.2) (P := True) [(.istore 4, 0, 0, 0, 0), (.iload 4, 0, 0, 0, 0)] (by decide +kernel) rfl trivial ?_
      refine GE_if (k := .eq) (off := 6) (tgt := 33) (by decide +kernel) (by decide) (cnd_eq _ _) (fun c4 => ?_) (fun c4 => ?_)
      · refine GE_chk (fun h5 => ?_)
        refine GE_chk (fun h6 => ?_)
        refine GE_chk (fun h7 => ?_)
        refine GE_run flG_T (pc1 := 53) (L1 := [some (.inr (.inr (some (5, 0)))), some (.inl a1), some (.inl a2), some (.inl a3), some (.inl r3.1), none]) (S1 := [.inr (.inr (some (5, 0)))]) (w1 := up (up r3.2 28 0 (tn a2) 0) 29 0 (tn a2) ((up r3.2 28 0 (tn a2) 0) 29 0 (tn a1))) (P := (inB a2 4) ∧ (inB a1 4) ∧ (inB a2 4) ∧ True) [(.aload_n 0, 0, 0, 0, 0), (.getfield 34, 5, 15, 0, 0), (.iload_n 2, 0, 0, 0, 0), (.iconst 0, 0, 0, 0, 0), (.iastore, 0, 0, 0, 0), (.aload_n 0, 0, 0, 0, 0), (.getfield 37, 5, 16, 0, 0), (.iload_n 2, 0, 0, 0, 0), (.aload_n 0, 0, 0, 0, 0), (.getfield 37, 5, 16, 0, 0), (.iload_n 1, 0, 0, 0, 0), (.iaload, 0, 0, 0, 0), (.iastore, 0, 0, 0, 0), (.aload_n 0, 0, 0, 0, 0)] (by decide +kernel) rfl ⟨h5, h6, h7, trivial⟩ ?_
        refine GE_callVV (As := []) (k := 5) (i := 0) (S := []) (t_X5_keeps l X (up (up r3.2 28 0 (tn a2) 0) 29 0 (tn a2) ((up r3.2 28 0 (tn a2) 0) 29 0 (tn a1)))) (by decide) ⟨me_X5_keeps, mi_X5_keeps, mv_X5_keeps, lk_X5_201⟩ rfl (by decide +kernel) rfl (by decide) (by decide) (Nat.le_of_ble_eq_true rfl) (fun r8 _ => ?_)
        refine GE_run flG_T (pc1 := 59) (L1 := [some (.inr (.inr (some (5, 0)))), some (.inl a1), some (.inl a2), some (.inl a3), some (.inl r3.1), some (.inl 0)]) (S1 := []) (w1 := r8) (P := True) [(.iconst 0, 0, 0, 0, 0), (.istore 5, 0, 0, 0, 0)] (by decide +kernel) rfl trivial ?_
        refine GE_weak [true, true, true, true, false, true] (h_X5_film_59_ok l X a1 a2 a3 _ ?_ FU 0 r8)
        · intro w18
          refine GE_run flG_T (pc1 := 148) (L1 := [some (.inr (.inr (some (5, 0)))), some (.inl a1), none, none, none, none]) (S1 := [.inr (.inr (some (5, 0)))]) (w1 := w18) (P := True) [(.aload_n 0, 0, 0, 0, 0)] (by decide +kernel) rfl trivial ?_
          refine GE_callVV (As := []) (k := 5) (i := 0) (S := []) (t_X5_lays l X w18) (by decide) ⟨me_X5_lays, mi_X5_lays, mv_X5_lays, lk_X5_208⟩ rfl (by decide +kernel) rfl (by decide) (by decide) (Nat.le_of_ble_eq_true rfl) (fun r19 _ => ?_)
          refine GE_chk (fun h20 => ?_)
          refine GE_run flG_T (pc1 := 157) (L1 := [some (.inr (.inr (some (5, 0)))), some (.inl a1), none, none, none, none]) (S1 := [.inl (r19 29 0 (tn a1))]) (w1 := r19) (P := (inB a1 4) ∧ True) [(.aload_n 0, 0, 0, 0, 0), (.getfield 37, 5, 16, 0, 0), (.iload_n 1, 0, 0, 0, 0), (.iaload, 0, 0, 0, 0)] (by decide +kernel) rfl ⟨h20, trivial⟩ ?_
          exact GE_iret rfl (by decide +kernel)
      · refine GE_run flG_T (pc1 := 32) (L1 := [some (.inr (.inr (some (5, 0)))), some (.inl a1), some (.inl a2), some (.inl a3), some (.inl r3.1), none]) (S1 := [.inl r3.1]) (w1 := r3.2) (P := True) [(.iload 4, 0, 0, 0, 0)] (by decide +kernel) rfl trivial ?_
        exact GE_iret rfl (by decide +kernel)
    · refine GE_run flG_T (pc1 := 16) (L1 := [some (.inr (.inr (some (5, 0)))), some (.inl a1), some (.inl a2), some (.inl a3), none, none]) (S1 := [.inl (-2)]) (w1 := w) (P := True) [(.bipush (-2), 0, 0, -2, 0)] (by decide +kernel) rfl trivial ?_
      exact GE_iret rfl (by decide +kernel)
abbrev mm_X5_lotSeasons : MI := (RX5, cX5_lotSeasons, 7, (some .int), ftp_X5.map (fun q => q.1), ctp_X5.map (fun q => q.1), clp_X5.map (fun q => q.1))
noncomputable def j_X5_lotSeasons_73  (kl12 : Int64 → Int32 → Mem → Option (Int32 × Mem)) (x2 : Int32) (x3 : Int64) (x5 : Int32) (w : Mem) : Option (Int32 × Mem) := if ¬ (3 : Int32) = 0 then (if (rmI x5 3) = 2 then (Option.bind (f_X5_tideOf w) (fun r11 => kl12 x3 (x5 + 1) r11.2)) else (kl12 x3 (x5 + 1) w)) else none
set_option maxRecDepth 100000 in
theorem j_X5_lotSeasons_73_ok (l : Launch) (X : XC)  (kl12 : Int64 → Int32 → Mem → Option (Int32 × Mem)) (x2 : Int32) (x3 : Int64) (x5 : Int32)  (ih : ∀ (x3 : Int64) (x5 : Int32) (w : Mem), GE l X mm_X5_lotSeasons 5 emI 57 flT (kl12 x3 x5 w) 12 [some (.inr (.inr (some (5, 0)))), none, some (.inl x2), some (.inr (.inl x3)), none, some (.inl x5), none] [] w) (w : Mem) : GE l X mm_X5_lotSeasons 5 emI 57 flT (j_X5_lotSeasons_73 kl12 x2 x3 x5 w) 73 [some (.inr (.inr (some (5, 0)))), none, some (.inl x2), some (.inr (.inl x3)), none, some (.inl x5), none] [] w := by
  unfold j_X5_lotSeasons_73
  refine GE_chk (fun h9 => ?_)
  refine GE_run flG_T (pc1 := 78) (L1 := [some (.inr (.inr (some (5, 0)))), none, some (.inl x2), some (.inr (.inl x3)), none, some (.inl x5), none]) (S1 := [.inl 2, .inl (rmI x5 3)]) (w1 := w) (P := (¬ (3 : Int32) = 0) ∧ True) [(.iload 5, 0, 0, 0, 0), (.iconst 3, 0, 0, 3, 0), (.irem, 0, 0, 0, 0), (.iconst 2, 0, 0, 2, 0)] (by decide +kernel) rfl ⟨h9, trivial⟩ ?_
  refine GE_icmpN (k := .ne) (off := 8) (tgt := 86) (by decide +kernel) (by decide) (cnd_ne _ _) (fun c10 => ?_) (fun c10 => ?_)
  · refine GE_run flG_T (pc1 := 12) (L1 := [some (.inr (.inr (some (5, 0)))), none, some (.inl x2), some (.inr (.inl x3)), none, some (.inl (x5 + 1)), none]) (S1 := []) (w1 := w) (P := True) [(.iinc 5 1, 0, 0, 1, 0), (.goto (-77), 0, 0, 0, 0)] (by decide +kernel) rfl trivial ?_
    exact GE_weak [true, false, true, true, false, true, false] (ih x3 (x5 + 1) w)
  · refine GE_run flG_T (pc1 := 82) (L1 := [some (.inr (.inr (some (5, 0)))), none, some (.inl x2), some (.inr (.inl x3)), none, some (.inl x5), none]) (S1 := [.inr (.inr (some (5, 0)))]) (w1 := w) (P := True) [(.aload_n 0, 0, 0, 0, 0)] (by decide +kernel) rfl trivial ?_
    refine GE_callVI (As := []) (k := 5) (i := 0) (S := []) (t_X5_tideOf l X w) (by decide) ⟨me_X5_tideOf, mi_X5_tideOf, mv_X5_tideOf, lk_X5_189⟩ rfl (by decide +kernel) rfl (by decide) (by decide) (Nat.le_of_ble_eq_true rfl) (fun r11 _ => ?_)
    refine GE_run flG_T (pc1 := 12) (L1 := [some (.inr (.inr (some (5, 0)))), none, some (.inl x2), some (.inr (.inl x3)), none, some (.inl (x5 + 1)), none]) (S1 := []) (w1 := r11.2) (P := True) [(.pop, 0, 0, 0, 0), (.iinc 5 1, 0, 0, 1, 0), (.goto (-77), 0, 0, 0, 0)] (by decide +kernel) rfl trivial ?_
    exact GE_weak [true, false, true, true, false, true, false] (ih x3 (x5 + 1) r11.2)
noncomputable def h_X5_lotSeasons_12 (x2 : Int32) (k92 : Mem → Option (Int32 × Mem)) : Nat → Int64 → Int32 → Mem → Option (Int32 × Mem)
  | 0, _, _, _ => none
  | n + 1, x3, x5, w => if x5 < x2 then (if ¬ (2147483647 : Int64) = 0 then (if ¬ (6 : Int64) = 0 then (if ¬ (2147483647 : Int64) = 0 then (if (wiF (Int64.toInt32 (rmL (rmL (x3 * 48271) 2147483647) 6)) 0 5) < (w 5 0 0) then (if ¬ (16 : Int64) = 0 then (Option.bind (f_X5_landOf (wiF (Int64.toInt32 (rmL (rmL (x3 * 48271) 2147483647) 6)) 0 5) (Int64.toInt32 (rmL (rmL ((rmL (x3 * 48271) 2147483647) * 48271) 2147483647) 16)) w) (fun r8 => j_X5_lotSeasons_73 (h_X5_lotSeasons_12 x2 k92 n) x2 (rmL ((rmL (x3 * 48271) 2147483647) * 48271) 2147483647) x5 r8.2)) else none) else (j_X5_lotSeasons_73 (h_X5_lotSeasons_12 x2 k92 n) x2 (rmL ((rmL (x3 * 48271) 2147483647) * 48271) 2147483647) x5 w)) else none) else none) else none) else (k92 w)
set_option maxRecDepth 100000 in
theorem h_X5_lotSeasons_12_ok (l : Launch) (X : XC) (x2 : Int32) (k92 : Mem → Option (Int32 × Mem))  (hk92 : ∀  (w : Mem), GE l X mm_X5_lotSeasons 5 emI 57 flT (k92 w) 92 [some (.inr (.inr (some (5, 0)))), none, none, none, none, none, none] [] w) : ∀ (n : Nat) (x3 : Int64) (x5 : Int32) (w : Mem), GE l X mm_X5_lotSeasons 5 emI 57 flT ((h_X5_lotSeasons_12 x2 k92 n) x3 x5 w) 12 [some (.inr (.inr (some (5, 0)))), none, some (.inl x2), some (.inr (.inl x3)), none, some (.inl x5), none] [] w := by
  intro n
  induction n with
  | zero => intro x3 x5 w; exact GE_none
  | succ n ih =>
    intro x3 x5 w
    unfold h_X5_lotSeasons_12
    refine GE_run flG_T (pc1 := 15) (L1 := [some (.inr (.inr (some (5, 0)))), none, some (.inl x2), some (.inr (.inl x3)), none, some (.inl x5), none]) (S1 := [.inl x2, .inl x5]) (w1 := w) (P := True) [(.iload 5, 0, 0, 0, 0), (.iload_n 2, 0, 0, 0, 0)] (by decide +kernel) rfl trivial ?_
    refine GE_icmpN (k := .ge) (off := 77) (tgt := 92) (by decide +kernel) (by decide) (cnd_ge _ _) (fun c2 => ?_) (fun c2 => ?_)
    · exact GE_weak [true, false, false, false, false, false, false] (hk92 w)
    · refine GE_chk (fun h3 => ?_)
      refine GE_chk (fun h4 => ?_)
      refine GE_run flG_T (pc1 := 36) (L1 := [some (.inr (.inr (some (5, 0)))), none, some (.inl x2), some (.inr (.inl (rmL (x3 * 48271) 2147483647))), none, some (.inl x5), none]) (S1 := [.inl 5, .inl 0, .inl (Int64.toInt32 (rmL (rmL (x3 * 48271) 2147483647) 6))]) (w1 := w) (P := (¬ (2147483647 : Int64) = 0) ∧ (¬ (6 : Int64) = 0) ∧ True) [(.lload_n 3, 0, 0, 0, 0), (.ldc2_w 239, 0, 0, 0, 48271), (.lmul, 0, 0, 0, 0), (.ldc2_w 241, 0, 0, 0, 2147483647), (.lrem, 0, 0, 0, 0), (.lstore_n 3, 0, 0, 0, 0), (.lload_n 3, 0, 0, 0, 0), (.ldc2_w 243, 0, 0, 0, 6), (.lrem, 0, 0, 0, 0), (.l2i, 0, 0, 0, 0), (.iconst 0, 0, 0, 0, 0), (.iconst 5, 0, 0, 5, 0)] (by decide +kernel) rfl ⟨h3, h4, trivial⟩ ?_
      refine GE_callSIp (As := [.inl (Int64.toInt32 (rmL (rmL (x3 * 48271) 2147483647) 6)), .inl 0, .inl 5]) (S := []) (p_X5_within l X (Int64.toInt32 (rmL (rmL (x3 * 48271) 2147483647) 6)) 0 5 w) ⟨me_X5_within, ms_X5_within, lk_X5_159⟩ (by decide +kernel) rfl (by decide) (by decide) (Nat.le_of_ble_eq_true rfl) ?_
      refine GE_chk (fun h5 => ?_)
      refine GE_run flG_T (pc1 := 57) (L1 := [some (.inr (.inr (some (5, 0)))), none, some (.inl x2), some (.inr (.inl (rmL ((rmL (x3 * 48271) 2147483647) * 48271) 2147483647))), none, some (.inl x5), some (.inl (wiF (Int64.toInt32 (rmL (rmL (x3 * 48271) 2147483647) 6)) 0 5))]) (S1 := [.inl (w 5 0 0), .inl (wiF (Int64.toInt32 (rmL (rmL (x3 * 48271) 2147483647) 6)) 0 5)]) (w1 := w) (P := (¬ (2147483647 : Int64) = 0) ∧ True) [(.istore 6, 0, 0, 0, 0), (.lload_n 3, 0, 0, 0, 0), (.ldc2_w 239, 0, 0, 0, 48271), (.lmul, 0, 0, 0, 0), (.ldc2_w 241, 0, 0, 0, 2147483647), (.lrem, 0, 0, 0, 0), (.lstore_n 3, 0, 0, 0, 0), (.iload 6, 0, 0, 0, 0), (.aload_n 0, 0, 0, 0, 0), (.getfield 69, 5, 0, 0, 0)] (by decide +kernel) rfl ⟨h5, trivial⟩ ?_
      refine GE_icmpN (k := .ge) (off := 16) (tgt := 73) (by decide +kernel) (by decide) (cnd_ge _ _) (fun c6 => ?_) (fun c6 => ?_)
      · exact GE_weak [true, false, true, true, false, true, false] (j_X5_lotSeasons_73_ok l X (h_X5_lotSeasons_12 x2 k92 n) x2 (rmL ((rmL (x3 * 48271) 2147483647) * 48271) 2147483647) x5 ih w)
      · refine GE_chk (fun h7 => ?_)
        refine GE_run flG_T (pc1 := 69) (L1 := [some (.inr (.inr (some (5, 0)))), none, some (.inl x2), some (.inr (.inl (rmL ((rmL (x3 * 48271) 2147483647) * 48271) 2147483647))), none, some (.inl x5), some (.inl (wiF (Int64.toInt32 (rmL (rmL (x3 * 48271) 2147483647) 6)) 0 5))]) (S1 := [.inl (Int64.toInt32 (rmL (rmL ((rmL (x3 * 48271) 2147483647) * 48271) 2147483647) 16)), .inl (wiF (Int64.toInt32 (rmL (rmL (x3 * 48271) 2147483647) 6)) 0 5), .inr (.inr (some (5, 0)))]) (w1 := w) (P := (¬ (16 : Int64) = 0) ∧ True) [(.aload_n 0, 0, 0, 0, 0), (.iload 6, 0, 0, 0, 0), (.lload_n 3, 0, 0, 0, 0), (.ldc2_w 245, 0, 0, 0, 16), (.lrem, 0, 0, 0, 0), (.l2i, 0, 0, 0, 0)] (by decide +kernel) rfl ⟨h7, trivial⟩ ?_
        refine GE_callVI (As := [.inl (wiF (Int64.toInt32 (rmL (rmL (x3 * 48271) 2147483647) 6)) 0 5), .inl (Int64.toInt32 (rmL (rmL ((rmL (x3 * 48271) 2147483647) * 48271) 2147483647) 16))]) (k := 5) (i := 0) (S := []) (t_X5_landOf l X (wiF (Int64.toInt32 (rmL (rmL (x3 * 48271) 2147483647) 6)) 0 5) (Int64.toInt32 (rmL (rmL ((rmL (x3 * 48271) 2147483647) * 48271) 2147483647) 16)) w) (by decide) ⟨me_X5_landOf, mi_X5_landOf, mv_X5_landOf, lk_X5_183⟩ rfl (by decide +kernel) rfl (by decide) (by decide) (Nat.le_of_ble_eq_true rfl) (fun r8 _ => ?_)
        refine GE_run flG_T (pc1 := 73) (L1 := [some (.inr (.inr (some (5, 0)))), none, some (.inl x2), some (.inr (.inl (rmL ((rmL (x3 * 48271) 2147483647) * 48271) 2147483647))), none, some (.inl x5), some (.inl (wiF (Int64.toInt32 (rmL (rmL (x3 * 48271) 2147483647) 6)) 0 5))]) (S1 := []) (w1 := r8.2) (P := True) [(.pop, 0, 0, 0, 0)] (by decide +kernel) rfl trivial ?_
        exact GE_weak [true, false, true, true, false, true, false] (j_X5_lotSeasons_73_ok l X (h_X5_lotSeasons_12 x2 k92 n) x2 (rmL ((rmL (x3 * 48271) 2147483647) * 48271) 2147483647) x5 ih r8.2)
noncomputable def h_X5_lotSeasons_98  (k127 : Int32 → Mem → Option (Int32 × Mem)) : Nat → Int32 → Int32 → Mem → Option (Int32 × Mem)
  | 0, _, _, _ => none
  | n + 1, x5, x6, w => if x6 < (w 5 0 0) then (if inB (3 * x6) 18 then ((h_X5_lotSeasons_98 k127 n) (x5 ||| (w 22 0 (tn (3 * x6)))) (x6 + 1) w) else none) else (k127 x5 w)
set_option maxRecDepth 100000 in
theorem h_X5_lotSeasons_98_ok (l : Launch) (X : XC)  (k127 : Int32 → Mem → Option (Int32 × Mem))  (hk127 : ∀ (x5 : Int32) (w : Mem), GE l X mm_X5_lotSeasons 5 emI 57 flT (k127 x5 w) 127 [some (.inr (.inr (some (5, 0)))), none, none, none, none, some (.inl x5), none] [] w) : ∀ (n : Nat) (x5 : Int32) (x6 : Int32) (w : Mem), GE l X mm_X5_lotSeasons 5 emI 57 flT ((h_X5_lotSeasons_98 k127 n) x5 x6 w) 98 [some (.inr (.inr (some (5, 0)))), none, none, none, none, some (.inl x5), some (.inl x6)] [] w := by
  intro n
  induction n with
  | zero => intro x5 x6 w; exact GE_none
  | succ n ih =>
    intro x5 x6 w
    unfold h_X5_lotSeasons_98
    refine GE_run flG_T (pc1 := 104) (L1 := [some (.inr (.inr (some (5, 0)))), none, none, none, none, some (.inl x5), some (.inl x6)]) (S1 := [.inl (w 5 0 0), .inl x6]) (w1 := w) (P := True) [(.iload 6, 0, 0, 0, 0), (.aload_n 0, 0, 0, 0, 0), (.getfield 69, 5, 0, 0, 0)] (by decide +kernel) rfl trivial ?_
    refine GE_icmpN (k := .ge) (off := 23) (tgt := 127) (by decide +kernel) (by decide) (cnd_ge _ _) (fun c13 => ?_) (fun c13 => ?_)
    · exact GE_weak [true, false, false, false, false, true, false] (hk127 x5 w)
    · refine GE_chk (fun h14 => ?_)
      refine GE_run flG_T (pc1 := 98) (L1 := [some (.inr (.inr (some (5, 0)))), none, none, none, none, some (.inl (x5 ||| (w 22 0 (tn (3 * x6))))), some (.inl (x6 + 1))]) (S1 := []) (w1 := w) (P := (inB (3 * x6) 18) ∧ True) [(.iload 5, 0, 0, 0, 0), (.aload_n 0, 0, 0, 0, 0), (.getfield 16, 5, 3, 0, 0), (.iconst 3, 0, 0, 3, 0), (.iload 6, 0, 0, 0, 0), (.imul, 0, 0, 0, 0), (.iaload, 0, 0, 0, 0), (.ior, 0, 0, 0, 0), (.istore 5, 0, 0, 0, 0), (.iinc 6 1, 0, 0, 1, 0), (.goto (-26), 0, 0, 0, 0)] (by decide +kernel) rfl ⟨h14, trivial⟩ ?_
      exact GE_weak [true, false, false, false, false, true, true] (ih (x5 ||| (w 22 0 (tn (3 * x6)))) (x6 + 1) w)
noncomputable def f_X5_lotSeasons (a1 : Int32) (a2 : Int32) (w : Mem) : Option (Int32 × Mem) := Option.bind (f_X5_keeps w) (fun r1 => h_X5_lotSeasons_12 a2 (fun w12 => h_X5_lotSeasons_98 (fun x5_15 w16 => Option.bind (f_X5_lays (up w16 5 0 33 (w16 5 0 4))) (fun r17 => some (bitsF x5_15, r17))) FU 0 0 w12) FU ((Int32.toInt64 a1) + 1) 0 r1)
set_option maxRecDepth 100000 in
theorem t_X5_lotSeasons (l : Launch) (X : XC)  (a1 : Int32) (a2 : Int32) (w : Mem) : Ct l X 5 yX5_lotSeasons cX5_lotSeasons 7 (some .int) emI [.inr (.inr (some (5, 0))), .inl a1, .inl a2] 57 flT w (f_X5_lotSeasons a1 a2 w) := by
  refine Ct_of (mi := mm_X5_lotSeasons) (mik_X5 _ _ _) me_X5_lotSeasons rfl (okAs_cons (by decide) (okAs_cons rfl (okAs_cons rfl okAs_nil))) (Nat.le_of_ble_eq_true rfl) ?_
  unfold f_X5_lotSeasons
  refine GE_run flG_T (pc1 := 6) (L1 := [some (.inr (.inr (some (5, 0)))), some (.inl a1), some (.inl a2), some (.inr (.inl ((Int32.toInt64 a1) + 1))), none, none, none]) (S1 := [.inr (.inr (some (5, 0)))]) (w1 := w) (P := True) [(.iload_n 1, 0, 0, 0, 0), (.i2l, 0, 0, 0, 0), (.lconst 1, 0, 0, 0, 1), (.ladd, 0, 0, 0, 0), (.lstore_n 3, 0, 0, 0, 0), (.aload_n 0, 0, 0, 0, 0)] (by decide +kernel) rfl trivial ?_
  refine GE_callVV (As := []) (k := 5) (i := 0) (S := []) (t_X5_keeps l X w) (by decide) ⟨me_X5_keeps, mi_X5_keeps, mv_X5_keeps, lk_X5_201⟩ rfl (by decide +kernel) rfl (by decide) (by decide) (Nat.le_of_ble_eq_true rfl) (fun r1 _ => ?_)
  refine GE_run flG_T (pc1 := 12) (L1 := [some (.inr (.inr (some (5, 0)))), some (.inl a1), some (.inl a2), some (.inr (.inl ((Int32.toInt64 a1) + 1))), none, some (.inl 0), none]) (S1 := []) (w1 := r1) (P := True) [(.iconst 0, 0, 0, 0, 0), (.istore 5, 0, 0, 0, 0)] (by decide +kernel) rfl trivial ?_
  refine GE_weak [true, false, true, true, false, true, false] (h_X5_lotSeasons_12_ok l X a2 _ ?_ FU ((Int32.toInt64 a1) + 1) 0 r1)
  · intro w12
    refine GE_run flG_T (pc1 := 98) (L1 := [some (.inr (.inr (some (5, 0)))), none, none, none, none, some (.inl 0), some (.inl 0)]) (S1 := []) (w1 := w12) (P := True) [(.iconst 0, 0, 0, 0, 0), (.istore 5, 0, 0, 0, 0), (.iconst 0, 0, 0, 0, 0), (.istore 6, 0, 0, 0, 0)] (by decide +kernel) rfl trivial ?_
    refine GE_weak [true, false, false, false, false, true, true] (h_X5_lotSeasons_98_ok l X _ ?_ FU 0 0 w12)
    · intro x5_15 w16
      refine GE_run flG_T (pc1 := 136) (L1 := [some (.inr (.inr (some (5, 0)))), none, none, none, none, some (.inl x5_15), none]) (S1 := [.inr (.inr (some (5, 0)))]) (w1 := up w16 5 0 33 (w16 5 0 4)) (P := True) [(.aload_n 0, 0, 0, 0, 0), (.aload_n 0, 0, 0, 0, 0), (.getfield 76, 5, 4, 0, 0), (.putfield 247, 5, 33, 0, 0), (.aload_n 0, 0, 0, 0, 0)] (by decide +kernel) rfl trivial ?_
      refine GE_callVV (As := []) (k := 5) (i := 0) (S := []) (t_X5_lays l X (up w16 5 0 33 (w16 5 0 4))) (by decide) ⟨me_X5_lays, mi_X5_lays, mv_X5_lays, lk_X5_208⟩ rfl (by decide +kernel) rfl (by decide) (by decide) (Nat.le_of_ble_eq_true rfl) (fun r17 _ => ?_)
      refine GE_run flG_T (pc1 := 141) (L1 := [some (.inr (.inr (some (5, 0)))), none, none, none, none, some (.inl x5_15), none]) (S1 := [.inl x5_15]) (w1 := r17) (P := True) [(.iload 5, 0, 0, 0, 0)] (by decide +kernel) rfl trivial ?_
      refine GE_callSIp (As := [.inl x5_15]) (S := []) (p_X5_bitsOf l X x5_15 r17) ⟨me_X5_bitsOf, ms_X5_bitsOf, lk_X5_79⟩ (by decide +kernel) rfl (by decide) (by decide) (Nat.le_of_ble_eq_true rfl) ?_
      exact GE_iret rfl (by decide +kernel)
abbrev mm_X5_drawn : MI := (RX5, cX5_drawn, 5, (some .int), ftp_X5.map (fun q => q.1), ctp_X5.map (fun q => q.1), clp_X5.map (fun q => q.1))
noncomputable def f_X5_drawn (a1 : Int32) (a2 : Int32) (a3 : Int32) (w : Mem) : Option (Int32 × Mem) := if (rng a1 0 99999) = 0 then (some ((-2), w)) else (if (rng a2 0 60) = 0 then (some ((-2), w)) else (if (rng a3 0 1) = 0 then (some ((-2), w)) else (Option.bind (f_X5_lotSeasons a1 a2 w) (fun r4 => if a3 = 0 then (some (r4.1, r4.2)) else (some (r4.2 5 0 33, r4.2))))))
set_option maxRecDepth 100000 in
theorem t_X5_drawn (l : Launch) (X : XC)  (a1 : Int32) (a2 : Int32) (a3 : Int32) (w : Mem) : Ct l X 6 yX5_drawn cX5_drawn 5 (some .int) emI [.inr (.inr (some (5, 0))), .inl a1, .inl a2, .inl a3] 57 flT w (f_X5_drawn a1 a2 a3 w) := by
  refine Ct_of (mi := mm_X5_drawn) (mik_X5 _ _ _) me_X5_drawn rfl (okAs_cons (by decide) (okAs_cons rfl (okAs_cons rfl (okAs_cons rfl okAs_nil)))) (Nat.le_of_ble_eq_true rfl) ?_
  unfold f_X5_drawn
  refine GE_run flG_T (pc1 := 4) (L1 := [some (.inr (.inr (some (5, 0)))), some (.inl a1), some (.inl a2), some (.inl a3), none]) (S1 := [.inl 99999, .inl 0, .inl a1]) (w1 := w) (P := True) [(.iload_n 1, 0, 0, 0, 0), (.iconst 0, 0, 0, 0, 0), (.ldc 250, 0, 0, 99999, 0)] (by decide +kernel) rfl trivial ?_
  refine GE_callSIp (As := [.inl a1, .inl 0, .inl 99999]) (S := []) (p_X5_in l X a1 0 99999 w) ⟨me_X5_in, ms_X5_in, lk_X5_72⟩ (by decide +kernel) rfl (by decide) (by decide) (Nat.le_of_ble_eq_true rfl) ?_
  refine GE_if (k := .eq) (off := 22) (tgt := 29) (by decide +kernel) (by decide) (cnd_eq _ _) (fun c1 => ?_) (fun c1 => ?_)
  · refine GE_run flG_T (pc1 := 31) (L1 := [some (.inr (.inr (some (5, 0)))), some (.inl a1), some (.inl a2), some (.inl a3), none]) (S1 := [.inl (-2)]) (w1 := w) (P := True) [(.bipush (-2), 0, 0, -2, 0)] (by decide +kernel) rfl trivial ?_
    exact GE_iret rfl (by decide +kernel)
  · refine GE_run flG_T (pc1 := 14) (L1 := [some (.inr (.inr (some (5, 0)))), some (.inl a1), some (.inl a2), some (.inl a3), none]) (S1 := [.inl 60, .inl 0, .inl a2]) (w1 := w) (P := True) [(.iload_n 2, 0, 0, 0, 0), (.iconst 0, 0, 0, 0, 0), (.bipush 60, 0, 0, 60, 0)] (by decide +kernel) rfl trivial ?_
    refine GE_callSIp (As := [.inl a2, .inl 0, .inl 60]) (S := []) (p_X5_in l X a2 0 60 w) ⟨me_X5_in, ms_X5_in, lk_X5_72⟩ (by decide +kernel) rfl (by decide) (by decide) (Nat.le_of_ble_eq_true rfl) ?_
    refine GE_if (k := .eq) (off := 12) (tgt := 29) (by decide +kernel) (by decide) (cnd_eq _ _) (fun c2 => ?_) (fun c2 => ?_)
    · refine GE_run flG_T (pc1 := 31) (L1 := [some (.inr (.inr (some (5, 0)))), some (.inl a1), some (.inl a2), some (.inl a3), none]) (S1 := [.inl (-2)]) (w1 := w) (P := True) [(.bipush (-2), 0, 0, -2, 0)] (by decide +kernel) rfl trivial ?_
      exact GE_iret rfl (by decide +kernel)
    · refine GE_run flG_T (pc1 := 23) (L1 := [some (.inr (.inr (some (5, 0)))), some (.inl a1), some (.inl a2), some (.inl a3), none]) (S1 := [.inl 1, .inl 0, .inl a3]) (w1 := w) (P := True) [(.iload_n 3, 0, 0, 0, 0), (.iconst 0, 0, 0, 0, 0), (.iconst 1, 0, 0, 1, 0)] (by decide +kernel) rfl trivial ?_
      refine GE_callSIp (As := [.inl a3, .inl 0, .inl 1]) (S := []) (p_X5_in l X a3 0 1 w) ⟨me_X5_in, ms_X5_in, lk_X5_72⟩ (by decide +kernel) rfl (by decide) (by decide) (Nat.le_of_ble_eq_true rfl) ?_
      refine GE_ifN (k := .ne) (off := 6) (tgt := 32) (by decide +kernel) (by decide) (cnd_ne _ _) (fun c3 => ?_) (fun c3 => ?_)
      · refine GE_run flG_T (pc1 := 35) (L1 := [some (.inr (.inr (some (5, 0)))), some (.inl a1), some (.inl a2), some (.inl a3), none]) (S1 := [.inl a2, .inl a1, .inr (.inr (some (5, 0)))]) (w1 := w) (P := True) [(.aload_n 0, 0, 0, 0, 0), (.iload_n 1, 0, 0, 0, 0), (.iload_n 2, 0, 0, 0, 0)] (by decide +kernel) rfl trivial ?_
        refine GE_callVI (As := [.inl a1, .inl a2]) (k := 5) (i := 0) (S := []) (t_X5_lotSeasons l X a1 a2 w) (by decide) ⟨me_X5_lotSeasons, mi_X5_lotSeasons, mv_X5_lotSeasons, lk_X5_251⟩ rfl (by decide +kernel) rfl (by decide) (by decide) (Nat.le_of_ble_eq_true rfl) (fun r4 _ => ?_)
        refine GE_run flG_T (pc1 := 41) (L1 := [some (.inr (.inr (some (5, 0)))), some (.inl a1), some (.inl a2), some (.inl a3), some (.inl r4.1)]) (S1 := [.inl a3]) (w1 := r4.2) (P := True) [(.istore 4, 0, 0, 0, 0), (.iload_n 3, 0, 0, 0, 0)] (by decide +kernel) rfl trivial ?_
        refine GE_ifN (k := .ne) (off := 8) (tgt := 49) (by decide +kernel) (by decide) (cnd_ne _ _) (fun c5 => ?_) (fun c5 => ?_)
        · refine GE_run flG_T (pc1 := 53) (L1 := [some (.inr (.inr (some (5, 0)))), some (.inl a1), some (.inl a2), some (.inl a3), some (.inl r4.1)]) (S1 := [.inl (r4.2 5 0 33)]) (w1 := r4.2) (P := True) [(.aload_n 0, 0, 0, 0, 0), (.getfield 247, 5, 33, 0, 0)] (by decide +kernel) rfl trivial ?_
          exact GE_iret rfl (by decide +kernel)
        · refine GE_run flG_T (pc1 := 53) (L1 := [some (.inr (.inr (some (5, 0)))), some (.inl a1), some (.inl a2), some (.inl a3), some (.inl r4.1)]) (S1 := [.inl r4.1]) (w1 := r4.2) (P := True) [(.iload 4, 0, 0, 0, 0), (.goto 7, 0, 0, 0, 0)] (by decide +kernel) rfl trivial ?_
          exact GE_iret rfl (by decide +kernel)
      · refine GE_run flG_T (pc1 := 31) (L1 := [some (.inr (.inr (some (5, 0)))), some (.inl a1), some (.inl a2), some (.inl a3), none]) (S1 := [.inl (-2)]) (w1 := w) (P := True) [(.bipush (-2), 0, 0, -2, 0)] (by decide +kernel) rfl trivial ?_
        exact GE_iret rfl (by decide +kernel)
abbrev mm_X5_odds : MI := (RX5, cX5_odds, 8, (some .long), ftp_X5.map (fun q => q.1), ctp_X5.map (fun q => q.1), clp_X5.map (fun q => q.1))
noncomputable def h_X5_odds_50 (x1 : Int32) (x2 : Int32) (x3 : Int32) (x4 : Int32) (k86 : Int64 → Mem → Option (Int64 × Mem)) : Nat → Int64 → Int32 → Mem → Option (Int64 × Mem)
  | 0, _, _, _ => none
  | n + 1, x5, x7, w => if x7 < x2 then (Option.bind (f_X5_lotSeasons (x1 + x7) 20 w) (fun r6 => if r6.1 < x3 then ((h_X5_odds_50 x1 x2 x3 x4 k86 n) (x5 + 0) (x7 + 1) r6.2) else ((h_X5_odds_50 x1 x2 x3 x4 k86 n) (x5 + 1) (x7 + 1) r6.2))) else (k86 x5 w)
set_option maxRecDepth 100000 in
theorem h_X5_odds_50_ok (l : Launch) (X : XC) (x1 : Int32) (x2 : Int32) (x3 : Int32) (x4 : Int32) (k86 : Int64 → Mem → Option (Int64 × Mem))  (hk86 : ∀ (x5 : Int64) (w : Mem), GE l X mm_X5_odds 6 emL 57 flT (k86 x5 w) 86 [none, none, some (.inl x2), none, some (.inl x4), some (.inr (.inl x5)), none, none] [] w) : ∀ (n : Nat) (x5 : Int64) (x7 : Int32) (w : Mem), GE l X mm_X5_odds 6 emL 57 flT ((h_X5_odds_50 x1 x2 x3 x4 k86 n) x5 x7 w) 50 [some (.inr (.inr (some (5, 0)))), some (.inl x1), some (.inl x2), some (.inl x3), some (.inl x4), some (.inr (.inl x5)), none, some (.inl x7)] [] w := by
  intro n
  induction n with
  | zero => intro x5 x7 w; exact GE_none
  | succ n ih =>
    intro x5 x7 w
    unfold h_X5_odds_50
    refine GE_run flG_T (pc1 := 53) (L1 := [some (.inr (.inr (some (5, 0)))), some (.inl x1), some (.inl x2), some (.inl x3), some (.inl x4), some (.inr (.inl x5)), none, some (.inl x7)]) (S1 := [.inl x2, .inl x7]) (w1 := w) (P := True) [(.iload 7, 0, 0, 0, 0), (.iload_n 2, 0, 0, 0, 0)] (by decide +kernel) rfl trivial ?_
    refine GE_icmpN (k := .ge) (off := 33) (tgt := 86) (by decide +kernel) (by decide) (cnd_ge _ _) (fun c5 => ?_) (fun c5 => ?_)
    · exact GE_weak [false, false, true, false, true, true, false, false] (hk86 x5 w)
    · refine GE_run flG_T (pc1 := 65) (L1 := [some (.inr (.inr (some (5, 0)))), some (.inl x1), some (.inl x2), some (.inl x3), some (.inl x4), some (.inr (.inl x5)), none, some (.inl x7)]) (S1 := [.inl 20, .inl (x1 + x7), .inr (.inr (some (5, 0))), .inr (.inl x5)]) (w1 := w) (P := True) [(.lload 5, 0, 0, 0, 0), (.aload_n 0, 0, 0, 0, 0), (.iload_n 1, 0, 0, 0, 0), (.iload 7, 0, 0, 0, 0), (.iadd, 0, 0, 0, 0), (.bipush 20, 0, 0, 20, 0)] (by decide +kernel) rfl trivial ?_
      refine GE_callVI (As := [.inl (x1 + x7), .inl 20]) (k := 5) (i := 0) (S := [.inr (.inl x5)]) (t_X5_lotSeasons l X (x1 + x7) 20 w) (by decide) ⟨me_X5_lotSeasons, mi_X5_lotSeasons, mv_X5_lotSeasons, lk_X5_251⟩ rfl (by decide +kernel) rfl (by decide) (by decide) (Nat.le_of_ble_eq_true rfl) (fun r6 _ => ?_)
      refine GE_run flG_T (pc1 := 69) (L1 := [some (.inr (.inr (some (5, 0)))), some (.inl x1), some (.inl x2), some (.inl x3), some (.inl x4), some (.inr (.inl x5)), none, some (.inl x7)]) (S1 := [.inl x3, .inl r6.1, .inr (.inl x5)]) (w1 := r6.2) (P := True) [(.iload_n 3, 0, 0, 0, 0)] (by decide +kernel) rfl trivial ?_
      refine GE_icmp (k := .lt) (off := 7) (tgt := 76) (by decide +kernel) (by decide) (cnd_lt _ _) (fun c7 => ?_) (fun c7 => ?_)
      · refine GE_run flG_T (pc1 := 50) (L1 := [some (.inr (.inr (some (5, 0)))), some (.inl x1), some (.inl x2), some (.inl x3), some (.inl x4), some (.inr (.inl (x5 + 0))), none, some (.inl (x7 + 1))]) (S1 := []) (w1 := r6.2) (P := True) [(.lconst 0, 0, 0, 0, 0), (.ladd, 0, 0, 0, 0), (.lstore 5, 0, 0, 0, 0), (.iinc 7 1, 0, 0, 1, 0), (.goto (-33), 0, 0, 0, 0)] (by decide +kernel) rfl trivial ?_
        exact GE_weak [true, true, true, true, true, true, false, true] (ih (x5 + 0) (x7 + 1) r6.2)
      · refine GE_run flG_T (pc1 := 50) (L1 := [some (.inr (.inr (some (5, 0)))), some (.inl x1), some (.inl x2), some (.inl x3), some (.inl x4), some (.inr (.inl (x5 + 1))), none, some (.inl (x7 + 1))]) (S1 := []) (w1 := r6.2) (P := True) [(.lconst 1, 0, 0, 0, 1), (.goto 4, 0, 0, 0, 0), (.ladd, 0, 0, 0, 0), (.lstore 5, 0, 0, 0, 0), (.iinc 7 1, 0, 0, 1, 0), (.goto (-33), 0, 0, 0, 0)] (by decide +kernel) rfl trivial ?_
        exact GE_weak [true, true, true, true, true, true, false, true] (ih (x5 + 1) (x7 + 1) r6.2)
noncomputable def f_X5_odds (a1 : Int32) (a2 : Int32) (a3 : Int32) (a4 : Int32) (w : Mem) : Option (Int64 × Mem) := if (rng a1 0 99999) = 0 then (some ((-4611686018427387904), w)) else (if (rng a2 1 40) = 0 then (some ((-4611686018427387904), w)) else (if (rng a3 0 16) = 0 then (some ((-4611686018427387904), w)) else (if (rng a4 0 1) = 0 then (some ((-4611686018427387904), w)) else (h_X5_odds_50 a1 a2 a3 a4 (fun x5_8 w9 => Option.bind (f_X5_lowest x5_8 (Int32.toInt64 a2) a4 w9) (fun r10 => some (r10.1, r10.2))) FU 0 0 w))))
set_option maxRecDepth 100000 in
theorem t_X5_odds (l : Launch) (X : XC)  (a1 : Int32) (a2 : Int32) (a3 : Int32) (a4 : Int32) (w : Mem) : Ct l X 6 yX5_odds cX5_odds 8 (some .long) emL [.inr (.inr (some (5, 0))), .inl a1, .inl a2, .inl a3, .inl a4] 57 flT w (f_X5_odds a1 a2 a3 a4 w) := by
  refine Ct_of (mi := mm_X5_odds) (mik_X5 _ _ _) me_X5_odds rfl (okAs_cons (by decide) (okAs_cons rfl (okAs_cons rfl (okAs_cons rfl (okAs_cons rfl okAs_nil))))) (Nat.le_of_ble_eq_true rfl) ?_
  unfold f_X5_odds
  refine GE_run flG_T (pc1 := 4) (L1 := [some (.inr (.inr (some (5, 0)))), some (.inl a1), some (.inl a2), some (.inl a3), some (.inl a4), none, none, none]) (S1 := [.inl 99999, .inl 0, .inl a1]) (w1 := w) (P := True) [(.iload_n 1, 0, 0, 0, 0), (.iconst 0, 0, 0, 0, 0), (.ldc 250, 0, 0, 99999, 0)] (by decide +kernel) rfl trivial ?_
  refine GE_callSIp (As := [.inl a1, .inl 0, .inl 99999]) (S := []) (p_X5_in l X a1 0 99999 w) ⟨me_X5_in, ms_X5_in, lk_X5_72⟩ (by decide +kernel) rfl (by decide) (by decide) (Nat.le_of_ble_eq_true rfl) ?_
  refine GE_if (k := .eq) (off := 33) (tgt := 40) (by decide +kernel) (by decide) (cnd_eq _ _) (fun c1 => ?_) (fun c1 => ?_)
  · refine GE_run flG_T (pc1 := 43) (L1 := [some (.inr (.inr (some (5, 0)))), some (.inl a1), some (.inl a2), some (.inl a3), some (.inl a4), none, none, none]) (S1 := [.inr (.inl (-4611686018427387904))]) (w1 := w) (P := True) [(.ldc2_w 224, 0, 0, 0, -4611686018427387904)] (by decide +kernel) rfl trivial ?_
    exact GE_lret rfl (by decide +kernel)
  · refine GE_run flG_T (pc1 := 14) (L1 := [some (.inr (.inr (some (5, 0)))), some (.inl a1), some (.inl a2), some (.inl a3), some (.inl a4), none, none, none]) (S1 := [.inl 40, .inl 1, .inl a2]) (w1 := w) (P := True) [(.iload_n 2, 0, 0, 0, 0), (.iconst 1, 0, 0, 1, 0), (.bipush 40, 0, 0, 40, 0)] (by decide +kernel) rfl trivial ?_
    refine GE_callSIp (As := [.inl a2, .inl 1, .inl 40]) (S := []) (p_X5_in l X a2 1 40 w) ⟨me_X5_in, ms_X5_in, lk_X5_72⟩ (by decide +kernel) rfl (by decide) (by decide) (Nat.le_of_ble_eq_true rfl) ?_
    refine GE_if (k := .eq) (off := 23) (tgt := 40) (by decide +kernel) (by decide) (cnd_eq _ _) (fun c2 => ?_) (fun c2 => ?_)
    · refine GE_run flG_T (pc1 := 43) (L1 := [some (.inr (.inr (some (5, 0)))), some (.inl a1), some (.inl a2), some (.inl a3), some (.inl a4), none, none, none]) (S1 := [.inr (.inl (-4611686018427387904))]) (w1 := w) (P := True) [(.ldc2_w 224, 0, 0, 0, -4611686018427387904)] (by decide +kernel) rfl trivial ?_
      exact GE_lret rfl (by decide +kernel)
    · refine GE_run flG_T (pc1 := 24) (L1 := [some (.inr (.inr (some (5, 0)))), some (.inl a1), some (.inl a2), some (.inl a3), some (.inl a4), none, none, none]) (S1 := [.inl 16, .inl 0, .inl a3]) (w1 := w) (P := True) [(.iload_n 3, 0, 0, 0, 0), (.iconst 0, 0, 0, 0, 0), (.bipush 16, 0, 0, 16, 0)] (by decide +kernel) rfl trivial ?_
      refine GE_callSIp (As := [.inl a3, .inl 0, .inl 16]) (S := []) (p_X5_in l X a3 0 16 w) ⟨me_X5_in, ms_X5_in, lk_X5_72⟩ (by decide +kernel) rfl (by decide) (by decide) (Nat.le_of_ble_eq_true rfl) ?_
      refine GE_if (k := .eq) (off := 13) (tgt := 40) (by decide +kernel) (by decide) (cnd_eq _ _) (fun c3 => ?_) (fun c3 => ?_)
      · refine GE_run flG_T (pc1 := 43) (L1 := [some (.inr (.inr (some (5, 0)))), some (.inl a1), some (.inl a2), some (.inl a3), some (.inl a4), none, none, none]) (S1 := [.inr (.inl (-4611686018427387904))]) (w1 := w) (P := True) [(.ldc2_w 224, 0, 0, 0, -4611686018427387904)] (by decide +kernel) rfl trivial ?_
        exact GE_lret rfl (by decide +kernel)
      · refine GE_run flG_T (pc1 := 34) (L1 := [some (.inr (.inr (some (5, 0)))), some (.inl a1), some (.inl a2), some (.inl a3), some (.inl a4), none, none, none]) (S1 := [.inl 1, .inl 0, .inl a4]) (w1 := w) (P := True) [(.iload 4, 0, 0, 0, 0), (.iconst 0, 0, 0, 0, 0), (.iconst 1, 0, 0, 1, 0)] (by decide +kernel) rfl trivial ?_
        refine GE_callSIp (As := [.inl a4, .inl 0, .inl 1]) (S := []) (p_X5_in l X a4 0 1 w) ⟨me_X5_in, ms_X5_in, lk_X5_72⟩ (by decide +kernel) rfl (by decide) (by decide) (Nat.le_of_ble_eq_true rfl) ?_
        refine GE_ifN (k := .ne) (off := 7) (tgt := 44) (by decide +kernel) (by decide) (cnd_ne _ _) (fun c4 => ?_) (fun c4 => ?_)
        · refine GE_run flG_T (pc1 := 50) (L1 := [some (.inr (.inr (some (5, 0)))), some (.inl a1), some (.inl a2), some (.inl a3), some (.inl a4), some (.inr (.inl 0)), none, some (.inl 0)]) (S1 := []) (w1 := w) (P := True) [(.lconst 0, 0, 0, 0, 0), (.lstore 5, 0, 0, 0, 0), (.iconst 0, 0, 0, 0, 0), (.istore 7, 0, 0, 0, 0)] (by decide +kernel) rfl trivial ?_
          refine GE_weak [true, true, true, true, true, true, false, true] (h_X5_odds_50_ok l X a1 a2 a3 a4 _ ?_ FU 0 0 w)
          · intro x5_8 w9
            refine GE_run flG_T (pc1 := 92) (L1 := [none, none, some (.inl a2), none, some (.inl a4), some (.inr (.inl x5_8)), none, none]) (S1 := [.inl a4, .inr (.inl (Int32.toInt64 a2)), .inr (.inl x5_8)]) (w1 := w9) (P := True) [(.lload 5, 0, 0, 0, 0), (.iload_n 2, 0, 0, 0, 0), (.i2l, 0, 0, 0, 0), (.iload 4, 0, 0, 0, 0)] (by decide +kernel) rfl trivial ?_
            refine GE_callSL (As := [.inr (.inl x5_8), .inr (.inl (Int32.toInt64 a2)), .inl a4]) (S := []) (t_X5_lowest l X x5_8 (Int32.toInt64 a2) a4 w9) ⟨me_X5_lowest, ms_X5_lowest, lk_X5_226⟩ (by decide +kernel) rfl (by decide) (by decide) (Nat.le_of_ble_eq_true rfl) (fun r10 _ => ?_)
            exact GE_lret rfl (by decide +kernel)
        · refine GE_run flG_T (pc1 := 43) (L1 := [some (.inr (.inr (some (5, 0)))), some (.inl a1), some (.inl a2), some (.inl a3), some (.inl a4), none, none, none]) (S1 := [.inr (.inl (-4611686018427387904))]) (w1 := w) (P := True) [(.ldc2_w 224, 0, 0, 0, -4611686018427387904)] (by decide +kernel) rfl trivial ?_
          exact GE_lret rfl (by decide +kernel)
abbrev mm_X5_image : MI := (RX5, cX5_image, 2, (some .int), ftp_X5.map (fun q => q.1), ctp_X5.map (fun q => q.1), clp_X5.map (fun q => q.1))
noncomputable def h_X5_image_7  (k31 : Mem → Option (Int32 × Mem)) : Nat → Int32 → Mem → Option (Int32 × Mem)
  | 0, _, _ => none
  | n + 1, x1, w => if x1 < 18 then (if inB x1 18 then (if inB x1 18 then ((h_X5_image_7 k31 n) (x1 + 1) (up w 26 0 (tn x1) (w 22 0 (tn x1)))) else none) else none) else (k31 w)
set_option maxRecDepth 100000 in
theorem h_X5_image_7_ok (l : Launch) (X : XC)  (k31 : Mem → Option (Int32 × Mem))  (hk31 : ∀  (w : Mem), GE l X mm_X5_image 0 emI 57 flT (k31 w) 31 [some (.inr (.inr (some (5, 0)))), none] [] w) : ∀ (n : Nat) (x1 : Int32) (w : Mem), GE l X mm_X5_image 0 emI 57 flT ((h_X5_image_7 k31 n) x1 w) 7 [some (.inr (.inr (some (5, 0)))), some (.inl x1)] [] w := by
  intro n
  induction n with
  | zero => intro x1 w; exact GE_none
  | succ n ih =>
    intro x1 w
    unfold h_X5_image_7
    refine GE_run flG_T (pc1 := 10) (L1 := [some (.inr (.inr (some (5, 0)))), some (.inl x1)]) (S1 := [.inl 18, .inl x1]) (w1 := w) (P := True) [(.iload_n 1, 0, 0, 0, 0), (.bipush 18, 0, 0, 18, 0)] (by decide +kernel) rfl trivial ?_
    refine GE_icmpN (k := .ge) (off := 21) (tgt := 31) (by decide +kernel) (by decide) (cnd_ge _ _) (fun c2 => ?_) (fun c2 => ?_)
    · exact GE_weak [true, false] (hk31 w)
    · refine GE_chk (fun h3 => ?_)
      refine GE_chk (fun h4 => ?_)
      refine GE_run flG_T (pc1 := 7) (L1 := [some (.inr (.inr (some (5, 0)))), some (.inl (x1 + 1))]) (S1 := []) (w1 := up w 26 0 (tn x1) (w 22 0 (tn x1))) (P := (inB x1 18) ∧ (inB x1 18) ∧ True) [(.aload_n 0, 0, 0, 0, 0), (.getfield 28, 5, 13, 0, 0), (.iload_n 1, 0, 0, 0, 0), (.aload_n 0, 0, 0, 0, 0), (.getfield 16, 5, 3, 0, 0), (.iload_n 1, 0, 0, 0, 0), (.iaload, 0, 0, 0, 0), (.iastore, 0, 0, 0, 0), (.iinc 1 1, 0, 0, 1, 0), (.goto (-21), 0, 0, 0, 0)] (by decide +kernel) rfl ⟨h3, h4, trivial⟩ ?_
      exact GE_weak [true, true] (ih (x1 + 1) (up w 26 0 (tn x1) (w 22 0 (tn x1))))
noncomputable def f_X5_image  (w : Mem) : Option (Int32 × Mem) := if (1 : Int32) = 1 then (h_X5_image_7 (fun w5 => if inB 0 4 then (if inB 1 4 then (if inB 2 4 then (if inB 3 4 then (some ((up (up (up (up w5 27 0 (tn 0) (w5 5 0 0)) 27 0 (tn 1) ((up w5 27 0 (tn 0) (w5 5 0 0)) 5 0 4)) 27 0 (tn 2) ((up (up w5 27 0 (tn 0) (w5 5 0 0)) 27 0 (tn 1) ((up w5 27 0 (tn 0) (w5 5 0 0)) 5 0 4)) 5 0 5)) 27 0 (tn 3) ((up (up (up w5 27 0 (tn 0) (w5 5 0 0)) 27 0 (tn 1) ((up w5 27 0 (tn 0) (w5 5 0 0)) 5 0 4)) 27 0 (tn 2) ((up (up w5 27 0 (tn 0) (w5 5 0 0)) 27 0 (tn 1) ((up w5 27 0 (tn 0) (w5 5 0 0)) 5 0 4)) 5 0 5)) 5 0 11)) 5 0 0, up (up (up (up w5 27 0 (tn 0) (w5 5 0 0)) 27 0 (tn 1) ((up w5 27 0 (tn 0) (w5 5 0 0)) 5 0 4)) 27 0 (tn 2) ((up (up w5 27 0 (tn 0) (w5 5 0 0)) 27 0 (tn 1) ((up w5 27 0 (tn 0) (w5 5 0 0)) 5 0 4)) 5 0 5)) 27 0 (tn 3) ((up (up (up w5 27 0 (tn 0) (w5 5 0 0)) 27 0 (tn 1) ((up w5 27 0 (tn 0) (w5 5 0 0)) 5 0 4)) 27 0 (tn 2) ((up (up w5 27 0 (tn 0) (w5 5 0 0)) 27 0 (tn 1) ((up w5 27 0 (tn 0) (w5 5 0 0)) 5 0 4)) 5 0 5)) 5 0 11))) else none) else none) else none) else none) FU 0 (up w 5 0 12 1)) else none
set_option maxRecDepth 100000 in
theorem t_X5_image (l : Launch) (X : XC)   (w : Mem) : Ct l X 0 yX5_image cX5_image 2 (some .int) emI [.inr (.inr (some (5, 0)))] 57 flT w (f_X5_image  w) := by
  refine Ct_of (mi := mm_X5_image) (mik_X5 _ _ _) me_X5_image rfl (okAs_cons (by decide) okAs_nil) (Nat.le_of_ble_eq_true rfl) ?_
  unfold f_X5_image
  refine GE_chk (fun h1 => ?_)
  refine GE_run flG_T (pc1 := 7) (L1 := [some (.inr (.inr (some (5, 0)))), some (.inl 0)]) (S1 := []) (w1 := up w 5 0 12 1) (P := ((1 : Int32) = 1) ∧ True) [(.aload_n 0, 0, 0, 0, 0), (.iconst 1, 0, 0, 1, 0), (.putfield 254, 5, 12, 0, 0), (.iconst 0, 0, 0, 0, 0), (.istore_n 1, 0, 0, 0, 0)] (by decide +kernel) rfl ⟨h1, trivial⟩ ?_
  refine GE_weak [true, true] (h_X5_image_7_ok l X _ ?_ FU 0 (up w 5 0 12 1))
  · intro w5
    refine GE_chk (fun h6 => ?_)
    refine GE_chk (fun h7 => ?_)
    refine GE_chk (fun h8 => ?_)
    refine GE_chk (fun h9 => ?_)
    refine GE_run flG_T (pc1 := 75) (L1 := [some (.inr (.inr (some (5, 0)))), none]) (S1 := [.inl ((up (up (up (up w5 27 0 (tn 0) (w5 5 0 0)) 27 0 (tn 1) ((up w5 27 0 (tn 0) (w5 5 0 0)) 5 0 4)) 27 0 (tn 2) ((up (up w5 27 0 (tn 0) (w5 5 0 0)) 27 0 (tn 1) ((up w5 27 0 (tn 0) (w5 5 0 0)) 5 0 4)) 5 0 5)) 27 0 (tn 3) ((up (up (up w5 27 0 (tn 0) (w5 5 0 0)) 27 0 (tn 1) ((up w5 27 0 (tn 0) (w5 5 0 0)) 5 0 4)) 27 0 (tn 2) ((up (up w5 27 0 (tn 0) (w5 5 0 0)) 27 0 (tn 1) ((up w5 27 0 (tn 0) (w5 5 0 0)) 5 0 4)) 5 0 5)) 5 0 11)) 5 0 0)]) (w1 := up (up (up (up w5 27 0 (tn 0) (w5 5 0 0)) 27 0 (tn 1) ((up w5 27 0 (tn 0) (w5 5 0 0)) 5 0 4)) 27 0 (tn 2) ((up (up w5 27 0 (tn 0) (w5 5 0 0)) 27 0 (tn 1) ((up w5 27 0 (tn 0) (w5 5 0 0)) 5 0 4)) 5 0 5)) 27 0 (tn 3) ((up (up (up w5 27 0 (tn 0) (w5 5 0 0)) 27 0 (tn 1) ((up w5 27 0 (tn 0) (w5 5 0 0)) 5 0 4)) 27 0 (tn 2) ((up (up w5 27 0 (tn 0) (w5 5 0 0)) 27 0 (tn 1) ((up w5 27 0 (tn 0) (w5 5 0 0)) 5 0 4)) 5 0 5)) 5 0 11)) (P := (inB 0 4) ∧ (inB 1 4) ∧ (inB 2 4) ∧ (inB 3 4) ∧ True) [(.aload_n 0, 0, 0, 0, 0), (.getfield 31, 5, 14, 0, 0), (.iconst 0, 0, 0, 0, 0), (.aload_n 0, 0, 0, 0, 0), (.getfield 69, 5, 0, 0, 0), (.iastore, 0, 0, 0, 0), (.aload_n 0, 0, 0, 0, 0), (.getfield 31, 5, 14, 0, 0), (.iconst 1, 0, 0, 1, 0), (.aload_n 0, 0, 0, 0, 0), (.getfield 76, 5, 4, 0, 0), (.iastore, 0, 0, 0, 0), (.aload_n 0, 0, 0, 0, 0), (.getfield 31, 5, 14, 0, 0), (.iconst 2, 0, 0, 2, 0), (.aload_n 0, 0, 0, 0, 0), (.getfield 83, 5, 5, 0, 0), (.iastore, 0, 0, 0, 0), (.aload_n 0, 0, 0, 0, 0), (.getfield 31, 5, 14, 0, 0), (.iconst 3, 0, 0, 3, 0), (.aload_n 0, 0, 0, 0, 0), (.getfield 89, 5, 11, 0, 0), (.iastore, 0, 0, 0, 0), (.aload_n 0, 0, 0, 0, 0), (.getfield 69, 5, 0, 0, 0)] (by decide +kernel) rfl ⟨h6, h7, h8, h9, trivial⟩ ?_
    exact GE_iret rfl (by decide +kernel)
abbrev mm_X5_back : MI := (RX5, cX5_back, 2, (some .int), ftp_X5.map (fun q => q.1), ctp_X5.map (fun q => q.1), clp_X5.map (fun q => q.1))
noncomputable def h_X5_back_12  (k36 : Mem → Option (Int32 × Mem)) : Nat → Int32 → Mem → Option (Int32 × Mem)
  | 0, _, _ => none
  | n + 1, x1, w => if x1 < 18 then (if inB x1 18 then (if inB x1 18 then ((h_X5_back_12 k36 n) (x1 + 1) (up w 22 0 (tn x1) (w 26 0 (tn x1)))) else none) else none) else (k36 w)
set_option maxRecDepth 100000 in
theorem h_X5_back_12_ok (l : Launch) (X : XC)  (k36 : Mem → Option (Int32 × Mem))  (hk36 : ∀  (w : Mem), GE l X mm_X5_back 0 emI 57 flT (k36 w) 36 [some (.inr (.inr (some (5, 0)))), none] [] w) : ∀ (n : Nat) (x1 : Int32) (w : Mem), GE l X mm_X5_back 0 emI 57 flT ((h_X5_back_12 k36 n) x1 w) 12 [some (.inr (.inr (some (5, 0)))), some (.inl x1)] [] w := by
  intro n
  induction n with
  | zero => intro x1 w; exact GE_none
  | succ n ih =>
    intro x1 w
    unfold h_X5_back_12
    refine GE_run flG_T (pc1 := 15) (L1 := [some (.inr (.inr (some (5, 0)))), some (.inl x1)]) (S1 := [.inl 18, .inl x1]) (w1 := w) (P := True) [(.iload_n 1, 0, 0, 0, 0), (.bipush 18, 0, 0, 18, 0)] (by decide +kernel) rfl trivial ?_
    refine GE_icmpN (k := .ge) (off := 21) (tgt := 36) (by decide +kernel) (by decide) (cnd_ge _ _) (fun c2 => ?_) (fun c2 => ?_)
    · exact GE_weak [true, false] (hk36 w)
    · refine GE_chk (fun h3 => ?_)
      refine GE_chk (fun h4 => ?_)
      refine GE_run flG_T (pc1 := 12) (L1 := [some (.inr (.inr (some (5, 0)))), some (.inl (x1 + 1))]) (S1 := []) (w1 := up w 22 0 (tn x1) (w 26 0 (tn x1))) (P := (inB x1 18) ∧ (inB x1 18) ∧ True) [(.aload_n 0, 0, 0, 0, 0), (.getfield 16, 5, 3, 0, 0), (.iload_n 1, 0, 0, 0, 0), (.aload_n 0, 0, 0, 0, 0), (.getfield 28, 5, 13, 0, 0), (.iload_n 1, 0, 0, 0, 0), (.iaload, 0, 0, 0, 0), (.iastore, 0, 0, 0, 0), (.iinc 1 1, 0, 0, 1, 0), (.goto (-21), 0, 0, 0, 0)] (by decide +kernel) rfl ⟨h3, h4, trivial⟩ ?_
      exact GE_weak [true, true] (ih (x1 + 1) (up w 22 0 (tn x1) (w 26 0 (tn x1))))
noncomputable def f_X5_back  (w : Mem) : Option (Int32 × Mem) := if (w 5 0 12) = 0 then (some ((-3), w)) else (h_X5_back_12 (fun w5 => if inB 0 4 then (if inB 1 4 then (if inB 2 4 then (if inB 3 4 then (some ((up (up (up (up w5 5 0 0 (w5 27 0 (tn 0))) 5 0 4 ((up w5 5 0 0 (w5 27 0 (tn 0))) 27 0 (tn 1))) 5 0 5 ((up (up w5 5 0 0 (w5 27 0 (tn 0))) 5 0 4 ((up w5 5 0 0 (w5 27 0 (tn 0))) 27 0 (tn 1))) 27 0 (tn 2))) 5 0 11 ((up (up (up w5 5 0 0 (w5 27 0 (tn 0))) 5 0 4 ((up w5 5 0 0 (w5 27 0 (tn 0))) 27 0 (tn 1))) 5 0 5 ((up (up w5 5 0 0 (w5 27 0 (tn 0))) 5 0 4 ((up w5 5 0 0 (w5 27 0 (tn 0))) 27 0 (tn 1))) 27 0 (tn 2))) 27 0 (tn 3))) 5 0 0, up (up (up (up w5 5 0 0 (w5 27 0 (tn 0))) 5 0 4 ((up w5 5 0 0 (w5 27 0 (tn 0))) 27 0 (tn 1))) 5 0 5 ((up (up w5 5 0 0 (w5 27 0 (tn 0))) 5 0 4 ((up w5 5 0 0 (w5 27 0 (tn 0))) 27 0 (tn 1))) 27 0 (tn 2))) 5 0 11 ((up (up (up w5 5 0 0 (w5 27 0 (tn 0))) 5 0 4 ((up w5 5 0 0 (w5 27 0 (tn 0))) 27 0 (tn 1))) 5 0 5 ((up (up w5 5 0 0 (w5 27 0 (tn 0))) 5 0 4 ((up w5 5 0 0 (w5 27 0 (tn 0))) 27 0 (tn 1))) 27 0 (tn 2))) 27 0 (tn 3)))) else none) else none) else none) else none) FU 0 w)
set_option maxRecDepth 100000 in
theorem t_X5_back (l : Launch) (X : XC)   (w : Mem) : Ct l X 0 yX5_back cX5_back 2 (some .int) emI [.inr (.inr (some (5, 0)))] 57 flT w (f_X5_back  w) := by
  refine Ct_of (mi := mm_X5_back) (mik_X5 _ _ _) me_X5_back rfl (okAs_cons (by decide) okAs_nil) (Nat.le_of_ble_eq_true rfl) ?_
  unfold f_X5_back
  refine GE_run flG_T (pc1 := 4) (L1 := [some (.inr (.inr (some (5, 0)))), none]) (S1 := [.inl (w 5 0 12)]) (w1 := w) (P := True) [(.aload_n 0, 0, 0, 0, 0), (.getfield 254, 5, 12, 0, 0)] (by decide +kernel) rfl trivial ?_
  refine GE_ifN (k := .ne) (off := 6) (tgt := 10) (by decide +kernel) (by decide) (cnd_ne _ _) (fun c1 => ?_) (fun c1 => ?_)
  · refine GE_run flG_T (pc1 := 12) (L1 := [some (.inr (.inr (some (5, 0)))), some (.inl 0)]) (S1 := []) (w1 := w) (P := True) [(.iconst 0, 0, 0, 0, 0), (.istore_n 1, 0, 0, 0, 0)] (by decide +kernel) rfl trivial ?_
    refine GE_weak [true, true] (h_X5_back_12_ok l X _ ?_ FU 0 w)
    · intro w5
      refine GE_chk (fun h6 => ?_)
      refine GE_chk (fun h7 => ?_)
      refine GE_chk (fun h8 => ?_)
      refine GE_chk (fun h9 => ?_)
      refine GE_run flG_T (pc1 := 80) (L1 := [some (.inr (.inr (some (5, 0)))), none]) (S1 := [.inl ((up (up (up (up w5 5 0 0 (w5 27 0 (tn 0))) 5 0 4 ((up w5 5 0 0 (w5 27 0 (tn 0))) 27 0 (tn 1))) 5 0 5 ((up (up w5 5 0 0 (w5 27 0 (tn 0))) 5 0 4 ((up w5 5 0 0 (w5 27 0 (tn 0))) 27 0 (tn 1))) 27 0 (tn 2))) 5 0 11 ((up (up (up w5 5 0 0 (w5 27 0 (tn 0))) 5 0 4 ((up w5 5 0 0 (w5 27 0 (tn 0))) 27 0 (tn 1))) 5 0 5 ((up (up w5 5 0 0 (w5 27 0 (tn 0))) 5 0 4 ((up w5 5 0 0 (w5 27 0 (tn 0))) 27 0 (tn 1))) 27 0 (tn 2))) 27 0 (tn 3))) 5 0 0)]) (w1 := up (up (up (up w5 5 0 0 (w5 27 0 (tn 0))) 5 0 4 ((up w5 5 0 0 (w5 27 0 (tn 0))) 27 0 (tn 1))) 5 0 5 ((up (up w5 5 0 0 (w5 27 0 (tn 0))) 5 0 4 ((up w5 5 0 0 (w5 27 0 (tn 0))) 27 0 (tn 1))) 27 0 (tn 2))) 5 0 11 ((up (up (up w5 5 0 0 (w5 27 0 (tn 0))) 5 0 4 ((up w5 5 0 0 (w5 27 0 (tn 0))) 27 0 (tn 1))) 5 0 5 ((up (up w5 5 0 0 (w5 27 0 (tn 0))) 5 0 4 ((up w5 5 0 0 (w5 27 0 (tn 0))) 27 0 (tn 1))) 27 0 (tn 2))) 27 0 (tn 3))) (P := (inB 0 4) ∧ (inB 1 4) ∧ (inB 2 4) ∧ (inB 3 4) ∧ True) [(.aload_n 0, 0, 0, 0, 0), (.aload_n 0, 0, 0, 0, 0), (.getfield 31, 5, 14, 0, 0), (.iconst 0, 0, 0, 0, 0), (.iaload, 0, 0, 0, 0), (.putfield 69, 5, 0, 0, 0), (.aload_n 0, 0, 0, 0, 0), (.aload_n 0, 0, 0, 0, 0), (.getfield 31, 5, 14, 0, 0), (.iconst 1, 0, 0, 1, 0), (.iaload, 0, 0, 0, 0), (.putfield 76, 5, 4, 0, 0), (.aload_n 0, 0, 0, 0, 0), (.aload_n 0, 0, 0, 0, 0), (.getfield 31, 5, 14, 0, 0), (.iconst 2, 0, 0, 2, 0), (.iaload, 0, 0, 0, 0), (.putfield 83, 5, 5, 0, 0), (.aload_n 0, 0, 0, 0, 0), (.aload_n 0, 0, 0, 0, 0), (.getfield 31, 5, 14, 0, 0), (.iconst 3, 0, 0, 3, 0), (.iaload, 0, 0, 0, 0), (.putfield 89, 5, 11, 0, 0), (.aload_n 0, 0, 0, 0, 0), (.getfield 69, 5, 0, 0, 0)] (by decide +kernel) rfl ⟨h6, h7, h8, h9, trivial⟩ ?_
      exact GE_iret rfl (by decide +kernel)
  · refine GE_run flG_T (pc1 := 9) (L1 := [some (.inr (.inr (some (5, 0)))), none]) (S1 := [.inl (-3)]) (w1 := w) (P := True) [(.bipush (-3), 0, 0, -3, 0)] (by decide +kernel) rfl trivial ?_
    exact GE_iret rfl (by decide +kernel)
abbrev mm_X5_sheet : MI := (RX5, cX5_sheet, 5, (some .int), ftp_X5.map (fun q => q.1), ctp_X5.map (fun q => q.1), clp_X5.map (fun q => q.1))
noncomputable def h_X5_sheet_70 (x1 : Int32) (k96 : Mem → Option (Int32 × Mem)) : Nat → Int32 → Mem → Option (Int32 × Mem)
  | 0, _, _ => none
  | n + 1, x4, w => if x4 < 40 then (if inB ((40 * x1) + x4) 160 then ((h_X5_sheet_70 x1 k96 n) (x4 + 1) (up w 30 0 (tn ((40 * x1) + x4)) 0)) else none) else (k96 w)
set_option maxRecDepth 100000 in
theorem h_X5_sheet_70_ok (l : Launch) (X : XC) (x1 : Int32) (k96 : Mem → Option (Int32 × Mem))  (hk96 : ∀  (w : Mem), GE l X mm_X5_sheet 1 emI 57 flT (k96 w) 96 [none, none, none, none, none] [] w) : ∀ (n : Nat) (x4 : Int32) (w : Mem), GE l X mm_X5_sheet 1 emI 57 flT ((h_X5_sheet_70 x1 k96 n) x4 w) 70 [some (.inr (.inr (some (5, 0)))), some (.inl x1), none, none, some (.inl x4)] [] w := by
  intro n
  induction n with
  | zero => intro x4 w; exact GE_none
  | succ n ih =>
    intro x4 w
    unfold h_X5_sheet_70
    refine GE_run flG_T (pc1 := 74) (L1 := [some (.inr (.inr (some (5, 0)))), some (.inl x1), none, none, some (.inl x4)]) (S1 := [.inl 40, .inl x4]) (w1 := w) (P := True) [(.iload 4, 0, 0, 0, 0), (.bipush 40, 0, 0, 40, 0)] (by decide +kernel) rfl trivial ?_
    refine GE_icmpN (k := .ge) (off := 22) (tgt := 96) (by decide +kernel) (by decide) (cnd_ge _ _) (fun c8 => ?_) (fun c8 => ?_)
    · exact GE_weak [false, false, false, false, false] (hk96 w)
    · refine GE_chk (fun h9 => ?_)
      refine GE_run flG_T (pc1 := 70) (L1 := [some (.inr (.inr (some (5, 0)))), some (.inl x1), none, none, some (.inl (x4 + 1))]) (S1 := []) (w1 := up w 30 0 (tn ((40 * x1) + x4)) 0) (P := (inB ((40 * x1) + x4) 160) ∧ True) [(.aload_n 0, 0, 0, 0, 0), (.getfield 40, 5, 17, 0, 0), (.bipush 40, 0, 0, 40, 0), (.iload_n 1, 0, 0, 0, 0), (.imul, 0, 0, 0, 0), (.iload 4, 0, 0, 0, 0), (.iadd, 0, 0, 0, 0), (.iconst 0, 0, 0, 0, 0), (.iastore, 0, 0, 0, 0), (.iinc 4 1, 0, 0, 1, 0), (.goto (-23), 0, 0, 0, 0)] (by decide +kernel) rfl ⟨h9, trivial⟩ ?_
      exact GE_weak [true, true, false, false, true] (ih (x4 + 1) (up w 30 0 (tn ((40 * x1) + x4)) 0))
noncomputable def j_X5_sheet_66   (x1 : Int32) (s0 : Int32) (s1 : Int32) (w : Mem) : Option (Int32 × Mem) := if inB s1 4 then (h_X5_sheet_70 x1 (fun w10 => some (1, w10)) FU 0 (up w 29 0 (tn s1) s0)) else none
set_option maxRecDepth 100000 in
theorem j_X5_sheet_66_ok (l : Launch) (X : XC)   (x1 : Int32) (s0 : Int32) (s1 : Int32)   (w : Mem) : GE l X mm_X5_sheet 1 emI 57 flT (j_X5_sheet_66 x1 s0 s1 w) 66 [some (.inr (.inr (some (5, 0)))), some (.inl x1), none, none, none] [.inl s0, .inl s1, .inr (.inr (some (29, 0)))] w := by
  unfold j_X5_sheet_66
  refine GE_chk (fun h7 => ?_)
  refine GE_run flG_T (pc1 := 70) (L1 := [some (.inr (.inr (some (5, 0)))), some (.inl x1), none, none, some (.inl 0)]) (S1 := []) (w1 := up w 29 0 (tn s1) s0) (P := (inB s1 4) ∧ True) [(.iastore, 0, 0, 0, 0), (.iconst 0, 0, 0, 0, 0), (.istore 4, 0, 0, 0, 0)] (by decide +kernel) rfl ⟨h7, trivial⟩ ?_
  refine GE_weak [true, true, false, false, true] (h_X5_sheet_70_ok l X x1 _ ?_ FU 0 (up w 29 0 (tn s1) s0))
  · intro w10
    refine GE_run flG_T (pc1 := 97) (L1 := [none, none, none, none, none]) (S1 := [.inl 1]) (w1 := w10) (P := True) [(.iconst 1, 0, 0, 1, 0)] (by decide +kernel) rfl trivial ?_
    exact GE_iret rfl (by decide +kernel)
noncomputable def j_X5_sheet_44   (x1 : Int32) (x2 : Int32) (x3 : Int32) (w : Mem) : Option (Int32 × Mem) := if inB x1 4 then (if x2 = (-1) then (j_X5_sheet_66 x1 0 x1 (up w 28 0 (tn x1) x2)) else (j_X5_sheet_66 x1 x3 x1 (up w 28 0 (tn x1) x2))) else none
set_option maxRecDepth 100000 in
theorem j_X5_sheet_44_ok (l : Launch) (X : XC)   (x1 : Int32) (x2 : Int32) (x3 : Int32)   (w : Mem) : GE l X mm_X5_sheet 1 emI 57 flT (j_X5_sheet_44 x1 x2 x3 w) 44 [some (.inr (.inr (some (5, 0)))), some (.inl x1), some (.inl x2), some (.inl x3), none] [] w := by
  unfold j_X5_sheet_44
  refine GE_chk (fun h5 => ?_)
  refine GE_run flG_T (pc1 := 58) (L1 := [some (.inr (.inr (some (5, 0)))), some (.inl x1), some (.inl x2), some (.inl x3), none]) (S1 := [.inl (-1), .inl x2, .inl x1, .inr (.inr (some (29, 0)))]) (w1 := up w 28 0 (tn x1) x2) (P := (inB x1 4) ∧ True) [(.aload_n 0, 0, 0, 0, 0), (.getfield 34, 5, 15, 0, 0), (.iload_n 1, 0, 0, 0, 0), (.iload_n 2, 0, 0, 0, 0), (.iastore, 0, 0, 0, 0), (.aload_n 0, 0, 0, 0, 0), (.getfield 37, 5, 16, 0, 0), (.iload_n 1, 0, 0, 0, 0), (.iload_n 2, 0, 0, 0, 0), (.iconst (-1), 0, 0, -1, 0)] (by decide +kernel) rfl ⟨h5, trivial⟩ ?_
  refine GE_icmpN (k := .ne) (off := 7) (tgt := 65) (by decide +kernel) (by decide) (cnd_ne _ _) (fun c6 => ?_) (fun c6 => ?_)
  · refine GE_run flG_T (pc1 := 66) (L1 := [some (.inr (.inr (some (5, 0)))), some (.inl x1), some (.inl x2), some (.inl x3), none]) (S1 := [.inl x3, .inl x1, .inr (.inr (some (29, 0)))]) (w1 := up w 28 0 (tn x1) x2) (P := True) [(.iload_n 3, 0, 0, 0, 0)] (by decide +kernel) rfl trivial ?_
    exact GE_weak [true, true, false, false, false] (j_X5_sheet_66_ok l X x1 x3 x1 (up w 28 0 (tn x1) x2))
  · refine GE_run flG_T (pc1 := 66) (L1 := [some (.inr (.inr (some (5, 0)))), some (.inl x1), some (.inl x2), some (.inl x3), none]) (S1 := [.inl 0, .inl x1, .inr (.inr (some (29, 0)))]) (w1 := up w 28 0 (tn x1) x2) (P := True) [(.iconst 0, 0, 0, 0, 0), (.goto 4, 0, 0, 0, 0)] (by decide +kernel) rfl trivial ?_
    exact GE_weak [true, true, false, false, false] (j_X5_sheet_66_ok l X x1 0 x1 (up w 28 0 (tn x1) x2))
noncomputable def j_X5_sheet_32   (x1 : Int32) (x2 : Int32) (x3 : Int32) (w : Mem) : Option (Int32 × Mem) := if x2 = (-1) then (j_X5_sheet_44 x1 x2 x3 w) else (if x3 < 0 then (some ((-14), w)) else (j_X5_sheet_44 x1 x2 x3 w))
set_option maxRecDepth 100000 in
theorem j_X5_sheet_32_ok (l : Launch) (X : XC)   (x1 : Int32) (x2 : Int32) (x3 : Int32)   (w : Mem) : GE l X mm_X5_sheet 1 emI 57 flT (j_X5_sheet_32 x1 x2 x3 w) 32 [some (.inr (.inr (some (5, 0)))), some (.inl x1), some (.inl x2), some (.inl x3), none] [] w := by
  unfold j_X5_sheet_32
  refine GE_run flG_T (pc1 := 34) (L1 := [some (.inr (.inr (some (5, 0)))), some (.inl x1), some (.inl x2), some (.inl x3), none]) (S1 := [.inl (-1), .inl x2]) (w1 := w) (P := True) [(.iload_n 2, 0, 0, 0, 0), (.iconst (-1), 0, 0, -1, 0)] (by decide +kernel) rfl trivial ?_
  refine GE_icmp (k := .eq) (off := 10) (tgt := 44) (by decide +kernel) (by decide) (cnd_eq _ _) (fun c4 => ?_) (fun c4 => ?_)
  · exact GE_weak [true, true, true, true, false] (j_X5_sheet_44_ok l X x1 x2 x3 w)
  · refine GE_run flG_T (pc1 := 38) (L1 := [some (.inr (.inr (some (5, 0)))), some (.inl x1), some (.inl x2), some (.inl x3), none]) (S1 := [.inl x3]) (w1 := w) (P := True) [(.iload_n 3, 0, 0, 0, 0)] (by decide +kernel) rfl trivial ?_
    refine GE_ifN (k := .ge) (off := 6) (tgt := 44) (by decide +kernel) (by decide) (cnd_ge _ _) (fun c11 => ?_) (fun c11 => ?_)
    · exact GE_weak [true, true, true, true, false] (j_X5_sheet_44_ok l X x1 x2 x3 w)
    · refine GE_run flG_T (pc1 := 43) (L1 := [some (.inr (.inr (some (5, 0)))), some (.inl x1), some (.inl x2), some (.inl x3), none]) (S1 := [.inl (-14)]) (w1 := w) (P := True) [(.bipush (-14), 0, 0, -14, 0)] (by decide +kernel) rfl trivial ?_
      exact GE_iret rfl (by decide +kernel)
noncomputable def f_X5_sheet (a1 : Int32) (a2 : Int32) (a3 : Int32) (w : Mem) : Option (Int32 × Mem) := if (rng a1 0 3) = 0 then (some ((-2), w)) else (if (rng a2 (-1) 2) = 0 then (some ((-2), w)) else (if a2 = (-1) then (j_X5_sheet_32 a1 a2 a3 w) else (if a3 ≤ 40 then (j_X5_sheet_32 a1 a2 a3 w) else (some ((-2), w)))))
set_option maxRecDepth 100000 in
theorem t_X5_sheet (l : Launch) (X : XC)  (a1 : Int32) (a2 : Int32) (a3 : Int32) (w : Mem) : Ct l X 1 yX5_sheet cX5_sheet 5 (some .int) emI [.inr (.inr (some (5, 0))), .inl a1, .inl a2, .inl a3] 57 flT w (f_X5_sheet a1 a2 a3 w) := by
  refine Ct_of (mi := mm_X5_sheet) (mik_X5 _ _ _) me_X5_sheet rfl (okAs_cons (by decide) (okAs_cons rfl (okAs_cons rfl (okAs_cons rfl okAs_nil)))) (Nat.le_of_ble_eq_true rfl) ?_
  unfold f_X5_sheet
  refine GE_run flG_T (pc1 := 3) (L1 := [some (.inr (.inr (some (5, 0)))), some (.inl a1), some (.inl a2), some (.inl a3), none]) (S1 := [.inl 3, .inl 0, .inl a1]) (w1 := w) (P := True) [(.iload_n 1, 0, 0, 0, 0), (.iconst 0, 0, 0, 0, 0), (.iconst 3, 0, 0, 3, 0)] (by decide +kernel) rfl trivial ?_
  refine GE_callSIp (As := [.inl a1, .inl 0, .inl 3]) (S := []) (p_X5_in l X a1 0 3 w) ⟨me_X5_in, ms_X5_in, lk_X5_72⟩ (by decide +kernel) rfl (by decide) (by decide) (Nat.le_of_ble_eq_true rfl) ?_
  refine GE_if (k := .eq) (off := 23) (tgt := 29) (by decide +kernel) (by decide) (cnd_eq _ _) (fun c1 => ?_) (fun c1 => ?_)
  · refine GE_run flG_T (pc1 := 31) (L1 := [some (.inr (.inr (some (5, 0)))), some (.inl a1), some (.inl a2), some (.inl a3), none]) (S1 := [.inl (-2)]) (w1 := w) (P := True) [(.bipush (-2), 0, 0, -2, 0)] (by decide +kernel) rfl trivial ?_
    exact GE_iret rfl (by decide +kernel)
  · refine GE_run flG_T (pc1 := 12) (L1 := [some (.inr (.inr (some (5, 0)))), some (.inl a1), some (.inl a2), some (.inl a3), none]) (S1 := [.inl 2, .inl (-1), .inl a2]) (w1 := w) (P := True) [(.iload_n 2, 0, 0, 0, 0), (.iconst (-1), 0, 0, -1, 0), (.iconst 2, 0, 0, 2, 0)] (by decide +kernel) rfl trivial ?_
    refine GE_callSIp (As := [.inl a2, .inl (-1), .inl 2]) (S := []) (p_X5_in l X a2 (-1) 2 w) ⟨me_X5_in, ms_X5_in, lk_X5_72⟩ (by decide +kernel) rfl (by decide) (by decide) (Nat.le_of_ble_eq_true rfl) ?_
    refine GE_if (k := .eq) (off := 14) (tgt := 29) (by decide +kernel) (by decide) (cnd_eq _ _) (fun c2 => ?_) (fun c2 => ?_)
    · refine GE_run flG_T (pc1 := 31) (L1 := [some (.inr (.inr (some (5, 0)))), some (.inl a1), some (.inl a2), some (.inl a3), none]) (S1 := [.inl (-2)]) (w1 := w) (P := True) [(.bipush (-2), 0, 0, -2, 0)] (by decide +kernel) rfl trivial ?_
      exact GE_iret rfl (by decide +kernel)
    · refine GE_run flG_T (pc1 := 20) (L1 := [some (.inr (.inr (some (5, 0)))), some (.inl a1), some (.inl a2), some (.inl a3), none]) (S1 := [.inl (-1), .inl a2]) (w1 := w) (P := True) [(.iload_n 2, 0, 0, 0, 0), (.iconst (-1), 0, 0, -1, 0)] (by decide +kernel) rfl trivial ?_
      refine GE_icmp (k := .eq) (off := 12) (tgt := 32) (by decide +kernel) (by decide) (cnd_eq _ _) (fun c3 => ?_) (fun c3 => ?_)
      · exact GE_weak [true, true, true, true, false] (j_X5_sheet_32_ok l X a1 a2 a3 w)
      · refine GE_run flG_T (pc1 := 26) (L1 := [some (.inr (.inr (some (5, 0)))), some (.inl a1), some (.inl a2), some (.inl a3), none]) (S1 := [.inl 40, .inl a3]) (w1 := w) (P := True) [(.iload_n 3, 0, 0, 0, 0), (.bipush 40, 0, 0, 40, 0)] (by decide +kernel) rfl trivial ?_
        refine GE_icmp (k := .le) (off := 6) (tgt := 32) (by decide +kernel) (by decide) (cnd_le _ _) (fun c12 => ?_) (fun c12 => ?_)
        · exact GE_weak [true, true, true, true, false] (j_X5_sheet_32_ok l X a1 a2 a3 w)
        · refine GE_run flG_T (pc1 := 31) (L1 := [some (.inr (.inr (some (5, 0)))), some (.inl a1), some (.inl a2), some (.inl a3), none]) (S1 := [.inl (-2)]) (w1 := w) (P := True) [(.bipush (-2), 0, 0, -2, 0)] (by decide +kernel) rfl trivial ?_
          exact GE_iret rfl (by decide +kernel)
abbrev mm_X5_cell : MI := (RX5, cX5_cell, 4, (some .int), ftp_X5.map (fun q => q.1), ctp_X5.map (fun q => q.1), clp_X5.map (fun q => q.1))
noncomputable def f_X5_cell (a1 : Int32) (a2 : Int32) (a3 : Int32) (w : Mem) : Option (Int32 × Mem) := if (rng a1 0 3) = 0 then (some ((-2), w)) else (if inB a1 4 then (if (w 28 0 (tn a1)) = (-1) then (some ((-11), w)) else (if inB a1 4 then (if (rng a2 0 ((w 29 0 (tn a1)) - 1)) = 0 then (some ((-12), w)) else (if inB a1 4 then (if (w 28 0 (tn a1)) = 0 then (if inB ((40 * a1) + a2) 160 then (some (1, up w 30 0 (tn ((40 * a1) + a2)) (Int8.toInt32 (Int32.toInt8 a3)))) else none) else (if inB a1 4 then (if (w 28 0 (tn a1)) = 1 then (if inB ((40 * a1) + a2) 160 then (some (1, up w 30 0 (tn ((40 * a1) + a2)) (Int16.toInt32 (Int32.toInt16 a3)))) else none) else (if inB ((40 * a1) + a2) 160 then (some (1, up w 30 0 (tn ((40 * a1) + a2)) a3)) else none)) else none)) else none)) else none)) else none)
set_option maxRecDepth 100000 in
theorem t_X5_cell (l : Launch) (X : XC)  (a1 : Int32) (a2 : Int32) (a3 : Int32) (w : Mem) : Ct l X 1 yX5_cell cX5_cell 4 (some .int) emI [.inr (.inr (some (5, 0))), .inl a1, .inl a2, .inl a3] 57 flT w (f_X5_cell a1 a2 a3 w) := by
  refine Ct_of (mi := mm_X5_cell) (mik_X5 _ _ _) me_X5_cell rfl (okAs_cons (by decide) (okAs_cons rfl (okAs_cons rfl (okAs_cons rfl okAs_nil)))) (Nat.le_of_ble_eq_true rfl) ?_
  unfold f_X5_cell
  refine GE_run flG_T (pc1 := 3) (L1 := [some (.inr (.inr (some (5, 0)))), some (.inl a1), some (.inl a2), some (.inl a3)]) (S1 := [.inl 3, .inl 0, .inl a1]) (w1 := w) (P := True) [(.iload_n 1, 0, 0, 0, 0), (.iconst 0, 0, 0, 0, 0), (.iconst 3, 0, 0, 3, 0)] (by decide +kernel) rfl trivial ?_
  refine GE_callSIp (As := [.inl a1, .inl 0, .inl 3]) (S := []) (p_X5_in l X a1 0 3 w) ⟨me_X5_in, ms_X5_in, lk_X5_72⟩ (by decide +kernel) rfl (by decide) (by decide) (Nat.le_of_ble_eq_true rfl) ?_
  refine GE_ifN (k := .ne) (off := 6) (tgt := 12) (by decide +kernel) (by decide) (cnd_ne _ _) (fun c1 => ?_) (fun c1 => ?_)
  · refine GE_chk (fun h2 => ?_)
    refine GE_run flG_T (pc1 := 19) (L1 := [some (.inr (.inr (some (5, 0)))), some (.inl a1), some (.inl a2), some (.inl a3)]) (S1 := [.inl (-1), .inl (w 28 0 (tn a1))]) (w1 := w) (P := (inB a1 4) ∧ True) [(.aload_n 0, 0, 0, 0, 0), (.getfield 34, 5, 15, 0, 0), (.iload_n 1, 0, 0, 0, 0), (.iaload, 0, 0, 0, 0), (.iconst (-1), 0, 0, -1, 0)] (by decide +kernel) rfl ⟨h2, trivial⟩ ?_
    refine GE_icmpN (k := .ne) (off := 6) (tgt := 25) (by decide +kernel) (by decide) (cnd_ne _ _) (fun c3 => ?_) (fun c3 => ?_)
    · refine GE_chk (fun h4 => ?_)
      refine GE_run flG_T (pc1 := 35) (L1 := [some (.inr (.inr (some (5, 0)))), some (.inl a1), some (.inl a2), some (.inl a3)]) (S1 := [.inl ((w 29 0 (tn a1)) - 1), .inl 0, .inl a2]) (w1 := w) (P := (inB a1 4) ∧ True) [(.iload_n 2, 0, 0, 0, 0), (.iconst 0, 0, 0, 0, 0), (.aload_n 0, 0, 0, 0, 0), (.getfield 37, 5, 16, 0, 0), (.iload_n 1, 0, 0, 0, 0), (.iaload, 0, 0, 0, 0), (.iconst 1, 0, 0, 1, 0), (.isub, 0, 0, 0, 0)] (by decide +kernel) rfl ⟨h4, trivial⟩ ?_
      refine GE_callSIp (As := [.inl a2, .inl 0, .inl ((w 29 0 (tn a1)) - 1)]) (S := []) (p_X5_in l X a2 0 ((w 29 0 (tn a1)) - 1) w) ⟨me_X5_in, ms_X5_in, lk_X5_72⟩ (by decide +kernel) rfl (by decide) (by decide) (Nat.le_of_ble_eq_true rfl) ?_
      refine GE_ifN (k := .ne) (off := 6) (tgt := 44) (by decide +kernel) (by decide) (cnd_ne _ _) (fun c5 => ?_) (fun c5 => ?_)
      · refine GE_chk (fun h6 => ?_)
        refine GE_run flG_T (pc1 := 60) (L1 := [some (.inr (.inr (some (5, 0)))), some (.inl a1), some (.inl a2), some (.inl a3)]) (S1 := [.inl (w 28 0 (tn a1)), .inl ((40 * a1) + a2), .inr (.inr (some (30, 0)))]) (w1 := w) (P := (inB a1 4) ∧ True) [(.aload_n 0, 0, 0, 0, 0), (.getfield 40, 5, 17, 0, 0), (.bipush 40, 0, 0, 40, 0), (.iload_n 1, 0, 0, 0, 0), (.imul, 0, 0, 0, 0), (.iload_n 2, 0, 0, 0, 0), (.iadd, 0, 0, 0, 0), (.aload_n 0, 0, 0, 0, 0), (.getfield 34, 5, 15, 0, 0), (.iload_n 1, 0, 0, 0, 0), (.iaload, 0, 0, 0, 0)] (by decide +kernel) rfl ⟨h6, trivial⟩ ?_
        refine GE_ifN (k := .ne) (off := 8) (tgt := 68) (by decide +kernel) (by decide) (cnd_ne _ _) (fun c7 => ?_) (fun c7 => ?_)
        · refine GE_chk (fun h9 => ?_)
          refine GE_run flG_T (pc1 := 75) (L1 := [some (.inr (.inr (some (5, 0)))), some (.inl a1), some (.inl a2), some (.inl a3)]) (S1 := [.inl 1, .inl (w 28 0 (tn a1)), .inl ((40 * a1) + a2), .inr (.inr (some (30, 0)))]) (w1 := w) (P := (inB a1 4) ∧ True) [(.aload_n 0, 0, 0, 0, 0), (.getfield 34, 5, 15, 0, 0), (.iload_n 1, 0, 0, 0, 0), (.iaload, 0, 0, 0, 0), (.iconst 1, 0, 0, 1, 0)] (by decide +kernel) rfl ⟨h9, trivial⟩ ?_
          refine GE_icmpN (k := .ne) (off := 8) (tgt := 83) (by decide +kernel) (by decide) (cnd_ne _ _) (fun c10 => ?_) (fun c10 => ?_)
          · refine GE_chk (fun h12 => ?_)
            refine GE_run flG_T (pc1 := 86) (L1 := [some (.inr (.inr (some (5, 0)))), some (.inl a1), some (.inl a2), some (.inl a3)]) (S1 := [.inl 1]) (w1 := up w 30 0 (tn ((40 * a1) + a2)) a3) (P := (inB ((40 * a1) + a2) 160) ∧ True) [(.iload_n 3, 0, 0, 0, 0), (.iastore, 0, 0, 0, 0), (.iconst 1, 0, 0, 1, 0)] (by decide +kernel) rfl ⟨h12, trivial⟩ ?_
            exact GE_iret rfl (by decide +kernel)
          · refine GE_chk (fun h11 => ?_)
            refine GE_run flG_T (pc1 := 86) (L1 := [some (.inr (.inr (some (5, 0)))), some (.inl a1), some (.inl a2), some (.inl a3)]) (S1 := [.inl 1]) (w1 := up w 30 0 (tn ((40 * a1) + a2)) (Int16.toInt32 (Int32.toInt16 a3))) (P := (inB ((40 * a1) + a2) 160) ∧ True) [(.iload_n 3, 0, 0, 0, 0), (.i2s, 0, 0, 0, 0), (.goto 4, 0, 0, 0, 0), (.iastore, 0, 0, 0, 0), (.iconst 1, 0, 0, 1, 0)] (by decide +kernel) rfl ⟨h11, trivial⟩ ?_
            exact GE_iret rfl (by decide +kernel)
        · refine GE_chk (fun h8 => ?_)
          refine GE_run flG_T (pc1 := 86) (L1 := [some (.inr (.inr (some (5, 0)))), some (.inl a1), some (.inl a2), some (.inl a3)]) (S1 := [.inl 1]) (w1 := up w 30 0 (tn ((40 * a1) + a2)) (Int8.toInt32 (Int32.toInt8 a3))) (P := (inB ((40 * a1) + a2) 160) ∧ True) [(.iload_n 3, 0, 0, 0, 0), (.i2b, 0, 0, 0, 0), (.goto 19, 0, 0, 0, 0), (.iastore, 0, 0, 0, 0), (.iconst 1, 0, 0, 1, 0)] (by decide +kernel) rfl ⟨h8, trivial⟩ ?_
          exact GE_iret rfl (by decide +kernel)
      · refine GE_run flG_T (pc1 := 43) (L1 := [some (.inr (.inr (some (5, 0)))), some (.inl a1), some (.inl a2), some (.inl a3)]) (S1 := [.inl (-12)]) (w1 := w) (P := True) [(.bipush (-12), 0, 0, -12, 0)] (by decide +kernel) rfl trivial ?_
        exact GE_iret rfl (by decide +kernel)
    · refine GE_run flG_T (pc1 := 24) (L1 := [some (.inr (.inr (some (5, 0)))), some (.inl a1), some (.inl a2), some (.inl a3)]) (S1 := [.inl (-11)]) (w1 := w) (P := True) [(.bipush (-11), 0, 0, -11, 0)] (by decide +kernel) rfl trivial ?_
      exact GE_iret rfl (by decide +kernel)
  · refine GE_run flG_T (pc1 := 11) (L1 := [some (.inr (.inr (some (5, 0)))), some (.inl a1), some (.inl a2), some (.inl a3)]) (S1 := [.inl (-2)]) (w1 := w) (P := True) [(.bipush (-2), 0, 0, -2, 0)] (by decide +kernel) rfl trivial ?_
    exact GE_iret rfl (by decide +kernel)
abbrev mm_X5_copy : MI := (RX5, cX5_copy, 10, (some .int), ftp_X5.map (fun q => q.1), ctp_X5.map (fun q => q.1), clp_X5.map (fun q => q.1))
noncomputable def j_X5_copy_173  (kl147 : Int32 → Mem → Option (Int32 × Mem)) (x5 : Int32) (x6 : Int32) (x7 : Int32) (x8 : Int32) (s0 : Int32) (w : Mem) : Option (Int32 × Mem) := if inB (x6 + s0) 160 then (if inB (x7 + s0) 160 then (kl147 (x8 + 1) (up w 30 0 (tn (x7 + s0)) (w 30 0 (tn (x6 + s0))))) else none) else none
set_option maxRecDepth 100000 in
theorem j_X5_copy_173_ok (l : Launch) (X : XC)  (kl147 : Int32 → Mem → Option (Int32 × Mem)) (x5 : Int32) (x6 : Int32) (x7 : Int32) (x8 : Int32) (s0 : Int32)  (ih : ∀ (x8 : Int32) (w : Mem), GE l X mm_X5_copy 1 emI 57 flT (kl147 x8 w) 147 [some (.inr (.inr (some (5, 0)))), none, none, none, none, some (.inl x5), some (.inl x6), some (.inl x7), some (.inl x8), none] [] w) (w : Mem) : GE l X mm_X5_copy 1 emI 57 flT (j_X5_copy_173 kl147 x5 x6 x7 x8 s0 w) 173 [some (.inr (.inr (some (5, 0)))), none, none, none, none, some (.inl x5), some (.inl x6), some (.inl x7), some (.inl x8), none] [.inl s0] w := by
  unfold j_X5_copy_173
  refine GE_chk (fun h23 => ?_)
  refine GE_chk (fun h24 => ?_)
  refine GE_run flG_T (pc1 := 147) (L1 := [some (.inr (.inr (some (5, 0)))), none, none, none, none, some (.inl x5), some (.inl x6), some (.inl x7), some (.inl (x8 + 1)), some (.inl s0)]) (S1 := []) (w1 := up w 30 0 (tn (x7 + s0)) (w 30 0 (tn (x6 + s0)))) (P := (inB (x6 + s0) 160) ∧ (inB (x7 + s0) 160) ∧ True) [(.istore 9, 0, 0, 0, 0), (.aload_n 0, 0, 0, 0, 0), (.getfield 40, 5, 17, 0, 0), (.iload 7, 0, 0, 0, 0), (.iload 9, 0, 0, 0, 0), (.iadd, 0, 0, 0, 0), (.aload_n 0, 0, 0, 0, 0), (.getfield 40, 5, 17, 0, 0), (.iload 6, 0, 0, 0, 0), (.iload 9, 0, 0, 0, 0), (.iadd, 0, 0, 0, 0), (.iaload, 0, 0, 0, 0), (.iastore, 0, 0, 0, 0), (.iinc 8 1, 0, 0, 1, 0), (.goto (-51), 0, 0, 0, 0)] (by decide +kernel) rfl ⟨h23, h24, trivial⟩ ?_
  exact GE_weak [true, false, false, false, false, true, true, true, true, false] (ih (x8 + 1) (up w 30 0 (tn (x7 + s0)) (w 30 0 (tn (x6 + s0)))))
noncomputable def h_X5_copy_147 (x5 : Int32) (x6 : Int32) (x7 : Int32) (k201 : Mem → Option (Int32 × Mem)) : Nat → Int32 → Mem → Option (Int32 × Mem)
  | 0, _, _ => none
  | n + 1, x8, w => if x8 < x5 then (if x6 < x7 then (j_X5_copy_173 (h_X5_copy_147 x5 x6 x7 k201 n) x5 x6 x7 x8 ((x5 - 1) - x8) w) else (j_X5_copy_173 (h_X5_copy_147 x5 x6 x7 k201 n) x5 x6 x7 x8 x8 w)) else (k201 w)
set_option maxRecDepth 100000 in
theorem h_X5_copy_147_ok (l : Launch) (X : XC) (x5 : Int32) (x6 : Int32) (x7 : Int32) (k201 : Mem → Option (Int32 × Mem))  (hk201 : ∀  (w : Mem), GE l X mm_X5_copy 1 emI 57 flT (k201 w) 201 [none, none, none, none, none, some (.inl x5), none, none, none, none] [] w) : ∀ (n : Nat) (x8 : Int32) (w : Mem), GE l X mm_X5_copy 1 emI 57 flT ((h_X5_copy_147 x5 x6 x7 k201 n) x8 w) 147 [some (.inr (.inr (some (5, 0)))), none, none, none, none, some (.inl x5), some (.inl x6), some (.inl x7), some (.inl x8), none] [] w := by
  intro n
  induction n with
  | zero => intro x8 w; exact GE_none
  | succ n ih =>
    intro x8 w
    unfold h_X5_copy_147
    refine GE_run flG_T (pc1 := 151) (L1 := [some (.inr (.inr (some (5, 0)))), none, none, none, none, some (.inl x5), some (.inl x6), some (.inl x7), some (.inl x8), none]) (S1 := [.inl x5, .inl x8]) (w1 := w) (P := True) [(.iload 8, 0, 0, 0, 0), (.iload 5, 0, 0, 0, 0)] (by decide +kernel) rfl trivial ?_
    refine GE_icmpN (k := .ge) (off := 50) (tgt := 201) (by decide +kernel) (by decide) (cnd_ge _ _) (fun c21 => ?_) (fun c21 => ?_)
    · exact GE_weak [false, false, false, false, false, true, false, false, false, false] (hk201 w)
    · refine GE_run flG_T (pc1 := 158) (L1 := [some (.inr (.inr (some (5, 0)))), none, none, none, none, some (.inl x5), some (.inl x6), some (.inl x7), some (.inl x8), none]) (S1 := [.inl x7, .inl x6]) (w1 := w) (P := True) [(.iload 6, 0, 0, 0, 0), (.iload 7, 0, 0, 0, 0)] (by decide +kernel) rfl trivial ?_
      refine GE_icmpN (k := .ge) (off := 13) (tgt := 171) (by decide +kernel) (by decide) (cnd_ge _ _) (fun c22 => ?_) (fun c22 => ?_)
      · refine GE_run flG_T (pc1 := 173) (L1 := [some (.inr (.inr (some (5, 0)))), none, none, none, none, some (.inl x5), some (.inl x6), some (.inl x7), some (.inl x8), none]) (S1 := [.inl x8]) (w1 := w) (P := True) [(.iload 8, 0, 0, 0, 0)] (by decide +kernel) rfl trivial ?_
        exact GE_weak [true, false, false, false, false, true, true, true, true, false] (j_X5_copy_173_ok l X (h_X5_copy_147 x5 x6 x7 k201 n) x5 x6 x7 x8 x8 ih w)
      · refine GE_run flG_T (pc1 := 173) (L1 := [some (.inr (.inr (some (5, 0)))), none, none, none, none, some (.inl x5), some (.inl x6), some (.inl x7), some (.inl x8), none]) (S1 := [.inl ((x5 - 1) - x8)]) (w1 := w) (P := True) [(.iload 5, 0, 0, 0, 0), (.iconst 1, 0, 0, 1, 0), (.isub, 0, 0, 0, 0), (.iload 8, 0, 0, 0, 0), (.isub, 0, 0, 0, 0), (.goto 5, 0, 0, 0, 0)] (by decide +kernel) rfl trivial ?_
        exact GE_weak [true, false, false, false, false, true, true, true, true, false] (j_X5_copy_173_ok l X (h_X5_copy_147 x5 x6 x7 k201 n) x5 x6 x7 x8 ((x5 - 1) - x8) ih w)
noncomputable def f_X5_copy (a1 : Int32) (a2 : Int32) (a3 : Int32) (a4 : Int32) (a5 : Int32) (w : Mem) : Option (Int32 × Mem) := if (rng a1 0 3) = 0 then (some ((-2), w)) else (if (rng a3 0 3) = 0 then (some ((-2), w)) else (if inB a1 4 then (if (w 28 0 (tn a1)) = (-1) then (some ((-11), w)) else (if inB a3 4 then (if (w 28 0 (tn a3)) = (-1) then (some ((-11), w)) else (if inB a1 4 then (if inB a3 4 then (if (w 28 0 (tn a1)) = (w 28 0 (tn a3)) then (if a5 < 0 then (some ((-12), w)) else (if a2 < 0 then (some ((-12), w)) else (if a4 < 0 then (some ((-12), w)) else (if inB a1 4 then (if a2 ≤ (w 29 0 (tn a1)) then (if inB a3 4 then (if a4 ≤ (w 29 0 (tn a3)) then (if inB a1 4 then (if a5 ≤ ((w 29 0 (tn a1)) - a2) then (if inB a3 4 then (if a5 ≤ ((w 29 0 (tn a3)) - a4) then (h_X5_copy_147 a5 ((40 * a1) + a2) ((40 * a3) + a4) (fun w25 => some (a5, w25)) FU 0 w) else (some ((-12), w))) else none) else (some ((-12), w))) else none) else (some ((-12), w))) else none) else (some ((-12), w))) else none)))) else (some ((-13), w))) else none) else none)) else none)) else none))
set_option maxRecDepth 100000 in
theorem t_X5_copy (l : Launch) (X : XC)  (a1 : Int32) (a2 : Int32) (a3 : Int32) (a4 : Int32) (a5 : Int32) (w : Mem) : Ct l X 1 yX5_copy cX5_copy 10 (some .int) emI [.inr (.inr (some (5, 0))), .inl a1, .inl a2, .inl a3, .inl a4, .inl a5] 57 flT w (f_X5_copy a1 a2 a3 a4 a5 w) := by
  refine Ct_of (mi := mm_X5_copy) (mik_X5 _ _ _) me_X5_copy rfl (okAs_cons (by decide) (okAs_cons rfl (okAs_cons rfl (okAs_cons rfl (okAs_cons rfl (okAs_cons rfl okAs_nil)))))) (Nat.le_of_ble_eq_true rfl) ?_
  unfold f_X5_copy
  refine GE_run flG_T (pc1 := 3) (L1 := [some (.inr (.inr (some (5, 0)))), some (.inl a1), some (.inl a2), some (.inl a3), some (.inl a4), some (.inl a5), none, none, none, none]) (S1 := [.inl 3, .inl 0, .inl a1]) (w1 := w) (P := True) [(.iload_n 1, 0, 0, 0, 0), (.iconst 0, 0, 0, 0, 0), (.iconst 3, 0, 0, 3, 0)] (by decide +kernel) rfl trivial ?_
  refine GE_callSIp (As := [.inl a1, .inl 0, .inl 3]) (S := []) (p_X5_in l X a1 0 3 w) ⟨me_X5_in, ms_X5_in, lk_X5_72⟩ (by decide +kernel) rfl (by decide) (by decide) (Nat.le_of_ble_eq_true rfl) ?_
  refine GE_if (k := .eq) (off := 12) (tgt := 18) (by decide +kernel) (by decide) (cnd_eq _ _) (fun c1 => ?_) (fun c1 => ?_)
  · refine GE_run flG_T (pc1 := 20) (L1 := [some (.inr (.inr (some (5, 0)))), some (.inl a1), some (.inl a2), some (.inl a3), some (.inl a4), some (.inl a5), none, none, none, none]) (S1 := [.inl (-2)]) (w1 := w) (P := True) [(.bipush (-2), 0, 0, -2, 0)] (by decide +kernel) rfl trivial ?_
    exact GE_iret rfl (by decide +kernel)
  · refine GE_run flG_T (pc1 := 12) (L1 := [some (.inr (.inr (some (5, 0)))), some (.inl a1), some (.inl a2), some (.inl a3), some (.inl a4), some (.inl a5), none, none, none, none]) (S1 := [.inl 3, .inl 0, .inl a3]) (w1 := w) (P := True) [(.iload_n 3, 0, 0, 0, 0), (.iconst 0, 0, 0, 0, 0), (.iconst 3, 0, 0, 3, 0)] (by decide +kernel) rfl trivial ?_
    refine GE_callSIp (As := [.inl a3, .inl 0, .inl 3]) (S := []) (p_X5_in l X a3 0 3 w) ⟨me_X5_in, ms_X5_in, lk_X5_72⟩ (by decide +kernel) rfl (by decide) (by decide) (Nat.le_of_ble_eq_true rfl) ?_
    refine GE_ifN (k := .ne) (off := 6) (tgt := 21) (by decide +kernel) (by decide) (cnd_ne _ _) (fun c2 => ?_) (fun c2 => ?_)
    · refine GE_chk (fun h3 => ?_)
      refine GE_run flG_T (pc1 := 28) (L1 := [some (.inr (.inr (some (5, 0)))), some (.inl a1), some (.inl a2), some (.inl a3), some (.inl a4), some (.inl a5), none, none, none, none]) (S1 := [.inl (-1), .inl (w 28 0 (tn a1))]) (w1 := w) (P := (inB a1 4) ∧ True) [(.aload_n 0, 0, 0, 0, 0), (.getfield 34, 5, 15, 0, 0), (.iload_n 1, 0, 0, 0, 0), (.iaload, 0, 0, 0, 0), (.iconst (-1), 0, 0, -1, 0)] (by decide +kernel) rfl ⟨h3, trivial⟩ ?_
      refine GE_icmp (k := .eq) (off := 13) (tgt := 41) (by decide +kernel) (by decide) (cnd_eq _ _) (fun c4 => ?_) (fun c4 => ?_)
      · refine GE_run flG_T (pc1 := 43) (L1 := [some (.inr (.inr (some (5, 0)))), some (.inl a1), some (.inl a2), some (.inl a3), some (.inl a4), some (.inl a5), none, none, none, none]) (S1 := [.inl (-11)]) (w1 := w) (P := True) [(.bipush (-11), 0, 0, -11, 0)] (by decide +kernel) rfl trivial ?_
        exact GE_iret rfl (by decide +kernel)
      · refine GE_chk (fun h5 => ?_)
        refine GE_run flG_T (pc1 := 38) (L1 := [some (.inr (.inr (some (5, 0)))), some (.inl a1), some (.inl a2), some (.inl a3), some (.inl a4), some (.inl a5), none, none, none, none]) (S1 := [.inl (-1), .inl (w 28 0 (tn a3))]) (w1 := w) (P := (inB a3 4) ∧ True) [(.aload_n 0, 0, 0, 0, 0), (.getfield 34, 5, 15, 0, 0), (.iload_n 3, 0, 0, 0, 0), (.iaload, 0, 0, 0, 0), (.iconst (-1), 0, 0, -1, 0)] (by decide +kernel) rfl ⟨h5, trivial⟩ ?_
        refine GE_icmpN (k := .ne) (off := 6) (tgt := 44) (by decide +kernel) (by decide) (cnd_ne _ _) (fun c6 => ?_) (fun c6 => ?_)
        · refine GE_chk (fun h7 => ?_)
          refine GE_chk (fun h8 => ?_)
          refine GE_run flG_T (pc1 := 56) (L1 := [some (.inr (.inr (some (5, 0)))), some (.inl a1), some (.inl a2), some (.inl a3), some (.inl a4), some (.inl a5), none, none, none, none]) (S1 := [.inl (w 28 0 (tn a3)), .inl (w 28 0 (tn a1))]) (w1 := w) (P := (inB a1 4) ∧ (inB a3 4) ∧ True) [(.aload_n 0, 0, 0, 0, 0), (.getfield 34, 5, 15, 0, 0), (.iload_n 1, 0, 0, 0, 0), (.iaload, 0, 0, 0, 0), (.aload_n 0, 0, 0, 0, 0), (.getfield 34, 5, 15, 0, 0), (.iload_n 3, 0, 0, 0, 0), (.iaload, 0, 0, 0, 0)] (by decide +kernel) rfl ⟨h7, h8, trivial⟩ ?_
          refine GE_icmp (k := .eq) (off := 6) (tgt := 62) (by decide +kernel) (by decide) (cnd_eq _ _) (fun c9 => ?_) (fun c9 => ?_)
          · refine GE_run flG_T (pc1 := 64) (L1 := [some (.inr (.inr (some (5, 0)))), some (.inl a1), some (.inl a2), some (.inl a3), some (.inl a4), some (.inl a5), none, none, none, none]) (S1 := [.inl a5]) (w1 := w) (P := True) [(.iload 5, 0, 0, 0, 0)] (by decide +kernel) rfl trivial ?_
            refine GE_if (k := .lt) (off := 60) (tgt := 124) (by decide +kernel) (by decide) (cnd_lt _ _) (fun c10 => ?_) (fun c10 => ?_)
            · refine GE_run flG_T (pc1 := 126) (L1 := [some (.inr (.inr (some (5, 0)))), some (.inl a1), some (.inl a2), some (.inl a3), some (.inl a4), some (.inl a5), none, none, none, none]) (S1 := [.inl (-12)]) (w1 := w) (P := True) [(.bipush (-12), 0, 0, -12, 0)] (by decide +kernel) rfl trivial ?_
              exact GE_iret rfl (by decide +kernel)
            · refine GE_run flG_T (pc1 := 68) (L1 := [some (.inr (.inr (some (5, 0)))), some (.inl a1), some (.inl a2), some (.inl a3), some (.inl a4), some (.inl a5), none, none, none, none]) (S1 := [.inl a2]) (w1 := w) (P := True) [(.iload_n 2, 0, 0, 0, 0)] (by decide +kernel) rfl trivial ?_
              refine GE_if (k := .lt) (off := 56) (tgt := 124) (by decide +kernel) (by decide) (cnd_lt _ _) (fun c11 => ?_) (fun c11 => ?_)
              · refine GE_run flG_T (pc1 := 126) (L1 := [some (.inr (.inr (some (5, 0)))), some (.inl a1), some (.inl a2), some (.inl a3), some (.inl a4), some (.inl a5), none, none, none, none]) (S1 := [.inl (-12)]) (w1 := w) (P := True) [(.bipush (-12), 0, 0, -12, 0)] (by decide +kernel) rfl trivial ?_
                exact GE_iret rfl (by decide +kernel)
              · refine GE_run flG_T (pc1 := 73) (L1 := [some (.inr (.inr (some (5, 0)))), some (.inl a1), some (.inl a2), some (.inl a3), some (.inl a4), some (.inl a5), none, none, none, none]) (S1 := [.inl a4]) (w1 := w) (P := True) [(.iload 4, 0, 0, 0, 0)] (by decide +kernel) rfl trivial ?_
                refine GE_if (k := .lt) (off := 51) (tgt := 124) (by decide +kernel) (by decide) (cnd_lt _ _) (fun c12 => ?_) (fun c12 => ?_)
                · refine GE_run flG_T (pc1 := 126) (L1 := [some (.inr (.inr (some (5, 0)))), some (.inl a1), some (.inl a2), some (.inl a3), some (.inl a4), some (.inl a5), none, none, none, none]) (S1 := [.inl (-12)]) (w1 := w) (P := True) [(.bipush (-12), 0, 0, -12, 0)] (by decide +kernel) rfl trivial ?_
                  exact GE_iret rfl (by decide +kernel)
                · refine GE_chk (fun h13 => ?_)
                  refine GE_run flG_T (pc1 := 83) (L1 := [some (.inr (.inr (some (5, 0)))), some (.inl a1), some (.inl a2), some (.inl a3), some (.inl a4), some (.inl a5), none, none, none, none]) (S1 := [.inl (w 29 0 (tn a1)), .inl a2]) (w1 := w) (P := (inB a1 4) ∧ True) [(.iload_n 2, 0, 0, 0, 0), (.aload_n 0, 0, 0, 0, 0), (.getfield 37, 5, 16, 0, 0), (.iload_n 1, 0, 0, 0, 0), (.iaload, 0, 0, 0, 0)] (by decide +kernel) rfl ⟨h13, trivial⟩ ?_
                  refine GE_icmpN (k := .gt) (off := 41) (tgt := 124) (by decide +kernel) (by decide) (cnd_gt _ _) (fun c14 => ?_) (fun c14 => ?_)
                  · refine GE_run flG_T (pc1 := 126) (L1 := [some (.inr (.inr (some (5, 0)))), some (.inl a1), some (.inl a2), some (.inl a3), some (.inl a4), some (.inl a5), none, none, none, none]) (S1 := [.inl (-12)]) (w1 := w) (P := True) [(.bipush (-12), 0, 0, -12, 0)] (by decide +kernel) rfl trivial ?_
                    exact GE_iret rfl (by decide +kernel)
                  · refine GE_chk (fun h15 => ?_)
                    refine GE_run flG_T (pc1 := 94) (L1 := [some (.inr (.inr (some (5, 0)))), some (.inl a1), some (.inl a2), some (.inl a3), some (.inl a4), some (.inl a5), none, none, none, none]) (S1 := [.inl (w 29 0 (tn a3)), .inl a4]) (w1 := w) (P := (inB a3 4) ∧ True) [(.iload 4, 0, 0, 0, 0), (.aload_n 0, 0, 0, 0, 0), (.getfield 37, 5, 16, 0, 0), (.iload_n 3, 0, 0, 0, 0), (.iaload, 0, 0, 0, 0)] (by decide +kernel) rfl ⟨h15, trivial⟩ ?_
                    refine GE_icmpN (k := .gt) (off := 30) (tgt := 124) (by decide +kernel) (by decide) (cnd_gt _ _) (fun c16 => ?_) (fun c16 => ?_)
                    · refine GE_run flG_T (pc1 := 126) (L1 := [some (.inr (.inr (some (5, 0)))), some (.inl a1), some (.inl a2), some (.inl a3), some (.inl a4), some (.inl a5), none, none, none, none]) (S1 := [.inl (-12)]) (w1 := w) (P := True) [(.bipush (-12), 0, 0, -12, 0)] (by decide +kernel) rfl trivial ?_
                      exact GE_iret rfl (by decide +kernel)
                    · refine GE_chk (fun h17 => ?_)
                      refine GE_run flG_T (pc1 := 107) (L1 := [some (.inr (.inr (some (5, 0)))), some (.inl a1), some (.inl a2), some (.inl a3), some (.inl a4), some (.inl a5), none, none, none, none]) (S1 := [.inl ((w 29 0 (tn a1)) - a2), .inl a5]) (w1 := w) (P := (inB a1 4) ∧ True) [(.iload 5, 0, 0, 0, 0), (.aload_n 0, 0, 0, 0, 0), (.getfield 37, 5, 16, 0, 0), (.iload_n 1, 0, 0, 0, 0), (.iaload, 0, 0, 0, 0), (.iload_n 2, 0, 0, 0, 0), (.isub, 0, 0, 0, 0)] (by decide +kernel) rfl ⟨h17, trivial⟩ ?_
                      refine GE_icmpN (k := .gt) (off := 17) (tgt := 124) (by decide +kernel) (by decide) (cnd_gt _ _) (fun c18 => ?_) (fun c18 => ?_)
                      · refine GE_run flG_T (pc1 := 126) (L1 := [some (.inr (.inr (some (5, 0)))), some (.inl a1), some (.inl a2), some (.inl a3), some (.inl a4), some (.inl a5), none, none, none, none]) (S1 := [.inl (-12)]) (w1 := w) (P := True) [(.bipush (-12), 0, 0, -12, 0)] (by decide +kernel) rfl trivial ?_
                        exact GE_iret rfl (by decide +kernel)
                      · refine GE_chk (fun h19 => ?_)
                        refine GE_run flG_T (pc1 := 121) (L1 := [some (.inr (.inr (some (5, 0)))), some (.inl a1), some (.inl a2), some (.inl a3), some (.inl a4), some (.inl a5), none, none, none, none]) (S1 := [.inl ((w 29 0 (tn a3)) - a4), .inl a5]) (w1 := w) (P := (inB a3 4) ∧ True) [(.iload 5, 0, 0, 0, 0), (.aload_n 0, 0, 0, 0, 0), (.getfield 37, 5, 16, 0, 0), (.iload_n 3, 0, 0, 0, 0), (.iaload, 0, 0, 0, 0), (.iload 4, 0, 0, 0, 0), (.isub, 0, 0, 0, 0)] (by decide +kernel) rfl ⟨h19, trivial⟩ ?_
                        refine GE_icmp (k := .le) (off := 6) (tgt := 127) (by decide +kernel) (by decide) (cnd_le _ _) (fun c20 => ?_) (fun c20 => ?_)
                        · refine GE_run flG_T (pc1 := 147) (L1 := [some (.inr (.inr (some (5, 0)))), some (.inl a1), some (.inl a2), some (.inl a3), some (.inl a4), some (.inl a5), some (.inl ((40 * a1) + a2)), some (.inl ((40 * a3) + a4)), some (.inl 0), none]) (S1 := []) (w1 := w) (P := True) [(.bipush 40, 0, 0, 40, 0), (.iload_n 1, 0, 0, 0, 0), (.imul, 0, 0, 0, 0), (.iload_n 2, 0, 0, 0, 0), (.iadd, 0, 0, 0, 0), (.istore 6, 0, 0, 0, 0), (.bipush 40, 0, 0, 40, 0), (.iload_n 3, 0, 0, 0, 0), (.imul, 0, 0, 0, 0), (.iload 4, 0, 0, 0, 0), (.iadd, 0, 0, 0, 0), (.istore 7, 0, 0, 0, 0), (.iconst 0, 0, 0, 0, 0), (.istore 8, 0, 0, 0, 0)] (by decide +kernel) rfl trivial ?_
                          refine GE_weak [true, false, false, false, false, true, true, true, true, false] (h_X5_copy_147_ok l X a5 ((40 * a1) + a2) ((40 * a3) + a4) _ ?_ FU 0 w)
                          · intro w25
                            refine GE_run flG_T (pc1 := 203) (L1 := [none, none, none, none, none, some (.inl a5), none, none, none, none]) (S1 := [.inl a5]) (w1 := w25) (P := True) [(.iload 5, 0, 0, 0, 0)] (by decide +kernel) rfl trivial ?_
                            exact GE_iret rfl (by decide +kernel)
                        · refine GE_run flG_T (pc1 := 126) (L1 := [some (.inr (.inr (some (5, 0)))), some (.inl a1), some (.inl a2), some (.inl a3), some (.inl a4), some (.inl a5), none, none, none, none]) (S1 := [.inl (-12)]) (w1 := w) (P := True) [(.bipush (-12), 0, 0, -12, 0)] (by decide +kernel) rfl trivial ?_
                          exact GE_iret rfl (by decide +kernel)
          · refine GE_run flG_T (pc1 := 61) (L1 := [some (.inr (.inr (some (5, 0)))), some (.inl a1), some (.inl a2), some (.inl a3), some (.inl a4), some (.inl a5), none, none, none, none]) (S1 := [.inl (-13)]) (w1 := w) (P := True) [(.bipush (-13), 0, 0, -13, 0)] (by decide +kernel) rfl trivial ?_
            exact GE_iret rfl (by decide +kernel)
        · refine GE_run flG_T (pc1 := 43) (L1 := [some (.inr (.inr (some (5, 0)))), some (.inl a1), some (.inl a2), some (.inl a3), some (.inl a4), some (.inl a5), none, none, none, none]) (S1 := [.inl (-11)]) (w1 := w) (P := True) [(.bipush (-11), 0, 0, -11, 0)] (by decide +kernel) rfl trivial ?_
          exact GE_iret rfl (by decide +kernel)
    · refine GE_run flG_T (pc1 := 20) (L1 := [some (.inr (.inr (some (5, 0)))), some (.inl a1), some (.inl a2), some (.inl a3), some (.inl a4), some (.inl a5), none, none, none, none]) (S1 := [.inl (-2)]) (w1 := w) (P := True) [(.bipush (-2), 0, 0, -2, 0)] (by decide +kernel) rfl trivial ?_
      exact GE_iret rfl (by decide +kernel)
abbrev mm_X5_fishersBy : MI := (RX5, cX5_fishersBy, 9, (some .int), ftp_X5.map (fun q => q.1), ctp_X5.map (fun q => q.1), clp_X5.map (fun q => q.1))
noncomputable def h_X5_fishersBy_64 (x1 : Int32) (x3 : Int32) (x4 : Int32) (k153 : Int32 → Mem → Option (Int32 × Mem)) : Nat → Int32 → Int32 → Mem → Option (Int32 × Mem)
  | 0, _, _, _ => none
  | n + 1, x5, x6, w => if x6 < x4 then (if x3 < 0 then (some ((-12), w)) else (if (x3 + (2 * x6)) < x3 then (some ((-12), w)) else (if inB x1 4 then (if (x3 + (2 * x6)) ≤ ((w 29 0 (tn x1)) - 2) then (if inB ((40 * x1) + (x3 + (2 * x6))) 160 then (if inB (((40 * x1) + (x3 + (2 * x6))) + 1) 160 then (Option.bind (f_X5_fisher (w 30 0 (tn ((40 * x1) + (x3 + (2 * x6))))) (w 30 0 (tn (((40 * x1) + (x3 + (2 * x6))) + 1))) w) (fun r15 => if r15.1 < 0 then ((h_X5_fishersBy_64 x1 x3 x4 k153 n) (x5 + 0) (x6 + 1) r15.2) else ((h_X5_fishersBy_64 x1 x3 x4 k153 n) (x5 + 1) (x6 + 1) r15.2))) else none) else none) else (some ((-12), w))) else none))) else (k153 x5 w)
set_option maxRecDepth 100000 in
theorem h_X5_fishersBy_64_ok (l : Launch) (X : XC) (x1 : Int32) (x3 : Int32) (x4 : Int32) (k153 : Int32 → Mem → Option (Int32 × Mem))  (hk153 : ∀ (x5 : Int32) (w : Mem), GE l X mm_X5_fishersBy 2 emI 57 flT (k153 x5 w) 153 [none, none, none, none, none, some (.inl x5), none, none, none] [] w) : ∀ (n : Nat) (x5 : Int32) (x6 : Int32) (w : Mem), GE l X mm_X5_fishersBy 2 emI 57 flT ((h_X5_fishersBy_64 x1 x3 x4 k153 n) x5 x6 w) 64 [some (.inr (.inr (some (5, 0)))), some (.inl x1), none, some (.inl x3), some (.inl x4), some (.inl x5), some (.inl x6), none, none] [] w := by
  intro n
  induction n with
  | zero => intro x5 x6 w; exact GE_none
  | succ n ih =>
    intro x5 x6 w
    unfold h_X5_fishersBy_64
    refine GE_run flG_T (pc1 := 68) (L1 := [some (.inr (.inr (some (5, 0)))), some (.inl x1), none, some (.inl x3), some (.inl x4), some (.inl x5), some (.inl x6), none, none]) (S1 := [.inl x4, .inl x6]) (w1 := w) (P := True) [(.iload 6, 0, 0, 0, 0), (.iload 4, 0, 0, 0, 0)] (by decide +kernel) rfl trivial ?_
    refine GE_icmpN (k := .ge) (off := 85) (tgt := 153) (by decide +kernel) (by decide) (cnd_ge _ _) (fun c8 => ?_) (fun c8 => ?_)
    · exact GE_weak [false, false, false, false, false, true, false, false, false] (hk153 x5 w)
    · refine GE_run flG_T (pc1 := 80) (L1 := [some (.inr (.inr (some (5, 0)))), some (.inl x1), none, some (.inl x3), some (.inl x4), some (.inl x5), some (.inl x6), some (.inl (x3 + (2 * x6))), none]) (S1 := [.inl x3]) (w1 := w) (P := True) [(.iload_n 3, 0, 0, 0, 0), (.iconst 2, 0, 0, 2, 0), (.iload 6, 0, 0, 0, 0), (.imul, 0, 0, 0, 0), (.iadd, 0, 0, 0, 0), (.istore 7, 0, 0, 0, 0), (.iload_n 3, 0, 0, 0, 0)] (by decide +kernel) rfl trivial ?_
      refine GE_if (k := .lt) (off := 22) (tgt := 102) (by decide +kernel) (by decide) (cnd_lt _ _) (fun c9 => ?_) (fun c9 => ?_)
      · refine GE_run flG_T (pc1 := 104) (L1 := [some (.inr (.inr (some (5, 0)))), some (.inl x1), none, some (.inl x3), some (.inl x4), some (.inl x5), some (.inl x6), some (.inl (x3 + (2 * x6))), none]) (S1 := [.inl (-12)]) (w1 := w) (P := True) [(.bipush (-12), 0, 0, -12, 0)] (by decide +kernel) rfl trivial ?_
        exact GE_iret rfl (by decide +kernel)
      · refine GE_run flG_T (pc1 := 86) (L1 := [some (.inr (.inr (some (5, 0)))), some (.inl x1), none, some (.inl x3), some (.inl x4), some (.inl x5), some (.inl x6), some (.inl (x3 + (2 * x6))), none]) (S1 := [.inl x3, .inl (x3 + (2 * x6))]) (w1 := w) (P := True) [(.iload 7, 0, 0, 0, 0), (.iload_n 3, 0, 0, 0, 0)] (by decide +kernel) rfl trivial ?_
        refine GE_icmp (k := .lt) (off := 16) (tgt := 102) (by decide +kernel) (by decide) (cnd_lt _ _) (fun c10 => ?_) (fun c10 => ?_)
        · refine GE_run flG_T (pc1 := 104) (L1 := [some (.inr (.inr (some (5, 0)))), some (.inl x1), none, some (.inl x3), some (.inl x4), some (.inl x5), some (.inl x6), some (.inl (x3 + (2 * x6))), none]) (S1 := [.inl (-12)]) (w1 := w) (P := True) [(.bipush (-12), 0, 0, -12, 0)] (by decide +kernel) rfl trivial ?_
          exact GE_iret rfl (by decide +kernel)
        · refine GE_chk (fun h11 => ?_)
          refine GE_run flG_T (pc1 := 99) (L1 := [some (.inr (.inr (some (5, 0)))), some (.inl x1), none, some (.inl x3), some (.inl x4), some (.inl x5), some (.inl x6), some (.inl (x3 + (2 * x6))), none]) (S1 := [.inl ((w 29 0 (tn x1)) - 2), .inl (x3 + (2 * x6))]) (w1 := w) (P := (inB x1 4) ∧ True) [(.iload 7, 0, 0, 0, 0), (.aload_n 0, 0, 0, 0, 0), (.getfield 37, 5, 16, 0, 0), (.iload_n 1, 0, 0, 0, 0), (.iaload, 0, 0, 0, 0), (.iconst 2, 0, 0, 2, 0), (.isub, 0, 0, 0, 0)] (by decide +kernel) rfl ⟨h11, trivial⟩ ?_
          refine GE_icmp (k := .le) (off := 6) (tgt := 105) (by decide +kernel) (by decide) (cnd_le _ _) (fun c12 => ?_) (fun c12 => ?_)
          · refine GE_chk (fun h13 => ?_)
            refine GE_chk (fun h14 => ?_)
            refine GE_run flG_T (pc1 := 133) (L1 := [some (.inr (.inr (some (5, 0)))), some (.inl x1), none, some (.inl x3), some (.inl x4), some (.inl x5), some (.inl x6), some (.inl (x3 + (2 * x6))), some (.inl ((40 * x1) + (x3 + (2 * x6))))]) (S1 := [.inl (w 30 0 (tn (((40 * x1) + (x3 + (2 * x6))) + 1))), .inl (w 30 0 (tn ((40 * x1) + (x3 + (2 * x6))))), .inr (.inr (some (5, 0))), .inl x5]) (w1 := w) (P := (inB ((40 * x1) + (x3 + (2 * x6))) 160) ∧ (inB (((40 * x1) + (x3 + (2 * x6))) + 1) 160) ∧ True) [(.bipush 40, 0, 0, 40, 0), (.iload_n 1, 0, 0, 0, 0), (.imul, 0, 0, 0, 0), (.iload 7, 0, 0, 0, 0), (.iadd, 0, 0, 0, 0), (.istore 8, 0, 0, 0, 0), (.iload 5, 0, 0, 0, 0), (.aload_n 0, 0, 0, 0, 0), (.aload_n 0, 0, 0, 0, 0), (.getfield 40, 5, 17, 0, 0), (.iload 8, 0, 0, 0, 0), (.iaload, 0, 0, 0, 0), (.aload_n 0, 0, 0, 0, 0), (.getfield 40, 5, 17, 0, 0), (.iload 8, 0, 0, 0, 0), (.iconst 1, 0, 0, 1, 0), (.iadd, 0, 0, 0, 0), (.iaload, 0, 0, 0, 0)] (by decide +kernel) rfl ⟨h13, h14, trivial⟩ ?_
            refine GE_callVI (As := [.inl (w 30 0 (tn ((40 * x1) + (x3 + (2 * x6))))), .inl (w 30 0 (tn (((40 * x1) + (x3 + (2 * x6))) + 1)))]) (k := 5) (i := 0) (S := [.inl x5]) (t_X5_fisher l X (w 30 0 (tn ((40 * x1) + (x3 + (2 * x6))))) (w 30 0 (tn (((40 * x1) + (x3 + (2 * x6))) + 1))) w) (by decide) ⟨me_X5_fisher, mi_X5_fisher, mv_X5_fisher, lk_X5_258⟩ rfl (by decide +kernel) rfl (by decide) (by decide) (Nat.le_of_ble_eq_true rfl) (fun r15 _ => ?_)
            refine GE_if (k := .lt) (off := 7) (tgt := 143) (by decide +kernel) (by decide) (cnd_lt _ _) (fun c16 => ?_) (fun c16 => ?_)
            · refine GE_run flG_T (pc1 := 64) (L1 := [some (.inr (.inr (some (5, 0)))), some (.inl x1), none, some (.inl x3), some (.inl x4), some (.inl (x5 + 0)), some (.inl (x6 + 1)), some (.inl (x3 + (2 * x6))), some (.inl ((40 * x1) + (x3 + (2 * x6))))]) (S1 := []) (w1 := r15.2) (P := True) [(.iconst 0, 0, 0, 0, 0), (.iadd, 0, 0, 0, 0), (.istore 5, 0, 0, 0, 0), (.iinc 6 1, 0, 0, 1, 0), (.goto (-86), 0, 0, 0, 0)] (by decide +kernel) rfl trivial ?_
              exact GE_weak [true, true, false, true, true, true, true, false, false] (ih (x5 + 0) (x6 + 1) r15.2)
            · refine GE_run flG_T (pc1 := 64) (L1 := [some (.inr (.inr (some (5, 0)))), some (.inl x1), none, some (.inl x3), some (.inl x4), some (.inl (x5 + 1)), some (.inl (x6 + 1)), some (.inl (x3 + (2 * x6))), some (.inl ((40 * x1) + (x3 + (2 * x6))))]) (S1 := []) (w1 := r15.2) (P := True) [(.iconst 1, 0, 0, 1, 0), (.goto 4, 0, 0, 0, 0), (.iadd, 0, 0, 0, 0), (.istore 5, 0, 0, 0, 0), (.iinc 6 1, 0, 0, 1, 0), (.goto (-86), 0, 0, 0, 0)] (by decide +kernel) rfl trivial ?_
              exact GE_weak [true, true, false, true, true, true, true, false, false] (ih (x5 + 1) (x6 + 1) r15.2)
          · refine GE_run flG_T (pc1 := 104) (L1 := [some (.inr (.inr (some (5, 0)))), some (.inl x1), none, some (.inl x3), some (.inl x4), some (.inl x5), some (.inl x6), some (.inl (x3 + (2 * x6))), none]) (S1 := [.inl (-12)]) (w1 := w) (P := True) [(.bipush (-12), 0, 0, -12, 0)] (by decide +kernel) rfl trivial ?_
            exact GE_iret rfl (by decide +kernel)
noncomputable def f_X5_fishersBy (a1 : Int32) (a2 : Int32) (a3 : Int32) (a4 : Int32) (w : Mem) : Option (Int32 × Mem) := if (rng a1 0 3) = 0 then (some ((-2), w)) else (if (rng a2 0 2) = 0 then (some ((-2), w)) else (if (rng a4 0 6) = 0 then (some ((-2), w)) else (if inB a1 4 then (if (w 28 0 (tn a1)) = (-1) then (some ((-11), w)) else (if inB a1 4 then (if (w 28 0 (tn a1)) = a2 then (h_X5_fishersBy_64 a1 a3 a4 (fun x5_17 w18 => some (x5_17, w18)) FU 0 0 w) else (some ((-13), w))) else none)) else none)))
set_option maxRecDepth 100000 in
theorem t_X5_fishersBy (l : Launch) (X : XC)  (a1 : Int32) (a2 : Int32) (a3 : Int32) (a4 : Int32) (w : Mem) : Ct l X 2 yX5_fishersBy cX5_fishersBy 9 (some .int) emI [.inr (.inr (some (5, 0))), .inl a1, .inl a2, .inl a3, .inl a4] 57 flT w (f_X5_fishersBy a1 a2 a3 a4 w) := by
  refine Ct_of (mi := mm_X5_fishersBy) (mik_X5 _ _ _) me_X5_fishersBy rfl (okAs_cons (by decide) (okAs_cons rfl (okAs_cons rfl (okAs_cons rfl (okAs_cons rfl okAs_nil))))) (Nat.le_of_ble_eq_true rfl) ?_
  unfold f_X5_fishersBy
  refine GE_run flG_T (pc1 := 3) (L1 := [some (.inr (.inr (some (5, 0)))), some (.inl a1), some (.inl a2), some (.inl a3), some (.inl a4), none, none, none, none]) (S1 := [.inl 3, .inl 0, .inl a1]) (w1 := w) (P := True) [(.iload_n 1, 0, 0, 0, 0), (.iconst 0, 0, 0, 0, 0), (.iconst 3, 0, 0, 3, 0)] (by decide +kernel) rfl trivial ?_
  refine GE_callSIp (As := [.inl a1, .inl 0, .inl 3]) (S := []) (p_X5_in l X a1 0 3 w) ⟨me_X5_in, ms_X5_in, lk_X5_72⟩ (by decide +kernel) rfl (by decide) (by decide) (Nat.le_of_ble_eq_true rfl) ?_
  refine GE_if (k := .eq) (off := 23) (tgt := 29) (by decide +kernel) (by decide) (cnd_eq _ _) (fun c1 => ?_) (fun c1 => ?_)
  · refine GE_run flG_T (pc1 := 31) (L1 := [some (.inr (.inr (some (5, 0)))), some (.inl a1), some (.inl a2), some (.inl a3), some (.inl a4), none, none, none, none]) (S1 := [.inl (-2)]) (w1 := w) (P := True) [(.bipush (-2), 0, 0, -2, 0)] (by decide +kernel) rfl trivial ?_
    exact GE_iret rfl (by decide +kernel)
  · refine GE_run flG_T (pc1 := 12) (L1 := [some (.inr (.inr (some (5, 0)))), some (.inl a1), some (.inl a2), some (.inl a3), some (.inl a4), none, none, none, none]) (S1 := [.inl 2, .inl 0, .inl a2]) (w1 := w) (P := True) [(.iload_n 2, 0, 0, 0, 0), (.iconst 0, 0, 0, 0, 0), (.iconst 2, 0, 0, 2, 0)] (by decide +kernel) rfl trivial ?_
    refine GE_callSIp (As := [.inl a2, .inl 0, .inl 2]) (S := []) (p_X5_in l X a2 0 2 w) ⟨me_X5_in, ms_X5_in, lk_X5_72⟩ (by decide +kernel) rfl (by decide) (by decide) (Nat.le_of_ble_eq_true rfl) ?_
    refine GE_if (k := .eq) (off := 14) (tgt := 29) (by decide +kernel) (by decide) (cnd_eq _ _) (fun c2 => ?_) (fun c2 => ?_)
    · refine GE_run flG_T (pc1 := 31) (L1 := [some (.inr (.inr (some (5, 0)))), some (.inl a1), some (.inl a2), some (.inl a3), some (.inl a4), none, none, none, none]) (S1 := [.inl (-2)]) (w1 := w) (P := True) [(.bipush (-2), 0, 0, -2, 0)] (by decide +kernel) rfl trivial ?_
      exact GE_iret rfl (by decide +kernel)
    · refine GE_run flG_T (pc1 := 23) (L1 := [some (.inr (.inr (some (5, 0)))), some (.inl a1), some (.inl a2), some (.inl a3), some (.inl a4), none, none, none, none]) (S1 := [.inl 6, .inl 0, .inl a4]) (w1 := w) (P := True) [(.iload 4, 0, 0, 0, 0), (.iconst 0, 0, 0, 0, 0), (.bipush 6, 0, 0, 6, 0)] (by decide +kernel) rfl trivial ?_
      refine GE_callSIp (As := [.inl a4, .inl 0, .inl 6]) (S := []) (p_X5_in l X a4 0 6 w) ⟨me_X5_in, ms_X5_in, lk_X5_72⟩ (by decide +kernel) rfl (by decide) (by decide) (Nat.le_of_ble_eq_true rfl) ?_
      refine GE_ifN (k := .ne) (off := 6) (tgt := 32) (by decide +kernel) (by decide) (cnd_ne _ _) (fun c3 => ?_) (fun c3 => ?_)
      · refine GE_chk (fun h4 => ?_)
        refine GE_run flG_T (pc1 := 39) (L1 := [some (.inr (.inr (some (5, 0)))), some (.inl a1), some (.inl a2), some (.inl a3), some (.inl a4), none, none, none, none]) (S1 := [.inl (-1), .inl (w 28 0 (tn a1))]) (w1 := w) (P := (inB a1 4) ∧ True) [(.aload_n 0, 0, 0, 0, 0), (.getfield 34, 5, 15, 0, 0), (.iload_n 1, 0, 0, 0, 0), (.iaload, 0, 0, 0, 0), (.iconst (-1), 0, 0, -1, 0)] (by decide +kernel) rfl ⟨h4, trivial⟩ ?_
        refine GE_icmpN (k := .ne) (off := 6) (tgt := 45) (by decide +kernel) (by decide) (cnd_ne _ _) (fun c5 => ?_) (fun c5 => ?_)
        · refine GE_chk (fun h6 => ?_)
          refine GE_run flG_T (pc1 := 52) (L1 := [some (.inr (.inr (some (5, 0)))), some (.inl a1), some (.inl a2), some (.inl a3), some (.inl a4), none, none, none, none]) (S1 := [.inl a2, .inl (w 28 0 (tn a1))]) (w1 := w) (P := (inB a1 4) ∧ True) [(.aload_n 0, 0, 0, 0, 0), (.getfield 34, 5, 15, 0, 0), (.iload_n 1, 0, 0, 0, 0), (.iaload, 0, 0, 0, 0), (.iload_n 2, 0, 0, 0, 0)] (by decide +kernel) rfl ⟨h6, trivial⟩ ?_
          refine GE_icmp (k := .eq) (off := 6) (tgt := 58) (by decide +kernel) (by decide) (cnd_eq _ _) (fun c7 => ?_) (fun c7 => ?_)
          · refine GE_run flG_T (pc1 := 64) (L1 := [some (.inr (.inr (some (5, 0)))), some (.inl a1), some (.inl a2), some (.inl a3), some (.inl a4), some (.inl 0), some (.inl 0), none, none]) (S1 := []) (w1 := w) (P := True) [(.iconst 0, 0, 0, 0, 0), (.istore 5, 0, 0, 0, 0), (.iconst 0, 0, 0, 0, 0), (.istore 6, 0, 0, 0, 0)] (by decide +kernel) rfl trivial ?_
            refine GE_weak [true, true, false, true, true, true, true, false, false] (h_X5_fishersBy_64_ok l X a1 a3 a4 _ ?_ FU 0 0 w)
            · intro x5_17 w18
              refine GE_run flG_T (pc1 := 155) (L1 := [none, none, none, none, none, some (.inl x5_17), none, none, none]) (S1 := [.inl x5_17]) (w1 := w18) (P := True) [(.iload 5, 0, 0, 0, 0)] (by decide +kernel) rfl trivial ?_
              exact GE_iret rfl (by decide +kernel)
          · refine GE_run flG_T (pc1 := 57) (L1 := [some (.inr (.inr (some (5, 0)))), some (.inl a1), some (.inl a2), some (.inl a3), some (.inl a4), none, none, none, none]) (S1 := [.inl (-13)]) (w1 := w) (P := True) [(.bipush (-13), 0, 0, -13, 0)] (by decide +kernel) rfl trivial ?_
            exact GE_iret rfl (by decide +kernel)
        · refine GE_run flG_T (pc1 := 44) (L1 := [some (.inr (.inr (some (5, 0)))), some (.inl a1), some (.inl a2), some (.inl a3), some (.inl a4), none, none, none, none]) (S1 := [.inl (-11)]) (w1 := w) (P := True) [(.bipush (-11), 0, 0, -11, 0)] (by decide +kernel) rfl trivial ?_
          exact GE_iret rfl (by decide +kernel)
      · refine GE_run flG_T (pc1 := 31) (L1 := [some (.inr (.inr (some (5, 0)))), some (.inl a1), some (.inl a2), some (.inl a3), some (.inl a4), none, none, none, none]) (S1 := [.inl (-2)]) (w1 := w) (P := True) [(.bipush (-2), 0, 0, -2, 0)] (by decide +kernel) rfl trivial ?_
        exact GE_iret rfl (by decide +kernel)
abbrev mm_X5_isUnder : MI := (RX5, cX5_isUnder, 2, (some .boolean), ftp_X5.map (fun q => q.1), ctp_X5.map (fun q => q.1), clp_X5.map (fun q => q.1))
noncomputable def j_X5_isUnder_19   (x0 : Int32) (x1 : Int32) (w : Mem) : Option (Int32 × Mem) := if x1 = 2 then (if x0 = 4 then (some (1, w)) else (some (0, w))) else (some (0, w))
set_option maxRecDepth 100000 in
theorem j_X5_isUnder_19_ok (l : Launch) (X : XC)   (x0 : Int32) (x1 : Int32)   (w : Mem) : GE l X mm_X5_isUnder 0 emI 57 flT (j_X5_isUnder_19 x0 x1 w) 19 [some (.inl x0), some (.inl x1)] [] w := by
  unfold j_X5_isUnder_19
  refine GE_run flG_T (pc1 := 21) (L1 := [some (.inl x0), some (.inl x1)]) (S1 := [.inl 2, .inl x1]) (w1 := w) (P := True) [(.iload_n 1, 0, 0, 0, 0), (.iconst 2, 0, 0, 2, 0)] (by decide +kernel) rfl trivial ?_
  refine GE_icmpN (k := .ne) (off := 12) (tgt := 33) (by decide +kernel) (by decide) (cnd_ne _ _) (fun c5 => ?_) (fun c5 => ?_)
  · refine GE_run flG_T (pc1 := 34) (L1 := [some (.inl x0), some (.inl x1)]) (S1 := [.inl 0]) (w1 := w) (P := True) [(.iconst 0, 0, 0, 0, 0)] (by decide +kernel) rfl trivial ?_
    exact GE_zret (ty := .boolean) rfl (by decide +kernel) (by decide +kernel)
  · refine GE_run flG_T (pc1 := 26) (L1 := [some (.inl x0), some (.inl x1)]) (S1 := [.inl 4, .inl x0]) (w1 := w) (P := True) [(.iload_n 0, 0, 0, 0, 0), (.iconst 4, 0, 0, 4, 0)] (by decide +kernel) rfl trivial ?_
    refine GE_icmpN (k := .ne) (off := 7) (tgt := 33) (by decide +kernel) (by decide) (cnd_ne _ _) (fun c6 => ?_) (fun c6 => ?_)
    · refine GE_run flG_T (pc1 := 34) (L1 := [some (.inl x0), some (.inl x1)]) (S1 := [.inl 0]) (w1 := w) (P := True) [(.iconst 0, 0, 0, 0, 0)] (by decide +kernel) rfl trivial ?_
      exact GE_zret (ty := .boolean) rfl (by decide +kernel) (by decide +kernel)
    · refine GE_run flG_T (pc1 := 34) (L1 := [some (.inl x0), some (.inl x1)]) (S1 := [.inl 1]) (w1 := w) (P := True) [(.iconst 1, 0, 0, 1, 0), (.goto 4, 0, 0, 0, 0)] (by decide +kernel) rfl trivial ?_
      exact GE_zret (ty := .boolean) rfl (by decide +kernel) (by decide +kernel)
noncomputable def f_X5_isUnder (a1 : Int32) (a2 : Int32) (w : Mem) : Option (Int32 × Mem) := if a2 = 0 then (some (1, w)) else (if a1 = a2 then (some (1, w)) else (if a2 = 1 then (if a1 = 3 then (some (1, w)) else (j_X5_isUnder_19 a1 a2 w)) else (j_X5_isUnder_19 a1 a2 w)))
set_option maxRecDepth 100000 in
theorem t_X5_isUnder (l : Launch) (X : XC)  (a1 : Int32) (a2 : Int32) (w : Mem) : Ct l X 0 yX5_isUnder cX5_isUnder 2 (some .boolean) emI [.inl a1, .inl a2] 57 flT w (f_X5_isUnder a1 a2 w) := by
  refine Ct_of (mi := mm_X5_isUnder) (mik_X5 _ _ _) me_X5_isUnder rfl (okAs_cons rfl (okAs_cons rfl okAs_nil)) (Nat.le_of_ble_eq_true rfl) ?_
  unfold f_X5_isUnder
  refine GE_run flG_T (pc1 := 1) (L1 := [some (.inl a1), some (.inl a2)]) (S1 := [.inl a2]) (w1 := w) (P := True) [(.iload_n 1, 0, 0, 0, 0)] (by decide +kernel) rfl trivial ?_
  refine GE_if (k := .eq) (off := 28) (tgt := 29) (by decide +kernel) (by decide) (cnd_eq _ _) (fun c1 => ?_) (fun c1 => ?_)
  · refine GE_run flG_T (pc1 := 34) (L1 := [some (.inl a1), some (.inl a2)]) (S1 := [.inl 1]) (w1 := w) (P := True) [(.iconst 1, 0, 0, 1, 0), (.goto 4, 0, 0, 0, 0)] (by decide +kernel) rfl trivial ?_
    exact GE_zret (ty := .boolean) rfl (by decide +kernel) (by decide +kernel)
  · refine GE_run flG_T (pc1 := 6) (L1 := [some (.inl a1), some (.inl a2)]) (S1 := [.inl a2, .inl a1]) (w1 := w) (P := True) [(.iload_n 0, 0, 0, 0, 0), (.iload_n 1, 0, 0, 0, 0)] (by decide +kernel) rfl trivial ?_
    refine GE_icmp (k := .eq) (off := 23) (tgt := 29) (by decide +kernel) (by decide) (cnd_eq _ _) (fun c2 => ?_) (fun c2 => ?_)
    · refine GE_run flG_T (pc1 := 34) (L1 := [some (.inl a1), some (.inl a2)]) (S1 := [.inl 1]) (w1 := w) (P := True) [(.iconst 1, 0, 0, 1, 0), (.goto 4, 0, 0, 0, 0)] (by decide +kernel) rfl trivial ?_
      exact GE_zret (ty := .boolean) rfl (by decide +kernel) (by decide +kernel)
    · refine GE_run flG_T (pc1 := 11) (L1 := [some (.inl a1), some (.inl a2)]) (S1 := [.inl 1, .inl a2]) (w1 := w) (P := True) [(.iload_n 1, 0, 0, 0, 0), (.iconst 1, 0, 0, 1, 0)] (by decide +kernel) rfl trivial ?_
      refine GE_icmpN (k := .ne) (off := 8) (tgt := 19) (by decide +kernel) (by decide) (cnd_ne _ _) (fun c3 => ?_) (fun c3 => ?_)
      · exact GE_weak [true, true] (j_X5_isUnder_19_ok l X a1 a2 w)
      · refine GE_run flG_T (pc1 := 16) (L1 := [some (.inl a1), some (.inl a2)]) (S1 := [.inl 3, .inl a1]) (w1 := w) (P := True) [(.iload_n 0, 0, 0, 0, 0), (.iconst 3, 0, 0, 3, 0)] (by decide +kernel) rfl trivial ?_
        refine GE_icmp (k := .eq) (off := 13) (tgt := 29) (by decide +kernel) (by decide) (cnd_eq _ _) (fun c4 => ?_) (fun c4 => ?_)
        · refine GE_run flG_T (pc1 := 34) (L1 := [some (.inl a1), some (.inl a2)]) (S1 := [.inl 1]) (w1 := w) (P := True) [(.iconst 1, 0, 0, 1, 0), (.goto 4, 0, 0, 0, 0)] (by decide +kernel) rfl trivial ?_
          exact GE_zret (ty := .boolean) rfl (by decide +kernel) (by decide +kernel)
        · exact GE_weak [true, true] (j_X5_isUnder_19_ok l X a1 a2 w)
abbrev mm_X5_taken : MI := (RX5, cX5_taken, 3, (some .int), ftp_X5.map (fun q => q.1), ctp_X5.map (fun q => q.1), clp_X5.map (fun q => q.1))
noncomputable def f_X5_taken (a1 : Int32) (a2 : Int32) (w : Mem) : Option (Int32 × Mem) := if (rng a2 0 6) = 0 then (some ((-2), w)) else (if (rng a1 0 11) = 0 then (some ((-12), w)) else (if ¬ (6 : Int32) = 0 then (if (rmI a1 6) < (w 5 0 0) then (if a1 < 6 then (if a2 < 6 then (if inB a1 6 then (Option.bind (f_X5_isUnder (w 20 0 (tn a1)) a2 w) (fun r8 => if r8.1 = 0 then (some ((-13), r8.2)) else (some (a1, r8.2)))) else none) else (some ((-13), w))) else (if a2 = 6 then (if inB (3 * (a1 - 6)) 18 then (some (w 22 0 (tn (3 * (a1 - 6))), w)) else none) else (some ((-13), w)))) else (some ((-11), w))) else none))
set_option maxRecDepth 100000 in
theorem t_X5_taken (l : Launch) (X : XC)  (a1 : Int32) (a2 : Int32) (w : Mem) : Ct l X 1 yX5_taken cX5_taken 3 (some .int) emI [.inr (.inr (some (5, 0))), .inl a1, .inl a2] 57 flT w (f_X5_taken a1 a2 w) := by
  refine Ct_of (mi := mm_X5_taken) (mik_X5 _ _ _) me_X5_taken rfl (okAs_cons (by decide) (okAs_cons rfl (okAs_cons rfl okAs_nil))) (Nat.le_of_ble_eq_true rfl) ?_
  unfold f_X5_taken
  refine GE_run flG_T (pc1 := 4) (L1 := [some (.inr (.inr (some (5, 0)))), some (.inl a1), some (.inl a2)]) (S1 := [.inl 6, .inl 0, .inl a2]) (w1 := w) (P := True) [(.iload_n 2, 0, 0, 0, 0), (.iconst 0, 0, 0, 0, 0), (.bipush 6, 0, 0, 6, 0)] (by decide +kernel) rfl trivial ?_
  refine GE_callSIp (As := [.inl a2, .inl 0, .inl 6]) (S := []) (p_X5_in l X a2 0 6 w) ⟨me_X5_in, ms_X5_in, lk_X5_72⟩ (by decide +kernel) rfl (by decide) (by decide) (Nat.le_of_ble_eq_true rfl) ?_
  refine GE_ifN (k := .ne) (off := 6) (tgt := 13) (by decide +kernel) (by decide) (cnd_ne _ _) (fun c1 => ?_) (fun c1 => ?_)
  · refine GE_run flG_T (pc1 := 17) (L1 := [some (.inr (.inr (some (5, 0)))), some (.inl a1), some (.inl a2)]) (S1 := [.inl 11, .inl 0, .inl a1]) (w1 := w) (P := True) [(.iload_n 1, 0, 0, 0, 0), (.iconst 0, 0, 0, 0, 0), (.bipush 11, 0, 0, 11, 0)] (by decide +kernel) rfl trivial ?_
    refine GE_callSIp (As := [.inl a1, .inl 0, .inl 11]) (S := []) (p_X5_in l X a1 0 11 w) ⟨me_X5_in, ms_X5_in, lk_X5_72⟩ (by decide +kernel) rfl (by decide) (by decide) (Nat.le_of_ble_eq_true rfl) ?_
    refine GE_ifN (k := .ne) (off := 6) (tgt := 26) (by decide +kernel) (by decide) (cnd_ne _ _) (fun c2 => ?_) (fun c2 => ?_)
    · refine GE_chk (fun h3 => ?_)
      refine GE_run flG_T (pc1 := 34) (L1 := [some (.inr (.inr (some (5, 0)))), some (.inl a1), some (.inl a2)]) (S1 := [.inl (w 5 0 0), .inl (rmI a1 6)]) (w1 := w) (P := (¬ (6 : Int32) = 0) ∧ True) [(.iload_n 1, 0, 0, 0, 0), (.bipush 6, 0, 0, 6, 0), (.irem, 0, 0, 0, 0), (.aload_n 0, 0, 0, 0, 0), (.getfield 69, 5, 0, 0, 0)] (by decide +kernel) rfl ⟨h3, trivial⟩ ?_
      refine GE_icmp (k := .lt) (off := 6) (tgt := 40) (by decide +kernel) (by decide) (cnd_lt _ _) (fun c4 => ?_) (fun c4 => ?_)
      · refine GE_run flG_T (pc1 := 43) (L1 := [some (.inr (.inr (some (5, 0)))), some (.inl a1), some (.inl a2)]) (S1 := [.inl 6, .inl a1]) (w1 := w) (P := True) [(.iload_n 1, 0, 0, 0, 0), (.bipush 6, 0, 0, 6, 0)] (by decide +kernel) rfl trivial ?_
        refine GE_icmp (k := .lt) (off := 26) (tgt := 69) (by decide +kernel) (by decide) (cnd_lt _ _) (fun c5 => ?_) (fun c5 => ?_)
        · refine GE_run flG_T (pc1 := 72) (L1 := [some (.inr (.inr (some (5, 0)))), some (.inl a1), some (.inl a2)]) (S1 := [.inl 6, .inl a2]) (w1 := w) (P := True) [(.iload_n 2, 0, 0, 0, 0), (.bipush 6, 0, 0, 6, 0)] (by decide +kernel) rfl trivial ?_
          refine GE_icmpN (k := .ge) (off := 20) (tgt := 92) (by decide +kernel) (by decide) (cnd_ge _ _) (fun c6 => ?_) (fun c6 => ?_)
          · refine GE_run flG_T (pc1 := 94) (L1 := [some (.inr (.inr (some (5, 0)))), some (.inl a1), some (.inl a2)]) (S1 := [.inl (-13)]) (w1 := w) (P := True) [(.bipush (-13), 0, 0, -13, 0)] (by decide +kernel) rfl trivial ?_
            exact GE_iret rfl (by decide +kernel)
          · refine GE_chk (fun h7 => ?_)
            refine GE_run flG_T (pc1 := 82) (L1 := [some (.inr (.inr (some (5, 0)))), some (.inl a1), some (.inl a2)]) (S1 := [.inl a2, .inl (w 20 0 (tn a1))]) (w1 := w) (P := (inB a1 6) ∧ True) [(.aload_n 0, 0, 0, 0, 0), (.getfield 7, 5, 1, 0, 0), (.iload_n 1, 0, 0, 0, 0), (.iaload, 0, 0, 0, 0), (.iload_n 2, 0, 0, 0, 0)] (by decide +kernel) rfl ⟨h7, trivial⟩ ?_
            refine GE_callSI (As := [.inl (w 20 0 (tn a1)), .inl a2]) (S := []) (t_X5_isUnder l X (w 20 0 (tn a1)) a2 w) ⟨me_X5_isUnder, ms_X5_isUnder, lk_X5_261⟩ (by decide +kernel) rfl (by decide) (by decide) (Nat.le_of_ble_eq_true rfl) (fun r8 _ => ?_)
            refine GE_if (k := .eq) (off := 7) (tgt := 92) (by decide +kernel) (by decide) (cnd_eq _ _) (fun c9 => ?_) (fun c9 => ?_)
            · refine GE_run flG_T (pc1 := 94) (L1 := [some (.inr (.inr (some (5, 0)))), some (.inl a1), some (.inl a2)]) (S1 := [.inl (-13)]) (w1 := r8.2) (P := True) [(.bipush (-13), 0, 0, -13, 0)] (by decide +kernel) rfl trivial ?_
              exact GE_iret rfl (by decide +kernel)
            · refine GE_run flG_T (pc1 := 94) (L1 := [some (.inr (.inr (some (5, 0)))), some (.inl a1), some (.inl a2)]) (S1 := [.inl a1]) (w1 := r8.2) (P := True) [(.iload_n 1, 0, 0, 0, 0), (.goto 5, 0, 0, 0, 0)] (by decide +kernel) rfl trivial ?_
              exact GE_iret rfl (by decide +kernel)
        · refine GE_run flG_T (pc1 := 49) (L1 := [some (.inr (.inr (some (5, 0)))), some (.inl a1), some (.inl a2)]) (S1 := [.inl 6, .inl a2]) (w1 := w) (P := True) [(.iload_n 2, 0, 0, 0, 0), (.bipush 6, 0, 0, 6, 0)] (by decide +kernel) rfl trivial ?_
          refine GE_icmpN (k := .ne) (off := 17) (tgt := 66) (by decide +kernel) (by decide) (cnd_ne _ _) (fun c10 => ?_) (fun c10 => ?_)
          · refine GE_run flG_T (pc1 := 68) (L1 := [some (.inr (.inr (some (5, 0)))), some (.inl a1), some (.inl a2)]) (S1 := [.inl (-13)]) (w1 := w) (P := True) [(.bipush (-13), 0, 0, -13, 0)] (by decide +kernel) rfl trivial ?_
            exact GE_iret rfl (by decide +kernel)
          · refine GE_chk (fun h11 => ?_)
            refine GE_run flG_T (pc1 := 68) (L1 := [some (.inr (.inr (some (5, 0)))), some (.inl a1), some (.inl a2)]) (S1 := [.inl (w 22 0 (tn (3 * (a1 - 6))))]) (w1 := w) (P := (inB (3 * (a1 - 6)) 18) ∧ True) [(.aload_n 0, 0, 0, 0, 0), (.getfield 16, 5, 3, 0, 0), (.iconst 3, 0, 0, 3, 0), (.iload_n 1, 0, 0, 0, 0), (.bipush 6, 0, 0, 6, 0), (.isub, 0, 0, 0, 0), (.imul, 0, 0, 0, 0), (.iaload, 0, 0, 0, 0), (.goto 5, 0, 0, 0, 0)] (by decide +kernel) rfl ⟨h11, trivial⟩ ?_
            exact GE_iret rfl (by decide +kernel)
      · refine GE_run flG_T (pc1 := 39) (L1 := [some (.inr (.inr (some (5, 0)))), some (.inl a1), some (.inl a2)]) (S1 := [.inl (-11)]) (w1 := w) (P := True) [(.bipush (-11), 0, 0, -11, 0)] (by decide +kernel) rfl trivial ?_
        exact GE_iret rfl (by decide +kernel)
    · refine GE_run flG_T (pc1 := 25) (L1 := [some (.inr (.inr (some (5, 0)))), some (.inl a1), some (.inl a2)]) (S1 := [.inl (-12)]) (w1 := w) (P := True) [(.bipush (-12), 0, 0, -12, 0)] (by decide +kernel) rfl trivial ?_
      exact GE_iret rfl (by decide +kernel)
  · refine GE_run flG_T (pc1 := 12) (L1 := [some (.inr (.inr (some (5, 0)))), some (.inl a1), some (.inl a2)]) (S1 := [.inl (-2)]) (w1 := w) (P := True) [(.bipush (-2), 0, 0, -2, 0)] (by decide +kernel) rfl trivial ?_
    exact GE_iret rfl (by decide +kernel)
