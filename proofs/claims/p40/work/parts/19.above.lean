/-! the reader's whole text; lessons -/
abbrev mm_X1_faultOf : MI := (RX1, cX1_faultOf, 2, (some .int), ftp_X1.map (fun q => q.1), ctp_X1.map (fun q => q.1), clp_X1.map (fun q => q.1))
noncomputable def h_X1_faultOf_16  (k84 : Mem → Option (Int32 × Mem)) : Nat → Int32 → Mem → Option (Int32 × Mem)
  | 0, _, _ => none
  | n + 1, x1, w => if x1 < 3 then (if (w 1 0 5) = (3 + x1) then (Option.bind (f_X1_next  w) (fun r4 => Option.bind (rd 40 0 0 r4) (fun r5 => if r5.1 = 0 then (some (r5.2 1 0 6, r5.2)) else (if (r5.2 1 0 5) = 59 then (Option.bind (f_X1_next  (setV r5.2 11 0 x1 (r5.2 1 0 3))) (fun r8 => (h_X1_faultOf_16 k84 n) (x1 + 1) r8)) else (some (r5.2 1 0 6, r5.2)))))) else (some (w 1 0 6, w))) else (k84 w)
set_option maxRecDepth 100000 in
theorem h_X1_faultOf_16_ok (l : Launch) (X : XC) {N9 : Nat} (hN : 39 ≤ N9)  (k84 : Mem → Option (Int32 × Mem))  (hk84 : ∀  (w : Mem), GE l X mm_X1_faultOf 47 emI N9 flT (k84 w) 84 [some (.inr (.inr (some (1, 0)))), none] [] w) : ∀ (n : Nat) (x1 : Int32) (w : Mem), GE l X mm_X1_faultOf 47 emI N9 flT ((h_X1_faultOf_16 k84 n) x1 w) 16 [some (.inr (.inr (some (1, 0)))), some (.inl x1)] [] w := by
  intro n
  induction n with
  | zero => intro x1 w; exact GE_none
  | succ n ih =>
    intro x1 w
    unfold h_X1_faultOf_16
    refine GE_run (flG_T hN) (pc1 := 18) (L1 := [some (.inr (.inr (some (1, 0)))), some (.inl x1)]) (S1 := [.inl 3, .inl x1]) (w1 := w) (P := True) [(.iload_n 1, 0, 0, 0, 0), (.iconst 3, 0, 0, 3, 0)] (by decide +kernel) rfl trivial ?_
    refine GE_icmpN (k := .ge) (off := 66) (tgt := 84) (by decide +kernel) (by decide) (cnd_ge _ _) (fun c2 => ?_) (fun c2 => ?_)
    · exact GE_weak [true, false] (hk84 w)
    · refine GE_run (flG_T hN) (pc1 := 28) (L1 := [some (.inr (.inr (some (1, 0)))), some (.inl x1)]) (S1 := [.inl (3 + x1), .inl (w 1 0 5)]) (w1 := w) (P := True) [(.aload_n 0, 0, 0, 0, 0), (.getfield 38, 1, 5, 0, 0), (.iconst 3, 0, 0, 3, 0), (.iload_n 1, 0, 0, 0, 0), (.iadd, 0, 0, 0, 0)] (by decide +kernel) rfl trivial ?_
      refine GE_icmp (k := .eq) (off := 8) (tgt := 36) (by decide +kernel) (by decide) (cnd_eq _ _) (fun c3 => ?_) (fun c3 => ?_)
      · refine GE_run (flG_T hN) (pc1 := 37) (L1 := [some (.inr (.inr (some (1, 0)))), some (.inl x1)]) (S1 := [.inr (.inr (some (1, 0)))]) (w1 := w) (P := True) [(.aload_n 0, 0, 0, 0, 0)] (by decide +kernel) rfl trivial ?_
        refine GE_callVV (As := []) (k := 1) (i := 0) (S := []) (t_X1_next l X hN w) (by decide) ⟨me_X1_next, mi_X1_next, mv_X1_next, lk_X1_35⟩ rfl (by decide +kernel) rfl (by decide) (by decide) (Nat.le_of_ble_eq_true rfl) (fun r4 _ => ?_)
        refine GE_run (flG_T hN) (pc1 := 42) (L1 := [some (.inr (.inr (some (1, 0)))), some (.inl x1)]) (S1 := [.inl 0, .inr (.inr (some (1, 0)))]) (w1 := r4) (P := True) [(.aload_n 0, 0, 0, 0, 0), (.iconst 0, 0, 0, 0, 0)] (by decide +kernel) rfl trivial ?_
        refine GE_callSI (As := [.inr (.inr (some (1, 0))), .inl 0]) (S := []) ((fun (l : Launch) (X : XC) (hN : 39 ≤ N9) => (rd_ok l X hN 40).1) l X hN 0 r4) ⟨me_X1_readsE, ms_X1_readsE, lk_X1_44⟩ (by decide +kernel) rfl (by decide) (by decide) (Nat.le_of_ble_eq_true rfl) (fun r5 _ => ?_)
        refine GE_if (k := .eq) (off := 12) (tgt := 57) (by decide +kernel) (by decide) (cnd_eq _ _) (fun c6 => ?_) (fun c6 => ?_)
        · refine GE_run (flG_T hN) (pc1 := 61) (L1 := [some (.inr (.inr (some (1, 0)))), some (.inl x1)]) (S1 := [.inl (r5.2 1 0 6)]) (w1 := r5.2) (P := True) [(.aload_n 0, 0, 0, 0, 0), (.getfield 41, 1, 6, 0, 0)] (by decide +kernel) rfl trivial ?_
          exact GE_iret rfl (by decide +kernel)
        · refine GE_run (flG_T hN) (pc1 := 54) (L1 := [some (.inr (.inr (some (1, 0)))), some (.inl x1)]) (S1 := [.inl 59, .inl (r5.2 1 0 5)]) (w1 := r5.2) (P := True) [(.aload_n 0, 0, 0, 0, 0), (.getfield 38, 1, 5, 0, 0), (.bipush 59, 0, 0, 59, 0)] (by decide +kernel) rfl trivial ?_
          refine GE_icmp (k := .eq) (off := 8) (tgt := 62) (by decide +kernel) (by decide) (cnd_eq _ _) (fun c7 => ?_) (fun c7 => ?_)
          · refine GE_run (flG_T hN) (pc1 := 71) (L1 := [some (.inr (.inr (some (1, 0)))), some (.inl x1)]) (S1 := [.inl (r5.2 1 0 3), .inl x1, .inr (.inr (some (11, 0)))]) (w1 := r5.2) (P := True) [(.aload_n 0, 0, 0, 0, 0), (.getfield 18, 1, 4, 0, 0), (.iload_n 1, 0, 0, 0, 0), (.aload_n 0, 0, 0, 0, 0), (.getfield 29, 1, 3, 0, 0)] (by decide +kernel) rfl trivial ?_
            refine GE_callNVp (As := [.inr (.inr (some (11, 0))), .inl x1, .inl (r5.2 1 0 3)]) (S := []) (p_X4_set l X hN 11 0 x1 (r5.2 1 0 3) (by decide) (okM hN (by decide)) r5.2) ⟨me_X4_set, ms_X4_set, ln_X1_25⟩ (by decide +kernel) rfl (by decide) (by decide) (Nat.le_of_ble_eq_true rfl) ?_
            refine GE_run (flG_T hN) (pc1 := 75) (L1 := [some (.inr (.inr (some (1, 0)))), some (.inl x1)]) (S1 := [.inr (.inr (some (1, 0)))]) (w1 := setV r5.2 11 0 x1 (r5.2 1 0 3)) (P := True) [(.aload_n 0, 0, 0, 0, 0)] (by decide +kernel) rfl trivial ?_
            refine GE_callVV (As := []) (k := 1) (i := 0) (S := []) (t_X1_next l X hN (setV r5.2 11 0 x1 (r5.2 1 0 3))) (by decide) ⟨me_X1_next, mi_X1_next, mv_X1_next, lk_X1_35⟩ rfl (by decide +kernel) rfl (by decide) (by decide) (Nat.le_of_ble_eq_true rfl) (fun r8 _ => ?_)
            refine GE_run (flG_T hN) (pc1 := 16) (L1 := [some (.inr (.inr (some (1, 0)))), some (.inl (x1 + 1))]) (S1 := []) (w1 := r8) (P := True) [(.iinc 1 1, 0, 0, 1, 0), (.goto (-65), 0, 0, 0, 0)] (by decide +kernel) rfl trivial ?_
            exact GE_weak [true, true] (ih (x1 + 1) r8)
          · refine GE_run (flG_T hN) (pc1 := 61) (L1 := [some (.inr (.inr (some (1, 0)))), some (.inl x1)]) (S1 := [.inl (r5.2 1 0 6)]) (w1 := r5.2) (P := True) [(.aload_n 0, 0, 0, 0, 0), (.getfield 41, 1, 6, 0, 0)] (by decide +kernel) rfl trivial ?_
            exact GE_iret rfl (by decide +kernel)
      · refine GE_run (flG_T hN) (pc1 := 35) (L1 := [some (.inr (.inr (some (1, 0)))), some (.inl x1)]) (S1 := [.inl (w 1 0 6)]) (w1 := w) (P := True) [(.aload_n 0, 0, 0, 0, 0), (.getfield 41, 1, 6, 0, 0)] (by decide +kernel) rfl trivial ?_
        exact GE_iret rfl (by decide +kernel)
noncomputable def f_X1_faultOf  (w : Mem) : Option (Int32 × Mem) := Option.bind (f_X1_next  (up (up w 1 0 3 0) 1 0 7 0)) (fun r1 => h_X1_faultOf_16 (fun w9 => if (w9 1 0 5) = 0 then (some ((-1), w9)) else (some (w9 1 0 6, w9))) FU 0 r1)
set_option maxRecDepth 100000 in
theorem t_X1_faultOf (l : Launch) (X : XC) {N9 : Nat} (hN : 39 ≤ N9)   (w : Mem) : Ct l X 47 yX1_faultOf cX1_faultOf 2 (some .int) emI [.inr (.inr (some (1, 0)))] N9 flT w (f_X1_faultOf  w) := by
  refine Ct_of (mi := mm_X1_faultOf) (mik_X1 _ _ _) me_X1_faultOf rfl (okAs_cons (okMV hN (by decide)) okAs_nil) (Nat.le_of_ble_eq_true rfl) ?_
  unfold f_X1_faultOf
  refine GE_run (flG_T hN) (pc1 := 11) (L1 := [some (.inr (.inr (some (1, 0)))), none]) (S1 := [.inr (.inr (some (1, 0)))]) (w1 := up (up w 1 0 3 0) 1 0 7 0) (P := True) [(.aload_n 0, 0, 0, 0, 0), (.iconst 0, 0, 0, 0, 0), (.putfield 29, 1, 3, 0, 0), (.aload_n 0, 0, 0, 0, 0), (.iconst 0, 0, 0, 0, 0), (.putfield 32, 1, 7, 0, 0), (.aload_n 0, 0, 0, 0, 0)] (by decide +kernel) rfl trivial ?_
  refine GE_callVV (As := []) (k := 1) (i := 0) (S := []) (t_X1_next l X hN (up (up w 1 0 3 0) 1 0 7 0)) (by decide) ⟨me_X1_next, mi_X1_next, mv_X1_next, lk_X1_35⟩ rfl (by decide +kernel) rfl (by decide) (by decide) (Nat.le_of_ble_eq_true rfl) (fun r1 _ => ?_)
  refine GE_run (flG_T hN) (pc1 := 16) (L1 := [some (.inr (.inr (some (1, 0)))), some (.inl 0)]) (S1 := []) (w1 := r1) (P := True) [(.iconst 0, 0, 0, 0, 0), (.istore_n 1, 0, 0, 0, 0)] (by decide +kernel) rfl trivial ?_
  refine GE_weak [true, true] (h_X1_faultOf_16_ok l X hN _ ?_ FU 0 r1)
  · intro w9
    refine GE_run (flG_T hN) (pc1 := 88) (L1 := [some (.inr (.inr (some (1, 0)))), none]) (S1 := [.inl (w9 1 0 5)]) (w1 := w9) (P := True) [(.aload_n 0, 0, 0, 0, 0), (.getfield 38, 1, 5, 0, 0)] (by decide +kernel) rfl trivial ?_
    refine GE_ifN (k := .ne) (off := 7) (tgt := 95) (by decide +kernel) (by decide) (cnd_ne _ _) (fun c10 => ?_) (fun c10 => ?_)
    · refine GE_run (flG_T hN) (pc1 := 99) (L1 := [some (.inr (.inr (some (1, 0)))), none]) (S1 := [.inl (w9 1 0 6)]) (w1 := w9) (P := True) [(.aload_n 0, 0, 0, 0, 0), (.getfield 41, 1, 6, 0, 0)] (by decide +kernel) rfl trivial ?_
      exact GE_iret rfl (by decide +kernel)
    · refine GE_run (flG_T hN) (pc1 := 99) (L1 := [some (.inr (.inr (some (1, 0)))), none]) (S1 := [.inl (-1)]) (w1 := w9) (P := True) [(.iconst (-1), 0, 0, -1, 0), (.goto 7, 0, 0, 0, 0)] (by decide +kernel) rfl trivial ?_
      exact GE_iret rfl (by decide +kernel)
abbrev mm_X4_text : MI := (RX4, cX4_text, 2, (some .int), ftp_X4.map (fun q => q.1), ctp_X4.map (fun q => q.1), clp_X4.map (fun q => q.1))
noncomputable def f_X4_text  (w : Mem) : Option (Int32 × Mem) := if (w 3 0 0) < 6 then (Option.bind (f_X1_faultOf  w) (fun r2 => if r2.1 < 0 then (Option.bind (f_X3_add  (up r2.2 1 0 1 0)) (fun r4 => some (r4.1, r4.2))) else (some ((-100) - r2.1, up r2.2 1 0 1 0)))) else (some ((-4), w))
set_option maxRecDepth 100000 in
theorem t_X4_text (l : Launch) (X : XC) {N9 : Nat} (hN : 39 ≤ N9)   (w : Mem) : Ct l X 48 yX4_text cX4_text 2 (some .int) emI [.inr (.inr (some (4, 0)))] N9 flT w (f_X4_text  w) := by
  refine Ct_of (mi := mm_X4_text) (mik_X4 _ _ _) me_X4_text rfl (okAs_cons (okMV hN (by decide)) okAs_nil) (Nat.le_of_ble_eq_true rfl) ?_
  unfold f_X4_text
  refine GE_run (flG_T hN) (pc1 := 9) (L1 := [some (.inr (.inr (some (4, 0)))), none]) (S1 := [.inl 6, .inl (w 3 0 0)]) (w1 := w) (P := True) [(.aload_n 0, 0, 0, 0, 0), (.getfield 10, 4, 0, 0, 0), (.getfield 61, 3, 0, 0, 0), (.bipush 6, 0, 0, 6, 0)] (by decide +kernel) rfl trivial ?_
  refine GE_icmp (k := .lt) (off := 6) (tgt := 15) (by decide +kernel) (by decide) (cnd_lt _ _) (fun c1 => ?_) (fun c1 => ?_)
  · refine GE_run (flG_T hN) (pc1 := 19) (L1 := [some (.inr (.inr (some (4, 0)))), none]) (S1 := [.inr (.inr (some (1, 0)))]) (w1 := w) (P := True) [(.aload_n 0, 0, 0, 0, 0), (.getfield 19, 4, 1, 0, 0)] (by decide +kernel) rfl trivial ?_
    refine GE_callVI (As := []) (k := 1) (i := 0) (S := []) (t_X1_faultOf l X hN w) (by decide) ⟨me_X1_faultOf, mi_X1_faultOf, mv_X1_faultOf, lk_X4_81⟩ rfl (by decide +kernel) rfl (by decide) (by decide) (Nat.le_of_ble_eq_true rfl) (fun r2 _ => ?_)
    refine GE_run (flG_T hN) (pc1 := 32) (L1 := [some (.inr (.inr (some (4, 0)))), some (.inl r2.1)]) (S1 := [.inl r2.1]) (w1 := up r2.2 1 0 1 0) (P := True) [(.istore_n 1, 0, 0, 0, 0), (.aload_n 0, 0, 0, 0, 0), (.getfield 19, 4, 1, 0, 0), (.iconst 0, 0, 0, 0, 0), (.putfield 67, 1, 1, 0, 0), (.iload_n 1, 0, 0, 0, 0)] (by decide +kernel) rfl trivial ?_
    refine GE_if (k := .lt) (off := 8) (tgt := 40) (by decide +kernel) (by decide) (cnd_lt _ _) (fun c3 => ?_) (fun c3 => ?_)
    · refine GE_run (flG_T hN) (pc1 := 58) (L1 := [some (.inr (.inr (some (4, 0)))), some (.inl r2.1)]) (S1 := [.inr (.inr (some (11, 0))), .inr (.inr (some (10, 0))), .inr (.inr (some (3, 0)))]) (w1 := up r2.2 1 0 1 0) (P := True) [(.aload_n 0, 0, 0, 0, 0), (.getfield 10, 4, 0, 0, 0), (.aload_n 0, 0, 0, 0, 0), (.getfield 19, 4, 1, 0, 0), (.getfield 85, 1, 2, 0, 0), (.aload_n 0, 0, 0, 0, 0), (.getfield 19, 4, 1, 0, 0), (.getfield 89, 1, 4, 0, 0)] (by decide +kernel) rfl trivial ?_
      refine GE_callVI (As := [.inr (.inr (some (10, 0))), .inr (.inr (some (11, 0)))]) (k := 3) (i := 0) (S := []) (t_X3_add l X hN (up r2.2 1 0 1 0)) (by decide) ⟨me_X3_add, mi_X3_add, mv_X3_add, lk_X4_92⟩ rfl (by decide +kernel) rfl (by decide) (by decide) (Nat.le_of_ble_eq_true rfl) (fun r4 _ => ?_)
      exact GE_iret rfl (by decide +kernel)
    · refine GE_run (flG_T hN) (pc1 := 39) (L1 := [some (.inr (.inr (some (4, 0)))), some (.inl r2.1)]) (S1 := [.inl ((-100) - r2.1)]) (w1 := up r2.2 1 0 1 0) (P := True) [(.bipush (-100), 0, 0, -100, 0), (.iload_n 1, 0, 0, 0, 0), (.isub, 0, 0, 0, 0)] (by decide +kernel) rfl trivial ?_
      exact GE_iret rfl (by decide +kernel)
  · refine GE_run (flG_T hN) (pc1 := 14) (L1 := [some (.inr (.inr (some (4, 0)))), none]) (S1 := [.inl (-4)]) (w1 := w) (P := True) [(.bipush (-4), 0, 0, -4, 0)] (by decide +kernel) rfl trivial ?_
    exact GE_iret rfl (by decide +kernel)
abbrev mm_X4_feed : MI := (RX4, cX4_feed, 7, (some .int), ftp_X4.map (fun q => q.1), ctp_X4.map (fun q => q.1), clp_X4.map (fun q => q.1))
noncomputable def j_X4_feed_118   (x1 : Int32) (x6 : Int32) (w : Mem) : Option (Int32 × Mem) := if x1 ≤ 4 then (some (w 1 0 1, w)) else (Option.bind (f_X1_add x6 w) (fun r14 => some (r14 1 0 1, r14)))
set_option maxRecDepth 100000 in
theorem j_X4_feed_118_ok (l : Launch) (X : XC) {N9 : Nat} (hN : 39 ≤ N9)   (x1 : Int32) (x6 : Int32)   (w : Mem) : GE l X mm_X4_feed 2 emI N9 flT (j_X4_feed_118 x1 x6 w) 118 [some (.inr (.inr (some (4, 0)))), some (.inl x1), none, none, none, none, some (.inl x6)] [] w := by
  unfold j_X4_feed_118
  refine GE_run (flG_T hN) (pc1 := 120) (L1 := [some (.inr (.inr (some (4, 0)))), some (.inl x1), none, none, none, none, some (.inl x6)]) (S1 := [.inl 4, .inl x1]) (w1 := w) (P := True) [(.iload_n 1, 0, 0, 0, 0), (.iconst 4, 0, 0, 4, 0)] (by decide +kernel) rfl trivial ?_
  refine GE_icmp (k := .le) (off := 12) (tgt := 132) (by decide +kernel) (by decide) (cnd_le _ _) (fun c13 => ?_) (fun c13 => ?_)
  · refine GE_run (flG_T hN) (pc1 := 139) (L1 := [some (.inr (.inr (some (4, 0)))), some (.inl x1), none, none, none, none, some (.inl x6)]) (S1 := [.inl (w 1 0 1)]) (w1 := w) (P := True) [(.aload_n 0, 0, 0, 0, 0), (.getfield 19, 4, 1, 0, 0), (.getfield 67, 1, 1, 0, 0)] (by decide +kernel) rfl trivial ?_
    exact GE_iret rfl (by decide +kernel)
  · refine GE_run (flG_T hN) (pc1 := 129) (L1 := [some (.inr (.inr (some (4, 0)))), some (.inl x1), none, none, none, none, some (.inl x6)]) (S1 := [.inl x6, .inr (.inr (some (1, 0)))]) (w1 := w) (P := True) [(.aload_n 0, 0, 0, 0, 0), (.getfield 19, 4, 1, 0, 0), (.iload 6, 0, 0, 0, 0)] (by decide +kernel) rfl trivial ?_
    refine GE_callVV (As := [.inl x6]) (k := 1) (i := 0) (S := []) (t_X1_add l X hN x6 w) (by decide) ⟨me_X1_add, mi_X1_add, mv_X1_add, lk_X4_77⟩ rfl (by decide +kernel) rfl (by decide) (by decide) (Nat.le_of_ble_eq_true rfl) (fun r14 _ => ?_)
    refine GE_run (flG_T hN) (pc1 := 139) (L1 := [some (.inr (.inr (some (4, 0)))), some (.inl x1), none, none, none, none, some (.inl x6)]) (S1 := [.inl (r14 1 0 1)]) (w1 := r14) (P := True) [(.aload_n 0, 0, 0, 0, 0), (.getfield 19, 4, 1, 0, 0), (.getfield 67, 1, 1, 0, 0)] (by decide +kernel) rfl trivial ?_
    exact GE_iret rfl (by decide +kernel)
noncomputable def j_X4_feed_104   (x1 : Int32) (x5 : Int32) (x6 : Int32) (w : Mem) : Option (Int32 × Mem) := if x1 ≤ 3 then (j_X4_feed_118 x1 x6 w) else (Option.bind (f_X1_add x5 w) (fun r15 => j_X4_feed_118 x1 x6 r15))
set_option maxRecDepth 100000 in
theorem j_X4_feed_104_ok (l : Launch) (X : XC) {N9 : Nat} (hN : 39 ≤ N9)   (x1 : Int32) (x5 : Int32) (x6 : Int32)   (w : Mem) : GE l X mm_X4_feed 2 emI N9 flT (j_X4_feed_104 x1 x5 x6 w) 104 [some (.inr (.inr (some (4, 0)))), some (.inl x1), none, none, none, some (.inl x5), some (.inl x6)] [] w := by
  unfold j_X4_feed_104
  refine GE_run (flG_T hN) (pc1 := 106) (L1 := [some (.inr (.inr (some (4, 0)))), some (.inl x1), none, none, none, some (.inl x5), some (.inl x6)]) (S1 := [.inl 3, .inl x1]) (w1 := w) (P := True) [(.iload_n 1, 0, 0, 0, 0), (.iconst 3, 0, 0, 3, 0)] (by decide +kernel) rfl trivial ?_
  refine GE_icmp (k := .le) (off := 12) (tgt := 118) (by decide +kernel) (by decide) (cnd_le _ _) (fun c12 => ?_) (fun c12 => ?_)
  · exact GE_weak [true, true, false, false, false, false, true] (j_X4_feed_118_ok l X hN x1 x6 w)
  · refine GE_run (flG_T hN) (pc1 := 115) (L1 := [some (.inr (.inr (some (4, 0)))), some (.inl x1), none, none, none, some (.inl x5), some (.inl x6)]) (S1 := [.inl x5, .inr (.inr (some (1, 0)))]) (w1 := w) (P := True) [(.aload_n 0, 0, 0, 0, 0), (.getfield 19, 4, 1, 0, 0), (.iload 5, 0, 0, 0, 0)] (by decide +kernel) rfl trivial ?_
    refine GE_callVV (As := [.inl x5]) (k := 1) (i := 0) (S := []) (t_X1_add l X hN x5 w) (by decide) ⟨me_X1_add, mi_X1_add, mv_X1_add, lk_X4_77⟩ rfl (by decide +kernel) rfl (by decide) (by decide) (Nat.le_of_ble_eq_true rfl) (fun r15 _ => ?_)
    exact GE_weak [true, true, false, false, false, false, true] (j_X4_feed_118_ok l X hN x1 x6 r15)
noncomputable def j_X4_feed_90   (x1 : Int32) (x4 : Int32) (x5 : Int32) (x6 : Int32) (w : Mem) : Option (Int32 × Mem) := if x1 ≤ 2 then (j_X4_feed_104 x1 x5 x6 w) else (Option.bind (f_X1_add x4 w) (fun r16 => j_X4_feed_104 x1 x5 x6 r16))
set_option maxRecDepth 100000 in
theorem j_X4_feed_90_ok (l : Launch) (X : XC) {N9 : Nat} (hN : 39 ≤ N9)   (x1 : Int32) (x4 : Int32) (x5 : Int32) (x6 : Int32)   (w : Mem) : GE l X mm_X4_feed 2 emI N9 flT (j_X4_feed_90 x1 x4 x5 x6 w) 90 [some (.inr (.inr (some (4, 0)))), some (.inl x1), none, none, some (.inl x4), some (.inl x5), some (.inl x6)] [] w := by
  unfold j_X4_feed_90
  refine GE_run (flG_T hN) (pc1 := 92) (L1 := [some (.inr (.inr (some (4, 0)))), some (.inl x1), none, none, some (.inl x4), some (.inl x5), some (.inl x6)]) (S1 := [.inl 2, .inl x1]) (w1 := w) (P := True) [(.iload_n 1, 0, 0, 0, 0), (.iconst 2, 0, 0, 2, 0)] (by decide +kernel) rfl trivial ?_
  refine GE_icmp (k := .le) (off := 12) (tgt := 104) (by decide +kernel) (by decide) (cnd_le _ _) (fun c11 => ?_) (fun c11 => ?_)
  · exact GE_weak [true, true, false, false, false, true, true] (j_X4_feed_104_ok l X hN x1 x5 x6 w)
  · refine GE_run (flG_T hN) (pc1 := 101) (L1 := [some (.inr (.inr (some (4, 0)))), some (.inl x1), none, none, some (.inl x4), some (.inl x5), some (.inl x6)]) (S1 := [.inl x4, .inr (.inr (some (1, 0)))]) (w1 := w) (P := True) [(.aload_n 0, 0, 0, 0, 0), (.getfield 19, 4, 1, 0, 0), (.iload 4, 0, 0, 0, 0)] (by decide +kernel) rfl trivial ?_
    refine GE_callVV (As := [.inl x4]) (k := 1) (i := 0) (S := []) (t_X1_add l X hN x4 w) (by decide) ⟨me_X1_add, mi_X1_add, mv_X1_add, lk_X4_77⟩ rfl (by decide +kernel) rfl (by decide) (by decide) (Nat.le_of_ble_eq_true rfl) (fun r16 _ => ?_)
    exact GE_weak [true, true, false, false, false, true, true] (j_X4_feed_104_ok l X hN x1 x5 x6 r16)
noncomputable def f_X4_feed (a1 : Int32) (a2 : Int32) (a3 : Int32) (a4 : Int32) (a5 : Int32) (a6 : Int32) (w : Mem) : Option (Int32 × Mem) := if a1 < 1 then (some ((-2), w)) else (if a1 ≤ 5 then (if (rng a2 0 255) = 0 then (some ((-2), w)) else (if (rng a3 0 255) = 0 then (some ((-2), w)) else (if (rng a4 0 255) = 0 then (some ((-2), w)) else (if (rng a5 0 255) = 0 then (some ((-2), w)) else (if (rng a6 0 255) = 0 then (some ((-2), w)) else (if ((w 1 0 1) + a1) ≤ 160 then (Option.bind (f_X1_add a2 w) (fun r9 => if a1 ≤ 1 then (j_X4_feed_90 a1 a4 a5 a6 r9) else (Option.bind (f_X1_add a3 r9) (fun r17 => j_X4_feed_90 a1 a4 a5 a6 r17)))) else (some ((-4), w)))))))) else (some ((-2), w)))
set_option maxRecDepth 100000 in
theorem t_X4_feed (l : Launch) (X : XC) {N9 : Nat} (hN : 39 ≤ N9)  (a1 : Int32) (a2 : Int32) (a3 : Int32) (a4 : Int32) (a5 : Int32) (a6 : Int32) (w : Mem) : Ct l X 2 yX4_feed cX4_feed 7 (some .int) emI [.inr (.inr (some (4, 0))), .inl a1, .inl a2, .inl a3, .inl a4, .inl a5, .inl a6] N9 flT w (f_X4_feed a1 a2 a3 a4 a5 a6 w) := by
  refine Ct_of (mi := mm_X4_feed) (mik_X4 _ _ _) me_X4_feed rfl (okAs_cons (okMV hN (by decide)) (okAs_cons rfl (okAs_cons rfl (okAs_cons rfl (okAs_cons rfl (okAs_cons rfl (okAs_cons rfl okAs_nil))))))) (Nat.le_of_ble_eq_true rfl) ?_
  unfold f_X4_feed
  refine GE_run (flG_T hN) (pc1 := 2) (L1 := [some (.inr (.inr (some (4, 0)))), some (.inl a1), some (.inl a2), some (.inl a3), some (.inl a4), some (.inl a5), some (.inl a6)]) (S1 := [.inl 1, .inl a1]) (w1 := w) (P := True) [(.iload_n 1, 0, 0, 0, 0), (.iconst 1, 0, 0, 1, 0)] (by decide +kernel) rfl trivial ?_
  refine GE_icmp (k := .lt) (off := 46) (tgt := 48) (by decide +kernel) (by decide) (cnd_lt _ _) (fun c1 => ?_) (fun c1 => ?_)
  · refine GE_run (flG_T hN) (pc1 := 50) (L1 := [some (.inr (.inr (some (4, 0)))), some (.inl a1), some (.inl a2), some (.inl a3), some (.inl a4), some (.inl a5), some (.inl a6)]) (S1 := [.inl (-2)]) (w1 := w) (P := True) [(.bipush (-2), 0, 0, -2, 0)] (by decide +kernel) rfl trivial ?_
    exact GE_iret rfl (by decide +kernel)
  · refine GE_run (flG_T hN) (pc1 := 7) (L1 := [some (.inr (.inr (some (4, 0)))), some (.inl a1), some (.inl a2), some (.inl a3), some (.inl a4), some (.inl a5), some (.inl a6)]) (S1 := [.inl 5, .inl a1]) (w1 := w) (P := True) [(.iload_n 1, 0, 0, 0, 0), (.iconst 5, 0, 0, 5, 0)] (by decide +kernel) rfl trivial ?_
    refine GE_icmpN (k := .gt) (off := 41) (tgt := 48) (by decide +kernel) (by decide) (cnd_gt _ _) (fun c2 => ?_) (fun c2 => ?_)
    · refine GE_run (flG_T hN) (pc1 := 50) (L1 := [some (.inr (.inr (some (4, 0)))), some (.inl a1), some (.inl a2), some (.inl a3), some (.inl a4), some (.inl a5), some (.inl a6)]) (S1 := [.inl (-2)]) (w1 := w) (P := True) [(.bipush (-2), 0, 0, -2, 0)] (by decide +kernel) rfl trivial ?_
      exact GE_iret rfl (by decide +kernel)
    · refine GE_run (flG_T hN) (pc1 := 11) (L1 := [some (.inr (.inr (some (4, 0)))), some (.inl a1), some (.inl a2), some (.inl a3), some (.inl a4), some (.inl a5), some (.inl a6)]) (S1 := [.inl a2]) (w1 := w) (P := True) [(.iload_n 2, 0, 0, 0, 0)] (by decide +kernel) rfl trivial ?_
      refine GE_callSIp (As := [.inl a2]) (S := []) (p_X4_isByte l X hN a2 w) ⟨me_X4_isByte, ms_X4_isByte, lk_X4_74⟩ (by decide +kernel) rfl (by decide) (by decide) (Nat.le_of_ble_eq_true rfl) ?_
      refine GE_if (k := .eq) (off := 34) (tgt := 48) (by decide +kernel) (by decide) (cnd_eq _ _) (fun c3 => ?_) (fun c3 => ?_)
      · refine GE_run (flG_T hN) (pc1 := 50) (L1 := [some (.inr (.inr (some (4, 0)))), some (.inl a1), some (.inl a2), some (.inl a3), some (.inl a4), some (.inl a5), some (.inl a6)]) (S1 := [.inl (-2)]) (w1 := w) (P := True) [(.bipush (-2), 0, 0, -2, 0)] (by decide +kernel) rfl trivial ?_
        exact GE_iret rfl (by decide +kernel)
      · refine GE_run (flG_T hN) (pc1 := 18) (L1 := [some (.inr (.inr (some (4, 0)))), some (.inl a1), some (.inl a2), some (.inl a3), some (.inl a4), some (.inl a5), some (.inl a6)]) (S1 := [.inl a3]) (w1 := w) (P := True) [(.iload_n 3, 0, 0, 0, 0)] (by decide +kernel) rfl trivial ?_
        refine GE_callSIp (As := [.inl a3]) (S := []) (p_X4_isByte l X hN a3 w) ⟨me_X4_isByte, ms_X4_isByte, lk_X4_74⟩ (by decide +kernel) rfl (by decide) (by decide) (Nat.le_of_ble_eq_true rfl) ?_
        refine GE_if (k := .eq) (off := 27) (tgt := 48) (by decide +kernel) (by decide) (cnd_eq _ _) (fun c4 => ?_) (fun c4 => ?_)
        · refine GE_run (flG_T hN) (pc1 := 50) (L1 := [some (.inr (.inr (some (4, 0)))), some (.inl a1), some (.inl a2), some (.inl a3), some (.inl a4), some (.inl a5), some (.inl a6)]) (S1 := [.inl (-2)]) (w1 := w) (P := True) [(.bipush (-2), 0, 0, -2, 0)] (by decide +kernel) rfl trivial ?_
          exact GE_iret rfl (by decide +kernel)
        · refine GE_run (flG_T hN) (pc1 := 26) (L1 := [some (.inr (.inr (some (4, 0)))), some (.inl a1), some (.inl a2), some (.inl a3), some (.inl a4), some (.inl a5), some (.inl a6)]) (S1 := [.inl a4]) (w1 := w) (P := True) [(.iload 4, 0, 0, 0, 0)] (by decide +kernel) rfl trivial ?_
          refine GE_callSIp (As := [.inl a4]) (S := []) (p_X4_isByte l X hN a4 w) ⟨me_X4_isByte, ms_X4_isByte, lk_X4_74⟩ (by decide +kernel) rfl (by decide) (by decide) (Nat.le_of_ble_eq_true rfl) ?_
          refine GE_if (k := .eq) (off := 19) (tgt := 48) (by decide +kernel) (by decide) (cnd_eq _ _) (fun c5 => ?_) (fun c5 => ?_)
          · refine GE_run (flG_T hN) (pc1 := 50) (L1 := [some (.inr (.inr (some (4, 0)))), some (.inl a1), some (.inl a2), some (.inl a3), some (.inl a4), some (.inl a5), some (.inl a6)]) (S1 := [.inl (-2)]) (w1 := w) (P := True) [(.bipush (-2), 0, 0, -2, 0)] (by decide +kernel) rfl trivial ?_
            exact GE_iret rfl (by decide +kernel)
          · refine GE_run (flG_T hN) (pc1 := 34) (L1 := [some (.inr (.inr (some (4, 0)))), some (.inl a1), some (.inl a2), some (.inl a3), some (.inl a4), some (.inl a5), some (.inl a6)]) (S1 := [.inl a5]) (w1 := w) (P := True) [(.iload 5, 0, 0, 0, 0)] (by decide +kernel) rfl trivial ?_
            refine GE_callSIp (As := [.inl a5]) (S := []) (p_X4_isByte l X hN a5 w) ⟨me_X4_isByte, ms_X4_isByte, lk_X4_74⟩ (by decide +kernel) rfl (by decide) (by decide) (Nat.le_of_ble_eq_true rfl) ?_
            refine GE_if (k := .eq) (off := 11) (tgt := 48) (by decide +kernel) (by decide) (cnd_eq _ _) (fun c6 => ?_) (fun c6 => ?_)
            · refine GE_run (flG_T hN) (pc1 := 50) (L1 := [some (.inr (.inr (some (4, 0)))), some (.inl a1), some (.inl a2), some (.inl a3), some (.inl a4), some (.inl a5), some (.inl a6)]) (S1 := [.inl (-2)]) (w1 := w) (P := True) [(.bipush (-2), 0, 0, -2, 0)] (by decide +kernel) rfl trivial ?_
              exact GE_iret rfl (by decide +kernel)
            · refine GE_run (flG_T hN) (pc1 := 42) (L1 := [some (.inr (.inr (some (4, 0)))), some (.inl a1), some (.inl a2), some (.inl a3), some (.inl a4), some (.inl a5), some (.inl a6)]) (S1 := [.inl a6]) (w1 := w) (P := True) [(.iload 6, 0, 0, 0, 0)] (by decide +kernel) rfl trivial ?_
              refine GE_callSIp (As := [.inl a6]) (S := []) (p_X4_isByte l X hN a6 w) ⟨me_X4_isByte, ms_X4_isByte, lk_X4_74⟩ (by decide +kernel) rfl (by decide) (by decide) (Nat.le_of_ble_eq_true rfl) ?_
              refine GE_ifN (k := .ne) (off := 6) (tgt := 51) (by decide +kernel) (by decide) (cnd_ne _ _) (fun c7 => ?_) (fun c7 => ?_)
              · refine GE_run (flG_T hN) (pc1 := 63) (L1 := [some (.inr (.inr (some (4, 0)))), some (.inl a1), some (.inl a2), some (.inl a3), some (.inl a4), some (.inl a5), some (.inl a6)]) (S1 := [.inl 160, .inl ((w 1 0 1) + a1)]) (w1 := w) (P := True) [(.aload_n 0, 0, 0, 0, 0), (.getfield 19, 4, 1, 0, 0), (.getfield 67, 1, 1, 0, 0), (.iload_n 1, 0, 0, 0, 0), (.iadd, 0, 0, 0, 0), (.sipush 160, 0, 0, 160, 0)] (by decide +kernel) rfl trivial ?_
                refine GE_icmp (k := .le) (off := 6) (tgt := 69) (by decide +kernel) (by decide) (cnd_le _ _) (fun c8 => ?_) (fun c8 => ?_)
                · refine GE_run (flG_T hN) (pc1 := 74) (L1 := [some (.inr (.inr (some (4, 0)))), some (.inl a1), some (.inl a2), some (.inl a3), some (.inl a4), some (.inl a5), some (.inl a6)]) (S1 := [.inl a2, .inr (.inr (some (1, 0)))]) (w1 := w) (P := True) [(.aload_n 0, 0, 0, 0, 0), (.getfield 19, 4, 1, 0, 0), (.iload_n 2, 0, 0, 0, 0)] (by decide +kernel) rfl trivial ?_
                  refine GE_callVV (As := [.inl a2]) (k := 1) (i := 0) (S := []) (t_X1_add l X hN a2 w) (by decide) ⟨me_X1_add, mi_X1_add, mv_X1_add, lk_X4_77⟩ rfl (by decide +kernel) rfl (by decide) (by decide) (Nat.le_of_ble_eq_true rfl) (fun r9 _ => ?_)
                  refine GE_run (flG_T hN) (pc1 := 79) (L1 := [some (.inr (.inr (some (4, 0)))), some (.inl a1), some (.inl a2), some (.inl a3), some (.inl a4), some (.inl a5), some (.inl a6)]) (S1 := [.inl 1, .inl a1]) (w1 := r9) (P := True) [(.iload_n 1, 0, 0, 0, 0), (.iconst 1, 0, 0, 1, 0)] (by decide +kernel) rfl trivial ?_
                  refine GE_icmp (k := .le) (off := 11) (tgt := 90) (by decide +kernel) (by decide) (cnd_le _ _) (fun c10 => ?_) (fun c10 => ?_)
                  · exact GE_weak [true, true, false, false, true, true, true] (j_X4_feed_90_ok l X hN a1 a4 a5 a6 r9)
                  · refine GE_run (flG_T hN) (pc1 := 87) (L1 := [some (.inr (.inr (some (4, 0)))), some (.inl a1), some (.inl a2), some (.inl a3), some (.inl a4), some (.inl a5), some (.inl a6)]) (S1 := [.inl a3, .inr (.inr (some (1, 0)))]) (w1 := r9) (P := True) [(.aload_n 0, 0, 0, 0, 0), (.getfield 19, 4, 1, 0, 0), (.iload_n 3, 0, 0, 0, 0)] (by decide +kernel) rfl trivial ?_
                    refine GE_callVV (As := [.inl a3]) (k := 1) (i := 0) (S := []) (t_X1_add l X hN a3 r9) (by decide) ⟨me_X1_add, mi_X1_add, mv_X1_add, lk_X4_77⟩ rfl (by decide +kernel) rfl (by decide) (by decide) (Nat.le_of_ble_eq_true rfl) (fun r17 _ => ?_)
                    exact GE_weak [true, true, false, false, true, true, true] (j_X4_feed_90_ok l X hN a1 a4 a5 a6 r17)
                · refine GE_run (flG_T hN) (pc1 := 68) (L1 := [some (.inr (.inr (some (4, 0)))), some (.inl a1), some (.inl a2), some (.inl a3), some (.inl a4), some (.inl a5), some (.inl a6)]) (S1 := [.inl (-4)]) (w1 := w) (P := True) [(.bipush (-4), 0, 0, -4, 0)] (by decide +kernel) rfl trivial ?_
                  exact GE_iret rfl (by decide +kernel)
              · refine GE_run (flG_T hN) (pc1 := 50) (L1 := [some (.inr (.inr (some (4, 0)))), some (.inl a1), some (.inl a2), some (.inl a3), some (.inl a4), some (.inl a5), some (.inl a6)]) (S1 := [.inl (-2)]) (w1 := w) (P := True) [(.bipush (-2), 0, 0, -2, 0)] (by decide +kernel) rfl trivial ?_
                exact GE_iret rfl (by decide +kernel)
abbrev mm_X4_lessonsTo : MI := (RX4, cX4_lessonsTo, 7, (some .int), ftp_X4.map (fun q => q.1), ctp_X4.map (fun q => q.1), clp_X4.map (fun q => q.1))
noncomputable def h_X4_lessonsTo_31 (rc : Nat → Nat → Int32 → Int32 → Int32 → Int32 → Mem → Option (Int32 × Mem)) (i1 : Nat) (x1 : Int32) (x2 : Int32) (x3 : Int32) (x4 : Int32) (k71 : Mem → Option (Int32 × Mem)) : Nat → Int32 → Mem → Option (Int32 × Mem)
  | 0, _, _ => none
  | n + 1, x5, w => if x5 < (w 0 i1 2) then (Option.bind (rc 1 i1 ((10 * x4) + x5) x1 x2 x3 w) (fun r5 => if r5.1 ≤ 0 then ((h_X4_lessonsTo_31 rc i1 x1 x2 x3 x4 k71 n) (x5 + 1) r5.2) else (some (r5.1, r5.2)))) else (k71 w)
set_option maxRecDepth 100000 in
theorem h_X4_lessonsTo_31_ok (l : Launch) (X : XC) {N9 : Nat} (hN : 39 ≤ N9) (rc : Nat → Nat → Int32 → Int32 → Int32 → Int32 → Mem → Option (Int32 × Mem)) (i1 : Nat) (x1 : Int32) (x2 : Int32) (x3 : Int32) (x4 : Int32) (k71 : Mem → Option (Int32 × Mem)) (m : Nat) (hrc0 : ∀ (i : Nat) (a b c : Int32) (h : i < 3) (w : Mem), Ct l X (m + 4) yX4_lessonsTo cX4_lessonsTo 7 (some .int) emI [.inr (.inr (some (0, i))), .inl a, .inl b, .inl c] N9 flT w (rc 0 i a b c 0 w)) (hrc1 : ∀ (i : Nat) (a b c d : Int32) (h : i < 3) (w : Mem), Ct l X (m + 4) yX4_lessonsFrom cX4_lessonsFrom 10 (some .int) emI [.inr (.inr (some (0, i))), .inl a, .inl b, .inl c, .inl d] N9 flT w (rc 1 i a b c d w)) (hi1 : i1 < 3) (hk71 : ∀  (w : Mem), GE l X mm_X4_lessonsTo (m + 5) emI N9 flT (k71 w) 71 [some (.inr (.inr (some (0, i1)))), some (.inl x1), some (.inl x2), some (.inl x3), some (.inl x4), none, none] [] w) : ∀ (n : Nat) (x5 : Int32) (w : Mem), GE l X mm_X4_lessonsTo (m + 5) emI N9 flT ((h_X4_lessonsTo_31 rc i1 x1 x2 x3 x4 k71 n) x5 w) 31 [some (.inr (.inr (some (0, i1)))), some (.inl x1), some (.inl x2), some (.inl x3), some (.inl x4), some (.inl x5), none] [] w := by
  intro n
  induction n with
  | zero => intro x5 w; exact GE_none
  | succ n ih =>
    intro x5 w
    unfold h_X4_lessonsTo_31
    refine GE_run (flG_T hN) (pc1 := 37) (L1 := [some (.inr (.inr (some (0, i1)))), some (.inl x1), some (.inl x2), some (.inl x3), some (.inl x4), some (.inl x5), none]) (S1 := [.inl (w 0 i1 2), .inl x5]) (w1 := w) (P := True) [(.iload 5, 0, 0, 0, 0), (.aload_n 0, 0, 0, 0, 0), (.getfield 45, 0, 2, 0, 0)] (by decide +kernel) rfl trivial ?_
    refine GE_icmpN (k := .ge) (off := 34) (tgt := 71) (by decide +kernel) (by decide) (cnd_ge _ _) (fun c4 => ?_) (fun c4 => ?_)
    · exact GE_weak [true, true, true, true, true, false, false] (hk71 w)
    · refine GE_run (flG_T hN) (pc1 := 52) (L1 := [some (.inr (.inr (some (0, i1)))), some (.inl x1), some (.inl x2), some (.inl x3), some (.inl x4), some (.inl x5), none]) (S1 := [.inl x3, .inl x2, .inl x1, .inl ((10 * x4) + x5), .inr (.inr (some (0, i1)))]) (w1 := w) (P := True) [(.aload_n 0, 0, 0, 0, 0), (.bipush 10, 0, 0, 10, 0), (.iload 4, 0, 0, 0, 0), (.imul, 0, 0, 0, 0), (.iload 5, 0, 0, 0, 0), (.iadd, 0, 0, 0, 0), (.iload_n 1, 0, 0, 0, 0), (.iload_n 2, 0, 0, 0, 0), (.iload_n 3, 0, 0, 0, 0)] (by decide +kernel) rfl trivial ?_
      refine GE_callSI (As := [.inr (.inr (some (0, i1))), .inl ((10 * x4) + x5), .inl x1, .inl x2, .inl x3]) (S := []) (hrc1 i1 ((10 * x4) + x5) x1 x2 x3 hi1 w) ⟨me_X4_lessonsFrom, ms_X4_lessonsFrom, lk_X4_200⟩ (by decide +kernel) rfl (by omega) (by decide) (Nat.le_of_ble_eq_true rfl) (fun r5 _ => ?_)
      refine GE_run (flG_T hN) (pc1 := 59) (L1 := [some (.inr (.inr (some (0, i1)))), some (.inl x1), some (.inl x2), some (.inl x3), some (.inl x4), some (.inl x5), some (.inl r5.1)]) (S1 := [.inl r5.1]) (w1 := r5.2) (P := True) [(.istore 6, 0, 0, 0, 0), (.iload 6, 0, 0, 0, 0)] (by decide +kernel) rfl trivial ?_
      refine GE_if (k := .le) (off := 6) (tgt := 65) (by decide +kernel) (by decide) (cnd_le _ _) (fun c6 => ?_) (fun c6 => ?_)
      · refine GE_run (flG_T hN) (pc1 := 31) (L1 := [some (.inr (.inr (some (0, i1)))), some (.inl x1), some (.inl x2), some (.inl x3), some (.inl x4), some (.inl (x5 + 1)), some (.inl r5.1)]) (S1 := []) (w1 := r5.2) (P := True) [(.iinc 5 1, 0, 0, 1, 0), (.goto (-37), 0, 0, 0, 0)] (by decide +kernel) rfl trivial ?_
        exact GE_weak [true, true, true, true, true, true, false] (ih (x5 + 1) r5.2)
      · refine GE_run (flG_T hN) (pc1 := 64) (L1 := [some (.inr (.inr (some (0, i1)))), some (.inl x1), some (.inl x2), some (.inl x3), some (.inl x4), some (.inl x5), some (.inl r5.1)]) (S1 := [.inl r5.1]) (w1 := r5.2) (P := True) [(.iload 6, 0, 0, 0, 0)] (by decide +kernel) rfl trivial ?_
        exact GE_iret rfl (by decide +kernel)
noncomputable def h_X4_lessonsTo_19 (rc : Nat → Nat → Int32 → Int32 → Int32 → Int32 → Mem → Option (Int32 × Mem)) (i1 : Nat) (x1 : Int32) (x2 : Int32) (x3 : Int32) (k77 : Mem → Option (Int32 × Mem)) : Nat → Int32 → Mem → Option (Int32 × Mem)
  | 0, _, _ => none
  | n + 1, x4, w => if x4 < (w 0 i1 2) then (h_X4_lessonsTo_31 rc i1 x1 x2 x3 x4 (fun w7 => (h_X4_lessonsTo_19 rc i1 x1 x2 x3 k77 n) (x4 + 1) w7) FU 0 w) else (k77 w)
set_option maxRecDepth 100000 in
theorem h_X4_lessonsTo_19_ok (l : Launch) (X : XC) {N9 : Nat} (hN : 39 ≤ N9) (rc : Nat → Nat → Int32 → Int32 → Int32 → Int32 → Mem → Option (Int32 × Mem)) (i1 : Nat) (x1 : Int32) (x2 : Int32) (x3 : Int32) (k77 : Mem → Option (Int32 × Mem)) (m : Nat) (hrc0 : ∀ (i : Nat) (a b c : Int32) (h : i < 3) (w : Mem), Ct l X (m + 4) yX4_lessonsTo cX4_lessonsTo 7 (some .int) emI [.inr (.inr (some (0, i))), .inl a, .inl b, .inl c] N9 flT w (rc 0 i a b c 0 w)) (hrc1 : ∀ (i : Nat) (a b c d : Int32) (h : i < 3) (w : Mem), Ct l X (m + 4) yX4_lessonsFrom cX4_lessonsFrom 10 (some .int) emI [.inr (.inr (some (0, i))), .inl a, .inl b, .inl c, .inl d] N9 flT w (rc 1 i a b c d w)) (hi1 : i1 < 3) (hk77 : ∀  (w : Mem), GE l X mm_X4_lessonsTo (m + 5) emI N9 flT (k77 w) 77 [none, none, none, none, none, none, none] [] w) : ∀ (n : Nat) (x4 : Int32) (w : Mem), GE l X mm_X4_lessonsTo (m + 5) emI N9 flT ((h_X4_lessonsTo_19 rc i1 x1 x2 x3 k77 n) x4 w) 19 [some (.inr (.inr (some (0, i1)))), some (.inl x1), some (.inl x2), some (.inl x3), some (.inl x4), none, none] [] w := by
  intro n
  induction n with
  | zero => intro x4 w; exact GE_none
  | succ n ih =>
    intro x4 w
    unfold h_X4_lessonsTo_19
    refine GE_run (flG_T hN) (pc1 := 25) (L1 := [some (.inr (.inr (some (0, i1)))), some (.inl x1), some (.inl x2), some (.inl x3), some (.inl x4), none, none]) (S1 := [.inl (w 0 i1 2), .inl x4]) (w1 := w) (P := True) [(.iload 4, 0, 0, 0, 0), (.aload_n 0, 0, 0, 0, 0), (.getfield 45, 0, 2, 0, 0)] (by decide +kernel) rfl trivial ?_
    refine GE_icmpN (k := .ge) (off := 52) (tgt := 77) (by decide +kernel) (by decide) (cnd_ge _ _) (fun c3 => ?_) (fun c3 => ?_)
    · exact GE_weak [false, false, false, false, false, false, false] (hk77 w)
    · refine GE_run (flG_T hN) (pc1 := 31) (L1 := [some (.inr (.inr (some (0, i1)))), some (.inl x1), some (.inl x2), some (.inl x3), some (.inl x4), some (.inl 0), none]) (S1 := []) (w1 := w) (P := True) [(.iconst 0, 0, 0, 0, 0), (.istore 5, 0, 0, 0, 0)] (by decide +kernel) rfl trivial ?_
      refine GE_weak [true, true, true, true, true, true, false] (h_X4_lessonsTo_31_ok l X hN rc i1 x1 x2 x3 x4 _ m hrc0 hrc1 hi1 ?_ FU 0 w)
      · intro w7
        refine GE_run (flG_T hN) (pc1 := 19) (L1 := [some (.inr (.inr (some (0, i1)))), some (.inl x1), some (.inl x2), some (.inl x3), some (.inl (x4 + 1)), none, none]) (S1 := []) (w1 := w7) (P := True) [(.iinc 4 1, 0, 0, 1, 0), (.goto (-55), 0, 0, 0, 0)] (by decide +kernel) rfl trivial ?_
        exact GE_weak [true, true, true, true, true, false, false] (ih (x4 + 1) w7)
noncomputable def f_X4_lessonsTo (rc : Nat → Nat → Int32 → Int32 → Int32 → Int32 → Mem → Option (Int32 × Mem)) (i1 : Nat) (a2 : Int32) (a3 : Int32) (a4 : Int32) (w : Mem) : Option (Int32 × Mem) := if a4 < 1 then (some (0, w)) else (if a4 ≤ 3 then (h_X4_lessonsTo_19 rc i1 a2 a3 a4 (fun w8 => some (0, w8)) FU 0 w) else (some (0, w)))
set_option maxRecDepth 100000 in
theorem t_X4_lessonsTo (l : Launch) (X : XC) {N9 : Nat} (hN : 39 ≤ N9)  (rc : Nat → Nat → Int32 → Int32 → Int32 → Int32 → Mem → Option (Int32 × Mem)) (i1 : Nat) (a2 : Int32) (a3 : Int32) (a4 : Int32) (m : Nat) (hrc0 : ∀ (i : Nat) (a b c : Int32) (h : i < 3) (w : Mem), Ct l X (m + 4) yX4_lessonsTo cX4_lessonsTo 7 (some .int) emI [.inr (.inr (some (0, i))), .inl a, .inl b, .inl c] N9 flT w (rc 0 i a b c 0 w)) (hrc1 : ∀ (i : Nat) (a b c d : Int32) (h : i < 3) (w : Mem), Ct l X (m + 4) yX4_lessonsFrom cX4_lessonsFrom 10 (some .int) emI [.inr (.inr (some (0, i))), .inl a, .inl b, .inl c, .inl d] N9 flT w (rc 1 i a b c d w)) (hi1 : i1 < 3) (w : Mem) : Ct l X (m + 5) yX4_lessonsTo cX4_lessonsTo 7 (some .int) emI [.inr (.inr (some (0, i1))), .inl a2, .inl a3, .inl a4] N9 flT w (f_X4_lessonsTo rc i1 a2 a3 a4 w) := by
  refine Ct_of (mi := mm_X4_lessonsTo) (mik_X4 _ _ _) me_X4_lessonsTo rfl (okAs_cons (ok_coast_0 hN hi1) (okAs_cons rfl (okAs_cons rfl (okAs_cons rfl okAs_nil)))) (Nat.le_of_ble_eq_true rfl) ?_
  unfold f_X4_lessonsTo
  refine GE_run (flG_T hN) (pc1 := 1) (L1 := [some (.inr (.inr (some (0, i1)))), some (.inl a2), some (.inl a3), some (.inl a4), none, none, none]) (S1 := [.inr (.inr (some (0, i1)))]) (w1 := w) (P := True) [(.aload_n 0, 0, 0, 0, 0)] (by decide +kernel) rfl trivial ?_
  refine GE_null1 (off := 13) (by decide +kernel) ?_
  refine GE_run (flG_T hN) (pc1 := 6) (L1 := [some (.inr (.inr (some (0, i1)))), some (.inl a2), some (.inl a3), some (.inl a4), none, none, none]) (S1 := [.inl 1, .inl a4]) (w1 := w) (P := True) [(.iload_n 3, 0, 0, 0, 0), (.iconst 1, 0, 0, 1, 0)] (by decide +kernel) rfl trivial ?_
  refine GE_icmp (k := .lt) (off := 8) (tgt := 14) (by decide +kernel) (by decide) (cnd_lt _ _) (fun c1 => ?_) (fun c1 => ?_)
  · refine GE_run (flG_T hN) (pc1 := 15) (L1 := [some (.inr (.inr (some (0, i1)))), some (.inl a2), some (.inl a3), some (.inl a4), none, none, none]) (S1 := [.inl 0]) (w1 := w) (P := True) [(.iconst 0, 0, 0, 0, 0)] (by decide +kernel) rfl trivial ?_
    exact GE_iret rfl (by decide +kernel)
  · refine GE_run (flG_T hN) (pc1 := 11) (L1 := [some (.inr (.inr (some (0, i1)))), some (.inl a2), some (.inl a3), some (.inl a4), none, none, none]) (S1 := [.inl 3, .inl a4]) (w1 := w) (P := True) [(.iload_n 3, 0, 0, 0, 0), (.iconst 3, 0, 0, 3, 0)] (by decide +kernel) rfl trivial ?_
    refine GE_icmp (k := .le) (off := 5) (tgt := 16) (by decide +kernel) (by decide) (cnd_le _ _) (fun c2 => ?_) (fun c2 => ?_)
    · refine GE_run (flG_T hN) (pc1 := 19) (L1 := [some (.inr (.inr (some (0, i1)))), some (.inl a2), some (.inl a3), some (.inl a4), some (.inl 0), none, none]) (S1 := []) (w1 := w) (P := True) [(.iconst 0, 0, 0, 0, 0), (.istore 4, 0, 0, 0, 0)] (by decide +kernel) rfl trivial ?_
      refine GE_weak [true, true, true, true, true, false, false] (h_X4_lessonsTo_19_ok l X hN rc i1 a2 a3 a4 _ m hrc0 hrc1 hi1 ?_ FU 0 w)
      · intro w8
        refine GE_run (flG_T hN) (pc1 := 78) (L1 := [none, none, none, none, none, none, none]) (S1 := [.inl 0]) (w1 := w8) (P := True) [(.iconst 0, 0, 0, 0, 0)] (by decide +kernel) rfl trivial ?_
        exact GE_iret rfl (by decide +kernel)
    · refine GE_run (flG_T hN) (pc1 := 15) (L1 := [some (.inr (.inr (some (0, i1)))), some (.inl a2), some (.inl a3), some (.inl a4), none, none, none]) (S1 := [.inl 0]) (w1 := w) (P := True) [(.iconst 0, 0, 0, 0, 0)] (by decide +kernel) rfl trivial ?_
      exact GE_iret rfl (by decide +kernel)
abbrev mm_X4_lessonsFrom : MI := (RX4, cX4_lessonsFrom, 10, (some .int), ftp_X4.map (fun q => q.1), ctp_X4.map (fun q => q.1), clp_X4.map (fun q => q.1))
noncomputable def j_X4_lessonsFrom_53 (rc : Nat → Nat → Int32 → Int32 → Int32 → Int32 → Mem → Option (Int32 × Mem)) (i1 : Nat)  (x1 : Int32) (x2 : Int32) (x3 : Int32) (x4 : Int32) (x5 : Int32) (x6 : Int32) (w : Mem) : Option (Int32 × Mem) := Option.bind (f_X0_learns i1 x5 x6 w) (fun r7 => if x4 = 1 then (if (holdsF r7.1 x3) = 0 then (some (0, r7.2)) else (some (x1 + 1, r7.2))) else (if r7.1 = 0 then (some (0, r7.2)) else (Option.bind (rc 0 i1 x2 x3 (x4 - 1) 0 (setV r7.2 15 i1 x6 ((atV r7.2 15 i1 x6) ||| r7.1))) (fun r11 => if r11.1 = 0 then (some (0, setV r11.2 15 i1 x6 (atV r7.2 15 i1 x6))) else (if x4 = 2 then (some (((x1 + 1) * 100) + r11.1, setV r11.2 15 i1 x6 (atV r7.2 15 i1 x6))) else (some (((x1 + 1) * 10000) + r11.1, setV r11.2 15 i1 x6 (atV r7.2 15 i1 x6))))))))
set_option maxRecDepth 100000 in
theorem j_X4_lessonsFrom_53_ok (l : Launch) (X : XC) {N9 : Nat} (hN : 39 ≤ N9) (rc : Nat → Nat → Int32 → Int32 → Int32 → Int32 → Mem → Option (Int32 × Mem)) (i1 : Nat)  (x1 : Int32) (x2 : Int32) (x3 : Int32) (x4 : Int32) (x5 : Int32) (x6 : Int32) (m : Nat) (hrc0 : ∀ (i : Nat) (a b c : Int32) (h : i < 3) (w : Mem), Ct l X (m + 4) yX4_lessonsTo cX4_lessonsTo 7 (some .int) emI [.inr (.inr (some (0, i))), .inl a, .inl b, .inl c] N9 flT w (rc 0 i a b c 0 w)) (hrc1 : ∀ (i : Nat) (a b c d : Int32) (h : i < 3) (w : Mem), Ct l X (m + 4) yX4_lessonsFrom cX4_lessonsFrom 10 (some .int) emI [.inr (.inr (some (0, i))), .inl a, .inl b, .inl c, .inl d] N9 flT w (rc 1 i a b c d w)) (hi1 : i1 < 3)  (w : Mem) : GE l X mm_X4_lessonsFrom (m + 5) emI N9 flT (j_X4_lessonsFrom_53 rc i1 x1 x2 x3 x4 x5 x6 w) 53 [some (.inr (.inr (some (0, i1)))), some (.inl x1), some (.inl x2), some (.inl x3), some (.inl x4), some (.inl x5), some (.inl x6), none, none, none] [] w := by
  unfold j_X4_lessonsFrom_53
  refine GE_run (flG_T hN) (pc1 := 58) (L1 := [some (.inr (.inr (some (0, i1)))), some (.inl x1), some (.inl x2), some (.inl x3), some (.inl x4), some (.inl x5), some (.inl x6), none, none, none]) (S1 := [.inl x6, .inl x5, .inr (.inr (some (0, i1)))]) (w1 := w) (P := True) [(.aload_n 0, 0, 0, 0, 0), (.iload 5, 0, 0, 0, 0), (.iload 6, 0, 0, 0, 0)] (by decide +kernel) rfl trivial ?_
  refine GE_callVI (As := [.inl x5, .inl x6]) (k := 0) (i := i1) (S := []) (t_X0_learns l X hN i1 x5 x6 hi1 w) (by decide) ⟨me_X0_learns, mi_X0_learns, mv_X0_learns, lk_X4_146⟩ rfl (by decide +kernel) rfl (by omega) (by decide) (Nat.le_of_ble_eq_true rfl) (fun r7 _ => ?_)
  refine GE_run (flG_T hN) (pc1 := 66) (L1 := [some (.inr (.inr (some (0, i1)))), some (.inl x1), some (.inl x2), some (.inl x3), some (.inl x4), some (.inl x5), some (.inl x6), some (.inl r7.1), none, none]) (S1 := [.inl 1, .inl x4]) (w1 := r7.2) (P := True) [(.istore 7, 0, 0, 0, 0), (.iload 4, 0, 0, 0, 0), (.iconst 1, 0, 0, 1, 0)] (by decide +kernel) rfl trivial ?_
  refine GE_icmpN (k := .ne) (off := 20) (tgt := 86) (by decide +kernel) (by decide) (cnd_ne _ _) (fun c8 => ?_) (fun c8 => ?_)
  · refine GE_run (flG_T hN) (pc1 := 88) (L1 := [some (.inr (.inr (some (0, i1)))), some (.inl x1), some (.inl x2), some (.inl x3), some (.inl x4), some (.inl x5), some (.inl x6), some (.inl r7.1), none, none]) (S1 := [.inl r7.1]) (w1 := r7.2) (P := True) [(.iload 7, 0, 0, 0, 0)] (by decide +kernel) rfl trivial ?_
    refine GE_ifN (k := .ne) (off := 5) (tgt := 93) (by decide +kernel) (by decide) (cnd_ne _ _) (fun c10 => ?_) (fun c10 => ?_)
    · refine GE_run (flG_T hN) (pc1 := 105) (L1 := [some (.inr (.inr (some (0, i1)))), some (.inl x1), some (.inl x2), some (.inl x3), some (.inl x4), some (.inl x5), some (.inl x6), some (.inl r7.1), none, none]) (S1 := [.inl x6, .inr (.inr (some (15, i1))), .inl x6, .inr (.inr (some (15, i1)))]) (w1 := r7.2) (P := True) [(.aload_n 0, 0, 0, 0, 0), (.getfield 108, 0, 8, 0, 0), (.iload 6, 0, 0, 0, 0), (.aload_n 0, 0, 0, 0, 0), (.getfield 108, 0, 8, 0, 0), (.iload 6, 0, 0, 0, 0)] (by decide +kernel) rfl trivial ?_
      refine GE_callSIp (As := [.inr (.inr (some (15, i1))), .inl x6]) (S := [.inl x6, .inr (.inr (some (15, i1)))]) (p_X4_at l X hN 15 i1 x6 (by decide) (ok_coast_15 hN hi1) r7.2) ⟨me_X4_at, ms_X4_at, lk_X4_120⟩ (by decide +kernel) rfl (by omega) (by decide) (Nat.le_of_ble_eq_true rfl) ?_
      refine GE_run (flG_T hN) (pc1 := 111) (L1 := [some (.inr (.inr (some (0, i1)))), some (.inl x1), some (.inl x2), some (.inl x3), some (.inl x4), some (.inl x5), some (.inl x6), some (.inl r7.1), none, none]) (S1 := [.inl ((atV r7.2 15 i1 x6) ||| r7.1), .inl x6, .inr (.inr (some (15, i1)))]) (w1 := r7.2) (P := True) [(.iload 7, 0, 0, 0, 0), (.ior, 0, 0, 0, 0)] (by decide +kernel) rfl trivial ?_
      refine GE_callSIp (As := [.inr (.inr (some (15, i1))), .inl x6, .inl ((atV r7.2 15 i1 x6) ||| r7.1)]) (S := []) (p_X4_swap l X hN 15 i1 x6 ((atV r7.2 15 i1 x6) ||| r7.1) (by decide) (ok_coast_15 hN hi1) r7.2) ⟨me_X4_swap, ms_X4_swap, lk_X4_111⟩ (by decide +kernel) rfl (by omega) (by decide) (Nat.le_of_ble_eq_true rfl) ?_
      refine GE_run (flG_T hN) (pc1 := 123) (L1 := [some (.inr (.inr (some (0, i1)))), some (.inl x1), some (.inl x2), some (.inl x3), some (.inl x4), some (.inl x5), some (.inl x6), some (.inl r7.1), some (.inl (atV r7.2 15 i1 x6)), none]) (S1 := [.inl (x4 - 1), .inl x3, .inl x2, .inr (.inr (some (0, i1)))]) (w1 := setV r7.2 15 i1 x6 ((atV r7.2 15 i1 x6) ||| r7.1)) (P := True) [(.istore 8, 0, 0, 0, 0), (.aload_n 0, 0, 0, 0, 0), (.iload_n 2, 0, 0, 0, 0), (.iload_n 3, 0, 0, 0, 0), (.iload 4, 0, 0, 0, 0), (.iconst 1, 0, 0, 1, 0), (.isub, 0, 0, 0, 0)] (by decide +kernel) rfl trivial ?_
      refine GE_callSI (As := [.inr (.inr (some (0, i1))), .inl x2, .inl x3, .inl (x4 - 1)]) (S := []) (hrc0 i1 x2 x3 (x4 - 1) hi1 (setV r7.2 15 i1 x6 ((atV r7.2 15 i1 x6) ||| r7.1))) ⟨me_X4_lessonsTo, ms_X4_lessonsTo, lk_X4_196⟩ (by decide +kernel) rfl (by omega) (by decide) (Nat.le_of_ble_eq_true rfl) (fun r11 _ => ?_)
      refine GE_run (flG_T hN) (pc1 := 136) (L1 := [some (.inr (.inr (some (0, i1)))), some (.inl x1), some (.inl x2), some (.inl x3), some (.inl x4), some (.inl x5), some (.inl x6), some (.inl r7.1), some (.inl (atV r7.2 15 i1 x6)), some (.inl r11.1)]) (S1 := [.inl (atV r7.2 15 i1 x6), .inl x6, .inr (.inr (some (15, i1)))]) (w1 := r11.2) (P := True) [(.istore 9, 0, 0, 0, 0), (.aload_n 0, 0, 0, 0, 0), (.getfield 108, 0, 8, 0, 0), (.iload 6, 0, 0, 0, 0), (.iload 8, 0, 0, 0, 0)] (by decide +kernel) rfl trivial ?_
      refine GE_callSVp (As := [.inr (.inr (some (15, i1))), .inl x6, .inl (atV r7.2 15 i1 x6)]) (S := []) (p_X4_set l X hN 15 i1 x6 (atV r7.2 15 i1 x6) (by decide) (ok_coast_15 hN hi1) r11.2) ⟨me_X4_set, ms_X4_set, lk_X4_204⟩ (by decide +kernel) rfl (by omega) (by decide) (Nat.le_of_ble_eq_true rfl) ?_
      refine GE_run (flG_T hN) (pc1 := 141) (L1 := [some (.inr (.inr (some (0, i1)))), some (.inl x1), some (.inl x2), some (.inl x3), some (.inl x4), some (.inl x5), some (.inl x6), some (.inl r7.1), some (.inl (atV r7.2 15 i1 x6)), some (.inl r11.1)]) (S1 := [.inl r11.1]) (w1 := setV r11.2 15 i1 x6 (atV r7.2 15 i1 x6)) (P := True) [(.iload 9, 0, 0, 0, 0)] (by decide +kernel) rfl trivial ?_
      refine GE_ifN (k := .ne) (off := 5) (tgt := 146) (by decide +kernel) (by decide) (cnd_ne _ _) (fun c12 => ?_) (fun c12 => ?_)
      · refine GE_run (flG_T hN) (pc1 := 152) (L1 := [some (.inr (.inr (some (0, i1)))), some (.inl x1), some (.inl x2), some (.inl x3), some (.inl x4), some (.inl x5), some (.inl x6), some (.inl r7.1), some (.inl (atV r7.2 15 i1 x6)), some (.inl r11.1)]) (S1 := [.inl 2, .inl x4, .inl (x1 + 1)]) (w1 := setV r11.2 15 i1 x6 (atV r7.2 15 i1 x6)) (P := True) [(.iload_n 1, 0, 0, 0, 0), (.iconst 1, 0, 0, 1, 0), (.iadd, 0, 0, 0, 0), (.iload 4, 0, 0, 0, 0), (.iconst 2, 0, 0, 2, 0)] (by decide +kernel) rfl trivial ?_
        refine GE_icmpN (k := .ne) (off := 8) (tgt := 160) (by decide +kernel) (by decide) (cnd_ne _ _) (fun c13 => ?_) (fun c13 => ?_)
        · refine GE_run (flG_T hN) (pc1 := 167) (L1 := [some (.inr (.inr (some (0, i1)))), some (.inl x1), some (.inl x2), some (.inl x3), some (.inl x4), some (.inl x5), some (.inl x6), some (.inl r7.1), some (.inl (atV r7.2 15 i1 x6)), some (.inl r11.1)]) (S1 := [.inl (((x1 + 1) * 10000) + r11.1)]) (w1 := setV r11.2 15 i1 x6 (atV r7.2 15 i1 x6)) (P := True) [(.sipush 10000, 0, 0, 10000, 0), (.imul, 0, 0, 0, 0), (.iload 9, 0, 0, 0, 0), (.iadd, 0, 0, 0, 0)] (by decide +kernel) rfl trivial ?_
          exact GE_iret rfl (by decide +kernel)
        · refine GE_run (flG_T hN) (pc1 := 167) (L1 := [some (.inr (.inr (some (0, i1)))), some (.inl x1), some (.inl x2), some (.inl x3), some (.inl x4), some (.inl x5), some (.inl x6), some (.inl r7.1), some (.inl (atV r7.2 15 i1 x6)), some (.inl r11.1)]) (S1 := [.inl (((x1 + 1) * 100) + r11.1)]) (w1 := setV r11.2 15 i1 x6 (atV r7.2 15 i1 x6)) (P := True) [(.bipush 100, 0, 0, 100, 0), (.goto 6, 0, 0, 0, 0), (.imul, 0, 0, 0, 0), (.iload 9, 0, 0, 0, 0), (.iadd, 0, 0, 0, 0)] (by decide +kernel) rfl trivial ?_
          exact GE_iret rfl (by decide +kernel)
      · refine GE_run (flG_T hN) (pc1 := 145) (L1 := [some (.inr (.inr (some (0, i1)))), some (.inl x1), some (.inl x2), some (.inl x3), some (.inl x4), some (.inl x5), some (.inl x6), some (.inl r7.1), some (.inl (atV r7.2 15 i1 x6)), some (.inl r11.1)]) (S1 := [.inl 0]) (w1 := setV r11.2 15 i1 x6 (atV r7.2 15 i1 x6)) (P := True) [(.iconst 0, 0, 0, 0, 0)] (by decide +kernel) rfl trivial ?_
        exact GE_iret rfl (by decide +kernel)
    · refine GE_run (flG_T hN) (pc1 := 92) (L1 := [some (.inr (.inr (some (0, i1)))), some (.inl x1), some (.inl x2), some (.inl x3), some (.inl x4), some (.inl x5), some (.inl x6), some (.inl r7.1), none, none]) (S1 := [.inl 0]) (w1 := r7.2) (P := True) [(.iconst 0, 0, 0, 0, 0)] (by decide +kernel) rfl trivial ?_
      exact GE_iret rfl (by decide +kernel)
  · refine GE_run (flG_T hN) (pc1 := 72) (L1 := [some (.inr (.inr (some (0, i1)))), some (.inl x1), some (.inl x2), some (.inl x3), some (.inl x4), some (.inl x5), some (.inl x6), some (.inl r7.1), none, none]) (S1 := [.inl x3, .inl r7.1]) (w1 := r7.2) (P := True) [(.iload 7, 0, 0, 0, 0), (.iload_n 3, 0, 0, 0, 0)] (by decide +kernel) rfl trivial ?_
    refine GE_callSIp (As := [.inl r7.1, .inl x3]) (S := []) (p_X4_holds l X hN r7.1 x3 r7.2) ⟨me_X4_holds, ms_X4_holds, lk_X4_157⟩ (by decide +kernel) rfl (by omega) (by decide) (Nat.le_of_ble_eq_true rfl) ?_
    refine GE_if (k := .eq) (off := 9) (tgt := 84) (by decide +kernel) (by decide) (cnd_eq _ _) (fun c9 => ?_) (fun c9 => ?_)
    · refine GE_run (flG_T hN) (pc1 := 85) (L1 := [some (.inr (.inr (some (0, i1)))), some (.inl x1), some (.inl x2), some (.inl x3), some (.inl x4), some (.inl x5), some (.inl x6), some (.inl r7.1), none, none]) (S1 := [.inl 0]) (w1 := r7.2) (P := True) [(.iconst 0, 0, 0, 0, 0)] (by decide +kernel) rfl trivial ?_
      exact GE_iret rfl (by decide +kernel)
    · refine GE_run (flG_T hN) (pc1 := 85) (L1 := [some (.inr (.inr (some (0, i1)))), some (.inl x1), some (.inl x2), some (.inl x3), some (.inl x4), some (.inl x5), some (.inl x6), some (.inl r7.1), none, none]) (S1 := [.inl (x1 + 1)]) (w1 := r7.2) (P := True) [(.iload_n 1, 0, 0, 0, 0), (.iconst 1, 0, 0, 1, 0), (.iadd, 0, 0, 0, 0), (.goto 4, 0, 0, 0, 0)] (by decide +kernel) rfl trivial ?_
      exact GE_iret rfl (by decide +kernel)
noncomputable def f_X4_lessonsFrom (rc : Nat → Nat → Int32 → Int32 → Int32 → Int32 → Mem → Option (Int32 × Mem)) (i1 : Nat) (a2 : Int32) (a3 : Int32) (a4 : Int32) (a5 : Int32) (w : Mem) : Option (Int32 × Mem) := if ¬ (10 : Int32) = 0 then (if ¬ (10 : Int32) = 0 then (if (a2 / 10) = (rmI a2 10) then (some (0, w)) else (if a5 = 1 then (if (rmI a2 10) = a3 then (if (holdsF (atV w 15 i1 (a2 / 10)) a4) = 0 then (some (0, w)) else (j_X4_lessonsFrom_53 rc i1 a2 a3 a4 a5 (a2 / 10) (rmI a2 10) w)) else (some (0, w))) else (j_X4_lessonsFrom_53 rc i1 a2 a3 a4 a5 (a2 / 10) (rmI a2 10) w))) else none) else none
set_option maxRecDepth 100000 in
theorem t_X4_lessonsFrom (l : Launch) (X : XC) {N9 : Nat} (hN : 39 ≤ N9)  (rc : Nat → Nat → Int32 → Int32 → Int32 → Int32 → Mem → Option (Int32 × Mem)) (i1 : Nat) (a2 : Int32) (a3 : Int32) (a4 : Int32) (a5 : Int32) (m : Nat) (hrc0 : ∀ (i : Nat) (a b c : Int32) (h : i < 3) (w : Mem), Ct l X (m + 4) yX4_lessonsTo cX4_lessonsTo 7 (some .int) emI [.inr (.inr (some (0, i))), .inl a, .inl b, .inl c] N9 flT w (rc 0 i a b c 0 w)) (hrc1 : ∀ (i : Nat) (a b c d : Int32) (h : i < 3) (w : Mem), Ct l X (m + 4) yX4_lessonsFrom cX4_lessonsFrom 10 (some .int) emI [.inr (.inr (some (0, i))), .inl a, .inl b, .inl c, .inl d] N9 flT w (rc 1 i a b c d w)) (hi1 : i1 < 3) (w : Mem) : Ct l X (m + 5) yX4_lessonsFrom cX4_lessonsFrom 10 (some .int) emI [.inr (.inr (some (0, i1))), .inl a2, .inl a3, .inl a4, .inl a5] N9 flT w (f_X4_lessonsFrom rc i1 a2 a3 a4 a5 w) := by
  refine Ct_of (mi := mm_X4_lessonsFrom) (mik_X4 _ _ _) me_X4_lessonsFrom rfl (okAs_cons (ok_coast_0 hN hi1) (okAs_cons rfl (okAs_cons rfl (okAs_cons rfl (okAs_cons rfl okAs_nil))))) (Nat.le_of_ble_eq_true rfl) ?_
  unfold f_X4_lessonsFrom
  refine GE_chk (fun h1 => ?_)
  refine GE_chk (fun h2 => ?_)
  refine GE_run (flG_T hN) (pc1 := 13) (L1 := [some (.inr (.inr (some (0, i1)))), some (.inl a2), some (.inl a3), some (.inl a4), some (.inl a5), some (.inl (a2 / 10)), some (.inl (rmI a2 10)), none, none, none]) (S1 := [.inr (.inr (some (0, i1)))]) (w1 := w) (P := (¬ (10 : Int32) = 0) ∧ (¬ (10 : Int32) = 0) ∧ True) [(.iload_n 1, 0, 0, 0, 0), (.bipush 10, 0, 0, 10, 0), (.idiv, 0, 0, 0, 0), (.istore 5, 0, 0, 0, 0), (.iload_n 1, 0, 0, 0, 0), (.bipush 10, 0, 0, 10, 0), (.irem, 0, 0, 0, 0), (.istore 6, 0, 0, 0, 0), (.aload_n 0, 0, 0, 0, 0)] (by decide +kernel) rfl ⟨h1, h2, trivial⟩ ?_
  refine GE_null1 (off := 38) (by decide +kernel) ?_
  refine GE_run (flG_T hN) (pc1 := 20) (L1 := [some (.inr (.inr (some (0, i1)))), some (.inl a2), some (.inl a3), some (.inl a4), some (.inl a5), some (.inl (a2 / 10)), some (.inl (rmI a2 10)), none, none, none]) (S1 := [.inl (rmI a2 10), .inl (a2 / 10)]) (w1 := w) (P := True) [(.iload 5, 0, 0, 0, 0), (.iload 6, 0, 0, 0, 0)] (by decide +kernel) rfl trivial ?_
  refine GE_icmp (k := .eq) (off := 31) (tgt := 51) (by decide +kernel) (by decide) (cnd_eq _ _) (fun c3 => ?_) (fun c3 => ?_)
  · refine GE_run (flG_T hN) (pc1 := 52) (L1 := [some (.inr (.inr (some (0, i1)))), some (.inl a2), some (.inl a3), some (.inl a4), some (.inl a5), some (.inl (a2 / 10)), some (.inl (rmI a2 10)), none, none, none]) (S1 := [.inl 0]) (w1 := w) (P := True) [(.iconst 0, 0, 0, 0, 0)] (by decide +kernel) rfl trivial ?_
    exact GE_iret rfl (by decide +kernel)
  · refine GE_run (flG_T hN) (pc1 := 26) (L1 := [some (.inr (.inr (some (0, i1)))), some (.inl a2), some (.inl a3), some (.inl a4), some (.inl a5), some (.inl (a2 / 10)), some (.inl (rmI a2 10)), none, none, none]) (S1 := [.inl 1, .inl a5]) (w1 := w) (P := True) [(.iload 4, 0, 0, 0, 0), (.iconst 1, 0, 0, 1, 0)] (by decide +kernel) rfl trivial ?_
    refine GE_icmpN (k := .ne) (off := 27) (tgt := 53) (by decide +kernel) (by decide) (cnd_ne _ _) (fun c4 => ?_) (fun c4 => ?_)
    · exact GE_weak [true, true, true, true, true, true, true, false, false, false] (j_X4_lessonsFrom_53_ok l X hN rc i1 a2 a3 a4 a5 (a2 / 10) (rmI a2 10) m hrc0 hrc1 hi1 w)
    · refine GE_run (flG_T hN) (pc1 := 32) (L1 := [some (.inr (.inr (some (0, i1)))), some (.inl a2), some (.inl a3), some (.inl a4), some (.inl a5), some (.inl (a2 / 10)), some (.inl (rmI a2 10)), none, none, none]) (S1 := [.inl a3, .inl (rmI a2 10)]) (w1 := w) (P := True) [(.iload 6, 0, 0, 0, 0), (.iload_n 2, 0, 0, 0, 0)] (by decide +kernel) rfl trivial ?_
      refine GE_icmpN (k := .ne) (off := 19) (tgt := 51) (by decide +kernel) (by decide) (cnd_ne _ _) (fun c5 => ?_) (fun c5 => ?_)
      · refine GE_run (flG_T hN) (pc1 := 52) (L1 := [some (.inr (.inr (some (0, i1)))), some (.inl a2), some (.inl a3), some (.inl a4), some (.inl a5), some (.inl (a2 / 10)), some (.inl (rmI a2 10)), none, none, none]) (S1 := [.inl 0]) (w1 := w) (P := True) [(.iconst 0, 0, 0, 0, 0)] (by decide +kernel) rfl trivial ?_
        exact GE_iret rfl (by decide +kernel)
      · refine GE_run (flG_T hN) (pc1 := 41) (L1 := [some (.inr (.inr (some (0, i1)))), some (.inl a2), some (.inl a3), some (.inl a4), some (.inl a5), some (.inl (a2 / 10)), some (.inl (rmI a2 10)), none, none, none]) (S1 := [.inl (a2 / 10), .inr (.inr (some (15, i1)))]) (w1 := w) (P := True) [(.aload_n 0, 0, 0, 0, 0), (.getfield 108, 0, 8, 0, 0), (.iload 5, 0, 0, 0, 0)] (by decide +kernel) rfl trivial ?_
        refine GE_callSIp (As := [.inr (.inr (some (15, i1))), .inl (a2 / 10)]) (S := []) (p_X4_at l X hN 15 i1 (a2 / 10) (by decide) (ok_coast_15 hN hi1) w) ⟨me_X4_at, ms_X4_at, lk_X4_120⟩ (by decide +kernel) rfl (by omega) (by decide) (Nat.le_of_ble_eq_true rfl) ?_
        refine GE_run (flG_T hN) (pc1 := 45) (L1 := [some (.inr (.inr (some (0, i1)))), some (.inl a2), some (.inl a3), some (.inl a4), some (.inl a5), some (.inl (a2 / 10)), some (.inl (rmI a2 10)), none, none, none]) (S1 := [.inl a4, .inl (atV w 15 i1 (a2 / 10))]) (w1 := w) (P := True) [(.iload_n 3, 0, 0, 0, 0)] (by decide +kernel) rfl trivial ?_
        refine GE_callSIp (As := [.inl (atV w 15 i1 (a2 / 10)), .inl a4]) (S := []) (p_X4_holds l X hN (atV w 15 i1 (a2 / 10)) a4 w) ⟨me_X4_holds, ms_X4_holds, lk_X4_157⟩ (by decide +kernel) rfl (by omega) (by decide) (Nat.le_of_ble_eq_true rfl) ?_
        refine GE_ifN (k := .ne) (off := 5) (tgt := 53) (by decide +kernel) (by decide) (cnd_ne _ _) (fun c6 => ?_) (fun c6 => ?_)
        · exact GE_weak [true, true, true, true, true, true, true, false, false, false] (j_X4_lessonsFrom_53_ok l X hN rc i1 a2 a3 a4 a5 (a2 / 10) (rmI a2 10) m hrc0 hrc1 hi1 w)
        · refine GE_run (flG_T hN) (pc1 := 52) (L1 := [some (.inr (.inr (some (0, i1)))), some (.inl a2), some (.inl a3), some (.inl a4), some (.inl a5), some (.inl (a2 / 10)), some (.inl (rmI a2 10)), none, none, none]) (S1 := [.inl 0]) (w1 := w) (P := True) [(.iconst 0, 0, 0, 0, 0)] (by decide +kernel) rfl trivial ?_
          exact GE_iret rfl (by decide +kernel)
noncomputable def ld : Nat → Nat → Nat → Int32 → Int32 → Int32 → Int32 → Mem → Option (Int32 × Mem)
  | 0, _, _, _, _, _, _, _ => none
  | m + 1, k, i, a, b, c, d, w => match k with
    | 0 => f_X4_lessonsTo (ld m) i a b c w
    | _ => f_X4_lessonsFrom (ld m) i a b c d w
theorem ld_ok (l : Launch) (X : XC) {N9 : Nat} (hN : 39 ≤ N9) : ∀ m : Nat, (∀ (i : Nat) (a b c : Int32) (h : i < 3) (w : Mem), Ct l X (m + 4) yX4_lessonsTo cX4_lessonsTo 7 (some .int) emI [.inr (.inr (some (0, i))), .inl a, .inl b, .inl c] N9 flT w (ld m 0 i a b c 0 w)) ∧ (∀ (i : Nat) (a b c d : Int32) (h : i < 3) (w : Mem), Ct l X (m + 4) yX4_lessonsFrom cX4_lessonsFrom 10 (some .int) emI [.inr (.inr (some (0, i))), .inl a, .inl b, .inl c, .inl d] N9 flT w (ld m 1 i a b c d w)) := by
  intro m
  induction m with
  | zero => exact ⟨fun _ _ _ _ _ _ => Ct_none, fun _ _ _ _ _ _ _ => Ct_none⟩
  | succ m ih =>
    obtain ⟨h0, h1⟩ := ih
    exact ⟨fun i a b c h w => t_X4_lessonsTo l X hN (ld m) i a b c m h0 h1 h w, fun i a b c d h w => t_X4_lessonsFrom l X hN (ld m) i a b c d m h0 h1 h w⟩
abbrev mm_X4_lessons : MI := (RX4, cX4_lessons, 6, (some .int), ftp_X4.map (fun q => q.1), ctp_X4.map (fun q => q.1), clp_X4.map (fun q => q.1))
noncomputable def h_X4_lessons_67 (x1 : Int32) (x2 : Int32) (x3 : Int32) (k109 : Mem → Option (Int32 × Mem)) : Nat → Int32 → Mem → Option (Int32 × Mem)
  | 0, _, _ => none
  | n + 1, x4, w => if x4 ≤ 3 then (Option.bind (ld 8 0 1 x1 x2 x4 0 w) (fun r7 => if r7.1 ≤ 0 then ((h_X4_lessons_67 x1 x2 x3 k109 n) (x4 + 1) r7.2) else (if x3 = 0 then (some (x4, r7.2)) else (some (r7.1, r7.2))))) else (k109 w)
set_option maxRecDepth 100000 in
theorem h_X4_lessons_67_ok (l : Launch) (X : XC) {N9 : Nat} (hN : 39 ≤ N9) (x1 : Int32) (x2 : Int32) (x3 : Int32) (k109 : Mem → Option (Int32 × Mem))  (hk109 : ∀  (w : Mem), GE l X mm_X4_lessons 13 emI N9 flT (k109 w) 109 [none, none, none, none, none, none] [] w) : ∀ (n : Nat) (x4 : Int32) (w : Mem), GE l X mm_X4_lessons 13 emI N9 flT ((h_X4_lessons_67 x1 x2 x3 k109 n) x4 w) 67 [some (.inr (.inr (some (4, 0)))), some (.inl x1), some (.inl x2), some (.inl x3), some (.inl x4), none] [] w := by
  intro n
  induction n with
  | zero => intro x4 w; exact GE_none
  | succ n ih =>
    intro x4 w
    unfold h_X4_lessons_67
    refine GE_run (flG_T hN) (pc1 := 70) (L1 := [some (.inr (.inr (some (4, 0)))), some (.inl x1), some (.inl x2), some (.inl x3), some (.inl x4), none]) (S1 := [.inl 3, .inl x4]) (w1 := w) (P := True) [(.iload 4, 0, 0, 0, 0), (.iconst 3, 0, 0, 3, 0)] (by decide +kernel) rfl trivial ?_
    refine GE_icmpN (k := .gt) (off := 39) (tgt := 109) (by decide +kernel) (by decide) (cnd_gt _ _) (fun c6 => ?_) (fun c6 => ?_)
    · exact GE_weak [false, false, false, false, false, false] (hk109 w)
    · refine GE_run (flG_T hN) (pc1 := 81) (L1 := [some (.inr (.inr (some (4, 0)))), some (.inl x1), some (.inl x2), some (.inl x3), some (.inl x4), none]) (S1 := [.inl x4, .inl x2, .inl x1, .inr (.inr (some (0, 1)))]) (w1 := w) (P := True) [(.aload_n 0, 0, 0, 0, 0), (.getfield 32, 4, 3, 0, 0), (.iload_n 1, 0, 0, 0, 0), (.iload_n 2, 0, 0, 0, 0), (.iload 4, 0, 0, 0, 0)] (by decide +kernel) rfl trivial ?_
      refine GE_callSI (As := [.inr (.inr (some (0, 1))), .inl x1, .inl x2, .inl x4]) (S := []) ((fun (l : Launch) (X : XC) (hN : 39 ≤ N9) i a b c => (ld_ok l X hN 8).1 i a b c) l X hN 1 x1 x2 x4 (by decide) w) ⟨me_X4_lessonsTo, ms_X4_lessonsTo, lk_X4_196⟩ (by decide +kernel) rfl (by decide) (by decide) (Nat.le_of_ble_eq_true rfl) (fun r7 _ => ?_)
      refine GE_run (flG_T hN) (pc1 := 88) (L1 := [some (.inr (.inr (some (4, 0)))), some (.inl x1), some (.inl x2), some (.inl x3), some (.inl x4), some (.inl r7.1)]) (S1 := [.inl r7.1]) (w1 := r7.2) (P := True) [(.istore 5, 0, 0, 0, 0), (.iload 5, 0, 0, 0, 0)] (by decide +kernel) rfl trivial ?_
      refine GE_if (k := .le) (off := 15) (tgt := 103) (by decide +kernel) (by decide) (cnd_le _ _) (fun c8 => ?_) (fun c8 => ?_)
      · refine GE_run (flG_T hN) (pc1 := 67) (L1 := [some (.inr (.inr (some (4, 0)))), some (.inl x1), some (.inl x2), some (.inl x3), some (.inl (x4 + 1)), some (.inl r7.1)]) (S1 := []) (w1 := r7.2) (P := True) [(.iinc 4 1, 0, 0, 1, 0), (.goto (-39), 0, 0, 0, 0)] (by decide +kernel) rfl trivial ?_
        exact GE_weak [true, true, true, true, true, false] (ih (x4 + 1) r7.2)
      · refine GE_run (flG_T hN) (pc1 := 92) (L1 := [some (.inr (.inr (some (4, 0)))), some (.inl x1), some (.inl x2), some (.inl x3), some (.inl x4), some (.inl r7.1)]) (S1 := [.inl x3]) (w1 := r7.2) (P := True) [(.iload_n 3, 0, 0, 0, 0)] (by decide +kernel) rfl trivial ?_
        refine GE_ifN (k := .ne) (off := 8) (tgt := 100) (by decide +kernel) (by decide) (cnd_ne _ _) (fun c9 => ?_) (fun c9 => ?_)
        · refine GE_run (flG_T hN) (pc1 := 102) (L1 := [some (.inr (.inr (some (4, 0)))), some (.inl x1), some (.inl x2), some (.inl x3), some (.inl x4), some (.inl r7.1)]) (S1 := [.inl r7.1]) (w1 := r7.2) (P := True) [(.iload 5, 0, 0, 0, 0)] (by decide +kernel) rfl trivial ?_
          exact GE_iret rfl (by decide +kernel)
        · refine GE_run (flG_T hN) (pc1 := 102) (L1 := [some (.inr (.inr (some (4, 0)))), some (.inl x1), some (.inl x2), some (.inl x3), some (.inl x4), some (.inl r7.1)]) (S1 := [.inl x4]) (w1 := r7.2) (P := True) [(.iload 4, 0, 0, 0, 0), (.goto 5, 0, 0, 0, 0)] (by decide +kernel) rfl trivial ?_
          exact GE_iret rfl (by decide +kernel)
noncomputable def j_X4_lessons_33   (x1 : Int32) (x2 : Int32) (x3 : Int32) (w : Mem) : Option (Int32 × Mem) := if (holdsF (atV w 15 0 x1) x2) = 0 then (Option.bind (f_X0_become 1 0 w) (fun r5 => h_X4_lessons_67 x1 x2 x3 (fun w10 => some ((-1), w10)) FU 1 r5)) else (some (0, w))
set_option maxRecDepth 100000 in
theorem j_X4_lessons_33_ok (l : Launch) (X : XC) {N9 : Nat} (hN : 39 ≤ N9)   (x1 : Int32) (x2 : Int32) (x3 : Int32)   (w : Mem) : GE l X mm_X4_lessons 13 emI N9 flT (j_X4_lessons_33 x1 x2 x3 w) 33 [some (.inr (.inr (some (4, 0)))), some (.inl x1), some (.inl x2), some (.inl x3), none, none] [] w := by
  unfold j_X4_lessons_33
  refine GE_run (flG_T hN) (pc1 := 41) (L1 := [some (.inr (.inr (some (4, 0)))), some (.inl x1), some (.inl x2), some (.inl x3), none, none]) (S1 := [.inl x1, .inr (.inr (some (15, 0)))]) (w1 := w) (P := True) [(.aload_n 0, 0, 0, 0, 0), (.getfield 28, 4, 2, 0, 0), (.getfield 108, 0, 8, 0, 0), (.iload_n 1, 0, 0, 0, 0)] (by decide +kernel) rfl trivial ?_
  refine GE_callSIp (As := [.inr (.inr (some (15, 0))), .inl x1]) (S := []) (p_X4_at l X hN 15 0 x1 (by decide) (okM hN (by decide)) w) ⟨me_X4_at, ms_X4_at, lk_X4_120⟩ (by decide +kernel) rfl (by decide) (by decide) (Nat.le_of_ble_eq_true rfl) ?_
  refine GE_run (flG_T hN) (pc1 := 45) (L1 := [some (.inr (.inr (some (4, 0)))), some (.inl x1), some (.inl x2), some (.inl x3), none, none]) (S1 := [.inl x2, .inl (atV w 15 0 x1)]) (w1 := w) (P := True) [(.iload_n 2, 0, 0, 0, 0)] (by decide +kernel) rfl trivial ?_
  refine GE_callSIp (As := [.inl (atV w 15 0 x1), .inl x2]) (S := []) (p_X4_holds l X hN (atV w 15 0 x1) x2 w) ⟨me_X4_holds, ms_X4_holds, lk_X4_157⟩ (by decide +kernel) rfl (by decide) (by decide) (Nat.le_of_ble_eq_true rfl) ?_
  refine GE_if (k := .eq) (off := 5) (tgt := 53) (by decide +kernel) (by decide) (cnd_eq _ _) (fun c4 => ?_) (fun c4 => ?_)
  · refine GE_run (flG_T hN) (pc1 := 61) (L1 := [some (.inr (.inr (some (4, 0)))), some (.inl x1), some (.inl x2), some (.inl x3), none, none]) (S1 := [.inr (.inr (some (0, 0))), .inr (.inr (some (0, 1)))]) (w1 := w) (P := True) [(.aload_n 0, 0, 0, 0, 0), (.getfield 32, 4, 3, 0, 0), (.aload_n 0, 0, 0, 0, 0), (.getfield 28, 4, 2, 0, 0)] (by decide +kernel) rfl trivial ?_
    refine GE_callVV (As := [.inr (.inr (some (0, 0)))]) (k := 0) (i := 1) (S := []) (t_X0_become l X hN 1 0 (by decide) (by decide) w) (by decide) ⟨me_X0_become, mi_X0_become, mv_X0_become, lk_X4_164⟩ rfl (by decide +kernel) rfl (by decide) (by decide) (Nat.le_of_ble_eq_true rfl) (fun r5 _ => ?_)
    refine GE_run (flG_T hN) (pc1 := 67) (L1 := [some (.inr (.inr (some (4, 0)))), some (.inl x1), some (.inl x2), some (.inl x3), some (.inl 1), none]) (S1 := []) (w1 := r5) (P := True) [(.iconst 1, 0, 0, 1, 0), (.istore 4, 0, 0, 0, 0)] (by decide +kernel) rfl trivial ?_
    refine GE_weak [true, true, true, true, true, false] (h_X4_lessons_67_ok l X hN x1 x2 x3 _ ?_ FU 1 r5)
    · intro w10
      refine GE_run (flG_T hN) (pc1 := 110) (L1 := [none, none, none, none, none, none]) (S1 := [.inl (-1)]) (w1 := w10) (P := True) [(.iconst (-1), 0, 0, -1, 0)] (by decide +kernel) rfl trivial ?_
      exact GE_iret rfl (by decide +kernel)
  · refine GE_run (flG_T hN) (pc1 := 52) (L1 := [some (.inr (.inr (some (4, 0)))), some (.inl x1), some (.inl x2), some (.inl x3), none, none]) (S1 := [.inl 0]) (w1 := w) (P := True) [(.iconst 0, 0, 0, 0, 0)] (by decide +kernel) rfl trivial ?_
    exact GE_iret rfl (by decide +kernel)
noncomputable def f_X4_lessons (a1 : Int32) (a2 : Int32) (a3 : Int32) (w : Mem) : Option (Int32 × Mem) := if (hasF a1 (w 0 0 2)) = 0 then (some ((-5), w)) else (if (rng a2 0 15) = 0 then (some ((-7), w)) else (if a3 = 0 then (j_X4_lessons_33 a1 a2 a3 w) else (if a3 = 1 then (j_X4_lessons_33 a1 a2 a3 w) else (some ((-7), w)))))
set_option maxRecDepth 100000 in
theorem t_X4_lessons (l : Launch) (X : XC) {N9 : Nat} (hN : 39 ≤ N9)  (a1 : Int32) (a2 : Int32) (a3 : Int32) (w : Mem) : Ct l X 13 yX4_lessons cX4_lessons 6 (some .int) emI [.inr (.inr (some (4, 0))), .inl a1, .inl a2, .inl a3] N9 flT w (f_X4_lessons a1 a2 a3 w) := by
  refine Ct_of (mi := mm_X4_lessons) (mik_X4 _ _ _) me_X4_lessons rfl (okAs_cons (okMV hN (by decide)) (okAs_cons rfl (okAs_cons rfl (okAs_cons rfl okAs_nil)))) (Nat.le_of_ble_eq_true rfl) ?_
  unfold f_X4_lessons
  refine GE_run (flG_T hN) (pc1 := 5) (L1 := [some (.inr (.inr (some (4, 0)))), some (.inl a1), some (.inl a2), some (.inl a3), none, none]) (S1 := [.inl a1, .inr (.inr (some (0, 0)))]) (w1 := w) (P := True) [(.aload_n 0, 0, 0, 0, 0), (.getfield 28, 4, 2, 0, 0), (.iload_n 1, 0, 0, 0, 0)] (by decide +kernel) rfl trivial ?_
  refine GE_callVIp (As := [.inl a1]) (k := 0) (i := 0) (S := []) (p_X0_has l X hN 0 a1 (by decide) w) (by decide) ⟨me_X0_has, mi_X0_has, mv_X0_has, lk_X4_95⟩ rfl (by decide +kernel) rfl (by decide) (by decide) (Nat.le_of_ble_eq_true rfl) ?_
  refine GE_ifN (k := .ne) (off := 6) (tgt := 14) (by decide +kernel) (by decide) (cnd_ne _ _) (fun c1 => ?_) (fun c1 => ?_)
  · refine GE_run (flG_T hN) (pc1 := 15) (L1 := [some (.inr (.inr (some (4, 0)))), some (.inl a1), some (.inl a2), some (.inl a3), none, none]) (S1 := [.inl a2]) (w1 := w) (P := True) [(.iload_n 2, 0, 0, 0, 0)] (by decide +kernel) rfl trivial ?_
    refine GE_callSIp (As := [.inl a2]) (S := []) (p_X4_isThing l X hN a2 w) ⟨me_X4_isThing, ms_X4_isThing, lk_X4_98⟩ (by decide +kernel) rfl (by decide) (by decide) (Nat.le_of_ble_eq_true rfl) ?_
    refine GE_if (k := .eq) (off := 12) (tgt := 30) (by decide +kernel) (by decide) (cnd_eq _ _) (fun c2 => ?_) (fun c2 => ?_)
    · refine GE_run (flG_T hN) (pc1 := 32) (L1 := [some (.inr (.inr (some (4, 0)))), some (.inl a1), some (.inl a2), some (.inl a3), none, none]) (S1 := [.inl (-7)]) (w1 := w) (P := True) [(.bipush (-7), 0, 0, -7, 0)] (by decide +kernel) rfl trivial ?_
      exact GE_iret rfl (by decide +kernel)
    · refine GE_run (flG_T hN) (pc1 := 22) (L1 := [some (.inr (.inr (some (4, 0)))), some (.inl a1), some (.inl a2), some (.inl a3), none, none]) (S1 := [.inl a3]) (w1 := w) (P := True) [(.iload_n 3, 0, 0, 0, 0)] (by decide +kernel) rfl trivial ?_
      refine GE_if (k := .eq) (off := 11) (tgt := 33) (by decide +kernel) (by decide) (cnd_eq _ _) (fun c3 => ?_) (fun c3 => ?_)
      · exact GE_weak [true, true, true, true, false, false] (j_X4_lessons_33_ok l X hN a1 a2 a3 w)
      · refine GE_run (flG_T hN) (pc1 := 27) (L1 := [some (.inr (.inr (some (4, 0)))), some (.inl a1), some (.inl a2), some (.inl a3), none, none]) (S1 := [.inl 1, .inl a3]) (w1 := w) (P := True) [(.iload_n 3, 0, 0, 0, 0), (.iconst 1, 0, 0, 1, 0)] (by decide +kernel) rfl trivial ?_
        refine GE_icmp (k := .eq) (off := 6) (tgt := 33) (by decide +kernel) (by decide) (cnd_eq _ _) (fun c11 => ?_) (fun c11 => ?_)
        · exact GE_weak [true, true, true, true, false, false] (j_X4_lessons_33_ok l X hN a1 a2 a3 w)
        · refine GE_run (flG_T hN) (pc1 := 32) (L1 := [some (.inr (.inr (some (4, 0)))), some (.inl a1), some (.inl a2), some (.inl a3), none, none]) (S1 := [.inl (-7)]) (w1 := w) (P := True) [(.bipush (-7), 0, 0, -7, 0)] (by decide +kernel) rfl trivial ?_
          exact GE_iret rfl (by decide +kernel)
  · refine GE_run (flG_T hN) (pc1 := 13) (L1 := [some (.inr (.inr (some (4, 0)))), some (.inl a1), some (.inl a2), some (.inl a3), none, none]) (S1 := [.inl (-5)]) (w1 := w) (P := True) [(.bipush (-5), 0, 0, -5, 0)] (by decide +kernel) rfl trivial ?_
    exact GE_iret rfl (by decide +kernel)
