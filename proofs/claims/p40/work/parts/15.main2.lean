/-! the class, second half -/
abbrev mm_X4_which : MI := (RX4, cX4_which, 7, (some .int), ftp_X4.map (fun q => q.1), ctp_X4.map (fun q => q.1), clp_X4.map (fun q => q.1))
noncomputable def j_X4_which_111  (kl44 : Int32 → Int32 → Int32 → Mem → Option (Int32 × Mem)) (x1 : Int32) (x2 : Int32) (x5 : Int32) (x6 : Int32) (w : Mem) : Option (Int32 × Mem) := kl44 x5 x6 (x5 + 1) w
set_option maxRecDepth 100000 in
theorem j_X4_which_111_ok (l : Launch) (X : XC) {N9 : Nat} (hN : 39 ≤ N9)  (kl44 : Int32 → Int32 → Int32 → Mem → Option (Int32 × Mem)) (x1 : Int32) (x2 : Int32) (x5 : Int32) (x6 : Int32)  (ih : ∀ (x3 : Int32) (x4 : Int32) (x5 : Int32) (w : Mem), GE l X mm_X4_which 4 emI N9 flT (kl44 x3 x4 x5 w) 44 [some (.inr (.inr (some (4, 0)))), some (.inl x1), some (.inl x2), some (.inl x3), some (.inl x4), some (.inl x5), none] [] w) (w : Mem) : GE l X mm_X4_which 4 emI N9 flT (j_X4_which_111 kl44 x1 x2 x5 x6 w) 111 [some (.inr (.inr (some (4, 0)))), some (.inl x1), some (.inl x2), none, none, some (.inl x5), some (.inl x6)] [] w := by
  unfold j_X4_which_111
  refine GE_run (flG_T hN) (pc1 := 44) (L1 := [some (.inr (.inr (some (4, 0)))), some (.inl x1), some (.inl x2), some (.inl x5), some (.inl x6), some (.inl (x5 + 1)), some (.inl x6)]) (S1 := []) (w1 := w) (P := True) [(.iload 5, 0, 0, 0, 0), (.istore_n 3, 0, 0, 0, 0), (.iload 6, 0, 0, 0, 0), (.istore 4, 0, 0, 0, 0), (.iinc 5 1, 0, 0, 1, 0), (.goto (-77), 0, 0, 0, 0)] (by decide +kernel) rfl trivial ?_
  exact GE_weak [true, true, true, true, true, true, false] (ih x5 x6 (x5 + 1) w)
noncomputable def h_X4_which_44 (x1 : Int32) (x2 : Int32) (k124 : Int32 → Int32 → Mem → Option (Int32 × Mem)) : Nat → Int32 → Int32 → Int32 → Mem → Option (Int32 × Mem)
  | 0, _, _, _, _ => none
  | n + 1, x3, x4, x5, w => if x5 < 16 then (if (holdsF (atV w 16 0 x1) x5) = 0 then (Option.bind (f_X0_lucksBy 0 x1 x5 w) (fun r5 => if x3 < 0 then (j_X4_which_111 (h_X4_which_44 x1 x2 k124 n) x1 x2 x5 (wiF ((atV w 17 0 x1) + r5.1) 0 99) r5.2) else (if (wiF ((atV w 17 0 x1) + r5.1) 0 99) ≤ x4 then ((h_X4_which_44 x1 x2 k124 n) x3 x4 (x5 + 1) r5.2) else (j_X4_which_111 (h_X4_which_44 x1 x2 k124 n) x1 x2 x5 (wiF ((atV w 17 0 x1) + r5.1) 0 99) r5.2)))) else ((h_X4_which_44 x1 x2 k124 n) x3 x4 (x5 + 1) w)) else (k124 x3 x4 w)
set_option maxRecDepth 100000 in
theorem h_X4_which_44_ok (l : Launch) (X : XC) {N9 : Nat} (hN : 39 ≤ N9) (x1 : Int32) (x2 : Int32) (k124 : Int32 → Int32 → Mem → Option (Int32 × Mem))  (hk124 : ∀ (x3 : Int32) (x4 : Int32) (w : Mem), GE l X mm_X4_which 4 emI N9 flT (k124 x3 x4 w) 124 [none, none, some (.inl x2), some (.inl x3), some (.inl x4), none, none] [] w) : ∀ (n : Nat) (x3 : Int32) (x4 : Int32) (x5 : Int32) (w : Mem), GE l X mm_X4_which 4 emI N9 flT ((h_X4_which_44 x1 x2 k124 n) x3 x4 x5 w) 44 [some (.inr (.inr (some (4, 0)))), some (.inl x1), some (.inl x2), some (.inl x3), some (.inl x4), some (.inl x5), none] [] w := by
  intro n
  induction n with
  | zero => intro x3 x4 x5 w; exact GE_none
  | succ n ih =>
    intro x3 x4 x5 w
    unfold h_X4_which_44
    refine GE_run (flG_T hN) (pc1 := 48) (L1 := [some (.inr (.inr (some (4, 0)))), some (.inl x1), some (.inl x2), some (.inl x3), some (.inl x4), some (.inl x5), none]) (S1 := [.inl 16, .inl x5]) (w1 := w) (P := True) [(.iload 5, 0, 0, 0, 0), (.bipush 16, 0, 0, 16, 0)] (by decide +kernel) rfl trivial ?_
    refine GE_icmpN (k := .ge) (off := 76) (tgt := 124) (by decide +kernel) (by decide) (cnd_ge _ _) (fun c3 => ?_) (fun c3 => ?_)
    · exact GE_weak [false, false, true, true, true, false, false] (hk124 x3 x4 w)
    · refine GE_run (flG_T hN) (pc1 := 59) (L1 := [some (.inr (.inr (some (4, 0)))), some (.inl x1), some (.inl x2), some (.inl x3), some (.inl x4), some (.inl x5), none]) (S1 := [.inl x1, .inr (.inr (some (16, 0)))]) (w1 := w) (P := True) [(.aload_n 0, 0, 0, 0, 0), (.getfield 28, 4, 2, 0, 0), (.getfield 115, 0, 9, 0, 0), (.iload_n 1, 0, 0, 0, 0)] (by decide +kernel) rfl trivial ?_
      refine GE_callSIp (As := [.inr (.inr (some (16, 0))), .inl x1]) (S := []) (p_X4_at l X hN 16 0 x1 (by decide) (okM hN (by decide)) w) ⟨me_X4_at, ms_X4_at, lk_X4_120⟩ (by decide +kernel) rfl (by decide) (by decide) (Nat.le_of_ble_eq_true rfl) ?_
      refine GE_run (flG_T hN) (pc1 := 64) (L1 := [some (.inr (.inr (some (4, 0)))), some (.inl x1), some (.inl x2), some (.inl x3), some (.inl x4), some (.inl x5), none]) (S1 := [.inl x5, .inl (atV w 16 0 x1)]) (w1 := w) (P := True) [(.iload 5, 0, 0, 0, 0)] (by decide +kernel) rfl trivial ?_
      refine GE_callSIp (As := [.inl (atV w 16 0 x1), .inl x5]) (S := []) (p_X4_holds l X hN (atV w 16 0 x1) x5 w) ⟨me_X4_holds, ms_X4_holds, lk_X4_157⟩ (by decide +kernel) rfl (by decide) (by decide) (Nat.le_of_ble_eq_true rfl) ?_
      refine GE_ifN (k := .ne) (off := 51) (tgt := 118) (by decide +kernel) (by decide) (cnd_ne _ _) (fun c4 => ?_) (fun c4 => ?_)
      · refine GE_run (flG_T hN) (pc1 := 44) (L1 := [some (.inr (.inr (some (4, 0)))), some (.inl x1), some (.inl x2), some (.inl x3), some (.inl x4), some (.inl (x5 + 1)), none]) (S1 := []) (w1 := w) (P := True) [(.iinc 5 1, 0, 0, 1, 0), (.goto (-77), 0, 0, 0, 0)] (by decide +kernel) rfl trivial ?_
        exact GE_weak [true, true, true, true, true, true, false] (ih x3 x4 (x5 + 1) w)
      · refine GE_run (flG_T hN) (pc1 := 78) (L1 := [some (.inr (.inr (some (4, 0)))), some (.inl x1), some (.inl x2), some (.inl x3), some (.inl x4), some (.inl x5), none]) (S1 := [.inl x1, .inr (.inr (some (17, 0)))]) (w1 := w) (P := True) [(.aload_n 0, 0, 0, 0, 0), (.getfield 28, 4, 2, 0, 0), (.getfield 117, 0, 10, 0, 0), (.iload_n 1, 0, 0, 0, 0)] (by decide +kernel) rfl trivial ?_
        refine GE_callSIp (As := [.inr (.inr (some (17, 0))), .inl x1]) (S := []) (p_X4_at l X hN 17 0 x1 (by decide) (okM hN (by decide)) w) ⟨me_X4_at, ms_X4_at, lk_X4_120⟩ (by decide +kernel) rfl (by decide) (by decide) (Nat.le_of_ble_eq_true rfl) ?_
        refine GE_run (flG_T hN) (pc1 := 88) (L1 := [some (.inr (.inr (some (4, 0)))), some (.inl x1), some (.inl x2), some (.inl x3), some (.inl x4), some (.inl x5), none]) (S1 := [.inl x5, .inl x1, .inr (.inr (some (0, 0))), .inl (atV w 17 0 x1)]) (w1 := w) (P := True) [(.aload_n 0, 0, 0, 0, 0), (.getfield 28, 4, 2, 0, 0), (.iload_n 1, 0, 0, 0, 0), (.iload 5, 0, 0, 0, 0)] (by decide +kernel) rfl trivial ?_
        refine GE_callVI (As := [.inl x1, .inl x5]) (k := 0) (i := 0) (S := [.inl (atV w 17 0 x1)]) (t_X0_lucksBy l X hN 0 x1 x5 (by decide) w) (by decide) ⟨me_X0_lucksBy, mi_X0_lucksBy, mv_X0_lucksBy, lk_X4_140⟩ rfl (by decide +kernel) rfl (by decide) (by decide) (Nat.le_of_ble_eq_true rfl) (fun r5 _ => ?_)
        refine GE_run (flG_T hN) (pc1 := 95) (L1 := [some (.inr (.inr (some (4, 0)))), some (.inl x1), some (.inl x2), some (.inl x3), some (.inl x4), some (.inl x5), none]) (S1 := [.inl 99, .inl 0, .inl ((atV w 17 0 x1) + r5.1)]) (w1 := r5.2) (P := True) [(.iadd, 0, 0, 0, 0), (.iconst 0, 0, 0, 0, 0), (.bipush 99, 0, 0, 99, 0)] (by decide +kernel) rfl trivial ?_
        refine GE_callSIp (As := [.inl ((atV w 17 0 x1) + r5.1), .inl 0, .inl 99]) (S := []) (p_X4_bounded l X hN ((atV w 17 0 x1) + r5.1) 0 99 r5.2) ⟨me_X4_bounded, ms_X4_bounded, lk_X4_193⟩ (by decide +kernel) rfl (by decide) (by decide) (Nat.le_of_ble_eq_true rfl) ?_
        refine GE_run (flG_T hN) (pc1 := 101) (L1 := [some (.inr (.inr (some (4, 0)))), some (.inl x1), some (.inl x2), some (.inl x3), some (.inl x4), some (.inl x5), some (.inl (wiF ((atV w 17 0 x1) + r5.1) 0 99))]) (S1 := [.inl x3]) (w1 := r5.2) (P := True) [(.istore 6, 0, 0, 0, 0), (.iload_n 3, 0, 0, 0, 0)] (by decide +kernel) rfl trivial ?_
        refine GE_if (k := .lt) (off := 10) (tgt := 111) (by decide +kernel) (by decide) (cnd_lt _ _) (fun c6 => ?_) (fun c6 => ?_)
        · exact GE_weak [true, true, true, false, false, true, true] (j_X4_which_111_ok l X hN (h_X4_which_44 x1 x2 k124 n) x1 x2 x5 (wiF ((atV w 17 0 x1) + r5.1) 0 99) ih r5.2)
        · refine GE_run (flG_T hN) (pc1 := 108) (L1 := [some (.inr (.inr (some (4, 0)))), some (.inl x1), some (.inl x2), some (.inl x3), some (.inl x4), some (.inl x5), some (.inl (wiF ((atV w 17 0 x1) + r5.1) 0 99))]) (S1 := [.inl x4, .inl (wiF ((atV w 17 0 x1) + r5.1) 0 99)]) (w1 := r5.2) (P := True) [(.iload 6, 0, 0, 0, 0), (.iload 4, 0, 0, 0, 0)] (by decide +kernel) rfl trivial ?_
          refine GE_icmp (k := .le) (off := 10) (tgt := 118) (by decide +kernel) (by decide) (cnd_le _ _) (fun c7 => ?_) (fun c7 => ?_)
          · refine GE_run (flG_T hN) (pc1 := 44) (L1 := [some (.inr (.inr (some (4, 0)))), some (.inl x1), some (.inl x2), some (.inl x3), some (.inl x4), some (.inl (x5 + 1)), some (.inl (wiF ((atV w 17 0 x1) + r5.1) 0 99))]) (S1 := []) (w1 := r5.2) (P := True) [(.iinc 5 1, 0, 0, 1, 0), (.goto (-77), 0, 0, 0, 0)] (by decide +kernel) rfl trivial ?_
            exact GE_weak [true, true, true, true, true, true, false] (ih x3 x4 (x5 + 1) r5.2)
          · exact GE_weak [true, true, true, false, false, true, true] (j_X4_which_111_ok l X hN (h_X4_which_44 x1 x2 k124 n) x1 x2 x5 (wiF ((atV w 17 0 x1) + r5.1) 0 99) ih r5.2)
noncomputable def j_X4_which_26   (x1 : Int32) (x2 : Int32) (w : Mem) : Option (Int32 × Mem) := h_X4_which_44 x1 x2 (fun x3_8 x4_9 w10 => if x2 = 0 then (some (x3_8, w10)) else (some (x4_9, w10))) FU (-1) (atV w 17 0 x1) 0 w
set_option maxRecDepth 100000 in
theorem j_X4_which_26_ok (l : Launch) (X : XC) {N9 : Nat} (hN : 39 ≤ N9)   (x1 : Int32) (x2 : Int32)   (w : Mem) : GE l X mm_X4_which 4 emI N9 flT (j_X4_which_26 x1 x2 w) 26 [some (.inr (.inr (some (4, 0)))), some (.inl x1), some (.inl x2), none, none, none, none] [] w := by
  unfold j_X4_which_26
  refine GE_run (flG_T hN) (pc1 := 36) (L1 := [some (.inr (.inr (some (4, 0)))), some (.inl x1), some (.inl x2), some (.inl (-1)), none, none, none]) (S1 := [.inl x1, .inr (.inr (some (17, 0)))]) (w1 := w) (P := True) [(.iconst (-1), 0, 0, -1, 0), (.istore_n 3, 0, 0, 0, 0), (.aload_n 0, 0, 0, 0, 0), (.getfield 28, 4, 2, 0, 0), (.getfield 117, 0, 10, 0, 0), (.iload_n 1, 0, 0, 0, 0)] (by decide +kernel) rfl trivial ?_
  refine GE_callSIp (As := [.inr (.inr (some (17, 0))), .inl x1]) (S := []) (p_X4_at l X hN 17 0 x1 (by decide) (okM hN (by decide)) w) ⟨me_X4_at, ms_X4_at, lk_X4_120⟩ (by decide +kernel) rfl (by decide) (by decide) (Nat.le_of_ble_eq_true rfl) ?_
  refine GE_run (flG_T hN) (pc1 := 44) (L1 := [some (.inr (.inr (some (4, 0)))), some (.inl x1), some (.inl x2), some (.inl (-1)), some (.inl (atV w 17 0 x1)), some (.inl 0), none]) (S1 := []) (w1 := w) (P := True) [(.istore 4, 0, 0, 0, 0), (.iconst 0, 0, 0, 0, 0), (.istore 5, 0, 0, 0, 0)] (by decide +kernel) rfl trivial ?_
  refine GE_weak [true, true, true, true, true, true, false] (h_X4_which_44_ok l X hN x1 x2 _ ?_ FU (-1) (atV w 17 0 x1) 0 w)
  · intro x3_8 x4_9 w10
    refine GE_run (flG_T hN) (pc1 := 125) (L1 := [none, none, some (.inl x2), some (.inl x3_8), some (.inl x4_9), none, none]) (S1 := [.inl x2]) (w1 := w10) (P := True) [(.iload_n 2, 0, 0, 0, 0)] (by decide +kernel) rfl trivial ?_
    refine GE_ifN (k := .ne) (off := 7) (tgt := 132) (by decide +kernel) (by decide) (cnd_ne _ _) (fun c11 => ?_) (fun c11 => ?_)
    · refine GE_run (flG_T hN) (pc1 := 134) (L1 := [none, none, some (.inl x2), some (.inl x3_8), some (.inl x4_9), none, none]) (S1 := [.inl x4_9]) (w1 := w10) (P := True) [(.iload 4, 0, 0, 0, 0)] (by decide +kernel) rfl trivial ?_
      exact GE_iret rfl (by decide +kernel)
    · refine GE_run (flG_T hN) (pc1 := 134) (L1 := [none, none, some (.inl x2), some (.inl x3_8), some (.inl x4_9), none, none]) (S1 := [.inl x3_8]) (w1 := w10) (P := True) [(.iload_n 3, 0, 0, 0, 0), (.goto 5, 0, 0, 0, 0)] (by decide +kernel) rfl trivial ?_
      exact GE_iret rfl (by decide +kernel)
noncomputable def f_X4_which (a1 : Int32) (a2 : Int32) (w : Mem) : Option (Int32 × Mem) := if (hasF a1 (w 0 0 2)) = 0 then (some ((-5), w)) else (if a2 = 0 then (j_X4_which_26 a1 a2 w) else (if a2 = 1 then (j_X4_which_26 a1 a2 w) else (some ((-7), w))))
set_option maxRecDepth 100000 in
theorem t_X4_which (l : Launch) (X : XC) {N9 : Nat} (hN : 39 ≤ N9)  (a1 : Int32) (a2 : Int32) (w : Mem) : Ct l X 4 yX4_which cX4_which 7 (some .int) emI [.inr (.inr (some (4, 0))), .inl a1, .inl a2] N9 flT w (f_X4_which a1 a2 w) := by
  refine Ct_of (mi := mm_X4_which) (mik_X4 _ _ _) me_X4_which rfl (okAs_cons (okMV hN (by decide)) (okAs_cons rfl (okAs_cons rfl okAs_nil))) (Nat.le_of_ble_eq_true rfl) ?_
  unfold f_X4_which
  refine GE_run (flG_T hN) (pc1 := 5) (L1 := [some (.inr (.inr (some (4, 0)))), some (.inl a1), some (.inl a2), none, none, none, none]) (S1 := [.inl a1, .inr (.inr (some (0, 0)))]) (w1 := w) (P := True) [(.aload_n 0, 0, 0, 0, 0), (.getfield 28, 4, 2, 0, 0), (.iload_n 1, 0, 0, 0, 0)] (by decide +kernel) rfl trivial ?_
  refine GE_callVIp (As := [.inl a1]) (k := 0) (i := 0) (S := []) (p_X0_has l X hN 0 a1 (by decide) w) (by decide) ⟨me_X0_has, mi_X0_has, mv_X0_has, lk_X4_95⟩ rfl (by decide +kernel) rfl (by decide) (by decide) (Nat.le_of_ble_eq_true rfl) ?_
  refine GE_ifN (k := .ne) (off := 6) (tgt := 14) (by decide +kernel) (by decide) (cnd_ne _ _) (fun c1 => ?_) (fun c1 => ?_)
  · refine GE_run (flG_T hN) (pc1 := 15) (L1 := [some (.inr (.inr (some (4, 0)))), some (.inl a1), some (.inl a2), none, none, none, none]) (S1 := [.inl a2]) (w1 := w) (P := True) [(.iload_n 2, 0, 0, 0, 0)] (by decide +kernel) rfl trivial ?_
    refine GE_if (k := .eq) (off := 11) (tgt := 26) (by decide +kernel) (by decide) (cnd_eq _ _) (fun c2 => ?_) (fun c2 => ?_)
    · exact GE_weak [true, true, true, false, false, false, false] (j_X4_which_26_ok l X hN a1 a2 w)
    · refine GE_run (flG_T hN) (pc1 := 20) (L1 := [some (.inr (.inr (some (4, 0)))), some (.inl a1), some (.inl a2), none, none, none, none]) (S1 := [.inl 1, .inl a2]) (w1 := w) (P := True) [(.iload_n 2, 0, 0, 0, 0), (.iconst 1, 0, 0, 1, 0)] (by decide +kernel) rfl trivial ?_
      refine GE_icmp (k := .eq) (off := 6) (tgt := 26) (by decide +kernel) (by decide) (cnd_eq _ _) (fun c12 => ?_) (fun c12 => ?_)
      · exact GE_weak [true, true, true, false, false, false, false] (j_X4_which_26_ok l X hN a1 a2 w)
      · refine GE_run (flG_T hN) (pc1 := 25) (L1 := [some (.inr (.inr (some (4, 0)))), some (.inl a1), some (.inl a2), none, none, none, none]) (S1 := [.inl (-7)]) (w1 := w) (P := True) [(.bipush (-7), 0, 0, -7, 0)] (by decide +kernel) rfl trivial ?_
        exact GE_iret rfl (by decide +kernel)
  · refine GE_run (flG_T hN) (pc1 := 13) (L1 := [some (.inr (.inr (some (4, 0)))), some (.inl a1), some (.inl a2), none, none, none, none]) (S1 := [.inl (-5)]) (w1 := w) (P := True) [(.bipush (-5), 0, 0, -5, 0)] (by decide +kernel) rfl trivial ?_
    exact GE_iret rfl (by decide +kernel)
abbrev mm_X4_when : MI := (RX4, cX4_when, 3, (some .int), ftp_X4.map (fun q => q.1), ctp_X4.map (fun q => q.1), clp_X4.map (fun q => q.1))
noncomputable def j_X4_when_66  (kl27 : Int32 → Mem → Option (Int32 × Mem)) (x1 : Int32) (x2 : Int32) (w : Mem) : Option (Int32 × Mem) := Option.bind (f_X0_washes 1 w) (fun r7 => kl27 (x2 + 1) r7.2)
set_option maxRecDepth 100000 in
theorem j_X4_when_66_ok (l : Launch) (X : XC) {N9 : Nat} (hN : 39 ≤ N9)  (kl27 : Int32 → Mem → Option (Int32 × Mem)) (x1 : Int32) (x2 : Int32)  (ih : ∀ (x2 : Int32) (w : Mem), GE l X mm_X4_when 3 emI N9 flT (kl27 x2 w) 27 [some (.inr (.inr (some (4, 0)))), some (.inl x1), some (.inl x2)] [] w) (w : Mem) : GE l X mm_X4_when 3 emI N9 flT (j_X4_when_66 kl27 x1 x2 w) 66 [some (.inr (.inr (some (4, 0)))), some (.inl x1), some (.inl x2)] [] w := by
  unfold j_X4_when_66
  refine GE_run (flG_T hN) (pc1 := 70) (L1 := [some (.inr (.inr (some (4, 0)))), some (.inl x1), some (.inl x2)]) (S1 := [.inr (.inr (some (0, 1)))]) (w1 := w) (P := True) [(.aload_n 0, 0, 0, 0, 0), (.getfield 32, 4, 3, 0, 0)] (by decide +kernel) rfl trivial ?_
  refine GE_callVI (As := []) (k := 0) (i := 1) (S := []) (t_X0_washes l X hN 1 (by decide) w) (by decide) ⟨me_X0_washes, mi_X0_washes, mv_X0_washes, lk_X4_153⟩ rfl (by decide +kernel) rfl (by decide) (by decide) (Nat.le_of_ble_eq_true rfl) (fun r7 _ => ?_)
  refine GE_run (flG_T hN) (pc1 := 27) (L1 := [some (.inr (.inr (some (4, 0)))), some (.inl x1), some (.inl (x2 + 1))]) (S1 := []) (w1 := r7.2) (P := True) [(.pop, 0, 0, 0, 0), (.iinc 2 1, 0, 0, 1, 0), (.goto (-50), 0, 0, 0, 0)] (by decide +kernel) rfl trivial ?_
  exact GE_weak [true, true, true] (ih (x2 + 1) r7.2)
noncomputable def h_X4_when_27 (x1 : Int32) (k80 : Mem → Option (Int32 × Mem)) : Nat → Int32 → Mem → Option (Int32 × Mem)
  | 0, _, _ => none
  | n + 1, x2, w => if x2 ≤ 60 then (if x1 < 0 then (if (w 0 1 3) = 0 then (some (x2, w)) else (j_X4_when_66 (h_X4_when_27 x1 k80 n) x1 x2 w)) else (Option.bind (f_X0_knownToAny 1 w) (fun r8 => if (holdsF r8.1 x1) = 0 then (j_X4_when_66 (h_X4_when_27 x1 k80 n) x1 x2 r8.2) else (some (x2, r8.2))))) else (k80 w)
set_option maxRecDepth 100000 in
theorem h_X4_when_27_ok (l : Launch) (X : XC) {N9 : Nat} (hN : 39 ≤ N9) (x1 : Int32) (k80 : Mem → Option (Int32 × Mem))  (hk80 : ∀  (w : Mem), GE l X mm_X4_when 3 emI N9 flT (k80 w) 80 [none, none, none] [] w) : ∀ (n : Nat) (x2 : Int32) (w : Mem), GE l X mm_X4_when 3 emI N9 flT ((h_X4_when_27 x1 k80 n) x2 w) 27 [some (.inr (.inr (some (4, 0)))), some (.inl x1), some (.inl x2)] [] w := by
  intro n
  induction n with
  | zero => intro x2 w; exact GE_none
  | succ n ih =>
    intro x2 w
    unfold h_X4_when_27
    refine GE_run (flG_T hN) (pc1 := 30) (L1 := [some (.inr (.inr (some (4, 0)))), some (.inl x1), some (.inl x2)]) (S1 := [.inl 60, .inl x2]) (w1 := w) (P := True) [(.iload_n 2, 0, 0, 0, 0), (.bipush 60, 0, 0, 60, 0)] (by decide +kernel) rfl trivial ?_
    refine GE_icmpN (k := .gt) (off := 50) (tgt := 80) (by decide +kernel) (by decide) (cnd_gt _ _) (fun c4 => ?_) (fun c4 => ?_)
    · exact GE_weak [false, false, false] (hk80 w)
    · refine GE_run (flG_T hN) (pc1 := 34) (L1 := [some (.inr (.inr (some (4, 0)))), some (.inl x1), some (.inl x2)]) (S1 := [.inl x1]) (w1 := w) (P := True) [(.iload_n 1, 0, 0, 0, 0)] (by decide +kernel) rfl trivial ?_
      refine GE_ifN (k := .ge) (off := 16) (tgt := 50) (by decide +kernel) (by decide) (cnd_ge _ _) (fun c5 => ?_) (fun c5 => ?_)
      · refine GE_run (flG_T hN) (pc1 := 54) (L1 := [some (.inr (.inr (some (4, 0)))), some (.inl x1), some (.inl x2)]) (S1 := [.inr (.inr (some (0, 1)))]) (w1 := w) (P := True) [(.aload_n 0, 0, 0, 0, 0), (.getfield 32, 4, 3, 0, 0)] (by decide +kernel) rfl trivial ?_
        refine GE_callVI (As := []) (k := 0) (i := 1) (S := []) (t_X0_knownToAny l X hN 1 (by decide) w) (by decide) ⟨me_X0_knownToAny, mi_X0_knownToAny, mv_X0_knownToAny, lk_X4_208⟩ rfl (by decide +kernel) rfl (by decide) (by decide) (Nat.le_of_ble_eq_true rfl) (fun r8 _ => ?_)
        refine GE_run (flG_T hN) (pc1 := 58) (L1 := [some (.inr (.inr (some (4, 0)))), some (.inl x1), some (.inl x2)]) (S1 := [.inl x1, .inl r8.1]) (w1 := r8.2) (P := True) [(.iload_n 1, 0, 0, 0, 0)] (by decide +kernel) rfl trivial ?_
        refine GE_callSIp (As := [.inl r8.1, .inl x1]) (S := []) (p_X4_holds l X hN r8.1 x1 r8.2) ⟨me_X4_holds, ms_X4_holds, lk_X4_157⟩ (by decide +kernel) rfl (by decide) (by decide) (Nat.le_of_ble_eq_true rfl) ?_
        refine GE_if (k := .eq) (off := 5) (tgt := 66) (by decide +kernel) (by decide) (cnd_eq _ _) (fun c9 => ?_) (fun c9 => ?_)
        · exact GE_weak [true, true, true] (j_X4_when_66_ok l X hN (h_X4_when_27 x1 k80 n) x1 x2 ih r8.2)
        · refine GE_run (flG_T hN) (pc1 := 65) (L1 := [some (.inr (.inr (some (4, 0)))), some (.inl x1), some (.inl x2)]) (S1 := [.inl x2]) (w1 := r8.2) (P := True) [(.iload_n 2, 0, 0, 0, 0)] (by decide +kernel) rfl trivial ?_
          exact GE_iret rfl (by decide +kernel)
      · refine GE_run (flG_T hN) (pc1 := 44) (L1 := [some (.inr (.inr (some (4, 0)))), some (.inl x1), some (.inl x2)]) (S1 := [.inl (w 0 1 3)]) (w1 := w) (P := True) [(.aload_n 0, 0, 0, 0, 0), (.getfield 32, 4, 3, 0, 0), (.getfield 49, 0, 3, 0, 0)] (by decide +kernel) rfl trivial ?_
        refine GE_ifN (k := .ne) (off := 22) (tgt := 66) (by decide +kernel) (by decide) (cnd_ne _ _) (fun c6 => ?_) (fun c6 => ?_)
        · exact GE_weak [true, true, true] (j_X4_when_66_ok l X hN (h_X4_when_27 x1 k80 n) x1 x2 ih w)
        · refine GE_run (flG_T hN) (pc1 := 65) (L1 := [some (.inr (.inr (some (4, 0)))), some (.inl x1), some (.inl x2)]) (S1 := [.inl x2]) (w1 := w) (P := True) [(.goto 17, 0, 0, 0, 0), (.iload_n 2, 0, 0, 0, 0)] (by decide +kernel) rfl trivial ?_
          exact GE_iret rfl (by decide +kernel)
noncomputable def f_X4_when (a1 : Int32) (w : Mem) : Option (Int32 × Mem) := if a1 < (-1) then (some ((-2), w)) else (if a1 < 16 then (Option.bind (f_X0_become 1 0 w) (fun r3 => h_X4_when_27 a1 (fun w10 => some ((-1), w10)) FU 0 r3)) else (some ((-2), w)))
set_option maxRecDepth 100000 in
theorem t_X4_when (l : Launch) (X : XC) {N9 : Nat} (hN : 39 ≤ N9)  (a1 : Int32) (w : Mem) : Ct l X 3 yX4_when cX4_when 3 (some .int) emI [.inr (.inr (some (4, 0))), .inl a1] N9 flT w (f_X4_when a1 w) := by
  refine Ct_of (mi := mm_X4_when) (mik_X4 _ _ _) me_X4_when rfl (okAs_cons (okMV hN (by decide)) (okAs_cons rfl okAs_nil)) (Nat.le_of_ble_eq_true rfl) ?_
  unfold f_X4_when
  refine GE_run (flG_T hN) (pc1 := 2) (L1 := [some (.inr (.inr (some (4, 0)))), some (.inl a1), none]) (S1 := [.inl (-1), .inl a1]) (w1 := w) (P := True) [(.iload_n 1, 0, 0, 0, 0), (.iconst (-1), 0, 0, -1, 0)] (by decide +kernel) rfl trivial ?_
  refine GE_icmp (k := .lt) (off := 9) (tgt := 11) (by decide +kernel) (by decide) (cnd_lt _ _) (fun c1 => ?_) (fun c1 => ?_)
  · refine GE_run (flG_T hN) (pc1 := 13) (L1 := [some (.inr (.inr (some (4, 0)))), some (.inl a1), none]) (S1 := [.inl (-2)]) (w1 := w) (P := True) [(.bipush (-2), 0, 0, -2, 0)] (by decide +kernel) rfl trivial ?_
    exact GE_iret rfl (by decide +kernel)
  · refine GE_run (flG_T hN) (pc1 := 8) (L1 := [some (.inr (.inr (some (4, 0)))), some (.inl a1), none]) (S1 := [.inl 16, .inl a1]) (w1 := w) (P := True) [(.iload_n 1, 0, 0, 0, 0), (.bipush 16, 0, 0, 16, 0)] (by decide +kernel) rfl trivial ?_
    refine GE_icmp (k := .lt) (off := 6) (tgt := 14) (by decide +kernel) (by decide) (cnd_lt _ _) (fun c2 => ?_) (fun c2 => ?_)
    · refine GE_run (flG_T hN) (pc1 := 22) (L1 := [some (.inr (.inr (some (4, 0)))), some (.inl a1), none]) (S1 := [.inr (.inr (some (0, 0))), .inr (.inr (some (0, 1)))]) (w1 := w) (P := True) [(.aload_n 0, 0, 0, 0, 0), (.getfield 32, 4, 3, 0, 0), (.aload_n 0, 0, 0, 0, 0), (.getfield 28, 4, 2, 0, 0)] (by decide +kernel) rfl trivial ?_
      refine GE_callVV (As := [.inr (.inr (some (0, 0)))]) (k := 0) (i := 1) (S := []) (t_X0_become l X hN 1 0 (by decide) (by decide) w) (by decide) ⟨me_X0_become, mi_X0_become, mv_X0_become, lk_X4_164⟩ rfl (by decide +kernel) rfl (by decide) (by decide) (Nat.le_of_ble_eq_true rfl) (fun r3 _ => ?_)
      refine GE_run (flG_T hN) (pc1 := 27) (L1 := [some (.inr (.inr (some (4, 0)))), some (.inl a1), some (.inl 0)]) (S1 := []) (w1 := r3) (P := True) [(.iconst 0, 0, 0, 0, 0), (.istore_n 2, 0, 0, 0, 0)] (by decide +kernel) rfl trivial ?_
      refine GE_weak [true, true, true] (h_X4_when_27_ok l X hN a1 _ ?_ FU 0 r3)
      · intro w10
        refine GE_run (flG_T hN) (pc1 := 81) (L1 := [none, none, none]) (S1 := [.inl (-1)]) (w1 := w10) (P := True) [(.iconst (-1), 0, 0, -1, 0)] (by decide +kernel) rfl trivial ?_
        exact GE_iret rfl (by decide +kernel)
    · refine GE_run (flG_T hN) (pc1 := 13) (L1 := [some (.inr (.inr (some (4, 0)))), some (.inl a1), none]) (S1 := [.inl (-2)]) (w1 := w) (P := True) [(.bipush (-2), 0, 0, -2, 0)] (by decide +kernel) rfl trivial ?_
      exact GE_iret rfl (by decide +kernel)
abbrev mm_X4_sheet : MI := (RX4, cX4_sheet, 5, (some .int), ftp_X4.map (fun q => q.1), ctp_X4.map (fun q => q.1), clp_X4.map (fun q => q.1))
noncomputable def f_X4_sheet (a1 : Int32) (a2 : Int32) (a3 : Int32) (w : Mem) : Option (Int32 × Mem) := Option.elim (rowF a1) (some ((-2), w)) (fun z1 => if a2 < (-1) then (some ((-2), w)) else (if a2 ≤ 2 then (if a2 = (-1) then (Option.bind (f_X2_becomes z1 (-1) 0 w) (fun r5 => some (1, r5))) else (if a3 ≤ 40 then (if a3 < 0 then (some ((-14), w)) else (Option.bind (f_X2_becomes z1 a2 a3 w) (fun r8 => some (1, r8)))) else (some ((-2), w)))) else (some ((-2), w))))
set_option maxRecDepth 100000 in
theorem t_X4_sheet (l : Launch) (X : XC) {N9 : Nat} (hN : 39 ≤ N9)  (a1 : Int32) (a2 : Int32) (a3 : Int32) (w : Mem) : Ct l X 2 yX4_sheet cX4_sheet 5 (some .int) emI [.inr (.inr (some (4, 0))), .inl a1, .inl a2, .inl a3] N9 flT w (f_X4_sheet a1 a2 a3 w) := by
  refine Ct_of (mi := mm_X4_sheet) (mik_X4 _ _ _) me_X4_sheet rfl (okAs_cons (okMV hN (by decide)) (okAs_cons rfl (okAs_cons rfl (okAs_cons rfl okAs_nil)))) (Nat.le_of_ble_eq_true rfl) ?_
  unfold f_X4_sheet
  refine GE_run (flG_T hN) (pc1 := 2) (L1 := [some (.inr (.inr (some (4, 0)))), some (.inl a1), some (.inl a2), some (.inl a3), none]) (S1 := [.inl a1, .inr (.inr (some (4, 0)))]) (w1 := w) (P := True) [(.aload_n 0, 0, 0, 0, 0), (.iload_n 1, 0, 0, 0, 0)] (by decide +kernel) rfl trivial ?_
  refine GE_callVAp (As := [.inl a1]) (k := 4) (i := 0) (S := []) (p_X4_rowAt l X hN a1 w) (by decide) ⟨me_X4_rowAt, mi_X4_rowAt, mv_X4_rowAt, lk_X4_175⟩ rfl (by decide +kernel) rfl (by decide) (by decide) (Nat.le_of_ble_eq_true rfl) ?_
  refine GE_run (flG_T hN) (pc1 := 9) (L1 := [some (.inr (.inr (some (4, 0)))), some (.inl a1), some (.inl a2), some (.inl a3), some (.inr (.inr ((rowF a1).map fun z => (2, z))))]) (S1 := [.inr (.inr ((rowF a1).map fun z => (2, z)))]) (w1 := w) (P := True) [(.astore 4, 0, 0, 0, 0), (.aload 4, 0, 0, 0, 0)] (by decide +kernel) rfl trivial ?_
  cases hz1 : rowF a1 with
  | none =>
    simp only [Option.elim_none, Option.map_none]
    refine GE_null0 (off := 13) (tgt := 22) (by decide +kernel) (by decide) ?_
    refine GE_run (flG_T hN) (pc1 := 24) (L1 := [some (.inr (.inr (some (4, 0)))), some (.inl a1), some (.inl a2), some (.inl a3), some (.inr (.inr none))]) (S1 := [.inl (-2)]) (w1 := w) (P := True) [(.bipush (-2), 0, 0, -2, 0)] (by decide +kernel) rfl trivial ?_
    exact GE_iret rfl (by decide +kernel)
  | some z1 =>
    have bz1 := rowF_lt hz1
    refine GE_eq (Option.elim_some _ _ _) ?_
    refine GE_null1 (off := 13) (by decide +kernel) ?_
    refine GE_run (flG_T hN) (pc1 := 14) (L1 := [some (.inr (.inr (some (4, 0)))), some (.inl a1), some (.inl a2), some (.inl a3), some (.inr (.inr (some (2, z1))))]) (S1 := [.inl (-1), .inl a2]) (w1 := w) (P := True) [(.iload_n 2, 0, 0, 0, 0), (.iconst (-1), 0, 0, -1, 0)] (by decide +kernel) rfl trivial ?_
    refine GE_icmp (k := .lt) (off := 8) (tgt := 22) (by decide +kernel) (by decide) (cnd_lt _ _) (fun c2 => ?_) (fun c2 => ?_)
    · refine GE_run (flG_T hN) (pc1 := 24) (L1 := [some (.inr (.inr (some (4, 0)))), some (.inl a1), some (.inl a2), some (.inl a3), some (.inr (.inr (some (2, z1))))]) (S1 := [.inl (-2)]) (w1 := w) (P := True) [(.bipush (-2), 0, 0, -2, 0)] (by decide +kernel) rfl trivial ?_
      exact GE_iret rfl (by decide +kernel)
    · refine GE_run (flG_T hN) (pc1 := 19) (L1 := [some (.inr (.inr (some (4, 0)))), some (.inl a1), some (.inl a2), some (.inl a3), some (.inr (.inr (some (2, z1))))]) (S1 := [.inl 2, .inl a2]) (w1 := w) (P := True) [(.iload_n 2, 0, 0, 0, 0), (.iconst 2, 0, 0, 2, 0)] (by decide +kernel) rfl trivial ?_
      refine GE_icmp (k := .le) (off := 6) (tgt := 25) (by decide +kernel) (by decide) (cnd_le _ _) (fun c3 => ?_) (fun c3 => ?_)
      · refine GE_run (flG_T hN) (pc1 := 27) (L1 := [some (.inr (.inr (some (4, 0)))), some (.inl a1), some (.inl a2), some (.inl a3), some (.inr (.inr (some (2, z1))))]) (S1 := [.inl (-1), .inl a2]) (w1 := w) (P := True) [(.iload_n 2, 0, 0, 0, 0), (.iconst (-1), 0, 0, -1, 0)] (by decide +kernel) rfl trivial ?_
        refine GE_icmpN (k := .ne) (off := 12) (tgt := 39) (by decide +kernel) (by decide) (cnd_ne _ _) (fun c4 => ?_) (fun c4 => ?_)
        · refine GE_run (flG_T hN) (pc1 := 42) (L1 := [some (.inr (.inr (some (4, 0)))), some (.inl a1), some (.inl a2), some (.inl a3), some (.inr (.inr (some (2, z1))))]) (S1 := [.inl 40, .inl a3]) (w1 := w) (P := True) [(.iload_n 3, 0, 0, 0, 0), (.bipush 40, 0, 0, 40, 0)] (by decide +kernel) rfl trivial ?_
          refine GE_icmp (k := .le) (off := 6) (tgt := 48) (by decide +kernel) (by decide) (cnd_le _ _) (fun c6 => ?_) (fun c6 => ?_)
          · refine GE_run (flG_T hN) (pc1 := 49) (L1 := [some (.inr (.inr (some (4, 0)))), some (.inl a1), some (.inl a2), some (.inl a3), some (.inr (.inr (some (2, z1))))]) (S1 := [.inl a3]) (w1 := w) (P := True) [(.iload_n 3, 0, 0, 0, 0)] (by decide +kernel) rfl trivial ?_
            refine GE_ifN (k := .ge) (off := 6) (tgt := 55) (by decide +kernel) (by decide) (cnd_ge _ _) (fun c7 => ?_) (fun c7 => ?_)
            · refine GE_run (flG_T hN) (pc1 := 59) (L1 := [some (.inr (.inr (some (4, 0)))), some (.inl a1), some (.inl a2), some (.inl a3), some (.inr (.inr (some (2, z1))))]) (S1 := [.inl a3, .inl a2, .inr (.inr (some (2, z1)))]) (w1 := w) (P := True) [(.aload 4, 0, 0, 0, 0), (.iload_n 2, 0, 0, 0, 0), (.iload_n 3, 0, 0, 0, 0)] (by decide +kernel) rfl trivial ?_
              refine GE_callVV (As := [.inl a2, .inl a3]) (k := 2) (i := z1) (S := []) (t_X2_becomes l X hN z1 a2 a3 bz1 w) (by decide) ⟨me_X2_becomes, mi_X2_becomes, mv_X2_becomes, lk_X4_226⟩ rfl (by decide +kernel) rfl (by decide) (by decide) (Nat.le_of_ble_eq_true rfl) (fun r8 _ => ?_)
              refine GE_run (flG_T hN) (pc1 := 63) (L1 := [some (.inr (.inr (some (4, 0)))), some (.inl a1), some (.inl a2), some (.inl a3), some (.inr (.inr (some (2, z1))))]) (S1 := [.inl 1]) (w1 := r8) (P := True) [(.iconst 1, 0, 0, 1, 0)] (by decide +kernel) rfl trivial ?_
              exact GE_iret rfl (by decide +kernel)
            · refine GE_run (flG_T hN) (pc1 := 54) (L1 := [some (.inr (.inr (some (4, 0)))), some (.inl a1), some (.inl a2), some (.inl a3), some (.inr (.inr (some (2, z1))))]) (S1 := [.inl (-14)]) (w1 := w) (P := True) [(.bipush (-14), 0, 0, -14, 0)] (by decide +kernel) rfl trivial ?_
              exact GE_iret rfl (by decide +kernel)
          · refine GE_run (flG_T hN) (pc1 := 47) (L1 := [some (.inr (.inr (some (4, 0)))), some (.inl a1), some (.inl a2), some (.inl a3), some (.inr (.inr (some (2, z1))))]) (S1 := [.inl (-2)]) (w1 := w) (P := True) [(.bipush (-2), 0, 0, -2, 0)] (by decide +kernel) rfl trivial ?_
            exact GE_iret rfl (by decide +kernel)
        · refine GE_run (flG_T hN) (pc1 := 34) (L1 := [some (.inr (.inr (some (4, 0)))), some (.inl a1), some (.inl a2), some (.inl a3), some (.inr (.inr (some (2, z1))))]) (S1 := [.inl 0, .inl (-1), .inr (.inr (some (2, z1)))]) (w1 := w) (P := True) [(.aload 4, 0, 0, 0, 0), (.iconst (-1), 0, 0, -1, 0), (.iconst 0, 0, 0, 0, 0)] (by decide +kernel) rfl trivial ?_
          refine GE_callVV (As := [.inl (-1), .inl 0]) (k := 2) (i := z1) (S := []) (t_X2_becomes l X hN z1 (-1) 0 bz1 w) (by decide) ⟨me_X2_becomes, mi_X2_becomes, mv_X2_becomes, lk_X4_226⟩ rfl (by decide +kernel) rfl (by decide) (by decide) (Nat.le_of_ble_eq_true rfl) (fun r5 _ => ?_)
          refine GE_run (flG_T hN) (pc1 := 38) (L1 := [some (.inr (.inr (some (4, 0)))), some (.inl a1), some (.inl a2), some (.inl a3), some (.inr (.inr (some (2, z1))))]) (S1 := [.inl 1]) (w1 := r5) (P := True) [(.iconst 1, 0, 0, 1, 0)] (by decide +kernel) rfl trivial ?_
          exact GE_iret rfl (by decide +kernel)
      · refine GE_run (flG_T hN) (pc1 := 24) (L1 := [some (.inr (.inr (some (4, 0)))), some (.inl a1), some (.inl a2), some (.inl a3), some (.inr (.inr (some (2, z1))))]) (S1 := [.inl (-2)]) (w1 := w) (P := True) [(.bipush (-2), 0, 0, -2, 0)] (by decide +kernel) rfl trivial ?_
        exact GE_iret rfl (by decide +kernel)
abbrev mm_X4_cell : MI := (RX4, cX4_cell, 5, (some .int), ftp_X4.map (fun q => q.1), ctp_X4.map (fun q => q.1), clp_X4.map (fun q => q.1))
noncomputable def f_X4_cell (a1 : Int32) (a2 : Int32) (a3 : Int32) (w : Mem) : Option (Int32 × Mem) := Option.elim (rowF a1) (some ((-2), w)) (fun z1 => if (w 2 z1 0) = (-1) then (some ((-11), w)) else (if a2 < 0 then (some ((-12), w)) else (if a2 < (w 2 z1 1) then (Option.bind (f_X2_write z1 a2 a3 w) (fun r5 => some (1, r5))) else (some ((-12), w)))))
set_option maxRecDepth 100000 in
theorem t_X4_cell (l : Launch) (X : XC) {N9 : Nat} (hN : 39 ≤ N9)  (a1 : Int32) (a2 : Int32) (a3 : Int32) (w : Mem) : Ct l X 2 yX4_cell cX4_cell 5 (some .int) emI [.inr (.inr (some (4, 0))), .inl a1, .inl a2, .inl a3] N9 flT w (f_X4_cell a1 a2 a3 w) := by
  refine Ct_of (mi := mm_X4_cell) (mik_X4 _ _ _) me_X4_cell rfl (okAs_cons (okMV hN (by decide)) (okAs_cons rfl (okAs_cons rfl (okAs_cons rfl okAs_nil)))) (Nat.le_of_ble_eq_true rfl) ?_
  unfold f_X4_cell
  refine GE_run (flG_T hN) (pc1 := 2) (L1 := [some (.inr (.inr (some (4, 0)))), some (.inl a1), some (.inl a2), some (.inl a3), none]) (S1 := [.inl a1, .inr (.inr (some (4, 0)))]) (w1 := w) (P := True) [(.aload_n 0, 0, 0, 0, 0), (.iload_n 1, 0, 0, 0, 0)] (by decide +kernel) rfl trivial ?_
  refine GE_callVAp (As := [.inl a1]) (k := 4) (i := 0) (S := []) (p_X4_rowAt l X hN a1 w) (by decide) ⟨me_X4_rowAt, mi_X4_rowAt, mv_X4_rowAt, lk_X4_175⟩ rfl (by decide +kernel) rfl (by decide) (by decide) (Nat.le_of_ble_eq_true rfl) ?_
  refine GE_run (flG_T hN) (pc1 := 9) (L1 := [some (.inr (.inr (some (4, 0)))), some (.inl a1), some (.inl a2), some (.inl a3), some (.inr (.inr ((rowF a1).map fun z => (2, z))))]) (S1 := [.inr (.inr ((rowF a1).map fun z => (2, z)))]) (w1 := w) (P := True) [(.astore 4, 0, 0, 0, 0), (.aload 4, 0, 0, 0, 0)] (by decide +kernel) rfl trivial ?_
  cases hz1 : rowF a1 with
  | none =>
    simp only [Option.elim_none, Option.map_none]
    refine GE_nonnull0 (off := 6) (by decide +kernel) ?_
    refine GE_run (flG_T hN) (pc1 := 14) (L1 := [some (.inr (.inr (some (4, 0)))), some (.inl a1), some (.inl a2), some (.inl a3), some (.inr (.inr none))]) (S1 := [.inl (-2)]) (w1 := w) (P := True) [(.bipush (-2), 0, 0, -2, 0)] (by decide +kernel) rfl trivial ?_
    exact GE_iret rfl (by decide +kernel)
  | some z1 =>
    have bz1 := rowF_lt hz1
    refine GE_eq (Option.elim_some _ _ _) ?_
    refine GE_nonnull1 (off := 6) (tgt := 15) (by decide +kernel) (by decide) ?_
    refine GE_run (flG_T hN) (pc1 := 21) (L1 := [some (.inr (.inr (some (4, 0)))), some (.inl a1), some (.inl a2), some (.inl a3), some (.inr (.inr (some (2, z1))))]) (S1 := [.inl (-1), .inl (w 2 z1 0)]) (w1 := w) (P := True) [(.aload 4, 0, 0, 0, 0), (.getfield 179, 2, 0, 0, 0), (.iconst (-1), 0, 0, -1, 0)] (by decide +kernel) rfl trivial ?_
    refine GE_icmpN (k := .ne) (off := 6) (tgt := 27) (by decide +kernel) (by decide) (cnd_ne _ _) (fun c2 => ?_) (fun c2 => ?_)
    · refine GE_run (flG_T hN) (pc1 := 28) (L1 := [some (.inr (.inr (some (4, 0)))), some (.inl a1), some (.inl a2), some (.inl a3), some (.inr (.inr (some (2, z1))))]) (S1 := [.inl a2]) (w1 := w) (P := True) [(.iload_n 2, 0, 0, 0, 0)] (by decide +kernel) rfl trivial ?_
      refine GE_if (k := .lt) (off := 12) (tgt := 40) (by decide +kernel) (by decide) (cnd_lt _ _) (fun c3 => ?_) (fun c3 => ?_)
      · refine GE_run (flG_T hN) (pc1 := 42) (L1 := [some (.inr (.inr (some (4, 0)))), some (.inl a1), some (.inl a2), some (.inl a3), some (.inr (.inr (some (2, z1))))]) (S1 := [.inl (-12)]) (w1 := w) (P := True) [(.bipush (-12), 0, 0, -12, 0)] (by decide +kernel) rfl trivial ?_
        exact GE_iret rfl (by decide +kernel)
      · refine GE_run (flG_T hN) (pc1 := 37) (L1 := [some (.inr (.inr (some (4, 0)))), some (.inl a1), some (.inl a2), some (.inl a3), some (.inr (.inr (some (2, z1))))]) (S1 := [.inl (w 2 z1 1), .inl a2]) (w1 := w) (P := True) [(.iload_n 2, 0, 0, 0, 0), (.aload 4, 0, 0, 0, 0), (.getfield 189, 2, 1, 0, 0)] (by decide +kernel) rfl trivial ?_
        refine GE_icmp (k := .lt) (off := 6) (tgt := 43) (by decide +kernel) (by decide) (cnd_lt _ _) (fun c4 => ?_) (fun c4 => ?_)
        · refine GE_run (flG_T hN) (pc1 := 47) (L1 := [some (.inr (.inr (some (4, 0)))), some (.inl a1), some (.inl a2), some (.inl a3), some (.inr (.inr (some (2, z1))))]) (S1 := [.inl a3, .inl a2, .inr (.inr (some (2, z1)))]) (w1 := w) (P := True) [(.aload 4, 0, 0, 0, 0), (.iload_n 2, 0, 0, 0, 0), (.iload_n 3, 0, 0, 0, 0)] (by decide +kernel) rfl trivial ?_
          refine GE_callVV (As := [.inl a2, .inl a3]) (k := 2) (i := z1) (S := []) (t_X2_write l X hN z1 a2 a3 bz1 w) (by decide) ⟨me_X2_write, mi_X2_write, mv_X2_write, lk_X4_229⟩ rfl (by decide +kernel) rfl (by decide) (by decide) (Nat.le_of_ble_eq_true rfl) (fun r5 _ => ?_)
          refine GE_run (flG_T hN) (pc1 := 51) (L1 := [some (.inr (.inr (some (4, 0)))), some (.inl a1), some (.inl a2), some (.inl a3), some (.inr (.inr (some (2, z1))))]) (S1 := [.inl 1]) (w1 := r5) (P := True) [(.iconst 1, 0, 0, 1, 0)] (by decide +kernel) rfl trivial ?_
          exact GE_iret rfl (by decide +kernel)
        · refine GE_run (flG_T hN) (pc1 := 42) (L1 := [some (.inr (.inr (some (4, 0)))), some (.inl a1), some (.inl a2), some (.inl a3), some (.inr (.inr (some (2, z1))))]) (S1 := [.inl (-12)]) (w1 := w) (P := True) [(.bipush (-12), 0, 0, -12, 0)] (by decide +kernel) rfl trivial ?_
          exact GE_iret rfl (by decide +kernel)
    · refine GE_run (flG_T hN) (pc1 := 26) (L1 := [some (.inr (.inr (some (4, 0)))), some (.inl a1), some (.inl a2), some (.inl a3), some (.inr (.inr (some (2, z1))))]) (S1 := [.inl (-11)]) (w1 := w) (P := True) [(.bipush (-11), 0, 0, -11, 0)] (by decide +kernel) rfl trivial ?_
      exact GE_iret rfl (by decide +kernel)
