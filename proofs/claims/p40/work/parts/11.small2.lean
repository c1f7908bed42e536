/-! small methods that call smaller ones -/
abbrev mm_X4_numbered : MI := (RX4, cX4_numbered, 4, (some .int), ftp_X4.map (fun q => q.1), ctp_X4.map (fun q => q.1), clp_X4.map (fun q => q.1))
noncomputable def h_X4_numbered_4 (x0 : Int32) (k33 : Mem → Option (Int32 × Mem)) : Nat → Int32 → Int32 → Mem → Option (Int32 × Mem)
  | 0, _, _, _ => none
  | n + 1, x2, x3, w => if x3 < 16 then (if (holdsF x0 x3) = 0 then ((h_X4_numbered_4 x0 k33 n) x2 (x3 + 1) w) else (if x2 = 0 then (some (x3, w)) else ((h_X4_numbered_4 x0 k33 n) (x2 + (-1)) (x3 + 1) w))) else (k33 w)
set_option maxRecDepth 100000 in
theorem h_X4_numbered_4_ok (l : Launch) (X : XC) {N9 : Nat} (hN : 39 ≤ N9) (x0 : Int32) (k33 : Mem → Option (Int32 × Mem))  (hk33 : ∀  (w : Mem), GE l X mm_X4_numbered 1 emI N9 flT (k33 w) 33 [none, none, none, none] [] w) : ∀ (n : Nat) (x2 : Int32) (x3 : Int32) (w : Mem), GE l X mm_X4_numbered 1 emI N9 flT ((h_X4_numbered_4 x0 k33 n) x2 x3 w) 4 [some (.inl x0), none, some (.inl x2), some (.inl x3)] [] w := by
  intro n
  induction n with
  | zero => intro x2 x3 w; exact GE_none
  | succ n ih =>
    intro x2 x3 w
    unfold h_X4_numbered_4
    refine GE_run (flG_T hN) (pc1 := 7) (L1 := [some (.inl x0), none, some (.inl x2), some (.inl x3)]) (S1 := [.inl 16, .inl x3]) (w1 := w) (P := True) [(.iload_n 3, 0, 0, 0, 0), (.bipush 16, 0, 0, 16, 0)] (by decide +kernel) rfl trivial ?_
    refine GE_icmpN (k := .ge) (off := 26) (tgt := 33) (by decide +kernel) (by decide) (cnd_ge _ _) (fun c1 => ?_) (fun c1 => ?_)
    · exact GE_weak [false, false, false, false] (hk33 w)
    · refine GE_run (flG_T hN) (pc1 := 12) (L1 := [some (.inl x0), none, some (.inl x2), some (.inl x3)]) (S1 := [.inl x3, .inl x0]) (w1 := w) (P := True) [(.iload_n 0, 0, 0, 0, 0), (.iload_n 3, 0, 0, 0, 0)] (by decide +kernel) rfl trivial ?_
      refine GE_callSIp (As := [.inl x0, .inl x3]) (S := []) (p_X4_holds l X hN x0 x3 w) ⟨me_X4_holds, ms_X4_holds, lk_X4_157⟩ (by decide +kernel) rfl (by decide) (by decide) (Nat.le_of_ble_eq_true rfl) ?_
      refine GE_if (k := .eq) (off := 12) (tgt := 27) (by decide +kernel) (by decide) (cnd_eq _ _) (fun c2 => ?_) (fun c2 => ?_)
      · refine GE_run (flG_T hN) (pc1 := 4) (L1 := [some (.inl x0), none, some (.inl x2), some (.inl (x3 + 1))]) (S1 := []) (w1 := w) (P := True) [(.iinc 3 1, 0, 0, 1, 0), (.goto (-26), 0, 0, 0, 0)] (by decide +kernel) rfl trivial ?_
        exact GE_weak [true, false, true, true] (ih x2 (x3 + 1) w)
      · refine GE_run (flG_T hN) (pc1 := 19) (L1 := [some (.inl x0), none, some (.inl x2), some (.inl x3)]) (S1 := [.inl x2]) (w1 := w) (P := True) [(.iload_n 2, 0, 0, 0, 0)] (by decide +kernel) rfl trivial ?_
        refine GE_ifN (k := .ne) (off := 5) (tgt := 24) (by decide +kernel) (by decide) (cnd_ne _ _) (fun c3 => ?_) (fun c3 => ?_)
        · refine GE_run (flG_T hN) (pc1 := 4) (L1 := [some (.inl x0), none, some (.inl (x2 + (-1))), some (.inl (x3 + 1))]) (S1 := []) (w1 := w) (P := True) [(.iinc 2 (-1), 0, 0, -1, 0), (.iinc 3 1, 0, 0, 1, 0), (.goto (-26), 0, 0, 0, 0)] (by decide +kernel) rfl trivial ?_
          exact GE_weak [true, false, true, true] (ih (x2 + (-1)) (x3 + 1) w)
        · refine GE_run (flG_T hN) (pc1 := 23) (L1 := [some (.inl x0), none, some (.inl x2), some (.inl x3)]) (S1 := [.inl x3]) (w1 := w) (P := True) [(.iload_n 3, 0, 0, 0, 0)] (by decide +kernel) rfl trivial ?_
          exact GE_iret rfl (by decide +kernel)
noncomputable def f_X4_numbered (a1 : Int32) (a2 : Int32) (w : Mem) : Option (Int32 × Mem) := h_X4_numbered_4 a1 (fun w4 => some ((-1), w4)) FU a2 0 w
set_option maxRecDepth 100000 in
theorem t_X4_numbered (l : Launch) (X : XC) {N9 : Nat} (hN : 39 ≤ N9)  (a1 : Int32) (a2 : Int32) (w : Mem) : Ct l X 1 yX4_numbered cX4_numbered 4 (some .int) emI [.inl a1, .inl a2] N9 flT w (f_X4_numbered a1 a2 w) := by
  refine Ct_of (mi := mm_X4_numbered) (mik_X4 _ _ _) me_X4_numbered rfl (okAs_cons rfl (okAs_cons rfl okAs_nil)) (Nat.le_of_ble_eq_true rfl) ?_
  unfold f_X4_numbered
  refine GE_run (flG_T hN) (pc1 := 4) (L1 := [some (.inl a1), some (.inl a2), some (.inl a2), some (.inl 0)]) (S1 := []) (w1 := w) (P := True) [(.iload_n 1, 0, 0, 0, 0), (.istore_n 2, 0, 0, 0, 0), (.iconst 0, 0, 0, 0, 0), (.istore_n 3, 0, 0, 0, 0)] (by decide +kernel) rfl trivial ?_
  refine GE_weak [true, false, true, true] (h_X4_numbered_4_ok l X hN a1 _ ?_ FU a2 0 w)
  · intro w4
    refine GE_run (flG_T hN) (pc1 := 34) (L1 := [none, none, none, none]) (S1 := [.inl (-1)]) (w1 := w4) (P := True) [(.iconst (-1), 0, 0, -1, 0)] (by decide +kernel) rfl trivial ?_
    exact GE_iret rfl (by decide +kernel)
abbrev mm_X4_leastOf : MI := (RX4, cX4_leastOf, 5, (some .int), ftp_X4.map (fun q => q.1), ctp_X4.map (fun q => q.1), clp_X4.map (fun q => q.1))
noncomputable def h_X4_leastOf_7 (x0 : Int32) (k43 : Int32 → Mem → Option (Int32 × Mem)) : Nat → Int32 → Int32 → Int32 → Mem → Option (Int32 × Mem)
  | 0, _, _, _, _ => none
  | n + 1, x2, x3, x4, w => if x4 < 16 then (if x3 ≤ 0 then (k43 x2 w) else (if (holdsF x0 x4) = 0 then ((h_X4_leastOf_7 x0 k43 n) x2 x3 (x4 + 1) w) else ((h_X4_leastOf_7 x0 k43 n) (x2 ||| (shlI 1 x4)) (x3 + (-1)) (x4 + 1) w))) else (k43 x2 w)
set_option maxRecDepth 100000 in
theorem h_X4_leastOf_7_ok (l : Launch) (X : XC) {N9 : Nat} (hN : 39 ≤ N9) (x0 : Int32) (k43 : Int32 → Mem → Option (Int32 × Mem))  (hk43 : ∀ (x2 : Int32) (w : Mem), GE l X mm_X4_leastOf 1 emI N9 flT (k43 x2 w) 43 [none, none, some (.inl x2), none, none] [] w) : ∀ (n : Nat) (x2 : Int32) (x3 : Int32) (x4 : Int32) (w : Mem), GE l X mm_X4_leastOf 1 emI N9 flT ((h_X4_leastOf_7 x0 k43 n) x2 x3 x4 w) 7 [some (.inl x0), none, some (.inl x2), some (.inl x3), some (.inl x4)] [] w := by
  intro n
  induction n with
  | zero => intro x2 x3 x4 w; exact GE_none
  | succ n ih =>
    intro x2 x3 x4 w
    unfold h_X4_leastOf_7
    refine GE_run (flG_T hN) (pc1 := 11) (L1 := [some (.inl x0), none, some (.inl x2), some (.inl x3), some (.inl x4)]) (S1 := [.inl 16, .inl x4]) (w1 := w) (P := True) [(.iload 4, 0, 0, 0, 0), (.bipush 16, 0, 0, 16, 0)] (by decide +kernel) rfl trivial ?_
    refine GE_icmpN (k := .ge) (off := 32) (tgt := 43) (by decide +kernel) (by decide) (cnd_ge _ _) (fun c1 => ?_) (fun c1 => ?_)
    · exact GE_weak [false, false, true, false, false] (hk43 x2 w)
    · refine GE_run (flG_T hN) (pc1 := 15) (L1 := [some (.inl x0), none, some (.inl x2), some (.inl x3), some (.inl x4)]) (S1 := [.inl x3]) (w1 := w) (P := True) [(.iload_n 3, 0, 0, 0, 0)] (by decide +kernel) rfl trivial ?_
      refine GE_if (k := .le) (off := 28) (tgt := 43) (by decide +kernel) (by decide) (cnd_le _ _) (fun c2 => ?_) (fun c2 => ?_)
      · exact GE_weak [false, false, true, false, false] (hk43 x2 w)
      · refine GE_run (flG_T hN) (pc1 := 21) (L1 := [some (.inl x0), none, some (.inl x2), some (.inl x3), some (.inl x4)]) (S1 := [.inl x4, .inl x0]) (w1 := w) (P := True) [(.iload_n 0, 0, 0, 0, 0), (.iload 4, 0, 0, 0, 0)] (by decide +kernel) rfl trivial ?_
        refine GE_callSIp (As := [.inl x0, .inl x4]) (S := []) (p_X4_holds l X hN x0 x4 w) ⟨me_X4_holds, ms_X4_holds, lk_X4_157⟩ (by decide +kernel) rfl (by decide) (by decide) (Nat.le_of_ble_eq_true rfl) ?_
        refine GE_if (k := .eq) (off := 13) (tgt := 37) (by decide +kernel) (by decide) (cnd_eq _ _) (fun c3 => ?_) (fun c3 => ?_)
        · refine GE_run (flG_T hN) (pc1 := 7) (L1 := [some (.inl x0), none, some (.inl x2), some (.inl x3), some (.inl (x4 + 1))]) (S1 := []) (w1 := w) (P := True) [(.iinc 4 1, 0, 0, 1, 0), (.goto (-33), 0, 0, 0, 0)] (by decide +kernel) rfl trivial ?_
          exact GE_weak [true, false, true, true, true] (ih x2 x3 (x4 + 1) w)
        · refine GE_run (flG_T hN) (pc1 := 7) (L1 := [some (.inl x0), none, some (.inl (x2 ||| (shlI 1 x4))), some (.inl (x3 + (-1))), some (.inl (x4 + 1))]) (S1 := []) (w1 := w) (P := True) [(.iload_n 2, 0, 0, 0, 0), (.iconst 1, 0, 0, 1, 0), (.iload 4, 0, 0, 0, 0), (.ishl, 0, 0, 0, 0), (.ior, 0, 0, 0, 0), (.istore_n 2, 0, 0, 0, 0), (.iinc 3 (-1), 0, 0, -1, 0), (.iinc 4 1, 0, 0, 1, 0), (.goto (-33), 0, 0, 0, 0)] (by decide +kernel) rfl trivial ?_
          exact GE_weak [true, false, true, true, true] (ih (x2 ||| (shlI 1 x4)) (x3 + (-1)) (x4 + 1) w)
noncomputable def f_X4_leastOf (a1 : Int32) (a2 : Int32) (w : Mem) : Option (Int32 × Mem) := h_X4_leastOf_7 a1 (fun x2_4 w5 => some (x2_4, w5)) FU 0 a2 0 w
set_option maxRecDepth 100000 in
theorem t_X4_leastOf (l : Launch) (X : XC) {N9 : Nat} (hN : 39 ≤ N9)  (a1 : Int32) (a2 : Int32) (w : Mem) : Ct l X 1 yX4_leastOf cX4_leastOf 5 (some .int) emI [.inl a1, .inl a2] N9 flT w (f_X4_leastOf a1 a2 w) := by
  refine Ct_of (mi := mm_X4_leastOf) (mik_X4 _ _ _) me_X4_leastOf rfl (okAs_cons rfl (okAs_cons rfl okAs_nil)) (Nat.le_of_ble_eq_true rfl) ?_
  unfold f_X4_leastOf
  refine GE_run (flG_T hN) (pc1 := 7) (L1 := [some (.inl a1), some (.inl a2), some (.inl 0), some (.inl a2), some (.inl 0)]) (S1 := []) (w1 := w) (P := True) [(.iconst 0, 0, 0, 0, 0), (.istore_n 2, 0, 0, 0, 0), (.iload_n 1, 0, 0, 0, 0), (.istore_n 3, 0, 0, 0, 0), (.iconst 0, 0, 0, 0, 0), (.istore 4, 0, 0, 0, 0)] (by decide +kernel) rfl trivial ?_
  refine GE_weak [true, false, true, true, true] (h_X4_leastOf_7_ok l X hN a1 _ ?_ FU 0 a2 0 w)
  · intro x2_4 w5
    refine GE_run (flG_T hN) (pc1 := 44) (L1 := [none, none, some (.inl x2_4), none, none]) (S1 := [.inl x2_4]) (w1 := w5) (P := True) [(.iload_n 2, 0, 0, 0, 0)] (by decide +kernel) rfl trivial ?_
    exact GE_iret rfl (by decide +kernel)
abbrev mm_X4_rowAt : MI := (RX4, cX4_rowAt, 2, (some (.object "NameThrownBack$Sheet")), ftp_X4.map (fun q => q.1), ctp_X4.map (fun q => q.1), clp_X4.map (fun q => q.1))
noncomputable def f_X4_rowAt (a1 : Int32) (w : Mem) : Option (Option (Nat × Nat) × Mem) := if a1 < 0 then (some (none, w)) else (if a1 < 4 then (if inB a1 4 then (some (some (2, (tn a1)), w)) else none) else (some (none, w)))
set_option maxRecDepth 100000 in
theorem t_X4_rowAt (l : Launch) (X : XC) {N9 : Nat} (hN : 39 ≤ N9)  (a1 : Int32) (w : Mem) : Ct l X 0 yX4_rowAt cX4_rowAt 2 (some (.object "NameThrownBack$Sheet")) emA [.inr (.inr (some (4, 0))), .inl a1] N9 flT w (f_X4_rowAt a1 w) := by
  refine Ct_of (mi := mm_X4_rowAt) (mik_X4 _ _ _) me_X4_rowAt rfl (okAs_cons (okMV hN (by decide)) (okAs_cons rfl okAs_nil)) (Nat.le_of_ble_eq_true rfl) ?_
  unfold f_X4_rowAt
  refine GE_run (flG_T hN) (pc1 := 1) (L1 := [some (.inr (.inr (some (4, 0)))), some (.inl a1)]) (S1 := [.inl a1]) (w1 := w) (P := True) [(.iload_n 1, 0, 0, 0, 0)] (by decide +kernel) rfl trivial ?_
  refine GE_if (k := .lt) (off := 12) (tgt := 13) (by decide +kernel) (by decide) (cnd_lt _ _) (fun c1 => ?_) (fun c1 => ?_)
  · refine GE_run (flG_T hN) (pc1 := 14) (L1 := [some (.inr (.inr (some (4, 0)))), some (.inl a1)]) (S1 := [.inr (.inr none)]) (w1 := w) (P := True) [(.aconst_null, 0, 0, 0, 0)] (by decide +kernel) rfl trivial ?_
    exact GE_aret rfl (by decide +kernel)
  · refine GE_run (flG_T hN) (pc1 := 10) (L1 := [some (.inr (.inr (some (4, 0)))), some (.inl a1)]) (S1 := [.inl 4, .inl a1]) (w1 := w) (P := True) [(.iload_n 1, 0, 0, 0, 0), (.aload_n 0, 0, 0, 0, 0), (.getfield 40, 4, 6, 0, 0), (.arraylength, 0, 0, 0, 0)] (by decide +kernel) rfl trivial ?_
    refine GE_icmp (k := .lt) (off := 5) (tgt := 15) (by decide +kernel) (by decide) (cnd_lt _ _) (fun c2 => ?_) (fun c2 => ?_)
    · refine GE_chk (fun h3 => ?_)
      refine GE_run (flG_T hN) (pc1 := 21) (L1 := [some (.inr (.inr (some (4, 0)))), some (.inl a1)]) (S1 := [.inr (.inr (some (2, (tn a1))))]) (w1 := w) (P := (inB a1 4) ∧ True) [(.aload_n 0, 0, 0, 0, 0), (.getfield 40, 4, 6, 0, 0), (.iload_n 1, 0, 0, 0, 0), (.aaload, 0, 0, 0, 0)] (by decide +kernel) rfl ⟨h3, trivial⟩ ?_
      exact GE_aret rfl (by decide +kernel)
    · refine GE_run (flG_T hN) (pc1 := 14) (L1 := [some (.inr (.inr (some (4, 0)))), some (.inl a1)]) (S1 := [.inr (.inr none)]) (w1 := w) (P := True) [(.aconst_null, 0, 0, 0, 0)] (by decide +kernel) rfl trivial ?_
      exact GE_aret rfl (by decide +kernel)
abbrev mm_X0_has : MI := (RX0, cX0_has, 2, (some .boolean), ftp_X0.map (fun q => q.1), ctp_X0.map (fun q => q.1), clp_X0.map (fun q => q.1))
noncomputable def f_X0_has (i : Nat) (a1 : Int32) (w : Mem) : Option (Int32 × Mem) := if a1 < 0 then (some (0, w)) else (if a1 < (w 0 i 2) then (some (1, w)) else (some (0, w)))
set_option maxRecDepth 100000 in
theorem t_X0_has (l : Launch) (X : XC) {N9 : Nat} (hN : 39 ≤ N9)  (i : Nat) (a1 : Int32) (hi : i < 3) (w : Mem) : Ct l X 0 yX0_has cX0_has 2 (some .boolean) emI [.inr (.inr (some (0, i))), .inl a1] N9 flT w (f_X0_has i a1 w) := by
  refine Ct_of (mi := mm_X0_has) (mik_X0 _ _ _) me_X0_has rfl (okAs_cons (ok_coast_0 hN hi) (okAs_cons rfl okAs_nil)) (Nat.le_of_ble_eq_true rfl) ?_
  unfold f_X0_has
  refine GE_run (flG_T hN) (pc1 := 1) (L1 := [some (.inr (.inr (some (0, i)))), some (.inl a1)]) (S1 := [.inl a1]) (w1 := w) (P := True) [(.iload_n 1, 0, 0, 0, 0)] (by decide +kernel) rfl trivial ?_
  refine GE_if (k := .lt) (off := 15) (tgt := 16) (by decide +kernel) (by decide) (cnd_lt _ _) (fun c1 => ?_) (fun c1 => ?_)
  · refine GE_run (flG_T hN) (pc1 := 17) (L1 := [some (.inr (.inr (some (0, i)))), some (.inl a1)]) (S1 := [.inl 0]) (w1 := w) (P := True) [(.iconst 0, 0, 0, 0, 0)] (by decide +kernel) rfl trivial ?_
    exact GE_zret (ty := .boolean) rfl (by decide +kernel) (by decide +kernel)
  · refine GE_run (flG_T hN) (pc1 := 9) (L1 := [some (.inr (.inr (some (0, i)))), some (.inl a1)]) (S1 := [.inl (w 0 i 2), .inl a1]) (w1 := w) (P := True) [(.iload_n 1, 0, 0, 0, 0), (.aload_n 0, 0, 0, 0, 0), (.getfield 34, 0, 2, 0, 0)] (by decide +kernel) rfl trivial ?_
    refine GE_icmpN (k := .ge) (off := 7) (tgt := 16) (by decide +kernel) (by decide) (cnd_ge _ _) (fun c2 => ?_) (fun c2 => ?_)
    · refine GE_run (flG_T hN) (pc1 := 17) (L1 := [some (.inr (.inr (some (0, i)))), some (.inl a1)]) (S1 := [.inl 0]) (w1 := w) (P := True) [(.iconst 0, 0, 0, 0, 0)] (by decide +kernel) rfl trivial ?_
      exact GE_zret (ty := .boolean) rfl (by decide +kernel) (by decide +kernel)
    · refine GE_run (flG_T hN) (pc1 := 17) (L1 := [some (.inr (.inr (some (0, i)))), some (.inl a1)]) (S1 := [.inl 1]) (w1 := w) (P := True) [(.iconst 1, 0, 0, 1, 0), (.goto 4, 0, 0, 0, 0)] (by decide +kernel) rfl trivial ?_
      exact GE_zret (ty := .boolean) rfl (by decide +kernel) (by decide +kernel)
abbrev mm_J6_bitCount : MI := (RJ6, cJ6_bitCount_0f7a4, 1, (some .int), ftp_J6.map (fun q => q.1), ctp_J6.map (fun q => q.1), clp_J6.map (fun q => q.1))
noncomputable def f_J6_bitCount (a1 : Int32) (w : Mem) : Option (Int32 × Mem) := some ((((((((a1 - ((ushrI a1 1) &&& 1431655765)) &&& 858993459) + ((ushrI (a1 - ((ushrI a1 1) &&& 1431655765)) 2) &&& 858993459)) + (ushrI (((a1 - ((ushrI a1 1) &&& 1431655765)) &&& 858993459) + ((ushrI (a1 - ((ushrI a1 1) &&& 1431655765)) 2) &&& 858993459)) 4)) &&& 252645135) + (ushrI (((((a1 - ((ushrI a1 1) &&& 1431655765)) &&& 858993459) + ((ushrI (a1 - ((ushrI a1 1) &&& 1431655765)) 2) &&& 858993459)) + (ushrI (((a1 - ((ushrI a1 1) &&& 1431655765)) &&& 858993459) + ((ushrI (a1 - ((ushrI a1 1) &&& 1431655765)) 2) &&& 858993459)) 4)) &&& 252645135) 8)) + (ushrI ((((((a1 - ((ushrI a1 1) &&& 1431655765)) &&& 858993459) + ((ushrI (a1 - ((ushrI a1 1) &&& 1431655765)) 2) &&& 858993459)) + (ushrI (((a1 - ((ushrI a1 1) &&& 1431655765)) &&& 858993459) + ((ushrI (a1 - ((ushrI a1 1) &&& 1431655765)) 2) &&& 858993459)) 4)) &&& 252645135) + (ushrI (((((a1 - ((ushrI a1 1) &&& 1431655765)) &&& 858993459) + ((ushrI (a1 - ((ushrI a1 1) &&& 1431655765)) 2) &&& 858993459)) + (ushrI (((a1 - ((ushrI a1 1) &&& 1431655765)) &&& 858993459) + ((ushrI (a1 - ((ushrI a1 1) &&& 1431655765)) 2) &&& 858993459)) 4)) &&& 252645135) 8)) 16)) &&& 63, w)
set_option maxRecDepth 100000 in
theorem t_J6_bitCount (l : Launch) (X : XC) {N9 : Nat} (hN : 39 ≤ N9)  (a1 : Int32) (w : Mem) : Ct l X 0 yJ6_bitCount_0f7a4 cJ6_bitCount_0f7a4 1 (some .int) emI [.inl a1] N9 flT w (f_J6_bitCount a1 w) := by
  refine Ct_of (mi := mm_J6_bitCount) (mik_J6 _ _ _) me_J6_bitCount_0f7a4 rfl (okAs_cons rfl okAs_nil) (Nat.le_of_ble_eq_true rfl) ?_
  unfold f_J6_bitCount
  refine GE_run (flG_T hN) (pc1 := 52) (L1 := [some (.inl (((((((a1 - ((ushrI a1 1) &&& 1431655765)) &&& 858993459) + ((ushrI (a1 - ((ushrI a1 1) &&& 1431655765)) 2) &&& 858993459)) + (ushrI (((a1 - ((ushrI a1 1) &&& 1431655765)) &&& 858993459) + ((ushrI (a1 - ((ushrI a1 1) &&& 1431655765)) 2) &&& 858993459)) 4)) &&& 252645135) + (ushrI (((((a1 - ((ushrI a1 1) &&& 1431655765)) &&& 858993459) + ((ushrI (a1 - ((ushrI a1 1) &&& 1431655765)) 2) &&& 858993459)) + (ushrI (((a1 - ((ushrI a1 1) &&& 1431655765)) &&& 858993459) + ((ushrI (a1 - ((ushrI a1 1) &&& 1431655765)) 2) &&& 858993459)) 4)) &&& 252645135) 8)) + (ushrI ((((((a1 - ((ushrI a1 1) &&& 1431655765)) &&& 858993459) + ((ushrI (a1 - ((ushrI a1 1) &&& 1431655765)) 2) &&& 858993459)) + (ushrI (((a1 - ((ushrI a1 1) &&& 1431655765)) &&& 858993459) + ((ushrI (a1 - ((ushrI a1 1) &&& 1431655765)) 2) &&& 858993459)) 4)) &&& 252645135) + (ushrI (((((a1 - ((ushrI a1 1) &&& 1431655765)) &&& 858993459) + ((ushrI (a1 - ((ushrI a1 1) &&& 1431655765)) 2) &&& 858993459)) + (ushrI (((a1 - ((ushrI a1 1) &&& 1431655765)) &&& 858993459) + ((ushrI (a1 - ((ushrI a1 1) &&& 1431655765)) 2) &&& 858993459)) 4)) &&& 252645135) 8)) 16)))]) (S1 := [.inl ((((((((a1 - ((ushrI a1 1) &&& 1431655765)) &&& 858993459) + ((ushrI (a1 - ((ushrI a1 1) &&& 1431655765)) 2) &&& 858993459)) + (ushrI (((a1 - ((ushrI a1 1) &&& 1431655765)) &&& 858993459) + ((ushrI (a1 - ((ushrI a1 1) &&& 1431655765)) 2) &&& 858993459)) 4)) &&& 252645135) + (ushrI (((((a1 - ((ushrI a1 1) &&& 1431655765)) &&& 858993459) + ((ushrI (a1 - ((ushrI a1 1) &&& 1431655765)) 2) &&& 858993459)) + (ushrI (((a1 - ((ushrI a1 1) &&& 1431655765)) &&& 858993459) + ((ushrI (a1 - ((ushrI a1 1) &&& 1431655765)) 2) &&& 858993459)) 4)) &&& 252645135) 8)) + (ushrI ((((((a1 - ((ushrI a1 1) &&& 1431655765)) &&& 858993459) + ((ushrI (a1 - ((ushrI a1 1) &&& 1431655765)) 2) &&& 858993459)) + (ushrI (((a1 - ((ushrI a1 1) &&& 1431655765)) &&& 858993459) + ((ushrI (a1 - ((ushrI a1 1) &&& 1431655765)) 2) &&& 858993459)) 4)) &&& 252645135) + (ushrI (((((a1 - ((ushrI a1 1) &&& 1431655765)) &&& 858993459) + ((ushrI (a1 - ((ushrI a1 1) &&& 1431655765)) 2) &&& 858993459)) + (ushrI (((a1 - ((ushrI a1 1) &&& 1431655765)) &&& 858993459) + ((ushrI (a1 - ((ushrI a1 1) &&& 1431655765)) 2) &&& 858993459)) 4)) &&& 252645135) 8)) 16)) &&& 63)]) (w1 := w) (P := True) [(.iload_n 0, 0, 0, 0, 0), (.iload_n 0, 0, 0, 0, 0), (.iconst 1, 0, 0, 1, 0), (.iushr, 0, 0, 0, 0), (.ldc_w 265, 0, 0, 1431655765, 0), (.iand, 0, 0, 0, 0), (.isub, 0, 0, 0, 0), (.istore_n 0, 0, 0, 0, 0), (.iload_n 0, 0, 0, 0, 0), (.ldc_w 266, 0, 0, 858993459, 0), (.iand, 0, 0, 0, 0), (.iload_n 0, 0, 0, 0, 0), (.iconst 2, 0, 0, 2, 0), (.iushr, 0, 0, 0, 0), (.ldc_w 266, 0, 0, 858993459, 0), (.iand, 0, 0, 0, 0), (.iadd, 0, 0, 0, 0), (.istore_n 0, 0, 0, 0, 0), (.iload_n 0, 0, 0, 0, 0), (.iload_n 0, 0, 0, 0, 0), (.iconst 4, 0, 0, 4, 0), (.iushr, 0, 0, 0, 0), (.iadd, 0, 0, 0, 0), (.ldc_w 267, 0, 0, 252645135, 0), (.iand, 0, 0, 0, 0), (.istore_n 0, 0, 0, 0, 0), (.iload_n 0, 0, 0, 0, 0), (.iload_n 0, 0, 0, 0, 0), (.bipush 8, 0, 0, 8, 0), (.iushr, 0, 0, 0, 0), (.iadd, 0, 0, 0, 0), (.istore_n 0, 0, 0, 0, 0), (.iload_n 0, 0, 0, 0, 0), (.iload_n 0, 0, 0, 0, 0), (.bipush 16, 0, 0, 16, 0), (.iushr, 0, 0, 0, 0), (.iadd, 0, 0, 0, 0), (.istore_n 0, 0, 0, 0, 0), (.iload_n 0, 0, 0, 0, 0), (.bipush 63, 0, 0, 63, 0), (.iand, 0, 0, 0, 0)] (by decide +kernel) rfl trivial ?_
  exact GE_iret rfl (by decide +kernel)
abbrev mm_J9_floorMod : MI := (RJ9, cJ9_floorMod_7cf53, 3, (some .int), [], [], [])
noncomputable def f_J9_floorMod (a1 : Int32) (a2 : Int32) (w : Mem) : Option (Int32 × Mem) := if ¬ (a2 : Int32) = 0 then (if (a1 ^^^ a2) < 0 then (if (rmI a1 a2) = 0 then (some (rmI a1 a2, w)) else (some ((rmI a1 a2) + a2, w))) else (some (rmI a1 a2, w))) else none
set_option maxRecDepth 100000 in
theorem t_J9_floorMod (l : Launch) (X : XC) {N9 : Nat} (hN : 39 ≤ N9)  (a1 : Int32) (a2 : Int32) (w : Mem) : Ct l X 0 yJ9_floorMod_7cf53 cJ9_floorMod_7cf53 3 (some .int) emI [.inl a1, .inl a2] N9 flT w (f_J9_floorMod a1 a2 w) := by
  refine Ct_of (mi := mm_J9_floorMod) (mik_J9 _ _ _) me_J9_floorMod_7cf53 rfl (okAs_cons rfl (okAs_cons rfl okAs_nil)) (Nat.le_of_ble_eq_true rfl) ?_
  unfold f_J9_floorMod
  refine GE_chk (fun h1 => ?_)
  refine GE_run (flG_T hN) (pc1 := 7) (L1 := [some (.inl a1), some (.inl a2), some (.inl (rmI a1 a2))]) (S1 := [.inl (a1 ^^^ a2)]) (w1 := w) (P := (¬ (a2 : Int32) = 0) ∧ True) [(.iload_n 0, 0, 0, 0, 0), (.iload_n 1, 0, 0, 0, 0), (.irem, 0, 0, 0, 0), (.istore_n 2, 0, 0, 0, 0), (.iload_n 0, 0, 0, 0, 0), (.iload_n 1, 0, 0, 0, 0), (.ixor, 0, 0, 0, 0)] (by decide +kernel) rfl ⟨h1, trivial⟩ ?_
  refine GE_ifN (k := .ge) (off := 11) (tgt := 18) (by decide +kernel) (by decide) (cnd_ge _ _) (fun c2 => ?_) (fun c2 => ?_)
  · refine GE_run (flG_T hN) (pc1 := 19) (L1 := [some (.inl a1), some (.inl a2), some (.inl (rmI a1 a2))]) (S1 := [.inl (rmI a1 a2)]) (w1 := w) (P := True) [(.iload_n 2, 0, 0, 0, 0)] (by decide +kernel) rfl trivial ?_
    exact GE_iret rfl (by decide +kernel)
  · refine GE_run (flG_T hN) (pc1 := 11) (L1 := [some (.inl a1), some (.inl a2), some (.inl (rmI a1 a2))]) (S1 := [.inl (rmI a1 a2)]) (w1 := w) (P := True) [(.iload_n 2, 0, 0, 0, 0)] (by decide +kernel) rfl trivial ?_
    refine GE_if (k := .eq) (off := 7) (tgt := 18) (by decide +kernel) (by decide) (cnd_eq _ _) (fun c3 => ?_) (fun c3 => ?_)
    · refine GE_run (flG_T hN) (pc1 := 19) (L1 := [some (.inl a1), some (.inl a2), some (.inl (rmI a1 a2))]) (S1 := [.inl (rmI a1 a2)]) (w1 := w) (P := True) [(.iload_n 2, 0, 0, 0, 0)] (by decide +kernel) rfl trivial ?_
      exact GE_iret rfl (by decide +kernel)
    · refine GE_run (flG_T hN) (pc1 := 17) (L1 := [some (.inl a1), some (.inl a2), some (.inl (rmI a1 a2))]) (S1 := [.inl ((rmI a1 a2) + a2)]) (w1 := w) (P := True) [(.iload_n 2, 0, 0, 0, 0), (.iload_n 1, 0, 0, 0, 0), (.iadd, 0, 0, 0, 0)] (by decide +kernel) rfl trivial ?_
      exact GE_iret rfl (by decide +kernel)
abbrev mm_J9_max : MI := (RJ9, cJ9_max_7cf53, 2, (some .int), [], [], [])
noncomputable def f_J9_max (a1 : Int32) (a2 : Int32) (w : Mem) : Option (Int32 × Mem) := if a1 < a2 then (some (a2, w)) else (some (a1, w))
set_option maxRecDepth 100000 in
theorem t_J9_max (l : Launch) (X : XC) {N9 : Nat} (hN : 39 ≤ N9)  (a1 : Int32) (a2 : Int32) (w : Mem) : Ct l X 0 yJ9_max_7cf53 cJ9_max_7cf53 2 (some .int) emI [.inl a1, .inl a2] N9 flT w (f_J9_max a1 a2 w) := by
  refine Ct_of (mi := mm_J9_max) (mik_J9 _ _ _) me_J9_max_7cf53 rfl (okAs_cons rfl (okAs_cons rfl okAs_nil)) (Nat.le_of_ble_eq_true rfl) ?_
  unfold f_J9_max
  refine GE_run (flG_T hN) (pc1 := 2) (L1 := [some (.inl a1), some (.inl a2)]) (S1 := [.inl a2, .inl a1]) (w1 := w) (P := True) [(.iload_n 0, 0, 0, 0, 0), (.iload_n 1, 0, 0, 0, 0)] (by decide +kernel) rfl trivial ?_
  refine GE_icmp (k := .lt) (off := 7) (tgt := 9) (by decide +kernel) (by decide) (cnd_lt _ _) (fun c1 => ?_) (fun c1 => ?_)
  · refine GE_run (flG_T hN) (pc1 := 10) (L1 := [some (.inl a1), some (.inl a2)]) (S1 := [.inl a2]) (w1 := w) (P := True) [(.iload_n 1, 0, 0, 0, 0)] (by decide +kernel) rfl trivial ?_
    exact GE_iret rfl (by decide +kernel)
  · refine GE_run (flG_T hN) (pc1 := 10) (L1 := [some (.inl a1), some (.inl a2)]) (S1 := [.inl a1]) (w1 := w) (P := True) [(.iload_n 0, 0, 0, 0, 0), (.goto 4, 0, 0, 0, 0)] (by decide +kernel) rfl trivial ?_
    exact GE_iret rfl (by decide +kernel)
