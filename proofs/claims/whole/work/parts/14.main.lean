/-! the class, first half -/
abbrev mm_X4_sizeOf : MI := (RX4, cX4_sizeOf, 3, (some .int), ftp_X4.map (fun q => q.1), ctp_X4.map (fun q => q.1), clp_X4.map (fun q => q.1))
noncomputable def f_X4_sizeOf (a1 : Int32) (w : Mem) : Option (Int32 × Mem) := Option.elim (rowF a1) (some (0, w)) (fun z1 => some (w 2 z1 1, w))
set_option maxRecDepth 100000 in
theorem t_X4_sizeOf (l : Launch) (X : XC)  (a1 : Int32) (w : Mem) : Ct l X 1 yX4_sizeOf cX4_sizeOf 3 (some .int) emI [.inr (.inr (some (4, 0))), .inl a1] 57 flT w (f_X4_sizeOf a1 w) := by
  refine Ct_of (mi := mm_X4_sizeOf) (mik_X4 _ _ _) me_X4_sizeOf rfl (okAs_cons (by decide) (okAs_cons rfl okAs_nil)) (Nat.le_of_ble_eq_true rfl) ?_
  unfold f_X4_sizeOf
  refine GE_run flG_T (pc1 := 2) (L1 := [some (.inr (.inr (some (4, 0)))), some (.inl a1), none]) (S1 := [.inl a1, .inr (.inr (some (4, 0)))]) (w1 := w) (P := True) [(.aload_n 0, 0, 0, 0, 0), (.iload_n 1, 0, 0, 0, 0)] (by decide +kernel) rfl trivial ?_
  refine GE_callVAp (As := [.inl a1]) (k := 4) (i := 0) (S := []) (p_X4_rowAt l X a1 w) (by decide) ⟨me_X4_rowAt, mi_X4_rowAt, mv_X4_rowAt, lk_X4_175⟩ rfl (by decide +kernel) rfl (by decide) (by decide) (Nat.le_of_ble_eq_true rfl) ?_
  refine GE_run flG_T (pc1 := 7) (L1 := [some (.inr (.inr (some (4, 0)))), some (.inl a1), some (.inr (.inr ((rowF a1).map fun z => (2, z))))]) (S1 := [.inr (.inr ((rowF a1).map fun z => (2, z)))]) (w1 := w) (P := True) [(.astore_n 2, 0, 0, 0, 0), (.aload_n 2, 0, 0, 0, 0)] (by decide +kernel) rfl trivial ?_
  cases hz1 : rowF a1 with
  | none =>
    simp only [Option.elim_none, Option.map_none]
    refine GE_nonnull0 (off := 7) (by decide +kernel) ?_
    refine GE_run flG_T (pc1 := 18) (L1 := [some (.inr (.inr (some (4, 0)))), some (.inl a1), some (.inr (.inr none))]) (S1 := [.inl 0]) (w1 := w) (P := True) [(.iconst 0, 0, 0, 0, 0), (.goto 7, 0, 0, 0, 0)] (by decide +kernel) rfl trivial ?_
    exact GE_iret rfl (by decide +kernel)
  | some z1 =>
    have bz1 := rowF_lt hz1
    refine GE_eq (Option.elim_some _ _ _) ?_
    refine GE_nonnull1 (off := 7) (tgt := 14) (by decide +kernel) (by decide) ?_
    refine GE_run flG_T (pc1 := 18) (L1 := [some (.inr (.inr (some (4, 0)))), some (.inl a1), some (.inr (.inr (some (2, z1))))]) (S1 := [.inl (w 2 z1 1)]) (w1 := w) (P := True) [(.aload_n 2, 0, 0, 0, 0), (.getfield 189, 2, 1, 0, 0)] (by decide +kernel) rfl trivial ?_
    exact GE_iret rfl (by decide +kernel)
abbrev mm_X4_refusedRow : MI := (RX4, cX4_refusedRow, 3, (some .int), ftp_X4.map (fun q => q.1), ctp_X4.map (fun q => q.1), clp_X4.map (fun q => q.1))
noncomputable def f_X4_refusedRow (a1 : Int32) (w : Mem) : Option (Int32 × Mem) := Option.elim (rowF a1) (some ((-2), w)) (fun z1 => if (w 2 z1 0) = (-1) then (some ((-11), w)) else (Option.bind (f_X2_tellsThings z1 w) (fun r3 => if r3.1 = 0 then (some ((-2), r3.2)) else (some (0, r3.2)))))
set_option maxRecDepth 100000 in
theorem t_X4_refusedRow (l : Launch) (X : XC)  (a1 : Int32) (w : Mem) : Ct l X 2 yX4_refusedRow cX4_refusedRow 3 (some .int) emI [.inr (.inr (some (4, 0))), .inl a1] 57 flT w (f_X4_refusedRow a1 w) := by
  refine Ct_of (mi := mm_X4_refusedRow) (mik_X4 _ _ _) me_X4_refusedRow rfl (okAs_cons (by decide) (okAs_cons rfl okAs_nil)) (Nat.le_of_ble_eq_true rfl) ?_
  unfold f_X4_refusedRow
  refine GE_run flG_T (pc1 := 2) (L1 := [some (.inr (.inr (some (4, 0)))), some (.inl a1), none]) (S1 := [.inl a1, .inr (.inr (some (4, 0)))]) (w1 := w) (P := True) [(.aload_n 0, 0, 0, 0, 0), (.iload_n 1, 0, 0, 0, 0)] (by decide +kernel) rfl trivial ?_
  refine GE_callVAp (As := [.inl a1]) (k := 4) (i := 0) (S := []) (p_X4_rowAt l X a1 w) (by decide) ⟨me_X4_rowAt, mi_X4_rowAt, mv_X4_rowAt, lk_X4_175⟩ rfl (by decide +kernel) rfl (by decide) (by decide) (Nat.le_of_ble_eq_true rfl) ?_
  refine GE_run flG_T (pc1 := 7) (L1 := [some (.inr (.inr (some (4, 0)))), some (.inl a1), some (.inr (.inr ((rowF a1).map fun z => (2, z))))]) (S1 := [.inr (.inr ((rowF a1).map fun z => (2, z)))]) (w1 := w) (P := True) [(.astore_n 2, 0, 0, 0, 0), (.aload_n 2, 0, 0, 0, 0)] (by decide +kernel) rfl trivial ?_
  cases hz1 : rowF a1 with
  | none =>
    simp only [Option.elim_none, Option.map_none]
    refine GE_nonnull0 (off := 6) (by decide +kernel) ?_
    refine GE_run flG_T (pc1 := 12) (L1 := [some (.inr (.inr (some (4, 0)))), some (.inl a1), some (.inr (.inr none))]) (S1 := [.inl (-2)]) (w1 := w) (P := True) [(.bipush (-2), 0, 0, -2, 0)] (by decide +kernel) rfl trivial ?_
    exact GE_iret rfl (by decide +kernel)
  | some z1 =>
    have bz1 := rowF_lt hz1
    refine GE_eq (Option.elim_some _ _ _) ?_
    refine GE_nonnull1 (off := 6) (tgt := 13) (by decide +kernel) (by decide) ?_
    refine GE_run flG_T (pc1 := 18) (L1 := [some (.inr (.inr (some (4, 0)))), some (.inl a1), some (.inr (.inr (some (2, z1))))]) (S1 := [.inl (-1), .inl (w 2 z1 0)]) (w1 := w) (P := True) [(.aload_n 2, 0, 0, 0, 0), (.getfield 179, 2, 0, 0, 0), (.iconst (-1), 0, 0, -1, 0)] (by decide +kernel) rfl trivial ?_
    refine GE_icmpN (k := .ne) (off := 6) (tgt := 24) (by decide +kernel) (by decide) (cnd_ne _ _) (fun c2 => ?_) (fun c2 => ?_)
    · refine GE_run flG_T (pc1 := 25) (L1 := [some (.inr (.inr (some (4, 0)))), some (.inl a1), some (.inr (.inr (some (2, z1))))]) (S1 := [.inr (.inr (some (2, z1)))]) (w1 := w) (P := True) [(.aload_n 2, 0, 0, 0, 0)] (by decide +kernel) rfl trivial ?_
      refine GE_callVI (As := []) (k := 2) (i := z1) (S := []) (t_X2_tellsThings l X z1 bz1 w) (by decide) ⟨me_X2_tellsThings, mi_X2_tellsThings, mv_X2_tellsThings, lk_X4_182⟩ rfl (by decide +kernel) rfl (by decide) (by decide) (Nat.le_of_ble_eq_true rfl) (fun r3 _ => ?_)
      refine GE_if (k := .eq) (off := 7) (tgt := 35) (by decide +kernel) (by decide) (cnd_eq _ _) (fun c4 => ?_) (fun c4 => ?_)
      · refine GE_run flG_T (pc1 := 37) (L1 := [some (.inr (.inr (some (4, 0)))), some (.inl a1), some (.inr (.inr (some (2, z1))))]) (S1 := [.inl (-2)]) (w1 := r3.2) (P := True) [(.bipush (-2), 0, 0, -2, 0)] (by decide +kernel) rfl trivial ?_
        exact GE_iret rfl (by decide +kernel)
      · refine GE_run flG_T (pc1 := 37) (L1 := [some (.inr (.inr (some (4, 0)))), some (.inl a1), some (.inr (.inr (some (2, z1))))]) (S1 := [.inl 0]) (w1 := r3.2) (P := True) [(.iconst 0, 0, 0, 0, 0), (.goto 5, 0, 0, 0, 0)] (by decide +kernel) rfl trivial ?_
        exact GE_iret rfl (by decide +kernel)
    · refine GE_run flG_T (pc1 := 23) (L1 := [some (.inr (.inr (some (4, 0)))), some (.inl a1), some (.inr (.inr (some (2, z1))))]) (S1 := [.inl (-11)]) (w1 := w) (P := True) [(.bipush (-11), 0, 0, -11, 0)] (by decide +kernel) rfl trivial ?_
      exact GE_iret rfl (by decide +kernel)
abbrev mm_X4_refusedSeason : MI := (RX4, cX4_refusedSeason, 4, (some .int), ftp_X4.map (fun q => q.1), ctp_X4.map (fun q => q.1), clp_X4.map (fun q => q.1))
noncomputable def f_X4_refusedSeason (a1 : Int32) (a2 : Int32) (w : Mem) : Option (Int32 × Mem) := Option.bind (f_X4_refusedRow a1 w) (fun r1 => if r1.1 = 0 then (if (hasF a2 (r1.2 0 0 2)) = 0 then (some ((-5), r1.2)) else (some (0, r1.2))) else (some (r1.1, r1.2)))
set_option maxRecDepth 100000 in
theorem t_X4_refusedSeason (l : Launch) (X : XC)  (a1 : Int32) (a2 : Int32) (w : Mem) : Ct l X 3 yX4_refusedSeason cX4_refusedSeason 4 (some .int) emI [.inr (.inr (some (4, 0))), .inl a1, .inl a2] 57 flT w (f_X4_refusedSeason a1 a2 w) := by
  refine Ct_of (mi := mm_X4_refusedSeason) (mik_X4 _ _ _) me_X4_refusedSeason rfl (okAs_cons (by decide) (okAs_cons rfl (okAs_cons rfl okAs_nil))) (Nat.le_of_ble_eq_true rfl) ?_
  unfold f_X4_refusedSeason
  refine GE_run flG_T (pc1 := 2) (L1 := [some (.inr (.inr (some (4, 0)))), some (.inl a1), some (.inl a2), none]) (S1 := [.inl a1, .inr (.inr (some (4, 0)))]) (w1 := w) (P := True) [(.aload_n 0, 0, 0, 0, 0), (.iload_n 1, 0, 0, 0, 0)] (by decide +kernel) rfl trivial ?_
  refine GE_callVI (As := [.inl a1]) (k := 4) (i := 0) (S := []) (t_X4_refusedRow l X a1 w) (by decide) ⟨me_X4_refusedRow, mi_X4_refusedRow, mv_X4_refusedRow, lk_X4_186⟩ rfl (by decide +kernel) rfl (by decide) (by decide) (Nat.le_of_ble_eq_true rfl) (fun r1 _ => ?_)
  refine GE_run flG_T (pc1 := 7) (L1 := [some (.inr (.inr (some (4, 0)))), some (.inl a1), some (.inl a2), some (.inl r1.1)]) (S1 := [.inl r1.1]) (w1 := r1.2) (P := True) [(.istore_n 3, 0, 0, 0, 0), (.iload_n 3, 0, 0, 0, 0)] (by decide +kernel) rfl trivial ?_
  refine GE_if (k := .eq) (off := 5) (tgt := 12) (by decide +kernel) (by decide) (cnd_eq _ _) (fun c2 => ?_) (fun c2 => ?_)
  · refine GE_run flG_T (pc1 := 17) (L1 := [some (.inr (.inr (some (4, 0)))), some (.inl a1), some (.inl a2), some (.inl r1.1)]) (S1 := [.inl a2, .inr (.inr (some (0, 0)))]) (w1 := r1.2) (P := True) [(.aload_n 0, 0, 0, 0, 0), (.getfield 28, 4, 2, 0, 0), (.iload_n 2, 0, 0, 0, 0)] (by decide +kernel) rfl trivial ?_
    refine GE_callVIp (As := [.inl a2]) (k := 0) (i := 0) (S := []) (p_X0_has l X 0 a2 (by decide) r1.2) (by decide) ⟨me_X0_has, mi_X0_has, mv_X0_has, lk_X4_95⟩ rfl (by decide +kernel) rfl (by decide) (by decide) (Nat.le_of_ble_eq_true rfl) ?_
    refine GE_if (k := .eq) (off := 7) (tgt := 27) (by decide +kernel) (by decide) (cnd_eq _ _) (fun c3 => ?_) (fun c3 => ?_)
    · refine GE_run flG_T (pc1 := 29) (L1 := [some (.inr (.inr (some (4, 0)))), some (.inl a1), some (.inl a2), some (.inl r1.1)]) (S1 := [.inl (-5)]) (w1 := r1.2) (P := True) [(.bipush (-5), 0, 0, -5, 0)] (by decide +kernel) rfl trivial ?_
      exact GE_iret rfl (by decide +kernel)
    · refine GE_run flG_T (pc1 := 29) (L1 := [some (.inr (.inr (some (4, 0)))), some (.inl a1), some (.inl a2), some (.inl r1.1)]) (S1 := [.inl 0]) (w1 := r1.2) (P := True) [(.iconst 0, 0, 0, 0, 0), (.goto 5, 0, 0, 0, 0)] (by decide +kernel) rfl trivial ?_
      exact GE_iret rfl (by decide +kernel)
  · refine GE_run flG_T (pc1 := 11) (L1 := [some (.inr (.inr (some (4, 0)))), some (.inl a1), some (.inl a2), some (.inl r1.1)]) (S1 := [.inl r1.1]) (w1 := r1.2) (P := True) [(.iload_n 3, 0, 0, 0, 0)] (by decide +kernel) rfl trivial ?_
    exact GE_iret rfl (by decide +kernel)
abbrev mm_X4_goes : MI := (RX4, cX4_goes, 7, (some .int), ftp_X4.map (fun q => q.1), ctp_X4.map (fun q => q.1), clp_X4.map (fun q => q.1))
noncomputable def j_X4_goes_55 (i1 : Nat) (z1 : Nat) (kl24 : Int32 → Int32 → Mem → Option (Int32 × Mem)) (x3 : Int32) (x5 : Int32) (x6 : Int32) (w : Mem) : Option (Int32 × Mem) := Option.bind (f_X0_washes i1 w) (fun r5 => kl24 x5 (x6 + 1) r5.2)
set_option maxRecDepth 100000 in
theorem j_X4_goes_55_ok (l : Launch) (X : XC) (i1 : Nat) (z1 : Nat) (kl24 : Int32 → Int32 → Mem → Option (Int32 × Mem)) (x3 : Int32) (x5 : Int32) (x6 : Int32) (hi1 : i1 < 3) (bz1 : z1 < 4) (ih : ∀ (x5 : Int32) (x6 : Int32) (w : Mem), GE l X mm_X4_goes 5 emI 57 flT (kl24 x5 x6 w) 24 [none, some (.inr (.inr (some (0, i1)))), none, some (.inl x3), some (.inr (.inr (some (2, z1)))), some (.inl x5), some (.inl x6)] [] w) (w : Mem) : GE l X mm_X4_goes 5 emI 57 flT (j_X4_goes_55 i1 z1 kl24 x3 x5 x6 w) 55 [none, some (.inr (.inr (some (0, i1)))), none, some (.inl x3), some (.inr (.inr (some (2, z1)))), some (.inl x5), some (.inl x6)] [] w := by
  unfold j_X4_goes_55
  refine GE_run flG_T (pc1 := 56) (L1 := [none, some (.inr (.inr (some (0, i1)))), none, some (.inl x3), some (.inr (.inr (some (2, z1)))), some (.inl x5), some (.inl x6)]) (S1 := [.inr (.inr (some (0, i1)))]) (w1 := w) (P := True) [(.aload_n 1, 0, 0, 0, 0)] (by decide +kernel) rfl trivial ?_
  refine GE_callVI (As := []) (k := 0) (i := i1) (S := []) (t_X0_washes l X i1 hi1 w) (by decide) ⟨me_X0_washes, mi_X0_washes, mv_X0_washes, lk_X4_153⟩ rfl (by decide +kernel) rfl (by decide) (by decide) (Nat.le_of_ble_eq_true rfl) (fun r5 _ => ?_)
  refine GE_run flG_T (pc1 := 24) (L1 := [none, some (.inr (.inr (some (0, i1)))), none, some (.inl x3), some (.inr (.inr (some (2, z1)))), some (.inl x5), some (.inl (x6 + 1))]) (S1 := []) (w1 := r5.2) (P := True) [(.pop, 0, 0, 0, 0), (.iinc 6 1, 0, 0, 1, 0), (.goto (-39), 0, 0, 0, 0)] (by decide +kernel) rfl trivial ?_
  exact GE_weak [false, true, false, true, true, true, true] (ih x5 (x6 + 1) r5.2)
noncomputable def h_X4_goes_24 (i1 : Nat) (z1 : Nat) (x3 : Int32) (k66 : Int32 → Mem → Option (Int32 × Mem)) : Nat → Int32 → Int32 → Mem → Option (Int32 × Mem)
  | 0, _, _, _ => none
  | n + 1, x5, x6, w => if x6 < (w 2 z1 1) then (Option.bind (f_X0_landing i1 x3 (atV w 19 z1 x6) w) (fun r3 => if r3.1 < 0 then (j_X4_goes_55 i1 z1 (h_X4_goes_24 i1 z1 x3 k66 n) x3 (x5 + 1) x6 r3.2) else (j_X4_goes_55 i1 z1 (h_X4_goes_24 i1 z1 x3 k66 n) x3 x5 x6 r3.2))) else (k66 x5 w)
set_option maxRecDepth 100000 in
theorem h_X4_goes_24_ok (l : Launch) (X : XC) (i1 : Nat) (z1 : Nat) (x3 : Int32) (k66 : Int32 → Mem → Option (Int32 × Mem)) (hi1 : i1 < 3) (bz1 : z1 < 4) (hk66 : ∀ (x5 : Int32) (w : Mem), GE l X mm_X4_goes 5 emI 57 flT (k66 x5 w) 66 [none, none, none, none, none, some (.inl x5), none] [] w) : ∀ (n : Nat) (x5 : Int32) (x6 : Int32) (w : Mem), GE l X mm_X4_goes 5 emI 57 flT ((h_X4_goes_24 i1 z1 x3 k66 n) x5 x6 w) 24 [none, some (.inr (.inr (some (0, i1)))), none, some (.inl x3), some (.inr (.inr (some (2, z1)))), some (.inl x5), some (.inl x6)] [] w := by
  intro n
  induction n with
  | zero => intro x5 x6 w; exact GE_none
  | succ n ih =>
    intro x5 x6 w
    unfold h_X4_goes_24
    refine GE_run flG_T (pc1 := 31) (L1 := [none, some (.inr (.inr (some (0, i1)))), none, some (.inl x3), some (.inr (.inr (some (2, z1)))), some (.inl x5), some (.inl x6)]) (S1 := [.inl (w 2 z1 1), .inl x6]) (w1 := w) (P := True) [(.iload 6, 0, 0, 0, 0), (.aload 4, 0, 0, 0, 0), (.getfield 189, 2, 1, 0, 0)] (by decide +kernel) rfl trivial ?_
    refine GE_icmpN (k := .ge) (off := 35) (tgt := 66) (by decide +kernel) (by decide) (cnd_ge _ _) (fun c2 => ?_) (fun c2 => ?_)
    · exact GE_weak [false, false, false, false, false, true, false] (hk66 x5 w)
    · refine GE_run flG_T (pc1 := 43) (L1 := [none, some (.inr (.inr (some (0, i1)))), none, some (.inl x3), some (.inr (.inr (some (2, z1)))), some (.inl x5), some (.inl x6)]) (S1 := [.inl x6, .inr (.inr (some (19, z1))), .inl x3, .inr (.inr (some (0, i1)))]) (w1 := w) (P := True) [(.aload_n 1, 0, 0, 0, 0), (.iload_n 3, 0, 0, 0, 0), (.aload 4, 0, 0, 0, 0), (.getfield 190, 2, 2, 0, 0), (.iload 6, 0, 0, 0, 0)] (by decide +kernel) rfl trivial ?_
      refine GE_callSIp (As := [.inr (.inr (some (19, z1))), .inl x6]) (S := [.inl x3, .inr (.inr (some (0, i1)))]) (p_X4_at l X 19 z1 x6 (by decide) (ok_sheet_19 bz1) w) ⟨me_X4_at, ms_X4_at, lk_X4_120⟩ (by decide +kernel) rfl (by decide) (by decide) (Nat.le_of_ble_eq_true rfl) ?_
      refine GE_callVI (As := [.inl x3, .inl (atV w 19 z1 x6)]) (k := 0) (i := i1) (S := []) (t_X0_landing l X i1 x3 (atV w 19 z1 x6) hi1 w) (by decide) ⟨me_X0_landing, mi_X0_landing, mv_X0_landing, lk_X4_143⟩ rfl (by decide +kernel) rfl (by decide) (by decide) (Nat.le_of_ble_eq_true rfl) (fun r3 _ => ?_)
      refine GE_ifN (k := .ge) (off := 6) (tgt := 55) (by decide +kernel) (by decide) (cnd_ge _ _) (fun c4 => ?_) (fun c4 => ?_)
      · exact GE_weak [false, true, false, true, true, true, true] (j_X4_goes_55_ok l X i1 z1 (h_X4_goes_24 i1 z1 x3 k66 n) x3 x5 x6 hi1 bz1 ih r3.2)
      · refine GE_run flG_T (pc1 := 55) (L1 := [none, some (.inr (.inr (some (0, i1)))), none, some (.inl x3), some (.inr (.inr (some (2, z1)))), some (.inl (x5 + 1)), some (.inl x6)]) (S1 := []) (w1 := r3.2) (P := True) [(.iinc 5 1, 0, 0, 1, 0)] (by decide +kernel) rfl trivial ?_
        exact GE_weak [false, true, false, true, true, true, true] (j_X4_goes_55_ok l X i1 z1 (h_X4_goes_24 i1 z1 x3 k66 n) x3 (x5 + 1) x6 hi1 bz1 ih r3.2)
noncomputable def f_X4_goes (i1 : Nat) (a2 : Int32) (a3 : Int32) (w : Mem) : Option (Int32 × Mem) := Option.elim (rowF a2) (some (0, w)) (fun z1 => h_X4_goes_24 i1 z1 a3 (fun x5_6 w7 => some (x5_6, w7)) FU 0 0 w)
set_option maxRecDepth 100000 in
theorem t_X4_goes (l : Launch) (X : XC)  (i1 : Nat) (a2 : Int32) (a3 : Int32) (hi1 : i1 < 3) (w : Mem) : Ct l X 5 yX4_goes cX4_goes 7 (some .int) emI [.inr (.inr (some (4, 0))), .inr (.inr (some (0, i1))), .inl a2, .inl a3] 57 flT w (f_X4_goes i1 a2 a3 w) := by
  refine Ct_of (mi := mm_X4_goes) (mik_X4 _ _ _) me_X4_goes rfl (okAs_cons (by decide) (okAs_cons (ok_coast_0 hi1) (okAs_cons rfl (okAs_cons rfl okAs_nil)))) (Nat.le_of_ble_eq_true rfl) ?_
  unfold f_X4_goes
  refine GE_run flG_T (pc1 := 2) (L1 := [some (.inr (.inr (some (4, 0)))), some (.inr (.inr (some (0, i1)))), some (.inl a2), some (.inl a3), none, none, none]) (S1 := [.inl a2, .inr (.inr (some (4, 0)))]) (w1 := w) (P := True) [(.aload_n 0, 0, 0, 0, 0), (.iload_n 2, 0, 0, 0, 0)] (by decide +kernel) rfl trivial ?_
  refine GE_callVAp (As := [.inl a2]) (k := 4) (i := 0) (S := []) (p_X4_rowAt l X a2 w) (by decide) ⟨me_X4_rowAt, mi_X4_rowAt, mv_X4_rowAt, lk_X4_175⟩ rfl (by decide +kernel) rfl (by decide) (by decide) (Nat.le_of_ble_eq_true rfl) ?_
  refine GE_run flG_T (pc1 := 9) (L1 := [some (.inr (.inr (some (4, 0)))), some (.inr (.inr (some (0, i1)))), some (.inl a2), some (.inl a3), some (.inr (.inr ((rowF a2).map fun z => (2, z)))), none, none]) (S1 := [.inr (.inr ((rowF a2).map fun z => (2, z)))]) (w1 := w) (P := True) [(.astore 4, 0, 0, 0, 0), (.aload 4, 0, 0, 0, 0)] (by decide +kernel) rfl trivial ?_
  cases hz1 : rowF a2 with
  | none =>
    simp only [Option.elim_none, Option.map_none]
    refine GE_null0 (off := 7) (tgt := 16) (by decide +kernel) (by decide) ?_
    refine GE_run flG_T (pc1 := 17) (L1 := [some (.inr (.inr (some (4, 0)))), some (.inr (.inr (some (0, i1)))), some (.inl a2), some (.inl a3), some (.inr (.inr none)), none, none]) (S1 := [.inl 0]) (w1 := w) (P := True) [(.iconst 0, 0, 0, 0, 0)] (by decide +kernel) rfl trivial ?_
    exact GE_iret rfl (by decide +kernel)
  | some z1 =>
    have bz1 := rowF_lt hz1
    refine GE_eq (Option.elim_some _ _ _) ?_
    refine GE_null1 (off := 7) (by decide +kernel) ?_
    refine GE_run flG_T (pc1 := 13) (L1 := [some (.inr (.inr (some (4, 0)))), some (.inr (.inr (some (0, i1)))), some (.inl a2), some (.inl a3), some (.inr (.inr (some (2, z1)))), none, none]) (S1 := [.inr (.inr (some (0, i1)))]) (w1 := w) (P := True) [(.aload_n 1, 0, 0, 0, 0)] (by decide +kernel) rfl trivial ?_
    refine GE_nonnull1 (off := 5) (tgt := 18) (by decide +kernel) (by decide) ?_
    refine GE_run flG_T (pc1 := 24) (L1 := [some (.inr (.inr (some (4, 0)))), some (.inr (.inr (some (0, i1)))), some (.inl a2), some (.inl a3), some (.inr (.inr (some (2, z1)))), some (.inl 0), some (.inl 0)]) (S1 := []) (w1 := w) (P := True) [(.iconst 0, 0, 0, 0, 0), (.istore 5, 0, 0, 0, 0), (.iconst 0, 0, 0, 0, 0), (.istore 6, 0, 0, 0, 0)] (by decide +kernel) rfl trivial ?_
    refine GE_weak [false, true, false, true, true, true, true] (h_X4_goes_24_ok l X i1 z1 a3 _ hi1 bz1 ?_ FU 0 0 w)
    · intro x5_6 w7
      refine GE_run flG_T (pc1 := 68) (L1 := [none, none, none, none, none, some (.inl x5_6), none]) (S1 := [.inl x5_6]) (w1 := w7) (P := True) [(.iload 5, 0, 0, 0, 0)] (by decide +kernel) rfl trivial ?_
      exact GE_iret rfl (by decide +kernel)
abbrev mm_X4_refusedTelling : MI := (RX4, cX4_refusedTelling, 5, (some .int), ftp_X4.map (fun q => q.1), ctp_X4.map (fun q => q.1), clp_X4.map (fun q => q.1))
noncomputable def f_X4_refusedTelling (a1 : Int32) (a2 : Int32) (w : Mem) : Option (Int32 × Mem) := Option.elim (rowF a2) (some ((-2), w)) (fun z1 => Option.bind (f_X4_refusedRow a1 w) (fun r2 => if r2.1 = 0 then (if (r2.2 2 z1 0) = (-1) then (some ((-11), r2.2)) else (Option.bind (f_X4_sizeOf a1 r2.2) (fun r5 => if (r2.2 2 z1 1) ≤ r5.1 then (some (0, r5.2)) else (some ((-2), r5.2))))) else (some (r2.1, r2.2))))
set_option maxRecDepth 100000 in
theorem t_X4_refusedTelling (l : Launch) (X : XC)  (a1 : Int32) (a2 : Int32) (w : Mem) : Ct l X 3 yX4_refusedTelling cX4_refusedTelling 5 (some .int) emI [.inr (.inr (some (4, 0))), .inl a1, .inl a2] 57 flT w (f_X4_refusedTelling a1 a2 w) := by
  refine Ct_of (mi := mm_X4_refusedTelling) (mik_X4 _ _ _) me_X4_refusedTelling rfl (okAs_cons (by decide) (okAs_cons rfl (okAs_cons rfl okAs_nil))) (Nat.le_of_ble_eq_true rfl) ?_
  unfold f_X4_refusedTelling
  refine GE_run flG_T (pc1 := 2) (L1 := [some (.inr (.inr (some (4, 0)))), some (.inl a1), some (.inl a2), none, none]) (S1 := [.inl a2, .inr (.inr (some (4, 0)))]) (w1 := w) (P := True) [(.aload_n 0, 0, 0, 0, 0), (.iload_n 2, 0, 0, 0, 0)] (by decide +kernel) rfl trivial ?_
  refine GE_callVAp (As := [.inl a2]) (k := 4) (i := 0) (S := []) (p_X4_rowAt l X a2 w) (by decide) ⟨me_X4_rowAt, mi_X4_rowAt, mv_X4_rowAt, lk_X4_175⟩ rfl (by decide +kernel) rfl (by decide) (by decide) (Nat.le_of_ble_eq_true rfl) ?_
  refine GE_run flG_T (pc1 := 7) (L1 := [some (.inr (.inr (some (4, 0)))), some (.inl a1), some (.inl a2), some (.inr (.inr ((rowF a2).map fun z => (2, z)))), none]) (S1 := [.inr (.inr ((rowF a2).map fun z => (2, z)))]) (w1 := w) (P := True) [(.astore_n 3, 0, 0, 0, 0), (.aload_n 3, 0, 0, 0, 0)] (by decide +kernel) rfl trivial ?_
  cases hz1 : rowF a2 with
  | none =>
    simp only [Option.elim_none, Option.map_none]
    refine GE_nonnull0 (off := 6) (by decide +kernel) ?_
    refine GE_run flG_T (pc1 := 12) (L1 := [some (.inr (.inr (some (4, 0)))), some (.inl a1), some (.inl a2), some (.inr (.inr none)), none]) (S1 := [.inl (-2)]) (w1 := w) (P := True) [(.bipush (-2), 0, 0, -2, 0)] (by decide +kernel) rfl trivial ?_
    exact GE_iret rfl (by decide +kernel)
  | some z1 =>
    have bz1 := rowF_lt hz1
    refine GE_eq (Option.elim_some _ _ _) ?_
    refine GE_nonnull1 (off := 6) (tgt := 13) (by decide +kernel) (by decide) ?_
    refine GE_run flG_T (pc1 := 15) (L1 := [some (.inr (.inr (some (4, 0)))), some (.inl a1), some (.inl a2), some (.inr (.inr (some (2, z1)))), none]) (S1 := [.inl a1, .inr (.inr (some (4, 0)))]) (w1 := w) (P := True) [(.aload_n 0, 0, 0, 0, 0), (.iload_n 1, 0, 0, 0, 0)] (by decide +kernel) rfl trivial ?_
    refine GE_callVI (As := [.inl a1]) (k := 4) (i := 0) (S := []) (t_X4_refusedRow l X a1 w) (by decide) ⟨me_X4_refusedRow, mi_X4_refusedRow, mv_X4_refusedRow, lk_X4_186⟩ rfl (by decide +kernel) rfl (by decide) (by decide) (Nat.le_of_ble_eq_true rfl) (fun r2 _ => ?_)
    refine GE_run flG_T (pc1 := 22) (L1 := [some (.inr (.inr (some (4, 0)))), some (.inl a1), some (.inl a2), some (.inr (.inr (some (2, z1)))), some (.inl r2.1)]) (S1 := [.inl r2.1]) (w1 := r2.2) (P := True) [(.istore 4, 0, 0, 0, 0), (.iload 4, 0, 0, 0, 0)] (by decide +kernel) rfl trivial ?_
    refine GE_if (k := .eq) (off := 6) (tgt := 28) (by decide +kernel) (by decide) (cnd_eq _ _) (fun c3 => ?_) (fun c3 => ?_)
    · refine GE_run flG_T (pc1 := 33) (L1 := [some (.inr (.inr (some (4, 0)))), some (.inl a1), some (.inl a2), some (.inr (.inr (some (2, z1)))), some (.inl r2.1)]) (S1 := [.inl (-1), .inl (r2.2 2 z1 0)]) (w1 := r2.2) (P := True) [(.aload_n 3, 0, 0, 0, 0), (.getfield 179, 2, 0, 0, 0), (.iconst (-1), 0, 0, -1, 0)] (by decide +kernel) rfl trivial ?_
      refine GE_icmpN (k := .ne) (off := 6) (tgt := 39) (by decide +kernel) (by decide) (cnd_ne _ _) (fun c4 => ?_) (fun c4 => ?_)
      · refine GE_run flG_T (pc1 := 45) (L1 := [some (.inr (.inr (some (4, 0)))), some (.inl a1), some (.inl a2), some (.inr (.inr (some (2, z1)))), some (.inl r2.1)]) (S1 := [.inl a1, .inr (.inr (some (4, 0))), .inl (r2.2 2 z1 1)]) (w1 := r2.2) (P := True) [(.aload_n 3, 0, 0, 0, 0), (.getfield 189, 2, 1, 0, 0), (.aload_n 0, 0, 0, 0, 0), (.iload_n 1, 0, 0, 0, 0)] (by decide +kernel) rfl trivial ?_
        refine GE_callVI (As := [.inl a1]) (k := 4) (i := 0) (S := [.inl (r2.2 2 z1 1)]) (t_X4_sizeOf l X a1 r2.2) (by decide) ⟨me_X4_sizeOf, mi_X4_sizeOf, mv_X4_sizeOf, lk_X4_172⟩ rfl (by decide +kernel) rfl (by decide) (by decide) (Nat.le_of_ble_eq_true rfl) (fun r5 _ => ?_)
        refine GE_icmp (k := .le) (off := 8) (tgt := 56) (by decide +kernel) (by decide) (cnd_le _ _) (fun c6 => ?_) (fun c6 => ?_)
        · refine GE_run flG_T (pc1 := 57) (L1 := [some (.inr (.inr (some (4, 0)))), some (.inl a1), some (.inl a2), some (.inr (.inr (some (2, z1)))), some (.inl r2.1)]) (S1 := [.inl 0]) (w1 := r5.2) (P := True) [(.iconst 0, 0, 0, 0, 0)] (by decide +kernel) rfl trivial ?_
          exact GE_iret rfl (by decide +kernel)
        · refine GE_run flG_T (pc1 := 57) (L1 := [some (.inr (.inr (some (4, 0)))), some (.inl a1), some (.inl a2), some (.inr (.inr (some (2, z1)))), some (.inl r2.1)]) (S1 := [.inl (-2)]) (w1 := r5.2) (P := True) [(.bipush (-2), 0, 0, -2, 0), (.goto 4, 0, 0, 0, 0)] (by decide +kernel) rfl trivial ?_
          exact GE_iret rfl (by decide +kernel)
      · refine GE_run flG_T (pc1 := 38) (L1 := [some (.inr (.inr (some (4, 0)))), some (.inl a1), some (.inl a2), some (.inr (.inr (some (2, z1)))), some (.inl r2.1)]) (S1 := [.inl (-11)]) (w1 := r2.2) (P := True) [(.bipush (-11), 0, 0, -11, 0)] (by decide +kernel) rfl trivial ?_
        exact GE_iret rfl (by decide +kernel)
    · refine GE_run flG_T (pc1 := 27) (L1 := [some (.inr (.inr (some (4, 0)))), some (.inl a1), some (.inl a2), some (.inr (.inr (some (2, z1)))), some (.inl r2.1)]) (S1 := [.inl r2.1]) (w1 := r2.2) (P := True) [(.iload 4, 0, 0, 0, 0)] (by decide +kernel) rfl trivial ?_
      exact GE_iret rfl (by decide +kernel)
abbrev mm_X4_refusedTold : MI := (RX4, cX4_refusedTold, 5, (some .int), ftp_X4.map (fun q => q.1), ctp_X4.map (fun q => q.1), clp_X4.map (fun q => q.1))
noncomputable def f_X4_refusedTold (a1 : Int32) (a2 : Int32) (a3 : Int32) (w : Mem) : Option (Int32 × Mem) := Option.bind (f_X4_refusedTelling a1 a2 w) (fun r1 => if r1.1 = 0 then (if (hasF a3 (r1.2 0 0 2)) = 0 then (some ((-5), r1.2)) else (some (0, r1.2))) else (some (r1.1, r1.2)))
set_option maxRecDepth 100000 in
theorem t_X4_refusedTold (l : Launch) (X : XC)  (a1 : Int32) (a2 : Int32) (a3 : Int32) (w : Mem) : Ct l X 4 yX4_refusedTold cX4_refusedTold 5 (some .int) emI [.inr (.inr (some (4, 0))), .inl a1, .inl a2, .inl a3] 57 flT w (f_X4_refusedTold a1 a2 a3 w) := by
  refine Ct_of (mi := mm_X4_refusedTold) (mik_X4 _ _ _) me_X4_refusedTold rfl (okAs_cons (by decide) (okAs_cons rfl (okAs_cons rfl (okAs_cons rfl okAs_nil)))) (Nat.le_of_ble_eq_true rfl) ?_
  unfold f_X4_refusedTold
  refine GE_run flG_T (pc1 := 3) (L1 := [some (.inr (.inr (some (4, 0)))), some (.inl a1), some (.inl a2), some (.inl a3), none]) (S1 := [.inl a2, .inl a1, .inr (.inr (some (4, 0)))]) (w1 := w) (P := True) [(.aload_n 0, 0, 0, 0, 0), (.iload_n 1, 0, 0, 0, 0), (.iload_n 2, 0, 0, 0, 0)] (by decide +kernel) rfl trivial ?_
  refine GE_callVI (As := [.inl a1, .inl a2]) (k := 4) (i := 0) (S := []) (t_X4_refusedTelling l X a1 a2 w) (by decide) ⟨me_X4_refusedTelling, mi_X4_refusedTelling, mv_X4_refusedTelling, lk_X4_223⟩ rfl (by decide +kernel) rfl (by decide) (by decide) (Nat.le_of_ble_eq_true rfl) (fun r1 _ => ?_)
  refine GE_run flG_T (pc1 := 10) (L1 := [some (.inr (.inr (some (4, 0)))), some (.inl a1), some (.inl a2), some (.inl a3), some (.inl r1.1)]) (S1 := [.inl r1.1]) (w1 := r1.2) (P := True) [(.istore 4, 0, 0, 0, 0), (.iload 4, 0, 0, 0, 0)] (by decide +kernel) rfl trivial ?_
  refine GE_if (k := .eq) (off := 6) (tgt := 16) (by decide +kernel) (by decide) (cnd_eq _ _) (fun c2 => ?_) (fun c2 => ?_)
  · refine GE_run flG_T (pc1 := 21) (L1 := [some (.inr (.inr (some (4, 0)))), some (.inl a1), some (.inl a2), some (.inl a3), some (.inl r1.1)]) (S1 := [.inl a3, .inr (.inr (some (0, 0)))]) (w1 := r1.2) (P := True) [(.aload_n 0, 0, 0, 0, 0), (.getfield 28, 4, 2, 0, 0), (.iload_n 3, 0, 0, 0, 0)] (by decide +kernel) rfl trivial ?_
    refine GE_callVIp (As := [.inl a3]) (k := 0) (i := 0) (S := []) (p_X0_has l X 0 a3 (by decide) r1.2) (by decide) ⟨me_X0_has, mi_X0_has, mv_X0_has, lk_X4_95⟩ rfl (by decide +kernel) rfl (by decide) (by decide) (Nat.le_of_ble_eq_true rfl) ?_
    refine GE_if (k := .eq) (off := 7) (tgt := 31) (by decide +kernel) (by decide) (cnd_eq _ _) (fun c3 => ?_) (fun c3 => ?_)
    · refine GE_run flG_T (pc1 := 33) (L1 := [some (.inr (.inr (some (4, 0)))), some (.inl a1), some (.inl a2), some (.inl a3), some (.inl r1.1)]) (S1 := [.inl (-5)]) (w1 := r1.2) (P := True) [(.bipush (-5), 0, 0, -5, 0)] (by decide +kernel) rfl trivial ?_
      exact GE_iret rfl (by decide +kernel)
    · refine GE_run flG_T (pc1 := 33) (L1 := [some (.inr (.inr (some (4, 0)))), some (.inl a1), some (.inl a2), some (.inl a3), some (.inl r1.1)]) (S1 := [.inl 0]) (w1 := r1.2) (P := True) [(.iconst 0, 0, 0, 0, 0), (.goto 5, 0, 0, 0, 0)] (by decide +kernel) rfl trivial ?_
      exact GE_iret rfl (by decide +kernel)
  · refine GE_run flG_T (pc1 := 15) (L1 := [some (.inr (.inr (some (4, 0)))), some (.inl a1), some (.inl a2), some (.inl a3), some (.inl r1.1)]) (S1 := [.inl r1.1]) (w1 := r1.2) (P := True) [(.iload 4, 0, 0, 0, 0)] (by decide +kernel) rfl trivial ?_
    exact GE_iret rfl (by decide +kernel)
abbrev mm_X4_otherwise : MI := (RX4, cX4_otherwise, 7, (some .int), ftp_X4.map (fun q => q.1), ctp_X4.map (fun q => q.1), clp_X4.map (fun q => q.1))
noncomputable def h_X4_otherwise_29 (z1 : Nat) (z2 : Nat) (x3 : Int32) (k99 : Mem → Option (Int32 × Mem)) : Nat → Int32 → Mem → Option (Int32 × Mem)
  | 0, _, _ => none
  | n + 1, x6, w => if x6 < (w 2 z2 1) then (Option.bind (f_X0_landing 1 x3 (atV w 19 z1 x6) w) (fun r4 => Option.bind (f_X0_washes 1 r4.2) (fun r5 => if (atV r5.2 17 1 x3) = (atV r5.2 19 z2 x6) then ((h_X4_otherwise_29 z1 z2 x3 k99 n) (x6 + 1) r5.2) else (some (x6, r5.2))))) else (k99 w)
set_option maxRecDepth 100000 in
theorem h_X4_otherwise_29_ok (l : Launch) (X : XC) (z1 : Nat) (z2 : Nat) (x3 : Int32) (k99 : Mem → Option (Int32 × Mem)) (bz1 : z1 < 4) (bz2 : z2 < 4) (hk99 : ∀  (w : Mem), GE l X mm_X4_otherwise 5 emI 57 flT (k99 w) 99 [none, none, none, none, none, none, none] [] w) : ∀ (n : Nat) (x6 : Int32) (w : Mem), GE l X mm_X4_otherwise 5 emI 57 flT ((h_X4_otherwise_29 z1 z2 x3 k99 n) x6 w) 29 [some (.inr (.inr (some (4, 0)))), none, none, some (.inl x3), some (.inr (.inr (some (2, z1)))), some (.inr (.inr (some (2, z2)))), some (.inl x6)] [] w := by
  intro n
  induction n with
  | zero => intro x6 w; exact GE_none
  | succ n ih =>
    intro x6 w
    unfold h_X4_otherwise_29
    refine GE_run flG_T (pc1 := 36) (L1 := [some (.inr (.inr (some (4, 0)))), none, none, some (.inl x3), some (.inr (.inr (some (2, z1)))), some (.inr (.inr (some (2, z2)))), some (.inl x6)]) (S1 := [.inl (w 2 z2 1), .inl x6]) (w1 := w) (P := True) [(.iload 6, 0, 0, 0, 0), (.aload 5, 0, 0, 0, 0), (.getfield 189, 2, 1, 0, 0)] (by decide +kernel) rfl trivial ?_
    refine GE_icmpN (k := .ge) (off := 63) (tgt := 99) (by decide +kernel) (by decide) (cnd_ge _ _) (fun c3 => ?_) (fun c3 => ?_)
    · exact GE_weak [false, false, false, false, false, false, false] (hk99 w)
    · refine GE_run flG_T (pc1 := 51) (L1 := [some (.inr (.inr (some (4, 0)))), none, none, some (.inl x3), some (.inr (.inr (some (2, z1)))), some (.inr (.inr (some (2, z2)))), some (.inl x6)]) (S1 := [.inl x6, .inr (.inr (some (19, z1))), .inl x3, .inr (.inr (some (0, 1)))]) (w1 := w) (P := True) [(.aload_n 0, 0, 0, 0, 0), (.getfield 32, 4, 3, 0, 0), (.iload_n 3, 0, 0, 0, 0), (.aload 4, 0, 0, 0, 0), (.getfield 190, 2, 2, 0, 0), (.iload 6, 0, 0, 0, 0)] (by decide +kernel) rfl trivial ?_
      refine GE_callSIp (As := [.inr (.inr (some (19, z1))), .inl x6]) (S := [.inl x3, .inr (.inr (some (0, 1)))]) (p_X4_at l X 19 z1 x6 (by decide) (ok_sheet_19 bz1) w) ⟨me_X4_at, ms_X4_at, lk_X4_120⟩ (by decide +kernel) rfl (by decide) (by decide) (Nat.le_of_ble_eq_true rfl) ?_
      refine GE_callVI (As := [.inl x3, .inl (atV w 19 z1 x6)]) (k := 0) (i := 1) (S := []) (t_X0_landing l X 1 x3 (atV w 19 z1 x6) (by decide) w) (by decide) ⟨me_X0_landing, mi_X0_landing, mv_X0_landing, lk_X4_143⟩ rfl (by decide +kernel) rfl (by decide) (by decide) (Nat.le_of_ble_eq_true rfl) (fun r4 _ => ?_)
      refine GE_run flG_T (pc1 := 62) (L1 := [some (.inr (.inr (some (4, 0)))), none, none, some (.inl x3), some (.inr (.inr (some (2, z1)))), some (.inr (.inr (some (2, z2)))), some (.inl x6)]) (S1 := [.inr (.inr (some (0, 1)))]) (w1 := r4.2) (P := True) [(.pop, 0, 0, 0, 0), (.aload_n 0, 0, 0, 0, 0), (.getfield 32, 4, 3, 0, 0)] (by decide +kernel) rfl trivial ?_
      refine GE_callVI (As := []) (k := 0) (i := 1) (S := []) (t_X0_washes l X 1 (by decide) r4.2) (by decide) ⟨me_X0_washes, mi_X0_washes, mv_X0_washes, lk_X4_153⟩ rfl (by decide +kernel) rfl (by decide) (by decide) (Nat.le_of_ble_eq_true rfl) (fun r5 _ => ?_)
      refine GE_run flG_T (pc1 := 74) (L1 := [some (.inr (.inr (some (4, 0)))), none, none, some (.inl x3), some (.inr (.inr (some (2, z1)))), some (.inr (.inr (some (2, z2)))), some (.inl x6)]) (S1 := [.inl x3, .inr (.inr (some (17, 1)))]) (w1 := r5.2) (P := True) [(.pop, 0, 0, 0, 0), (.aload_n 0, 0, 0, 0, 0), (.getfield 32, 4, 3, 0, 0), (.getfield 117, 0, 10, 0, 0), (.iload_n 3, 0, 0, 0, 0)] (by decide +kernel) rfl trivial ?_
      refine GE_callSIp (As := [.inr (.inr (some (17, 1))), .inl x3]) (S := []) (p_X4_at l X 17 1 x3 (by decide) (by decide) r5.2) ⟨me_X4_at, ms_X4_at, lk_X4_120⟩ (by decide +kernel) rfl (by decide) (by decide) (Nat.le_of_ble_eq_true rfl) ?_
      refine GE_run flG_T (pc1 := 84) (L1 := [some (.inr (.inr (some (4, 0)))), none, none, some (.inl x3), some (.inr (.inr (some (2, z1)))), some (.inr (.inr (some (2, z2)))), some (.inl x6)]) (S1 := [.inl x6, .inr (.inr (some (19, z2))), .inl (atV r5.2 17 1 x3)]) (w1 := r5.2) (P := True) [(.aload 5, 0, 0, 0, 0), (.getfield 190, 2, 2, 0, 0), (.iload 6, 0, 0, 0, 0)] (by decide +kernel) rfl trivial ?_
      refine GE_callSIp (As := [.inr (.inr (some (19, z2))), .inl x6]) (S := [.inl (atV r5.2 17 1 x3)]) (p_X4_at l X 19 z2 x6 (by decide) (ok_sheet_19 bz2) r5.2) ⟨me_X4_at, ms_X4_at, lk_X4_120⟩ (by decide +kernel) rfl (by decide) (by decide) (Nat.le_of_ble_eq_true rfl) ?_
      refine GE_icmp (k := .eq) (off := 6) (tgt := 93) (by decide +kernel) (by decide) (cnd_eq _ _) (fun c6 => ?_) (fun c6 => ?_)
      · refine GE_run flG_T (pc1 := 29) (L1 := [some (.inr (.inr (some (4, 0)))), none, none, some (.inl x3), some (.inr (.inr (some (2, z1)))), some (.inr (.inr (some (2, z2)))), some (.inl (x6 + 1))]) (S1 := []) (w1 := r5.2) (P := True) [(.iinc 6 1, 0, 0, 1, 0), (.goto (-67), 0, 0, 0, 0)] (by decide +kernel) rfl trivial ?_
        exact GE_weak [true, false, false, true, true, true, true] (ih (x6 + 1) r5.2)
      · refine GE_run flG_T (pc1 := 92) (L1 := [some (.inr (.inr (some (4, 0)))), none, none, some (.inl x3), some (.inr (.inr (some (2, z1)))), some (.inr (.inr (some (2, z2)))), some (.inl x6)]) (S1 := [.inl x6]) (w1 := r5.2) (P := True) [(.iload 6, 0, 0, 0, 0)] (by decide +kernel) rfl trivial ?_
        exact GE_iret rfl (by decide +kernel)
noncomputable def f_X4_otherwise (a1 : Int32) (a2 : Int32) (a3 : Int32) (w : Mem) : Option (Int32 × Mem) := Option.elim (rowF a1) (some ((-1), w)) (fun z1 => Option.elim (rowF a2) (some ((-1), w)) (fun z2 => h_X4_otherwise_29 z1 z2 a3 (fun w7 => some ((-1), w7)) FU 0 w))
set_option maxRecDepth 100000 in
theorem t_X4_otherwise (l : Launch) (X : XC)  (a1 : Int32) (a2 : Int32) (a3 : Int32) (w : Mem) : Ct l X 5 yX4_otherwise cX4_otherwise 7 (some .int) emI [.inr (.inr (some (4, 0))), .inl a1, .inl a2, .inl a3] 57 flT w (f_X4_otherwise a1 a2 a3 w) := by
  refine Ct_of (mi := mm_X4_otherwise) (mik_X4 _ _ _) me_X4_otherwise rfl (okAs_cons (by decide) (okAs_cons rfl (okAs_cons rfl (okAs_cons rfl okAs_nil)))) (Nat.le_of_ble_eq_true rfl) ?_
  unfold f_X4_otherwise
  refine GE_run flG_T (pc1 := 2) (L1 := [some (.inr (.inr (some (4, 0)))), some (.inl a1), some (.inl a2), some (.inl a3), none, none, none]) (S1 := [.inl a1, .inr (.inr (some (4, 0)))]) (w1 := w) (P := True) [(.aload_n 0, 0, 0, 0, 0), (.iload_n 1, 0, 0, 0, 0)] (by decide +kernel) rfl trivial ?_
  refine GE_callVAp (As := [.inl a1]) (k := 4) (i := 0) (S := []) (p_X4_rowAt l X a1 w) (by decide) ⟨me_X4_rowAt, mi_X4_rowAt, mv_X4_rowAt, lk_X4_175⟩ rfl (by decide +kernel) rfl (by decide) (by decide) (Nat.le_of_ble_eq_true rfl) ?_
  refine GE_run flG_T (pc1 := 9) (L1 := [some (.inr (.inr (some (4, 0)))), some (.inl a1), some (.inl a2), some (.inl a3), some (.inr (.inr ((rowF a1).map fun z => (2, z)))), none, none]) (S1 := [.inl a2, .inr (.inr (some (4, 0)))]) (w1 := w) (P := True) [(.astore 4, 0, 0, 0, 0), (.aload_n 0, 0, 0, 0, 0), (.iload_n 2, 0, 0, 0, 0)] (by decide +kernel) rfl trivial ?_
  refine GE_callVAp (As := [.inl a2]) (k := 4) (i := 0) (S := []) (p_X4_rowAt l X a2 w) (by decide) ⟨me_X4_rowAt, mi_X4_rowAt, mv_X4_rowAt, lk_X4_175⟩ rfl (by decide +kernel) rfl (by decide) (by decide) (Nat.le_of_ble_eq_true rfl) ?_
  refine GE_run flG_T (pc1 := 16) (L1 := [some (.inr (.inr (some (4, 0)))), some (.inl a1), some (.inl a2), some (.inl a3), some (.inr (.inr ((rowF a1).map fun z => (2, z)))), some (.inr (.inr ((rowF a2).map fun z => (2, z)))), none]) (S1 := [.inr (.inr ((rowF a1).map fun z => (2, z)))]) (w1 := w) (P := True) [(.astore 5, 0, 0, 0, 0), (.aload 4, 0, 0, 0, 0)] (by decide +kernel) rfl trivial ?_
  cases hz1 : rowF a1 with
  | none =>
    simp only [Option.elim_none, Option.map_none]
    refine GE_null0 (off := 8) (tgt := 24) (by decide +kernel) (by decide) ?_
    refine GE_run flG_T (pc1 := 25) (L1 := [some (.inr (.inr (some (4, 0)))), some (.inl a1), some (.inl a2), some (.inl a3), some (.inr (.inr none)), some (.inr (.inr ((rowF a2).map fun z => (2, z)))), none]) (S1 := [.inl (-1)]) (w1 := w) (P := True) [(.iconst (-1), 0, 0, -1, 0)] (by decide +kernel) rfl trivial ?_
    exact GE_iret rfl (by decide +kernel)
  | some z1 =>
    have bz1 := rowF_lt hz1
    refine GE_eq (Option.elim_some _ _ _) ?_
    refine GE_null1 (off := 8) (by decide +kernel) ?_
    refine GE_run flG_T (pc1 := 21) (L1 := [some (.inr (.inr (some (4, 0)))), some (.inl a1), some (.inl a2), some (.inl a3), some (.inr (.inr (some (2, z1)))), some (.inr (.inr ((rowF a2).map fun z => (2, z)))), none]) (S1 := [.inr (.inr ((rowF a2).map fun z => (2, z)))]) (w1 := w) (P := True) [(.aload 5, 0, 0, 0, 0)] (by decide +kernel) rfl trivial ?_
    cases hz2 : rowF a2 with
    | none =>
      simp only [Option.elim_none, Option.map_none]
      refine GE_nonnull0 (off := 5) (by decide +kernel) ?_
      refine GE_run flG_T (pc1 := 25) (L1 := [some (.inr (.inr (some (4, 0)))), some (.inl a1), some (.inl a2), some (.inl a3), some (.inr (.inr (some (2, z1)))), some (.inr (.inr none)), none]) (S1 := [.inl (-1)]) (w1 := w) (P := True) [(.iconst (-1), 0, 0, -1, 0)] (by decide +kernel) rfl trivial ?_
      exact GE_iret rfl (by decide +kernel)
    | some z2 =>
      have bz2 := rowF_lt hz2
      refine GE_eq (Option.elim_some _ _ _) ?_
      refine GE_nonnull1 (off := 5) (tgt := 26) (by decide +kernel) (by decide) ?_
      refine GE_run flG_T (pc1 := 29) (L1 := [some (.inr (.inr (some (4, 0)))), some (.inl a1), some (.inl a2), some (.inl a3), some (.inr (.inr (some (2, z1)))), some (.inr (.inr (some (2, z2)))), some (.inl 0)]) (S1 := []) (w1 := w) (P := True) [(.iconst 0, 0, 0, 0, 0), (.istore 6, 0, 0, 0, 0)] (by decide +kernel) rfl trivial ?_
      refine GE_weak [true, false, false, true, true, true, true] (h_X4_otherwise_29_ok l X z1 z2 a3 _ bz1 bz2 ?_ FU 0 w)
      · intro w7
        refine GE_run flG_T (pc1 := 100) (L1 := [none, none, none, none, none, none, none]) (S1 := [.inl (-1)]) (w1 := w7) (P := True) [(.iconst (-1), 0, 0, -1, 0)] (by decide +kernel) rfl trivial ?_
        exact GE_iret rfl (by decide +kernel)
abbrev mm_X4_draws : MI := (RX4, cX4_draws, 8, none, ftp_X4.map (fun q => q.1), ctp_X4.map (fun q => q.1), clp_X4.map (fun q => q.1))
noncomputable def j_X4_draws_85  (kl19 : Int64 → Int32 → Mem → Option (Mem)) (x2 : Int32) (x3 : Int64) (x5 : Int32) (w : Mem) : Option (Mem) := if ¬ (3 : Int32) = 0 then (if (rmI x5 3) = 0 then (Option.bind (f_X0_washes 1 w) (fun r10 => kl19 x3 (x5 + 1) r10.2)) else (kl19 x3 (x5 + 1) w)) else none
set_option maxRecDepth 100000 in
theorem j_X4_draws_85_ok (l : Launch) (X : XC)  (kl19 : Int64 → Int32 → Mem → Option (Mem)) (x2 : Int32) (x3 : Int64) (x5 : Int32)  (ih : ∀ (x3 : Int64) (x5 : Int32) (w : Mem), GE l X mm_X4_draws 5 emV 57 flT (kl19 x3 x5 w) 19 [some (.inr (.inr (some (4, 0)))), none, some (.inl x2), some (.inr (.inl x3)), none, some (.inl x5), none, none] [] w) (w : Mem) : GE l X mm_X4_draws 5 emV 57 flT (j_X4_draws_85 kl19 x2 x3 x5 w) 85 [some (.inr (.inr (some (4, 0)))), none, some (.inl x2), some (.inr (.inl x3)), none, some (.inl x5), none, none] [] w := by
  unfold j_X4_draws_85
  refine GE_chk (fun h8 => ?_)
  refine GE_run flG_T (pc1 := 89) (L1 := [some (.inr (.inr (some (4, 0)))), none, some (.inl x2), some (.inr (.inl x3)), none, some (.inl x5), none, none]) (S1 := [.inl (rmI x5 3)]) (w1 := w) (P := (¬ (3 : Int32) = 0) ∧ True) [(.iload 5, 0, 0, 0, 0), (.iconst 3, 0, 0, 3, 0), (.irem, 0, 0, 0, 0)] (by decide +kernel) rfl ⟨h8, trivial⟩ ?_
  refine GE_ifN (k := .ne) (off := 11) (tgt := 100) (by decide +kernel) (by decide) (cnd_ne _ _) (fun c9 => ?_) (fun c9 => ?_)
  · refine GE_run flG_T (pc1 := 19) (L1 := [some (.inr (.inr (some (4, 0)))), none, some (.inl x2), some (.inr (.inl x3)), none, some (.inl (x5 + 1)), none, none]) (S1 := []) (w1 := w) (P := True) [(.iinc 5 1, 0, 0, 1, 0), (.goto (-84), 0, 0, 0, 0)] (by decide +kernel) rfl trivial ?_
    exact GE_weak [true, false, true, true, false, true, false, false] (ih x3 (x5 + 1) w)
  · refine GE_run flG_T (pc1 := 96) (L1 := [some (.inr (.inr (some (4, 0)))), none, some (.inl x2), some (.inr (.inl x3)), none, some (.inl x5), none, none]) (S1 := [.inr (.inr (some (0, 1)))]) (w1 := w) (P := True) [(.aload_n 0, 0, 0, 0, 0), (.getfield 32, 4, 3, 0, 0)] (by decide +kernel) rfl trivial ?_
    refine GE_callVI (As := []) (k := 0) (i := 1) (S := []) (t_X0_washes l X 1 (by decide) w) (by decide) ⟨me_X0_washes, mi_X0_washes, mv_X0_washes, lk_X4_153⟩ rfl (by decide +kernel) rfl (by decide) (by decide) (Nat.le_of_ble_eq_true rfl) (fun r10 _ => ?_)
    refine GE_run flG_T (pc1 := 19) (L1 := [some (.inr (.inr (some (4, 0)))), none, some (.inl x2), some (.inr (.inl x3)), none, some (.inl (x5 + 1)), none, none]) (S1 := []) (w1 := r10.2) (P := True) [(.pop, 0, 0, 0, 0), (.iinc 5 1, 0, 0, 1, 0), (.goto (-84), 0, 0, 0, 0)] (by decide +kernel) rfl trivial ?_
    exact GE_weak [true, false, true, true, false, true, false, false] (ih x3 (x5 + 1) r10.2)
noncomputable def h_X4_draws_19 (x2 : Int32) (k106 : Mem → Option (Mem)) : Nat → Int64 → Int32 → Mem → Option (Mem)
  | 0, _, _, _ => none
  | n + 1, x3, x5, w => if x5 ≤ x2 then (if ¬ (2147483647 : Int64) = 0 then (if ¬ (6 : Int64) = 0 then (if ¬ (2147483647 : Int64) = 0 then (if ¬ (16 : Int64) = 0 then (if (hasF (Int64.toInt32 (rmL (rmL (x3 * 48271) 2147483647) 6)) (w 0 1 2)) = 0 then (j_X4_draws_85 (h_X4_draws_19 x2 k106 n) x2 (rmL ((rmL (x3 * 48271) 2147483647) * 48271) 2147483647) x5 w) else (Option.bind (f_X0_landing 1 (Int64.toInt32 (rmL (rmL (x3 * 48271) 2147483647) 6)) (Int64.toInt32 (rmL (rmL ((rmL (x3 * 48271) 2147483647) * 48271) 2147483647) 16)) w) (fun r11 => j_X4_draws_85 (h_X4_draws_19 x2 k106 n) x2 (rmL ((rmL (x3 * 48271) 2147483647) * 48271) 2147483647) x5 r11.2))) else none) else none) else none) else none) else (k106 w)
set_option maxRecDepth 100000 in
theorem h_X4_draws_19_ok (l : Launch) (X : XC) (x2 : Int32) (k106 : Mem → Option (Mem))  (hk106 : ∀  (w : Mem), GE l X mm_X4_draws 5 emV 57 flT (k106 w) 106 [none, none, none, none, none, none, none, none] [] w) : ∀ (n : Nat) (x3 : Int64) (x5 : Int32) (w : Mem), GE l X mm_X4_draws 5 emV 57 flT ((h_X4_draws_19 x2 k106 n) x3 x5 w) 19 [some (.inr (.inr (some (4, 0)))), none, some (.inl x2), some (.inr (.inl x3)), none, some (.inl x5), none, none] [] w := by
  intro n
  induction n with
  | zero => intro x3 x5 w; exact GE_none
  | succ n ih =>
    intro x3 x5 w
    unfold h_X4_draws_19
    refine GE_run flG_T (pc1 := 22) (L1 := [some (.inr (.inr (some (4, 0)))), none, some (.inl x2), some (.inr (.inl x3)), none, some (.inl x5), none, none]) (S1 := [.inl x2, .inl x5]) (w1 := w) (P := True) [(.iload 5, 0, 0, 0, 0), (.iload_n 2, 0, 0, 0, 0)] (by decide +kernel) rfl trivial ?_
    refine GE_icmpN (k := .gt) (off := 84) (tgt := 106) (by decide +kernel) (by decide) (cnd_gt _ _) (fun c2 => ?_) (fun c2 => ?_)
    · exact GE_weak [false, false, false, false, false, false, false, false] (hk106 w)
    · refine GE_chk (fun h3 => ?_)
      refine GE_chk (fun h4 => ?_)
      refine GE_chk (fun h5 => ?_)
      refine GE_chk (fun h6 => ?_)
      refine GE_run flG_T (pc1 := 67) (L1 := [some (.inr (.inr (some (4, 0)))), none, some (.inl x2), some (.inr (.inl (rmL ((rmL (x3 * 48271) 2147483647) * 48271) 2147483647))), none, some (.inl x5), some (.inl (Int64.toInt32 (rmL (rmL (x3 * 48271) 2147483647) 6))), some (.inl (Int64.toInt32 (rmL (rmL ((rmL (x3 * 48271) 2147483647) * 48271) 2147483647) 16)))]) (S1 := [.inl (Int64.toInt32 (rmL (rmL (x3 * 48271) 2147483647) 6)), .inr (.inr (some (0, 1)))]) (w1 := w) (P := (¬ (2147483647 : Int64) = 0) ∧ (¬ (6 : Int64) = 0) ∧ (¬ (2147483647 : Int64) = 0) ∧ (¬ (16 : Int64) = 0) ∧ True) [(.lload_n 3, 0, 0, 0, 0), (.ldc2_w 242, 0, 0, 0, 48271), (.lmul, 0, 0, 0, 0), (.ldc2_w 244, 0, 0, 0, 2147483647), (.lrem, 0, 0, 0, 0), (.lstore_n 3, 0, 0, 0, 0), (.lload_n 3, 0, 0, 0, 0), (.ldc2_w 246, 0, 0, 0, 6), (.lrem, 0, 0, 0, 0), (.l2i, 0, 0, 0, 0), (.istore 6, 0, 0, 0, 0), (.lload_n 3, 0, 0, 0, 0), (.ldc2_w 242, 0, 0, 0, 48271), (.lmul, 0, 0, 0, 0), (.ldc2_w 244, 0, 0, 0, 2147483647), (.lrem, 0, 0, 0, 0), (.lstore_n 3, 0, 0, 0, 0), (.lload_n 3, 0, 0, 0, 0), (.ldc2_w 248, 0, 0, 0, 16), (.lrem, 0, 0, 0, 0), (.l2i, 0, 0, 0, 0), (.istore 7, 0, 0, 0, 0), (.aload_n 0, 0, 0, 0, 0), (.getfield 32, 4, 3, 0, 0), (.iload 6, 0, 0, 0, 0)] (by decide +kernel) rfl ⟨h3, h4, h5, h6, trivial⟩ ?_
      refine GE_callVIp (As := [.inl (Int64.toInt32 (rmL (rmL (x3 * 48271) 2147483647) 6))]) (k := 0) (i := 1) (S := []) (p_X0_has l X 1 (Int64.toInt32 (rmL (rmL (x3 * 48271) 2147483647) 6)) (by decide) w) (by decide) ⟨me_X0_has, mi_X0_has, mv_X0_has, lk_X4_95⟩ rfl (by decide +kernel) rfl (by decide) (by decide) (Nat.le_of_ble_eq_true rfl) ?_
      refine GE_if (k := .eq) (off := 15) (tgt := 85) (by decide +kernel) (by decide) (cnd_eq _ _) (fun c7 => ?_) (fun c7 => ?_)
      · exact GE_weak [true, false, true, true, false, true, false, false] (j_X4_draws_85_ok l X (h_X4_draws_19 x2 k106 n) x2 (rmL ((rmL (x3 * 48271) 2147483647) * 48271) 2147483647) x5 ih w)
      · refine GE_run flG_T (pc1 := 81) (L1 := [some (.inr (.inr (some (4, 0)))), none, some (.inl x2), some (.inr (.inl (rmL ((rmL (x3 * 48271) 2147483647) * 48271) 2147483647))), none, some (.inl x5), some (.inl (Int64.toInt32 (rmL (rmL (x3 * 48271) 2147483647) 6))), some (.inl (Int64.toInt32 (rmL (rmL ((rmL (x3 * 48271) 2147483647) * 48271) 2147483647) 16)))]) (S1 := [.inl (Int64.toInt32 (rmL (rmL ((rmL (x3 * 48271) 2147483647) * 48271) 2147483647) 16)), .inl (Int64.toInt32 (rmL (rmL (x3 * 48271) 2147483647) 6)), .inr (.inr (some (0, 1)))]) (w1 := w) (P := True) [(.aload_n 0, 0, 0, 0, 0), (.getfield 32, 4, 3, 0, 0), (.iload 6, 0, 0, 0, 0), (.iload 7, 0, 0, 0, 0)] (by decide +kernel) rfl trivial ?_
        refine GE_callVI (As := [.inl (Int64.toInt32 (rmL (rmL (x3 * 48271) 2147483647) 6)), .inl (Int64.toInt32 (rmL (rmL ((rmL (x3 * 48271) 2147483647) * 48271) 2147483647) 16))]) (k := 0) (i := 1) (S := []) (t_X0_landing l X 1 (Int64.toInt32 (rmL (rmL (x3 * 48271) 2147483647) 6)) (Int64.toInt32 (rmL (rmL ((rmL (x3 * 48271) 2147483647) * 48271) 2147483647) 16)) (by decide) w) (by decide) ⟨me_X0_landing, mi_X0_landing, mv_X0_landing, lk_X4_143⟩ rfl (by decide +kernel) rfl (by decide) (by decide) (Nat.le_of_ble_eq_true rfl) (fun r11 _ => ?_)
        refine GE_run flG_T (pc1 := 85) (L1 := [some (.inr (.inr (some (4, 0)))), none, some (.inl x2), some (.inr (.inl (rmL ((rmL (x3 * 48271) 2147483647) * 48271) 2147483647))), none, some (.inl x5), some (.inl (Int64.toInt32 (rmL (rmL (x3 * 48271) 2147483647) 6))), some (.inl (Int64.toInt32 (rmL (rmL ((rmL (x3 * 48271) 2147483647) * 48271) 2147483647) 16)))]) (S1 := []) (w1 := r11.2) (P := True) [(.pop, 0, 0, 0, 0)] (by decide +kernel) rfl trivial ?_
        exact GE_weak [true, false, true, true, false, true, false, false] (j_X4_draws_85_ok l X (h_X4_draws_19 x2 k106 n) x2 (rmL ((rmL (x3 * 48271) 2147483647) * 48271) 2147483647) x5 ih r11.2)
noncomputable def f_X4_draws (a1 : Int32) (a2 : Int32) (w : Mem) : Option (Mem) := Option.bind (f_X0_become 1 0 w) (fun r1 => h_X4_draws_19 a2 (fun w12 => some w12) FU ((Int32.toInt64 a1) + 1) 1 r1)
set_option maxRecDepth 100000 in
theorem t_X4_draws (l : Launch) (X : XC)  (a1 : Int32) (a2 : Int32) (w : Mem) : Ct l X 5 yX4_draws cX4_draws 8 none emV [.inr (.inr (some (4, 0))), .inl a1, .inl a2] 57 flT w (f_X4_draws a1 a2 w) := by
  refine Ct_of (mi := mm_X4_draws) (mik_X4 _ _ _) me_X4_draws rfl (okAs_cons (by decide) (okAs_cons rfl (okAs_cons rfl okAs_nil))) (Nat.le_of_ble_eq_true rfl) ?_
  unfold f_X4_draws
  refine GE_run flG_T (pc1 := 8) (L1 := [some (.inr (.inr (some (4, 0)))), some (.inl a1), some (.inl a2), none, none, none, none, none]) (S1 := [.inr (.inr (some (0, 0))), .inr (.inr (some (0, 1)))]) (w1 := w) (P := True) [(.aload_n 0, 0, 0, 0, 0), (.getfield 32, 4, 3, 0, 0), (.aload_n 0, 0, 0, 0, 0), (.getfield 28, 4, 2, 0, 0)] (by decide +kernel) rfl trivial ?_
  refine GE_callVV (As := [.inr (.inr (some (0, 0)))]) (k := 0) (i := 1) (S := []) (t_X0_become l X 1 0 (by decide) (by decide) w) (by decide) ⟨me_X0_become, mi_X0_become, mv_X0_become, lk_X4_164⟩ rfl (by decide +kernel) rfl (by decide) (by decide) (Nat.le_of_ble_eq_true rfl) (fun r1 _ => ?_)
  refine GE_run flG_T (pc1 := 19) (L1 := [some (.inr (.inr (some (4, 0)))), some (.inl a1), some (.inl a2), some (.inr (.inl ((Int32.toInt64 a1) + 1))), none, some (.inl 1), none, none]) (S1 := []) (w1 := r1) (P := True) [(.iload_n 1, 0, 0, 0, 0), (.i2l, 0, 0, 0, 0), (.lconst 1, 0, 0, 0, 1), (.ladd, 0, 0, 0, 0), (.lstore_n 3, 0, 0, 0, 0), (.iconst 1, 0, 0, 1, 0), (.istore 5, 0, 0, 0, 0)] (by decide +kernel) rfl trivial ?_
  refine GE_weak [true, false, true, true, false, true, false, false] (h_X4_draws_19_ok l X a2 _ ?_ FU ((Int32.toInt64 a1) + 1) 1 r1)
  · intro w12
    exact GE_vret rfl (by decide +kernel)
abbrev mm_X4_count : MI := (RX4, cX4_count, 2, (some .int), ftp_X4.map (fun q => q.1), ctp_X4.map (fun q => q.1), clp_X4.map (fun q => q.1))
noncomputable def f_X4_count (a1 : Int32) (w : Mem) : Option (Int32 × Mem) := swE a1 0 [some (w 0 0 2, w), some (bcF (w 0 0 3), w), some (w 0 0 4, w), some (w 3 0 0, w), some (w 0 0 5, w), some (w 1 0 1, w)] (some ((-2), w))
set_option maxRecDepth 100000 in
theorem t_X4_count (l : Launch) (X : XC)  (a1 : Int32) (w : Mem) : Ct l X 1 yX4_count cX4_count 2 (some .int) emI [.inr (.inr (some (4, 0))), .inl a1] 57 flT w (f_X4_count a1 w) := by
  refine Ct_of (mi := mm_X4_count) (mik_X4 _ _ _) me_X4_count rfl (okAs_cons (by decide) (okAs_cons rfl okAs_nil)) (Nat.le_of_ble_eq_true rfl) ?_
  unfold f_X4_count
  refine GE_run flG_T (pc1 := 1) (L1 := [some (.inr (.inr (some (4, 0)))), some (.inl a1)]) (S1 := [.inl a1]) (w1 := w) (P := True) [(.iload_n 1, 0, 0, 0, 0)] (by decide +kernel) rfl trivial ?_
  refine GE_swm (dflt := 90) (lo := 0) (hi := 5) (offs := #[39, 47, 58, 66, 74, 82]) (len := 39) (dt := 91) (mm := 6) [40, 48, 59, 67, 75, 83] (by decide +kernel) rfl (by decide +kernel) (And.intro (fun _ => ?_) (And.intro (fun _ => ?_) (And.intro (fun _ => ?_) (And.intro (fun _ => ?_) (And.intro (fun _ => ?_) (And.intro (fun _ => ?_) (trivial))))))) ?_
  · refine GE_run flG_T (pc1 := 47) (L1 := [some (.inr (.inr (some (4, 0)))), some (.inl a1)]) (S1 := [.inl (w 0 0 2)]) (w1 := w) (P := True) [(.aload_n 0, 0, 0, 0, 0), (.getfield 28, 4, 2, 0, 0), (.getfield 45, 0, 2, 0, 0)] (by decide +kernel) rfl trivial ?_
    exact GE_iret rfl (by decide +kernel)
  · refine GE_run flG_T (pc1 := 55) (L1 := [some (.inr (.inr (some (4, 0)))), some (.inl a1)]) (S1 := [.inl (w 0 0 3)]) (w1 := w) (P := True) [(.aload_n 0, 0, 0, 0, 0), (.getfield 28, 4, 2, 0, 0), (.getfield 49, 0, 3, 0, 0)] (by decide +kernel) rfl trivial ?_
    refine GE_callSIp (As := [.inl (w 0 0 3)]) (S := []) (p_J6_bitCount l X (w 0 0 3) w) ⟨me_J6_bitCount_0f7a4, ms_J6_bitCount_0f7a4, lk_X4_52⟩ (by decide +kernel) rfl (by decide) (by decide) (Nat.le_of_ble_eq_true rfl) ?_
    exact GE_iret rfl (by decide +kernel)
  · refine GE_run flG_T (pc1 := 66) (L1 := [some (.inr (.inr (some (4, 0)))), some (.inl a1)]) (S1 := [.inl (w 0 0 4)]) (w1 := w) (P := True) [(.aload_n 0, 0, 0, 0, 0), (.getfield 28, 4, 2, 0, 0), (.getfield 58, 0, 4, 0, 0)] (by decide +kernel) rfl trivial ?_
    exact GE_iret rfl (by decide +kernel)
  · refine GE_run flG_T (pc1 := 74) (L1 := [some (.inr (.inr (some (4, 0)))), some (.inl a1)]) (S1 := [.inl (w 3 0 0)]) (w1 := w) (P := True) [(.aload_n 0, 0, 0, 0, 0), (.getfield 10, 4, 0, 0, 0), (.getfield 61, 3, 0, 0, 0)] (by decide +kernel) rfl trivial ?_
    exact GE_iret rfl (by decide +kernel)
  · refine GE_run flG_T (pc1 := 82) (L1 := [some (.inr (.inr (some (4, 0)))), some (.inl a1)]) (S1 := [.inl (w 0 0 5)]) (w1 := w) (P := True) [(.aload_n 0, 0, 0, 0, 0), (.getfield 28, 4, 2, 0, 0), (.getfield 64, 0, 5, 0, 0)] (by decide +kernel) rfl trivial ?_
    exact GE_iret rfl (by decide +kernel)
  · refine GE_run flG_T (pc1 := 90) (L1 := [some (.inr (.inr (some (4, 0)))), some (.inl a1)]) (S1 := [.inl (w 1 0 1)]) (w1 := w) (P := True) [(.aload_n 0, 0, 0, 0, 0), (.getfield 19, 4, 1, 0, 0), (.getfield 67, 1, 1, 0, 0)] (by decide +kernel) rfl trivial ?_
    exact GE_iret rfl (by decide +kernel)
  · refine GE_run flG_T (pc1 := 93) (L1 := [some (.inr (.inr (some (4, 0)))), some (.inl a1)]) (S1 := [.inl (-2)]) (w1 := w) (P := True) [(.bipush (-2), 0, 0, -2, 0)] (by decide +kernel) rfl trivial ?_
    exact GE_iret rfl (by decide +kernel)
abbrev mm_X4_shore : MI := (RX4, cX4_shore, 4, (some .int), ftp_X4.map (fun q => q.1), ctp_X4.map (fun q => q.1), clp_X4.map (fun q => q.1))
noncomputable def j_X4_shore_37   (x1 : Int32) (x2 : Int32) (x3 : Int32) (w : Mem) : Option (Int32 × Mem) := if x1 = 1 then (if (rng x2 0 65535) = 0 then (some (x3, w)) else (some (w 0 0 3, up w 0 0 3 x2))) else (some (x3, w))
set_option maxRecDepth 100000 in
theorem j_X4_shore_37_ok (l : Launch) (X : XC)   (x1 : Int32) (x2 : Int32) (x3 : Int32)   (w : Mem) : GE l X mm_X4_shore 1 emI 57 flT (j_X4_shore_37 x1 x2 x3 w) 37 [some (.inr (.inr (some (4, 0)))), some (.inl x1), some (.inl x2), some (.inl x3)] [] w := by
  unfold j_X4_shore_37
  refine GE_run flG_T (pc1 := 39) (L1 := [some (.inr (.inr (some (4, 0)))), some (.inl x1), some (.inl x2), some (.inl x3)]) (S1 := [.inl 1, .inl x1]) (w1 := w) (P := True) [(.iload_n 1, 0, 0, 0, 0), (.iconst 1, 0, 0, 1, 0)] (by decide +kernel) rfl trivial ?_
  refine GE_icmpN (k := .ne) (off := 26) (tgt := 65) (by decide +kernel) (by decide) (cnd_ne _ _) (fun c3 => ?_) (fun c3 => ?_)
  · refine GE_run flG_T (pc1 := 66) (L1 := [some (.inr (.inr (some (4, 0)))), some (.inl x1), some (.inl x2), some (.inl x3)]) (S1 := [.inl x3]) (w1 := w) (P := True) [(.iload_n 3, 0, 0, 0, 0)] (by decide +kernel) rfl trivial ?_
    exact GE_iret rfl (by decide +kernel)
  · refine GE_run flG_T (pc1 := 43) (L1 := [some (.inr (.inr (some (4, 0)))), some (.inl x1), some (.inl x2), some (.inl x3)]) (S1 := [.inl x2]) (w1 := w) (P := True) [(.iload_n 2, 0, 0, 0, 0)] (by decide +kernel) rfl trivial ?_
    refine GE_callSIp (As := [.inl x2]) (S := []) (p_X4_isSet l X x2 w) ⟨me_X4_isSet, ms_X4_isSet, lk_X4_70⟩ (by decide +kernel) rfl (by decide) (by decide) (Nat.le_of_ble_eq_true rfl) ?_
    refine GE_if (k := .eq) (off := 19) (tgt := 65) (by decide +kernel) (by decide) (cnd_eq _ _) (fun c4 => ?_) (fun c4 => ?_)
    · refine GE_run flG_T (pc1 := 66) (L1 := [some (.inr (.inr (some (4, 0)))), some (.inl x1), some (.inl x2), some (.inl x3)]) (S1 := [.inl x3]) (w1 := w) (P := True) [(.iload_n 3, 0, 0, 0, 0)] (by decide +kernel) rfl trivial ?_
      exact GE_iret rfl (by decide +kernel)
    · refine GE_run flG_T (pc1 := 66) (L1 := [some (.inr (.inr (some (4, 0)))), some (.inl x1), some (.inl x2), some (.inl (w 0 0 3))]) (S1 := [.inl (w 0 0 3)]) (w1 := up w 0 0 3 x2) (P := True) [(.aload_n 0, 0, 0, 0, 0), (.getfield 28, 4, 2, 0, 0), (.getfield 49, 0, 3, 0, 0), (.istore_n 3, 0, 0, 0, 0), (.aload_n 0, 0, 0, 0, 0), (.getfield 28, 4, 2, 0, 0), (.iload_n 2, 0, 0, 0, 0), (.putfield 49, 0, 3, 0, 0), (.iload_n 3, 0, 0, 0, 0)] (by decide +kernel) rfl trivial ?_
      exact GE_iret rfl (by decide +kernel)
noncomputable def f_X4_shore (a1 : Int32) (a2 : Int32) (w : Mem) : Option (Int32 × Mem) := if a1 = 0 then (if a2 < 0 then (j_X4_shore_37 a1 a2 (-2) w) else (if a2 ≤ 999 then (some (w 0 0 4, up w 0 0 4 a2)) else (j_X4_shore_37 a1 a2 (-2) w))) else (j_X4_shore_37 a1 a2 (-2) w)
set_option maxRecDepth 100000 in
theorem t_X4_shore (l : Launch) (X : XC)  (a1 : Int32) (a2 : Int32) (w : Mem) : Ct l X 1 yX4_shore cX4_shore 4 (some .int) emI [.inr (.inr (some (4, 0))), .inl a1, .inl a2] 57 flT w (f_X4_shore a1 a2 w) := by
  refine Ct_of (mi := mm_X4_shore) (mik_X4 _ _ _) me_X4_shore rfl (okAs_cons (by decide) (okAs_cons rfl (okAs_cons rfl okAs_nil))) (Nat.le_of_ble_eq_true rfl) ?_
  unfold f_X4_shore
  refine GE_run flG_T (pc1 := 4) (L1 := [some (.inr (.inr (some (4, 0)))), some (.inl a1), some (.inl a2), some (.inl (-2))]) (S1 := [.inl a1]) (w1 := w) (P := True) [(.bipush (-2), 0, 0, -2, 0), (.istore_n 3, 0, 0, 0, 0), (.iload_n 1, 0, 0, 0, 0)] (by decide +kernel) rfl trivial ?_
  refine GE_ifN (k := .ne) (off := 33) (tgt := 37) (by decide +kernel) (by decide) (cnd_ne _ _) (fun c1 => ?_) (fun c1 => ?_)
  · exact GE_weak [true, true, true, true] (j_X4_shore_37_ok l X a1 a2 (-2) w)
  · refine GE_run flG_T (pc1 := 8) (L1 := [some (.inr (.inr (some (4, 0)))), some (.inl a1), some (.inl a2), some (.inl (-2))]) (S1 := [.inl a2]) (w1 := w) (P := True) [(.iload_n 2, 0, 0, 0, 0)] (by decide +kernel) rfl trivial ?_
    refine GE_if (k := .lt) (off := 29) (tgt := 37) (by decide +kernel) (by decide) (cnd_lt _ _) (fun c2 => ?_) (fun c2 => ?_)
    · exact GE_weak [true, true, true, true] (j_X4_shore_37_ok l X a1 a2 (-2) w)
    · refine GE_run flG_T (pc1 := 15) (L1 := [some (.inr (.inr (some (4, 0)))), some (.inl a1), some (.inl a2), some (.inl (-2))]) (S1 := [.inl 999, .inl a2]) (w1 := w) (P := True) [(.iload_n 2, 0, 0, 0, 0), (.sipush 999, 0, 0, 999, 0)] (by decide +kernel) rfl trivial ?_
      refine GE_icmpN (k := .gt) (off := 22) (tgt := 37) (by decide +kernel) (by decide) (cnd_gt _ _) (fun c5 => ?_) (fun c5 => ?_)
      · exact GE_weak [true, true, true, true] (j_X4_shore_37_ok l X a1 a2 (-2) w)
      · refine GE_run flG_T (pc1 := 66) (L1 := [some (.inr (.inr (some (4, 0)))), some (.inl a1), some (.inl a2), some (.inl (w 0 0 4))]) (S1 := [.inl (w 0 0 4)]) (w1 := up w 0 0 4 a2) (P := True) [(.aload_n 0, 0, 0, 0, 0), (.getfield 28, 4, 2, 0, 0), (.getfield 58, 0, 4, 0, 0), (.istore_n 3, 0, 0, 0, 0), (.aload_n 0, 0, 0, 0, 0), (.getfield 28, 4, 2, 0, 0), (.iload_n 2, 0, 0, 0, 0), (.putfield 58, 0, 4, 0, 0), (.goto 31, 0, 0, 0, 0), (.iload_n 3, 0, 0, 0, 0)] (by decide +kernel) rfl trivial ?_
        exact GE_iret rfl (by decide +kernel)
abbrev mm_X4_force : MI := (RX4, cX4_force, 3, (some .int), ftp_X4.map (fun q => q.1), ctp_X4.map (fun q => q.1), clp_X4.map (fun q => q.1))
noncomputable def f_X4_force (a1 : Int32) (w : Mem) : Option (Int32 × Mem) := if a1 < 0 then (some ((-2), w)) else (if a1 < (w 3 0 0) then (some (w 0 0 5, up w 0 0 5 a1)) else (some ((-2), w)))
set_option maxRecDepth 100000 in
theorem t_X4_force (l : Launch) (X : XC)  (a1 : Int32) (w : Mem) : Ct l X 0 yX4_force cX4_force 3 (some .int) emI [.inr (.inr (some (4, 0))), .inl a1] 57 flT w (f_X4_force a1 w) := by
  refine Ct_of (mi := mm_X4_force) (mik_X4 _ _ _) me_X4_force rfl (okAs_cons (by decide) (okAs_cons rfl okAs_nil)) (Nat.le_of_ble_eq_true rfl) ?_
  unfold f_X4_force
  refine GE_run flG_T (pc1 := 1) (L1 := [some (.inr (.inr (some (4, 0)))), some (.inl a1), none]) (S1 := [.inl a1]) (w1 := w) (P := True) [(.iload_n 1, 0, 0, 0, 0)] (by decide +kernel) rfl trivial ?_
  refine GE_if (k := .lt) (off := 14) (tgt := 15) (by decide +kernel) (by decide) (cnd_lt _ _) (fun c1 => ?_) (fun c1 => ?_)
  · refine GE_run flG_T (pc1 := 17) (L1 := [some (.inr (.inr (some (4, 0)))), some (.inl a1), none]) (S1 := [.inl (-2)]) (w1 := w) (P := True) [(.bipush (-2), 0, 0, -2, 0)] (by decide +kernel) rfl trivial ?_
    exact GE_iret rfl (by decide +kernel)
  · refine GE_run flG_T (pc1 := 12) (L1 := [some (.inr (.inr (some (4, 0)))), some (.inl a1), none]) (S1 := [.inl (w 3 0 0), .inl a1]) (w1 := w) (P := True) [(.iload_n 1, 0, 0, 0, 0), (.aload_n 0, 0, 0, 0, 0), (.getfield 10, 4, 0, 0, 0), (.getfield 61, 3, 0, 0, 0)] (by decide +kernel) rfl trivial ?_
    refine GE_icmp (k := .lt) (off := 6) (tgt := 18) (by decide +kernel) (by decide) (cnd_lt _ _) (fun c2 => ?_) (fun c2 => ?_)
    · refine GE_run flG_T (pc1 := 35) (L1 := [some (.inr (.inr (some (4, 0)))), some (.inl a1), some (.inl (w 0 0 5))]) (S1 := [.inl (w 0 0 5)]) (w1 := up w 0 0 5 a1) (P := True) [(.aload_n 0, 0, 0, 0, 0), (.getfield 28, 4, 2, 0, 0), (.getfield 64, 0, 5, 0, 0), (.istore_n 2, 0, 0, 0, 0), (.aload_n 0, 0, 0, 0, 0), (.getfield 28, 4, 2, 0, 0), (.iload_n 1, 0, 0, 0, 0), (.putfield 64, 0, 5, 0, 0), (.iload_n 2, 0, 0, 0, 0)] (by decide +kernel) rfl trivial ?_
      exact GE_iret rfl (by decide +kernel)
    · refine GE_run flG_T (pc1 := 17) (L1 := [some (.inr (.inr (some (4, 0)))), some (.inl a1), none]) (S1 := [.inl (-2)]) (w1 := w) (P := True) [(.bipush (-2), 0, 0, -2, 0)] (by decide +kernel) rfl trivial ?_
      exact GE_iret rfl (by decide +kernel)
abbrev mm_X4_asks : MI := (RX4, cX4_asks, 4, (some .int), ftp_X4.map (fun q => q.1), ctp_X4.map (fun q => q.1), clp_X4.map (fun q => q.1))
noncomputable def f_X4_asks (a1 : Int32) (a2 : Int32) (a3 : Int32) (w : Mem) : Option (Int32 × Mem) := if a1 < 0 then (some ((-1000), w)) else (if a1 ≤ 2 then (if (hasF a2 (w 0 0 2)) = 0 then (some ((-1000), w)) else (if (rng a3 0 15) = 0 then (some ((-1000), w)) else (Option.bind (f_X0_says 0 a1 a2 a3 w) (fun r5 => some (r5.1, r5.2))))) else (some ((-1000), w)))
set_option maxRecDepth 100000 in
theorem t_X4_asks (l : Launch) (X : XC)  (a1 : Int32) (a2 : Int32) (a3 : Int32) (w : Mem) : Ct l X 3 yX4_asks cX4_asks 4 (some .int) emI [.inr (.inr (some (4, 0))), .inl a1, .inl a2, .inl a3] 57 flT w (f_X4_asks a1 a2 a3 w) := by
  refine Ct_of (mi := mm_X4_asks) (mik_X4 _ _ _) me_X4_asks rfl (okAs_cons (by decide) (okAs_cons rfl (okAs_cons rfl (okAs_cons rfl okAs_nil)))) (Nat.le_of_ble_eq_true rfl) ?_
  unfold f_X4_asks
  refine GE_run flG_T (pc1 := 1) (L1 := [some (.inr (.inr (some (4, 0)))), some (.inl a1), some (.inl a2), some (.inl a3)]) (S1 := [.inl a1]) (w1 := w) (P := True) [(.iload_n 1, 0, 0, 0, 0)] (by decide +kernel) rfl trivial ?_
  refine GE_if (k := .lt) (off := 26) (tgt := 27) (by decide +kernel) (by decide) (cnd_lt _ _) (fun c1 => ?_) (fun c1 => ?_)
  · refine GE_run flG_T (pc1 := 30) (L1 := [some (.inr (.inr (some (4, 0)))), some (.inl a1), some (.inl a2), some (.inl a3)]) (S1 := [.inl (-1000)]) (w1 := w) (P := True) [(.sipush (-1000), 0, 0, -1000, 0)] (by decide +kernel) rfl trivial ?_
    exact GE_iret rfl (by decide +kernel)
  · refine GE_run flG_T (pc1 := 6) (L1 := [some (.inr (.inr (some (4, 0)))), some (.inl a1), some (.inl a2), some (.inl a3)]) (S1 := [.inl 2, .inl a1]) (w1 := w) (P := True) [(.iload_n 1, 0, 0, 0, 0), (.iconst 2, 0, 0, 2, 0)] (by decide +kernel) rfl trivial ?_
    refine GE_icmpN (k := .gt) (off := 21) (tgt := 27) (by decide +kernel) (by decide) (cnd_gt _ _) (fun c2 => ?_) (fun c2 => ?_)
    · refine GE_run flG_T (pc1 := 30) (L1 := [some (.inr (.inr (some (4, 0)))), some (.inl a1), some (.inl a2), some (.inl a3)]) (S1 := [.inl (-1000)]) (w1 := w) (P := True) [(.sipush (-1000), 0, 0, -1000, 0)] (by decide +kernel) rfl trivial ?_
      exact GE_iret rfl (by decide +kernel)
    · refine GE_run flG_T (pc1 := 14) (L1 := [some (.inr (.inr (some (4, 0)))), some (.inl a1), some (.inl a2), some (.inl a3)]) (S1 := [.inl a2, .inr (.inr (some (0, 0)))]) (w1 := w) (P := True) [(.aload_n 0, 0, 0, 0, 0), (.getfield 28, 4, 2, 0, 0), (.iload_n 2, 0, 0, 0, 0)] (by decide +kernel) rfl trivial ?_
      refine GE_callVIp (As := [.inl a2]) (k := 0) (i := 0) (S := []) (p_X0_has l X 0 a2 (by decide) w) (by decide) ⟨me_X0_has, mi_X0_has, mv_X0_has, lk_X4_95⟩ rfl (by decide +kernel) rfl (by decide) (by decide) (Nat.le_of_ble_eq_true rfl) ?_
      refine GE_if (k := .eq) (off := 10) (tgt := 27) (by decide +kernel) (by decide) (cnd_eq _ _) (fun c3 => ?_) (fun c3 => ?_)
      · refine GE_run flG_T (pc1 := 30) (L1 := [some (.inr (.inr (some (4, 0)))), some (.inl a1), some (.inl a2), some (.inl a3)]) (S1 := [.inl (-1000)]) (w1 := w) (P := True) [(.sipush (-1000), 0, 0, -1000, 0)] (by decide +kernel) rfl trivial ?_
        exact GE_iret rfl (by decide +kernel)
      · refine GE_run flG_T (pc1 := 21) (L1 := [some (.inr (.inr (some (4, 0)))), some (.inl a1), some (.inl a2), some (.inl a3)]) (S1 := [.inl a3]) (w1 := w) (P := True) [(.iload_n 3, 0, 0, 0, 0)] (by decide +kernel) rfl trivial ?_
        refine GE_callSIp (As := [.inl a3]) (S := []) (p_X4_isThing l X a3 w) ⟨me_X4_isThing, ms_X4_isThing, lk_X4_98⟩ (by decide +kernel) rfl (by decide) (by decide) (Nat.le_of_ble_eq_true rfl) ?_
        refine GE_ifN (k := .ne) (off := 7) (tgt := 31) (by decide +kernel) (by decide) (cnd_ne _ _) (fun c4 => ?_) (fun c4 => ?_)
        · refine GE_run flG_T (pc1 := 38) (L1 := [some (.inr (.inr (some (4, 0)))), some (.inl a1), some (.inl a2), some (.inl a3)]) (S1 := [.inl a3, .inl a2, .inl a1, .inr (.inr (some (0, 0)))]) (w1 := w) (P := True) [(.aload_n 0, 0, 0, 0, 0), (.getfield 28, 4, 2, 0, 0), (.iload_n 1, 0, 0, 0, 0), (.iload_n 2, 0, 0, 0, 0), (.iload_n 3, 0, 0, 0, 0)] (by decide +kernel) rfl trivial ?_
          refine GE_callVI (As := [.inl a1, .inl a2, .inl a3]) (k := 0) (i := 0) (S := []) (t_X0_says l X 0 a1 a2 a3 (by decide) w) (by decide) ⟨me_X0_says, mi_X0_says, mv_X0_says, lk_X4_101⟩ rfl (by decide +kernel) rfl (by decide) (by decide) (Nat.le_of_ble_eq_true rfl) (fun r5 _ => ?_)
          exact GE_iret rfl (by decide +kernel)
        · refine GE_run flG_T (pc1 := 30) (L1 := [some (.inr (.inr (some (4, 0)))), some (.inl a1), some (.inl a2), some (.inl a3)]) (S1 := [.inl (-1000)]) (w1 := w) (P := True) [(.sipush (-1000), 0, 0, -1000, 0)] (by decide +kernel) rfl trivial ?_
          exact GE_iret rfl (by decide +kernel)
abbrev mm_X4_fisher : MI := (RX4, cX4_fisher, 3, (some .int), ftp_X4.map (fun q => q.1), ctp_X4.map (fun q => q.1), clp_X4.map (fun q => q.1))
noncomputable def f_X4_fisher (a1 : Int32) (a2 : Int32) (w : Mem) : Option (Int32 × Mem) := if a1 < 0 then (some ((-2), w)) else (if a1 < 60 then (if (rng a2 0 65535) = 0 then (some ((-2), w)) else (if (w 0 0 2) < 6 then (if ¬ (10 : Int32) = 0 then (if ¬ (10 : Int32) = 0 then (Option.bind (f_X0_comes 0 (a1 / 10) (rmI a1 10) a2 w) (fun r7 => some (r7.1, r7.2))) else none) else none) else (some ((-4), w)))) else (some ((-2), w)))
set_option maxRecDepth 100000 in
theorem t_X4_fisher (l : Launch) (X : XC)  (a1 : Int32) (a2 : Int32) (w : Mem) : Ct l X 2 yX4_fisher cX4_fisher 3 (some .int) emI [.inr (.inr (some (4, 0))), .inl a1, .inl a2] 57 flT w (f_X4_fisher a1 a2 w) := by
  refine Ct_of (mi := mm_X4_fisher) (mik_X4 _ _ _) me_X4_fisher rfl (okAs_cons (by decide) (okAs_cons rfl (okAs_cons rfl okAs_nil))) (Nat.le_of_ble_eq_true rfl) ?_
  unfold f_X4_fisher
  refine GE_run flG_T (pc1 := 1) (L1 := [some (.inr (.inr (some (4, 0)))), some (.inl a1), some (.inl a2)]) (S1 := [.inl a1]) (w1 := w) (P := True) [(.iload_n 1, 0, 0, 0, 0)] (by decide +kernel) rfl trivial ?_
  refine GE_if (k := .lt) (off := 16) (tgt := 17) (by decide +kernel) (by decide) (cnd_lt _ _) (fun c1 => ?_) (fun c1 => ?_)
  · refine GE_run flG_T (pc1 := 19) (L1 := [some (.inr (.inr (some (4, 0)))), some (.inl a1), some (.inl a2)]) (S1 := [.inl (-2)]) (w1 := w) (P := True) [(.bipush (-2), 0, 0, -2, 0)] (by decide +kernel) rfl trivial ?_
    exact GE_iret rfl (by decide +kernel)
  · refine GE_run flG_T (pc1 := 7) (L1 := [some (.inr (.inr (some (4, 0)))), some (.inl a1), some (.inl a2)]) (S1 := [.inl 60, .inl a1]) (w1 := w) (P := True) [(.iload_n 1, 0, 0, 0, 0), (.bipush 60, 0, 0, 60, 0)] (by decide +kernel) rfl trivial ?_
    refine GE_icmpN (k := .ge) (off := 10) (tgt := 17) (by decide +kernel) (by decide) (cnd_ge _ _) (fun c2 => ?_) (fun c2 => ?_)
    · refine GE_run flG_T (pc1 := 19) (L1 := [some (.inr (.inr (some (4, 0)))), some (.inl a1), some (.inl a2)]) (S1 := [.inl (-2)]) (w1 := w) (P := True) [(.bipush (-2), 0, 0, -2, 0)] (by decide +kernel) rfl trivial ?_
      exact GE_iret rfl (by decide +kernel)
    · refine GE_run flG_T (pc1 := 11) (L1 := [some (.inr (.inr (some (4, 0)))), some (.inl a1), some (.inl a2)]) (S1 := [.inl a2]) (w1 := w) (P := True) [(.iload_n 2, 0, 0, 0, 0)] (by decide +kernel) rfl trivial ?_
      refine GE_callSIp (As := [.inl a2]) (S := []) (p_X4_isSet l X a2 w) ⟨me_X4_isSet, ms_X4_isSet, lk_X4_70⟩ (by decide +kernel) rfl (by decide) (by decide) (Nat.le_of_ble_eq_true rfl) ?_
      refine GE_ifN (k := .ne) (off := 6) (tgt := 20) (by decide +kernel) (by decide) (cnd_ne _ _) (fun c3 => ?_) (fun c3 => ?_)
      · refine GE_run flG_T (pc1 := 29) (L1 := [some (.inr (.inr (some (4, 0)))), some (.inl a1), some (.inl a2)]) (S1 := [.inl 6, .inl (w 0 0 2)]) (w1 := w) (P := True) [(.aload_n 0, 0, 0, 0, 0), (.getfield 28, 4, 2, 0, 0), (.getfield 45, 0, 2, 0, 0), (.bipush 6, 0, 0, 6, 0)] (by decide +kernel) rfl trivial ?_
        refine GE_icmp (k := .lt) (off := 6) (tgt := 35) (by decide +kernel) (by decide) (cnd_lt _ _) (fun c4 => ?_) (fun c4 => ?_)
        · refine GE_chk (fun h5 => ?_)
          refine GE_chk (fun h6 => ?_)
          refine GE_run flG_T (pc1 := 48) (L1 := [some (.inr (.inr (some (4, 0)))), some (.inl a1), some (.inl a2)]) (S1 := [.inl a2, .inl (rmI a1 10), .inl (a1 / 10), .inr (.inr (some (0, 0)))]) (w1 := w) (P := (¬ (10 : Int32) = 0) ∧ (¬ (10 : Int32) = 0) ∧ True) [(.aload_n 0, 0, 0, 0, 0), (.getfield 28, 4, 2, 0, 0), (.iload_n 1, 0, 0, 0, 0), (.bipush 10, 0, 0, 10, 0), (.idiv, 0, 0, 0, 0), (.iload_n 1, 0, 0, 0, 0), (.bipush 10, 0, 0, 10, 0), (.irem, 0, 0, 0, 0), (.iload_n 2, 0, 0, 0, 0)] (by decide +kernel) rfl ⟨h5, h6, trivial⟩ ?_
          refine GE_callVI (As := [.inl (a1 / 10), .inl (rmI a1 10), .inl a2]) (k := 0) (i := 0) (S := []) (t_X0_comes l X 0 (a1 / 10) (rmI a1 10) a2 (by decide) w) (by decide) ⟨me_X0_comes, mi_X0_comes, mv_X0_comes, lk_X4_105⟩ rfl (by decide +kernel) rfl (by decide) (by decide) (Nat.le_of_ble_eq_true rfl) (fun r7 _ => ?_)
          exact GE_iret rfl (by decide +kernel)
        · refine GE_run flG_T (pc1 := 34) (L1 := [some (.inr (.inr (some (4, 0)))), some (.inl a1), some (.inl a2)]) (S1 := [.inl (-4)]) (w1 := w) (P := True) [(.bipush (-4), 0, 0, -4, 0)] (by decide +kernel) rfl trivial ?_
          exact GE_iret rfl (by decide +kernel)
      · refine GE_run flG_T (pc1 := 19) (L1 := [some (.inr (.inr (some (4, 0)))), some (.inl a1), some (.inl a2)]) (S1 := [.inl (-2)]) (w1 := w) (P := True) [(.bipush (-2), 0, 0, -2, 0)] (by decide +kernel) rfl trivial ?_
        exact GE_iret rfl (by decide +kernel)
abbrev mm_X4_put : MI := (RX4, cX4_put, 4, (some .int), ftp_X4.map (fun q => q.1), ctp_X4.map (fun q => q.1), clp_X4.map (fun q => q.1))
noncomputable def j_X4_put_63   (x1 : Int32) (x2 : Int32) (x3 : Int32) (w : Mem) : Option (Int32 × Mem) := if x2 = 2 then (if x3 < 0 then (some ((-7), w)) else (if x3 ≤ 99 then (some (atV w 17 0 x1, setV w 17 0 x1 x3)) else (some ((-7), w)))) else (some ((-7), w))
set_option maxRecDepth 100000 in
theorem j_X4_put_63_ok (l : Launch) (X : XC)   (x1 : Int32) (x2 : Int32) (x3 : Int32)   (w : Mem) : GE l X mm_X4_put 2 emI 57 flT (j_X4_put_63 x1 x2 x3 w) 63 [some (.inr (.inr (some (4, 0)))), some (.inl x1), some (.inl x2), some (.inl x3)] [] w := by
  unfold j_X4_put_63
  refine GE_run flG_T (pc1 := 65) (L1 := [some (.inr (.inr (some (4, 0)))), some (.inl x1), some (.inl x2), some (.inl x3)]) (S1 := [.inl 2, .inl x2]) (w1 := w) (P := True) [(.iload_n 2, 0, 0, 0, 0), (.iconst 2, 0, 0, 2, 0)] (by decide +kernel) rfl trivial ?_
  refine GE_icmpN (k := .ne) (off := 26) (tgt := 91) (by decide +kernel) (by decide) (cnd_ne _ _) (fun c6 => ?_) (fun c6 => ?_)
  · refine GE_run flG_T (pc1 := 93) (L1 := [some (.inr (.inr (some (4, 0)))), some (.inl x1), some (.inl x2), some (.inl x3)]) (S1 := [.inl (-7)]) (w1 := w) (P := True) [(.bipush (-7), 0, 0, -7, 0)] (by decide +kernel) rfl trivial ?_
    exact GE_iret rfl (by decide +kernel)
  · refine GE_run flG_T (pc1 := 69) (L1 := [some (.inr (.inr (some (4, 0)))), some (.inl x1), some (.inl x2), some (.inl x3)]) (S1 := [.inl x3]) (w1 := w) (P := True) [(.iload_n 3, 0, 0, 0, 0)] (by decide +kernel) rfl trivial ?_
    refine GE_if (k := .lt) (off := 22) (tgt := 91) (by decide +kernel) (by decide) (cnd_lt _ _) (fun c7 => ?_) (fun c7 => ?_)
    · refine GE_run flG_T (pc1 := 93) (L1 := [some (.inr (.inr (some (4, 0)))), some (.inl x1), some (.inl x2), some (.inl x3)]) (S1 := [.inl (-7)]) (w1 := w) (P := True) [(.bipush (-7), 0, 0, -7, 0)] (by decide +kernel) rfl trivial ?_
      exact GE_iret rfl (by decide +kernel)
    · refine GE_run flG_T (pc1 := 75) (L1 := [some (.inr (.inr (some (4, 0)))), some (.inl x1), some (.inl x2), some (.inl x3)]) (S1 := [.inl 99, .inl x3]) (w1 := w) (P := True) [(.iload_n 3, 0, 0, 0, 0), (.bipush 99, 0, 0, 99, 0)] (by decide +kernel) rfl trivial ?_
      refine GE_icmpN (k := .gt) (off := 16) (tgt := 91) (by decide +kernel) (by decide) (cnd_gt _ _) (fun c8 => ?_) (fun c8 => ?_)
      · refine GE_run flG_T (pc1 := 93) (L1 := [some (.inr (.inr (some (4, 0)))), some (.inl x1), some (.inl x2), some (.inl x3)]) (S1 := [.inl (-7)]) (w1 := w) (P := True) [(.bipush (-7), 0, 0, -7, 0)] (by decide +kernel) rfl trivial ?_
        exact GE_iret rfl (by decide +kernel)
      · refine GE_run flG_T (pc1 := 87) (L1 := [some (.inr (.inr (some (4, 0)))), some (.inl x1), some (.inl x2), some (.inl x3)]) (S1 := [.inl x3, .inl x1, .inr (.inr (some (17, 0)))]) (w1 := w) (P := True) [(.aload_n 0, 0, 0, 0, 0), (.getfield 28, 4, 2, 0, 0), (.getfield 117, 0, 10, 0, 0), (.iload_n 1, 0, 0, 0, 0), (.iload_n 3, 0, 0, 0, 0)] (by decide +kernel) rfl trivial ?_
        refine GE_callSIp (As := [.inr (.inr (some (17, 0))), .inl x1, .inl x3]) (S := []) (p_X4_swap l X 17 0 x1 x3 (by decide) (by decide) w) ⟨me_X4_swap, ms_X4_swap, lk_X4_111⟩ (by decide +kernel) rfl (by decide) (by decide) (Nat.le_of_ble_eq_true rfl) ?_
        exact GE_iret rfl (by decide +kernel)
noncomputable def j_X4_put_38   (x1 : Int32) (x2 : Int32) (x3 : Int32) (w : Mem) : Option (Int32 × Mem) := if x2 = 1 then (if (rng x3 0 65535) = 0 then (j_X4_put_63 x1 x2 x3 w) else (some (atV w 16 0 x1, setV w 16 0 x1 x3))) else (j_X4_put_63 x1 x2 x3 w)
set_option maxRecDepth 100000 in
theorem j_X4_put_38_ok (l : Launch) (X : XC)   (x1 : Int32) (x2 : Int32) (x3 : Int32)   (w : Mem) : GE l X mm_X4_put 2 emI 57 flT (j_X4_put_38 x1 x2 x3 w) 38 [some (.inr (.inr (some (4, 0)))), some (.inl x1), some (.inl x2), some (.inl x3)] [] w := by
  unfold j_X4_put_38
  refine GE_run flG_T (pc1 := 40) (L1 := [some (.inr (.inr (some (4, 0)))), some (.inl x1), some (.inl x2), some (.inl x3)]) (S1 := [.inl 1, .inl x2]) (w1 := w) (P := True) [(.iload_n 2, 0, 0, 0, 0), (.iconst 1, 0, 0, 1, 0)] (by decide +kernel) rfl trivial ?_
  refine GE_icmpN (k := .ne) (off := 23) (tgt := 63) (by decide +kernel) (by decide) (cnd_ne _ _) (fun c4 => ?_) (fun c4 => ?_)
  · exact GE_weak [true, true, true, true] (j_X4_put_63_ok l X x1 x2 x3 w)
  · refine GE_run flG_T (pc1 := 44) (L1 := [some (.inr (.inr (some (4, 0)))), some (.inl x1), some (.inl x2), some (.inl x3)]) (S1 := [.inl x3]) (w1 := w) (P := True) [(.iload_n 3, 0, 0, 0, 0)] (by decide +kernel) rfl trivial ?_
    refine GE_callSIp (As := [.inl x3]) (S := []) (p_X4_isSet l X x3 w) ⟨me_X4_isSet, ms_X4_isSet, lk_X4_70⟩ (by decide +kernel) rfl (by decide) (by decide) (Nat.le_of_ble_eq_true rfl) ?_
    refine GE_if (k := .eq) (off := 16) (tgt := 63) (by decide +kernel) (by decide) (cnd_eq _ _) (fun c5 => ?_) (fun c5 => ?_)
    · exact GE_weak [true, true, true, true] (j_X4_put_63_ok l X x1 x2 x3 w)
    · refine GE_run flG_T (pc1 := 59) (L1 := [some (.inr (.inr (some (4, 0)))), some (.inl x1), some (.inl x2), some (.inl x3)]) (S1 := [.inl x3, .inl x1, .inr (.inr (some (16, 0)))]) (w1 := w) (P := True) [(.aload_n 0, 0, 0, 0, 0), (.getfield 28, 4, 2, 0, 0), (.getfield 115, 0, 9, 0, 0), (.iload_n 1, 0, 0, 0, 0), (.iload_n 3, 0, 0, 0, 0)] (by decide +kernel) rfl trivial ?_
      refine GE_callSIp (As := [.inr (.inr (some (16, 0))), .inl x1, .inl x3]) (S := []) (p_X4_swap l X 16 0 x1 x3 (by decide) (by decide) w) ⟨me_X4_swap, ms_X4_swap, lk_X4_111⟩ (by decide +kernel) rfl (by decide) (by decide) (Nat.le_of_ble_eq_true rfl) ?_
      exact GE_iret rfl (by decide +kernel)
noncomputable def f_X4_put (a1 : Int32) (a2 : Int32) (a3 : Int32) (w : Mem) : Option (Int32 × Mem) := if (hasF a1 (w 0 0 2)) = 0 then (some ((-5), w)) else (if a2 = 0 then (if (rng a3 0 65535) = 0 then (j_X4_put_38 a1 a2 a3 w) else (some (atV w 15 0 a1, setV w 15 0 a1 a3))) else (j_X4_put_38 a1 a2 a3 w))
set_option maxRecDepth 100000 in
theorem t_X4_put (l : Launch) (X : XC)  (a1 : Int32) (a2 : Int32) (a3 : Int32) (w : Mem) : Ct l X 2 yX4_put cX4_put 4 (some .int) emI [.inr (.inr (some (4, 0))), .inl a1, .inl a2, .inl a3] 57 flT w (f_X4_put a1 a2 a3 w) := by
  refine Ct_of (mi := mm_X4_put) (mik_X4 _ _ _) me_X4_put rfl (okAs_cons (by decide) (okAs_cons rfl (okAs_cons rfl (okAs_cons rfl okAs_nil)))) (Nat.le_of_ble_eq_true rfl) ?_
  unfold f_X4_put
  refine GE_run flG_T (pc1 := 5) (L1 := [some (.inr (.inr (some (4, 0)))), some (.inl a1), some (.inl a2), some (.inl a3)]) (S1 := [.inl a1, .inr (.inr (some (0, 0)))]) (w1 := w) (P := True) [(.aload_n 0, 0, 0, 0, 0), (.getfield 28, 4, 2, 0, 0), (.iload_n 1, 0, 0, 0, 0)] (by decide +kernel) rfl trivial ?_
  refine GE_callVIp (As := [.inl a1]) (k := 0) (i := 0) (S := []) (p_X0_has l X 0 a1 (by decide) w) (by decide) ⟨me_X0_has, mi_X0_has, mv_X0_has, lk_X4_95⟩ rfl (by decide +kernel) rfl (by decide) (by decide) (Nat.le_of_ble_eq_true rfl) ?_
  refine GE_ifN (k := .ne) (off := 6) (tgt := 14) (by decide +kernel) (by decide) (cnd_ne _ _) (fun c1 => ?_) (fun c1 => ?_)
  · refine GE_run flG_T (pc1 := 15) (L1 := [some (.inr (.inr (some (4, 0)))), some (.inl a1), some (.inl a2), some (.inl a3)]) (S1 := [.inl a2]) (w1 := w) (P := True) [(.iload_n 2, 0, 0, 0, 0)] (by decide +kernel) rfl trivial ?_
    refine GE_ifN (k := .ne) (off := 23) (tgt := 38) (by decide +kernel) (by decide) (cnd_ne _ _) (fun c2 => ?_) (fun c2 => ?_)
    · exact GE_weak [true, true, true, true] (j_X4_put_38_ok l X a1 a2 a3 w)
    · refine GE_run flG_T (pc1 := 19) (L1 := [some (.inr (.inr (some (4, 0)))), some (.inl a1), some (.inl a2), some (.inl a3)]) (S1 := [.inl a3]) (w1 := w) (P := True) [(.iload_n 3, 0, 0, 0, 0)] (by decide +kernel) rfl trivial ?_
      refine GE_callSIp (As := [.inl a3]) (S := []) (p_X4_isSet l X a3 w) ⟨me_X4_isSet, ms_X4_isSet, lk_X4_70⟩ (by decide +kernel) rfl (by decide) (by decide) (Nat.le_of_ble_eq_true rfl) ?_
      refine GE_if (k := .eq) (off := 16) (tgt := 38) (by decide +kernel) (by decide) (cnd_eq _ _) (fun c3 => ?_) (fun c3 => ?_)
      · exact GE_weak [true, true, true, true] (j_X4_put_38_ok l X a1 a2 a3 w)
      · refine GE_run flG_T (pc1 := 34) (L1 := [some (.inr (.inr (some (4, 0)))), some (.inl a1), some (.inl a2), some (.inl a3)]) (S1 := [.inl a3, .inl a1, .inr (.inr (some (15, 0)))]) (w1 := w) (P := True) [(.aload_n 0, 0, 0, 0, 0), (.getfield 28, 4, 2, 0, 0), (.getfield 108, 0, 8, 0, 0), (.iload_n 1, 0, 0, 0, 0), (.iload_n 3, 0, 0, 0, 0)] (by decide +kernel) rfl trivial ?_
        refine GE_callSIp (As := [.inr (.inr (some (15, 0))), .inl a1, .inl a3]) (S := []) (p_X4_swap l X 15 0 a1 a3 (by decide) (by decide) w) ⟨me_X4_swap, ms_X4_swap, lk_X4_111⟩ (by decide +kernel) rfl (by decide) (by decide) (Nat.le_of_ble_eq_true rfl) ?_
        exact GE_iret rfl (by decide +kernel)
  · refine GE_run flG_T (pc1 := 13) (L1 := [some (.inr (.inr (some (4, 0)))), some (.inl a1), some (.inl a2), some (.inl a3)]) (S1 := [.inl (-5)]) (w1 := w) (P := True) [(.bipush (-5), 0, 0, -5, 0)] (by decide +kernel) rfl trivial ?_
    exact GE_iret rfl (by decide +kernel)
abbrev mm_X4_told : MI := (RX4, cX4_told, 3, (some .int), ftp_X4.map (fun q => q.1), ctp_X4.map (fun q => q.1), clp_X4.map (fun q => q.1))
noncomputable def f_X4_told (a1 : Int32) (a2 : Int32) (w : Mem) : Option (Int32 × Mem) := if (hasF a1 (w 0 0 2)) = 0 then (some ((-5), w)) else (swE a2 0 [some (atV w 15 0 a1, w), some (atV w 16 0 a1, w), some (atV w 17 0 a1, w), some (atV w 13 0 a1, w), some (atV w 14 0 a1, w), Option.bind (f_X0_nameless 0 a1 w) (fun r2 => some (r2.1, r2.2)), Option.bind (f_X0_takesOf 0 a1 w) (fun r3 => some (r3.1, r3.2))] (some ((-7), w)))
set_option maxRecDepth 100000 in
theorem t_X4_told (l : Launch) (X : XC)  (a1 : Int32) (a2 : Int32) (w : Mem) : Ct l X 4 yX4_told cX4_told 3 (some .int) emI [.inr (.inr (some (4, 0))), .inl a1, .inl a2] 57 flT w (f_X4_told a1 a2 w) := by
  refine Ct_of (mi := mm_X4_told) (mik_X4 _ _ _) me_X4_told rfl (okAs_cons (by decide) (okAs_cons rfl (okAs_cons rfl okAs_nil))) (Nat.le_of_ble_eq_true rfl) ?_
  unfold f_X4_told
  refine GE_run flG_T (pc1 := 5) (L1 := [some (.inr (.inr (some (4, 0)))), some (.inl a1), some (.inl a2)]) (S1 := [.inl a1, .inr (.inr (some (0, 0)))]) (w1 := w) (P := True) [(.aload_n 0, 0, 0, 0, 0), (.getfield 28, 4, 2, 0, 0), (.iload_n 1, 0, 0, 0, 0)] (by decide +kernel) rfl trivial ?_
  refine GE_callVIp (As := [.inl a1]) (k := 0) (i := 0) (S := []) (p_X0_has l X 0 a1 (by decide) w) (by decide) ⟨me_X0_has, mi_X0_has, mv_X0_has, lk_X4_95⟩ rfl (by decide +kernel) rfl (by decide) (by decide) (Nat.le_of_ble_eq_true rfl) ?_
  refine GE_ifN (k := .ne) (off := 6) (tgt := 14) (by decide +kernel) (by decide) (cnd_ne _ _) (fun c1 => ?_) (fun c1 => ?_)
  · refine GE_run flG_T (pc1 := 15) (L1 := [some (.inr (.inr (some (4, 0)))), some (.inl a1), some (.inl a2)]) (S1 := [.inl a2]) (w1 := w) (P := True) [(.iload_n 2, 0, 0, 0, 0)] (by decide +kernel) rfl trivial ?_
    refine GE_swm (dflt := 119) (lo := 0) (hi := 6) (offs := #[41, 53, 65, 77, 89, 101, 110]) (len := 41) (dt := 134) (mm := 7) [56, 68, 80, 92, 104, 116, 125] (by decide +kernel) rfl (by decide +kernel) (And.intro (fun _ => ?_) (And.intro (fun _ => ?_) (And.intro (fun _ => ?_) (And.intro (fun _ => ?_) (And.intro (fun _ => ?_) (And.intro (fun _ => ?_) (And.intro (fun _ => ?_) (trivial)))))))) ?_
    · refine GE_run flG_T (pc1 := 64) (L1 := [some (.inr (.inr (some (4, 0)))), some (.inl a1), some (.inl a2)]) (S1 := [.inl a1, .inr (.inr (some (15, 0)))]) (w1 := w) (P := True) [(.aload_n 0, 0, 0, 0, 0), (.getfield 28, 4, 2, 0, 0), (.getfield 108, 0, 8, 0, 0), (.iload_n 1, 0, 0, 0, 0)] (by decide +kernel) rfl trivial ?_
      refine GE_callSIp (As := [.inr (.inr (some (15, 0))), .inl a1]) (S := []) (p_X4_at l X 15 0 a1 (by decide) (by decide) w) ⟨me_X4_at, ms_X4_at, lk_X4_120⟩ (by decide +kernel) rfl (by decide) (by decide) (Nat.le_of_ble_eq_true rfl) ?_
      exact GE_iret rfl (by decide +kernel)
    · refine GE_run flG_T (pc1 := 76) (L1 := [some (.inr (.inr (some (4, 0)))), some (.inl a1), some (.inl a2)]) (S1 := [.inl a1, .inr (.inr (some (16, 0)))]) (w1 := w) (P := True) [(.aload_n 0, 0, 0, 0, 0), (.getfield 28, 4, 2, 0, 0), (.getfield 115, 0, 9, 0, 0), (.iload_n 1, 0, 0, 0, 0)] (by decide +kernel) rfl trivial ?_
      refine GE_callSIp (As := [.inr (.inr (some (16, 0))), .inl a1]) (S := []) (p_X4_at l X 16 0 a1 (by decide) (by decide) w) ⟨me_X4_at, ms_X4_at, lk_X4_120⟩ (by decide +kernel) rfl (by decide) (by decide) (Nat.le_of_ble_eq_true rfl) ?_
      exact GE_iret rfl (by decide +kernel)
    · refine GE_run flG_T (pc1 := 88) (L1 := [some (.inr (.inr (some (4, 0)))), some (.inl a1), some (.inl a2)]) (S1 := [.inl a1, .inr (.inr (some (17, 0)))]) (w1 := w) (P := True) [(.aload_n 0, 0, 0, 0, 0), (.getfield 28, 4, 2, 0, 0), (.getfield 117, 0, 10, 0, 0), (.iload_n 1, 0, 0, 0, 0)] (by decide +kernel) rfl trivial ?_
      refine GE_callSIp (As := [.inr (.inr (some (17, 0))), .inl a1]) (S := []) (p_X4_at l X 17 0 a1 (by decide) (by decide) w) ⟨me_X4_at, ms_X4_at, lk_X4_120⟩ (by decide +kernel) rfl (by decide) (by decide) (Nat.le_of_ble_eq_true rfl) ?_
      exact GE_iret rfl (by decide +kernel)
    · refine GE_run flG_T (pc1 := 100) (L1 := [some (.inr (.inr (some (4, 0)))), some (.inl a1), some (.inl a2)]) (S1 := [.inl a1, .inr (.inr (some (13, 0)))]) (w1 := w) (P := True) [(.aload_n 0, 0, 0, 0, 0), (.getfield 28, 4, 2, 0, 0), (.getfield 124, 0, 6, 0, 0), (.iload_n 1, 0, 0, 0, 0)] (by decide +kernel) rfl trivial ?_
      refine GE_callSIp (As := [.inr (.inr (some (13, 0))), .inl a1]) (S := []) (p_X4_at l X 13 0 a1 (by decide) (by decide) w) ⟨me_X4_at, ms_X4_at, lk_X4_120⟩ (by decide +kernel) rfl (by decide) (by decide) (Nat.le_of_ble_eq_true rfl) ?_
      exact GE_iret rfl (by decide +kernel)
    · refine GE_run flG_T (pc1 := 112) (L1 := [some (.inr (.inr (some (4, 0)))), some (.inl a1), some (.inl a2)]) (S1 := [.inl a1, .inr (.inr (some (14, 0)))]) (w1 := w) (P := True) [(.aload_n 0, 0, 0, 0, 0), (.getfield 28, 4, 2, 0, 0), (.getfield 127, 0, 7, 0, 0), (.iload_n 1, 0, 0, 0, 0)] (by decide +kernel) rfl trivial ?_
      refine GE_callSIp (As := [.inr (.inr (some (14, 0))), .inl a1]) (S := []) (p_X4_at l X 14 0 a1 (by decide) (by decide) w) ⟨me_X4_at, ms_X4_at, lk_X4_120⟩ (by decide +kernel) rfl (by decide) (by decide) (Nat.le_of_ble_eq_true rfl) ?_
      exact GE_iret rfl (by decide +kernel)
    · refine GE_run flG_T (pc1 := 121) (L1 := [some (.inr (.inr (some (4, 0)))), some (.inl a1), some (.inl a2)]) (S1 := [.inl a1, .inr (.inr (some (0, 0)))]) (w1 := w) (P := True) [(.aload_n 0, 0, 0, 0, 0), (.getfield 28, 4, 2, 0, 0), (.iload_n 1, 0, 0, 0, 0)] (by decide +kernel) rfl trivial ?_
      refine GE_callVI (As := [.inl a1]) (k := 0) (i := 0) (S := []) (t_X0_nameless l X 0 a1 (by decide) w) (by decide) ⟨me_X0_nameless, mi_X0_nameless, mv_X0_nameless, lk_X4_130⟩ rfl (by decide +kernel) rfl (by decide) (by decide) (Nat.le_of_ble_eq_true rfl) (fun r2 _ => ?_)
      exact GE_iret rfl (by decide +kernel)
    · refine GE_run flG_T (pc1 := 130) (L1 := [some (.inr (.inr (some (4, 0)))), some (.inl a1), some (.inl a2)]) (S1 := [.inl a1, .inr (.inr (some (0, 0)))]) (w1 := w) (P := True) [(.aload_n 0, 0, 0, 0, 0), (.getfield 28, 4, 2, 0, 0), (.iload_n 1, 0, 0, 0, 0)] (by decide +kernel) rfl trivial ?_
      refine GE_callVI (As := [.inl a1]) (k := 0) (i := 0) (S := []) (t_X0_takesOf l X 0 a1 (by decide) w) (by decide) ⟨me_X0_takesOf, mi_X0_takesOf, mv_X0_takesOf, lk_X4_133⟩ rfl (by decide +kernel) rfl (by decide) (by decide) (Nat.le_of_ble_eq_true rfl) (fun r3 _ => ?_)
      exact GE_iret rfl (by decide +kernel)
    · refine GE_run flG_T (pc1 := 136) (L1 := [some (.inr (.inr (some (4, 0)))), some (.inl a1), some (.inl a2)]) (S1 := [.inl (-7)]) (w1 := w) (P := True) [(.bipush (-7), 0, 0, -7, 0)] (by decide +kernel) rfl trivial ?_
      exact GE_iret rfl (by decide +kernel)
  · refine GE_run flG_T (pc1 := 13) (L1 := [some (.inr (.inr (some (4, 0)))), some (.inl a1), some (.inl a2)]) (S1 := [.inl (-5)]) (w1 := w) (P := True) [(.bipush (-5), 0, 0, -5, 0)] (by decide +kernel) rfl trivial ?_
    exact GE_iret rfl (by decide +kernel)
abbrev mm_X4_lands : MI := (RX4, cX4_lands, 4, (some .int), ftp_X4.map (fun q => q.1), ctp_X4.map (fun q => q.1), clp_X4.map (fun q => q.1))
noncomputable def f_X4_lands (a1 : Int32) (a2 : Int32) (a3 : Int32) (w : Mem) : Option (Int32 × Mem) := if (hasF a1 (w 0 0 2)) = 0 then (some ((-5000), w)) else (if (rng a2 0 15) = 0 then (some ((-5000), w)) else (if a3 = 0 then (Option.bind (f_X0_letsGo 0 a1 a2 w) (fun r4 => some (r4.1, r4.2))) else (if a3 = 1 then (Option.bind (f_X0_lucksBy 0 a1 a2 w) (fun r6 => some (r6.1, r6.2))) else (some ((-7000), w)))))
set_option maxRecDepth 100000 in
theorem t_X4_lands (l : Launch) (X : XC)  (a1 : Int32) (a2 : Int32) (a3 : Int32) (w : Mem) : Ct l X 4 yX4_lands cX4_lands 4 (some .int) emI [.inr (.inr (some (4, 0))), .inl a1, .inl a2, .inl a3] 57 flT w (f_X4_lands a1 a2 a3 w) := by
  refine Ct_of (mi := mm_X4_lands) (mik_X4 _ _ _) me_X4_lands rfl (okAs_cons (by decide) (okAs_cons rfl (okAs_cons rfl (okAs_cons rfl okAs_nil)))) (Nat.le_of_ble_eq_true rfl) ?_
  unfold f_X4_lands
  refine GE_run flG_T (pc1 := 5) (L1 := [some (.inr (.inr (some (4, 0)))), some (.inl a1), some (.inl a2), some (.inl a3)]) (S1 := [.inl a1, .inr (.inr (some (0, 0)))]) (w1 := w) (P := True) [(.aload_n 0, 0, 0, 0, 0), (.getfield 28, 4, 2, 0, 0), (.iload_n 1, 0, 0, 0, 0)] (by decide +kernel) rfl trivial ?_
  refine GE_callVIp (As := [.inl a1]) (k := 0) (i := 0) (S := []) (p_X0_has l X 0 a1 (by decide) w) (by decide) ⟨me_X0_has, mi_X0_has, mv_X0_has, lk_X4_95⟩ rfl (by decide +kernel) rfl (by decide) (by decide) (Nat.le_of_ble_eq_true rfl) ?_
  refine GE_if (k := .eq) (off := 10) (tgt := 18) (by decide +kernel) (by decide) (cnd_eq _ _) (fun c1 => ?_) (fun c1 => ?_)
  · refine GE_run flG_T (pc1 := 21) (L1 := [some (.inr (.inr (some (4, 0)))), some (.inl a1), some (.inl a2), some (.inl a3)]) (S1 := [.inl (-5000)]) (w1 := w) (P := True) [(.sipush (-5000), 0, 0, -5000, 0)] (by decide +kernel) rfl trivial ?_
    exact GE_iret rfl (by decide +kernel)
  · refine GE_run flG_T (pc1 := 12) (L1 := [some (.inr (.inr (some (4, 0)))), some (.inl a1), some (.inl a2), some (.inl a3)]) (S1 := [.inl a2]) (w1 := w) (P := True) [(.iload_n 2, 0, 0, 0, 0)] (by decide +kernel) rfl trivial ?_
    refine GE_callSIp (As := [.inl a2]) (S := []) (p_X4_isThing l X a2 w) ⟨me_X4_isThing, ms_X4_isThing, lk_X4_98⟩ (by decide +kernel) rfl (by decide) (by decide) (Nat.le_of_ble_eq_true rfl) ?_
    refine GE_ifN (k := .ne) (off := 7) (tgt := 22) (by decide +kernel) (by decide) (cnd_ne _ _) (fun c2 => ?_) (fun c2 => ?_)
    · refine GE_run flG_T (pc1 := 23) (L1 := [some (.inr (.inr (some (4, 0)))), some (.inl a1), some (.inl a2), some (.inl a3)]) (S1 := [.inl a3]) (w1 := w) (P := True) [(.iload_n 3, 0, 0, 0, 0)] (by decide +kernel) rfl trivial ?_
      refine GE_ifN (k := .ne) (off := 13) (tgt := 36) (by decide +kernel) (by decide) (cnd_ne _ _) (fun c3 => ?_) (fun c3 => ?_)
      · refine GE_run flG_T (pc1 := 38) (L1 := [some (.inr (.inr (some (4, 0)))), some (.inl a1), some (.inl a2), some (.inl a3)]) (S1 := [.inl 1, .inl a3]) (w1 := w) (P := True) [(.iload_n 3, 0, 0, 0, 0), (.iconst 1, 0, 0, 1, 0)] (by decide +kernel) rfl trivial ?_
        refine GE_icmpN (k := .ne) (off := 13) (tgt := 51) (by decide +kernel) (by decide) (cnd_ne _ _) (fun c5 => ?_) (fun c5 => ?_)
        · refine GE_run flG_T (pc1 := 54) (L1 := [some (.inr (.inr (some (4, 0)))), some (.inl a1), some (.inl a2), some (.inl a3)]) (S1 := [.inl (-7000)]) (w1 := w) (P := True) [(.sipush (-7000), 0, 0, -7000, 0)] (by decide +kernel) rfl trivial ?_
          exact GE_iret rfl (by decide +kernel)
        · refine GE_run flG_T (pc1 := 47) (L1 := [some (.inr (.inr (some (4, 0)))), some (.inl a1), some (.inl a2), some (.inl a3)]) (S1 := [.inl a2, .inl a1, .inr (.inr (some (0, 0)))]) (w1 := w) (P := True) [(.aload_n 0, 0, 0, 0, 0), (.getfield 28, 4, 2, 0, 0), (.iload_n 1, 0, 0, 0, 0), (.iload_n 2, 0, 0, 0, 0)] (by decide +kernel) rfl trivial ?_
          refine GE_callVI (As := [.inl a1, .inl a2]) (k := 0) (i := 0) (S := []) (t_X0_lucksBy l X 0 a1 a2 (by decide) w) (by decide) ⟨me_X0_lucksBy, mi_X0_lucksBy, mv_X0_lucksBy, lk_X4_140⟩ rfl (by decide +kernel) rfl (by decide) (by decide) (Nat.le_of_ble_eq_true rfl) (fun r6 _ => ?_)
          exact GE_iret rfl (by decide +kernel)
      · refine GE_run flG_T (pc1 := 32) (L1 := [some (.inr (.inr (some (4, 0)))), some (.inl a1), some (.inl a2), some (.inl a3)]) (S1 := [.inl a2, .inl a1, .inr (.inr (some (0, 0)))]) (w1 := w) (P := True) [(.aload_n 0, 0, 0, 0, 0), (.getfield 28, 4, 2, 0, 0), (.iload_n 1, 0, 0, 0, 0), (.iload_n 2, 0, 0, 0, 0)] (by decide +kernel) rfl trivial ?_
        refine GE_callVI (As := [.inl a1, .inl a2]) (k := 0) (i := 0) (S := []) (t_X0_letsGo l X 0 a1 a2 (by decide) w) (by decide) ⟨me_X0_letsGo, mi_X0_letsGo, mv_X0_letsGo, lk_X4_136⟩ rfl (by decide +kernel) rfl (by decide) (by decide) (Nat.le_of_ble_eq_true rfl) (fun r4 _ => ?_)
        exact GE_iret rfl (by decide +kernel)
    · refine GE_run flG_T (pc1 := 21) (L1 := [some (.inr (.inr (some (4, 0)))), some (.inl a1), some (.inl a2), some (.inl a3)]) (S1 := [.inl (-5000)]) (w1 := w) (P := True) [(.sipush (-5000), 0, 0, -5000, 0)] (by decide +kernel) rfl trivial ?_
      exact GE_iret rfl (by decide +kernel)
abbrev mm_X4_land : MI := (RX4, cX4_land, 3, (some .int), ftp_X4.map (fun q => q.1), ctp_X4.map (fun q => q.1), clp_X4.map (fun q => q.1))
noncomputable def f_X4_land (a1 : Int32) (a2 : Int32) (w : Mem) : Option (Int32 × Mem) := if (hasF a1 (w 0 0 2)) = 0 then (some ((-5), w)) else (if (rng a2 0 15) = 0 then (some ((-6), w)) else (Option.bind (f_X0_landing 0 a1 a2 w) (fun r3 => some (r3.1, r3.2))))
set_option maxRecDepth 100000 in
theorem t_X4_land (l : Launch) (X : XC)  (a1 : Int32) (a2 : Int32) (w : Mem) : Ct l X 5 yX4_land cX4_land 3 (some .int) emI [.inr (.inr (some (4, 0))), .inl a1, .inl a2] 57 flT w (f_X4_land a1 a2 w) := by
  refine Ct_of (mi := mm_X4_land) (mik_X4 _ _ _) me_X4_land rfl (okAs_cons (by decide) (okAs_cons rfl (okAs_cons rfl okAs_nil))) (Nat.le_of_ble_eq_true rfl) ?_
  unfold f_X4_land
  refine GE_run flG_T (pc1 := 5) (L1 := [some (.inr (.inr (some (4, 0)))), some (.inl a1), some (.inl a2)]) (S1 := [.inl a1, .inr (.inr (some (0, 0)))]) (w1 := w) (P := True) [(.aload_n 0, 0, 0, 0, 0), (.getfield 28, 4, 2, 0, 0), (.iload_n 1, 0, 0, 0, 0)] (by decide +kernel) rfl trivial ?_
  refine GE_callVIp (As := [.inl a1]) (k := 0) (i := 0) (S := []) (p_X0_has l X 0 a1 (by decide) w) (by decide) ⟨me_X0_has, mi_X0_has, mv_X0_has, lk_X4_95⟩ rfl (by decide +kernel) rfl (by decide) (by decide) (Nat.le_of_ble_eq_true rfl) ?_
  refine GE_ifN (k := .ne) (off := 6) (tgt := 14) (by decide +kernel) (by decide) (cnd_ne _ _) (fun c1 => ?_) (fun c1 => ?_)
  · refine GE_run flG_T (pc1 := 15) (L1 := [some (.inr (.inr (some (4, 0)))), some (.inl a1), some (.inl a2)]) (S1 := [.inl a2]) (w1 := w) (P := True) [(.iload_n 2, 0, 0, 0, 0)] (by decide +kernel) rfl trivial ?_
    refine GE_callSIp (As := [.inl a2]) (S := []) (p_X4_isThing l X a2 w) ⟨me_X4_isThing, ms_X4_isThing, lk_X4_98⟩ (by decide +kernel) rfl (by decide) (by decide) (Nat.le_of_ble_eq_true rfl) ?_
    refine GE_ifN (k := .ne) (off := 6) (tgt := 24) (by decide +kernel) (by decide) (cnd_ne _ _) (fun c2 => ?_) (fun c2 => ?_)
    · refine GE_run flG_T (pc1 := 30) (L1 := [some (.inr (.inr (some (4, 0)))), some (.inl a1), some (.inl a2)]) (S1 := [.inl a2, .inl a1, .inr (.inr (some (0, 0)))]) (w1 := w) (P := True) [(.aload_n 0, 0, 0, 0, 0), (.getfield 28, 4, 2, 0, 0), (.iload_n 1, 0, 0, 0, 0), (.iload_n 2, 0, 0, 0, 0)] (by decide +kernel) rfl trivial ?_
      refine GE_callVI (As := [.inl a1, .inl a2]) (k := 0) (i := 0) (S := []) (t_X0_landing l X 0 a1 a2 (by decide) w) (by decide) ⟨me_X0_landing, mi_X0_landing, mv_X0_landing, lk_X4_143⟩ rfl (by decide +kernel) rfl (by decide) (by decide) (Nat.le_of_ble_eq_true rfl) (fun r3 _ => ?_)
      exact GE_iret rfl (by decide +kernel)
    · refine GE_run flG_T (pc1 := 23) (L1 := [some (.inr (.inr (some (4, 0)))), some (.inl a1), some (.inl a2)]) (S1 := [.inl (-6)]) (w1 := w) (P := True) [(.bipush (-6), 0, 0, -6, 0)] (by decide +kernel) rfl trivial ?_
      exact GE_iret rfl (by decide +kernel)
  · refine GE_run flG_T (pc1 := 13) (L1 := [some (.inr (.inr (some (4, 0)))), some (.inl a1), some (.inl a2)]) (S1 := [.inl (-5)]) (w1 := w) (P := True) [(.bipush (-5), 0, 0, -5, 0)] (by decide +kernel) rfl trivial ?_
    exact GE_iret rfl (by decide +kernel)
abbrev mm_X4_teach : MI := (RX4, cX4_teach, 4, (some .int), ftp_X4.map (fun q => q.1), ctp_X4.map (fun q => q.1), clp_X4.map (fun q => q.1))
noncomputable def f_X4_teach (a1 : Int32) (a2 : Int32) (w : Mem) : Option (Int32 × Mem) := if (hasF a1 (w 0 0 2)) = 0 then (some ((-5), w)) else (if (hasF a2 (w 0 0 2)) = 0 then (some ((-5), w)) else (if a1 = a2 then (some ((-5), w)) else (Option.bind (f_X0_learns 0 a1 a2 w) (fun r4 => Option.bind (f_X0_isTold 0 a2 r4.1 r4.2) (fun r5 => some (r4.1, r5))))))
set_option maxRecDepth 100000 in
theorem t_X4_teach (l : Launch) (X : XC)  (a1 : Int32) (a2 : Int32) (w : Mem) : Ct l X 5 yX4_teach cX4_teach 4 (some .int) emI [.inr (.inr (some (4, 0))), .inl a1, .inl a2] 57 flT w (f_X4_teach a1 a2 w) := by
  refine Ct_of (mi := mm_X4_teach) (mik_X4 _ _ _) me_X4_teach rfl (okAs_cons (by decide) (okAs_cons rfl (okAs_cons rfl okAs_nil))) (Nat.le_of_ble_eq_true rfl) ?_
  unfold f_X4_teach
  refine GE_run flG_T (pc1 := 5) (L1 := [some (.inr (.inr (some (4, 0)))), some (.inl a1), some (.inl a2), none]) (S1 := [.inl a1, .inr (.inr (some (0, 0)))]) (w1 := w) (P := True) [(.aload_n 0, 0, 0, 0, 0), (.getfield 28, 4, 2, 0, 0), (.iload_n 1, 0, 0, 0, 0)] (by decide +kernel) rfl trivial ?_
  refine GE_callVIp (As := [.inl a1]) (k := 0) (i := 0) (S := []) (p_X0_has l X 0 a1 (by decide) w) (by decide) ⟨me_X0_has, mi_X0_has, mv_X0_has, lk_X4_95⟩ rfl (by decide +kernel) rfl (by decide) (by decide) (Nat.le_of_ble_eq_true rfl) ?_
  refine GE_if (k := .eq) (off := 19) (tgt := 27) (by decide +kernel) (by decide) (cnd_eq _ _) (fun c1 => ?_) (fun c1 => ?_)
  · refine GE_run flG_T (pc1 := 29) (L1 := [some (.inr (.inr (some (4, 0)))), some (.inl a1), some (.inl a2), none]) (S1 := [.inl (-5)]) (w1 := w) (P := True) [(.bipush (-5), 0, 0, -5, 0)] (by decide +kernel) rfl trivial ?_
    exact GE_iret rfl (by decide +kernel)
  · refine GE_run flG_T (pc1 := 16) (L1 := [some (.inr (.inr (some (4, 0)))), some (.inl a1), some (.inl a2), none]) (S1 := [.inl a2, .inr (.inr (some (0, 0)))]) (w1 := w) (P := True) [(.aload_n 0, 0, 0, 0, 0), (.getfield 28, 4, 2, 0, 0), (.iload_n 2, 0, 0, 0, 0)] (by decide +kernel) rfl trivial ?_
    refine GE_callVIp (As := [.inl a2]) (k := 0) (i := 0) (S := []) (p_X0_has l X 0 a2 (by decide) w) (by decide) ⟨me_X0_has, mi_X0_has, mv_X0_has, lk_X4_95⟩ rfl (by decide +kernel) rfl (by decide) (by decide) (Nat.le_of_ble_eq_true rfl) ?_
    refine GE_if (k := .eq) (off := 8) (tgt := 27) (by decide +kernel) (by decide) (cnd_eq _ _) (fun c2 => ?_) (fun c2 => ?_)
    · refine GE_run flG_T (pc1 := 29) (L1 := [some (.inr (.inr (some (4, 0)))), some (.inl a1), some (.inl a2), none]) (S1 := [.inl (-5)]) (w1 := w) (P := True) [(.bipush (-5), 0, 0, -5, 0)] (by decide +kernel) rfl trivial ?_
      exact GE_iret rfl (by decide +kernel)
    · refine GE_run flG_T (pc1 := 24) (L1 := [some (.inr (.inr (some (4, 0)))), some (.inl a1), some (.inl a2), none]) (S1 := [.inl a2, .inl a1]) (w1 := w) (P := True) [(.iload_n 1, 0, 0, 0, 0), (.iload_n 2, 0, 0, 0, 0)] (by decide +kernel) rfl trivial ?_
      refine GE_icmpN (k := .ne) (off := 6) (tgt := 30) (by decide +kernel) (by decide) (cnd_ne _ _) (fun c3 => ?_) (fun c3 => ?_)
      · refine GE_run flG_T (pc1 := 36) (L1 := [some (.inr (.inr (some (4, 0)))), some (.inl a1), some (.inl a2), none]) (S1 := [.inl a2, .inl a1, .inr (.inr (some (0, 0)))]) (w1 := w) (P := True) [(.aload_n 0, 0, 0, 0, 0), (.getfield 28, 4, 2, 0, 0), (.iload_n 1, 0, 0, 0, 0), (.iload_n 2, 0, 0, 0, 0)] (by decide +kernel) rfl trivial ?_
        refine GE_callVI (As := [.inl a1, .inl a2]) (k := 0) (i := 0) (S := []) (t_X0_learns l X 0 a1 a2 (by decide) w) (by decide) ⟨me_X0_learns, mi_X0_learns, mv_X0_learns, lk_X4_146⟩ rfl (by decide +kernel) rfl (by decide) (by decide) (Nat.le_of_ble_eq_true rfl) (fun r4 _ => ?_)
        refine GE_run flG_T (pc1 := 46) (L1 := [some (.inr (.inr (some (4, 0)))), some (.inl a1), some (.inl a2), some (.inl r4.1)]) (S1 := [.inl r4.1, .inl a2, .inr (.inr (some (0, 0)))]) (w1 := r4.2) (P := True) [(.istore_n 3, 0, 0, 0, 0), (.aload_n 0, 0, 0, 0, 0), (.getfield 28, 4, 2, 0, 0), (.iload_n 2, 0, 0, 0, 0), (.iload_n 3, 0, 0, 0, 0)] (by decide +kernel) rfl trivial ?_
        refine GE_callVV (As := [.inl a2, .inl r4.1]) (k := 0) (i := 0) (S := []) (t_X0_isTold l X 0 a2 r4.1 (by decide) r4.2) (by decide) ⟨me_X0_isTold, mi_X0_isTold, mv_X0_isTold, lk_X4_149⟩ rfl (by decide +kernel) rfl (by decide) (by decide) (Nat.le_of_ble_eq_true rfl) (fun r5 _ => ?_)
        refine GE_run flG_T (pc1 := 50) (L1 := [some (.inr (.inr (some (4, 0)))), some (.inl a1), some (.inl a2), some (.inl r4.1)]) (S1 := [.inl r4.1]) (w1 := r5) (P := True) [(.iload_n 3, 0, 0, 0, 0)] (by decide +kernel) rfl trivial ?_
        exact GE_iret rfl (by decide +kernel)
      · refine GE_run flG_T (pc1 := 29) (L1 := [some (.inr (.inr (some (4, 0)))), some (.inl a1), some (.inl a2), none]) (S1 := [.inl (-5)]) (w1 := w) (P := True) [(.bipush (-5), 0, 0, -5, 0)] (by decide +kernel) rfl trivial ?_
        exact GE_iret rfl (by decide +kernel)
abbrev mm_X4_tide : MI := (RX4, cX4_tide, 1, (some .int), ftp_X4.map (fun q => q.1), ctp_X4.map (fun q => q.1), clp_X4.map (fun q => q.1))
noncomputable def f_X4_tide  (w : Mem) : Option (Int32 × Mem) := if (w 0 0 4) < 999 then (Option.bind (f_X0_washes 0 w) (fun r2 => some (r2.1, r2.2))) else (some ((-3), w))
set_option maxRecDepth 100000 in
theorem t_X4_tide (l : Launch) (X : XC)   (w : Mem) : Ct l X 3 yX4_tide cX4_tide 1 (some .int) emI [.inr (.inr (some (4, 0)))] 57 flT w (f_X4_tide  w) := by
  refine Ct_of (mi := mm_X4_tide) (mik_X4 _ _ _) me_X4_tide rfl (okAs_cons (by decide) okAs_nil) (Nat.le_of_ble_eq_true rfl) ?_
  unfold f_X4_tide
  refine GE_run flG_T (pc1 := 10) (L1 := [some (.inr (.inr (some (4, 0))))]) (S1 := [.inl 999, .inl (w 0 0 4)]) (w1 := w) (P := True) [(.aload_n 0, 0, 0, 0, 0), (.getfield 28, 4, 2, 0, 0), (.getfield 58, 0, 4, 0, 0), (.sipush 999, 0, 0, 999, 0)] (by decide +kernel) rfl trivial ?_
  refine GE_icmp (k := .lt) (off := 6) (tgt := 16) (by decide +kernel) (by decide) (cnd_lt _ _) (fun c1 => ?_) (fun c1 => ?_)
  · refine GE_run flG_T (pc1 := 20) (L1 := [some (.inr (.inr (some (4, 0))))]) (S1 := [.inr (.inr (some (0, 0)))]) (w1 := w) (P := True) [(.aload_n 0, 0, 0, 0, 0), (.getfield 28, 4, 2, 0, 0)] (by decide +kernel) rfl trivial ?_
    refine GE_callVI (As := []) (k := 0) (i := 0) (S := []) (t_X0_washes l X 0 (by decide) w) (by decide) ⟨me_X0_washes, mi_X0_washes, mv_X0_washes, lk_X4_153⟩ rfl (by decide +kernel) rfl (by decide) (by decide) (Nat.le_of_ble_eq_true rfl) (fun r2 _ => ?_)
    exact GE_iret rfl (by decide +kernel)
  · refine GE_run flG_T (pc1 := 15) (L1 := [some (.inr (.inr (some (4, 0))))]) (S1 := [.inl (-3)]) (w1 := w) (P := True) [(.bipush (-3), 0, 0, -3, 0)] (by decide +kernel) rfl trivial ?_
    exact GE_iret rfl (by decide +kernel)
abbrev mm_X4_talk : MI := (RX4, cX4_talk, 8, (some .int), ftp_X4.map (fun q => q.1), ctp_X4.map (fun q => q.1), clp_X4.map (fun q => q.1))
noncomputable def h_X4_talk_41 (x1 : Int32) (x2 : Int32) (k99 : Int32 → Int32 → Int32 → Mem → Option (Int32 × Mem)) : Nat → Int32 → Int32 → Int32 → Int32 → Mem → Option (Int32 × Mem)
  | 0, _, _, _, _, _ => none
  | n + 1, x3, x4, x5, x6, w => if x6 < 6 then (if (holdsF x1 x6) = 0 then ((h_X4_talk_41 x1 x2 k99 n) x3 x4 x5 (x6 + 1) w) else ((h_X4_talk_41 x1 x2 k99 n) (x3 &&& (atV w 15 0 x6)) (x4 ||| (atV w 15 0 x6)) (x5 ||| (x4 &&& (atV w 15 0 x6))) (x6 + 1) w)) else (k99 x3 x4 x5 w)
set_option maxRecDepth 100000 in
theorem h_X4_talk_41_ok (l : Launch) (X : XC) (x1 : Int32) (x2 : Int32) (k99 : Int32 → Int32 → Int32 → Mem → Option (Int32 × Mem))  (hk99 : ∀ (x3 : Int32) (x4 : Int32) (x5 : Int32) (w : Mem), GE l X mm_X4_talk 1 emI 57 flT (k99 x3 x4 x5 w) 99 [none, none, some (.inl x2), some (.inl x3), some (.inl x4), some (.inl x5), none, none] [] w) : ∀ (n : Nat) (x3 : Int32) (x4 : Int32) (x5 : Int32) (x6 : Int32) (w : Mem), GE l X mm_X4_talk 1 emI 57 flT ((h_X4_talk_41 x1 x2 k99 n) x3 x4 x5 x6 w) 41 [some (.inr (.inr (some (4, 0)))), some (.inl x1), some (.inl x2), some (.inl x3), some (.inl x4), some (.inl x5), some (.inl x6), none] [] w := by
  intro n
  induction n with
  | zero => intro x3 x4 x5 x6 w; exact GE_none
  | succ n ih =>
    intro x3 x4 x5 x6 w
    unfold h_X4_talk_41
    refine GE_run flG_T (pc1 := 45) (L1 := [some (.inr (.inr (some (4, 0)))), some (.inl x1), some (.inl x2), some (.inl x3), some (.inl x4), some (.inl x5), some (.inl x6), none]) (S1 := [.inl 6, .inl x6]) (w1 := w) (P := True) [(.iload 6, 0, 0, 0, 0), (.bipush 6, 0, 0, 6, 0)] (by decide +kernel) rfl trivial ?_
    refine GE_icmpN (k := .ge) (off := 54) (tgt := 99) (by decide +kernel) (by decide) (cnd_ge _ _) (fun c5 => ?_) (fun c5 => ?_)
    · exact GE_weak [false, false, true, true, true, true, false, false] (hk99 x3 x4 x5 w)
    · refine GE_run flG_T (pc1 := 51) (L1 := [some (.inr (.inr (some (4, 0)))), some (.inl x1), some (.inl x2), some (.inl x3), some (.inl x4), some (.inl x5), some (.inl x6), none]) (S1 := [.inl x6, .inl x1]) (w1 := w) (P := True) [(.iload_n 1, 0, 0, 0, 0), (.iload 6, 0, 0, 0, 0)] (by decide +kernel) rfl trivial ?_
      refine GE_callSIp (As := [.inl x1, .inl x6]) (S := []) (p_X4_holds l X x1 x6 w) ⟨me_X4_holds, ms_X4_holds, lk_X4_157⟩ (by decide +kernel) rfl (by decide) (by decide) (Nat.le_of_ble_eq_true rfl) ?_
      refine GE_if (k := .eq) (off := 39) (tgt := 93) (by decide +kernel) (by decide) (cnd_eq _ _) (fun c6 => ?_) (fun c6 => ?_)
      · refine GE_run flG_T (pc1 := 41) (L1 := [some (.inr (.inr (some (4, 0)))), some (.inl x1), some (.inl x2), some (.inl x3), some (.inl x4), some (.inl x5), some (.inl (x6 + 1)), none]) (S1 := []) (w1 := w) (P := True) [(.iinc 6 1, 0, 0, 1, 0), (.goto (-55), 0, 0, 0, 0)] (by decide +kernel) rfl trivial ?_
        exact GE_weak [true, true, true, true, true, true, true, false] (ih x3 x4 x5 (x6 + 1) w)
      · refine GE_run flG_T (pc1 := 66) (L1 := [some (.inr (.inr (some (4, 0)))), some (.inl x1), some (.inl x2), some (.inl x3), some (.inl x4), some (.inl x5), some (.inl x6), none]) (S1 := [.inl x6, .inr (.inr (some (15, 0)))]) (w1 := w) (P := True) [(.aload_n 0, 0, 0, 0, 0), (.getfield 28, 4, 2, 0, 0), (.getfield 108, 0, 8, 0, 0), (.iload 6, 0, 0, 0, 0)] (by decide +kernel) rfl trivial ?_
        refine GE_callSIp (As := [.inr (.inr (some (15, 0))), .inl x6]) (S := []) (p_X4_at l X 15 0 x6 (by decide) (by decide) w) ⟨me_X4_at, ms_X4_at, lk_X4_120⟩ (by decide +kernel) rfl (by decide) (by decide) (Nat.le_of_ble_eq_true rfl) ?_
        refine GE_run flG_T (pc1 := 41) (L1 := [some (.inr (.inr (some (4, 0)))), some (.inl x1), some (.inl x2), some (.inl (x3 &&& (atV w 15 0 x6))), some (.inl (x4 ||| (atV w 15 0 x6))), some (.inl (x5 ||| (x4 &&& (atV w 15 0 x6)))), some (.inl (x6 + 1)), some (.inl (atV w 15 0 x6))]) (S1 := []) (w1 := w) (P := True) [(.istore 7, 0, 0, 0, 0), (.iload 5, 0, 0, 0, 0), (.iload 4, 0, 0, 0, 0), (.iload 7, 0, 0, 0, 0), (.iand, 0, 0, 0, 0), (.ior, 0, 0, 0, 0), (.istore 5, 0, 0, 0, 0), (.iload 4, 0, 0, 0, 0), (.iload 7, 0, 0, 0, 0), (.ior, 0, 0, 0, 0), (.istore 4, 0, 0, 0, 0), (.iload_n 3, 0, 0, 0, 0), (.iload 7, 0, 0, 0, 0), (.iand, 0, 0, 0, 0), (.istore_n 3, 0, 0, 0, 0), (.iinc 6 1, 0, 0, 1, 0), (.goto (-55), 0, 0, 0, 0)] (by decide +kernel) rfl trivial ?_
        exact GE_weak [true, true, true, true, true, true, true, false] (ih (x3 &&& (atV w 15 0 x6)) (x4 ||| (atV w 15 0 x6)) (x5 ||| (x4 &&& (atV w 15 0 x6))) (x6 + 1) w)
noncomputable def f_X4_talk (a1 : Int32) (a2 : Int32) (w : Mem) : Option (Int32 × Mem) := if a1 < 0 then (some ((-2), w)) else (if a1 < (shlI 1 (w 0 0 2)) then (if a2 < 0 then (some ((-2), w)) else (if a2 ≤ 3 then (h_X4_talk_41 a1 a2 (fun x3_7 x4_8 x5_9 w10 => swE a2 0 [some (x3_7, w10), some (x4_8, w10), some (65535 &&& (x4_8 ^^^ (-1)), w10)] (some (x4_8 &&& (x5_9 ^^^ (-1)), w10))) FU 65535 0 0 0 w) else (some ((-2), w)))) else (some ((-2), w)))
set_option maxRecDepth 100000 in
theorem t_X4_talk (l : Launch) (X : XC)  (a1 : Int32) (a2 : Int32) (w : Mem) : Ct l X 1 yX4_talk cX4_talk 8 (some .int) emI [.inr (.inr (some (4, 0))), .inl a1, .inl a2] 57 flT w (f_X4_talk a1 a2 w) := by
  refine Ct_of (mi := mm_X4_talk) (mik_X4 _ _ _) me_X4_talk rfl (okAs_cons (by decide) (okAs_cons rfl (okAs_cons rfl okAs_nil))) (Nat.le_of_ble_eq_true rfl) ?_
  unfold f_X4_talk
  refine GE_run flG_T (pc1 := 1) (L1 := [some (.inr (.inr (some (4, 0)))), some (.inl a1), some (.inl a2), none, none, none, none, none]) (S1 := [.inl a1]) (w1 := w) (P := True) [(.iload_n 1, 0, 0, 0, 0)] (by decide +kernel) rfl trivial ?_
  refine GE_if (k := .lt) (off := 25) (tgt := 26) (by decide +kernel) (by decide) (cnd_lt _ _) (fun c1 => ?_) (fun c1 => ?_)
  · refine GE_run flG_T (pc1 := 28) (L1 := [some (.inr (.inr (some (4, 0)))), some (.inl a1), some (.inl a2), none, none, none, none, none]) (S1 := [.inl (-2)]) (w1 := w) (P := True) [(.bipush (-2), 0, 0, -2, 0)] (by decide +kernel) rfl trivial ?_
    exact GE_iret rfl (by decide +kernel)
  · refine GE_run flG_T (pc1 := 14) (L1 := [some (.inr (.inr (some (4, 0)))), some (.inl a1), some (.inl a2), none, none, none, none, none]) (S1 := [.inl (shlI 1 (w 0 0 2)), .inl a1]) (w1 := w) (P := True) [(.iload_n 1, 0, 0, 0, 0), (.iconst 1, 0, 0, 1, 0), (.aload_n 0, 0, 0, 0, 0), (.getfield 28, 4, 2, 0, 0), (.getfield 45, 0, 2, 0, 0), (.ishl, 0, 0, 0, 0)] (by decide +kernel) rfl trivial ?_
    refine GE_icmpN (k := .ge) (off := 12) (tgt := 26) (by decide +kernel) (by decide) (cnd_ge _ _) (fun c2 => ?_) (fun c2 => ?_)
    · refine GE_run flG_T (pc1 := 28) (L1 := [some (.inr (.inr (some (4, 0)))), some (.inl a1), some (.inl a2), none, none, none, none, none]) (S1 := [.inl (-2)]) (w1 := w) (P := True) [(.bipush (-2), 0, 0, -2, 0)] (by decide +kernel) rfl trivial ?_
      exact GE_iret rfl (by decide +kernel)
    · refine GE_run flG_T (pc1 := 18) (L1 := [some (.inr (.inr (some (4, 0)))), some (.inl a1), some (.inl a2), none, none, none, none, none]) (S1 := [.inl a2]) (w1 := w) (P := True) [(.iload_n 2, 0, 0, 0, 0)] (by decide +kernel) rfl trivial ?_
      refine GE_if (k := .lt) (off := 8) (tgt := 26) (by decide +kernel) (by decide) (cnd_lt _ _) (fun c3 => ?_) (fun c3 => ?_)
      · refine GE_run flG_T (pc1 := 28) (L1 := [some (.inr (.inr (some (4, 0)))), some (.inl a1), some (.inl a2), none, none, none, none, none]) (S1 := [.inl (-2)]) (w1 := w) (P := True) [(.bipush (-2), 0, 0, -2, 0)] (by decide +kernel) rfl trivial ?_
        exact GE_iret rfl (by decide +kernel)
      · refine GE_run flG_T (pc1 := 23) (L1 := [some (.inr (.inr (some (4, 0)))), some (.inl a1), some (.inl a2), none, none, none, none, none]) (S1 := [.inl 3, .inl a2]) (w1 := w) (P := True) [(.iload_n 2, 0, 0, 0, 0), (.iconst 3, 0, 0, 3, 0)] (by decide +kernel) rfl trivial ?_
        refine GE_icmp (k := .le) (off := 6) (tgt := 29) (by decide +kernel) (by decide) (cnd_le _ _) (fun c4 => ?_) (fun c4 => ?_)
        · refine GE_run flG_T (pc1 := 41) (L1 := [some (.inr (.inr (some (4, 0)))), some (.inl a1), some (.inl a2), some (.inl 65535), some (.inl 0), some (.inl 0), some (.inl 0), none]) (S1 := []) (w1 := w) (P := True) [(.ldc 156, 0, 0, 65535, 0), (.istore_n 3, 0, 0, 0, 0), (.iconst 0, 0, 0, 0, 0), (.istore 4, 0, 0, 0, 0), (.iconst 0, 0, 0, 0, 0), (.istore 5, 0, 0, 0, 0), (.iconst 0, 0, 0, 0, 0), (.istore 6, 0, 0, 0, 0)] (by decide +kernel) rfl trivial ?_
          refine GE_weak [true, true, true, true, true, true, true, false] (h_X4_talk_41_ok l X a1 a2 _ ?_ FU 65535 0 0 0 w)
          · intro x3_7 x4_8 x5_9 w10
            refine GE_run flG_T (pc1 := 100) (L1 := [none, none, some (.inl a2), some (.inl x3_7), some (.inl x4_8), some (.inl x5_9), none, none]) (S1 := [.inl a2]) (w1 := w10) (P := True) [(.iload_n 2, 0, 0, 0, 0)] (by decide +kernel) rfl trivial ?_
            refine GE_swm (dflt := 41) (lo := 0) (hi := 2) (offs := #[28, 30, 33]) (len := 28) (dt := 141) (mm := 3) [128, 130, 133] (by decide +kernel) rfl (by decide +kernel) (And.intro (fun _ => ?_) (And.intro (fun _ => ?_) (And.intro (fun _ => ?_) (trivial)))) ?_
            · refine GE_run flG_T (pc1 := 129) (L1 := [none, none, some (.inl a2), some (.inl x3_7), some (.inl x4_8), some (.inl x5_9), none, none]) (S1 := [.inl x3_7]) (w1 := w10) (P := True) [(.iload_n 3, 0, 0, 0, 0)] (by decide +kernel) rfl trivial ?_
              exact GE_iret rfl (by decide +kernel)
            · refine GE_run flG_T (pc1 := 132) (L1 := [none, none, some (.inl a2), some (.inl x3_7), some (.inl x4_8), some (.inl x5_9), none, none]) (S1 := [.inl x4_8]) (w1 := w10) (P := True) [(.iload 4, 0, 0, 0, 0)] (by decide +kernel) rfl trivial ?_
              exact GE_iret rfl (by decide +kernel)
            · refine GE_run flG_T (pc1 := 140) (L1 := [none, none, some (.inl a2), some (.inl x3_7), some (.inl x4_8), some (.inl x5_9), none, none]) (S1 := [.inl (65535 &&& (x4_8 ^^^ (-1)))]) (w1 := w10) (P := True) [(.ldc 156, 0, 0, 65535, 0), (.iload 4, 0, 0, 0, 0), (.iconst (-1), 0, 0, -1, 0), (.ixor, 0, 0, 0, 0), (.iand, 0, 0, 0, 0)] (by decide +kernel) rfl trivial ?_
              exact GE_iret rfl (by decide +kernel)
            · refine GE_run flG_T (pc1 := 148) (L1 := [none, none, some (.inl a2), some (.inl x3_7), some (.inl x4_8), some (.inl x5_9), none, none]) (S1 := [.inl (x4_8 &&& (x5_9 ^^^ (-1)))]) (w1 := w10) (P := True) [(.iload 4, 0, 0, 0, 0), (.iload 5, 0, 0, 0, 0), (.iconst (-1), 0, 0, -1, 0), (.ixor, 0, 0, 0, 0), (.iand, 0, 0, 0, 0)] (by decide +kernel) rfl trivial ?_
              exact GE_iret rfl (by decide +kernel)
        · refine GE_run flG_T (pc1 := 28) (L1 := [some (.inr (.inr (some (4, 0)))), some (.inl a1), some (.inl a2), none, none, none, none, none]) (S1 := [.inl (-2)]) (w1 := w) (P := True) [(.bipush (-2), 0, 0, -2, 0)] (by decide +kernel) rfl trivial ?_
          exact GE_iret rfl (by decide +kernel)
