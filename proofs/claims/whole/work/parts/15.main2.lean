/-! the class, second half -/
abbrev mm_X4_season : MI := (RX4, cX4_season, 6, (some .int), ftp_X4.map (fun q => q.1), ctp_X4.map (fun q => q.1), clp_X4.map (fun q => q.1))
noncomputable def f_X4_season (a1 : Int32) (a2 : Int32) (a3 : Int32) (w : Mem) : Option (Int32 × Mem) := Option.bind (f_X4_refusedSeason a1 a2 w) (fun r1 => if r1.1 = 0 then (if a3 < 0 then (some ((-7), r1.2)) else (if a3 ≤ 4 then (Option.bind (f_X0_become 1 0 r1.2) (fun r5 => Option.bind (f_X4_goes 1 a1 a2 r5) (fun r6 => swE a3 0 [some (bcF (atV r6.2 15 1 a2), r6.2), some (atV r6.2 17 1 a2, r6.2), some (r6.2 0 1 3, r6.2), some (r6.1, r6.2)] (Option.bind (f_X0_nameless 1 a2 r6.2) (fun r7 => some (r7.1, r7.2)))))) else (some ((-7), r1.2)))) else (some (r1.1, r1.2)))
set_option maxRecDepth 100000 in
theorem t_X4_season (l : Launch) (X : XC)  (a1 : Int32) (a2 : Int32) (a3 : Int32) (w : Mem) : Ct l X 6 yX4_season cX4_season 6 (some .int) emI [.inr (.inr (some (4, 0))), .inl a1, .inl a2, .inl a3] 57 flT w (f_X4_season a1 a2 a3 w) := by
  refine Ct_of (mi := mm_X4_season) (mik_X4 _ _ _) me_X4_season rfl (okAs_cons (by decide) (okAs_cons rfl (okAs_cons rfl (okAs_cons rfl okAs_nil)))) (Nat.le_of_ble_eq_true rfl) ?_
  unfold f_X4_season
  refine GE_run flG_T (pc1 := 3) (L1 := [some (.inr (.inr (some (4, 0)))), some (.inl a1), some (.inl a2), some (.inl a3), none, none]) (S1 := [.inl a2, .inl a1, .inr (.inr (some (4, 0)))]) (w1 := w) (P := True) [(.aload_n 0, 0, 0, 0, 0), (.iload_n 1, 0, 0, 0, 0), (.iload_n 2, 0, 0, 0, 0)] (by decide +kernel) rfl trivial ?_
  refine GE_callVI (As := [.inl a1, .inl a2]) (k := 4) (i := 0) (S := []) (t_X4_refusedSeason l X a1 a2 w) (by decide) ⟨me_X4_refusedSeason, mi_X4_refusedSeason, mv_X4_refusedSeason, lk_X4_161⟩ rfl (by decide +kernel) rfl (by decide) (by decide) (Nat.le_of_ble_eq_true rfl) (fun r1 _ => ?_)
  refine GE_run flG_T (pc1 := 10) (L1 := [some (.inr (.inr (some (4, 0)))), some (.inl a1), some (.inl a2), some (.inl a3), some (.inl r1.1), none]) (S1 := [.inl r1.1]) (w1 := r1.2) (P := True) [(.istore 4, 0, 0, 0, 0), (.iload 4, 0, 0, 0, 0)] (by decide +kernel) rfl trivial ?_
  refine GE_if (k := .eq) (off := 6) (tgt := 16) (by decide +kernel) (by decide) (cnd_eq _ _) (fun c2 => ?_) (fun c2 => ?_)
  · refine GE_run flG_T (pc1 := 17) (L1 := [some (.inr (.inr (some (4, 0)))), some (.inl a1), some (.inl a2), some (.inl a3), some (.inl r1.1), none]) (S1 := [.inl a3]) (w1 := r1.2) (P := True) [(.iload_n 3, 0, 0, 0, 0)] (by decide +kernel) rfl trivial ?_
    refine GE_if (k := .lt) (off := 8) (tgt := 25) (by decide +kernel) (by decide) (cnd_lt _ _) (fun c3 => ?_) (fun c3 => ?_)
    · refine GE_run flG_T (pc1 := 27) (L1 := [some (.inr (.inr (some (4, 0)))), some (.inl a1), some (.inl a2), some (.inl a3), some (.inl r1.1), none]) (S1 := [.inl (-7)]) (w1 := r1.2) (P := True) [(.bipush (-7), 0, 0, -7, 0)] (by decide +kernel) rfl trivial ?_
      exact GE_iret rfl (by decide +kernel)
    · refine GE_run flG_T (pc1 := 22) (L1 := [some (.inr (.inr (some (4, 0)))), some (.inl a1), some (.inl a2), some (.inl a3), some (.inl r1.1), none]) (S1 := [.inl 4, .inl a3]) (w1 := r1.2) (P := True) [(.iload_n 3, 0, 0, 0, 0), (.iconst 4, 0, 0, 4, 0)] (by decide +kernel) rfl trivial ?_
      refine GE_icmp (k := .le) (off := 6) (tgt := 28) (by decide +kernel) (by decide) (cnd_le _ _) (fun c4 => ?_) (fun c4 => ?_)
      · refine GE_run flG_T (pc1 := 36) (L1 := [some (.inr (.inr (some (4, 0)))), some (.inl a1), some (.inl a2), some (.inl a3), some (.inl r1.1), none]) (S1 := [.inr (.inr (some (0, 0))), .inr (.inr (some (0, 1)))]) (w1 := r1.2) (P := True) [(.aload_n 0, 0, 0, 0, 0), (.getfield 32, 4, 3, 0, 0), (.aload_n 0, 0, 0, 0, 0), (.getfield 28, 4, 2, 0, 0)] (by decide +kernel) rfl trivial ?_
        refine GE_callVV (As := [.inr (.inr (some (0, 0)))]) (k := 0) (i := 1) (S := []) (t_X0_become l X 1 0 (by decide) (by decide) r1.2) (by decide) ⟨me_X0_become, mi_X0_become, mv_X0_become, lk_X4_164⟩ rfl (by decide +kernel) rfl (by decide) (by decide) (Nat.le_of_ble_eq_true rfl) (fun r5 _ => ?_)
        refine GE_run flG_T (pc1 := 46) (L1 := [some (.inr (.inr (some (4, 0)))), some (.inl a1), some (.inl a2), some (.inl a3), some (.inl r1.1), none]) (S1 := [.inl a2, .inl a1, .inr (.inr (some (0, 1))), .inr (.inr (some (4, 0)))]) (w1 := r5) (P := True) [(.aload_n 0, 0, 0, 0, 0), (.aload_n 0, 0, 0, 0, 0), (.getfield 32, 4, 3, 0, 0), (.iload_n 1, 0, 0, 0, 0), (.iload_n 2, 0, 0, 0, 0)] (by decide +kernel) rfl trivial ?_
        refine GE_callVI (As := [.inr (.inr (some (0, 1))), .inl a1, .inl a2]) (k := 4) (i := 0) (S := []) (t_X4_goes l X 1 a1 a2 (by decide) r5) (by decide) ⟨me_X4_goes, mi_X4_goes, mv_X4_goes, lk_X4_168⟩ rfl (by decide +kernel) rfl (by decide) (by decide) (Nat.le_of_ble_eq_true rfl) (fun r6 _ => ?_)
        refine GE_run flG_T (pc1 := 52) (L1 := [some (.inr (.inr (some (4, 0)))), some (.inl a1), some (.inl a2), some (.inl a3), some (.inl r1.1), some (.inl r6.1)]) (S1 := [.inl a3]) (w1 := r6.2) (P := True) [(.istore 5, 0, 0, 0, 0), (.iload_n 3, 0, 0, 0, 0)] (by decide +kernel) rfl trivial ?_
        refine GE_swm (dflt := 70) (lo := 0) (hi := 3) (offs := #[32, 47, 59, 67]) (len := 32) (dt := 122) (mm := 4) [84, 99, 111, 119] (by decide +kernel) rfl (by decide +kernel) (And.intro (fun _ => ?_) (And.intro (fun _ => ?_) (And.intro (fun _ => ?_) (And.intro (fun _ => ?_) (trivial))))) ?_
        · refine GE_run flG_T (pc1 := 92) (L1 := [some (.inr (.inr (some (4, 0)))), some (.inl a1), some (.inl a2), some (.inl a3), some (.inl r1.1), some (.inl r6.1)]) (S1 := [.inl a2, .inr (.inr (some (15, 1)))]) (w1 := r6.2) (P := True) [(.aload_n 0, 0, 0, 0, 0), (.getfield 32, 4, 3, 0, 0), (.getfield 108, 0, 8, 0, 0), (.iload_n 2, 0, 0, 0, 0)] (by decide +kernel) rfl trivial ?_
          refine GE_callSIp (As := [.inr (.inr (some (15, 1))), .inl a2]) (S := []) (p_X4_at l X 15 1 a2 (by decide) (by decide) r6.2) ⟨me_X4_at, ms_X4_at, lk_X4_120⟩ (by decide +kernel) rfl (by decide) (by decide) (Nat.le_of_ble_eq_true rfl) ?_
          refine GE_callSIp (As := [.inl (atV r6.2 15 1 a2)]) (S := []) (p_J6_bitCount l X (atV r6.2 15 1 a2) r6.2) ⟨me_J6_bitCount_0f7a4, ms_J6_bitCount_0f7a4, lk_X4_52⟩ (by decide +kernel) rfl (by decide) (by decide) (Nat.le_of_ble_eq_true rfl) ?_
          exact GE_iret rfl (by decide +kernel)
        · refine GE_run flG_T (pc1 := 107) (L1 := [some (.inr (.inr (some (4, 0)))), some (.inl a1), some (.inl a2), some (.inl a3), some (.inl r1.1), some (.inl r6.1)]) (S1 := [.inl a2, .inr (.inr (some (17, 1)))]) (w1 := r6.2) (P := True) [(.aload_n 0, 0, 0, 0, 0), (.getfield 32, 4, 3, 0, 0), (.getfield 117, 0, 10, 0, 0), (.iload_n 2, 0, 0, 0, 0)] (by decide +kernel) rfl trivial ?_
          refine GE_callSIp (As := [.inr (.inr (some (17, 1))), .inl a2]) (S := []) (p_X4_at l X 17 1 a2 (by decide) (by decide) r6.2) ⟨me_X4_at, ms_X4_at, lk_X4_120⟩ (by decide +kernel) rfl (by decide) (by decide) (Nat.le_of_ble_eq_true rfl) ?_
          exact GE_iret rfl (by decide +kernel)
        · refine GE_run flG_T (pc1 := 118) (L1 := [some (.inr (.inr (some (4, 0)))), some (.inl a1), some (.inl a2), some (.inl a3), some (.inl r1.1), some (.inl r6.1)]) (S1 := [.inl (r6.2 0 1 3)]) (w1 := r6.2) (P := True) [(.aload_n 0, 0, 0, 0, 0), (.getfield 32, 4, 3, 0, 0), (.getfield 49, 0, 3, 0, 0)] (by decide +kernel) rfl trivial ?_
          exact GE_iret rfl (by decide +kernel)
        · refine GE_run flG_T (pc1 := 121) (L1 := [some (.inr (.inr (some (4, 0)))), some (.inl a1), some (.inl a2), some (.inl a3), some (.inl r1.1), some (.inl r6.1)]) (S1 := [.inl r6.1]) (w1 := r6.2) (P := True) [(.iload 5, 0, 0, 0, 0)] (by decide +kernel) rfl trivial ?_
          exact GE_iret rfl (by decide +kernel)
        · refine GE_run flG_T (pc1 := 127) (L1 := [some (.inr (.inr (some (4, 0)))), some (.inl a1), some (.inl a2), some (.inl a3), some (.inl r1.1), some (.inl r6.1)]) (S1 := [.inl a2, .inr (.inr (some (0, 1)))]) (w1 := r6.2) (P := True) [(.aload_n 0, 0, 0, 0, 0), (.getfield 32, 4, 3, 0, 0), (.iload_n 2, 0, 0, 0, 0)] (by decide +kernel) rfl trivial ?_
          refine GE_callVI (As := [.inl a2]) (k := 0) (i := 1) (S := []) (t_X0_nameless l X 1 a2 (by decide) r6.2) (by decide) ⟨me_X0_nameless, mi_X0_nameless, mv_X0_nameless, lk_X4_130⟩ rfl (by decide +kernel) rfl (by decide) (by decide) (Nat.le_of_ble_eq_true rfl) (fun r7 _ => ?_)
          exact GE_iret rfl (by decide +kernel)
      · refine GE_run flG_T (pc1 := 27) (L1 := [some (.inr (.inr (some (4, 0)))), some (.inl a1), some (.inl a2), some (.inl a3), some (.inl r1.1), none]) (S1 := [.inl (-7)]) (w1 := r1.2) (P := True) [(.bipush (-7), 0, 0, -7, 0)] (by decide +kernel) rfl trivial ?_
        exact GE_iret rfl (by decide +kernel)
  · refine GE_run flG_T (pc1 := 15) (L1 := [some (.inr (.inr (some (4, 0)))), some (.inl a1), some (.inl a2), some (.inl a3), some (.inl r1.1), none]) (S1 := [.inl r1.1]) (w1 := r1.2) (P := True) [(.iload 4, 0, 0, 0, 0)] (by decide +kernel) rfl trivial ?_
    exact GE_iret rfl (by decide +kernel)
abbrev mm_X4_fish : MI := (RX4, cX4_fish, 4, (some .int), ftp_X4.map (fun q => q.1), ctp_X4.map (fun q => q.1), clp_X4.map (fun q => q.1))
noncomputable def f_X4_fish (a1 : Int32) (a2 : Int32) (w : Mem) : Option (Int32 × Mem) := Option.bind (f_X4_refusedSeason a1 a2 w) (fun r1 => if r1.1 = 0 then (Option.bind (f_X4_sizeOf a1 r1.2) (fun r3 => if ((r1.2 0 0 4) + r3.1) ≤ 999 then (Option.bind (f_X4_goes 0 a1 a2 r3.2) (fun r5 => some (bcF (atV r5.2 15 0 a2), r5.2))) else (some ((-3), r3.2)))) else (some (r1.1, r1.2)))
set_option maxRecDepth 100000 in
theorem t_X4_fish (l : Launch) (X : XC)  (a1 : Int32) (a2 : Int32) (w : Mem) : Ct l X 6 yX4_fish cX4_fish 4 (some .int) emI [.inr (.inr (some (4, 0))), .inl a1, .inl a2] 57 flT w (f_X4_fish a1 a2 w) := by
  refine Ct_of (mi := mm_X4_fish) (mik_X4 _ _ _) me_X4_fish rfl (okAs_cons (by decide) (okAs_cons rfl (okAs_cons rfl okAs_nil))) (Nat.le_of_ble_eq_true rfl) ?_
  unfold f_X4_fish
  refine GE_run flG_T (pc1 := 3) (L1 := [some (.inr (.inr (some (4, 0)))), some (.inl a1), some (.inl a2), none]) (S1 := [.inl a2, .inl a1, .inr (.inr (some (4, 0)))]) (w1 := w) (P := True) [(.aload_n 0, 0, 0, 0, 0), (.iload_n 1, 0, 0, 0, 0), (.iload_n 2, 0, 0, 0, 0)] (by decide +kernel) rfl trivial ?_
  refine GE_callVI (As := [.inl a1, .inl a2]) (k := 4) (i := 0) (S := []) (t_X4_refusedSeason l X a1 a2 w) (by decide) ⟨me_X4_refusedSeason, mi_X4_refusedSeason, mv_X4_refusedSeason, lk_X4_161⟩ rfl (by decide +kernel) rfl (by decide) (by decide) (Nat.le_of_ble_eq_true rfl) (fun r1 _ => ?_)
  refine GE_run flG_T (pc1 := 8) (L1 := [some (.inr (.inr (some (4, 0)))), some (.inl a1), some (.inl a2), some (.inl r1.1)]) (S1 := [.inl r1.1]) (w1 := r1.2) (P := True) [(.istore_n 3, 0, 0, 0, 0), (.iload_n 3, 0, 0, 0, 0)] (by decide +kernel) rfl trivial ?_
  refine GE_if (k := .eq) (off := 5) (tgt := 13) (by decide +kernel) (by decide) (cnd_eq _ _) (fun c2 => ?_) (fun c2 => ?_)
  · refine GE_run flG_T (pc1 := 22) (L1 := [some (.inr (.inr (some (4, 0)))), some (.inl a1), some (.inl a2), some (.inl r1.1)]) (S1 := [.inl a1, .inr (.inr (some (4, 0))), .inl (r1.2 0 0 4)]) (w1 := r1.2) (P := True) [(.aload_n 0, 0, 0, 0, 0), (.getfield 28, 4, 2, 0, 0), (.getfield 58, 0, 4, 0, 0), (.aload_n 0, 0, 0, 0, 0), (.iload_n 1, 0, 0, 0, 0)] (by decide +kernel) rfl trivial ?_
    refine GE_callVI (As := [.inl a1]) (k := 4) (i := 0) (S := [.inl (r1.2 0 0 4)]) (t_X4_sizeOf l X a1 r1.2) (by decide) ⟨me_X4_sizeOf, mi_X4_sizeOf, mv_X4_sizeOf, lk_X4_172⟩ rfl (by decide +kernel) rfl (by decide) (by decide) (Nat.le_of_ble_eq_true rfl) (fun r3 _ => ?_)
    refine GE_run flG_T (pc1 := 29) (L1 := [some (.inr (.inr (some (4, 0)))), some (.inl a1), some (.inl a2), some (.inl r1.1)]) (S1 := [.inl 999, .inl ((r1.2 0 0 4) + r3.1)]) (w1 := r3.2) (P := True) [(.iadd, 0, 0, 0, 0), (.sipush 999, 0, 0, 999, 0)] (by decide +kernel) rfl trivial ?_
    refine GE_icmp (k := .le) (off := 6) (tgt := 35) (by decide +kernel) (by decide) (cnd_le _ _) (fun c4 => ?_) (fun c4 => ?_)
    · refine GE_run flG_T (pc1 := 42) (L1 := [some (.inr (.inr (some (4, 0)))), some (.inl a1), some (.inl a2), some (.inl r1.1)]) (S1 := [.inl a2, .inl a1, .inr (.inr (some (0, 0))), .inr (.inr (some (4, 0)))]) (w1 := r3.2) (P := True) [(.aload_n 0, 0, 0, 0, 0), (.aload_n 0, 0, 0, 0, 0), (.getfield 28, 4, 2, 0, 0), (.iload_n 1, 0, 0, 0, 0), (.iload_n 2, 0, 0, 0, 0)] (by decide +kernel) rfl trivial ?_
      refine GE_callVI (As := [.inr (.inr (some (0, 0))), .inl a1, .inl a2]) (k := 4) (i := 0) (S := []) (t_X4_goes l X 0 a1 a2 (by decide) r3.2) (by decide) ⟨me_X4_goes, mi_X4_goes, mv_X4_goes, lk_X4_168⟩ rfl (by decide +kernel) rfl (by decide) (by decide) (Nat.le_of_ble_eq_true rfl) (fun r5 _ => ?_)
      refine GE_run flG_T (pc1 := 54) (L1 := [some (.inr (.inr (some (4, 0)))), some (.inl a1), some (.inl a2), some (.inl r1.1)]) (S1 := [.inl a2, .inr (.inr (some (15, 0)))]) (w1 := r5.2) (P := True) [(.pop, 0, 0, 0, 0), (.aload_n 0, 0, 0, 0, 0), (.getfield 28, 4, 2, 0, 0), (.getfield 108, 0, 8, 0, 0), (.iload_n 2, 0, 0, 0, 0)] (by decide +kernel) rfl trivial ?_
      refine GE_callSIp (As := [.inr (.inr (some (15, 0))), .inl a2]) (S := []) (p_X4_at l X 15 0 a2 (by decide) (by decide) r5.2) ⟨me_X4_at, ms_X4_at, lk_X4_120⟩ (by decide +kernel) rfl (by decide) (by decide) (Nat.le_of_ble_eq_true rfl) ?_
      refine GE_callSIp (As := [.inl (atV r5.2 15 0 a2)]) (S := []) (p_J6_bitCount l X (atV r5.2 15 0 a2) r5.2) ⟨me_J6_bitCount_0f7a4, ms_J6_bitCount_0f7a4, lk_X4_52⟩ (by decide +kernel) rfl (by decide) (by decide) (Nat.le_of_ble_eq_true rfl) ?_
      exact GE_iret rfl (by decide +kernel)
    · refine GE_run flG_T (pc1 := 34) (L1 := [some (.inr (.inr (some (4, 0)))), some (.inl a1), some (.inl a2), some (.inl r1.1)]) (S1 := [.inl (-3)]) (w1 := r3.2) (P := True) [(.bipush (-3), 0, 0, -3, 0)] (by decide +kernel) rfl trivial ?_
      exact GE_iret rfl (by decide +kernel)
  · refine GE_run flG_T (pc1 := 12) (L1 := [some (.inr (.inr (some (4, 0)))), some (.inl a1), some (.inl a2), some (.inl r1.1)]) (S1 := [.inl r1.1]) (w1 := r1.2) (P := True) [(.iload_n 3, 0, 0, 0, 0)] (by decide +kernel) rfl trivial ?_
    exact GE_iret rfl (by decide +kernel)
abbrev mm_X4_which : MI := (RX4, cX4_which, 7, (some .int), ftp_X4.map (fun q => q.1), ctp_X4.map (fun q => q.1), clp_X4.map (fun q => q.1))
noncomputable def j_X4_which_111  (kl44 : Int32 → Int32 → Int32 → Mem → Option (Int32 × Mem)) (x1 : Int32) (x2 : Int32) (x5 : Int32) (x6 : Int32) (w : Mem) : Option (Int32 × Mem) := kl44 x5 x6 (x5 + 1) w
set_option maxRecDepth 100000 in
theorem j_X4_which_111_ok (l : Launch) (X : XC)  (kl44 : Int32 → Int32 → Int32 → Mem → Option (Int32 × Mem)) (x1 : Int32) (x2 : Int32) (x5 : Int32) (x6 : Int32)  (ih : ∀ (x3 : Int32) (x4 : Int32) (x5 : Int32) (w : Mem), GE l X mm_X4_which 4 emI 57 flT (kl44 x3 x4 x5 w) 44 [some (.inr (.inr (some (4, 0)))), some (.inl x1), some (.inl x2), some (.inl x3), some (.inl x4), some (.inl x5), none] [] w) (w : Mem) : GE l X mm_X4_which 4 emI 57 flT (j_X4_which_111 kl44 x1 x2 x5 x6 w) 111 [some (.inr (.inr (some (4, 0)))), some (.inl x1), some (.inl x2), none, none, some (.inl x5), some (.inl x6)] [] w := by
  unfold j_X4_which_111
  refine GE_run flG_T (pc1 := 44) (L1 := [some (.inr (.inr (some (4, 0)))), some (.inl x1), some (.inl x2), some (.inl x5), some (.inl x6), some (.inl (x5 + 1)), some (.inl x6)]) (S1 := []) (w1 := w) (P := True) [(.iload 5, 0, 0, 0, 0), (.istore_n 3, 0, 0, 0, 0), (.iload 6, 0, 0, 0, 0), (.istore 4, 0, 0, 0, 0), (.iinc 5 1, 0, 0, 1, 0), (.goto (-77), 0, 0, 0, 0)] (by decide +kernel) rfl trivial ?_
  exact GE_weak [true, true, true, true, true, true, false] (ih x5 x6 (x5 + 1) w)
noncomputable def h_X4_which_44 (x1 : Int32) (x2 : Int32) (k124 : Int32 → Int32 → Mem → Option (Int32 × Mem)) : Nat → Int32 → Int32 → Int32 → Mem → Option (Int32 × Mem)
  | 0, _, _, _, _ => none
  | n + 1, x3, x4, x5, w => if x5 < 16 then (if (holdsF (atV w 16 0 x1) x5) = 0 then (Option.bind (f_X0_lucksBy 0 x1 x5 w) (fun r5 => if x3 < 0 then (j_X4_which_111 (h_X4_which_44 x1 x2 k124 n) x1 x2 x5 (wiF ((atV w 17 0 x1) + r5.1) 0 99) r5.2) else (if (wiF ((atV w 17 0 x1) + r5.1) 0 99) ≤ x4 then ((h_X4_which_44 x1 x2 k124 n) x3 x4 (x5 + 1) r5.2) else (j_X4_which_111 (h_X4_which_44 x1 x2 k124 n) x1 x2 x5 (wiF ((atV w 17 0 x1) + r5.1) 0 99) r5.2)))) else ((h_X4_which_44 x1 x2 k124 n) x3 x4 (x5 + 1) w)) else (k124 x3 x4 w)
set_option maxRecDepth 100000 in
theorem h_X4_which_44_ok (l : Launch) (X : XC) (x1 : Int32) (x2 : Int32) (k124 : Int32 → Int32 → Mem → Option (Int32 × Mem))  (hk124 : ∀ (x3 : Int32) (x4 : Int32) (w : Mem), GE l X mm_X4_which 4 emI 57 flT (k124 x3 x4 w) 124 [none, none, some (.inl x2), some (.inl x3), some (.inl x4), none, none] [] w) : ∀ (n : Nat) (x3 : Int32) (x4 : Int32) (x5 : Int32) (w : Mem), GE l X mm_X4_which 4 emI 57 flT ((h_X4_which_44 x1 x2 k124 n) x3 x4 x5 w) 44 [some (.inr (.inr (some (4, 0)))), some (.inl x1), some (.inl x2), some (.inl x3), some (.inl x4), some (.inl x5), none] [] w := by
  intro n
  induction n with
  | zero => intro x3 x4 x5 w; exact GE_none
  | succ n ih =>
    intro x3 x4 x5 w
    unfold h_X4_which_44
    refine GE_run flG_T (pc1 := 48) (L1 := [some (.inr (.inr (some (4, 0)))), some (.inl x1), some (.inl x2), some (.inl x3), some (.inl x4), some (.inl x5), none]) (S1 := [.inl 16, .inl x5]) (w1 := w) (P := True) [(.iload 5, 0, 0, 0, 0), (.bipush 16, 0, 0, 16, 0)] (by decide +kernel) rfl trivial ?_
    refine GE_icmpN (k := .ge) (off := 76) (tgt := 124) (by decide +kernel) (by decide) (cnd_ge _ _) (fun c3 => ?_) (fun c3 => ?_)
    · exact GE_weak [false, false, true, true, true, false, false] (hk124 x3 x4 w)
    · refine GE_run flG_T (pc1 := 59) (L1 := [some (.inr (.inr (some (4, 0)))), some (.inl x1), some (.inl x2), some (.inl x3), some (.inl x4), some (.inl x5), none]) (S1 := [.inl x1, .inr (.inr (some (16, 0)))]) (w1 := w) (P := True) [(.aload_n 0, 0, 0, 0, 0), (.getfield 28, 4, 2, 0, 0), (.getfield 115, 0, 9, 0, 0), (.iload_n 1, 0, 0, 0, 0)] (by decide +kernel) rfl trivial ?_
      refine GE_callSIp (As := [.inr (.inr (some (16, 0))), .inl x1]) (S := []) (p_X4_at l X 16 0 x1 (by decide) (by decide) w) ⟨me_X4_at, ms_X4_at, lk_X4_120⟩ (by decide +kernel) rfl (by decide) (by decide) (Nat.le_of_ble_eq_true rfl) ?_
      refine GE_run flG_T (pc1 := 64) (L1 := [some (.inr (.inr (some (4, 0)))), some (.inl x1), some (.inl x2), some (.inl x3), some (.inl x4), some (.inl x5), none]) (S1 := [.inl x5, .inl (atV w 16 0 x1)]) (w1 := w) (P := True) [(.iload 5, 0, 0, 0, 0)] (by decide +kernel) rfl trivial ?_
      refine GE_callSIp (As := [.inl (atV w 16 0 x1), .inl x5]) (S := []) (p_X4_holds l X (atV w 16 0 x1) x5 w) ⟨me_X4_holds, ms_X4_holds, lk_X4_157⟩ (by decide +kernel) rfl (by decide) (by decide) (Nat.le_of_ble_eq_true rfl) ?_
      refine GE_ifN (k := .ne) (off := 51) (tgt := 118) (by decide +kernel) (by decide) (cnd_ne _ _) (fun c4 => ?_) (fun c4 => ?_)
      · refine GE_run flG_T (pc1 := 44) (L1 := [some (.inr (.inr (some (4, 0)))), some (.inl x1), some (.inl x2), some (.inl x3), some (.inl x4), some (.inl (x5 + 1)), none]) (S1 := []) (w1 := w) (P := True) [(.iinc 5 1, 0, 0, 1, 0), (.goto (-77), 0, 0, 0, 0)] (by decide +kernel) rfl trivial ?_
        exact GE_weak [true, true, true, true, true, true, false] (ih x3 x4 (x5 + 1) w)
      · refine GE_run flG_T (pc1 := 78) (L1 := [some (.inr (.inr (some (4, 0)))), some (.inl x1), some (.inl x2), some (.inl x3), some (.inl x4), some (.inl x5), none]) (S1 := [.inl x1, .inr (.inr (some (17, 0)))]) (w1 := w) (P := True) [(.aload_n 0, 0, 0, 0, 0), (.getfield 28, 4, 2, 0, 0), (.getfield 117, 0, 10, 0, 0), (.iload_n 1, 0, 0, 0, 0)] (by decide +kernel) rfl trivial ?_
        refine GE_callSIp (As := [.inr (.inr (some (17, 0))), .inl x1]) (S := []) (p_X4_at l X 17 0 x1 (by decide) (by decide) w) ⟨me_X4_at, ms_X4_at, lk_X4_120⟩ (by decide +kernel) rfl (by decide) (by decide) (Nat.le_of_ble_eq_true rfl) ?_
        refine GE_run flG_T (pc1 := 88) (L1 := [some (.inr (.inr (some (4, 0)))), some (.inl x1), some (.inl x2), some (.inl x3), some (.inl x4), some (.inl x5), none]) (S1 := [.inl x5, .inl x1, .inr (.inr (some (0, 0))), .inl (atV w 17 0 x1)]) (w1 := w) (P := True) [(.aload_n 0, 0, 0, 0, 0), (.getfield 28, 4, 2, 0, 0), (.iload_n 1, 0, 0, 0, 0), (.iload 5, 0, 0, 0, 0)] (by decide +kernel) rfl trivial ?_
        refine GE_callVI (As := [.inl x1, .inl x5]) (k := 0) (i := 0) (S := [.inl (atV w 17 0 x1)]) (t_X0_lucksBy l X 0 x1 x5 (by decide) w) (by decide) ⟨me_X0_lucksBy, mi_X0_lucksBy, mv_X0_lucksBy, lk_X4_140⟩ rfl (by decide +kernel) rfl (by decide) (by decide) (Nat.le_of_ble_eq_true rfl) (fun r5 _ => ?_)
        refine GE_run flG_T (pc1 := 95) (L1 := [some (.inr (.inr (some (4, 0)))), some (.inl x1), some (.inl x2), some (.inl x3), some (.inl x4), some (.inl x5), none]) (S1 := [.inl 99, .inl 0, .inl ((atV w 17 0 x1) + r5.1)]) (w1 := r5.2) (P := True) [(.iadd, 0, 0, 0, 0), (.iconst 0, 0, 0, 0, 0), (.bipush 99, 0, 0, 99, 0)] (by decide +kernel) rfl trivial ?_
        refine GE_callSIp (As := [.inl ((atV w 17 0 x1) + r5.1), .inl 0, .inl 99]) (S := []) (p_X4_bounded l X ((atV w 17 0 x1) + r5.1) 0 99 r5.2) ⟨me_X4_bounded, ms_X4_bounded, lk_X4_193⟩ (by decide +kernel) rfl (by decide) (by decide) (Nat.le_of_ble_eq_true rfl) ?_
        refine GE_run flG_T (pc1 := 101) (L1 := [some (.inr (.inr (some (4, 0)))), some (.inl x1), some (.inl x2), some (.inl x3), some (.inl x4), some (.inl x5), some (.inl (wiF ((atV w 17 0 x1) + r5.1) 0 99))]) (S1 := [.inl x3]) (w1 := r5.2) (P := True) [(.istore 6, 0, 0, 0, 0), (.iload_n 3, 0, 0, 0, 0)] (by decide +kernel) rfl trivial ?_
        refine GE_if (k := .lt) (off := 10) (tgt := 111) (by decide +kernel) (by decide) (cnd_lt _ _) (fun c6 => ?_) (fun c6 => ?_)
        · exact GE_weak [true, true, true, false, false, true, true] (j_X4_which_111_ok l X (h_X4_which_44 x1 x2 k124 n) x1 x2 x5 (wiF ((atV w 17 0 x1) + r5.1) 0 99) ih r5.2)
        · refine GE_run flG_T (pc1 := 108) (L1 := [some (.inr (.inr (some (4, 0)))), some (.inl x1), some (.inl x2), some (.inl x3), some (.inl x4), some (.inl x5), some (.inl (wiF ((atV w 17 0 x1) + r5.1) 0 99))]) (S1 := [.inl x4, .inl (wiF ((atV w 17 0 x1) + r5.1) 0 99)]) (w1 := r5.2) (P := True) [(.iload 6, 0, 0, 0, 0), (.iload 4, 0, 0, 0, 0)] (by decide +kernel) rfl trivial ?_
          refine GE_icmp (k := .le) (off := 10) (tgt := 118) (by decide +kernel) (by decide) (cnd_le _ _) (fun c7 => ?_) (fun c7 => ?_)
          · refine GE_run flG_T (pc1 := 44) (L1 := [some (.inr (.inr (some (4, 0)))), some (.inl x1), some (.inl x2), some (.inl x3), some (.inl x4), some (.inl (x5 + 1)), some (.inl (wiF ((atV w 17 0 x1) + r5.1) 0 99))]) (S1 := []) (w1 := r5.2) (P := True) [(.iinc 5 1, 0, 0, 1, 0), (.goto (-77), 0, 0, 0, 0)] (by decide +kernel) rfl trivial ?_
            exact GE_weak [true, true, true, true, true, true, false] (ih x3 x4 (x5 + 1) r5.2)
          · exact GE_weak [true, true, true, false, false, true, true] (j_X4_which_111_ok l X (h_X4_which_44 x1 x2 k124 n) x1 x2 x5 (wiF ((atV w 17 0 x1) + r5.1) 0 99) ih r5.2)
noncomputable def j_X4_which_26   (x1 : Int32) (x2 : Int32) (w : Mem) : Option (Int32 × Mem) := h_X4_which_44 x1 x2 (fun x3_8 x4_9 w10 => if x2 = 0 then (some (x3_8, w10)) else (some (x4_9, w10))) FU (-1) (atV w 17 0 x1) 0 w
set_option maxRecDepth 100000 in
theorem j_X4_which_26_ok (l : Launch) (X : XC)   (x1 : Int32) (x2 : Int32)   (w : Mem) : GE l X mm_X4_which 4 emI 57 flT (j_X4_which_26 x1 x2 w) 26 [some (.inr (.inr (some (4, 0)))), some (.inl x1), some (.inl x2), none, none, none, none] [] w := by
  unfold j_X4_which_26
  refine GE_run flG_T (pc1 := 36) (L1 := [some (.inr (.inr (some (4, 0)))), some (.inl x1), some (.inl x2), some (.inl (-1)), none, none, none]) (S1 := [.inl x1, .inr (.inr (some (17, 0)))]) (w1 := w) (P := True) [(.iconst (-1), 0, 0, -1, 0), (.istore_n 3, 0, 0, 0, 0), (.aload_n 0, 0, 0, 0, 0), (.getfield 28, 4, 2, 0, 0), (.getfield 117, 0, 10, 0, 0), (.iload_n 1, 0, 0, 0, 0)] (by decide +kernel) rfl trivial ?_
  refine GE_callSIp (As := [.inr (.inr (some (17, 0))), .inl x1]) (S := []) (p_X4_at l X 17 0 x1 (by decide) (by decide) w) ⟨me_X4_at, ms_X4_at, lk_X4_120⟩ (by decide +kernel) rfl (by decide) (by decide) (Nat.le_of_ble_eq_true rfl) ?_
  refine GE_run flG_T (pc1 := 44) (L1 := [some (.inr (.inr (some (4, 0)))), some (.inl x1), some (.inl x2), some (.inl (-1)), some (.inl (atV w 17 0 x1)), some (.inl 0), none]) (S1 := []) (w1 := w) (P := True) [(.istore 4, 0, 0, 0, 0), (.iconst 0, 0, 0, 0, 0), (.istore 5, 0, 0, 0, 0)] (by decide +kernel) rfl trivial ?_
  refine GE_weak [true, true, true, true, true, true, false] (h_X4_which_44_ok l X x1 x2 _ ?_ FU (-1) (atV w 17 0 x1) 0 w)
  · intro x3_8 x4_9 w10
    refine GE_run flG_T (pc1 := 125) (L1 := [none, none, some (.inl x2), some (.inl x3_8), some (.inl x4_9), none, none]) (S1 := [.inl x2]) (w1 := w10) (P := True) [(.iload_n 2, 0, 0, 0, 0)] (by decide +kernel) rfl trivial ?_
    refine GE_ifN (k := .ne) (off := 7) (tgt := 132) (by decide +kernel) (by decide) (cnd_ne _ _) (fun c11 => ?_) (fun c11 => ?_)
    · refine GE_run flG_T (pc1 := 134) (L1 := [none, none, some (.inl x2), some (.inl x3_8), some (.inl x4_9), none, none]) (S1 := [.inl x4_9]) (w1 := w10) (P := True) [(.iload 4, 0, 0, 0, 0)] (by decide +kernel) rfl trivial ?_
      exact GE_iret rfl (by decide +kernel)
    · refine GE_run flG_T (pc1 := 134) (L1 := [none, none, some (.inl x2), some (.inl x3_8), some (.inl x4_9), none, none]) (S1 := [.inl x3_8]) (w1 := w10) (P := True) [(.iload_n 3, 0, 0, 0, 0), (.goto 5, 0, 0, 0, 0)] (by decide +kernel) rfl trivial ?_
      exact GE_iret rfl (by decide +kernel)
noncomputable def f_X4_which (a1 : Int32) (a2 : Int32) (w : Mem) : Option (Int32 × Mem) := if (hasF a1 (w 0 0 2)) = 0 then (some ((-5), w)) else (if a2 = 0 then (j_X4_which_26 a1 a2 w) else (if a2 = 1 then (j_X4_which_26 a1 a2 w) else (some ((-7), w))))
set_option maxRecDepth 100000 in
theorem t_X4_which (l : Launch) (X : XC)  (a1 : Int32) (a2 : Int32) (w : Mem) : Ct l X 4 yX4_which cX4_which 7 (some .int) emI [.inr (.inr (some (4, 0))), .inl a1, .inl a2] 57 flT w (f_X4_which a1 a2 w) := by
  refine Ct_of (mi := mm_X4_which) (mik_X4 _ _ _) me_X4_which rfl (okAs_cons (by decide) (okAs_cons rfl (okAs_cons rfl okAs_nil))) (Nat.le_of_ble_eq_true rfl) ?_
  unfold f_X4_which
  refine GE_run flG_T (pc1 := 5) (L1 := [some (.inr (.inr (some (4, 0)))), some (.inl a1), some (.inl a2), none, none, none, none]) (S1 := [.inl a1, .inr (.inr (some (0, 0)))]) (w1 := w) (P := True) [(.aload_n 0, 0, 0, 0, 0), (.getfield 28, 4, 2, 0, 0), (.iload_n 1, 0, 0, 0, 0)] (by decide +kernel) rfl trivial ?_
  refine GE_callVIp (As := [.inl a1]) (k := 0) (i := 0) (S := []) (p_X0_has l X 0 a1 (by decide) w) (by decide) ⟨me_X0_has, mi_X0_has, mv_X0_has, lk_X4_95⟩ rfl (by decide +kernel) rfl (by decide) (by decide) (Nat.le_of_ble_eq_true rfl) ?_
  refine GE_ifN (k := .ne) (off := 6) (tgt := 14) (by decide +kernel) (by decide) (cnd_ne _ _) (fun c1 => ?_) (fun c1 => ?_)
  · refine GE_run flG_T (pc1 := 15) (L1 := [some (.inr (.inr (some (4, 0)))), some (.inl a1), some (.inl a2), none, none, none, none]) (S1 := [.inl a2]) (w1 := w) (P := True) [(.iload_n 2, 0, 0, 0, 0)] (by decide +kernel) rfl trivial ?_
    refine GE_if (k := .eq) (off := 11) (tgt := 26) (by decide +kernel) (by decide) (cnd_eq _ _) (fun c2 => ?_) (fun c2 => ?_)
    · exact GE_weak [true, true, true, false, false, false, false] (j_X4_which_26_ok l X a1 a2 w)
    · refine GE_run flG_T (pc1 := 20) (L1 := [some (.inr (.inr (some (4, 0)))), some (.inl a1), some (.inl a2), none, none, none, none]) (S1 := [.inl 1, .inl a2]) (w1 := w) (P := True) [(.iload_n 2, 0, 0, 0, 0), (.iconst 1, 0, 0, 1, 0)] (by decide +kernel) rfl trivial ?_
      refine GE_icmp (k := .eq) (off := 6) (tgt := 26) (by decide +kernel) (by decide) (cnd_eq _ _) (fun c12 => ?_) (fun c12 => ?_)
      · exact GE_weak [true, true, true, false, false, false, false] (j_X4_which_26_ok l X a1 a2 w)
      · refine GE_run flG_T (pc1 := 25) (L1 := [some (.inr (.inr (some (4, 0)))), some (.inl a1), some (.inl a2), none, none, none, none]) (S1 := [.inl (-7)]) (w1 := w) (P := True) [(.bipush (-7), 0, 0, -7, 0)] (by decide +kernel) rfl trivial ?_
        exact GE_iret rfl (by decide +kernel)
  · refine GE_run flG_T (pc1 := 13) (L1 := [some (.inr (.inr (some (4, 0)))), some (.inl a1), some (.inl a2), none, none, none, none]) (S1 := [.inl (-5)]) (w1 := w) (P := True) [(.bipush (-5), 0, 0, -5, 0)] (by decide +kernel) rfl trivial ?_
    exact GE_iret rfl (by decide +kernel)
abbrev mm_X4_taught : MI := (RX4, cX4_taught, 7, (some .int), ftp_X4.map (fun q => q.1), ctp_X4.map (fun q => q.1), clp_X4.map (fun q => q.1))
noncomputable def j_X4_taught_69  (kl34 : Int32 → Int32 → Int32 → Mem → Option (Int32 × Mem)) (x1 : Int32) (x2 : Int32) (x3 : Int32) (x4 : Int32) (x5 : Int32) (s0 : Int32) (w : Mem) : Option (Int32 × Mem) := if s0 ≤ x4 then (kl34 x3 x4 (x5 + 1) w) else (kl34 x5 s0 (x5 + 1) w)
set_option maxRecDepth 100000 in
theorem j_X4_taught_69_ok (l : Launch) (X : XC)  (kl34 : Int32 → Int32 → Int32 → Mem → Option (Int32 × Mem)) (x1 : Int32) (x2 : Int32) (x3 : Int32) (x4 : Int32) (x5 : Int32) (s0 : Int32)  (ih : ∀ (x3 : Int32) (x4 : Int32) (x5 : Int32) (w : Mem), GE l X mm_X4_taught 5 emI 57 flT (kl34 x3 x4 x5 w) 34 [some (.inr (.inr (some (4, 0)))), some (.inl x1), some (.inl x2), some (.inl x3), some (.inl x4), some (.inl x5), none] [] w) (w : Mem) : GE l X mm_X4_taught 5 emI 57 flT (j_X4_taught_69 kl34 x1 x2 x3 x4 x5 s0 w) 69 [some (.inr (.inr (some (4, 0)))), some (.inl x1), some (.inl x2), some (.inl x3), some (.inl x4), some (.inl x5), none] [.inl s0] w := by
  unfold j_X4_taught_69
  refine GE_run flG_T (pc1 := 75) (L1 := [some (.inr (.inr (some (4, 0)))), some (.inl x1), some (.inl x2), some (.inl x3), some (.inl x4), some (.inl x5), some (.inl s0)]) (S1 := [.inl x4, .inl s0]) (w1 := w) (P := True) [(.istore 6, 0, 0, 0, 0), (.iload 6, 0, 0, 0, 0), (.iload 4, 0, 0, 0, 0)] (by decide +kernel) rfl trivial ?_
  refine GE_icmp (k := .le) (off := 10) (tgt := 85) (by decide +kernel) (by decide) (cnd_le _ _) (fun c5 => ?_) (fun c5 => ?_)
  · refine GE_run flG_T (pc1 := 34) (L1 := [some (.inr (.inr (some (4, 0)))), some (.inl x1), some (.inl x2), some (.inl x3), some (.inl x4), some (.inl (x5 + 1)), some (.inl s0)]) (S1 := []) (w1 := w) (P := True) [(.iinc 5 1, 0, 0, 1, 0), (.goto (-54), 0, 0, 0, 0)] (by decide +kernel) rfl trivial ?_
    exact GE_weak [true, true, true, true, true, true, false] (ih x3 x4 (x5 + 1) w)
  · refine GE_run flG_T (pc1 := 34) (L1 := [some (.inr (.inr (some (4, 0)))), some (.inl x1), some (.inl x2), some (.inl x5), some (.inl s0), some (.inl (x5 + 1)), some (.inl s0)]) (S1 := []) (w1 := w) (P := True) [(.iload 5, 0, 0, 0, 0), (.istore_n 3, 0, 0, 0, 0), (.iload 6, 0, 0, 0, 0), (.istore 4, 0, 0, 0, 0), (.iinc 5 1, 0, 0, 1, 0), (.goto (-54), 0, 0, 0, 0)] (by decide +kernel) rfl trivial ?_
    exact GE_weak [true, true, true, true, true, true, false] (ih x5 s0 (x5 + 1) w)
noncomputable def h_X4_taught_34 (x1 : Int32) (x2 : Int32) (k91 : Int32 → Int32 → Mem → Option (Int32 × Mem)) : Nat → Int32 → Int32 → Int32 → Mem → Option (Int32 × Mem)
  | 0, _, _, _, _ => none
  | n + 1, x3, x4, x5, w => if x5 < (w 0 0 2) then (if x5 = x1 then (j_X4_taught_69 (h_X4_taught_34 x1 x2 k91 n) x1 x2 x3 x4 x5 0 w) else (Option.bind (f_X0_learns 0 x5 x1 w) (fun r6 => j_X4_taught_69 (h_X4_taught_34 x1 x2 k91 n) x1 x2 x3 x4 x5 (bcF r6.1) r6.2))) else (k91 x3 x4 w)
set_option maxRecDepth 100000 in
theorem h_X4_taught_34_ok (l : Launch) (X : XC) (x1 : Int32) (x2 : Int32) (k91 : Int32 → Int32 → Mem → Option (Int32 × Mem))  (hk91 : ∀ (x3 : Int32) (x4 : Int32) (w : Mem), GE l X mm_X4_taught 5 emI 57 flT (k91 x3 x4 w) 91 [none, none, some (.inl x2), some (.inl x3), some (.inl x4), none, none] [] w) : ∀ (n : Nat) (x3 : Int32) (x4 : Int32) (x5 : Int32) (w : Mem), GE l X mm_X4_taught 5 emI 57 flT ((h_X4_taught_34 x1 x2 k91 n) x3 x4 x5 w) 34 [some (.inr (.inr (some (4, 0)))), some (.inl x1), some (.inl x2), some (.inl x3), some (.inl x4), some (.inl x5), none] [] w := by
  intro n
  induction n with
  | zero => intro x3 x4 x5 w; exact GE_none
  | succ n ih =>
    intro x3 x4 x5 w
    unfold h_X4_taught_34
    refine GE_run flG_T (pc1 := 43) (L1 := [some (.inr (.inr (some (4, 0)))), some (.inl x1), some (.inl x2), some (.inl x3), some (.inl x4), some (.inl x5), none]) (S1 := [.inl (w 0 0 2), .inl x5]) (w1 := w) (P := True) [(.iload 5, 0, 0, 0, 0), (.aload_n 0, 0, 0, 0, 0), (.getfield 28, 4, 2, 0, 0), (.getfield 45, 0, 2, 0, 0)] (by decide +kernel) rfl trivial ?_
    refine GE_icmpN (k := .ge) (off := 48) (tgt := 91) (by decide +kernel) (by decide) (cnd_ge _ _) (fun c3 => ?_) (fun c3 => ?_)
    · exact GE_weak [false, false, true, true, true, false, false] (hk91 x3 x4 w)
    · refine GE_run flG_T (pc1 := 49) (L1 := [some (.inr (.inr (some (4, 0)))), some (.inl x1), some (.inl x2), some (.inl x3), some (.inl x4), some (.inl x5), none]) (S1 := [.inl x1, .inl x5]) (w1 := w) (P := True) [(.iload 5, 0, 0, 0, 0), (.iload_n 1, 0, 0, 0, 0)] (by decide +kernel) rfl trivial ?_
      refine GE_icmpN (k := .ne) (off := 7) (tgt := 56) (by decide +kernel) (by decide) (cnd_ne _ _) (fun c4 => ?_) (fun c4 => ?_)
      · refine GE_run flG_T (pc1 := 63) (L1 := [some (.inr (.inr (some (4, 0)))), some (.inl x1), some (.inl x2), some (.inl x3), some (.inl x4), some (.inl x5), none]) (S1 := [.inl x1, .inl x5, .inr (.inr (some (0, 0)))]) (w1 := w) (P := True) [(.aload_n 0, 0, 0, 0, 0), (.getfield 28, 4, 2, 0, 0), (.iload 5, 0, 0, 0, 0), (.iload_n 1, 0, 0, 0, 0)] (by decide +kernel) rfl trivial ?_
        refine GE_callVI (As := [.inl x5, .inl x1]) (k := 0) (i := 0) (S := []) (t_X0_learns l X 0 x5 x1 (by decide) w) (by decide) ⟨me_X0_learns, mi_X0_learns, mv_X0_learns, lk_X4_146⟩ rfl (by decide +kernel) rfl (by decide) (by decide) (Nat.le_of_ble_eq_true rfl) (fun r6 _ => ?_)
        refine GE_callSIp (As := [.inl r6.1]) (S := []) (p_J6_bitCount l X r6.1 r6.2) ⟨me_J6_bitCount_0f7a4, ms_J6_bitCount_0f7a4, lk_X4_52⟩ (by decide +kernel) rfl (by decide) (by decide) (Nat.le_of_ble_eq_true rfl) ?_
        exact GE_weak [true, true, true, true, true, true, false] (j_X4_taught_69_ok l X (h_X4_taught_34 x1 x2 k91 n) x1 x2 x3 x4 x5 (bcF r6.1) ih r6.2)
      · refine GE_run flG_T (pc1 := 69) (L1 := [some (.inr (.inr (some (4, 0)))), some (.inl x1), some (.inl x2), some (.inl x3), some (.inl x4), some (.inl x5), none]) (S1 := [.inl 0]) (w1 := w) (P := True) [(.iconst 0, 0, 0, 0, 0), (.goto 16, 0, 0, 0, 0)] (by decide +kernel) rfl trivial ?_
        exact GE_weak [true, true, true, true, true, true, false] (j_X4_taught_69_ok l X (h_X4_taught_34 x1 x2 k91 n) x1 x2 x3 x4 x5 0 ih w)
noncomputable def j_X4_taught_26   (x1 : Int32) (x2 : Int32) (w : Mem) : Option (Int32 × Mem) := h_X4_taught_34 x1 x2 (fun x3_7 x4_8 w9 => if x2 = 0 then (some (x3_7, w9)) else (some (x4_8, w9))) FU (-1) 0 0 w
set_option maxRecDepth 100000 in
theorem j_X4_taught_26_ok (l : Launch) (X : XC)   (x1 : Int32) (x2 : Int32)   (w : Mem) : GE l X mm_X4_taught 5 emI 57 flT (j_X4_taught_26 x1 x2 w) 26 [some (.inr (.inr (some (4, 0)))), some (.inl x1), some (.inl x2), none, none, none, none] [] w := by
  unfold j_X4_taught_26
  refine GE_run flG_T (pc1 := 34) (L1 := [some (.inr (.inr (some (4, 0)))), some (.inl x1), some (.inl x2), some (.inl (-1)), some (.inl 0), some (.inl 0), none]) (S1 := []) (w1 := w) (P := True) [(.iconst (-1), 0, 0, -1, 0), (.istore_n 3, 0, 0, 0, 0), (.iconst 0, 0, 0, 0, 0), (.istore 4, 0, 0, 0, 0), (.iconst 0, 0, 0, 0, 0), (.istore 5, 0, 0, 0, 0)] (by decide +kernel) rfl trivial ?_
  refine GE_weak [true, true, true, true, true, true, false] (h_X4_taught_34_ok l X x1 x2 _ ?_ FU (-1) 0 0 w)
  · intro x3_7 x4_8 w9
    refine GE_run flG_T (pc1 := 92) (L1 := [none, none, some (.inl x2), some (.inl x3_7), some (.inl x4_8), none, none]) (S1 := [.inl x2]) (w1 := w9) (P := True) [(.iload_n 2, 0, 0, 0, 0)] (by decide +kernel) rfl trivial ?_
    refine GE_ifN (k := .ne) (off := 7) (tgt := 99) (by decide +kernel) (by decide) (cnd_ne _ _) (fun c10 => ?_) (fun c10 => ?_)
    · refine GE_run flG_T (pc1 := 101) (L1 := [none, none, some (.inl x2), some (.inl x3_7), some (.inl x4_8), none, none]) (S1 := [.inl x4_8]) (w1 := w9) (P := True) [(.iload 4, 0, 0, 0, 0)] (by decide +kernel) rfl trivial ?_
      exact GE_iret rfl (by decide +kernel)
    · refine GE_run flG_T (pc1 := 101) (L1 := [none, none, some (.inl x2), some (.inl x3_7), some (.inl x4_8), none, none]) (S1 := [.inl x3_7]) (w1 := w9) (P := True) [(.iload_n 3, 0, 0, 0, 0), (.goto 5, 0, 0, 0, 0)] (by decide +kernel) rfl trivial ?_
      exact GE_iret rfl (by decide +kernel)
noncomputable def f_X4_taught (a1 : Int32) (a2 : Int32) (w : Mem) : Option (Int32 × Mem) := if (hasF a1 (w 0 0 2)) = 0 then (some ((-5), w)) else (if a2 = 0 then (j_X4_taught_26 a1 a2 w) else (if a2 = 1 then (j_X4_taught_26 a1 a2 w) else (some ((-7), w))))
set_option maxRecDepth 100000 in
theorem t_X4_taught (l : Launch) (X : XC)  (a1 : Int32) (a2 : Int32) (w : Mem) : Ct l X 5 yX4_taught cX4_taught 7 (some .int) emI [.inr (.inr (some (4, 0))), .inl a1, .inl a2] 57 flT w (f_X4_taught a1 a2 w) := by
  refine Ct_of (mi := mm_X4_taught) (mik_X4 _ _ _) me_X4_taught rfl (okAs_cons (by decide) (okAs_cons rfl (okAs_cons rfl okAs_nil))) (Nat.le_of_ble_eq_true rfl) ?_
  unfold f_X4_taught
  refine GE_run flG_T (pc1 := 5) (L1 := [some (.inr (.inr (some (4, 0)))), some (.inl a1), some (.inl a2), none, none, none, none]) (S1 := [.inl a1, .inr (.inr (some (0, 0)))]) (w1 := w) (P := True) [(.aload_n 0, 0, 0, 0, 0), (.getfield 28, 4, 2, 0, 0), (.iload_n 1, 0, 0, 0, 0)] (by decide +kernel) rfl trivial ?_
  refine GE_callVIp (As := [.inl a1]) (k := 0) (i := 0) (S := []) (p_X0_has l X 0 a1 (by decide) w) (by decide) ⟨me_X0_has, mi_X0_has, mv_X0_has, lk_X4_95⟩ rfl (by decide +kernel) rfl (by decide) (by decide) (Nat.le_of_ble_eq_true rfl) ?_
  refine GE_ifN (k := .ne) (off := 6) (tgt := 14) (by decide +kernel) (by decide) (cnd_ne _ _) (fun c1 => ?_) (fun c1 => ?_)
  · refine GE_run flG_T (pc1 := 15) (L1 := [some (.inr (.inr (some (4, 0)))), some (.inl a1), some (.inl a2), none, none, none, none]) (S1 := [.inl a2]) (w1 := w) (P := True) [(.iload_n 2, 0, 0, 0, 0)] (by decide +kernel) rfl trivial ?_
    refine GE_if (k := .eq) (off := 11) (tgt := 26) (by decide +kernel) (by decide) (cnd_eq _ _) (fun c2 => ?_) (fun c2 => ?_)
    · exact GE_weak [true, true, true, false, false, false, false] (j_X4_taught_26_ok l X a1 a2 w)
    · refine GE_run flG_T (pc1 := 20) (L1 := [some (.inr (.inr (some (4, 0)))), some (.inl a1), some (.inl a2), none, none, none, none]) (S1 := [.inl 1, .inl a2]) (w1 := w) (P := True) [(.iload_n 2, 0, 0, 0, 0), (.iconst 1, 0, 0, 1, 0)] (by decide +kernel) rfl trivial ?_
      refine GE_icmp (k := .eq) (off := 6) (tgt := 26) (by decide +kernel) (by decide) (cnd_eq _ _) (fun c11 => ?_) (fun c11 => ?_)
      · exact GE_weak [true, true, true, false, false, false, false] (j_X4_taught_26_ok l X a1 a2 w)
      · refine GE_run flG_T (pc1 := 25) (L1 := [some (.inr (.inr (some (4, 0)))), some (.inl a1), some (.inl a2), none, none, none, none]) (S1 := [.inl (-7)]) (w1 := w) (P := True) [(.bipush (-7), 0, 0, -7, 0)] (by decide +kernel) rfl trivial ?_
        exact GE_iret rfl (by decide +kernel)
  · refine GE_run flG_T (pc1 := 13) (L1 := [some (.inr (.inr (some (4, 0)))), some (.inl a1), some (.inl a2), none, none, none, none]) (S1 := [.inl (-5)]) (w1 := w) (P := True) [(.bipush (-5), 0, 0, -5, 0)] (by decide +kernel) rfl trivial ?_
    exact GE_iret rfl (by decide +kernel)
abbrev mm_X4_when : MI := (RX4, cX4_when, 3, (some .int), ftp_X4.map (fun q => q.1), ctp_X4.map (fun q => q.1), clp_X4.map (fun q => q.1))
noncomputable def j_X4_when_66  (kl27 : Int32 → Mem → Option (Int32 × Mem)) (x1 : Int32) (x2 : Int32) (w : Mem) : Option (Int32 × Mem) := Option.bind (f_X0_washes 1 w) (fun r7 => kl27 (x2 + 1) r7.2)
set_option maxRecDepth 100000 in
theorem j_X4_when_66_ok (l : Launch) (X : XC)  (kl27 : Int32 → Mem → Option (Int32 × Mem)) (x1 : Int32) (x2 : Int32)  (ih : ∀ (x2 : Int32) (w : Mem), GE l X mm_X4_when 3 emI 57 flT (kl27 x2 w) 27 [some (.inr (.inr (some (4, 0)))), some (.inl x1), some (.inl x2)] [] w) (w : Mem) : GE l X mm_X4_when 3 emI 57 flT (j_X4_when_66 kl27 x1 x2 w) 66 [some (.inr (.inr (some (4, 0)))), some (.inl x1), some (.inl x2)] [] w := by
  unfold j_X4_when_66
  refine GE_run flG_T (pc1 := 70) (L1 := [some (.inr (.inr (some (4, 0)))), some (.inl x1), some (.inl x2)]) (S1 := [.inr (.inr (some (0, 1)))]) (w1 := w) (P := True) [(.aload_n 0, 0, 0, 0, 0), (.getfield 32, 4, 3, 0, 0)] (by decide +kernel) rfl trivial ?_
  refine GE_callVI (As := []) (k := 0) (i := 1) (S := []) (t_X0_washes l X 1 (by decide) w) (by decide) ⟨me_X0_washes, mi_X0_washes, mv_X0_washes, lk_X4_153⟩ rfl (by decide +kernel) rfl (by decide) (by decide) (Nat.le_of_ble_eq_true rfl) (fun r7 _ => ?_)
  refine GE_run flG_T (pc1 := 27) (L1 := [some (.inr (.inr (some (4, 0)))), some (.inl x1), some (.inl (x2 + 1))]) (S1 := []) (w1 := r7.2) (P := True) [(.pop, 0, 0, 0, 0), (.iinc 2 1, 0, 0, 1, 0), (.goto (-50), 0, 0, 0, 0)] (by decide +kernel) rfl trivial ?_
  exact GE_weak [true, true, true] (ih (x2 + 1) r7.2)
noncomputable def h_X4_when_27 (x1 : Int32) (k80 : Mem → Option (Int32 × Mem)) : Nat → Int32 → Mem → Option (Int32 × Mem)
  | 0, _, _ => none
  | n + 1, x2, w => if x2 ≤ 60 then (if x1 < 0 then (if (w 0 1 3) = 0 then (some (x2, w)) else (j_X4_when_66 (h_X4_when_27 x1 k80 n) x1 x2 w)) else (Option.bind (f_X0_knownToAny 1 w) (fun r8 => if (holdsF r8.1 x1) = 0 then (j_X4_when_66 (h_X4_when_27 x1 k80 n) x1 x2 r8.2) else (some (x2, r8.2))))) else (k80 w)
set_option maxRecDepth 100000 in
theorem h_X4_when_27_ok (l : Launch) (X : XC) (x1 : Int32) (k80 : Mem → Option (Int32 × Mem))  (hk80 : ∀  (w : Mem), GE l X mm_X4_when 3 emI 57 flT (k80 w) 80 [none, none, none] [] w) : ∀ (n : Nat) (x2 : Int32) (w : Mem), GE l X mm_X4_when 3 emI 57 flT ((h_X4_when_27 x1 k80 n) x2 w) 27 [some (.inr (.inr (some (4, 0)))), some (.inl x1), some (.inl x2)] [] w := by
  intro n
  induction n with
  | zero => intro x2 w; exact GE_none
  | succ n ih =>
    intro x2 w
    unfold h_X4_when_27
    refine GE_run flG_T (pc1 := 30) (L1 := [some (.inr (.inr (some (4, 0)))), some (.inl x1), some (.inl x2)]) (S1 := [.inl 60, .inl x2]) (w1 := w) (P := True) [(.iload_n 2, 0, 0, 0, 0), (.bipush 60, 0, 0, 60, 0)] (by decide +kernel) rfl trivial ?_
    refine GE_icmpN (k := .gt) (off := 50) (tgt := 80) (by decide +kernel) (by decide) (cnd_gt _ _) (fun c4 => ?_) (fun c4 => ?_)
    · exact GE_weak [false, false, false] (hk80 w)
    · refine GE_run flG_T (pc1 := 34) (L1 := [some (.inr (.inr (some (4, 0)))), some (.inl x1), some (.inl x2)]) (S1 := [.inl x1]) (w1 := w) (P := True) [(.iload_n 1, 0, 0, 0, 0)] (by decide +kernel) rfl trivial ?_
      refine GE_ifN (k := .ge) (off := 16) (tgt := 50) (by decide +kernel) (by decide) (cnd_ge _ _) (fun c5 => ?_) (fun c5 => ?_)
      · refine GE_run flG_T (pc1 := 54) (L1 := [some (.inr (.inr (some (4, 0)))), some (.inl x1), some (.inl x2)]) (S1 := [.inr (.inr (some (0, 1)))]) (w1 := w) (P := True) [(.aload_n 0, 0, 0, 0, 0), (.getfield 32, 4, 3, 0, 0)] (by decide +kernel) rfl trivial ?_
        refine GE_callVI (As := []) (k := 0) (i := 1) (S := []) (t_X0_knownToAny l X 1 (by decide) w) (by decide) ⟨me_X0_knownToAny, mi_X0_knownToAny, mv_X0_knownToAny, lk_X4_208⟩ rfl (by decide +kernel) rfl (by decide) (by decide) (Nat.le_of_ble_eq_true rfl) (fun r8 _ => ?_)
        refine GE_run flG_T (pc1 := 58) (L1 := [some (.inr (.inr (some (4, 0)))), some (.inl x1), some (.inl x2)]) (S1 := [.inl x1, .inl r8.1]) (w1 := r8.2) (P := True) [(.iload_n 1, 0, 0, 0, 0)] (by decide +kernel) rfl trivial ?_
        refine GE_callSIp (As := [.inl r8.1, .inl x1]) (S := []) (p_X4_holds l X r8.1 x1 r8.2) ⟨me_X4_holds, ms_X4_holds, lk_X4_157⟩ (by decide +kernel) rfl (by decide) (by decide) (Nat.le_of_ble_eq_true rfl) ?_
        refine GE_if (k := .eq) (off := 5) (tgt := 66) (by decide +kernel) (by decide) (cnd_eq _ _) (fun c9 => ?_) (fun c9 => ?_)
        · exact GE_weak [true, true, true] (j_X4_when_66_ok l X (h_X4_when_27 x1 k80 n) x1 x2 ih r8.2)
        · refine GE_run flG_T (pc1 := 65) (L1 := [some (.inr (.inr (some (4, 0)))), some (.inl x1), some (.inl x2)]) (S1 := [.inl x2]) (w1 := r8.2) (P := True) [(.iload_n 2, 0, 0, 0, 0)] (by decide +kernel) rfl trivial ?_
          exact GE_iret rfl (by decide +kernel)
      · refine GE_run flG_T (pc1 := 44) (L1 := [some (.inr (.inr (some (4, 0)))), some (.inl x1), some (.inl x2)]) (S1 := [.inl (w 0 1 3)]) (w1 := w) (P := True) [(.aload_n 0, 0, 0, 0, 0), (.getfield 32, 4, 3, 0, 0), (.getfield 49, 0, 3, 0, 0)] (by decide +kernel) rfl trivial ?_
        refine GE_ifN (k := .ne) (off := 22) (tgt := 66) (by decide +kernel) (by decide) (cnd_ne _ _) (fun c6 => ?_) (fun c6 => ?_)
        · exact GE_weak [true, true, true] (j_X4_when_66_ok l X (h_X4_when_27 x1 k80 n) x1 x2 ih w)
        · refine GE_run flG_T (pc1 := 65) (L1 := [some (.inr (.inr (some (4, 0)))), some (.inl x1), some (.inl x2)]) (S1 := [.inl x2]) (w1 := w) (P := True) [(.goto 17, 0, 0, 0, 0), (.iload_n 2, 0, 0, 0, 0)] (by decide +kernel) rfl trivial ?_
          exact GE_iret rfl (by decide +kernel)
noncomputable def f_X4_when (a1 : Int32) (w : Mem) : Option (Int32 × Mem) := if a1 < (-1) then (some ((-2), w)) else (if a1 < 16 then (Option.bind (f_X0_become 1 0 w) (fun r3 => h_X4_when_27 a1 (fun w10 => some ((-1), w10)) FU 0 r3)) else (some ((-2), w)))
set_option maxRecDepth 100000 in
theorem t_X4_when (l : Launch) (X : XC)  (a1 : Int32) (w : Mem) : Ct l X 3 yX4_when cX4_when 3 (some .int) emI [.inr (.inr (some (4, 0))), .inl a1] 57 flT w (f_X4_when a1 w) := by
  refine Ct_of (mi := mm_X4_when) (mik_X4 _ _ _) me_X4_when rfl (okAs_cons (by decide) (okAs_cons rfl okAs_nil)) (Nat.le_of_ble_eq_true rfl) ?_
  unfold f_X4_when
  refine GE_run flG_T (pc1 := 2) (L1 := [some (.inr (.inr (some (4, 0)))), some (.inl a1), none]) (S1 := [.inl (-1), .inl a1]) (w1 := w) (P := True) [(.iload_n 1, 0, 0, 0, 0), (.iconst (-1), 0, 0, -1, 0)] (by decide +kernel) rfl trivial ?_
  refine GE_icmp (k := .lt) (off := 9) (tgt := 11) (by decide +kernel) (by decide) (cnd_lt _ _) (fun c1 => ?_) (fun c1 => ?_)
  · refine GE_run flG_T (pc1 := 13) (L1 := [some (.inr (.inr (some (4, 0)))), some (.inl a1), none]) (S1 := [.inl (-2)]) (w1 := w) (P := True) [(.bipush (-2), 0, 0, -2, 0)] (by decide +kernel) rfl trivial ?_
    exact GE_iret rfl (by decide +kernel)
  · refine GE_run flG_T (pc1 := 8) (L1 := [some (.inr (.inr (some (4, 0)))), some (.inl a1), none]) (S1 := [.inl 16, .inl a1]) (w1 := w) (P := True) [(.iload_n 1, 0, 0, 0, 0), (.bipush 16, 0, 0, 16, 0)] (by decide +kernel) rfl trivial ?_
    refine GE_icmp (k := .lt) (off := 6) (tgt := 14) (by decide +kernel) (by decide) (cnd_lt _ _) (fun c2 => ?_) (fun c2 => ?_)
    · refine GE_run flG_T (pc1 := 22) (L1 := [some (.inr (.inr (some (4, 0)))), some (.inl a1), none]) (S1 := [.inr (.inr (some (0, 0))), .inr (.inr (some (0, 1)))]) (w1 := w) (P := True) [(.aload_n 0, 0, 0, 0, 0), (.getfield 32, 4, 3, 0, 0), (.aload_n 0, 0, 0, 0, 0), (.getfield 28, 4, 2, 0, 0)] (by decide +kernel) rfl trivial ?_
      refine GE_callVV (As := [.inr (.inr (some (0, 0)))]) (k := 0) (i := 1) (S := []) (t_X0_become l X 1 0 (by decide) (by decide) w) (by decide) ⟨me_X0_become, mi_X0_become, mv_X0_become, lk_X4_164⟩ rfl (by decide +kernel) rfl (by decide) (by decide) (Nat.le_of_ble_eq_true rfl) (fun r3 _ => ?_)
      refine GE_run flG_T (pc1 := 27) (L1 := [some (.inr (.inr (some (4, 0)))), some (.inl a1), some (.inl 0)]) (S1 := []) (w1 := r3) (P := True) [(.iconst 0, 0, 0, 0, 0), (.istore_n 2, 0, 0, 0, 0)] (by decide +kernel) rfl trivial ?_
      refine GE_weak [true, true, true] (h_X4_when_27_ok l X a1 _ ?_ FU 0 r3)
      · intro w10
        refine GE_run flG_T (pc1 := 81) (L1 := [none, none, none]) (S1 := [.inl (-1)]) (w1 := w10) (P := True) [(.iconst (-1), 0, 0, -1, 0)] (by decide +kernel) rfl trivial ?_
        exact GE_iret rfl (by decide +kernel)
    · refine GE_run flG_T (pc1 := 13) (L1 := [some (.inr (.inr (some (4, 0)))), some (.inl a1), none]) (S1 := [.inl (-2)]) (w1 := w) (P := True) [(.bipush (-2), 0, 0, -2, 0)] (by decide +kernel) rfl trivial ?_
      exact GE_iret rfl (by decide +kernel)
abbrev mm_X4_share : MI := (RX4, cX4_share, 4, (some .long), ftp_X4.map (fun q => q.1), ctp_X4.map (fun q => q.1), clp_X4.map (fun q => q.1))
noncomputable def f_X4_share (a1 : Int32) (a2 : Int32) (w : Mem) : Option (Int64 × Mem) := if (hasF a1 (w 0 0 2)) = 0 then (some ((-4611686018427387904), w)) else (if (atV w 16 0 a1) = 0 then (some ((-4611686018427387904), w)) else (Option.bind (f_X4_lowest (bcF ((atV w 16 0 a1) &&& (atV w 15 0 a1))) (bcF (atV w 16 0 a1)) a2 w) (fun r3 => some (r3.1, r3.2))))
set_option maxRecDepth 100000 in
theorem t_X4_share (l : Launch) (X : XC)  (a1 : Int32) (a2 : Int32) (w : Mem) : Ct l X 2 yX4_share cX4_share 4 (some .long) emL [.inr (.inr (some (4, 0))), .inl a1, .inl a2] 57 flT w (f_X4_share a1 a2 w) := by
  refine Ct_of (mi := mm_X4_share) (mik_X4 _ _ _) me_X4_share rfl (okAs_cons (by decide) (okAs_cons rfl (okAs_cons rfl okAs_nil))) (Nat.le_of_ble_eq_true rfl) ?_
  unfold f_X4_share
  refine GE_run flG_T (pc1 := 5) (L1 := [some (.inr (.inr (some (4, 0)))), some (.inl a1), some (.inl a2), none]) (S1 := [.inl a1, .inr (.inr (some (0, 0)))]) (w1 := w) (P := True) [(.aload_n 0, 0, 0, 0, 0), (.getfield 28, 4, 2, 0, 0), (.iload_n 1, 0, 0, 0, 0)] (by decide +kernel) rfl trivial ?_
  refine GE_callVIp (As := [.inl a1]) (k := 0) (i := 0) (S := []) (p_X0_has l X 0 a1 (by decide) w) (by decide) ⟨me_X0_has, mi_X0_has, mv_X0_has, lk_X4_95⟩ rfl (by decide +kernel) rfl (by decide) (by decide) (Nat.le_of_ble_eq_true rfl) ?_
  refine GE_if (k := .eq) (off := 17) (tgt := 25) (by decide +kernel) (by decide) (cnd_eq _ _) (fun c1 => ?_) (fun c1 => ?_)
  · refine GE_run flG_T (pc1 := 28) (L1 := [some (.inr (.inr (some (4, 0)))), some (.inl a1), some (.inl a2), none]) (S1 := [.inr (.inl (-4611686018427387904))]) (w1 := w) (P := True) [(.ldc2_w 211, 0, 0, 0, -4611686018427387904)] (by decide +kernel) rfl trivial ?_
    exact GE_lret rfl (by decide +kernel)
  · refine GE_run flG_T (pc1 := 19) (L1 := [some (.inr (.inr (some (4, 0)))), some (.inl a1), some (.inl a2), none]) (S1 := [.inl a1, .inr (.inr (some (16, 0)))]) (w1 := w) (P := True) [(.aload_n 0, 0, 0, 0, 0), (.getfield 28, 4, 2, 0, 0), (.getfield 115, 0, 9, 0, 0), (.iload_n 1, 0, 0, 0, 0)] (by decide +kernel) rfl trivial ?_
    refine GE_callSIp (As := [.inr (.inr (some (16, 0))), .inl a1]) (S := []) (p_X4_at l X 16 0 a1 (by decide) (by decide) w) ⟨me_X4_at, ms_X4_at, lk_X4_120⟩ (by decide +kernel) rfl (by decide) (by decide) (Nat.le_of_ble_eq_true rfl) ?_
    refine GE_ifN (k := .ne) (off := 7) (tgt := 29) (by decide +kernel) (by decide) (cnd_ne _ _) (fun c2 => ?_) (fun c2 => ?_)
    · refine GE_run flG_T (pc1 := 37) (L1 := [some (.inr (.inr (some (4, 0)))), some (.inl a1), some (.inl a2), none]) (S1 := [.inl a1, .inr (.inr (some (16, 0)))]) (w1 := w) (P := True) [(.aload_n 0, 0, 0, 0, 0), (.getfield 28, 4, 2, 0, 0), (.getfield 115, 0, 9, 0, 0), (.iload_n 1, 0, 0, 0, 0)] (by decide +kernel) rfl trivial ?_
      refine GE_callSIp (As := [.inr (.inr (some (16, 0))), .inl a1]) (S := []) (p_X4_at l X 16 0 a1 (by decide) (by decide) w) ⟨me_X4_at, ms_X4_at, lk_X4_120⟩ (by decide +kernel) rfl (by decide) (by decide) (Nat.le_of_ble_eq_true rfl) ?_
      refine GE_run flG_T (pc1 := 50) (L1 := [some (.inr (.inr (some (4, 0)))), some (.inl a1), some (.inl a2), some (.inl (atV w 16 0 a1))]) (S1 := [.inl a1, .inr (.inr (some (15, 0))), .inl (atV w 16 0 a1)]) (w1 := w) (P := True) [(.istore_n 3, 0, 0, 0, 0), (.iload_n 3, 0, 0, 0, 0), (.aload_n 0, 0, 0, 0, 0), (.getfield 28, 4, 2, 0, 0), (.getfield 108, 0, 8, 0, 0), (.iload_n 1, 0, 0, 0, 0)] (by decide +kernel) rfl trivial ?_
      refine GE_callSIp (As := [.inr (.inr (some (15, 0))), .inl a1]) (S := [.inl (atV w 16 0 a1)]) (p_X4_at l X 15 0 a1 (by decide) (by decide) w) ⟨me_X4_at, ms_X4_at, lk_X4_120⟩ (by decide +kernel) rfl (by decide) (by decide) (Nat.le_of_ble_eq_true rfl) ?_
      refine GE_run flG_T (pc1 := 54) (L1 := [some (.inr (.inr (some (4, 0)))), some (.inl a1), some (.inl a2), some (.inl (atV w 16 0 a1))]) (S1 := [.inl ((atV w 16 0 a1) &&& (atV w 15 0 a1))]) (w1 := w) (P := True) [(.iand, 0, 0, 0, 0)] (by decide +kernel) rfl trivial ?_
      refine GE_callSIp (As := [.inl ((atV w 16 0 a1) &&& (atV w 15 0 a1))]) (S := []) (p_J6_bitCount l X ((atV w 16 0 a1) &&& (atV w 15 0 a1)) w) ⟨me_J6_bitCount_0f7a4, ms_J6_bitCount_0f7a4, lk_X4_52⟩ (by decide +kernel) rfl (by decide) (by decide) (Nat.le_of_ble_eq_true rfl) ?_
      refine GE_run flG_T (pc1 := 58) (L1 := [some (.inr (.inr (some (4, 0)))), some (.inl a1), some (.inl a2), some (.inl (atV w 16 0 a1))]) (S1 := [.inl (atV w 16 0 a1), .inl (bcF ((atV w 16 0 a1) &&& (atV w 15 0 a1)))]) (w1 := w) (P := True) [(.iload_n 3, 0, 0, 0, 0)] (by decide +kernel) rfl trivial ?_
      refine GE_callSIp (As := [.inl (atV w 16 0 a1)]) (S := [.inl (bcF ((atV w 16 0 a1) &&& (atV w 15 0 a1)))]) (p_J6_bitCount l X (atV w 16 0 a1) w) ⟨me_J6_bitCount_0f7a4, ms_J6_bitCount_0f7a4, lk_X4_52⟩ (by decide +kernel) rfl (by decide) (by decide) (Nat.le_of_ble_eq_true rfl) ?_
      refine GE_run flG_T (pc1 := 62) (L1 := [some (.inr (.inr (some (4, 0)))), some (.inl a1), some (.inl a2), some (.inl (atV w 16 0 a1))]) (S1 := [.inl a2, .inl (bcF (atV w 16 0 a1)), .inl (bcF ((atV w 16 0 a1) &&& (atV w 15 0 a1)))]) (w1 := w) (P := True) [(.iload_n 2, 0, 0, 0, 0)] (by decide +kernel) rfl trivial ?_
      refine GE_callSL (As := [.inl (bcF ((atV w 16 0 a1) &&& (atV w 15 0 a1))), .inl (bcF (atV w 16 0 a1)), .inl a2]) (S := []) (t_X4_lowest l X (bcF ((atV w 16 0 a1) &&& (atV w 15 0 a1))) (bcF (atV w 16 0 a1)) a2 w) ⟨me_X4_lowest, ms_X4_lowest, lk_X4_213⟩ (by decide +kernel) rfl (by decide) (by decide) (Nat.le_of_ble_eq_true rfl) (fun r3 _ => ?_)
      exact GE_lret rfl (by decide +kernel)
    · refine GE_run flG_T (pc1 := 28) (L1 := [some (.inr (.inr (some (4, 0)))), some (.inl a1), some (.inl a2), none]) (S1 := [.inr (.inl (-4611686018427387904))]) (w1 := w) (P := True) [(.ldc2_w 211, 0, 0, 0, -4611686018427387904)] (by decide +kernel) rfl trivial ?_
      exact GE_lret rfl (by decide +kernel)
abbrev mm_X4_judge : MI := (RX4, cX4_judge, 5, (some .int), ftp_X4.map (fun q => q.1), ctp_X4.map (fun q => q.1), clp_X4.map (fun q => q.1))
noncomputable def f_X4_judge (a1 : Int32) (a2 : Int32) (a3 : Int32) (w : Mem) : Option (Int32 × Mem) := Option.bind (f_X4_refusedTold a1 a2 a3 w) (fun r1 => if r1.1 = 0 then (Option.bind (f_X0_become 1 0 r1.2) (fun r3 => Option.bind (f_X4_otherwise a1 a2 a3 r3) (fun r4 => some (r4.1, r4.2)))) else (some (r1.1, r1.2)))
set_option maxRecDepth 100000 in
theorem t_X4_judge (l : Launch) (X : XC)  (a1 : Int32) (a2 : Int32) (a3 : Int32) (w : Mem) : Ct l X 6 yX4_judge cX4_judge 5 (some .int) emI [.inr (.inr (some (4, 0))), .inl a1, .inl a2, .inl a3] 57 flT w (f_X4_judge a1 a2 a3 w) := by
  refine Ct_of (mi := mm_X4_judge) (mik_X4 _ _ _) me_X4_judge rfl (okAs_cons (by decide) (okAs_cons rfl (okAs_cons rfl (okAs_cons rfl okAs_nil)))) (Nat.le_of_ble_eq_true rfl) ?_
  unfold f_X4_judge
  refine GE_run flG_T (pc1 := 4) (L1 := [some (.inr (.inr (some (4, 0)))), some (.inl a1), some (.inl a2), some (.inl a3), none]) (S1 := [.inl a3, .inl a2, .inl a1, .inr (.inr (some (4, 0)))]) (w1 := w) (P := True) [(.aload_n 0, 0, 0, 0, 0), (.iload_n 1, 0, 0, 0, 0), (.iload_n 2, 0, 0, 0, 0), (.iload_n 3, 0, 0, 0, 0)] (by decide +kernel) rfl trivial ?_
  refine GE_callVI (As := [.inl a1, .inl a2, .inl a3]) (k := 4) (i := 0) (S := []) (t_X4_refusedTold l X a1 a2 a3 w) (by decide) ⟨me_X4_refusedTold, mi_X4_refusedTold, mv_X4_refusedTold, lk_X4_217⟩ rfl (by decide +kernel) rfl (by decide) (by decide) (Nat.le_of_ble_eq_true rfl) (fun r1 _ => ?_)
  refine GE_run flG_T (pc1 := 11) (L1 := [some (.inr (.inr (some (4, 0)))), some (.inl a1), some (.inl a2), some (.inl a3), some (.inl r1.1)]) (S1 := [.inl r1.1]) (w1 := r1.2) (P := True) [(.istore 4, 0, 0, 0, 0), (.iload 4, 0, 0, 0, 0)] (by decide +kernel) rfl trivial ?_
  refine GE_if (k := .eq) (off := 6) (tgt := 17) (by decide +kernel) (by decide) (cnd_eq _ _) (fun c2 => ?_) (fun c2 => ?_)
  · refine GE_run flG_T (pc1 := 25) (L1 := [some (.inr (.inr (some (4, 0)))), some (.inl a1), some (.inl a2), some (.inl a3), some (.inl r1.1)]) (S1 := [.inr (.inr (some (0, 0))), .inr (.inr (some (0, 1)))]) (w1 := r1.2) (P := True) [(.aload_n 0, 0, 0, 0, 0), (.getfield 32, 4, 3, 0, 0), (.aload_n 0, 0, 0, 0, 0), (.getfield 28, 4, 2, 0, 0)] (by decide +kernel) rfl trivial ?_
    refine GE_callVV (As := [.inr (.inr (some (0, 0)))]) (k := 0) (i := 1) (S := []) (t_X0_become l X 1 0 (by decide) (by decide) r1.2) (by decide) ⟨me_X0_become, mi_X0_become, mv_X0_become, lk_X4_164⟩ rfl (by decide +kernel) rfl (by decide) (by decide) (Nat.le_of_ble_eq_true rfl) (fun r3 _ => ?_)
    refine GE_run flG_T (pc1 := 32) (L1 := [some (.inr (.inr (some (4, 0)))), some (.inl a1), some (.inl a2), some (.inl a3), some (.inl r1.1)]) (S1 := [.inl a3, .inl a2, .inl a1, .inr (.inr (some (4, 0)))]) (w1 := r3) (P := True) [(.aload_n 0, 0, 0, 0, 0), (.iload_n 1, 0, 0, 0, 0), (.iload_n 2, 0, 0, 0, 0), (.iload_n 3, 0, 0, 0, 0)] (by decide +kernel) rfl trivial ?_
    refine GE_callVI (As := [.inl a1, .inl a2, .inl a3]) (k := 4) (i := 0) (S := []) (t_X4_otherwise l X a1 a2 a3 r3) (by decide) ⟨me_X4_otherwise, mi_X4_otherwise, mv_X4_otherwise, lk_X4_220⟩ rfl (by decide +kernel) rfl (by decide) (by decide) (Nat.le_of_ble_eq_true rfl) (fun r4 _ => ?_)
    exact GE_iret rfl (by decide +kernel)
  · refine GE_run flG_T (pc1 := 16) (L1 := [some (.inr (.inr (some (4, 0)))), some (.inl a1), some (.inl a2), some (.inl a3), some (.inl r1.1)]) (S1 := [.inl r1.1]) (w1 := r1.2) (P := True) [(.iload 4, 0, 0, 0, 0)] (by decide +kernel) rfl trivial ?_
    exact GE_iret rfl (by decide +kernel)
abbrev mm_X4_kinds : MI := (RX4, cX4_kinds, 9, (some .int), ftp_X4.map (fun q => q.1), ctp_X4.map (fun q => q.1), clp_X4.map (fun q => q.1))
noncomputable def j_X4_kinds_91  (kl51 : Int32 → Int32 → Mem → Option (Int32 × Mem)) (x1 : Int32) (x2 : Int32) (x3 : Int32) (x4 : Int32) (x6 : Int32) (x7 : Int32) (x8 : Int32) (w : Mem) : Option (Int32 × Mem) := Option.bind (f_X4_otherwise x1 x2 x3 (setV w 13 1 x3 x8)) (fun r8 => if r8.1 = (-1) then (kl51 (x6 ||| (shlI 1 x8)) (x8 + 1) r8.2) else (kl51 x6 (x8 + 1) r8.2))
set_option maxRecDepth 100000 in
theorem j_X4_kinds_91_ok (l : Launch) (X : XC)  (kl51 : Int32 → Int32 → Mem → Option (Int32 × Mem)) (x1 : Int32) (x2 : Int32) (x3 : Int32) (x4 : Int32) (x6 : Int32) (x7 : Int32) (x8 : Int32)  (ih : ∀ (x6 : Int32) (x8 : Int32) (w : Mem), GE l X mm_X4_kinds 6 emI 57 flT (kl51 x6 x8 w) 51 [some (.inr (.inr (some (4, 0)))), some (.inl x1), some (.inl x2), some (.inl x3), some (.inl x4), none, some (.inl x6), some (.inl x7), some (.inl x8)] [] w) (w : Mem) : GE l X mm_X4_kinds 6 emI 57 flT (j_X4_kinds_91 kl51 x1 x2 x3 x4 x6 x7 x8 w) 91 [some (.inr (.inr (some (4, 0)))), some (.inl x1), some (.inl x2), some (.inl x3), some (.inl x4), none, some (.inl x6), some (.inl x7), some (.inl x8)] [.inr (.inr (some (13, 1)))] w := by
  unfold j_X4_kinds_91
  refine GE_run flG_T (pc1 := 94) (L1 := [some (.inr (.inr (some (4, 0)))), some (.inl x1), some (.inl x2), some (.inl x3), some (.inl x4), none, some (.inl x6), some (.inl x7), some (.inl x8)]) (S1 := [.inl x8, .inl x3, .inr (.inr (some (13, 1)))]) (w1 := w) (P := True) [(.iload_n 3, 0, 0, 0, 0), (.iload 8, 0, 0, 0, 0)] (by decide +kernel) rfl trivial ?_
  refine GE_callSVp (As := [.inr (.inr (some (13, 1))), .inl x3, .inl x8]) (S := []) (p_X4_set l X 13 1 x3 x8 (by decide) (by decide) w) ⟨me_X4_set, ms_X4_set, lk_X4_204⟩ (by decide +kernel) rfl (by decide) (by decide) (Nat.le_of_ble_eq_true rfl) ?_
  refine GE_run flG_T (pc1 := 101) (L1 := [some (.inr (.inr (some (4, 0)))), some (.inl x1), some (.inl x2), some (.inl x3), some (.inl x4), none, some (.inl x6), some (.inl x7), some (.inl x8)]) (S1 := [.inl x3, .inl x2, .inl x1, .inr (.inr (some (4, 0)))]) (w1 := setV w 13 1 x3 x8) (P := True) [(.aload_n 0, 0, 0, 0, 0), (.iload_n 1, 0, 0, 0, 0), (.iload_n 2, 0, 0, 0, 0), (.iload_n 3, 0, 0, 0, 0)] (by decide +kernel) rfl trivial ?_
  refine GE_callVI (As := [.inl x1, .inl x2, .inl x3]) (k := 4) (i := 0) (S := []) (t_X4_otherwise l X x1 x2 x3 (setV w 13 1 x3 x8)) (by decide) ⟨me_X4_otherwise, mi_X4_otherwise, mv_X4_otherwise, lk_X4_220⟩ rfl (by decide +kernel) rfl (by decide) (by decide) (Nat.le_of_ble_eq_true rfl) (fun r8 _ => ?_)
  refine GE_run flG_T (pc1 := 105) (L1 := [some (.inr (.inr (some (4, 0)))), some (.inl x1), some (.inl x2), some (.inl x3), some (.inl x4), none, some (.inl x6), some (.inl x7), some (.inl x8)]) (S1 := [.inl (-1), .inl r8.1]) (w1 := r8.2) (P := True) [(.iconst (-1), 0, 0, -1, 0)] (by decide +kernel) rfl trivial ?_
  refine GE_icmpN (k := .ne) (off := 12) (tgt := 117) (by decide +kernel) (by decide) (cnd_ne _ _) (fun c9 => ?_) (fun c9 => ?_)
  · refine GE_run flG_T (pc1 := 51) (L1 := [some (.inr (.inr (some (4, 0)))), some (.inl x1), some (.inl x2), some (.inl x3), some (.inl x4), none, some (.inl x6), some (.inl x7), some (.inl (x8 + 1))]) (S1 := []) (w1 := r8.2) (P := True) [(.iinc 8 1, 0, 0, 1, 0), (.goto (-69), 0, 0, 0, 0)] (by decide +kernel) rfl trivial ?_
    exact GE_weak [true, true, true, true, true, false, true, true, true] (ih x6 (x8 + 1) r8.2)
  · refine GE_run flG_T (pc1 := 51) (L1 := [some (.inr (.inr (some (4, 0)))), some (.inl x1), some (.inl x2), some (.inl x3), some (.inl x4), none, some (.inl (x6 ||| (shlI 1 x8))), some (.inl x7), some (.inl (x8 + 1))]) (S1 := []) (w1 := r8.2) (P := True) [(.iload 6, 0, 0, 0, 0), (.iconst 1, 0, 0, 1, 0), (.iload 8, 0, 0, 0, 0), (.ishl, 0, 0, 0, 0), (.ior, 0, 0, 0, 0), (.istore 6, 0, 0, 0, 0), (.iinc 8 1, 0, 0, 1, 0), (.goto (-69), 0, 0, 0, 0)] (by decide +kernel) rfl trivial ?_
    exact GE_weak [true, true, true, true, true, false, true, true, true] (ih (x6 ||| (shlI 1 x8)) (x8 + 1) r8.2)
noncomputable def j_X4_kinds_91_1  (kl51 : Int32 → Int32 → Mem → Option (Int32 × Mem)) (x1 : Int32) (x2 : Int32) (x3 : Int32) (x4 : Int32) (x6 : Int32) (x7 : Int32) (x8 : Int32) (w : Mem) : Option (Int32 × Mem) := Option.bind (f_X4_otherwise x1 x2 x3 (setV w 14 1 x3 x8)) (fun r10 => if r10.1 = (-1) then (kl51 (x6 ||| (shlI 1 x8)) (x8 + 1) r10.2) else (kl51 x6 (x8 + 1) r10.2))
set_option maxRecDepth 100000 in
theorem j_X4_kinds_91_1_ok (l : Launch) (X : XC)  (kl51 : Int32 → Int32 → Mem → Option (Int32 × Mem)) (x1 : Int32) (x2 : Int32) (x3 : Int32) (x4 : Int32) (x6 : Int32) (x7 : Int32) (x8 : Int32)  (ih : ∀ (x6 : Int32) (x8 : Int32) (w : Mem), GE l X mm_X4_kinds 6 emI 57 flT (kl51 x6 x8 w) 51 [some (.inr (.inr (some (4, 0)))), some (.inl x1), some (.inl x2), some (.inl x3), some (.inl x4), none, some (.inl x6), some (.inl x7), some (.inl x8)] [] w) (w : Mem) : GE l X mm_X4_kinds 6 emI 57 flT (j_X4_kinds_91_1 kl51 x1 x2 x3 x4 x6 x7 x8 w) 91 [some (.inr (.inr (some (4, 0)))), some (.inl x1), some (.inl x2), some (.inl x3), some (.inl x4), none, some (.inl x6), some (.inl x7), some (.inl x8)] [.inr (.inr (some (14, 1)))] w := by
  unfold j_X4_kinds_91_1
  refine GE_run flG_T (pc1 := 94) (L1 := [some (.inr (.inr (some (4, 0)))), some (.inl x1), some (.inl x2), some (.inl x3), some (.inl x4), none, some (.inl x6), some (.inl x7), some (.inl x8)]) (S1 := [.inl x8, .inl x3, .inr (.inr (some (14, 1)))]) (w1 := w) (P := True) [(.iload_n 3, 0, 0, 0, 0), (.iload 8, 0, 0, 0, 0)] (by decide +kernel) rfl trivial ?_
  refine GE_callSVp (As := [.inr (.inr (some (14, 1))), .inl x3, .inl x8]) (S := []) (p_X4_set l X 14 1 x3 x8 (by decide) (by decide) w) ⟨me_X4_set, ms_X4_set, lk_X4_204⟩ (by decide +kernel) rfl (by decide) (by decide) (Nat.le_of_ble_eq_true rfl) ?_
  refine GE_run flG_T (pc1 := 101) (L1 := [some (.inr (.inr (some (4, 0)))), some (.inl x1), some (.inl x2), some (.inl x3), some (.inl x4), none, some (.inl x6), some (.inl x7), some (.inl x8)]) (S1 := [.inl x3, .inl x2, .inl x1, .inr (.inr (some (4, 0)))]) (w1 := setV w 14 1 x3 x8) (P := True) [(.aload_n 0, 0, 0, 0, 0), (.iload_n 1, 0, 0, 0, 0), (.iload_n 2, 0, 0, 0, 0), (.iload_n 3, 0, 0, 0, 0)] (by decide +kernel) rfl trivial ?_
  refine GE_callVI (As := [.inl x1, .inl x2, .inl x3]) (k := 4) (i := 0) (S := []) (t_X4_otherwise l X x1 x2 x3 (setV w 14 1 x3 x8)) (by decide) ⟨me_X4_otherwise, mi_X4_otherwise, mv_X4_otherwise, lk_X4_220⟩ rfl (by decide +kernel) rfl (by decide) (by decide) (Nat.le_of_ble_eq_true rfl) (fun r10 _ => ?_)
  refine GE_run flG_T (pc1 := 105) (L1 := [some (.inr (.inr (some (4, 0)))), some (.inl x1), some (.inl x2), some (.inl x3), some (.inl x4), none, some (.inl x6), some (.inl x7), some (.inl x8)]) (S1 := [.inl (-1), .inl r10.1]) (w1 := r10.2) (P := True) [(.iconst (-1), 0, 0, -1, 0)] (by decide +kernel) rfl trivial ?_
  refine GE_icmpN (k := .ne) (off := 12) (tgt := 117) (by decide +kernel) (by decide) (cnd_ne _ _) (fun c11 => ?_) (fun c11 => ?_)
  · refine GE_run flG_T (pc1 := 51) (L1 := [some (.inr (.inr (some (4, 0)))), some (.inl x1), some (.inl x2), some (.inl x3), some (.inl x4), none, some (.inl x6), some (.inl x7), some (.inl (x8 + 1))]) (S1 := []) (w1 := r10.2) (P := True) [(.iinc 8 1, 0, 0, 1, 0), (.goto (-69), 0, 0, 0, 0)] (by decide +kernel) rfl trivial ?_
    exact GE_weak [true, true, true, true, true, false, true, true, true] (ih x6 (x8 + 1) r10.2)
  · refine GE_run flG_T (pc1 := 51) (L1 := [some (.inr (.inr (some (4, 0)))), some (.inl x1), some (.inl x2), some (.inl x3), some (.inl x4), none, some (.inl (x6 ||| (shlI 1 x8))), some (.inl x7), some (.inl (x8 + 1))]) (S1 := []) (w1 := r10.2) (P := True) [(.iload 6, 0, 0, 0, 0), (.iconst 1, 0, 0, 1, 0), (.iload 8, 0, 0, 0, 0), (.ishl, 0, 0, 0, 0), (.ior, 0, 0, 0, 0), (.istore 6, 0, 0, 0, 0), (.iinc 8 1, 0, 0, 1, 0), (.goto (-69), 0, 0, 0, 0)] (by decide +kernel) rfl trivial ?_
    exact GE_weak [true, true, true, true, true, false, true, true, true] (ih (x6 ||| (shlI 1 x8)) (x8 + 1) r10.2)
noncomputable def h_X4_kinds_51 (x1 : Int32) (x2 : Int32) (x3 : Int32) (x4 : Int32) (x7 : Int32) (k123 : Int32 → Mem → Option (Int32 × Mem)) : Nat → Int32 → Int32 → Mem → Option (Int32 × Mem)
  | 0, _, _, _ => none
  | n + 1, x6, x8, w => if x8 < x7 then (Option.bind (f_X0_become 1 0 w) (fun r6 => if x4 = 0 then (j_X4_kinds_91 (h_X4_kinds_51 x1 x2 x3 x4 x7 k123 n) x1 x2 x3 x4 x6 x7 x8 r6) else (j_X4_kinds_91_1 (h_X4_kinds_51 x1 x2 x3 x4 x7 k123 n) x1 x2 x3 x4 x6 x7 x8 r6))) else (k123 x6 w)
set_option maxRecDepth 100000 in
theorem h_X4_kinds_51_ok (l : Launch) (X : XC) (x1 : Int32) (x2 : Int32) (x3 : Int32) (x4 : Int32) (x7 : Int32) (k123 : Int32 → Mem → Option (Int32 × Mem))  (hk123 : ∀ (x6 : Int32) (w : Mem), GE l X mm_X4_kinds 6 emI 57 flT (k123 x6 w) 123 [none, none, none, none, none, none, some (.inl x6), none, none] [] w) : ∀ (n : Nat) (x6 : Int32) (x8 : Int32) (w : Mem), GE l X mm_X4_kinds 6 emI 57 flT ((h_X4_kinds_51 x1 x2 x3 x4 x7 k123 n) x6 x8 w) 51 [some (.inr (.inr (some (4, 0)))), some (.inl x1), some (.inl x2), some (.inl x3), some (.inl x4), none, some (.inl x6), some (.inl x7), some (.inl x8)] [] w := by
  intro n
  induction n with
  | zero => intro x6 x8 w; exact GE_none
  | succ n ih =>
    intro x6 x8 w
    unfold h_X4_kinds_51
    refine GE_run flG_T (pc1 := 55) (L1 := [some (.inr (.inr (some (4, 0)))), some (.inl x1), some (.inl x2), some (.inl x3), some (.inl x4), none, some (.inl x6), some (.inl x7), some (.inl x8)]) (S1 := [.inl x7, .inl x8]) (w1 := w) (P := True) [(.iload 8, 0, 0, 0, 0), (.iload 7, 0, 0, 0, 0)] (by decide +kernel) rfl trivial ?_
    refine GE_icmpN (k := .ge) (off := 68) (tgt := 123) (by decide +kernel) (by decide) (cnd_ge _ _) (fun c5 => ?_) (fun c5 => ?_)
    · exact GE_weak [false, false, false, false, false, false, true, false, false] (hk123 x6 w)
    · refine GE_run flG_T (pc1 := 66) (L1 := [some (.inr (.inr (some (4, 0)))), some (.inl x1), some (.inl x2), some (.inl x3), some (.inl x4), none, some (.inl x6), some (.inl x7), some (.inl x8)]) (S1 := [.inr (.inr (some (0, 0))), .inr (.inr (some (0, 1)))]) (w1 := w) (P := True) [(.aload_n 0, 0, 0, 0, 0), (.getfield 32, 4, 3, 0, 0), (.aload_n 0, 0, 0, 0, 0), (.getfield 28, 4, 2, 0, 0)] (by decide +kernel) rfl trivial ?_
      refine GE_callVV (As := [.inr (.inr (some (0, 0)))]) (k := 0) (i := 1) (S := []) (t_X0_become l X 1 0 (by decide) (by decide) w) (by decide) ⟨me_X0_become, mi_X0_become, mv_X0_become, lk_X4_164⟩ rfl (by decide +kernel) rfl (by decide) (by decide) (Nat.le_of_ble_eq_true rfl) (fun r6 _ => ?_)
      refine GE_run flG_T (pc1 := 71) (L1 := [some (.inr (.inr (some (4, 0)))), some (.inl x1), some (.inl x2), some (.inl x3), some (.inl x4), none, some (.inl x6), some (.inl x7), some (.inl x8)]) (S1 := [.inl x4]) (w1 := r6) (P := True) [(.iload 4, 0, 0, 0, 0)] (by decide +kernel) rfl trivial ?_
      refine GE_ifN (k := .ne) (off := 13) (tgt := 84) (by decide +kernel) (by decide) (cnd_ne _ _) (fun c7 => ?_) (fun c7 => ?_)
      · refine GE_run flG_T (pc1 := 91) (L1 := [some (.inr (.inr (some (4, 0)))), some (.inl x1), some (.inl x2), some (.inl x3), some (.inl x4), none, some (.inl x6), some (.inl x7), some (.inl x8)]) (S1 := [.inr (.inr (some (14, 1)))]) (w1 := r6) (P := True) [(.aload_n 0, 0, 0, 0, 0), (.getfield 32, 4, 3, 0, 0), (.getfield 127, 0, 7, 0, 0)] (by decide +kernel) rfl trivial ?_
        exact GE_weak [true, true, true, true, true, false, true, true, true] (j_X4_kinds_91_1_ok l X (h_X4_kinds_51 x1 x2 x3 x4 x7 k123 n) x1 x2 x3 x4 x6 x7 x8 ih r6)
      · refine GE_run flG_T (pc1 := 91) (L1 := [some (.inr (.inr (some (4, 0)))), some (.inl x1), some (.inl x2), some (.inl x3), some (.inl x4), none, some (.inl x6), some (.inl x7), some (.inl x8)]) (S1 := [.inr (.inr (some (13, 1)))]) (w1 := r6) (P := True) [(.aload_n 0, 0, 0, 0, 0), (.getfield 32, 4, 3, 0, 0), (.getfield 124, 0, 6, 0, 0), (.goto 10, 0, 0, 0, 0)] (by decide +kernel) rfl trivial ?_
        exact GE_weak [true, true, true, true, true, false, true, true, true] (j_X4_kinds_91_ok l X (h_X4_kinds_51 x1 x2 x3 x4 x7 k123 n) x1 x2 x3 x4 x6 x7 x8 ih r6)
noncomputable def j_X4_kinds_46   (x1 : Int32) (x2 : Int32) (x3 : Int32) (x4 : Int32) (x6 : Int32) (s0 : Int32) (w : Mem) : Option (Int32 × Mem) := h_X4_kinds_51 x1 x2 x3 x4 s0 (fun x6_12 w13 => some (x6_12, w13)) FU x6 0 w
set_option maxRecDepth 100000 in
theorem j_X4_kinds_46_ok (l : Launch) (X : XC)   (x1 : Int32) (x2 : Int32) (x3 : Int32) (x4 : Int32) (x6 : Int32) (s0 : Int32)   (w : Mem) : GE l X mm_X4_kinds 6 emI 57 flT (j_X4_kinds_46 x1 x2 x3 x4 x6 s0 w) 46 [some (.inr (.inr (some (4, 0)))), some (.inl x1), some (.inl x2), some (.inl x3), some (.inl x4), none, some (.inl x6), none, none] [.inl s0] w := by
  unfold j_X4_kinds_46
  refine GE_run flG_T (pc1 := 51) (L1 := [some (.inr (.inr (some (4, 0)))), some (.inl x1), some (.inl x2), some (.inl x3), some (.inl x4), none, some (.inl x6), some (.inl s0), some (.inl 0)]) (S1 := []) (w1 := w) (P := True) [(.istore 7, 0, 0, 0, 0), (.iconst 0, 0, 0, 0, 0), (.istore 8, 0, 0, 0, 0)] (by decide +kernel) rfl trivial ?_
  refine GE_weak [true, true, true, true, true, false, true, true, true] (h_X4_kinds_51_ok l X x1 x2 x3 x4 s0 _ ?_ FU x6 0 w)
  · intro x6_12 w13
    refine GE_run flG_T (pc1 := 125) (L1 := [none, none, none, none, none, none, some (.inl x6_12), none, none]) (S1 := [.inl x6_12]) (w1 := w13) (P := True) [(.iload 6, 0, 0, 0, 0)] (by decide +kernel) rfl trivial ?_
    exact GE_iret rfl (by decide +kernel)
noncomputable def j_X4_kinds_31   (x1 : Int32) (x2 : Int32) (x3 : Int32) (x4 : Int32) (w : Mem) : Option (Int32 × Mem) := if x4 = 0 then (j_X4_kinds_46 x1 x2 x3 x4 0 6 w) else (j_X4_kinds_46 x1 x2 x3 x4 0 10 w)
set_option maxRecDepth 100000 in
theorem j_X4_kinds_31_ok (l : Launch) (X : XC)   (x1 : Int32) (x2 : Int32) (x3 : Int32) (x4 : Int32)   (w : Mem) : GE l X mm_X4_kinds 6 emI 57 flT (j_X4_kinds_31 x1 x2 x3 x4 w) 31 [some (.inr (.inr (some (4, 0)))), some (.inl x1), some (.inl x2), some (.inl x3), some (.inl x4), none, none, none, none] [] w := by
  unfold j_X4_kinds_31
  refine GE_run flG_T (pc1 := 36) (L1 := [some (.inr (.inr (some (4, 0)))), some (.inl x1), some (.inl x2), some (.inl x3), some (.inl x4), none, some (.inl 0), none, none]) (S1 := [.inl x4]) (w1 := w) (P := True) [(.iconst 0, 0, 0, 0, 0), (.istore 6, 0, 0, 0, 0), (.iload 4, 0, 0, 0, 0)] (by decide +kernel) rfl trivial ?_
  refine GE_ifN (k := .ne) (off := 8) (tgt := 44) (by decide +kernel) (by decide) (cnd_ne _ _) (fun c4 => ?_) (fun c4 => ?_)
  · refine GE_run flG_T (pc1 := 46) (L1 := [some (.inr (.inr (some (4, 0)))), some (.inl x1), some (.inl x2), some (.inl x3), some (.inl x4), none, some (.inl 0), none, none]) (S1 := [.inl 10]) (w1 := w) (P := True) [(.bipush 10, 0, 0, 10, 0)] (by decide +kernel) rfl trivial ?_
    exact GE_weak [true, true, true, true, true, false, true, false, false] (j_X4_kinds_46_ok l X x1 x2 x3 x4 0 10 w)
  · refine GE_run flG_T (pc1 := 46) (L1 := [some (.inr (.inr (some (4, 0)))), some (.inl x1), some (.inl x2), some (.inl x3), some (.inl x4), none, some (.inl 0), none, none]) (S1 := [.inl 6]) (w1 := w) (P := True) [(.bipush 6, 0, 0, 6, 0), (.goto 5, 0, 0, 0, 0)] (by decide +kernel) rfl trivial ?_
    exact GE_weak [true, true, true, true, true, false, true, false, false] (j_X4_kinds_46_ok l X x1 x2 x3 x4 0 6 w)
noncomputable def f_X4_kinds (a1 : Int32) (a2 : Int32) (a3 : Int32) (a4 : Int32) (w : Mem) : Option (Int32 × Mem) := Option.bind (f_X4_refusedTold a1 a2 a3 w) (fun r1 => if r1.1 = 0 then (if a4 = 0 then (j_X4_kinds_31 a1 a2 a3 a4 r1.2) else (if a4 = 1 then (j_X4_kinds_31 a1 a2 a3 a4 r1.2) else (some ((-7), r1.2)))) else (some (r1.1, r1.2)))
set_option maxRecDepth 100000 in
theorem t_X4_kinds (l : Launch) (X : XC)  (a1 : Int32) (a2 : Int32) (a3 : Int32) (a4 : Int32) (w : Mem) : Ct l X 6 yX4_kinds cX4_kinds 9 (some .int) emI [.inr (.inr (some (4, 0))), .inl a1, .inl a2, .inl a3, .inl a4] 57 flT w (f_X4_kinds a1 a2 a3 a4 w) := by
  refine Ct_of (mi := mm_X4_kinds) (mik_X4 _ _ _) me_X4_kinds rfl (okAs_cons (by decide) (okAs_cons rfl (okAs_cons rfl (okAs_cons rfl (okAs_cons rfl okAs_nil))))) (Nat.le_of_ble_eq_true rfl) ?_
  unfold f_X4_kinds
  refine GE_run flG_T (pc1 := 4) (L1 := [some (.inr (.inr (some (4, 0)))), some (.inl a1), some (.inl a2), some (.inl a3), some (.inl a4), none, none, none, none]) (S1 := [.inl a3, .inl a2, .inl a1, .inr (.inr (some (4, 0)))]) (w1 := w) (P := True) [(.aload_n 0, 0, 0, 0, 0), (.iload_n 1, 0, 0, 0, 0), (.iload_n 2, 0, 0, 0, 0), (.iload_n 3, 0, 0, 0, 0)] (by decide +kernel) rfl trivial ?_
  refine GE_callVI (As := [.inl a1, .inl a2, .inl a3]) (k := 4) (i := 0) (S := []) (t_X4_refusedTold l X a1 a2 a3 w) (by decide) ⟨me_X4_refusedTold, mi_X4_refusedTold, mv_X4_refusedTold, lk_X4_217⟩ rfl (by decide +kernel) rfl (by decide) (by decide) (Nat.le_of_ble_eq_true rfl) (fun r1 _ => ?_)
  refine GE_run flG_T (pc1 := 11) (L1 := [some (.inr (.inr (some (4, 0)))), some (.inl a1), some (.inl a2), some (.inl a3), some (.inl a4), some (.inl r1.1), none, none, none]) (S1 := [.inl r1.1]) (w1 := r1.2) (P := True) [(.istore 5, 0, 0, 0, 0), (.iload 5, 0, 0, 0, 0)] (by decide +kernel) rfl trivial ?_
  refine GE_if (k := .eq) (off := 6) (tgt := 17) (by decide +kernel) (by decide) (cnd_eq _ _) (fun c2 => ?_) (fun c2 => ?_)
  · refine GE_run flG_T (pc1 := 19) (L1 := [some (.inr (.inr (some (4, 0)))), some (.inl a1), some (.inl a2), some (.inl a3), some (.inl a4), some (.inl r1.1), none, none, none]) (S1 := [.inl a4]) (w1 := r1.2) (P := True) [(.iload 4, 0, 0, 0, 0)] (by decide +kernel) rfl trivial ?_
    refine GE_if (k := .eq) (off := 12) (tgt := 31) (by decide +kernel) (by decide) (cnd_eq _ _) (fun c3 => ?_) (fun c3 => ?_)
    · exact GE_weak [true, true, true, true, true, false, false, false, false] (j_X4_kinds_31_ok l X a1 a2 a3 a4 r1.2)
    · refine GE_run flG_T (pc1 := 25) (L1 := [some (.inr (.inr (some (4, 0)))), some (.inl a1), some (.inl a2), some (.inl a3), some (.inl a4), some (.inl r1.1), none, none, none]) (S1 := [.inl 1, .inl a4]) (w1 := r1.2) (P := True) [(.iload 4, 0, 0, 0, 0), (.iconst 1, 0, 0, 1, 0)] (by decide +kernel) rfl trivial ?_
      refine GE_icmp (k := .eq) (off := 6) (tgt := 31) (by decide +kernel) (by decide) (cnd_eq _ _) (fun c14 => ?_) (fun c14 => ?_)
      · exact GE_weak [true, true, true, true, true, false, false, false, false] (j_X4_kinds_31_ok l X a1 a2 a3 a4 r1.2)
      · refine GE_run flG_T (pc1 := 30) (L1 := [some (.inr (.inr (some (4, 0)))), some (.inl a1), some (.inl a2), some (.inl a3), some (.inl a4), some (.inl r1.1), none, none, none]) (S1 := [.inl (-7)]) (w1 := r1.2) (P := True) [(.bipush (-7), 0, 0, -7, 0)] (by decide +kernel) rfl trivial ?_
        exact GE_iret rfl (by decide +kernel)
  · refine GE_run flG_T (pc1 := 16) (L1 := [some (.inr (.inr (some (4, 0)))), some (.inl a1), some (.inl a2), some (.inl a3), some (.inl a4), some (.inl r1.1), none, none, none]) (S1 := [.inl r1.1]) (w1 := r1.2) (P := True) [(.iload 5, 0, 0, 0, 0)] (by decide +kernel) rfl trivial ?_
    exact GE_iret rfl (by decide +kernel)
abbrev mm_X4_turned : MI := (RX4, cX4_turned, 7, (some .int), ftp_X4.map (fun q => q.1), ctp_X4.map (fun q => q.1), clp_X4.map (fun q => q.1))
noncomputable def h_X4_turned_23 (x1 : Int32) (x2 : Int32) (x3 : Int32) (k94 : Int32 → Mem → Option (Int32 × Mem)) : Nat → Int32 → Int32 → Mem → Option (Int32 × Mem)
  | 0, _, _, _ => none
  | n + 1, x5, x6, w => if x6 < 16 then (Option.bind (f_X0_become 1 0 w) (fun r4 => Option.bind (f_X4_otherwise x1 x2 x3 (setV r4 15 1 x3 ((atV r4 15 0 x3) ^^^ (shlI 1 x6)))) (fun r5 => if r5.1 = (-1) then ((h_X4_turned_23 x1 x2 x3 k94 n) (x5 ||| (shlI 1 x6)) (x6 + 1) r5.2) else ((h_X4_turned_23 x1 x2 x3 k94 n) x5 (x6 + 1) r5.2)))) else (k94 x5 w)
set_option maxRecDepth 100000 in
theorem h_X4_turned_23_ok (l : Launch) (X : XC) (x1 : Int32) (x2 : Int32) (x3 : Int32) (k94 : Int32 → Mem → Option (Int32 × Mem))  (hk94 : ∀ (x5 : Int32) (w : Mem), GE l X mm_X4_turned 6 emI 57 flT (k94 x5 w) 94 [none, none, none, none, none, some (.inl x5), none] [] w) : ∀ (n : Nat) (x5 : Int32) (x6 : Int32) (w : Mem), GE l X mm_X4_turned 6 emI 57 flT ((h_X4_turned_23 x1 x2 x3 k94 n) x5 x6 w) 23 [some (.inr (.inr (some (4, 0)))), some (.inl x1), some (.inl x2), some (.inl x3), none, some (.inl x5), some (.inl x6)] [] w := by
  intro n
  induction n with
  | zero => intro x5 x6 w; exact GE_none
  | succ n ih =>
    intro x5 x6 w
    unfold h_X4_turned_23
    refine GE_run flG_T (pc1 := 27) (L1 := [some (.inr (.inr (some (4, 0)))), some (.inl x1), some (.inl x2), some (.inl x3), none, some (.inl x5), some (.inl x6)]) (S1 := [.inl 16, .inl x6]) (w1 := w) (P := True) [(.iload 6, 0, 0, 0, 0), (.bipush 16, 0, 0, 16, 0)] (by decide +kernel) rfl trivial ?_
    refine GE_icmpN (k := .ge) (off := 67) (tgt := 94) (by decide +kernel) (by decide) (cnd_ge _ _) (fun c3 => ?_) (fun c3 => ?_)
    · exact GE_weak [false, false, false, false, false, true, false] (hk94 x5 w)
    · refine GE_run flG_T (pc1 := 38) (L1 := [some (.inr (.inr (some (4, 0)))), some (.inl x1), some (.inl x2), some (.inl x3), none, some (.inl x5), some (.inl x6)]) (S1 := [.inr (.inr (some (0, 0))), .inr (.inr (some (0, 1)))]) (w1 := w) (P := True) [(.aload_n 0, 0, 0, 0, 0), (.getfield 32, 4, 3, 0, 0), (.aload_n 0, 0, 0, 0, 0), (.getfield 28, 4, 2, 0, 0)] (by decide +kernel) rfl trivial ?_
      refine GE_callVV (As := [.inr (.inr (some (0, 0)))]) (k := 0) (i := 1) (S := []) (t_X0_become l X 1 0 (by decide) (by decide) w) (by decide) ⟨me_X0_become, mi_X0_become, mv_X0_become, lk_X4_164⟩ rfl (by decide +kernel) rfl (by decide) (by decide) (Nat.le_of_ble_eq_true rfl) (fun r4 _ => ?_)
      refine GE_run flG_T (pc1 := 57) (L1 := [some (.inr (.inr (some (4, 0)))), some (.inl x1), some (.inl x2), some (.inl x3), none, some (.inl x5), some (.inl x6)]) (S1 := [.inl x3, .inr (.inr (some (15, 0))), .inl x3, .inr (.inr (some (15, 1)))]) (w1 := r4) (P := True) [(.aload_n 0, 0, 0, 0, 0), (.getfield 32, 4, 3, 0, 0), (.getfield 108, 0, 8, 0, 0), (.iload_n 3, 0, 0, 0, 0), (.aload_n 0, 0, 0, 0, 0), (.getfield 28, 4, 2, 0, 0), (.getfield 108, 0, 8, 0, 0), (.iload_n 3, 0, 0, 0, 0)] (by decide +kernel) rfl trivial ?_
      refine GE_callSIp (As := [.inr (.inr (some (15, 0))), .inl x3]) (S := [.inl x3, .inr (.inr (some (15, 1)))]) (p_X4_at l X 15 0 x3 (by decide) (by decide) r4) ⟨me_X4_at, ms_X4_at, lk_X4_120⟩ (by decide +kernel) rfl (by decide) (by decide) (Nat.le_of_ble_eq_true rfl) ?_
      refine GE_run flG_T (pc1 := 65) (L1 := [some (.inr (.inr (some (4, 0)))), some (.inl x1), some (.inl x2), some (.inl x3), none, some (.inl x5), some (.inl x6)]) (S1 := [.inl ((atV r4 15 0 x3) ^^^ (shlI 1 x6)), .inl x3, .inr (.inr (some (15, 1)))]) (w1 := r4) (P := True) [(.iconst 1, 0, 0, 1, 0), (.iload 6, 0, 0, 0, 0), (.ishl, 0, 0, 0, 0), (.ixor, 0, 0, 0, 0)] (by decide +kernel) rfl trivial ?_
      refine GE_callSVp (As := [.inr (.inr (some (15, 1))), .inl x3, .inl ((atV r4 15 0 x3) ^^^ (shlI 1 x6))]) (S := []) (p_X4_set l X 15 1 x3 ((atV r4 15 0 x3) ^^^ (shlI 1 x6)) (by decide) (by decide) r4) ⟨me_X4_set, ms_X4_set, lk_X4_204⟩ (by decide +kernel) rfl (by decide) (by decide) (Nat.le_of_ble_eq_true rfl) ?_
      refine GE_run flG_T (pc1 := 72) (L1 := [some (.inr (.inr (some (4, 0)))), some (.inl x1), some (.inl x2), some (.inl x3), none, some (.inl x5), some (.inl x6)]) (S1 := [.inl x3, .inl x2, .inl x1, .inr (.inr (some (4, 0)))]) (w1 := setV r4 15 1 x3 ((atV r4 15 0 x3) ^^^ (shlI 1 x6))) (P := True) [(.aload_n 0, 0, 0, 0, 0), (.iload_n 1, 0, 0, 0, 0), (.iload_n 2, 0, 0, 0, 0), (.iload_n 3, 0, 0, 0, 0)] (by decide +kernel) rfl trivial ?_
      refine GE_callVI (As := [.inl x1, .inl x2, .inl x3]) (k := 4) (i := 0) (S := []) (t_X4_otherwise l X x1 x2 x3 (setV r4 15 1 x3 ((atV r4 15 0 x3) ^^^ (shlI 1 x6)))) (by decide) ⟨me_X4_otherwise, mi_X4_otherwise, mv_X4_otherwise, lk_X4_220⟩ rfl (by decide +kernel) rfl (by decide) (by decide) (Nat.le_of_ble_eq_true rfl) (fun r5 _ => ?_)
      refine GE_run flG_T (pc1 := 76) (L1 := [some (.inr (.inr (some (4, 0)))), some (.inl x1), some (.inl x2), some (.inl x3), none, some (.inl x5), some (.inl x6)]) (S1 := [.inl (-1), .inl r5.1]) (w1 := r5.2) (P := True) [(.iconst (-1), 0, 0, -1, 0)] (by decide +kernel) rfl trivial ?_
      refine GE_icmpN (k := .ne) (off := 12) (tgt := 88) (by decide +kernel) (by decide) (cnd_ne _ _) (fun c6 => ?_) (fun c6 => ?_)
      · refine GE_run flG_T (pc1 := 23) (L1 := [some (.inr (.inr (some (4, 0)))), some (.inl x1), some (.inl x2), some (.inl x3), none, some (.inl x5), some (.inl (x6 + 1))]) (S1 := []) (w1 := r5.2) (P := True) [(.iinc 6 1, 0, 0, 1, 0), (.goto (-68), 0, 0, 0, 0)] (by decide +kernel) rfl trivial ?_
        exact GE_weak [true, true, true, true, false, true, true] (ih x5 (x6 + 1) r5.2)
      · refine GE_run flG_T (pc1 := 23) (L1 := [some (.inr (.inr (some (4, 0)))), some (.inl x1), some (.inl x2), some (.inl x3), none, some (.inl (x5 ||| (shlI 1 x6))), some (.inl (x6 + 1))]) (S1 := []) (w1 := r5.2) (P := True) [(.iload 5, 0, 0, 0, 0), (.iconst 1, 0, 0, 1, 0), (.iload 6, 0, 0, 0, 0), (.ishl, 0, 0, 0, 0), (.ior, 0, 0, 0, 0), (.istore 5, 0, 0, 0, 0), (.iinc 6 1, 0, 0, 1, 0), (.goto (-68), 0, 0, 0, 0)] (by decide +kernel) rfl trivial ?_
        exact GE_weak [true, true, true, true, false, true, true] (ih (x5 ||| (shlI 1 x6)) (x6 + 1) r5.2)
noncomputable def f_X4_turned (a1 : Int32) (a2 : Int32) (a3 : Int32) (w : Mem) : Option (Int32 × Mem) := Option.bind (f_X4_refusedTold a1 a2 a3 w) (fun r1 => if r1.1 = 0 then (h_X4_turned_23 a1 a2 a3 (fun x5_7 w8 => some (x5_7, w8)) FU 0 0 r1.2) else (some (r1.1, r1.2)))
set_option maxRecDepth 100000 in
theorem t_X4_turned (l : Launch) (X : XC)  (a1 : Int32) (a2 : Int32) (a3 : Int32) (w : Mem) : Ct l X 6 yX4_turned cX4_turned 7 (some .int) emI [.inr (.inr (some (4, 0))), .inl a1, .inl a2, .inl a3] 57 flT w (f_X4_turned a1 a2 a3 w) := by
  refine Ct_of (mi := mm_X4_turned) (mik_X4 _ _ _) me_X4_turned rfl (okAs_cons (by decide) (okAs_cons rfl (okAs_cons rfl (okAs_cons rfl okAs_nil)))) (Nat.le_of_ble_eq_true rfl) ?_
  unfold f_X4_turned
  refine GE_run flG_T (pc1 := 4) (L1 := [some (.inr (.inr (some (4, 0)))), some (.inl a1), some (.inl a2), some (.inl a3), none, none, none]) (S1 := [.inl a3, .inl a2, .inl a1, .inr (.inr (some (4, 0)))]) (w1 := w) (P := True) [(.aload_n 0, 0, 0, 0, 0), (.iload_n 1, 0, 0, 0, 0), (.iload_n 2, 0, 0, 0, 0), (.iload_n 3, 0, 0, 0, 0)] (by decide +kernel) rfl trivial ?_
  refine GE_callVI (As := [.inl a1, .inl a2, .inl a3]) (k := 4) (i := 0) (S := []) (t_X4_refusedTold l X a1 a2 a3 w) (by decide) ⟨me_X4_refusedTold, mi_X4_refusedTold, mv_X4_refusedTold, lk_X4_217⟩ rfl (by decide +kernel) rfl (by decide) (by decide) (Nat.le_of_ble_eq_true rfl) (fun r1 _ => ?_)
  refine GE_run flG_T (pc1 := 11) (L1 := [some (.inr (.inr (some (4, 0)))), some (.inl a1), some (.inl a2), some (.inl a3), some (.inl r1.1), none, none]) (S1 := [.inl r1.1]) (w1 := r1.2) (P := True) [(.istore 4, 0, 0, 0, 0), (.iload 4, 0, 0, 0, 0)] (by decide +kernel) rfl trivial ?_
  refine GE_if (k := .eq) (off := 6) (tgt := 17) (by decide +kernel) (by decide) (cnd_eq _ _) (fun c2 => ?_) (fun c2 => ?_)
  · refine GE_run flG_T (pc1 := 23) (L1 := [some (.inr (.inr (some (4, 0)))), some (.inl a1), some (.inl a2), some (.inl a3), some (.inl r1.1), some (.inl 0), some (.inl 0)]) (S1 := []) (w1 := r1.2) (P := True) [(.iconst 0, 0, 0, 0, 0), (.istore 5, 0, 0, 0, 0), (.iconst 0, 0, 0, 0, 0), (.istore 6, 0, 0, 0, 0)] (by decide +kernel) rfl trivial ?_
    refine GE_weak [true, true, true, true, false, true, true] (h_X4_turned_23_ok l X a1 a2 a3 _ ?_ FU 0 0 r1.2)
    · intro x5_7 w8
      refine GE_run flG_T (pc1 := 96) (L1 := [none, none, none, none, none, some (.inl x5_7), none]) (S1 := [.inl x5_7]) (w1 := w8) (P := True) [(.iload 5, 0, 0, 0, 0)] (by decide +kernel) rfl trivial ?_
      exact GE_iret rfl (by decide +kernel)
  · refine GE_run flG_T (pc1 := 16) (L1 := [some (.inr (.inr (some (4, 0)))), some (.inl a1), some (.inl a2), some (.inl a3), some (.inl r1.1), none, none]) (S1 := [.inl r1.1]) (w1 := r1.2) (P := True) [(.iload 4, 0, 0, 0, 0)] (by decide +kernel) rfl trivial ?_
    exact GE_iret rfl (by decide +kernel)
abbrev mm_X4_lucks : MI := (RX4, cX4_lucks, 9, (some .int), ftp_X4.map (fun q => q.1), ctp_X4.map (fun q => q.1), clp_X4.map (fun q => q.1))
noncomputable def h_X4_lucks_40 (x1 : Int32) (x2 : Int32) (x3 : Int32) (x4 : Int32) (k105 : Int32 → Int32 → Mem → Option (Int32 × Mem)) : Nat → Int32 → Int32 → Int32 → Mem → Option (Int32 × Mem)
  | 0, _, _, _, _ => none
  | n + 1, x6, x7, x8, w => if x8 ≤ 99 then (Option.bind (f_X0_become 1 0 w) (fun r5 => Option.bind (f_X4_otherwise x1 x2 x3 (setV r5 17 1 x3 x8)) (fun r6 => if r6.1 = (-1) then (if x7 < 0 then ((h_X4_lucks_40 x1 x2 x3 x4 k105 n) (x6 + 1) x8 (x8 + 1) r6.2) else ((h_X4_lucks_40 x1 x2 x3 x4 k105 n) (x6 + 1) x7 (x8 + 1) r6.2)) else ((h_X4_lucks_40 x1 x2 x3 x4 k105 n) x6 x7 (x8 + 1) r6.2)))) else (k105 x6 x7 w)
set_option maxRecDepth 100000 in
theorem h_X4_lucks_40_ok (l : Launch) (X : XC) (x1 : Int32) (x2 : Int32) (x3 : Int32) (x4 : Int32) (k105 : Int32 → Int32 → Mem → Option (Int32 × Mem))  (hk105 : ∀ (x6 : Int32) (x7 : Int32) (w : Mem), GE l X mm_X4_lucks 6 emI 57 flT (k105 x6 x7 w) 105 [none, none, none, none, some (.inl x4), none, some (.inl x6), some (.inl x7), none] [] w) : ∀ (n : Nat) (x6 : Int32) (x7 : Int32) (x8 : Int32) (w : Mem), GE l X mm_X4_lucks 6 emI 57 flT ((h_X4_lucks_40 x1 x2 x3 x4 k105 n) x6 x7 x8 w) 40 [some (.inr (.inr (some (4, 0)))), some (.inl x1), some (.inl x2), some (.inl x3), some (.inl x4), none, some (.inl x6), some (.inl x7), some (.inl x8)] [] w := by
  intro n
  induction n with
  | zero => intro x6 x7 x8 w; exact GE_none
  | succ n ih =>
    intro x6 x7 x8 w
    unfold h_X4_lucks_40
    refine GE_run flG_T (pc1 := 44) (L1 := [some (.inr (.inr (some (4, 0)))), some (.inl x1), some (.inl x2), some (.inl x3), some (.inl x4), none, some (.inl x6), some (.inl x7), some (.inl x8)]) (S1 := [.inl 99, .inl x8]) (w1 := w) (P := True) [(.iload 8, 0, 0, 0, 0), (.bipush 99, 0, 0, 99, 0)] (by decide +kernel) rfl trivial ?_
    refine GE_icmpN (k := .gt) (off := 61) (tgt := 105) (by decide +kernel) (by decide) (cnd_gt _ _) (fun c4 => ?_) (fun c4 => ?_)
    · exact GE_weak [false, false, false, false, true, false, true, true, false] (hk105 x6 x7 w)
    · refine GE_run flG_T (pc1 := 55) (L1 := [some (.inr (.inr (some (4, 0)))), some (.inl x1), some (.inl x2), some (.inl x3), some (.inl x4), none, some (.inl x6), some (.inl x7), some (.inl x8)]) (S1 := [.inr (.inr (some (0, 0))), .inr (.inr (some (0, 1)))]) (w1 := w) (P := True) [(.aload_n 0, 0, 0, 0, 0), (.getfield 32, 4, 3, 0, 0), (.aload_n 0, 0, 0, 0, 0), (.getfield 28, 4, 2, 0, 0)] (by decide +kernel) rfl trivial ?_
      refine GE_callVV (As := [.inr (.inr (some (0, 0)))]) (k := 0) (i := 1) (S := []) (t_X0_become l X 1 0 (by decide) (by decide) w) (by decide) ⟨me_X0_become, mi_X0_become, mv_X0_become, lk_X4_164⟩ rfl (by decide +kernel) rfl (by decide) (by decide) (Nat.le_of_ble_eq_true rfl) (fun r5 _ => ?_)
      refine GE_run flG_T (pc1 := 68) (L1 := [some (.inr (.inr (some (4, 0)))), some (.inl x1), some (.inl x2), some (.inl x3), some (.inl x4), none, some (.inl x6), some (.inl x7), some (.inl x8)]) (S1 := [.inl x8, .inl x3, .inr (.inr (some (17, 1)))]) (w1 := r5) (P := True) [(.aload_n 0, 0, 0, 0, 0), (.getfield 32, 4, 3, 0, 0), (.getfield 117, 0, 10, 0, 0), (.iload_n 3, 0, 0, 0, 0), (.iload 8, 0, 0, 0, 0)] (by decide +kernel) rfl trivial ?_
      refine GE_callSVp (As := [.inr (.inr (some (17, 1))), .inl x3, .inl x8]) (S := []) (p_X4_set l X 17 1 x3 x8 (by decide) (by decide) r5) ⟨me_X4_set, ms_X4_set, lk_X4_204⟩ (by decide +kernel) rfl (by decide) (by decide) (Nat.le_of_ble_eq_true rfl) ?_
      refine GE_run flG_T (pc1 := 75) (L1 := [some (.inr (.inr (some (4, 0)))), some (.inl x1), some (.inl x2), some (.inl x3), some (.inl x4), none, some (.inl x6), some (.inl x7), some (.inl x8)]) (S1 := [.inl x3, .inl x2, .inl x1, .inr (.inr (some (4, 0)))]) (w1 := setV r5 17 1 x3 x8) (P := True) [(.aload_n 0, 0, 0, 0, 0), (.iload_n 1, 0, 0, 0, 0), (.iload_n 2, 0, 0, 0, 0), (.iload_n 3, 0, 0, 0, 0)] (by decide +kernel) rfl trivial ?_
      refine GE_callVI (As := [.inl x1, .inl x2, .inl x3]) (k := 4) (i := 0) (S := []) (t_X4_otherwise l X x1 x2 x3 (setV r5 17 1 x3 x8)) (by decide) ⟨me_X4_otherwise, mi_X4_otherwise, mv_X4_otherwise, lk_X4_220⟩ rfl (by decide +kernel) rfl (by decide) (by decide) (Nat.le_of_ble_eq_true rfl) (fun r6 _ => ?_)
      refine GE_run flG_T (pc1 := 79) (L1 := [some (.inr (.inr (some (4, 0)))), some (.inl x1), some (.inl x2), some (.inl x3), some (.inl x4), none, some (.inl x6), some (.inl x7), some (.inl x8)]) (S1 := [.inl (-1), .inl r6.1]) (w1 := r6.2) (P := True) [(.iconst (-1), 0, 0, -1, 0)] (by decide +kernel) rfl trivial ?_
      refine GE_icmpN (k := .ne) (off := 20) (tgt := 99) (by decide +kernel) (by decide) (cnd_ne _ _) (fun c7 => ?_) (fun c7 => ?_)
      · refine GE_run flG_T (pc1 := 40) (L1 := [some (.inr (.inr (some (4, 0)))), some (.inl x1), some (.inl x2), some (.inl x3), some (.inl x4), none, some (.inl x6), some (.inl x7), some (.inl (x8 + 1))]) (S1 := []) (w1 := r6.2) (P := True) [(.iinc 8 1, 0, 0, 1, 0), (.goto (-62), 0, 0, 0, 0)] (by decide +kernel) rfl trivial ?_
        exact GE_weak [true, true, true, true, true, false, true, true, true] (ih x6 x7 (x8 + 1) r6.2)
      · refine GE_run flG_T (pc1 := 87) (L1 := [some (.inr (.inr (some (4, 0)))), some (.inl x1), some (.inl x2), some (.inl x3), some (.inl x4), none, some (.inl (x6 + 1)), some (.inl x7), some (.inl x8)]) (S1 := [.inl x7]) (w1 := r6.2) (P := True) [(.iinc 6 1, 0, 0, 1, 0), (.iload 7, 0, 0, 0, 0)] (by decide +kernel) rfl trivial ?_
        refine GE_ifN (k := .ge) (off := 8) (tgt := 95) (by decide +kernel) (by decide) (cnd_ge _ _) (fun c8 => ?_) (fun c8 => ?_)
        · refine GE_run flG_T (pc1 := 40) (L1 := [some (.inr (.inr (some (4, 0)))), some (.inl x1), some (.inl x2), some (.inl x3), some (.inl x4), none, some (.inl (x6 + 1)), some (.inl x7), some (.inl (x8 + 1))]) (S1 := []) (w1 := r6.2) (P := True) [(.iload 7, 0, 0, 0, 0), (.istore 7, 0, 0, 0, 0), (.iinc 8 1, 0, 0, 1, 0), (.goto (-62), 0, 0, 0, 0)] (by decide +kernel) rfl trivial ?_
          exact GE_weak [true, true, true, true, true, false, true, true, true] (ih (x6 + 1) x7 (x8 + 1) r6.2)
        · refine GE_run flG_T (pc1 := 40) (L1 := [some (.inr (.inr (some (4, 0)))), some (.inl x1), some (.inl x2), some (.inl x3), some (.inl x4), none, some (.inl (x6 + 1)), some (.inl x8), some (.inl (x8 + 1))]) (S1 := []) (w1 := r6.2) (P := True) [(.iload 8, 0, 0, 0, 0), (.goto 5, 0, 0, 0, 0), (.istore 7, 0, 0, 0, 0), (.iinc 8 1, 0, 0, 1, 0), (.goto (-62), 0, 0, 0, 0)] (by decide +kernel) rfl trivial ?_
          exact GE_weak [true, true, true, true, true, false, true, true, true] (ih (x6 + 1) x8 (x8 + 1) r6.2)
noncomputable def j_X4_lucks_31   (x1 : Int32) (x2 : Int32) (x3 : Int32) (x4 : Int32) (w : Mem) : Option (Int32 × Mem) := h_X4_lucks_40 x1 x2 x3 x4 (fun x6_9 x7_10 w11 => if x4 = 0 then (some (x6_9, w11)) else (some (x7_10, w11))) FU 0 (-1) 0 w
set_option maxRecDepth 100000 in
theorem j_X4_lucks_31_ok (l : Launch) (X : XC)   (x1 : Int32) (x2 : Int32) (x3 : Int32) (x4 : Int32)   (w : Mem) : GE l X mm_X4_lucks 6 emI 57 flT (j_X4_lucks_31 x1 x2 x3 x4 w) 31 [some (.inr (.inr (some (4, 0)))), some (.inl x1), some (.inl x2), some (.inl x3), some (.inl x4), none, none, none, none] [] w := by
  unfold j_X4_lucks_31
  refine GE_run flG_T (pc1 := 40) (L1 := [some (.inr (.inr (some (4, 0)))), some (.inl x1), some (.inl x2), some (.inl x3), some (.inl x4), none, some (.inl 0), some (.inl (-1)), some (.inl 0)]) (S1 := []) (w1 := w) (P := True) [(.iconst 0, 0, 0, 0, 0), (.istore 6, 0, 0, 0, 0), (.iconst (-1), 0, 0, -1, 0), (.istore 7, 0, 0, 0, 0), (.iconst 0, 0, 0, 0, 0), (.istore 8, 0, 0, 0, 0)] (by decide +kernel) rfl trivial ?_
  refine GE_weak [true, true, true, true, true, false, true, true, true] (h_X4_lucks_40_ok l X x1 x2 x3 x4 _ ?_ FU 0 (-1) 0 w)
  · intro x6_9 x7_10 w11
    refine GE_run flG_T (pc1 := 107) (L1 := [none, none, none, none, some (.inl x4), none, some (.inl x6_9), some (.inl x7_10), none]) (S1 := [.inl x4]) (w1 := w11) (P := True) [(.iload 4, 0, 0, 0, 0)] (by decide +kernel) rfl trivial ?_
    refine GE_ifN (k := .ne) (off := 8) (tgt := 115) (by decide +kernel) (by decide) (cnd_ne _ _) (fun c12 => ?_) (fun c12 => ?_)
    · refine GE_run flG_T (pc1 := 117) (L1 := [none, none, none, none, some (.inl x4), none, some (.inl x6_9), some (.inl x7_10), none]) (S1 := [.inl x7_10]) (w1 := w11) (P := True) [(.iload 7, 0, 0, 0, 0)] (by decide +kernel) rfl trivial ?_
      exact GE_iret rfl (by decide +kernel)
    · refine GE_run flG_T (pc1 := 117) (L1 := [none, none, none, none, some (.inl x4), none, some (.inl x6_9), some (.inl x7_10), none]) (S1 := [.inl x6_9]) (w1 := w11) (P := True) [(.iload 6, 0, 0, 0, 0), (.goto 5, 0, 0, 0, 0)] (by decide +kernel) rfl trivial ?_
      exact GE_iret rfl (by decide +kernel)
noncomputable def f_X4_lucks (a1 : Int32) (a2 : Int32) (a3 : Int32) (a4 : Int32) (w : Mem) : Option (Int32 × Mem) := Option.bind (f_X4_refusedTold a1 a2 a3 w) (fun r1 => if r1.1 = 0 then (if a4 = 0 then (j_X4_lucks_31 a1 a2 a3 a4 r1.2) else (if a4 = 1 then (j_X4_lucks_31 a1 a2 a3 a4 r1.2) else (some ((-7), r1.2)))) else (some (r1.1, r1.2)))
set_option maxRecDepth 100000 in
theorem t_X4_lucks (l : Launch) (X : XC)  (a1 : Int32) (a2 : Int32) (a3 : Int32) (a4 : Int32) (w : Mem) : Ct l X 6 yX4_lucks cX4_lucks 9 (some .int) emI [.inr (.inr (some (4, 0))), .inl a1, .inl a2, .inl a3, .inl a4] 57 flT w (f_X4_lucks a1 a2 a3 a4 w) := by
  refine Ct_of (mi := mm_X4_lucks) (mik_X4 _ _ _) me_X4_lucks rfl (okAs_cons (by decide) (okAs_cons rfl (okAs_cons rfl (okAs_cons rfl (okAs_cons rfl okAs_nil))))) (Nat.le_of_ble_eq_true rfl) ?_
  unfold f_X4_lucks
  refine GE_run flG_T (pc1 := 4) (L1 := [some (.inr (.inr (some (4, 0)))), some (.inl a1), some (.inl a2), some (.inl a3), some (.inl a4), none, none, none, none]) (S1 := [.inl a3, .inl a2, .inl a1, .inr (.inr (some (4, 0)))]) (w1 := w) (P := True) [(.aload_n 0, 0, 0, 0, 0), (.iload_n 1, 0, 0, 0, 0), (.iload_n 2, 0, 0, 0, 0), (.iload_n 3, 0, 0, 0, 0)] (by decide +kernel) rfl trivial ?_
  refine GE_callVI (As := [.inl a1, .inl a2, .inl a3]) (k := 4) (i := 0) (S := []) (t_X4_refusedTold l X a1 a2 a3 w) (by decide) ⟨me_X4_refusedTold, mi_X4_refusedTold, mv_X4_refusedTold, lk_X4_217⟩ rfl (by decide +kernel) rfl (by decide) (by decide) (Nat.le_of_ble_eq_true rfl) (fun r1 _ => ?_)
  refine GE_run flG_T (pc1 := 11) (L1 := [some (.inr (.inr (some (4, 0)))), some (.inl a1), some (.inl a2), some (.inl a3), some (.inl a4), some (.inl r1.1), none, none, none]) (S1 := [.inl r1.1]) (w1 := r1.2) (P := True) [(.istore 5, 0, 0, 0, 0), (.iload 5, 0, 0, 0, 0)] (by decide +kernel) rfl trivial ?_
  refine GE_if (k := .eq) (off := 6) (tgt := 17) (by decide +kernel) (by decide) (cnd_eq _ _) (fun c2 => ?_) (fun c2 => ?_)
  · refine GE_run flG_T (pc1 := 19) (L1 := [some (.inr (.inr (some (4, 0)))), some (.inl a1), some (.inl a2), some (.inl a3), some (.inl a4), some (.inl r1.1), none, none, none]) (S1 := [.inl a4]) (w1 := r1.2) (P := True) [(.iload 4, 0, 0, 0, 0)] (by decide +kernel) rfl trivial ?_
    refine GE_if (k := .eq) (off := 12) (tgt := 31) (by decide +kernel) (by decide) (cnd_eq _ _) (fun c3 => ?_) (fun c3 => ?_)
    · exact GE_weak [true, true, true, true, true, false, false, false, false] (j_X4_lucks_31_ok l X a1 a2 a3 a4 r1.2)
    · refine GE_run flG_T (pc1 := 25) (L1 := [some (.inr (.inr (some (4, 0)))), some (.inl a1), some (.inl a2), some (.inl a3), some (.inl a4), some (.inl r1.1), none, none, none]) (S1 := [.inl 1, .inl a4]) (w1 := r1.2) (P := True) [(.iload 4, 0, 0, 0, 0), (.iconst 1, 0, 0, 1, 0)] (by decide +kernel) rfl trivial ?_
      refine GE_icmp (k := .eq) (off := 6) (tgt := 31) (by decide +kernel) (by decide) (cnd_eq _ _) (fun c13 => ?_) (fun c13 => ?_)
      · exact GE_weak [true, true, true, true, true, false, false, false, false] (j_X4_lucks_31_ok l X a1 a2 a3 a4 r1.2)
      · refine GE_run flG_T (pc1 := 30) (L1 := [some (.inr (.inr (some (4, 0)))), some (.inl a1), some (.inl a2), some (.inl a3), some (.inl a4), some (.inl r1.1), none, none, none]) (S1 := [.inl (-7)]) (w1 := r1.2) (P := True) [(.bipush (-7), 0, 0, -7, 0)] (by decide +kernel) rfl trivial ?_
        exact GE_iret rfl (by decide +kernel)
  · refine GE_run flG_T (pc1 := 16) (L1 := [some (.inr (.inr (some (4, 0)))), some (.inl a1), some (.inl a2), some (.inl a3), some (.inl a4), some (.inl r1.1), none, none, none]) (S1 := [.inl r1.1]) (w1 := r1.2) (P := True) [(.iload 5, 0, 0, 0, 0)] (by decide +kernel) rfl trivial ?_
    exact GE_iret rfl (by decide +kernel)
abbrev mm_X4_whose : MI := (RX4, cX4_whose, 6, (some .int), ftp_X4.map (fun q => q.1), ctp_X4.map (fun q => q.1), clp_X4.map (fun q => q.1))
noncomputable def h_X4_whose_19 (x1 : Int32) (x2 : Int32) (k69 : Int32 → Mem → Option (Int32 × Mem)) : Nat → Int32 → Int32 → Mem → Option (Int32 × Mem)
  | 0, _, _, _ => none
  | n + 1, x4, x5, w => if x5 < (w 0 0 2) then (Option.bind (f_X0_become 1 0 w) (fun r4 => Option.bind (f_X4_otherwise x1 x2 x5 r4) (fun r5 => if r5.1 = (-1) then ((h_X4_whose_19 x1 x2 k69 n) (x4 ||| (shlI 1 x5)) (x5 + 1) r5.2) else ((h_X4_whose_19 x1 x2 k69 n) x4 (x5 + 1) r5.2)))) else (k69 x4 w)
set_option maxRecDepth 100000 in
theorem h_X4_whose_19_ok (l : Launch) (X : XC) (x1 : Int32) (x2 : Int32) (k69 : Int32 → Mem → Option (Int32 × Mem))  (hk69 : ∀ (x4 : Int32) (w : Mem), GE l X mm_X4_whose 6 emI 57 flT (k69 x4 w) 69 [none, none, none, none, some (.inl x4), none] [] w) : ∀ (n : Nat) (x4 : Int32) (x5 : Int32) (w : Mem), GE l X mm_X4_whose 6 emI 57 flT ((h_X4_whose_19 x1 x2 k69 n) x4 x5 w) 19 [some (.inr (.inr (some (4, 0)))), some (.inl x1), some (.inl x2), none, some (.inl x4), some (.inl x5)] [] w := by
  intro n
  induction n with
  | zero => intro x4 x5 w; exact GE_none
  | succ n ih =>
    intro x4 x5 w
    unfold h_X4_whose_19
    refine GE_run flG_T (pc1 := 28) (L1 := [some (.inr (.inr (some (4, 0)))), some (.inl x1), some (.inl x2), none, some (.inl x4), some (.inl x5)]) (S1 := [.inl (w 0 0 2), .inl x5]) (w1 := w) (P := True) [(.iload 5, 0, 0, 0, 0), (.aload_n 0, 0, 0, 0, 0), (.getfield 28, 4, 2, 0, 0), (.getfield 45, 0, 2, 0, 0)] (by decide +kernel) rfl trivial ?_
    refine GE_icmpN (k := .ge) (off := 41) (tgt := 69) (by decide +kernel) (by decide) (cnd_ge _ _) (fun c3 => ?_) (fun c3 => ?_)
    · exact GE_weak [false, false, false, false, true, false] (hk69 x4 w)
    · refine GE_run flG_T (pc1 := 39) (L1 := [some (.inr (.inr (some (4, 0)))), some (.inl x1), some (.inl x2), none, some (.inl x4), some (.inl x5)]) (S1 := [.inr (.inr (some (0, 0))), .inr (.inr (some (0, 1)))]) (w1 := w) (P := True) [(.aload_n 0, 0, 0, 0, 0), (.getfield 32, 4, 3, 0, 0), (.aload_n 0, 0, 0, 0, 0), (.getfield 28, 4, 2, 0, 0)] (by decide +kernel) rfl trivial ?_
      refine GE_callVV (As := [.inr (.inr (some (0, 0)))]) (k := 0) (i := 1) (S := []) (t_X0_become l X 1 0 (by decide) (by decide) w) (by decide) ⟨me_X0_become, mi_X0_become, mv_X0_become, lk_X4_164⟩ rfl (by decide +kernel) rfl (by decide) (by decide) (Nat.le_of_ble_eq_true rfl) (fun r4 _ => ?_)
      refine GE_run flG_T (pc1 := 47) (L1 := [some (.inr (.inr (some (4, 0)))), some (.inl x1), some (.inl x2), none, some (.inl x4), some (.inl x5)]) (S1 := [.inl x5, .inl x2, .inl x1, .inr (.inr (some (4, 0)))]) (w1 := r4) (P := True) [(.aload_n 0, 0, 0, 0, 0), (.iload_n 1, 0, 0, 0, 0), (.iload_n 2, 0, 0, 0, 0), (.iload 5, 0, 0, 0, 0)] (by decide +kernel) rfl trivial ?_
      refine GE_callVI (As := [.inl x1, .inl x2, .inl x5]) (k := 4) (i := 0) (S := []) (t_X4_otherwise l X x1 x2 x5 r4) (by decide) ⟨me_X4_otherwise, mi_X4_otherwise, mv_X4_otherwise, lk_X4_220⟩ rfl (by decide +kernel) rfl (by decide) (by decide) (Nat.le_of_ble_eq_true rfl) (fun r5 _ => ?_)
      refine GE_run flG_T (pc1 := 51) (L1 := [some (.inr (.inr (some (4, 0)))), some (.inl x1), some (.inl x2), none, some (.inl x4), some (.inl x5)]) (S1 := [.inl (-1), .inl r5.1]) (w1 := r5.2) (P := True) [(.iconst (-1), 0, 0, -1, 0)] (by decide +kernel) rfl trivial ?_
      refine GE_icmpN (k := .ne) (off := 12) (tgt := 63) (by decide +kernel) (by decide) (cnd_ne _ _) (fun c6 => ?_) (fun c6 => ?_)
      · refine GE_run flG_T (pc1 := 19) (L1 := [some (.inr (.inr (some (4, 0)))), some (.inl x1), some (.inl x2), none, some (.inl x4), some (.inl (x5 + 1))]) (S1 := []) (w1 := r5.2) (P := True) [(.iinc 5 1, 0, 0, 1, 0), (.goto (-47), 0, 0, 0, 0)] (by decide +kernel) rfl trivial ?_
        exact GE_weak [true, true, true, false, true, true] (ih x4 (x5 + 1) r5.2)
      · refine GE_run flG_T (pc1 := 19) (L1 := [some (.inr (.inr (some (4, 0)))), some (.inl x1), some (.inl x2), none, some (.inl (x4 ||| (shlI 1 x5))), some (.inl (x5 + 1))]) (S1 := []) (w1 := r5.2) (P := True) [(.iload 4, 0, 0, 0, 0), (.iconst 1, 0, 0, 1, 0), (.iload 5, 0, 0, 0, 0), (.ishl, 0, 0, 0, 0), (.ior, 0, 0, 0, 0), (.istore 4, 0, 0, 0, 0), (.iinc 5 1, 0, 0, 1, 0), (.goto (-47), 0, 0, 0, 0)] (by decide +kernel) rfl trivial ?_
        exact GE_weak [true, true, true, false, true, true] (ih (x4 ||| (shlI 1 x5)) (x5 + 1) r5.2)
noncomputable def f_X4_whose (a1 : Int32) (a2 : Int32) (w : Mem) : Option (Int32 × Mem) := Option.bind (f_X4_refusedTelling a1 a2 w) (fun r1 => if r1.1 = 0 then (h_X4_whose_19 a1 a2 (fun x4_7 w8 => some (x4_7, w8)) FU 0 0 r1.2) else (some (r1.1, r1.2)))
set_option maxRecDepth 100000 in
theorem t_X4_whose (l : Launch) (X : XC)  (a1 : Int32) (a2 : Int32) (w : Mem) : Ct l X 6 yX4_whose cX4_whose 6 (some .int) emI [.inr (.inr (some (4, 0))), .inl a1, .inl a2] 57 flT w (f_X4_whose a1 a2 w) := by
  refine Ct_of (mi := mm_X4_whose) (mik_X4 _ _ _) me_X4_whose rfl (okAs_cons (by decide) (okAs_cons rfl (okAs_cons rfl okAs_nil))) (Nat.le_of_ble_eq_true rfl) ?_
  unfold f_X4_whose
  refine GE_run flG_T (pc1 := 3) (L1 := [some (.inr (.inr (some (4, 0)))), some (.inl a1), some (.inl a2), none, none, none]) (S1 := [.inl a2, .inl a1, .inr (.inr (some (4, 0)))]) (w1 := w) (P := True) [(.aload_n 0, 0, 0, 0, 0), (.iload_n 1, 0, 0, 0, 0), (.iload_n 2, 0, 0, 0, 0)] (by decide +kernel) rfl trivial ?_
  refine GE_callVI (As := [.inl a1, .inl a2]) (k := 4) (i := 0) (S := []) (t_X4_refusedTelling l X a1 a2 w) (by decide) ⟨me_X4_refusedTelling, mi_X4_refusedTelling, mv_X4_refusedTelling, lk_X4_223⟩ rfl (by decide +kernel) rfl (by decide) (by decide) (Nat.le_of_ble_eq_true rfl) (fun r1 _ => ?_)
  refine GE_run flG_T (pc1 := 8) (L1 := [some (.inr (.inr (some (4, 0)))), some (.inl a1), some (.inl a2), some (.inl r1.1), none, none]) (S1 := [.inl r1.1]) (w1 := r1.2) (P := True) [(.istore_n 3, 0, 0, 0, 0), (.iload_n 3, 0, 0, 0, 0)] (by decide +kernel) rfl trivial ?_
  refine GE_if (k := .eq) (off := 5) (tgt := 13) (by decide +kernel) (by decide) (cnd_eq _ _) (fun c2 => ?_) (fun c2 => ?_)
  · refine GE_run flG_T (pc1 := 19) (L1 := [some (.inr (.inr (some (4, 0)))), some (.inl a1), some (.inl a2), some (.inl r1.1), some (.inl 0), some (.inl 0)]) (S1 := []) (w1 := r1.2) (P := True) [(.iconst 0, 0, 0, 0, 0), (.istore 4, 0, 0, 0, 0), (.iconst 0, 0, 0, 0, 0), (.istore 5, 0, 0, 0, 0)] (by decide +kernel) rfl trivial ?_
    refine GE_weak [true, true, true, false, true, true] (h_X4_whose_19_ok l X a1 a2 _ ?_ FU 0 0 r1.2)
    · intro x4_7 w8
      refine GE_run flG_T (pc1 := 71) (L1 := [none, none, none, none, some (.inl x4_7), none]) (S1 := [.inl x4_7]) (w1 := w8) (P := True) [(.iload 4, 0, 0, 0, 0)] (by decide +kernel) rfl trivial ?_
      exact GE_iret rfl (by decide +kernel)
  · refine GE_run flG_T (pc1 := 12) (L1 := [some (.inr (.inr (some (4, 0)))), some (.inl a1), some (.inl a2), some (.inl r1.1), none, none]) (S1 := [.inl r1.1]) (w1 := r1.2) (P := True) [(.iload_n 3, 0, 0, 0, 0)] (by decide +kernel) rfl trivial ?_
    exact GE_iret rfl (by decide +kernel)
abbrev mm_X4_laws : MI := (RX4, cX4_laws, 7, (some .int), ftp_X4.map (fun q => q.1), ctp_X4.map (fun q => q.1), clp_X4.map (fun q => q.1))
noncomputable def h_X4_laws_23 (x1 : Int32) (x2 : Int32) (x3 : Int32) (k81 : Int32 → Mem → Option (Int32 × Mem)) : Nat → Int32 → Int32 → Mem → Option (Int32 × Mem)
  | 0, _, _, _ => none
  | n + 1, x5, x6, w => if x6 < (w 3 0 0) then (Option.bind (f_X0_become 1 0 w) (fun r4 => Option.bind (f_X4_otherwise x1 x2 x3 (up r4 0 1 5 x6)) (fun r5 => if r5.1 = (-1) then ((h_X4_laws_23 x1 x2 x3 k81 n) (x5 ||| (shlI 1 x6)) (x6 + 1) r5.2) else ((h_X4_laws_23 x1 x2 x3 k81 n) x5 (x6 + 1) r5.2)))) else (k81 x5 w)
set_option maxRecDepth 100000 in
theorem h_X4_laws_23_ok (l : Launch) (X : XC) (x1 : Int32) (x2 : Int32) (x3 : Int32) (k81 : Int32 → Mem → Option (Int32 × Mem))  (hk81 : ∀ (x5 : Int32) (w : Mem), GE l X mm_X4_laws 6 emI 57 flT (k81 x5 w) 81 [none, none, none, none, none, some (.inl x5), none] [] w) : ∀ (n : Nat) (x5 : Int32) (x6 : Int32) (w : Mem), GE l X mm_X4_laws 6 emI 57 flT ((h_X4_laws_23 x1 x2 x3 k81 n) x5 x6 w) 23 [some (.inr (.inr (some (4, 0)))), some (.inl x1), some (.inl x2), some (.inl x3), none, some (.inl x5), some (.inl x6)] [] w := by
  intro n
  induction n with
  | zero => intro x5 x6 w; exact GE_none
  | succ n ih =>
    intro x5 x6 w
    unfold h_X4_laws_23
    refine GE_run flG_T (pc1 := 32) (L1 := [some (.inr (.inr (some (4, 0)))), some (.inl x1), some (.inl x2), some (.inl x3), none, some (.inl x5), some (.inl x6)]) (S1 := [.inl (w 3 0 0), .inl x6]) (w1 := w) (P := True) [(.iload 6, 0, 0, 0, 0), (.aload_n 0, 0, 0, 0, 0), (.getfield 10, 4, 0, 0, 0), (.getfield 61, 3, 0, 0, 0)] (by decide +kernel) rfl trivial ?_
    refine GE_icmpN (k := .ge) (off := 49) (tgt := 81) (by decide +kernel) (by decide) (cnd_ge _ _) (fun c3 => ?_) (fun c3 => ?_)
    · exact GE_weak [false, false, false, false, false, true, false] (hk81 x5 w)
    · refine GE_run flG_T (pc1 := 43) (L1 := [some (.inr (.inr (some (4, 0)))), some (.inl x1), some (.inl x2), some (.inl x3), none, some (.inl x5), some (.inl x6)]) (S1 := [.inr (.inr (some (0, 0))), .inr (.inr (some (0, 1)))]) (w1 := w) (P := True) [(.aload_n 0, 0, 0, 0, 0), (.getfield 32, 4, 3, 0, 0), (.aload_n 0, 0, 0, 0, 0), (.getfield 28, 4, 2, 0, 0)] (by decide +kernel) rfl trivial ?_
      refine GE_callVV (As := [.inr (.inr (some (0, 0)))]) (k := 0) (i := 1) (S := []) (t_X0_become l X 1 0 (by decide) (by decide) w) (by decide) ⟨me_X0_become, mi_X0_become, mv_X0_become, lk_X4_164⟩ rfl (by decide +kernel) rfl (by decide) (by decide) (Nat.le_of_ble_eq_true rfl) (fun r4 _ => ?_)
      refine GE_run flG_T (pc1 := 59) (L1 := [some (.inr (.inr (some (4, 0)))), some (.inl x1), some (.inl x2), some (.inl x3), none, some (.inl x5), some (.inl x6)]) (S1 := [.inl x3, .inl x2, .inl x1, .inr (.inr (some (4, 0)))]) (w1 := up r4 0 1 5 x6) (P := True) [(.aload_n 0, 0, 0, 0, 0), (.getfield 32, 4, 3, 0, 0), (.iload 6, 0, 0, 0, 0), (.putfield 64, 0, 5, 0, 0), (.aload_n 0, 0, 0, 0, 0), (.iload_n 1, 0, 0, 0, 0), (.iload_n 2, 0, 0, 0, 0), (.iload_n 3, 0, 0, 0, 0)] (by decide +kernel) rfl trivial ?_
      refine GE_callVI (As := [.inl x1, .inl x2, .inl x3]) (k := 4) (i := 0) (S := []) (t_X4_otherwise l X x1 x2 x3 (up r4 0 1 5 x6)) (by decide) ⟨me_X4_otherwise, mi_X4_otherwise, mv_X4_otherwise, lk_X4_220⟩ rfl (by decide +kernel) rfl (by decide) (by decide) (Nat.le_of_ble_eq_true rfl) (fun r5 _ => ?_)
      refine GE_run flG_T (pc1 := 63) (L1 := [some (.inr (.inr (some (4, 0)))), some (.inl x1), some (.inl x2), some (.inl x3), none, some (.inl x5), some (.inl x6)]) (S1 := [.inl (-1), .inl r5.1]) (w1 := r5.2) (P := True) [(.iconst (-1), 0, 0, -1, 0)] (by decide +kernel) rfl trivial ?_
      refine GE_icmpN (k := .ne) (off := 12) (tgt := 75) (by decide +kernel) (by decide) (cnd_ne _ _) (fun c6 => ?_) (fun c6 => ?_)
      · refine GE_run flG_T (pc1 := 23) (L1 := [some (.inr (.inr (some (4, 0)))), some (.inl x1), some (.inl x2), some (.inl x3), none, some (.inl x5), some (.inl (x6 + 1))]) (S1 := []) (w1 := r5.2) (P := True) [(.iinc 6 1, 0, 0, 1, 0), (.goto (-55), 0, 0, 0, 0)] (by decide +kernel) rfl trivial ?_
        exact GE_weak [true, true, true, true, false, true, true] (ih x5 (x6 + 1) r5.2)
      · refine GE_run flG_T (pc1 := 23) (L1 := [some (.inr (.inr (some (4, 0)))), some (.inl x1), some (.inl x2), some (.inl x3), none, some (.inl (x5 ||| (shlI 1 x6))), some (.inl (x6 + 1))]) (S1 := []) (w1 := r5.2) (P := True) [(.iload 5, 0, 0, 0, 0), (.iconst 1, 0, 0, 1, 0), (.iload 6, 0, 0, 0, 0), (.ishl, 0, 0, 0, 0), (.ior, 0, 0, 0, 0), (.istore 5, 0, 0, 0, 0), (.iinc 6 1, 0, 0, 1, 0), (.goto (-55), 0, 0, 0, 0)] (by decide +kernel) rfl trivial ?_
        exact GE_weak [true, true, true, true, false, true, true] (ih (x5 ||| (shlI 1 x6)) (x6 + 1) r5.2)
noncomputable def f_X4_laws (a1 : Int32) (a2 : Int32) (a3 : Int32) (w : Mem) : Option (Int32 × Mem) := Option.bind (f_X4_refusedTold a1 a2 a3 w) (fun r1 => if r1.1 = 0 then (h_X4_laws_23 a1 a2 a3 (fun x5_7 w8 => some (x5_7, w8)) FU 0 0 r1.2) else (some (r1.1, r1.2)))
set_option maxRecDepth 100000 in
theorem t_X4_laws (l : Launch) (X : XC)  (a1 : Int32) (a2 : Int32) (a3 : Int32) (w : Mem) : Ct l X 6 yX4_laws cX4_laws 7 (some .int) emI [.inr (.inr (some (4, 0))), .inl a1, .inl a2, .inl a3] 57 flT w (f_X4_laws a1 a2 a3 w) := by
  refine Ct_of (mi := mm_X4_laws) (mik_X4 _ _ _) me_X4_laws rfl (okAs_cons (by decide) (okAs_cons rfl (okAs_cons rfl (okAs_cons rfl okAs_nil)))) (Nat.le_of_ble_eq_true rfl) ?_
  unfold f_X4_laws
  refine GE_run flG_T (pc1 := 4) (L1 := [some (.inr (.inr (some (4, 0)))), some (.inl a1), some (.inl a2), some (.inl a3), none, none, none]) (S1 := [.inl a3, .inl a2, .inl a1, .inr (.inr (some (4, 0)))]) (w1 := w) (P := True) [(.aload_n 0, 0, 0, 0, 0), (.iload_n 1, 0, 0, 0, 0), (.iload_n 2, 0, 0, 0, 0), (.iload_n 3, 0, 0, 0, 0)] (by decide +kernel) rfl trivial ?_
  refine GE_callVI (As := [.inl a1, .inl a2, .inl a3]) (k := 4) (i := 0) (S := []) (t_X4_refusedTold l X a1 a2 a3 w) (by decide) ⟨me_X4_refusedTold, mi_X4_refusedTold, mv_X4_refusedTold, lk_X4_217⟩ rfl (by decide +kernel) rfl (by decide) (by decide) (Nat.le_of_ble_eq_true rfl) (fun r1 _ => ?_)
  refine GE_run flG_T (pc1 := 11) (L1 := [some (.inr (.inr (some (4, 0)))), some (.inl a1), some (.inl a2), some (.inl a3), some (.inl r1.1), none, none]) (S1 := [.inl r1.1]) (w1 := r1.2) (P := True) [(.istore 4, 0, 0, 0, 0), (.iload 4, 0, 0, 0, 0)] (by decide +kernel) rfl trivial ?_
  refine GE_if (k := .eq) (off := 6) (tgt := 17) (by decide +kernel) (by decide) (cnd_eq _ _) (fun c2 => ?_) (fun c2 => ?_)
  · refine GE_run flG_T (pc1 := 23) (L1 := [some (.inr (.inr (some (4, 0)))), some (.inl a1), some (.inl a2), some (.inl a3), some (.inl r1.1), some (.inl 0), some (.inl 0)]) (S1 := []) (w1 := r1.2) (P := True) [(.iconst 0, 0, 0, 0, 0), (.istore 5, 0, 0, 0, 0), (.iconst 0, 0, 0, 0, 0), (.istore 6, 0, 0, 0, 0)] (by decide +kernel) rfl trivial ?_
    refine GE_weak [true, true, true, true, false, true, true] (h_X4_laws_23_ok l X a1 a2 a3 _ ?_ FU 0 0 r1.2)
    · intro x5_7 w8
      refine GE_run flG_T (pc1 := 83) (L1 := [none, none, none, none, none, some (.inl x5_7), none]) (S1 := [.inl x5_7]) (w1 := w8) (P := True) [(.iload 5, 0, 0, 0, 0)] (by decide +kernel) rfl trivial ?_
      exact GE_iret rfl (by decide +kernel)
  · refine GE_run flG_T (pc1 := 16) (L1 := [some (.inr (.inr (some (4, 0)))), some (.inl a1), some (.inl a2), some (.inl a3), some (.inl r1.1), none, none]) (S1 := [.inl r1.1]) (w1 := r1.2) (P := True) [(.iload 4, 0, 0, 0, 0)] (by decide +kernel) rfl trivial ?_
    exact GE_iret rfl (by decide +kernel)
abbrev mm_X4_film : MI := (RX4, cX4_film, 8, (some .int), ftp_X4.map (fun q => q.1), ctp_X4.map (fun q => q.1), clp_X4.map (fun q => q.1))
noncomputable def h_X4_film_73 (z1 : Nat) (z2 : Nat) (x3 : Int32) (k134 : Mem → Option (Int32 × Mem)) : Nat → Int32 → Mem → Option (Int32 × Mem)
  | 0, _, _ => none
  | n + 1, x7, w => if x7 < (w 2 z1 1) then (Option.bind (f_X0_landing 1 x3 (atV w 19 z1 x7) w) (fun r9 => Option.bind (f_X0_washes 1 r9.2) (fun r10 => Option.bind (f_X2_write z2 x7 (atV r10.2 17 1 x3) r10.2) (fun r11 => (h_X4_film_73 z1 z2 x3 k134 n) (x7 + 1) r11)))) else (k134 w)
set_option maxRecDepth 100000 in
theorem h_X4_film_73_ok (l : Launch) (X : XC) (z1 : Nat) (z2 : Nat) (x3 : Int32) (k134 : Mem → Option (Int32 × Mem)) (bz1 : z1 < 4) (bz2 : z2 < 4) (hk134 : ∀  (w : Mem), GE l X mm_X4_film 5 emI 57 flT (k134 w) 134 [none, none, none, none, some (.inr (.inr (some (2, z1)))), none, none, none] [] w) : ∀ (n : Nat) (x7 : Int32) (w : Mem), GE l X mm_X4_film 5 emI 57 flT ((h_X4_film_73 z1 z2 x3 k134 n) x7 w) 73 [some (.inr (.inr (some (4, 0)))), none, none, some (.inl x3), some (.inr (.inr (some (2, z1)))), some (.inr (.inr (some (2, z2)))), none, some (.inl x7)] [] w := by
  intro n
  induction n with
  | zero => intro x7 w; exact GE_none
  | succ n ih =>
    intro x7 w
    unfold h_X4_film_73
    refine GE_run flG_T (pc1 := 80) (L1 := [some (.inr (.inr (some (4, 0)))), none, none, some (.inl x3), some (.inr (.inr (some (2, z1)))), some (.inr (.inr (some (2, z2)))), none, some (.inl x7)]) (S1 := [.inl (w 2 z1 1), .inl x7]) (w1 := w) (P := True) [(.iload 7, 0, 0, 0, 0), (.aload 4, 0, 0, 0, 0), (.getfield 189, 2, 1, 0, 0)] (by decide +kernel) rfl trivial ?_
    refine GE_icmpN (k := .ge) (off := 54) (tgt := 134) (by decide +kernel) (by decide) (cnd_ge _ _) (fun c8 => ?_) (fun c8 => ?_)
    · exact GE_weak [false, false, false, false, true, false, false, false] (hk134 w)
    · refine GE_run flG_T (pc1 := 95) (L1 := [some (.inr (.inr (some (4, 0)))), none, none, some (.inl x3), some (.inr (.inr (some (2, z1)))), some (.inr (.inr (some (2, z2)))), none, some (.inl x7)]) (S1 := [.inl x7, .inr (.inr (some (19, z1))), .inl x3, .inr (.inr (some (0, 1)))]) (w1 := w) (P := True) [(.aload_n 0, 0, 0, 0, 0), (.getfield 32, 4, 3, 0, 0), (.iload_n 3, 0, 0, 0, 0), (.aload 4, 0, 0, 0, 0), (.getfield 190, 2, 2, 0, 0), (.iload 7, 0, 0, 0, 0)] (by decide +kernel) rfl trivial ?_
      refine GE_callSIp (As := [.inr (.inr (some (19, z1))), .inl x7]) (S := [.inl x3, .inr (.inr (some (0, 1)))]) (p_X4_at l X 19 z1 x7 (by decide) (ok_sheet_19 bz1) w) ⟨me_X4_at, ms_X4_at, lk_X4_120⟩ (by decide +kernel) rfl (by decide) (by decide) (Nat.le_of_ble_eq_true rfl) ?_
      refine GE_callVI (As := [.inl x3, .inl (atV w 19 z1 x7)]) (k := 0) (i := 1) (S := []) (t_X0_landing l X 1 x3 (atV w 19 z1 x7) (by decide) w) (by decide) ⟨me_X0_landing, mi_X0_landing, mv_X0_landing, lk_X4_143⟩ rfl (by decide +kernel) rfl (by decide) (by decide) (Nat.le_of_ble_eq_true rfl) (fun r9 _ => ?_)
      refine GE_run flG_T (pc1 := 106) (L1 := [some (.inr (.inr (some (4, 0)))), none, none, some (.inl x3), some (.inr (.inr (some (2, z1)))), some (.inr (.inr (some (2, z2)))), none, some (.inl x7)]) (S1 := [.inr (.inr (some (0, 1)))]) (w1 := r9.2) (P := True) [(.pop, 0, 0, 0, 0), (.aload_n 0, 0, 0, 0, 0), (.getfield 32, 4, 3, 0, 0)] (by decide +kernel) rfl trivial ?_
      refine GE_callVI (As := []) (k := 0) (i := 1) (S := []) (t_X0_washes l X 1 (by decide) r9.2) (by decide) ⟨me_X0_washes, mi_X0_washes, mv_X0_washes, lk_X4_153⟩ rfl (by decide +kernel) rfl (by decide) (by decide) (Nat.le_of_ble_eq_true rfl) (fun r10 _ => ?_)
      refine GE_run flG_T (pc1 := 122) (L1 := [some (.inr (.inr (some (4, 0)))), none, none, some (.inl x3), some (.inr (.inr (some (2, z1)))), some (.inr (.inr (some (2, z2)))), none, some (.inl x7)]) (S1 := [.inl x3, .inr (.inr (some (17, 1))), .inl x7, .inr (.inr (some (2, z2)))]) (w1 := r10.2) (P := True) [(.pop, 0, 0, 0, 0), (.aload 5, 0, 0, 0, 0), (.iload 7, 0, 0, 0, 0), (.aload_n 0, 0, 0, 0, 0), (.getfield 32, 4, 3, 0, 0), (.getfield 117, 0, 10, 0, 0), (.iload_n 3, 0, 0, 0, 0)] (by decide +kernel) rfl trivial ?_
      refine GE_callSIp (As := [.inr (.inr (some (17, 1))), .inl x3]) (S := [.inl x7, .inr (.inr (some (2, z2)))]) (p_X4_at l X 17 1 x3 (by decide) (by decide) r10.2) ⟨me_X4_at, ms_X4_at, lk_X4_120⟩ (by decide +kernel) rfl (by decide) (by decide) (Nat.le_of_ble_eq_true rfl) ?_
      refine GE_callVV (As := [.inl x7, .inl (atV r10.2 17 1 x3)]) (k := 2) (i := z2) (S := []) (t_X2_write l X z2 x7 (atV r10.2 17 1 x3) bz2 r10.2) (by decide) ⟨me_X2_write, mi_X2_write, mv_X2_write, lk_X4_229⟩ rfl (by decide +kernel) rfl (by decide) (by decide) (Nat.le_of_ble_eq_true rfl) (fun r11 _ => ?_)
      refine GE_run flG_T (pc1 := 73) (L1 := [some (.inr (.inr (some (4, 0)))), none, none, some (.inl x3), some (.inr (.inr (some (2, z1)))), some (.inr (.inr (some (2, z2)))), none, some (.inl (x7 + 1))]) (S1 := []) (w1 := r11) (P := True) [(.iinc 7 1, 0, 0, 1, 0), (.goto (-58), 0, 0, 0, 0)] (by decide +kernel) rfl trivial ?_
      exact GE_weak [true, false, false, true, true, true, false, true] (ih (x7 + 1) r11)
noncomputable def f_X4_film (a1 : Int32) (a2 : Int32) (a3 : Int32) (w : Mem) : Option (Int32 × Mem) := Option.elim (rowF a1) (some ((-2), w)) (fun z1 => Option.elim (rowF a2) (some ((-2), w)) (fun z2 => if a1 = a2 then (some ((-2), w)) else (Option.bind (f_X4_refusedSeason a1 a3 w) (fun r4 => if r4.1 = 0 then (Option.bind (f_X2_becomes z2 0 (r4.2 2 z1 1) r4.2) (fun r6 => Option.bind (f_X0_become 1 0 r6) (fun r7 => h_X4_film_73 z1 z2 a3 (fun w12 => some (w12 2 z1 1, w12)) FU 0 r7))) else (some (r4.1, r4.2))))))
set_option maxRecDepth 100000 in
theorem t_X4_film (l : Launch) (X : XC)  (a1 : Int32) (a2 : Int32) (a3 : Int32) (w : Mem) : Ct l X 5 yX4_film cX4_film 8 (some .int) emI [.inr (.inr (some (4, 0))), .inl a1, .inl a2, .inl a3] 57 flT w (f_X4_film a1 a2 a3 w) := by
  refine Ct_of (mi := mm_X4_film) (mik_X4 _ _ _) me_X4_film rfl (okAs_cons (by decide) (okAs_cons rfl (okAs_cons rfl (okAs_cons rfl okAs_nil)))) (Nat.le_of_ble_eq_true rfl) ?_
  unfold f_X4_film
  refine GE_run flG_T (pc1 := 2) (L1 := [some (.inr (.inr (some (4, 0)))), some (.inl a1), some (.inl a2), some (.inl a3), none, none, none, none]) (S1 := [.inl a1, .inr (.inr (some (4, 0)))]) (w1 := w) (P := True) [(.aload_n 0, 0, 0, 0, 0), (.iload_n 1, 0, 0, 0, 0)] (by decide +kernel) rfl trivial ?_
  refine GE_callVAp (As := [.inl a1]) (k := 4) (i := 0) (S := []) (p_X4_rowAt l X a1 w) (by decide) ⟨me_X4_rowAt, mi_X4_rowAt, mv_X4_rowAt, lk_X4_175⟩ rfl (by decide +kernel) rfl (by decide) (by decide) (Nat.le_of_ble_eq_true rfl) ?_
  refine GE_run flG_T (pc1 := 9) (L1 := [some (.inr (.inr (some (4, 0)))), some (.inl a1), some (.inl a2), some (.inl a3), some (.inr (.inr ((rowF a1).map fun z => (2, z)))), none, none, none]) (S1 := [.inl a2, .inr (.inr (some (4, 0)))]) (w1 := w) (P := True) [(.astore 4, 0, 0, 0, 0), (.aload_n 0, 0, 0, 0, 0), (.iload_n 2, 0, 0, 0, 0)] (by decide +kernel) rfl trivial ?_
  refine GE_callVAp (As := [.inl a2]) (k := 4) (i := 0) (S := []) (p_X4_rowAt l X a2 w) (by decide) ⟨me_X4_rowAt, mi_X4_rowAt, mv_X4_rowAt, lk_X4_175⟩ rfl (by decide +kernel) rfl (by decide) (by decide) (Nat.le_of_ble_eq_true rfl) ?_
  refine GE_run flG_T (pc1 := 16) (L1 := [some (.inr (.inr (some (4, 0)))), some (.inl a1), some (.inl a2), some (.inl a3), some (.inr (.inr ((rowF a1).map fun z => (2, z)))), some (.inr (.inr ((rowF a2).map fun z => (2, z)))), none, none]) (S1 := [.inr (.inr ((rowF a1).map fun z => (2, z)))]) (w1 := w) (P := True) [(.astore 5, 0, 0, 0, 0), (.aload 4, 0, 0, 0, 0)] (by decide +kernel) rfl trivial ?_
  cases hz1 : rowF a1 with
  | none =>
    simp only [Option.elim_none, Option.map_none]
    refine GE_null0 (off := 13) (tgt := 29) (by decide +kernel) (by decide) ?_
    refine GE_run flG_T (pc1 := 31) (L1 := [some (.inr (.inr (some (4, 0)))), some (.inl a1), some (.inl a2), some (.inl a3), some (.inr (.inr none)), some (.inr (.inr ((rowF a2).map fun z => (2, z)))), none, none]) (S1 := [.inl (-2)]) (w1 := w) (P := True) [(.bipush (-2), 0, 0, -2, 0)] (by decide +kernel) rfl trivial ?_
    exact GE_iret rfl (by decide +kernel)
  | some z1 =>
    have bz1 := rowF_lt hz1
    refine GE_eq (Option.elim_some _ _ _) ?_
    refine GE_null1 (off := 13) (by decide +kernel) ?_
    refine GE_run flG_T (pc1 := 21) (L1 := [some (.inr (.inr (some (4, 0)))), some (.inl a1), some (.inl a2), some (.inl a3), some (.inr (.inr (some (2, z1)))), some (.inr (.inr ((rowF a2).map fun z => (2, z)))), none, none]) (S1 := [.inr (.inr ((rowF a2).map fun z => (2, z)))]) (w1 := w) (P := True) [(.aload 5, 0, 0, 0, 0)] (by decide +kernel) rfl trivial ?_
    cases hz2 : rowF a2 with
    | none =>
      simp only [Option.elim_none, Option.map_none]
      refine GE_null0 (off := 8) (tgt := 29) (by decide +kernel) (by decide) ?_
      refine GE_run flG_T (pc1 := 31) (L1 := [some (.inr (.inr (some (4, 0)))), some (.inl a1), some (.inl a2), some (.inl a3), some (.inr (.inr (some (2, z1)))), some (.inr (.inr none)), none, none]) (S1 := [.inl (-2)]) (w1 := w) (P := True) [(.bipush (-2), 0, 0, -2, 0)] (by decide +kernel) rfl trivial ?_
      exact GE_iret rfl (by decide +kernel)
    | some z2 =>
      have bz2 := rowF_lt hz2
      refine GE_eq (Option.elim_some _ _ _) ?_
      refine GE_null1 (off := 8) (by decide +kernel) ?_
      refine GE_run flG_T (pc1 := 26) (L1 := [some (.inr (.inr (some (4, 0)))), some (.inl a1), some (.inl a2), some (.inl a3), some (.inr (.inr (some (2, z1)))), some (.inr (.inr (some (2, z2)))), none, none]) (S1 := [.inl a2, .inl a1]) (w1 := w) (P := True) [(.iload_n 1, 0, 0, 0, 0), (.iload_n 2, 0, 0, 0, 0)] (by decide +kernel) rfl trivial ?_
      refine GE_icmpN (k := .ne) (off := 6) (tgt := 32) (by decide +kernel) (by decide) (cnd_ne _ _) (fun c3 => ?_) (fun c3 => ?_)
      · refine GE_run flG_T (pc1 := 35) (L1 := [some (.inr (.inr (some (4, 0)))), some (.inl a1), some (.inl a2), some (.inl a3), some (.inr (.inr (some (2, z1)))), some (.inr (.inr (some (2, z2)))), none, none]) (S1 := [.inl a3, .inl a1, .inr (.inr (some (4, 0)))]) (w1 := w) (P := True) [(.aload_n 0, 0, 0, 0, 0), (.iload_n 1, 0, 0, 0, 0), (.iload_n 3, 0, 0, 0, 0)] (by decide +kernel) rfl trivial ?_
        refine GE_callVI (As := [.inl a1, .inl a3]) (k := 4) (i := 0) (S := []) (t_X4_refusedSeason l X a1 a3 w) (by decide) ⟨me_X4_refusedSeason, mi_X4_refusedSeason, mv_X4_refusedSeason, lk_X4_161⟩ rfl (by decide +kernel) rfl (by decide) (by decide) (Nat.le_of_ble_eq_true rfl) (fun r4 _ => ?_)
        refine GE_run flG_T (pc1 := 42) (L1 := [some (.inr (.inr (some (4, 0)))), some (.inl a1), some (.inl a2), some (.inl a3), some (.inr (.inr (some (2, z1)))), some (.inr (.inr (some (2, z2)))), some (.inl r4.1), none]) (S1 := [.inl r4.1]) (w1 := r4.2) (P := True) [(.istore 6, 0, 0, 0, 0), (.iload 6, 0, 0, 0, 0)] (by decide +kernel) rfl trivial ?_
        refine GE_if (k := .eq) (off := 6) (tgt := 48) (by decide +kernel) (by decide) (cnd_eq _ _) (fun c5 => ?_) (fun c5 => ?_)
        · refine GE_run flG_T (pc1 := 56) (L1 := [some (.inr (.inr (some (4, 0)))), some (.inl a1), some (.inl a2), some (.inl a3), some (.inr (.inr (some (2, z1)))), some (.inr (.inr (some (2, z2)))), some (.inl r4.1), none]) (S1 := [.inl (r4.2 2 z1 1), .inl 0, .inr (.inr (some (2, z2)))]) (w1 := r4.2) (P := True) [(.aload 5, 0, 0, 0, 0), (.iconst 0, 0, 0, 0, 0), (.aload 4, 0, 0, 0, 0), (.getfield 189, 2, 1, 0, 0)] (by decide +kernel) rfl trivial ?_
          refine GE_callVV (As := [.inl 0, .inl (r4.2 2 z1 1)]) (k := 2) (i := z2) (S := []) (t_X2_becomes l X z2 0 (r4.2 2 z1 1) bz2 r4.2) (by decide) ⟨me_X2_becomes, mi_X2_becomes, mv_X2_becomes, lk_X4_226⟩ rfl (by decide +kernel) rfl (by decide) (by decide) (Nat.le_of_ble_eq_true rfl) (fun r6 _ => ?_)
          refine GE_run flG_T (pc1 := 67) (L1 := [some (.inr (.inr (some (4, 0)))), some (.inl a1), some (.inl a2), some (.inl a3), some (.inr (.inr (some (2, z1)))), some (.inr (.inr (some (2, z2)))), some (.inl r4.1), none]) (S1 := [.inr (.inr (some (0, 0))), .inr (.inr (some (0, 1)))]) (w1 := r6) (P := True) [(.aload_n 0, 0, 0, 0, 0), (.getfield 32, 4, 3, 0, 0), (.aload_n 0, 0, 0, 0, 0), (.getfield 28, 4, 2, 0, 0)] (by decide +kernel) rfl trivial ?_
          refine GE_callVV (As := [.inr (.inr (some (0, 0)))]) (k := 0) (i := 1) (S := []) (t_X0_become l X 1 0 (by decide) (by decide) r6) (by decide) ⟨me_X0_become, mi_X0_become, mv_X0_become, lk_X4_164⟩ rfl (by decide +kernel) rfl (by decide) (by decide) (Nat.le_of_ble_eq_true rfl) (fun r7 _ => ?_)
          refine GE_run flG_T (pc1 := 73) (L1 := [some (.inr (.inr (some (4, 0)))), some (.inl a1), some (.inl a2), some (.inl a3), some (.inr (.inr (some (2, z1)))), some (.inr (.inr (some (2, z2)))), some (.inl r4.1), some (.inl 0)]) (S1 := []) (w1 := r7) (P := True) [(.iconst 0, 0, 0, 0, 0), (.istore 7, 0, 0, 0, 0)] (by decide +kernel) rfl trivial ?_
          refine GE_weak [true, false, false, true, true, true, false, true] (h_X4_film_73_ok l X z1 z2 a3 _ bz1 bz2 ?_ FU 0 r7)
          · intro w12
            refine GE_run flG_T (pc1 := 139) (L1 := [none, none, none, none, some (.inr (.inr (some (2, z1)))), none, none, none]) (S1 := [.inl (w12 2 z1 1)]) (w1 := w12) (P := True) [(.aload 4, 0, 0, 0, 0), (.getfield 189, 2, 1, 0, 0)] (by decide +kernel) rfl trivial ?_
            exact GE_iret rfl (by decide +kernel)
        · refine GE_run flG_T (pc1 := 47) (L1 := [some (.inr (.inr (some (4, 0)))), some (.inl a1), some (.inl a2), some (.inl a3), some (.inr (.inr (some (2, z1)))), some (.inr (.inr (some (2, z2)))), some (.inl r4.1), none]) (S1 := [.inl r4.1]) (w1 := r4.2) (P := True) [(.iload 6, 0, 0, 0, 0)] (by decide +kernel) rfl trivial ?_
          exact GE_iret rfl (by decide +kernel)
      · refine GE_run flG_T (pc1 := 31) (L1 := [some (.inr (.inr (some (4, 0)))), some (.inl a1), some (.inl a2), some (.inl a3), some (.inr (.inr (some (2, z1)))), some (.inr (.inr (some (2, z2)))), none, none]) (S1 := [.inl (-2)]) (w1 := w) (P := True) [(.bipush (-2), 0, 0, -2, 0)] (by decide +kernel) rfl trivial ?_
        exact GE_iret rfl (by decide +kernel)
abbrev mm_X4_drawn : MI := (RX4, cX4_drawn, 4, (some .int), ftp_X4.map (fun q => q.1), ctp_X4.map (fun q => q.1), clp_X4.map (fun q => q.1))
noncomputable def j_X4_drawn_29   (x1 : Int32) (x2 : Int32) (x3 : Int32) (w : Mem) : Option (Int32 × Mem) := Option.bind (f_X4_draws x1 x2 w) (fun r5 => if x3 = 0 then (Option.bind (f_X0_knownToAny 1 r5) (fun r7 => some (bcF r7.1, r7.2))) else (some (r5 0 1 3, r5)))
set_option maxRecDepth 100000 in
theorem j_X4_drawn_29_ok (l : Launch) (X : XC)   (x1 : Int32) (x2 : Int32) (x3 : Int32)   (w : Mem) : GE l X mm_X4_drawn 6 emI 57 flT (j_X4_drawn_29 x1 x2 x3 w) 29 [some (.inr (.inr (some (4, 0)))), some (.inl x1), some (.inl x2), some (.inl x3)] [] w := by
  unfold j_X4_drawn_29
  refine GE_run flG_T (pc1 := 32) (L1 := [some (.inr (.inr (some (4, 0)))), some (.inl x1), some (.inl x2), some (.inl x3)]) (S1 := [.inl x2, .inl x1, .inr (.inr (some (4, 0)))]) (w1 := w) (P := True) [(.aload_n 0, 0, 0, 0, 0), (.iload_n 1, 0, 0, 0, 0), (.iload_n 2, 0, 0, 0, 0)] (by decide +kernel) rfl trivial ?_
  refine GE_callVV (As := [.inl x1, .inl x2]) (k := 4) (i := 0) (S := []) (t_X4_draws l X x1 x2 w) (by decide) ⟨me_X4_draws, mi_X4_draws, mv_X4_draws, lk_X4_235⟩ rfl (by decide +kernel) rfl (by decide) (by decide) (Nat.le_of_ble_eq_true rfl) (fun r5 _ => ?_)
  refine GE_run flG_T (pc1 := 36) (L1 := [some (.inr (.inr (some (4, 0)))), some (.inl x1), some (.inl x2), some (.inl x3)]) (S1 := [.inl x3]) (w1 := r5) (P := True) [(.iload_n 3, 0, 0, 0, 0)] (by decide +kernel) rfl trivial ?_
  refine GE_ifN (k := .ne) (off := 16) (tgt := 52) (by decide +kernel) (by decide) (cnd_ne _ _) (fun c6 => ?_) (fun c6 => ?_)
  · refine GE_run flG_T (pc1 := 59) (L1 := [some (.inr (.inr (some (4, 0)))), some (.inl x1), some (.inl x2), some (.inl x3)]) (S1 := [.inl (r5 0 1 3)]) (w1 := r5) (P := True) [(.aload_n 0, 0, 0, 0, 0), (.getfield 32, 4, 3, 0, 0), (.getfield 49, 0, 3, 0, 0)] (by decide +kernel) rfl trivial ?_
    exact GE_iret rfl (by decide +kernel)
  · refine GE_run flG_T (pc1 := 43) (L1 := [some (.inr (.inr (some (4, 0)))), some (.inl x1), some (.inl x2), some (.inl x3)]) (S1 := [.inr (.inr (some (0, 1)))]) (w1 := r5) (P := True) [(.aload_n 0, 0, 0, 0, 0), (.getfield 32, 4, 3, 0, 0)] (by decide +kernel) rfl trivial ?_
    refine GE_callVI (As := []) (k := 0) (i := 1) (S := []) (t_X0_knownToAny l X 1 (by decide) r5) (by decide) ⟨me_X0_knownToAny, mi_X0_knownToAny, mv_X0_knownToAny, lk_X4_208⟩ rfl (by decide +kernel) rfl (by decide) (by decide) (Nat.le_of_ble_eq_true rfl) (fun r7 _ => ?_)
    refine GE_callSIp (As := [.inl r7.1]) (S := []) (p_J6_bitCount l X r7.1 r7.2) ⟨me_J6_bitCount_0f7a4, ms_J6_bitCount_0f7a4, lk_X4_52⟩ (by decide +kernel) rfl (by decide) (by decide) (Nat.le_of_ble_eq_true rfl) ?_
    refine GE_run flG_T (pc1 := 59) (L1 := [some (.inr (.inr (some (4, 0)))), some (.inl x1), some (.inl x2), some (.inl x3)]) (S1 := [.inl (bcF r7.1)]) (w1 := r7.2) (P := True) [(.goto 10, 0, 0, 0, 0)] (by decide +kernel) rfl trivial ?_
    exact GE_iret rfl (by decide +kernel)
noncomputable def f_X4_drawn (a1 : Int32) (a2 : Int32) (a3 : Int32) (w : Mem) : Option (Int32 × Mem) := if (rng a1 0 99999) = 0 then (some ((-2), w)) else (if a2 < 0 then (some ((-2), w)) else (if a2 ≤ 60 then (if a3 = 0 then (j_X4_drawn_29 a1 a2 a3 w) else (if a3 = 1 then (j_X4_drawn_29 a1 a2 a3 w) else (some ((-2), w)))) else (some ((-2), w))))
set_option maxRecDepth 100000 in
theorem t_X4_drawn (l : Launch) (X : XC)  (a1 : Int32) (a2 : Int32) (a3 : Int32) (w : Mem) : Ct l X 6 yX4_drawn cX4_drawn 4 (some .int) emI [.inr (.inr (some (4, 0))), .inl a1, .inl a2, .inl a3] 57 flT w (f_X4_drawn a1 a2 a3 w) := by
  refine Ct_of (mi := mm_X4_drawn) (mik_X4 _ _ _) me_X4_drawn rfl (okAs_cons (by decide) (okAs_cons rfl (okAs_cons rfl (okAs_cons rfl okAs_nil)))) (Nat.le_of_ble_eq_true rfl) ?_
  unfold f_X4_drawn
  refine GE_run flG_T (pc1 := 1) (L1 := [some (.inr (.inr (some (4, 0)))), some (.inl a1), some (.inl a2), some (.inl a3)]) (S1 := [.inl a1]) (w1 := w) (P := True) [(.iload_n 1, 0, 0, 0, 0)] (by decide +kernel) rfl trivial ?_
  refine GE_callSIp (As := [.inl a1]) (S := []) (p_X4_isSeed l X a1 w) ⟨me_X4_isSeed, ms_X4_isSeed, lk_X4_232⟩ (by decide +kernel) rfl (by decide) (by decide) (Nat.le_of_ble_eq_true rfl) ?_
  refine GE_if (k := .eq) (off := 22) (tgt := 26) (by decide +kernel) (by decide) (cnd_eq _ _) (fun c1 => ?_) (fun c1 => ?_)
  · refine GE_run flG_T (pc1 := 28) (L1 := [some (.inr (.inr (some (4, 0)))), some (.inl a1), some (.inl a2), some (.inl a3)]) (S1 := [.inl (-2)]) (w1 := w) (P := True) [(.bipush (-2), 0, 0, -2, 0)] (by decide +kernel) rfl trivial ?_
    exact GE_iret rfl (by decide +kernel)
  · refine GE_run flG_T (pc1 := 8) (L1 := [some (.inr (.inr (some (4, 0)))), some (.inl a1), some (.inl a2), some (.inl a3)]) (S1 := [.inl a2]) (w1 := w) (P := True) [(.iload_n 2, 0, 0, 0, 0)] (by decide +kernel) rfl trivial ?_
    refine GE_if (k := .lt) (off := 18) (tgt := 26) (by decide +kernel) (by decide) (cnd_lt _ _) (fun c2 => ?_) (fun c2 => ?_)
    · refine GE_run flG_T (pc1 := 28) (L1 := [some (.inr (.inr (some (4, 0)))), some (.inl a1), some (.inl a2), some (.inl a3)]) (S1 := [.inl (-2)]) (w1 := w) (P := True) [(.bipush (-2), 0, 0, -2, 0)] (by decide +kernel) rfl trivial ?_
      exact GE_iret rfl (by decide +kernel)
    · refine GE_run flG_T (pc1 := 14) (L1 := [some (.inr (.inr (some (4, 0)))), some (.inl a1), some (.inl a2), some (.inl a3)]) (S1 := [.inl 60, .inl a2]) (w1 := w) (P := True) [(.iload_n 2, 0, 0, 0, 0), (.bipush 60, 0, 0, 60, 0)] (by decide +kernel) rfl trivial ?_
      refine GE_icmpN (k := .gt) (off := 12) (tgt := 26) (by decide +kernel) (by decide) (cnd_gt _ _) (fun c3 => ?_) (fun c3 => ?_)
      · refine GE_run flG_T (pc1 := 28) (L1 := [some (.inr (.inr (some (4, 0)))), some (.inl a1), some (.inl a2), some (.inl a3)]) (S1 := [.inl (-2)]) (w1 := w) (P := True) [(.bipush (-2), 0, 0, -2, 0)] (by decide +kernel) rfl trivial ?_
        exact GE_iret rfl (by decide +kernel)
      · refine GE_run flG_T (pc1 := 18) (L1 := [some (.inr (.inr (some (4, 0)))), some (.inl a1), some (.inl a2), some (.inl a3)]) (S1 := [.inl a3]) (w1 := w) (P := True) [(.iload_n 3, 0, 0, 0, 0)] (by decide +kernel) rfl trivial ?_
        refine GE_if (k := .eq) (off := 11) (tgt := 29) (by decide +kernel) (by decide) (cnd_eq _ _) (fun c4 => ?_) (fun c4 => ?_)
        · exact GE_weak [true, true, true, true] (j_X4_drawn_29_ok l X a1 a2 a3 w)
        · refine GE_run flG_T (pc1 := 23) (L1 := [some (.inr (.inr (some (4, 0)))), some (.inl a1), some (.inl a2), some (.inl a3)]) (S1 := [.inl 1, .inl a3]) (w1 := w) (P := True) [(.iload_n 3, 0, 0, 0, 0), (.iconst 1, 0, 0, 1, 0)] (by decide +kernel) rfl trivial ?_
          refine GE_icmp (k := .eq) (off := 6) (tgt := 29) (by decide +kernel) (by decide) (cnd_eq _ _) (fun c8 => ?_) (fun c8 => ?_)
          · exact GE_weak [true, true, true, true] (j_X4_drawn_29_ok l X a1 a2 a3 w)
          · refine GE_run flG_T (pc1 := 28) (L1 := [some (.inr (.inr (some (4, 0)))), some (.inl a1), some (.inl a2), some (.inl a3)]) (S1 := [.inl (-2)]) (w1 := w) (P := True) [(.bipush (-2), 0, 0, -2, 0)] (by decide +kernel) rfl trivial ?_
            exact GE_iret rfl (by decide +kernel)
abbrev mm_X4_odds : MI := (RX4, cX4_odds, 7, (some .long), ftp_X4.map (fun q => q.1), ctp_X4.map (fun q => q.1), clp_X4.map (fun q => q.1))
noncomputable def h_X4_odds_38 (x1 : Int32) (x2 : Int32) (x3 : Int32) (x4 : Int32) (k77 : Int32 → Mem → Option (Int64 × Mem)) : Nat → Int32 → Int32 → Mem → Option (Int64 × Mem)
  | 0, _, _, _ => none
  | n + 1, x5, x6, w => if x6 < x2 then (Option.bind (f_X4_draws (x1 + x6) 20 w) (fun r7 => Option.bind (f_X0_knownToAny 1 r7) (fun r8 => if (bcF r8.1) < x3 then ((h_X4_odds_38 x1 x2 x3 x4 k77 n) x5 (x6 + 1) r8.2) else ((h_X4_odds_38 x1 x2 x3 x4 k77 n) (x5 + 1) (x6 + 1) r8.2)))) else (k77 x5 w)
set_option maxRecDepth 100000 in
theorem h_X4_odds_38_ok (l : Launch) (X : XC) (x1 : Int32) (x2 : Int32) (x3 : Int32) (x4 : Int32) (k77 : Int32 → Mem → Option (Int64 × Mem))  (hk77 : ∀ (x5 : Int32) (w : Mem), GE l X mm_X4_odds 6 emL 57 flT (k77 x5 w) 77 [none, none, some (.inl x2), none, some (.inl x4), some (.inl x5), none] [] w) : ∀ (n : Nat) (x5 : Int32) (x6 : Int32) (w : Mem), GE l X mm_X4_odds 6 emL 57 flT ((h_X4_odds_38 x1 x2 x3 x4 k77 n) x5 x6 w) 38 [some (.inr (.inr (some (4, 0)))), some (.inl x1), some (.inl x2), some (.inl x3), some (.inl x4), some (.inl x5), some (.inl x6)] [] w := by
  intro n
  induction n with
  | zero => intro x5 x6 w; exact GE_none
  | succ n ih =>
    intro x5 x6 w
    unfold h_X4_odds_38
    refine GE_run flG_T (pc1 := 41) (L1 := [some (.inr (.inr (some (4, 0)))), some (.inl x1), some (.inl x2), some (.inl x3), some (.inl x4), some (.inl x5), some (.inl x6)]) (S1 := [.inl x2, .inl x6]) (w1 := w) (P := True) [(.iload 6, 0, 0, 0, 0), (.iload_n 2, 0, 0, 0, 0)] (by decide +kernel) rfl trivial ?_
    refine GE_icmpN (k := .ge) (off := 36) (tgt := 77) (by decide +kernel) (by decide) (cnd_ge _ _) (fun c6 => ?_) (fun c6 => ?_)
    · exact GE_weak [false, false, true, false, true, true, false] (hk77 x5 w)
    · refine GE_run flG_T (pc1 := 51) (L1 := [some (.inr (.inr (some (4, 0)))), some (.inl x1), some (.inl x2), some (.inl x3), some (.inl x4), some (.inl x5), some (.inl x6)]) (S1 := [.inl 20, .inl (x1 + x6), .inr (.inr (some (4, 0)))]) (w1 := w) (P := True) [(.aload_n 0, 0, 0, 0, 0), (.iload_n 1, 0, 0, 0, 0), (.iload 6, 0, 0, 0, 0), (.iadd, 0, 0, 0, 0), (.bipush 20, 0, 0, 20, 0)] (by decide +kernel) rfl trivial ?_
      refine GE_callVV (As := [.inl (x1 + x6), .inl 20]) (k := 4) (i := 0) (S := []) (t_X4_draws l X (x1 + x6) 20 w) (by decide) ⟨me_X4_draws, mi_X4_draws, mv_X4_draws, lk_X4_235⟩ rfl (by decide +kernel) rfl (by decide) (by decide) (Nat.le_of_ble_eq_true rfl) (fun r7 _ => ?_)
      refine GE_run flG_T (pc1 := 58) (L1 := [some (.inr (.inr (some (4, 0)))), some (.inl x1), some (.inl x2), some (.inl x3), some (.inl x4), some (.inl x5), some (.inl x6)]) (S1 := [.inr (.inr (some (0, 1)))]) (w1 := r7) (P := True) [(.aload_n 0, 0, 0, 0, 0), (.getfield 32, 4, 3, 0, 0)] (by decide +kernel) rfl trivial ?_
      refine GE_callVI (As := []) (k := 0) (i := 1) (S := []) (t_X0_knownToAny l X 1 (by decide) r7) (by decide) ⟨me_X0_knownToAny, mi_X0_knownToAny, mv_X0_knownToAny, lk_X4_208⟩ rfl (by decide +kernel) rfl (by decide) (by decide) (Nat.le_of_ble_eq_true rfl) (fun r8 _ => ?_)
      refine GE_callSIp (As := [.inl r8.1]) (S := []) (p_J6_bitCount l X r8.1 r8.2) ⟨me_J6_bitCount_0f7a4, ms_J6_bitCount_0f7a4, lk_X4_52⟩ (by decide +kernel) rfl (by decide) (by decide) (Nat.le_of_ble_eq_true rfl) ?_
      refine GE_run flG_T (pc1 := 65) (L1 := [some (.inr (.inr (some (4, 0)))), some (.inl x1), some (.inl x2), some (.inl x3), some (.inl x4), some (.inl x5), some (.inl x6)]) (S1 := [.inl x3, .inl (bcF r8.1)]) (w1 := r8.2) (P := True) [(.iload_n 3, 0, 0, 0, 0)] (by decide +kernel) rfl trivial ?_
      refine GE_icmp (k := .lt) (off := 6) (tgt := 71) (by decide +kernel) (by decide) (cnd_lt _ _) (fun c9 => ?_) (fun c9 => ?_)
      · refine GE_run flG_T (pc1 := 38) (L1 := [some (.inr (.inr (some (4, 0)))), some (.inl x1), some (.inl x2), some (.inl x3), some (.inl x4), some (.inl x5), some (.inl (x6 + 1))]) (S1 := []) (w1 := r8.2) (P := True) [(.iinc 6 1, 0, 0, 1, 0), (.goto (-36), 0, 0, 0, 0)] (by decide +kernel) rfl trivial ?_
        exact GE_weak [true, true, true, true, true, true, true] (ih x5 (x6 + 1) r8.2)
      · refine GE_run flG_T (pc1 := 38) (L1 := [some (.inr (.inr (some (4, 0)))), some (.inl x1), some (.inl x2), some (.inl x3), some (.inl x4), some (.inl (x5 + 1)), some (.inl (x6 + 1))]) (S1 := []) (w1 := r8.2) (P := True) [(.iinc 5 1, 0, 0, 1, 0), (.iinc 6 1, 0, 0, 1, 0), (.goto (-36), 0, 0, 0, 0)] (by decide +kernel) rfl trivial ?_
        exact GE_weak [true, true, true, true, true, true, true] (ih (x5 + 1) (x6 + 1) r8.2)
noncomputable def f_X4_odds (a1 : Int32) (a2 : Int32) (a3 : Int32) (a4 : Int32) (w : Mem) : Option (Int64 × Mem) := if (rng a1 0 99999) = 0 then (some ((-4611686018427387904), w)) else (if a2 < 1 then (some ((-4611686018427387904), w)) else (if a2 ≤ 40 then (if a3 < 0 then (some ((-4611686018427387904), w)) else (if a3 ≤ 16 then (h_X4_odds_38 a1 a2 a3 a4 (fun x5_10 w11 => Option.bind (f_X4_lowest x5_10 a2 a4 w11) (fun r12 => some (r12.1, r12.2))) FU 0 0 w) else (some ((-4611686018427387904), w)))) else (some ((-4611686018427387904), w))))
set_option maxRecDepth 100000 in
theorem t_X4_odds (l : Launch) (X : XC)  (a1 : Int32) (a2 : Int32) (a3 : Int32) (a4 : Int32) (w : Mem) : Ct l X 6 yX4_odds cX4_odds 7 (some .long) emL [.inr (.inr (some (4, 0))), .inl a1, .inl a2, .inl a3, .inl a4] 57 flT w (f_X4_odds a1 a2 a3 a4 w) := by
  refine Ct_of (mi := mm_X4_odds) (mik_X4 _ _ _) me_X4_odds rfl (okAs_cons (by decide) (okAs_cons rfl (okAs_cons rfl (okAs_cons rfl (okAs_cons rfl okAs_nil))))) (Nat.le_of_ble_eq_true rfl) ?_
  unfold f_X4_odds
  refine GE_run flG_T (pc1 := 1) (L1 := [some (.inr (.inr (some (4, 0)))), some (.inl a1), some (.inl a2), some (.inl a3), some (.inl a4), none, none]) (S1 := [.inl a1]) (w1 := w) (P := True) [(.iload_n 1, 0, 0, 0, 0)] (by decide +kernel) rfl trivial ?_
  refine GE_callSIp (As := [.inl a1]) (S := []) (p_X4_isSeed l X a1 w) ⟨me_X4_isSeed, ms_X4_isSeed, lk_X4_232⟩ (by decide +kernel) rfl (by decide) (by decide) (Nat.le_of_ble_eq_true rfl) ?_
  refine GE_if (k := .eq) (off := 24) (tgt := 28) (by decide +kernel) (by decide) (cnd_eq _ _) (fun c1 => ?_) (fun c1 => ?_)
  · refine GE_run flG_T (pc1 := 31) (L1 := [some (.inr (.inr (some (4, 0)))), some (.inl a1), some (.inl a2), some (.inl a3), some (.inl a4), none, none]) (S1 := [.inr (.inl (-4611686018427387904))]) (w1 := w) (P := True) [(.ldc2_w 211, 0, 0, 0, -4611686018427387904)] (by decide +kernel) rfl trivial ?_
    exact GE_lret rfl (by decide +kernel)
  · refine GE_run flG_T (pc1 := 9) (L1 := [some (.inr (.inr (some (4, 0)))), some (.inl a1), some (.inl a2), some (.inl a3), some (.inl a4), none, none]) (S1 := [.inl 1, .inl a2]) (w1 := w) (P := True) [(.iload_n 2, 0, 0, 0, 0), (.iconst 1, 0, 0, 1, 0)] (by decide +kernel) rfl trivial ?_
    refine GE_icmp (k := .lt) (off := 19) (tgt := 28) (by decide +kernel) (by decide) (cnd_lt _ _) (fun c2 => ?_) (fun c2 => ?_)
    · refine GE_run flG_T (pc1 := 31) (L1 := [some (.inr (.inr (some (4, 0)))), some (.inl a1), some (.inl a2), some (.inl a3), some (.inl a4), none, none]) (S1 := [.inr (.inl (-4611686018427387904))]) (w1 := w) (P := True) [(.ldc2_w 211, 0, 0, 0, -4611686018427387904)] (by decide +kernel) rfl trivial ?_
      exact GE_lret rfl (by decide +kernel)
    · refine GE_run flG_T (pc1 := 15) (L1 := [some (.inr (.inr (some (4, 0)))), some (.inl a1), some (.inl a2), some (.inl a3), some (.inl a4), none, none]) (S1 := [.inl 40, .inl a2]) (w1 := w) (P := True) [(.iload_n 2, 0, 0, 0, 0), (.bipush 40, 0, 0, 40, 0)] (by decide +kernel) rfl trivial ?_
      refine GE_icmpN (k := .gt) (off := 13) (tgt := 28) (by decide +kernel) (by decide) (cnd_gt _ _) (fun c3 => ?_) (fun c3 => ?_)
      · refine GE_run flG_T (pc1 := 31) (L1 := [some (.inr (.inr (some (4, 0)))), some (.inl a1), some (.inl a2), some (.inl a3), some (.inl a4), none, none]) (S1 := [.inr (.inl (-4611686018427387904))]) (w1 := w) (P := True) [(.ldc2_w 211, 0, 0, 0, -4611686018427387904)] (by decide +kernel) rfl trivial ?_
        exact GE_lret rfl (by decide +kernel)
      · refine GE_run flG_T (pc1 := 19) (L1 := [some (.inr (.inr (some (4, 0)))), some (.inl a1), some (.inl a2), some (.inl a3), some (.inl a4), none, none]) (S1 := [.inl a3]) (w1 := w) (P := True) [(.iload_n 3, 0, 0, 0, 0)] (by decide +kernel) rfl trivial ?_
        refine GE_if (k := .lt) (off := 9) (tgt := 28) (by decide +kernel) (by decide) (cnd_lt _ _) (fun c4 => ?_) (fun c4 => ?_)
        · refine GE_run flG_T (pc1 := 31) (L1 := [some (.inr (.inr (some (4, 0)))), some (.inl a1), some (.inl a2), some (.inl a3), some (.inl a4), none, none]) (S1 := [.inr (.inl (-4611686018427387904))]) (w1 := w) (P := True) [(.ldc2_w 211, 0, 0, 0, -4611686018427387904)] (by decide +kernel) rfl trivial ?_
          exact GE_lret rfl (by decide +kernel)
        · refine GE_run flG_T (pc1 := 25) (L1 := [some (.inr (.inr (some (4, 0)))), some (.inl a1), some (.inl a2), some (.inl a3), some (.inl a4), none, none]) (S1 := [.inl 16, .inl a3]) (w1 := w) (P := True) [(.iload_n 3, 0, 0, 0, 0), (.bipush 16, 0, 0, 16, 0)] (by decide +kernel) rfl trivial ?_
          refine GE_icmp (k := .le) (off := 7) (tgt := 32) (by decide +kernel) (by decide) (cnd_le _ _) (fun c5 => ?_) (fun c5 => ?_)
          · refine GE_run flG_T (pc1 := 38) (L1 := [some (.inr (.inr (some (4, 0)))), some (.inl a1), some (.inl a2), some (.inl a3), some (.inl a4), some (.inl 0), some (.inl 0)]) (S1 := []) (w1 := w) (P := True) [(.iconst 0, 0, 0, 0, 0), (.istore 5, 0, 0, 0, 0), (.iconst 0, 0, 0, 0, 0), (.istore 6, 0, 0, 0, 0)] (by decide +kernel) rfl trivial ?_
            refine GE_weak [true, true, true, true, true, true, true] (h_X4_odds_38_ok l X a1 a2 a3 a4 _ ?_ FU 0 0 w)
            · intro x5_10 w11
              refine GE_run flG_T (pc1 := 82) (L1 := [none, none, some (.inl a2), none, some (.inl a4), some (.inl x5_10), none]) (S1 := [.inl a4, .inl a2, .inl x5_10]) (w1 := w11) (P := True) [(.iload 5, 0, 0, 0, 0), (.iload_n 2, 0, 0, 0, 0), (.iload 4, 0, 0, 0, 0)] (by decide +kernel) rfl trivial ?_
              refine GE_callSL (As := [.inl x5_10, .inl a2, .inl a4]) (S := []) (t_X4_lowest l X x5_10 a2 a4 w11) ⟨me_X4_lowest, ms_X4_lowest, lk_X4_213⟩ (by decide +kernel) rfl (by decide) (by decide) (Nat.le_of_ble_eq_true rfl) (fun r12 _ => ?_)
              exact GE_lret rfl (by decide +kernel)
          · refine GE_run flG_T (pc1 := 31) (L1 := [some (.inr (.inr (some (4, 0)))), some (.inl a1), some (.inl a2), some (.inl a3), some (.inl a4), none, none]) (S1 := [.inr (.inl (-4611686018427387904))]) (w1 := w) (P := True) [(.ldc2_w 211, 0, 0, 0, -4611686018427387904)] (by decide +kernel) rfl trivial ?_
            exact GE_lret rfl (by decide +kernel)
abbrev mm_X4_image : MI := (RX4, cX4_image, 1, (some .int), ftp_X4.map (fun q => q.1), ctp_X4.map (fun q => q.1), clp_X4.map (fun q => q.1))
noncomputable def f_X4_image  (w : Mem) : Option (Int32 × Mem) := Option.bind (f_X0_become 2 0 w) (fun r1 => if (1 : Int32) = 1 then (some ((up r1 4 0 5 1) 0 2 2, up r1 4 0 5 1)) else none)
set_option maxRecDepth 100000 in
theorem t_X4_image (l : Launch) (X : XC)   (w : Mem) : Ct l X 2 yX4_image cX4_image 1 (some .int) emI [.inr (.inr (some (4, 0)))] 57 flT w (f_X4_image  w) := by
  refine Ct_of (mi := mm_X4_image) (mik_X4 _ _ _) me_X4_image rfl (okAs_cons (by decide) okAs_nil) (Nat.le_of_ble_eq_true rfl) ?_
  unfold f_X4_image
  refine GE_run flG_T (pc1 := 8) (L1 := [some (.inr (.inr (some (4, 0))))]) (S1 := [.inr (.inr (some (0, 0))), .inr (.inr (some (0, 2)))]) (w1 := w) (P := True) [(.aload_n 0, 0, 0, 0, 0), (.getfield 35, 4, 4, 0, 0), (.aload_n 0, 0, 0, 0, 0), (.getfield 28, 4, 2, 0, 0)] (by decide +kernel) rfl trivial ?_
  refine GE_callVV (As := [.inr (.inr (some (0, 0)))]) (k := 0) (i := 2) (S := []) (t_X0_become l X 2 0 (by decide) (by decide) w) (by decide) ⟨me_X0_become, mi_X0_become, mv_X0_become, lk_X4_164⟩ rfl (by decide +kernel) rfl (by decide) (by decide) (Nat.le_of_ble_eq_true rfl) (fun r1 _ => ?_)
  refine GE_chk (fun h2 => ?_)
  refine GE_run flG_T (pc1 := 23) (L1 := [some (.inr (.inr (some (4, 0))))]) (S1 := [.inl ((up r1 4 0 5 1) 0 2 2)]) (w1 := up r1 4 0 5 1) (P := ((1 : Int32) = 1) ∧ True) [(.aload_n 0, 0, 0, 0, 0), (.iconst 1, 0, 0, 1, 0), (.putfield 238, 4, 5, 0, 0), (.aload_n 0, 0, 0, 0, 0), (.getfield 35, 4, 4, 0, 0), (.getfield 45, 0, 2, 0, 0)] (by decide +kernel) rfl ⟨h2, trivial⟩ ?_
  exact GE_iret rfl (by decide +kernel)
abbrev mm_X4_back : MI := (RX4, cX4_back, 1, (some .int), ftp_X4.map (fun q => q.1), ctp_X4.map (fun q => q.1), clp_X4.map (fun q => q.1))
noncomputable def f_X4_back  (w : Mem) : Option (Int32 × Mem) := if (w 4 0 5) = 0 then (some ((-3), w)) else (Option.bind (f_X0_become 0 2 w) (fun r2 => some (r2 0 0 2, r2)))
set_option maxRecDepth 100000 in
theorem t_X4_back (l : Launch) (X : XC)   (w : Mem) : Ct l X 2 yX4_back cX4_back 1 (some .int) emI [.inr (.inr (some (4, 0)))] 57 flT w (f_X4_back  w) := by
  refine Ct_of (mi := mm_X4_back) (mik_X4 _ _ _) me_X4_back rfl (okAs_cons (by decide) okAs_nil) (Nat.le_of_ble_eq_true rfl) ?_
  unfold f_X4_back
  refine GE_run flG_T (pc1 := 4) (L1 := [some (.inr (.inr (some (4, 0))))]) (S1 := [.inl (w 4 0 5)]) (w1 := w) (P := True) [(.aload_n 0, 0, 0, 0, 0), (.getfield 238, 4, 5, 0, 0)] (by decide +kernel) rfl trivial ?_
  refine GE_ifN (k := .ne) (off := 6) (tgt := 10) (by decide +kernel) (by decide) (cnd_ne _ _) (fun c1 => ?_) (fun c1 => ?_)
  · refine GE_run flG_T (pc1 := 18) (L1 := [some (.inr (.inr (some (4, 0))))]) (S1 := [.inr (.inr (some (0, 2))), .inr (.inr (some (0, 0)))]) (w1 := w) (P := True) [(.aload_n 0, 0, 0, 0, 0), (.getfield 28, 4, 2, 0, 0), (.aload_n 0, 0, 0, 0, 0), (.getfield 35, 4, 4, 0, 0)] (by decide +kernel) rfl trivial ?_
    refine GE_callVV (As := [.inr (.inr (some (0, 2)))]) (k := 0) (i := 0) (S := []) (t_X0_become l X 0 2 (by decide) (by decide) w) (by decide) ⟨me_X0_become, mi_X0_become, mv_X0_become, lk_X4_164⟩ rfl (by decide +kernel) rfl (by decide) (by decide) (Nat.le_of_ble_eq_true rfl) (fun r2 _ => ?_)
    refine GE_run flG_T (pc1 := 28) (L1 := [some (.inr (.inr (some (4, 0))))]) (S1 := [.inl (r2 0 0 2)]) (w1 := r2) (P := True) [(.aload_n 0, 0, 0, 0, 0), (.getfield 28, 4, 2, 0, 0), (.getfield 45, 0, 2, 0, 0)] (by decide +kernel) rfl trivial ?_
    exact GE_iret rfl (by decide +kernel)
  · refine GE_run flG_T (pc1 := 9) (L1 := [some (.inr (.inr (some (4, 0))))]) (S1 := [.inl (-3)]) (w1 := w) (P := True) [(.bipush (-3), 0, 0, -3, 0)] (by decide +kernel) rfl trivial ?_
    exact GE_iret rfl (by decide +kernel)
abbrev mm_X4_sheet : MI := (RX4, cX4_sheet, 5, (some .int), ftp_X4.map (fun q => q.1), ctp_X4.map (fun q => q.1), clp_X4.map (fun q => q.1))
noncomputable def f_X4_sheet (a1 : Int32) (a2 : Int32) (a3 : Int32) (w : Mem) : Option (Int32 × Mem) := Option.elim (rowF a1) (some ((-2), w)) (fun z1 => if a2 < (-1) then (some ((-2), w)) else (if a2 ≤ 2 then (if a2 = (-1) then (Option.bind (f_X2_becomes z1 (-1) 0 w) (fun r5 => some (1, r5))) else (if a3 ≤ 40 then (if a3 < 0 then (some ((-14), w)) else (Option.bind (f_X2_becomes z1 a2 a3 w) (fun r8 => some (1, r8)))) else (some ((-2), w)))) else (some ((-2), w))))
set_option maxRecDepth 100000 in
theorem t_X4_sheet (l : Launch) (X : XC)  (a1 : Int32) (a2 : Int32) (a3 : Int32) (w : Mem) : Ct l X 2 yX4_sheet cX4_sheet 5 (some .int) emI [.inr (.inr (some (4, 0))), .inl a1, .inl a2, .inl a3] 57 flT w (f_X4_sheet a1 a2 a3 w) := by
  refine Ct_of (mi := mm_X4_sheet) (mik_X4 _ _ _) me_X4_sheet rfl (okAs_cons (by decide) (okAs_cons rfl (okAs_cons rfl (okAs_cons rfl okAs_nil)))) (Nat.le_of_ble_eq_true rfl) ?_
  unfold f_X4_sheet
  refine GE_run flG_T (pc1 := 2) (L1 := [some (.inr (.inr (some (4, 0)))), some (.inl a1), some (.inl a2), some (.inl a3), none]) (S1 := [.inl a1, .inr (.inr (some (4, 0)))]) (w1 := w) (P := True) [(.aload_n 0, 0, 0, 0, 0), (.iload_n 1, 0, 0, 0, 0)] (by decide +kernel) rfl trivial ?_
  refine GE_callVAp (As := [.inl a1]) (k := 4) (i := 0) (S := []) (p_X4_rowAt l X a1 w) (by decide) ⟨me_X4_rowAt, mi_X4_rowAt, mv_X4_rowAt, lk_X4_175⟩ rfl (by decide +kernel) rfl (by decide) (by decide) (Nat.le_of_ble_eq_true rfl) ?_
  refine GE_run flG_T (pc1 := 9) (L1 := [some (.inr (.inr (some (4, 0)))), some (.inl a1), some (.inl a2), some (.inl a3), some (.inr (.inr ((rowF a1).map fun z => (2, z))))]) (S1 := [.inr (.inr ((rowF a1).map fun z => (2, z)))]) (w1 := w) (P := True) [(.astore 4, 0, 0, 0, 0), (.aload 4, 0, 0, 0, 0)] (by decide +kernel) rfl trivial ?_
  cases hz1 : rowF a1 with
  | none =>
    simp only [Option.elim_none, Option.map_none]
    refine GE_null0 (off := 13) (tgt := 22) (by decide +kernel) (by decide) ?_
    refine GE_run flG_T (pc1 := 24) (L1 := [some (.inr (.inr (some (4, 0)))), some (.inl a1), some (.inl a2), some (.inl a3), some (.inr (.inr none))]) (S1 := [.inl (-2)]) (w1 := w) (P := True) [(.bipush (-2), 0, 0, -2, 0)] (by decide +kernel) rfl trivial ?_
    exact GE_iret rfl (by decide +kernel)
  | some z1 =>
    have bz1 := rowF_lt hz1
    refine GE_eq (Option.elim_some _ _ _) ?_
    refine GE_null1 (off := 13) (by decide +kernel) ?_
    refine GE_run flG_T (pc1 := 14) (L1 := [some (.inr (.inr (some (4, 0)))), some (.inl a1), some (.inl a2), some (.inl a3), some (.inr (.inr (some (2, z1))))]) (S1 := [.inl (-1), .inl a2]) (w1 := w) (P := True) [(.iload_n 2, 0, 0, 0, 0), (.iconst (-1), 0, 0, -1, 0)] (by decide +kernel) rfl trivial ?_
    refine GE_icmp (k := .lt) (off := 8) (tgt := 22) (by decide +kernel) (by decide) (cnd_lt _ _) (fun c2 => ?_) (fun c2 => ?_)
    · refine GE_run flG_T (pc1 := 24) (L1 := [some (.inr (.inr (some (4, 0)))), some (.inl a1), some (.inl a2), some (.inl a3), some (.inr (.inr (some (2, z1))))]) (S1 := [.inl (-2)]) (w1 := w) (P := True) [(.bipush (-2), 0, 0, -2, 0)] (by decide +kernel) rfl trivial ?_
      exact GE_iret rfl (by decide +kernel)
    · refine GE_run flG_T (pc1 := 19) (L1 := [some (.inr (.inr (some (4, 0)))), some (.inl a1), some (.inl a2), some (.inl a3), some (.inr (.inr (some (2, z1))))]) (S1 := [.inl 2, .inl a2]) (w1 := w) (P := True) [(.iload_n 2, 0, 0, 0, 0), (.iconst 2, 0, 0, 2, 0)] (by decide +kernel) rfl trivial ?_
      refine GE_icmp (k := .le) (off := 6) (tgt := 25) (by decide +kernel) (by decide) (cnd_le _ _) (fun c3 => ?_) (fun c3 => ?_)
      · refine GE_run flG_T (pc1 := 27) (L1 := [some (.inr (.inr (some (4, 0)))), some (.inl a1), some (.inl a2), some (.inl a3), some (.inr (.inr (some (2, z1))))]) (S1 := [.inl (-1), .inl a2]) (w1 := w) (P := True) [(.iload_n 2, 0, 0, 0, 0), (.iconst (-1), 0, 0, -1, 0)] (by decide +kernel) rfl trivial ?_
        refine GE_icmpN (k := .ne) (off := 12) (tgt := 39) (by decide +kernel) (by decide) (cnd_ne _ _) (fun c4 => ?_) (fun c4 => ?_)
        · refine GE_run flG_T (pc1 := 42) (L1 := [some (.inr (.inr (some (4, 0)))), some (.inl a1), some (.inl a2), some (.inl a3), some (.inr (.inr (some (2, z1))))]) (S1 := [.inl 40, .inl a3]) (w1 := w) (P := True) [(.iload_n 3, 0, 0, 0, 0), (.bipush 40, 0, 0, 40, 0)] (by decide +kernel) rfl trivial ?_
          refine GE_icmp (k := .le) (off := 6) (tgt := 48) (by decide +kernel) (by decide) (cnd_le _ _) (fun c6 => ?_) (fun c6 => ?_)
          · refine GE_run flG_T (pc1 := 49) (L1 := [some (.inr (.inr (some (4, 0)))), some (.inl a1), some (.inl a2), some (.inl a3), some (.inr (.inr (some (2, z1))))]) (S1 := [.inl a3]) (w1 := w) (P := True) [(.iload_n 3, 0, 0, 0, 0)] (by decide +kernel) rfl trivial ?_
            refine GE_ifN (k := .ge) (off := 6) (tgt := 55) (by decide +kernel) (by decide) (cnd_ge _ _) (fun c7 => ?_) (fun c7 => ?_)
            · refine GE_run flG_T (pc1 := 59) (L1 := [some (.inr (.inr (some (4, 0)))), some (.inl a1), some (.inl a2), some (.inl a3), some (.inr (.inr (some (2, z1))))]) (S1 := [.inl a3, .inl a2, .inr (.inr (some (2, z1)))]) (w1 := w) (P := True) [(.aload 4, 0, 0, 0, 0), (.iload_n 2, 0, 0, 0, 0), (.iload_n 3, 0, 0, 0, 0)] (by decide +kernel) rfl trivial ?_
              refine GE_callVV (As := [.inl a2, .inl a3]) (k := 2) (i := z1) (S := []) (t_X2_becomes l X z1 a2 a3 bz1 w) (by decide) ⟨me_X2_becomes, mi_X2_becomes, mv_X2_becomes, lk_X4_226⟩ rfl (by decide +kernel) rfl (by decide) (by decide) (Nat.le_of_ble_eq_true rfl) (fun r8 _ => ?_)
              refine GE_run flG_T (pc1 := 63) (L1 := [some (.inr (.inr (some (4, 0)))), some (.inl a1), some (.inl a2), some (.inl a3), some (.inr (.inr (some (2, z1))))]) (S1 := [.inl 1]) (w1 := r8) (P := True) [(.iconst 1, 0, 0, 1, 0)] (by decide +kernel) rfl trivial ?_
              exact GE_iret rfl (by decide +kernel)
            · refine GE_run flG_T (pc1 := 54) (L1 := [some (.inr (.inr (some (4, 0)))), some (.inl a1), some (.inl a2), some (.inl a3), some (.inr (.inr (some (2, z1))))]) (S1 := [.inl (-14)]) (w1 := w) (P := True) [(.bipush (-14), 0, 0, -14, 0)] (by decide +kernel) rfl trivial ?_
              exact GE_iret rfl (by decide +kernel)
          · refine GE_run flG_T (pc1 := 47) (L1 := [some (.inr (.inr (some (4, 0)))), some (.inl a1), some (.inl a2), some (.inl a3), some (.inr (.inr (some (2, z1))))]) (S1 := [.inl (-2)]) (w1 := w) (P := True) [(.bipush (-2), 0, 0, -2, 0)] (by decide +kernel) rfl trivial ?_
            exact GE_iret rfl (by decide +kernel)
        · refine GE_run flG_T (pc1 := 34) (L1 := [some (.inr (.inr (some (4, 0)))), some (.inl a1), some (.inl a2), some (.inl a3), some (.inr (.inr (some (2, z1))))]) (S1 := [.inl 0, .inl (-1), .inr (.inr (some (2, z1)))]) (w1 := w) (P := True) [(.aload 4, 0, 0, 0, 0), (.iconst (-1), 0, 0, -1, 0), (.iconst 0, 0, 0, 0, 0)] (by decide +kernel) rfl trivial ?_
          refine GE_callVV (As := [.inl (-1), .inl 0]) (k := 2) (i := z1) (S := []) (t_X2_becomes l X z1 (-1) 0 bz1 w) (by decide) ⟨me_X2_becomes, mi_X2_becomes, mv_X2_becomes, lk_X4_226⟩ rfl (by decide +kernel) rfl (by decide) (by decide) (Nat.le_of_ble_eq_true rfl) (fun r5 _ => ?_)
          refine GE_run flG_T (pc1 := 38) (L1 := [some (.inr (.inr (some (4, 0)))), some (.inl a1), some (.inl a2), some (.inl a3), some (.inr (.inr (some (2, z1))))]) (S1 := [.inl 1]) (w1 := r5) (P := True) [(.iconst 1, 0, 0, 1, 0)] (by decide +kernel) rfl trivial ?_
          exact GE_iret rfl (by decide +kernel)
      · refine GE_run flG_T (pc1 := 24) (L1 := [some (.inr (.inr (some (4, 0)))), some (.inl a1), some (.inl a2), some (.inl a3), some (.inr (.inr (some (2, z1))))]) (S1 := [.inl (-2)]) (w1 := w) (P := True) [(.bipush (-2), 0, 0, -2, 0)] (by decide +kernel) rfl trivial ?_
        exact GE_iret rfl (by decide +kernel)
abbrev mm_X4_cell : MI := (RX4, cX4_cell, 5, (some .int), ftp_X4.map (fun q => q.1), ctp_X4.map (fun q => q.1), clp_X4.map (fun q => q.1))
noncomputable def f_X4_cell (a1 : Int32) (a2 : Int32) (a3 : Int32) (w : Mem) : Option (Int32 × Mem) := Option.elim (rowF a1) (some ((-2), w)) (fun z1 => if (w 2 z1 0) = (-1) then (some ((-11), w)) else (if a2 < 0 then (some ((-12), w)) else (if a2 < (w 2 z1 1) then (Option.bind (f_X2_write z1 a2 a3 w) (fun r5 => some (1, r5))) else (some ((-12), w)))))
set_option maxRecDepth 100000 in
theorem t_X4_cell (l : Launch) (X : XC)  (a1 : Int32) (a2 : Int32) (a3 : Int32) (w : Mem) : Ct l X 2 yX4_cell cX4_cell 5 (some .int) emI [.inr (.inr (some (4, 0))), .inl a1, .inl a2, .inl a3] 57 flT w (f_X4_cell a1 a2 a3 w) := by
  refine Ct_of (mi := mm_X4_cell) (mik_X4 _ _ _) me_X4_cell rfl (okAs_cons (by decide) (okAs_cons rfl (okAs_cons rfl (okAs_cons rfl okAs_nil)))) (Nat.le_of_ble_eq_true rfl) ?_
  unfold f_X4_cell
  refine GE_run flG_T (pc1 := 2) (L1 := [some (.inr (.inr (some (4, 0)))), some (.inl a1), some (.inl a2), some (.inl a3), none]) (S1 := [.inl a1, .inr (.inr (some (4, 0)))]) (w1 := w) (P := True) [(.aload_n 0, 0, 0, 0, 0), (.iload_n 1, 0, 0, 0, 0)] (by decide +kernel) rfl trivial ?_
  refine GE_callVAp (As := [.inl a1]) (k := 4) (i := 0) (S := []) (p_X4_rowAt l X a1 w) (by decide) ⟨me_X4_rowAt, mi_X4_rowAt, mv_X4_rowAt, lk_X4_175⟩ rfl (by decide +kernel) rfl (by decide) (by decide) (Nat.le_of_ble_eq_true rfl) ?_
  refine GE_run flG_T (pc1 := 9) (L1 := [some (.inr (.inr (some (4, 0)))), some (.inl a1), some (.inl a2), some (.inl a3), some (.inr (.inr ((rowF a1).map fun z => (2, z))))]) (S1 := [.inr (.inr ((rowF a1).map fun z => (2, z)))]) (w1 := w) (P := True) [(.astore 4, 0, 0, 0, 0), (.aload 4, 0, 0, 0, 0)] (by decide +kernel) rfl trivial ?_
  cases hz1 : rowF a1 with
  | none =>
    simp only [Option.elim_none, Option.map_none]
    refine GE_nonnull0 (off := 6) (by decide +kernel) ?_
    refine GE_run flG_T (pc1 := 14) (L1 := [some (.inr (.inr (some (4, 0)))), some (.inl a1), some (.inl a2), some (.inl a3), some (.inr (.inr none))]) (S1 := [.inl (-2)]) (w1 := w) (P := True) [(.bipush (-2), 0, 0, -2, 0)] (by decide +kernel) rfl trivial ?_
    exact GE_iret rfl (by decide +kernel)
  | some z1 =>
    have bz1 := rowF_lt hz1
    refine GE_eq (Option.elim_some _ _ _) ?_
    refine GE_nonnull1 (off := 6) (tgt := 15) (by decide +kernel) (by decide) ?_
    refine GE_run flG_T (pc1 := 21) (L1 := [some (.inr (.inr (some (4, 0)))), some (.inl a1), some (.inl a2), some (.inl a3), some (.inr (.inr (some (2, z1))))]) (S1 := [.inl (-1), .inl (w 2 z1 0)]) (w1 := w) (P := True) [(.aload 4, 0, 0, 0, 0), (.getfield 179, 2, 0, 0, 0), (.iconst (-1), 0, 0, -1, 0)] (by decide +kernel) rfl trivial ?_
    refine GE_icmpN (k := .ne) (off := 6) (tgt := 27) (by decide +kernel) (by decide) (cnd_ne _ _) (fun c2 => ?_) (fun c2 => ?_)
    · refine GE_run flG_T (pc1 := 28) (L1 := [some (.inr (.inr (some (4, 0)))), some (.inl a1), some (.inl a2), some (.inl a3), some (.inr (.inr (some (2, z1))))]) (S1 := [.inl a2]) (w1 := w) (P := True) [(.iload_n 2, 0, 0, 0, 0)] (by decide +kernel) rfl trivial ?_
      refine GE_if (k := .lt) (off := 12) (tgt := 40) (by decide +kernel) (by decide) (cnd_lt _ _) (fun c3 => ?_) (fun c3 => ?_)
      · refine GE_run flG_T (pc1 := 42) (L1 := [some (.inr (.inr (some (4, 0)))), some (.inl a1), some (.inl a2), some (.inl a3), some (.inr (.inr (some (2, z1))))]) (S1 := [.inl (-12)]) (w1 := w) (P := True) [(.bipush (-12), 0, 0, -12, 0)] (by decide +kernel) rfl trivial ?_
        exact GE_iret rfl (by decide +kernel)
      · refine GE_run flG_T (pc1 := 37) (L1 := [some (.inr (.inr (some (4, 0)))), some (.inl a1), some (.inl a2), some (.inl a3), some (.inr (.inr (some (2, z1))))]) (S1 := [.inl (w 2 z1 1), .inl a2]) (w1 := w) (P := True) [(.iload_n 2, 0, 0, 0, 0), (.aload 4, 0, 0, 0, 0), (.getfield 189, 2, 1, 0, 0)] (by decide +kernel) rfl trivial ?_
        refine GE_icmp (k := .lt) (off := 6) (tgt := 43) (by decide +kernel) (by decide) (cnd_lt _ _) (fun c4 => ?_) (fun c4 => ?_)
        · refine GE_run flG_T (pc1 := 47) (L1 := [some (.inr (.inr (some (4, 0)))), some (.inl a1), some (.inl a2), some (.inl a3), some (.inr (.inr (some (2, z1))))]) (S1 := [.inl a3, .inl a2, .inr (.inr (some (2, z1)))]) (w1 := w) (P := True) [(.aload 4, 0, 0, 0, 0), (.iload_n 2, 0, 0, 0, 0), (.iload_n 3, 0, 0, 0, 0)] (by decide +kernel) rfl trivial ?_
          refine GE_callVV (As := [.inl a2, .inl a3]) (k := 2) (i := z1) (S := []) (t_X2_write l X z1 a2 a3 bz1 w) (by decide) ⟨me_X2_write, mi_X2_write, mv_X2_write, lk_X4_229⟩ rfl (by decide +kernel) rfl (by decide) (by decide) (Nat.le_of_ble_eq_true rfl) (fun r5 _ => ?_)
          refine GE_run flG_T (pc1 := 51) (L1 := [some (.inr (.inr (some (4, 0)))), some (.inl a1), some (.inl a2), some (.inl a3), some (.inr (.inr (some (2, z1))))]) (S1 := [.inl 1]) (w1 := r5) (P := True) [(.iconst 1, 0, 0, 1, 0)] (by decide +kernel) rfl trivial ?_
          exact GE_iret rfl (by decide +kernel)
        · refine GE_run flG_T (pc1 := 42) (L1 := [some (.inr (.inr (some (4, 0)))), some (.inl a1), some (.inl a2), some (.inl a3), some (.inr (.inr (some (2, z1))))]) (S1 := [.inl (-12)]) (w1 := w) (P := True) [(.bipush (-12), 0, 0, -12, 0)] (by decide +kernel) rfl trivial ?_
          exact GE_iret rfl (by decide +kernel)
    · refine GE_run flG_T (pc1 := 26) (L1 := [some (.inr (.inr (some (4, 0)))), some (.inl a1), some (.inl a2), some (.inl a3), some (.inr (.inr (some (2, z1))))]) (S1 := [.inl (-11)]) (w1 := w) (P := True) [(.bipush (-11), 0, 0, -11, 0)] (by decide +kernel) rfl trivial ?_
      exact GE_iret rfl (by decide +kernel)
abbrev mm_X4_copy : MI := (RX4, cX4_copy, 10, (some .int), ftp_X4.map (fun q => q.1), ctp_X4.map (fun q => q.1), clp_X4.map (fun q => q.1))
noncomputable def j_X4_copy_134 (z1 : Nat) (z2 : Nat) (kl109 : Int32 → Mem → Option (Int32 × Mem)) (x2 : Int32) (x4 : Int32) (x5 : Int32) (x8 : Int32) (s0 : Int32) (w : Mem) : Option (Int32 × Mem) := kl109 (x8 + 1) (setV w 19 z2 (x4 + s0) (atV w 19 z1 (x2 + s0)))
set_option maxRecDepth 100000 in
theorem j_X4_copy_134_ok (l : Launch) (X : XC) (z1 : Nat) (z2 : Nat) (kl109 : Int32 → Mem → Option (Int32 × Mem)) (x2 : Int32) (x4 : Int32) (x5 : Int32) (x8 : Int32) (s0 : Int32) (bz1 : z1 < 4) (bz2 : z2 < 4) (ih : ∀ (x8 : Int32) (w : Mem), GE l X mm_X4_copy 1 emI 57 flT (kl109 x8 w) 109 [none, none, some (.inl x2), none, some (.inl x4), some (.inl x5), some (.inr (.inr (some (2, z1)))), some (.inr (.inr (some (2, z2)))), some (.inl x8), none] [] w) (w : Mem) : GE l X mm_X4_copy 1 emI 57 flT (j_X4_copy_134 z1 z2 kl109 x2 x4 x5 x8 s0 w) 134 [none, none, some (.inl x2), none, some (.inl x4), some (.inl x5), some (.inr (.inr (some (2, z1)))), some (.inr (.inr (some (2, z2)))), some (.inl x8), none] [.inl s0] w := by
  unfold j_X4_copy_134
  refine GE_run flG_T (pc1 := 155) (L1 := [none, none, some (.inl x2), none, some (.inl x4), some (.inl x5), some (.inr (.inr (some (2, z1)))), some (.inr (.inr (some (2, z2)))), some (.inl x8), some (.inl s0)]) (S1 := [.inl (x2 + s0), .inr (.inr (some (19, z1))), .inl (x4 + s0), .inr (.inr (some (19, z2)))]) (w1 := w) (P := True) [(.istore 9, 0, 0, 0, 0), (.aload 7, 0, 0, 0, 0), (.getfield 190, 2, 2, 0, 0), (.iload 4, 0, 0, 0, 0), (.iload 9, 0, 0, 0, 0), (.iadd, 0, 0, 0, 0), (.aload 6, 0, 0, 0, 0), (.getfield 190, 2, 2, 0, 0), (.iload_n 2, 0, 0, 0, 0), (.iload 9, 0, 0, 0, 0), (.iadd, 0, 0, 0, 0)] (by decide +kernel) rfl trivial ?_
  refine GE_callSIp (As := [.inr (.inr (some (19, z1))), .inl (x2 + s0)]) (S := [.inl (x4 + s0), .inr (.inr (some (19, z2)))]) (p_X4_at l X 19 z1 (x2 + s0) (by decide) (ok_sheet_19 bz1) w) ⟨me_X4_at, ms_X4_at, lk_X4_120⟩ (by decide +kernel) rfl (by decide) (by decide) (Nat.le_of_ble_eq_true rfl) ?_
  refine GE_callSVp (As := [.inr (.inr (some (19, z2))), .inl (x4 + s0), .inl (atV w 19 z1 (x2 + s0))]) (S := []) (p_X4_set l X 19 z2 (x4 + s0) (atV w 19 z1 (x2 + s0)) (by decide) (ok_sheet_19 bz2) w) ⟨me_X4_set, ms_X4_set, lk_X4_204⟩ (by decide +kernel) rfl (by decide) (by decide) (Nat.le_of_ble_eq_true rfl) ?_
  refine GE_run flG_T (pc1 := 109) (L1 := [none, none, some (.inl x2), none, some (.inl x4), some (.inl x5), some (.inr (.inr (some (2, z1)))), some (.inr (.inr (some (2, z2)))), some (.inl (x8 + 1)), some (.inl s0)]) (S1 := []) (w1 := setV w 19 z2 (x4 + s0) (atV w 19 z1 (x2 + s0))) (P := True) [(.iinc 8 1, 0, 0, 1, 0), (.goto (-55), 0, 0, 0, 0)] (by decide +kernel) rfl trivial ?_
  exact GE_weak [false, false, true, false, true, true, true, true, true, false] (ih (x8 + 1) (setV w 19 z2 (x4 + s0) (atV w 19 z1 (x2 + s0))))
noncomputable def h_X4_copy_109 (z1 : Nat) (z2 : Nat) (x2 : Int32) (x4 : Int32) (x5 : Int32) (k167 : Mem → Option (Int32 × Mem)) : Nat → Int32 → Mem → Option (Int32 × Mem)
  | 0, _, _ => none
  | n + 1, x8, w => if x8 < x5 then (if x2 < x4 then (j_X4_copy_134 z1 z2 (h_X4_copy_109 z1 z2 x2 x4 x5 k167 n) x2 x4 x5 x8 ((x5 - 1) - x8) w) else (j_X4_copy_134 z1 z2 (h_X4_copy_109 z1 z2 x2 x4 x5 k167 n) x2 x4 x5 x8 x8 w)) else (k167 w)
set_option maxRecDepth 100000 in
theorem h_X4_copy_109_ok (l : Launch) (X : XC) (z1 : Nat) (z2 : Nat) (x2 : Int32) (x4 : Int32) (x5 : Int32) (k167 : Mem → Option (Int32 × Mem)) (bz1 : z1 < 4) (bz2 : z2 < 4) (hk167 : ∀  (w : Mem), GE l X mm_X4_copy 1 emI 57 flT (k167 w) 167 [none, none, none, none, none, some (.inl x5), none, none, none, none] [] w) : ∀ (n : Nat) (x8 : Int32) (w : Mem), GE l X mm_X4_copy 1 emI 57 flT ((h_X4_copy_109 z1 z2 x2 x4 x5 k167 n) x8 w) 109 [none, none, some (.inl x2), none, some (.inl x4), some (.inl x5), some (.inr (.inr (some (2, z1)))), some (.inr (.inr (some (2, z2)))), some (.inl x8), none] [] w := by
  intro n
  induction n with
  | zero => intro x8 w; exact GE_none
  | succ n ih =>
    intro x8 w
    unfold h_X4_copy_109
    refine GE_run flG_T (pc1 := 113) (L1 := [none, none, some (.inl x2), none, some (.inl x4), some (.inl x5), some (.inr (.inr (some (2, z1)))), some (.inr (.inr (some (2, z2)))), some (.inl x8), none]) (S1 := [.inl x5, .inl x8]) (w1 := w) (P := True) [(.iload 8, 0, 0, 0, 0), (.iload 5, 0, 0, 0, 0)] (by decide +kernel) rfl trivial ?_
    refine GE_icmpN (k := .ge) (off := 54) (tgt := 167) (by decide +kernel) (by decide) (cnd_ge _ _) (fun c11 => ?_) (fun c11 => ?_)
    · exact GE_weak [false, false, false, false, false, true, false, false, false, false] (hk167 w)
    · refine GE_run flG_T (pc1 := 119) (L1 := [none, none, some (.inl x2), none, some (.inl x4), some (.inl x5), some (.inr (.inr (some (2, z1)))), some (.inr (.inr (some (2, z2)))), some (.inl x8), none]) (S1 := [.inl x4, .inl x2]) (w1 := w) (P := True) [(.iload_n 2, 0, 0, 0, 0), (.iload 4, 0, 0, 0, 0)] (by decide +kernel) rfl trivial ?_
      refine GE_icmpN (k := .ge) (off := 13) (tgt := 132) (by decide +kernel) (by decide) (cnd_ge _ _) (fun c12 => ?_) (fun c12 => ?_)
      · refine GE_run flG_T (pc1 := 134) (L1 := [none, none, some (.inl x2), none, some (.inl x4), some (.inl x5), some (.inr (.inr (some (2, z1)))), some (.inr (.inr (some (2, z2)))), some (.inl x8), none]) (S1 := [.inl x8]) (w1 := w) (P := True) [(.iload 8, 0, 0, 0, 0)] (by decide +kernel) rfl trivial ?_
        exact GE_weak [false, false, true, false, true, true, true, true, true, false] (j_X4_copy_134_ok l X z1 z2 (h_X4_copy_109 z1 z2 x2 x4 x5 k167 n) x2 x4 x5 x8 x8 bz1 bz2 ih w)
      · refine GE_run flG_T (pc1 := 134) (L1 := [none, none, some (.inl x2), none, some (.inl x4), some (.inl x5), some (.inr (.inr (some (2, z1)))), some (.inr (.inr (some (2, z2)))), some (.inl x8), none]) (S1 := [.inl ((x5 - 1) - x8)]) (w1 := w) (P := True) [(.iload 5, 0, 0, 0, 0), (.iconst 1, 0, 0, 1, 0), (.isub, 0, 0, 0, 0), (.iload 8, 0, 0, 0, 0), (.isub, 0, 0, 0, 0), (.goto 5, 0, 0, 0, 0)] (by decide +kernel) rfl trivial ?_
        exact GE_weak [false, false, true, false, true, true, true, true, true, false] (j_X4_copy_134_ok l X z1 z2 (h_X4_copy_109 z1 z2 x2 x4 x5 k167 n) x2 x4 x5 x8 ((x5 - 1) - x8) bz1 bz2 ih w)
noncomputable def f_X4_copy (a1 : Int32) (a2 : Int32) (a3 : Int32) (a4 : Int32) (a5 : Int32) (w : Mem) : Option (Int32 × Mem) := Option.elim (rowF a1) (some ((-2), w)) (fun z1 => Option.elim (rowF a3) (some ((-2), w)) (fun z2 => if (w 2 z1 0) = (-1) then (some ((-11), w)) else (if (w 2 z2 0) = (-1) then (some ((-11), w)) else (if (w 2 z1 0) = (w 2 z2 0) then (if a2 < 0 then (some ((-12), w)) else (if a4 < 0 then (some ((-12), w)) else (if a5 < 0 then (some ((-12), w)) else (if a5 ≤ ((w 2 z1 1) - a2) then (if a5 ≤ ((w 2 z2 1) - a4) then (h_X4_copy_109 z1 z2 a2 a4 a5 (fun w13 => some (a5, w13)) FU 0 w) else (some ((-12), w))) else (some ((-12), w)))))) else (some ((-13), w))))))
set_option maxRecDepth 100000 in
theorem t_X4_copy (l : Launch) (X : XC)  (a1 : Int32) (a2 : Int32) (a3 : Int32) (a4 : Int32) (a5 : Int32) (w : Mem) : Ct l X 1 yX4_copy cX4_copy 10 (some .int) emI [.inr (.inr (some (4, 0))), .inl a1, .inl a2, .inl a3, .inl a4, .inl a5] 57 flT w (f_X4_copy a1 a2 a3 a4 a5 w) := by
  refine Ct_of (mi := mm_X4_copy) (mik_X4 _ _ _) me_X4_copy rfl (okAs_cons (by decide) (okAs_cons rfl (okAs_cons rfl (okAs_cons rfl (okAs_cons rfl (okAs_cons rfl okAs_nil)))))) (Nat.le_of_ble_eq_true rfl) ?_
  unfold f_X4_copy
  refine GE_run flG_T (pc1 := 2) (L1 := [some (.inr (.inr (some (4, 0)))), some (.inl a1), some (.inl a2), some (.inl a3), some (.inl a4), some (.inl a5), none, none, none, none]) (S1 := [.inl a1, .inr (.inr (some (4, 0)))]) (w1 := w) (P := True) [(.aload_n 0, 0, 0, 0, 0), (.iload_n 1, 0, 0, 0, 0)] (by decide +kernel) rfl trivial ?_
  refine GE_callVAp (As := [.inl a1]) (k := 4) (i := 0) (S := []) (p_X4_rowAt l X a1 w) (by decide) ⟨me_X4_rowAt, mi_X4_rowAt, mv_X4_rowAt, lk_X4_175⟩ rfl (by decide +kernel) rfl (by decide) (by decide) (Nat.le_of_ble_eq_true rfl) ?_
  refine GE_run flG_T (pc1 := 9) (L1 := [some (.inr (.inr (some (4, 0)))), some (.inl a1), some (.inl a2), some (.inl a3), some (.inl a4), some (.inl a5), some (.inr (.inr ((rowF a1).map fun z => (2, z)))), none, none, none]) (S1 := [.inl a3, .inr (.inr (some (4, 0)))]) (w1 := w) (P := True) [(.astore 6, 0, 0, 0, 0), (.aload_n 0, 0, 0, 0, 0), (.iload_n 3, 0, 0, 0, 0)] (by decide +kernel) rfl trivial ?_
  refine GE_callVAp (As := [.inl a3]) (k := 4) (i := 0) (S := []) (p_X4_rowAt l X a3 w) (by decide) ⟨me_X4_rowAt, mi_X4_rowAt, mv_X4_rowAt, lk_X4_175⟩ rfl (by decide +kernel) rfl (by decide) (by decide) (Nat.le_of_ble_eq_true rfl) ?_
  refine GE_run flG_T (pc1 := 16) (L1 := [some (.inr (.inr (some (4, 0)))), some (.inl a1), some (.inl a2), some (.inl a3), some (.inl a4), some (.inl a5), some (.inr (.inr ((rowF a1).map fun z => (2, z)))), some (.inr (.inr ((rowF a3).map fun z => (2, z)))), none, none]) (S1 := [.inr (.inr ((rowF a1).map fun z => (2, z)))]) (w1 := w) (P := True) [(.astore 7, 0, 0, 0, 0), (.aload 6, 0, 0, 0, 0)] (by decide +kernel) rfl trivial ?_
  cases hz1 : rowF a1 with
  | none =>
    simp only [Option.elim_none, Option.map_none]
    refine GE_null0 (off := 8) (tgt := 24) (by decide +kernel) (by decide) ?_
    refine GE_run flG_T (pc1 := 26) (L1 := [some (.inr (.inr (some (4, 0)))), some (.inl a1), some (.inl a2), some (.inl a3), some (.inl a4), some (.inl a5), some (.inr (.inr none)), some (.inr (.inr ((rowF a3).map fun z => (2, z)))), none, none]) (S1 := [.inl (-2)]) (w1 := w) (P := True) [(.bipush (-2), 0, 0, -2, 0)] (by decide +kernel) rfl trivial ?_
    exact GE_iret rfl (by decide +kernel)
  | some z1 =>
    have bz1 := rowF_lt hz1
    refine GE_eq (Option.elim_some _ _ _) ?_
    refine GE_null1 (off := 8) (by decide +kernel) ?_
    refine GE_run flG_T (pc1 := 21) (L1 := [some (.inr (.inr (some (4, 0)))), some (.inl a1), some (.inl a2), some (.inl a3), some (.inl a4), some (.inl a5), some (.inr (.inr (some (2, z1)))), some (.inr (.inr ((rowF a3).map fun z => (2, z)))), none, none]) (S1 := [.inr (.inr ((rowF a3).map fun z => (2, z)))]) (w1 := w) (P := True) [(.aload 7, 0, 0, 0, 0)] (by decide +kernel) rfl trivial ?_
    cases hz2 : rowF a3 with
    | none =>
      simp only [Option.elim_none, Option.map_none]
      refine GE_nonnull0 (off := 6) (by decide +kernel) ?_
      refine GE_run flG_T (pc1 := 26) (L1 := [some (.inr (.inr (some (4, 0)))), some (.inl a1), some (.inl a2), some (.inl a3), some (.inl a4), some (.inl a5), some (.inr (.inr (some (2, z1)))), some (.inr (.inr none)), none, none]) (S1 := [.inl (-2)]) (w1 := w) (P := True) [(.bipush (-2), 0, 0, -2, 0)] (by decide +kernel) rfl trivial ?_
      exact GE_iret rfl (by decide +kernel)
    | some z2 =>
      have bz2 := rowF_lt hz2
      refine GE_eq (Option.elim_some _ _ _) ?_
      refine GE_nonnull1 (off := 6) (tgt := 27) (by decide +kernel) (by decide) ?_
      refine GE_run flG_T (pc1 := 33) (L1 := [some (.inr (.inr (some (4, 0)))), some (.inl a1), some (.inl a2), some (.inl a3), some (.inl a4), some (.inl a5), some (.inr (.inr (some (2, z1)))), some (.inr (.inr (some (2, z2)))), none, none]) (S1 := [.inl (-1), .inl (w 2 z1 0)]) (w1 := w) (P := True) [(.aload 6, 0, 0, 0, 0), (.getfield 179, 2, 0, 0, 0), (.iconst (-1), 0, 0, -1, 0)] (by decide +kernel) rfl trivial ?_
      refine GE_icmp (k := .eq) (off := 12) (tgt := 45) (by decide +kernel) (by decide) (cnd_eq _ _) (fun c3 => ?_) (fun c3 => ?_)
      · refine GE_run flG_T (pc1 := 47) (L1 := [some (.inr (.inr (some (4, 0)))), some (.inl a1), some (.inl a2), some (.inl a3), some (.inl a4), some (.inl a5), some (.inr (.inr (some (2, z1)))), some (.inr (.inr (some (2, z2)))), none, none]) (S1 := [.inl (-11)]) (w1 := w) (P := True) [(.bipush (-11), 0, 0, -11, 0)] (by decide +kernel) rfl trivial ?_
        exact GE_iret rfl (by decide +kernel)
      · refine GE_run flG_T (pc1 := 42) (L1 := [some (.inr (.inr (some (4, 0)))), some (.inl a1), some (.inl a2), some (.inl a3), some (.inl a4), some (.inl a5), some (.inr (.inr (some (2, z1)))), some (.inr (.inr (some (2, z2)))), none, none]) (S1 := [.inl (-1), .inl (w 2 z2 0)]) (w1 := w) (P := True) [(.aload 7, 0, 0, 0, 0), (.getfield 179, 2, 0, 0, 0), (.iconst (-1), 0, 0, -1, 0)] (by decide +kernel) rfl trivial ?_
        refine GE_icmpN (k := .ne) (off := 6) (tgt := 48) (by decide +kernel) (by decide) (cnd_ne _ _) (fun c4 => ?_) (fun c4 => ?_)
        · refine GE_run flG_T (pc1 := 58) (L1 := [some (.inr (.inr (some (4, 0)))), some (.inl a1), some (.inl a2), some (.inl a3), some (.inl a4), some (.inl a5), some (.inr (.inr (some (2, z1)))), some (.inr (.inr (some (2, z2)))), none, none]) (S1 := [.inl (w 2 z2 0), .inl (w 2 z1 0)]) (w1 := w) (P := True) [(.aload 6, 0, 0, 0, 0), (.getfield 179, 2, 0, 0, 0), (.aload 7, 0, 0, 0, 0), (.getfield 179, 2, 0, 0, 0)] (by decide +kernel) rfl trivial ?_
          refine GE_icmp (k := .eq) (off := 6) (tgt := 64) (by decide +kernel) (by decide) (cnd_eq _ _) (fun c5 => ?_) (fun c5 => ?_)
          · refine GE_run flG_T (pc1 := 65) (L1 := [some (.inr (.inr (some (4, 0)))), some (.inl a1), some (.inl a2), some (.inl a3), some (.inl a4), some (.inl a5), some (.inr (.inr (some (2, z1)))), some (.inr (.inr (some (2, z2)))), none, none]) (S1 := [.inl a2]) (w1 := w) (P := True) [(.iload_n 2, 0, 0, 0, 0)] (by decide +kernel) rfl trivial ?_
            refine GE_if (k := .lt) (off := 38) (tgt := 103) (by decide +kernel) (by decide) (cnd_lt _ _) (fun c6 => ?_) (fun c6 => ?_)
            · refine GE_run flG_T (pc1 := 105) (L1 := [some (.inr (.inr (some (4, 0)))), some (.inl a1), some (.inl a2), some (.inl a3), some (.inl a4), some (.inl a5), some (.inr (.inr (some (2, z1)))), some (.inr (.inr (some (2, z2)))), none, none]) (S1 := [.inl (-12)]) (w1 := w) (P := True) [(.bipush (-12), 0, 0, -12, 0)] (by decide +kernel) rfl trivial ?_
              exact GE_iret rfl (by decide +kernel)
            · refine GE_run flG_T (pc1 := 70) (L1 := [some (.inr (.inr (some (4, 0)))), some (.inl a1), some (.inl a2), some (.inl a3), some (.inl a4), some (.inl a5), some (.inr (.inr (some (2, z1)))), some (.inr (.inr (some (2, z2)))), none, none]) (S1 := [.inl a4]) (w1 := w) (P := True) [(.iload 4, 0, 0, 0, 0)] (by decide +kernel) rfl trivial ?_
              refine GE_if (k := .lt) (off := 33) (tgt := 103) (by decide +kernel) (by decide) (cnd_lt _ _) (fun c7 => ?_) (fun c7 => ?_)
              · refine GE_run flG_T (pc1 := 105) (L1 := [some (.inr (.inr (some (4, 0)))), some (.inl a1), some (.inl a2), some (.inl a3), some (.inl a4), some (.inl a5), some (.inr (.inr (some (2, z1)))), some (.inr (.inr (some (2, z2)))), none, none]) (S1 := [.inl (-12)]) (w1 := w) (P := True) [(.bipush (-12), 0, 0, -12, 0)] (by decide +kernel) rfl trivial ?_
                exact GE_iret rfl (by decide +kernel)
              · refine GE_run flG_T (pc1 := 75) (L1 := [some (.inr (.inr (some (4, 0)))), some (.inl a1), some (.inl a2), some (.inl a3), some (.inl a4), some (.inl a5), some (.inr (.inr (some (2, z1)))), some (.inr (.inr (some (2, z2)))), none, none]) (S1 := [.inl a5]) (w1 := w) (P := True) [(.iload 5, 0, 0, 0, 0)] (by decide +kernel) rfl trivial ?_
                refine GE_if (k := .lt) (off := 28) (tgt := 103) (by decide +kernel) (by decide) (cnd_lt _ _) (fun c8 => ?_) (fun c8 => ?_)
                · refine GE_run flG_T (pc1 := 105) (L1 := [some (.inr (.inr (some (4, 0)))), some (.inl a1), some (.inl a2), some (.inl a3), some (.inl a4), some (.inl a5), some (.inr (.inr (some (2, z1)))), some (.inr (.inr (some (2, z2)))), none, none]) (S1 := [.inl (-12)]) (w1 := w) (P := True) [(.bipush (-12), 0, 0, -12, 0)] (by decide +kernel) rfl trivial ?_
                  exact GE_iret rfl (by decide +kernel)
                · refine GE_run flG_T (pc1 := 87) (L1 := [some (.inr (.inr (some (4, 0)))), some (.inl a1), some (.inl a2), some (.inl a3), some (.inl a4), some (.inl a5), some (.inr (.inr (some (2, z1)))), some (.inr (.inr (some (2, z2)))), none, none]) (S1 := [.inl ((w 2 z1 1) - a2), .inl a5]) (w1 := w) (P := True) [(.iload 5, 0, 0, 0, 0), (.aload 6, 0, 0, 0, 0), (.getfield 189, 2, 1, 0, 0), (.iload_n 2, 0, 0, 0, 0), (.isub, 0, 0, 0, 0)] (by decide +kernel) rfl trivial ?_
                  refine GE_icmpN (k := .gt) (off := 16) (tgt := 103) (by decide +kernel) (by decide) (cnd_gt _ _) (fun c9 => ?_) (fun c9 => ?_)
                  · refine GE_run flG_T (pc1 := 105) (L1 := [some (.inr (.inr (some (4, 0)))), some (.inl a1), some (.inl a2), some (.inl a3), some (.inl a4), some (.inl a5), some (.inr (.inr (some (2, z1)))), some (.inr (.inr (some (2, z2)))), none, none]) (S1 := [.inl (-12)]) (w1 := w) (P := True) [(.bipush (-12), 0, 0, -12, 0)] (by decide +kernel) rfl trivial ?_
                    exact GE_iret rfl (by decide +kernel)
                  · refine GE_run flG_T (pc1 := 100) (L1 := [some (.inr (.inr (some (4, 0)))), some (.inl a1), some (.inl a2), some (.inl a3), some (.inl a4), some (.inl a5), some (.inr (.inr (some (2, z1)))), some (.inr (.inr (some (2, z2)))), none, none]) (S1 := [.inl ((w 2 z2 1) - a4), .inl a5]) (w1 := w) (P := True) [(.iload 5, 0, 0, 0, 0), (.aload 7, 0, 0, 0, 0), (.getfield 189, 2, 1, 0, 0), (.iload 4, 0, 0, 0, 0), (.isub, 0, 0, 0, 0)] (by decide +kernel) rfl trivial ?_
                    refine GE_icmp (k := .le) (off := 6) (tgt := 106) (by decide +kernel) (by decide) (cnd_le _ _) (fun c10 => ?_) (fun c10 => ?_)
                    · refine GE_run flG_T (pc1 := 109) (L1 := [some (.inr (.inr (some (4, 0)))), some (.inl a1), some (.inl a2), some (.inl a3), some (.inl a4), some (.inl a5), some (.inr (.inr (some (2, z1)))), some (.inr (.inr (some (2, z2)))), some (.inl 0), none]) (S1 := []) (w1 := w) (P := True) [(.iconst 0, 0, 0, 0, 0), (.istore 8, 0, 0, 0, 0)] (by decide +kernel) rfl trivial ?_
                      refine GE_weak [false, false, true, false, true, true, true, true, true, false] (h_X4_copy_109_ok l X z1 z2 a2 a4 a5 _ bz1 bz2 ?_ FU 0 w)
                      · intro w13
                        refine GE_run flG_T (pc1 := 169) (L1 := [none, none, none, none, none, some (.inl a5), none, none, none, none]) (S1 := [.inl a5]) (w1 := w13) (P := True) [(.iload 5, 0, 0, 0, 0)] (by decide +kernel) rfl trivial ?_
                        exact GE_iret rfl (by decide +kernel)
                    · refine GE_run flG_T (pc1 := 105) (L1 := [some (.inr (.inr (some (4, 0)))), some (.inl a1), some (.inl a2), some (.inl a3), some (.inl a4), some (.inl a5), some (.inr (.inr (some (2, z1)))), some (.inr (.inr (some (2, z2)))), none, none]) (S1 := [.inl (-12)]) (w1 := w) (P := True) [(.bipush (-12), 0, 0, -12, 0)] (by decide +kernel) rfl trivial ?_
                      exact GE_iret rfl (by decide +kernel)
          · refine GE_run flG_T (pc1 := 63) (L1 := [some (.inr (.inr (some (4, 0)))), some (.inl a1), some (.inl a2), some (.inl a3), some (.inl a4), some (.inl a5), some (.inr (.inr (some (2, z1)))), some (.inr (.inr (some (2, z2)))), none, none]) (S1 := [.inl (-13)]) (w1 := w) (P := True) [(.bipush (-13), 0, 0, -13, 0)] (by decide +kernel) rfl trivial ?_
            exact GE_iret rfl (by decide +kernel)
        · refine GE_run flG_T (pc1 := 47) (L1 := [some (.inr (.inr (some (4, 0)))), some (.inl a1), some (.inl a2), some (.inl a3), some (.inl a4), some (.inl a5), some (.inr (.inr (some (2, z1)))), some (.inr (.inr (some (2, z2)))), none, none]) (S1 := [.inl (-11)]) (w1 := w) (P := True) [(.bipush (-11), 0, 0, -11, 0)] (by decide +kernel) rfl trivial ?_
          exact GE_iret rfl (by decide +kernel)
abbrev mm_X4_fishersBy : MI := (RX4, cX4_fishersBy, 9, (some .int), ftp_X4.map (fun q => q.1), ctp_X4.map (fun q => q.1), clp_X4.map (fun q => q.1))
noncomputable def h_X4_fishersBy_69 (z1 : Nat) (x4 : Int32) (k137 : Int32 → Mem → Option (Int32 × Mem)) : Nat → Int32 → Int32 → Int32 → Mem → Option (Int32 × Mem)
  | 0, _, _, _, _ => none
  | n + 1, x6, x7, x8, w => if x8 < x4 then (if x7 < 0 then (some ((-12), w)) else (if x7 < ((w 2 z1 1) - 1) then (Option.bind (f_X4_fisher (atV w 19 z1 x7) (atV w 19 z1 (x7 + 1)) w) (fun r11 => if r11.1 < 0 then ((h_X4_fishersBy_69 z1 x4 k137 n) x6 (x7 + 2) (x8 + 1) r11.2) else ((h_X4_fishersBy_69 z1 x4 k137 n) (x6 + 1) (x7 + 2) (x8 + 1) r11.2))) else (some ((-12), w)))) else (k137 x6 w)
set_option maxRecDepth 100000 in
theorem h_X4_fishersBy_69_ok (l : Launch) (X : XC) (z1 : Nat) (x4 : Int32) (k137 : Int32 → Mem → Option (Int32 × Mem)) (bz1 : z1 < 4) (hk137 : ∀ (x6 : Int32) (w : Mem), GE l X mm_X4_fishersBy 3 emI 57 flT (k137 x6 w) 137 [none, none, none, none, none, none, some (.inl x6), none, none] [] w) : ∀ (n : Nat) (x6 : Int32) (x7 : Int32) (x8 : Int32) (w : Mem), GE l X mm_X4_fishersBy 3 emI 57 flT ((h_X4_fishersBy_69 z1 x4 k137 n) x6 x7 x8 w) 69 [some (.inr (.inr (some (4, 0)))), none, none, none, some (.inl x4), some (.inr (.inr (some (2, z1)))), some (.inl x6), some (.inl x7), some (.inl x8)] [] w := by
  intro n
  induction n with
  | zero => intro x6 x7 x8 w; exact GE_none
  | succ n ih =>
    intro x6 x7 x8 w
    unfold h_X4_fishersBy_69
    refine GE_run flG_T (pc1 := 73) (L1 := [some (.inr (.inr (some (4, 0)))), none, none, none, some (.inl x4), some (.inr (.inr (some (2, z1)))), some (.inl x6), some (.inl x7), some (.inl x8)]) (S1 := [.inl x4, .inl x8]) (w1 := w) (P := True) [(.iload 8, 0, 0, 0, 0), (.iload 4, 0, 0, 0, 0)] (by decide +kernel) rfl trivial ?_
    refine GE_icmpN (k := .ge) (off := 64) (tgt := 137) (by decide +kernel) (by decide) (cnd_ge _ _) (fun c8 => ?_) (fun c8 => ?_)
    · exact GE_weak [false, false, false, false, false, false, true, false, false] (hk137 x6 w)
    · refine GE_run flG_T (pc1 := 78) (L1 := [some (.inr (.inr (some (4, 0)))), none, none, none, some (.inl x4), some (.inr (.inr (some (2, z1)))), some (.inl x6), some (.inl x7), some (.inl x8)]) (S1 := [.inl x7]) (w1 := w) (P := True) [(.iload 7, 0, 0, 0, 0)] (by decide +kernel) rfl trivial ?_
      refine GE_if (k := .lt) (off := 15) (tgt := 93) (by decide +kernel) (by decide) (cnd_lt _ _) (fun c9 => ?_) (fun c9 => ?_)
      · refine GE_run flG_T (pc1 := 95) (L1 := [some (.inr (.inr (some (4, 0)))), none, none, none, some (.inl x4), some (.inr (.inr (some (2, z1)))), some (.inl x6), some (.inl x7), some (.inl x8)]) (S1 := [.inl (-12)]) (w1 := w) (P := True) [(.bipush (-12), 0, 0, -12, 0)] (by decide +kernel) rfl trivial ?_
        exact GE_iret rfl (by decide +kernel)
      · refine GE_run flG_T (pc1 := 90) (L1 := [some (.inr (.inr (some (4, 0)))), none, none, none, some (.inl x4), some (.inr (.inr (some (2, z1)))), some (.inl x6), some (.inl x7), some (.inl x8)]) (S1 := [.inl ((w 2 z1 1) - 1), .inl x7]) (w1 := w) (P := True) [(.iload 7, 0, 0, 0, 0), (.aload 5, 0, 0, 0, 0), (.getfield 189, 2, 1, 0, 0), (.iconst 1, 0, 0, 1, 0), (.isub, 0, 0, 0, 0)] (by decide +kernel) rfl trivial ?_
        refine GE_icmp (k := .lt) (off := 6) (tgt := 96) (by decide +kernel) (by decide) (cnd_lt _ _) (fun c10 => ?_) (fun c10 => ?_)
        · refine GE_run flG_T (pc1 := 104) (L1 := [some (.inr (.inr (some (4, 0)))), none, none, none, some (.inl x4), some (.inr (.inr (some (2, z1)))), some (.inl x6), some (.inl x7), some (.inl x8)]) (S1 := [.inl x7, .inr (.inr (some (19, z1))), .inr (.inr (some (4, 0)))]) (w1 := w) (P := True) [(.aload_n 0, 0, 0, 0, 0), (.aload 5, 0, 0, 0, 0), (.getfield 190, 2, 2, 0, 0), (.iload 7, 0, 0, 0, 0)] (by decide +kernel) rfl trivial ?_
          refine GE_callSIp (As := [.inr (.inr (some (19, z1))), .inl x7]) (S := [.inr (.inr (some (4, 0)))]) (p_X4_at l X 19 z1 x7 (by decide) (ok_sheet_19 bz1) w) ⟨me_X4_at, ms_X4_at, lk_X4_120⟩ (by decide +kernel) rfl (by decide) (by decide) (Nat.le_of_ble_eq_true rfl) ?_
          refine GE_run flG_T (pc1 := 116) (L1 := [some (.inr (.inr (some (4, 0)))), none, none, none, some (.inl x4), some (.inr (.inr (some (2, z1)))), some (.inl x6), some (.inl x7), some (.inl x8)]) (S1 := [.inl (x7 + 1), .inr (.inr (some (19, z1))), .inl (atV w 19 z1 x7), .inr (.inr (some (4, 0)))]) (w1 := w) (P := True) [(.aload 5, 0, 0, 0, 0), (.getfield 190, 2, 2, 0, 0), (.iload 7, 0, 0, 0, 0), (.iconst 1, 0, 0, 1, 0), (.iadd, 0, 0, 0, 0)] (by decide +kernel) rfl trivial ?_
          refine GE_callSIp (As := [.inr (.inr (some (19, z1))), .inl (x7 + 1)]) (S := [.inl (atV w 19 z1 x7), .inr (.inr (some (4, 0)))]) (p_X4_at l X 19 z1 (x7 + 1) (by decide) (ok_sheet_19 bz1) w) ⟨me_X4_at, ms_X4_at, lk_X4_120⟩ (by decide +kernel) rfl (by decide) (by decide) (Nat.le_of_ble_eq_true rfl) ?_
          refine GE_callVI (As := [.inl (atV w 19 z1 x7), .inl (atV w 19 z1 (x7 + 1))]) (k := 4) (i := 0) (S := []) (t_X4_fisher l X (atV w 19 z1 x7) (atV w 19 z1 (x7 + 1)) w) (by decide) ⟨me_X4_fisher, mi_X4_fisher, mv_X4_fisher, lk_X4_250⟩ rfl (by decide +kernel) rfl (by decide) (by decide) (Nat.le_of_ble_eq_true rfl) (fun r11 _ => ?_)
          refine GE_if (k := .lt) (off := 6) (tgt := 128) (by decide +kernel) (by decide) (cnd_lt _ _) (fun c12 => ?_) (fun c12 => ?_)
          · refine GE_run flG_T (pc1 := 69) (L1 := [some (.inr (.inr (some (4, 0)))), none, none, none, some (.inl x4), some (.inr (.inr (some (2, z1)))), some (.inl x6), some (.inl (x7 + 2)), some (.inl (x8 + 1))]) (S1 := []) (w1 := r11.2) (P := True) [(.iinc 7 2, 0, 0, 2, 0), (.iinc 8 1, 0, 0, 1, 0), (.goto (-65), 0, 0, 0, 0)] (by decide +kernel) rfl trivial ?_
            exact GE_weak [true, false, false, false, true, true, true, true, true] (ih x6 (x7 + 2) (x8 + 1) r11.2)
          · refine GE_run flG_T (pc1 := 69) (L1 := [some (.inr (.inr (some (4, 0)))), none, none, none, some (.inl x4), some (.inr (.inr (some (2, z1)))), some (.inl (x6 + 1)), some (.inl (x7 + 2)), some (.inl (x8 + 1))]) (S1 := []) (w1 := r11.2) (P := True) [(.iinc 6 1, 0, 0, 1, 0), (.iinc 7 2, 0, 0, 2, 0), (.iinc 8 1, 0, 0, 1, 0), (.goto (-65), 0, 0, 0, 0)] (by decide +kernel) rfl trivial ?_
            exact GE_weak [true, false, false, false, true, true, true, true, true] (ih (x6 + 1) (x7 + 2) (x8 + 1) r11.2)
        · refine GE_run flG_T (pc1 := 95) (L1 := [some (.inr (.inr (some (4, 0)))), none, none, none, some (.inl x4), some (.inr (.inr (some (2, z1)))), some (.inl x6), some (.inl x7), some (.inl x8)]) (S1 := [.inl (-12)]) (w1 := w) (P := True) [(.bipush (-12), 0, 0, -12, 0)] (by decide +kernel) rfl trivial ?_
          exact GE_iret rfl (by decide +kernel)
noncomputable def f_X4_fishersBy (a1 : Int32) (a2 : Int32) (a3 : Int32) (a4 : Int32) (w : Mem) : Option (Int32 × Mem) := Option.elim (rowF a1) (some ((-2), w)) (fun z1 => if a2 < 0 then (some ((-2), w)) else (if a2 ≤ 2 then (if a4 < 0 then (some ((-2), w)) else (if a4 ≤ 6 then (if (w 2 z1 0) = (-1) then (some ((-11), w)) else (if (w 2 z1 0) = a2 then (h_X4_fishersBy_69 z1 a4 (fun x6_13 w14 => some (x6_13, w14)) FU 0 a3 0 w) else (some ((-13), w)))) else (some ((-2), w)))) else (some ((-2), w))))
set_option maxRecDepth 100000 in
theorem t_X4_fishersBy (l : Launch) (X : XC)  (a1 : Int32) (a2 : Int32) (a3 : Int32) (a4 : Int32) (w : Mem) : Ct l X 3 yX4_fishersBy cX4_fishersBy 9 (some .int) emI [.inr (.inr (some (4, 0))), .inl a1, .inl a2, .inl a3, .inl a4] 57 flT w (f_X4_fishersBy a1 a2 a3 a4 w) := by
  refine Ct_of (mi := mm_X4_fishersBy) (mik_X4 _ _ _) me_X4_fishersBy rfl (okAs_cons (by decide) (okAs_cons rfl (okAs_cons rfl (okAs_cons rfl (okAs_cons rfl okAs_nil))))) (Nat.le_of_ble_eq_true rfl) ?_
  unfold f_X4_fishersBy
  refine GE_run flG_T (pc1 := 2) (L1 := [some (.inr (.inr (some (4, 0)))), some (.inl a1), some (.inl a2), some (.inl a3), some (.inl a4), none, none, none, none]) (S1 := [.inl a1, .inr (.inr (some (4, 0)))]) (w1 := w) (P := True) [(.aload_n 0, 0, 0, 0, 0), (.iload_n 1, 0, 0, 0, 0)] (by decide +kernel) rfl trivial ?_
  refine GE_callVAp (As := [.inl a1]) (k := 4) (i := 0) (S := []) (p_X4_rowAt l X a1 w) (by decide) ⟨me_X4_rowAt, mi_X4_rowAt, mv_X4_rowAt, lk_X4_175⟩ rfl (by decide +kernel) rfl (by decide) (by decide) (Nat.le_of_ble_eq_true rfl) ?_
  refine GE_run flG_T (pc1 := 9) (L1 := [some (.inr (.inr (some (4, 0)))), some (.inl a1), some (.inl a2), some (.inl a3), some (.inl a4), some (.inr (.inr ((rowF a1).map fun z => (2, z)))), none, none, none]) (S1 := [.inr (.inr ((rowF a1).map fun z => (2, z)))]) (w1 := w) (P := True) [(.astore 5, 0, 0, 0, 0), (.aload 5, 0, 0, 0, 0)] (by decide +kernel) rfl trivial ?_
  cases hz1 : rowF a1 with
  | none =>
    simp only [Option.elim_none, Option.map_none]
    refine GE_null0 (off := 24) (tgt := 33) (by decide +kernel) (by decide) ?_
    refine GE_run flG_T (pc1 := 35) (L1 := [some (.inr (.inr (some (4, 0)))), some (.inl a1), some (.inl a2), some (.inl a3), some (.inl a4), some (.inr (.inr none)), none, none, none]) (S1 := [.inl (-2)]) (w1 := w) (P := True) [(.bipush (-2), 0, 0, -2, 0)] (by decide +kernel) rfl trivial ?_
    exact GE_iret rfl (by decide +kernel)
  | some z1 =>
    have bz1 := rowF_lt hz1
    refine GE_eq (Option.elim_some _ _ _) ?_
    refine GE_null1 (off := 24) (by decide +kernel) ?_
    refine GE_run flG_T (pc1 := 13) (L1 := [some (.inr (.inr (some (4, 0)))), some (.inl a1), some (.inl a2), some (.inl a3), some (.inl a4), some (.inr (.inr (some (2, z1)))), none, none, none]) (S1 := [.inl a2]) (w1 := w) (P := True) [(.iload_n 2, 0, 0, 0, 0)] (by decide +kernel) rfl trivial ?_
    refine GE_if (k := .lt) (off := 20) (tgt := 33) (by decide +kernel) (by decide) (cnd_lt _ _) (fun c2 => ?_) (fun c2 => ?_)
    · refine GE_run flG_T (pc1 := 35) (L1 := [some (.inr (.inr (some (4, 0)))), some (.inl a1), some (.inl a2), some (.inl a3), some (.inl a4), some (.inr (.inr (some (2, z1)))), none, none, none]) (S1 := [.inl (-2)]) (w1 := w) (P := True) [(.bipush (-2), 0, 0, -2, 0)] (by decide +kernel) rfl trivial ?_
      exact GE_iret rfl (by decide +kernel)
    · refine GE_run flG_T (pc1 := 18) (L1 := [some (.inr (.inr (some (4, 0)))), some (.inl a1), some (.inl a2), some (.inl a3), some (.inl a4), some (.inr (.inr (some (2, z1)))), none, none, none]) (S1 := [.inl 2, .inl a2]) (w1 := w) (P := True) [(.iload_n 2, 0, 0, 0, 0), (.iconst 2, 0, 0, 2, 0)] (by decide +kernel) rfl trivial ?_
      refine GE_icmpN (k := .gt) (off := 15) (tgt := 33) (by decide +kernel) (by decide) (cnd_gt _ _) (fun c3 => ?_) (fun c3 => ?_)
      · refine GE_run flG_T (pc1 := 35) (L1 := [some (.inr (.inr (some (4, 0)))), some (.inl a1), some (.inl a2), some (.inl a3), some (.inl a4), some (.inr (.inr (some (2, z1)))), none, none, none]) (S1 := [.inl (-2)]) (w1 := w) (P := True) [(.bipush (-2), 0, 0, -2, 0)] (by decide +kernel) rfl trivial ?_
        exact GE_iret rfl (by decide +kernel)
      · refine GE_run flG_T (pc1 := 23) (L1 := [some (.inr (.inr (some (4, 0)))), some (.inl a1), some (.inl a2), some (.inl a3), some (.inl a4), some (.inr (.inr (some (2, z1)))), none, none, none]) (S1 := [.inl a4]) (w1 := w) (P := True) [(.iload 4, 0, 0, 0, 0)] (by decide +kernel) rfl trivial ?_
        refine GE_if (k := .lt) (off := 10) (tgt := 33) (by decide +kernel) (by decide) (cnd_lt _ _) (fun c4 => ?_) (fun c4 => ?_)
        · refine GE_run flG_T (pc1 := 35) (L1 := [some (.inr (.inr (some (4, 0)))), some (.inl a1), some (.inl a2), some (.inl a3), some (.inl a4), some (.inr (.inr (some (2, z1)))), none, none, none]) (S1 := [.inl (-2)]) (w1 := w) (P := True) [(.bipush (-2), 0, 0, -2, 0)] (by decide +kernel) rfl trivial ?_
          exact GE_iret rfl (by decide +kernel)
        · refine GE_run flG_T (pc1 := 30) (L1 := [some (.inr (.inr (some (4, 0)))), some (.inl a1), some (.inl a2), some (.inl a3), some (.inl a4), some (.inr (.inr (some (2, z1)))), none, none, none]) (S1 := [.inl 6, .inl a4]) (w1 := w) (P := True) [(.iload 4, 0, 0, 0, 0), (.bipush 6, 0, 0, 6, 0)] (by decide +kernel) rfl trivial ?_
          refine GE_icmp (k := .le) (off := 6) (tgt := 36) (by decide +kernel) (by decide) (cnd_le _ _) (fun c5 => ?_) (fun c5 => ?_)
          · refine GE_run flG_T (pc1 := 42) (L1 := [some (.inr (.inr (some (4, 0)))), some (.inl a1), some (.inl a2), some (.inl a3), some (.inl a4), some (.inr (.inr (some (2, z1)))), none, none, none]) (S1 := [.inl (-1), .inl (w 2 z1 0)]) (w1 := w) (P := True) [(.aload 5, 0, 0, 0, 0), (.getfield 179, 2, 0, 0, 0), (.iconst (-1), 0, 0, -1, 0)] (by decide +kernel) rfl trivial ?_
            refine GE_icmpN (k := .ne) (off := 6) (tgt := 48) (by decide +kernel) (by decide) (cnd_ne _ _) (fun c6 => ?_) (fun c6 => ?_)
            · refine GE_run flG_T (pc1 := 54) (L1 := [some (.inr (.inr (some (4, 0)))), some (.inl a1), some (.inl a2), some (.inl a3), some (.inl a4), some (.inr (.inr (some (2, z1)))), none, none, none]) (S1 := [.inl a2, .inl (w 2 z1 0)]) (w1 := w) (P := True) [(.aload 5, 0, 0, 0, 0), (.getfield 179, 2, 0, 0, 0), (.iload_n 2, 0, 0, 0, 0)] (by decide +kernel) rfl trivial ?_
              refine GE_icmp (k := .eq) (off := 6) (tgt := 60) (by decide +kernel) (by decide) (cnd_eq _ _) (fun c7 => ?_) (fun c7 => ?_)
              · refine GE_run flG_T (pc1 := 69) (L1 := [some (.inr (.inr (some (4, 0)))), some (.inl a1), some (.inl a2), some (.inl a3), some (.inl a4), some (.inr (.inr (some (2, z1)))), some (.inl 0), some (.inl a3), some (.inl 0)]) (S1 := []) (w1 := w) (P := True) [(.iconst 0, 0, 0, 0, 0), (.istore 6, 0, 0, 0, 0), (.iload_n 3, 0, 0, 0, 0), (.istore 7, 0, 0, 0, 0), (.iconst 0, 0, 0, 0, 0), (.istore 8, 0, 0, 0, 0)] (by decide +kernel) rfl trivial ?_
                refine GE_weak [true, false, false, false, true, true, true, true, true] (h_X4_fishersBy_69_ok l X z1 a4 _ bz1 ?_ FU 0 a3 0 w)
                · intro x6_13 w14
                  refine GE_run flG_T (pc1 := 139) (L1 := [none, none, none, none, none, none, some (.inl x6_13), none, none]) (S1 := [.inl x6_13]) (w1 := w14) (P := True) [(.iload 6, 0, 0, 0, 0)] (by decide +kernel) rfl trivial ?_
                  exact GE_iret rfl (by decide +kernel)
              · refine GE_run flG_T (pc1 := 59) (L1 := [some (.inr (.inr (some (4, 0)))), some (.inl a1), some (.inl a2), some (.inl a3), some (.inl a4), some (.inr (.inr (some (2, z1)))), none, none, none]) (S1 := [.inl (-13)]) (w1 := w) (P := True) [(.bipush (-13), 0, 0, -13, 0)] (by decide +kernel) rfl trivial ?_
                exact GE_iret rfl (by decide +kernel)
            · refine GE_run flG_T (pc1 := 47) (L1 := [some (.inr (.inr (some (4, 0)))), some (.inl a1), some (.inl a2), some (.inl a3), some (.inl a4), some (.inr (.inr (some (2, z1)))), none, none, none]) (S1 := [.inl (-11)]) (w1 := w) (P := True) [(.bipush (-11), 0, 0, -11, 0)] (by decide +kernel) rfl trivial ?_
              exact GE_iret rfl (by decide +kernel)
          · refine GE_run flG_T (pc1 := 35) (L1 := [some (.inr (.inr (some (4, 0)))), some (.inl a1), some (.inl a2), some (.inl a3), some (.inl a4), some (.inr (.inr (some (2, z1)))), none, none, none]) (S1 := [.inl (-2)]) (w1 := w) (P := True) [(.bipush (-2), 0, 0, -2, 0)] (by decide +kernel) rfl trivial ?_
            exact GE_iret rfl (by decide +kernel)
abbrev mm_X4_taken : MI := (RX4, cX4_taken, 4, (some .int), ftp_X4.map (fun q => q.1), ctp_X4.map (fun q => q.1), clp_X4.map (fun q => q.1))
noncomputable def f_X4_taken (a1 : Int32) (a2 : Int32) (w : Mem) : Option (Int32 × Mem) := if a2 < 0 then (some ((-2), w)) else (if a2 ≤ 6 then (if a1 < 0 then (some ((-12), w)) else (if a1 < 12 then (if ¬ (6 : Int32) = 0 then (if (hasF (rmI a1 6) (w 0 0 2)) = 0 then (some ((-11), w)) else (if a1 < 6 then (Option.bind (f_X4_isOne (atV w 13 0 (rmI a1 6)) a2 w) (fun r8 => if r8.1 = 0 then (some ((-13), r8.2)) else (some (rmI a1 6, r8.2)))) else (if a2 = 6 then (some (atV w 15 0 (rmI a1 6), w)) else (some ((-13), w))))) else none) else (some ((-12), w)))) else (some ((-2), w)))
set_option maxRecDepth 100000 in
theorem t_X4_taken (l : Launch) (X : XC)  (a1 : Int32) (a2 : Int32) (w : Mem) : Ct l X 1 yX4_taken cX4_taken 4 (some .int) emI [.inr (.inr (some (4, 0))), .inl a1, .inl a2] 57 flT w (f_X4_taken a1 a2 w) := by
  refine Ct_of (mi := mm_X4_taken) (mik_X4 _ _ _) me_X4_taken rfl (okAs_cons (by decide) (okAs_cons rfl (okAs_cons rfl okAs_nil))) (Nat.le_of_ble_eq_true rfl) ?_
  unfold f_X4_taken
  refine GE_run flG_T (pc1 := 1) (L1 := [some (.inr (.inr (some (4, 0)))), some (.inl a1), some (.inl a2), none]) (S1 := [.inl a2]) (w1 := w) (P := True) [(.iload_n 2, 0, 0, 0, 0)] (by decide +kernel) rfl trivial ?_
  refine GE_if (k := .lt) (off := 9) (tgt := 10) (by decide +kernel) (by decide) (cnd_lt _ _) (fun c1 => ?_) (fun c1 => ?_)
  · refine GE_run flG_T (pc1 := 12) (L1 := [some (.inr (.inr (some (4, 0)))), some (.inl a1), some (.inl a2), none]) (S1 := [.inl (-2)]) (w1 := w) (P := True) [(.bipush (-2), 0, 0, -2, 0)] (by decide +kernel) rfl trivial ?_
    exact GE_iret rfl (by decide +kernel)
  · refine GE_run flG_T (pc1 := 7) (L1 := [some (.inr (.inr (some (4, 0)))), some (.inl a1), some (.inl a2), none]) (S1 := [.inl 6, .inl a2]) (w1 := w) (P := True) [(.iload_n 2, 0, 0, 0, 0), (.bipush 6, 0, 0, 6, 0)] (by decide +kernel) rfl trivial ?_
    refine GE_icmp (k := .le) (off := 6) (tgt := 13) (by decide +kernel) (by decide) (cnd_le _ _) (fun c2 => ?_) (fun c2 => ?_)
    · refine GE_run flG_T (pc1 := 14) (L1 := [some (.inr (.inr (some (4, 0)))), some (.inl a1), some (.inl a2), none]) (S1 := [.inl a1]) (w1 := w) (P := True) [(.iload_n 1, 0, 0, 0, 0)] (by decide +kernel) rfl trivial ?_
      refine GE_if (k := .lt) (off := 9) (tgt := 23) (by decide +kernel) (by decide) (cnd_lt _ _) (fun c3 => ?_) (fun c3 => ?_)
      · refine GE_run flG_T (pc1 := 25) (L1 := [some (.inr (.inr (some (4, 0)))), some (.inl a1), some (.inl a2), none]) (S1 := [.inl (-12)]) (w1 := w) (P := True) [(.bipush (-12), 0, 0, -12, 0)] (by decide +kernel) rfl trivial ?_
        exact GE_iret rfl (by decide +kernel)
      · refine GE_run flG_T (pc1 := 20) (L1 := [some (.inr (.inr (some (4, 0)))), some (.inl a1), some (.inl a2), none]) (S1 := [.inl 12, .inl a1]) (w1 := w) (P := True) [(.iload_n 1, 0, 0, 0, 0), (.bipush 12, 0, 0, 12, 0)] (by decide +kernel) rfl trivial ?_
        refine GE_icmp (k := .lt) (off := 6) (tgt := 26) (by decide +kernel) (by decide) (cnd_lt _ _) (fun c4 => ?_) (fun c4 => ?_)
        · refine GE_chk (fun h5 => ?_)
          refine GE_run flG_T (pc1 := 36) (L1 := [some (.inr (.inr (some (4, 0)))), some (.inl a1), some (.inl a2), some (.inl (rmI a1 6))]) (S1 := [.inl (rmI a1 6), .inr (.inr (some (0, 0)))]) (w1 := w) (P := (¬ (6 : Int32) = 0) ∧ True) [(.iload_n 1, 0, 0, 0, 0), (.bipush 6, 0, 0, 6, 0), (.irem, 0, 0, 0, 0), (.istore_n 3, 0, 0, 0, 0), (.aload_n 0, 0, 0, 0, 0), (.getfield 28, 4, 2, 0, 0), (.iload_n 3, 0, 0, 0, 0)] (by decide +kernel) rfl ⟨h5, trivial⟩ ?_
          refine GE_callVIp (As := [.inl (rmI a1 6)]) (k := 0) (i := 0) (S := []) (p_X0_has l X 0 (rmI a1 6) (by decide) w) (by decide) ⟨me_X0_has, mi_X0_has, mv_X0_has, lk_X4_95⟩ rfl (by decide +kernel) rfl (by decide) (by decide) (Nat.le_of_ble_eq_true rfl) ?_
          refine GE_ifN (k := .ne) (off := 6) (tgt := 45) (by decide +kernel) (by decide) (cnd_ne _ _) (fun c6 => ?_) (fun c6 => ?_)
          · refine GE_run flG_T (pc1 := 48) (L1 := [some (.inr (.inr (some (4, 0)))), some (.inl a1), some (.inl a2), some (.inl (rmI a1 6))]) (S1 := [.inl 6, .inl a1]) (w1 := w) (P := True) [(.iload_n 1, 0, 0, 0, 0), (.bipush 6, 0, 0, 6, 0)] (by decide +kernel) rfl trivial ?_
            refine GE_icmp (k := .lt) (off := 26) (tgt := 74) (by decide +kernel) (by decide) (cnd_lt _ _) (fun c7 => ?_) (fun c7 => ?_)
            · refine GE_run flG_T (pc1 := 82) (L1 := [some (.inr (.inr (some (4, 0)))), some (.inl a1), some (.inl a2), some (.inl (rmI a1 6))]) (S1 := [.inl (rmI a1 6), .inr (.inr (some (13, 0)))]) (w1 := w) (P := True) [(.aload_n 0, 0, 0, 0, 0), (.getfield 28, 4, 2, 0, 0), (.getfield 124, 0, 6, 0, 0), (.iload_n 3, 0, 0, 0, 0)] (by decide +kernel) rfl trivial ?_
              refine GE_callSIp (As := [.inr (.inr (some (13, 0))), .inl (rmI a1 6)]) (S := []) (p_X4_at l X 13 0 (rmI a1 6) (by decide) (by decide) w) ⟨me_X4_at, ms_X4_at, lk_X4_120⟩ (by decide +kernel) rfl (by decide) (by decide) (Nat.le_of_ble_eq_true rfl) ?_
              refine GE_run flG_T (pc1 := 86) (L1 := [some (.inr (.inr (some (4, 0)))), some (.inl a1), some (.inl a2), some (.inl (rmI a1 6))]) (S1 := [.inl a2, .inl (atV w 13 0 (rmI a1 6))]) (w1 := w) (P := True) [(.iload_n 2, 0, 0, 0, 0)] (by decide +kernel) rfl trivial ?_
              refine GE_callSI (As := [.inl (atV w 13 0 (rmI a1 6)), .inl a2]) (S := []) (t_X4_isOne l X (atV w 13 0 (rmI a1 6)) a2 w) ⟨me_X4_isOne, ms_X4_isOne, lk_X4_253⟩ (by decide +kernel) rfl (by decide) (by decide) (Nat.le_of_ble_eq_true rfl) (fun r8 _ => ?_)
              refine GE_if (k := .eq) (off := 7) (tgt := 96) (by decide +kernel) (by decide) (cnd_eq _ _) (fun c9 => ?_) (fun c9 => ?_)
              · refine GE_run flG_T (pc1 := 98) (L1 := [some (.inr (.inr (some (4, 0)))), some (.inl a1), some (.inl a2), some (.inl (rmI a1 6))]) (S1 := [.inl (-13)]) (w1 := r8.2) (P := True) [(.bipush (-13), 0, 0, -13, 0)] (by decide +kernel) rfl trivial ?_
                exact GE_iret rfl (by decide +kernel)
              · refine GE_run flG_T (pc1 := 98) (L1 := [some (.inr (.inr (some (4, 0)))), some (.inl a1), some (.inl a2), some (.inl (rmI a1 6))]) (S1 := [.inl (rmI a1 6)]) (w1 := r8.2) (P := True) [(.iload_n 3, 0, 0, 0, 0), (.goto 5, 0, 0, 0, 0)] (by decide +kernel) rfl trivial ?_
                exact GE_iret rfl (by decide +kernel)
            · refine GE_run flG_T (pc1 := 54) (L1 := [some (.inr (.inr (some (4, 0)))), some (.inl a1), some (.inl a2), some (.inl (rmI a1 6))]) (S1 := [.inl 6, .inl a2]) (w1 := w) (P := True) [(.iload_n 2, 0, 0, 0, 0), (.bipush 6, 0, 0, 6, 0)] (by decide +kernel) rfl trivial ?_
              refine GE_icmpN (k := .ne) (off := 17) (tgt := 71) (by decide +kernel) (by decide) (cnd_ne _ _) (fun c10 => ?_) (fun c10 => ?_)
              · refine GE_run flG_T (pc1 := 73) (L1 := [some (.inr (.inr (some (4, 0)))), some (.inl a1), some (.inl a2), some (.inl (rmI a1 6))]) (S1 := [.inl (-13)]) (w1 := w) (P := True) [(.bipush (-13), 0, 0, -13, 0)] (by decide +kernel) rfl trivial ?_
                exact GE_iret rfl (by decide +kernel)
              · refine GE_run flG_T (pc1 := 65) (L1 := [some (.inr (.inr (some (4, 0)))), some (.inl a1), some (.inl a2), some (.inl (rmI a1 6))]) (S1 := [.inl (rmI a1 6), .inr (.inr (some (15, 0)))]) (w1 := w) (P := True) [(.aload_n 0, 0, 0, 0, 0), (.getfield 28, 4, 2, 0, 0), (.getfield 108, 0, 8, 0, 0), (.iload_n 3, 0, 0, 0, 0)] (by decide +kernel) rfl trivial ?_
                refine GE_callSIp (As := [.inr (.inr (some (15, 0))), .inl (rmI a1 6)]) (S := []) (p_X4_at l X 15 0 (rmI a1 6) (by decide) (by decide) w) ⟨me_X4_at, ms_X4_at, lk_X4_120⟩ (by decide +kernel) rfl (by decide) (by decide) (Nat.le_of_ble_eq_true rfl) ?_
                refine GE_run flG_T (pc1 := 73) (L1 := [some (.inr (.inr (some (4, 0)))), some (.inl a1), some (.inl a2), some (.inl (rmI a1 6))]) (S1 := [.inl (atV w 15 0 (rmI a1 6))]) (w1 := w) (P := True) [(.goto 5, 0, 0, 0, 0)] (by decide +kernel) rfl trivial ?_
                exact GE_iret rfl (by decide +kernel)
          · refine GE_run flG_T (pc1 := 44) (L1 := [some (.inr (.inr (some (4, 0)))), some (.inl a1), some (.inl a2), some (.inl (rmI a1 6))]) (S1 := [.inl (-11)]) (w1 := w) (P := True) [(.bipush (-11), 0, 0, -11, 0)] (by decide +kernel) rfl trivial ?_
            exact GE_iret rfl (by decide +kernel)
        · refine GE_run flG_T (pc1 := 25) (L1 := [some (.inr (.inr (some (4, 0)))), some (.inl a1), some (.inl a2), none]) (S1 := [.inl (-12)]) (w1 := w) (P := True) [(.bipush (-12), 0, 0, -12, 0)] (by decide +kernel) rfl trivial ?_
          exact GE_iret rfl (by decide +kernel)
    · refine GE_run flG_T (pc1 := 12) (L1 := [some (.inr (.inr (some (4, 0)))), some (.inl a1), some (.inl a2), none]) (S1 := [.inl (-2)]) (w1 := w) (P := True) [(.bipush (-2), 0, 0, -2, 0)] (by decide +kernel) rfl trivial ?_
      exact GE_iret rfl (by decide +kernel)
