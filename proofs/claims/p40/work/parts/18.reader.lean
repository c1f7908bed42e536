/-! the reader -/
theorem Ct_none {ρ : Type} {l : Launch} {X : XC} {d maxL n : Nat} {fl : Fl} {w : Mem} {em : ρ → Option AV × Mem} {y : MethodName} {cc : ByteArray} {ret : Option FieldType} {As : List AV} : Ct l X d y cc maxL ret em As n fl w none := fun _ _ h => nomatch h
abbrev mm_X1_add : MI := (RX1, cX1_add, 2, none, ftp_X1.map (fun q => q.1), ctp_X1.map (fun q => q.1), clp_X1.map (fun q => q.1))
noncomputable def f_X1_add (a1 : Int32) (w : Mem) : Option (Mem) := if (w 1 0 1) < 160 then (some (up (setV w 9 0 (w 1 0 1) a1) 1 0 1 (((setV w 9 0 (w 1 0 1) a1) 1 0 1) + 1))) else (some w)
set_option maxRecDepth 100000 in
theorem t_X1_add (l : Launch) (X : XC) {N9 : Nat} (hN : 39 ≤ N9)  (a1 : Int32) (w : Mem) : Ct l X 1 yX1_add cX1_add 2 none emV [.inr (.inr (some (1, 0))), .inl a1] N9 flT w (f_X1_add a1 w) := by
  refine Ct_of (mi := mm_X1_add) (mik_X1 _ _ _) me_X1_add rfl (okAs_cons (okMV hN (by decide)) (okAs_cons rfl okAs_nil)) (Nat.le_of_ble_eq_true rfl) ?_
  unfold f_X1_add
  refine GE_run (flG_T hN) (pc1 := 7) (L1 := [some (.inr (.inr (some (1, 0)))), some (.inl a1)]) (S1 := [.inl 160, .inl (w 1 0 1)]) (w1 := w) (P := True) [(.aload_n 0, 0, 0, 0, 0), (.getfield 21, 1, 1, 0, 0), (.sipush 160, 0, 0, 160, 0)] (by decide +kernel) rfl trivial ?_
  refine GE_icmpN (k := .ge) (off := 25) (tgt := 32) (by decide +kernel) (by decide) (cnd_ge _ _) (fun c1 => ?_) (fun c1 => ?_)
  · exact GE_vret rfl (by decide +kernel)
  · refine GE_run (flG_T hN) (pc1 := 19) (L1 := [some (.inr (.inr (some (1, 0)))), some (.inl a1)]) (S1 := [.inl a1, .inl (w 1 0 1), .inr (.inr (some (9, 0)))]) (w1 := w) (P := True) [(.aload_n 0, 0, 0, 0, 0), (.getfield 9, 1, 0, 0, 0), (.aload_n 0, 0, 0, 0, 0), (.getfield 21, 1, 1, 0, 0), (.iload_n 1, 0, 0, 0, 0)] (by decide +kernel) rfl trivial ?_
    refine GE_callNVp (As := [.inr (.inr (some (9, 0))), .inl (w 1 0 1), .inl a1]) (S := []) (p_X4_set l X hN 9 0 (w 1 0 1) a1 (by decide) (okM hN (by decide)) w) ⟨me_X4_set, ms_X4_set, ln_X1_25⟩ (by decide +kernel) rfl (by decide) (by decide) (Nat.le_of_ble_eq_true rfl) ?_
    refine GE_run (flG_T hN) (pc1 := 32) (L1 := [some (.inr (.inr (some (1, 0)))), some (.inl a1)]) (S1 := []) (w1 := up (setV w 9 0 (w 1 0 1) a1) 1 0 1 (((setV w 9 0 (w 1 0 1) a1) 1 0 1) + 1)) (P := True) [(.aload_n 0, 0, 0, 0, 0), (.dup, 0, 0, 0, 0), (.getfield 21, 1, 1, 0, 0), (.iconst 1, 0, 0, 1, 0), (.iadd, 0, 0, 0, 0), (.putfield 21, 1, 1, 0, 0)] (by decide +kernel) rfl trivial ?_
    exact GE_vret rfl (by decide +kernel)
abbrev mm_X1_write : MI := (RX1, cX1_write, 2, none, ftp_X1.map (fun q => q.1), ctp_X1.map (fun q => q.1), clp_X1.map (fun q => q.1))
noncomputable def f_X1_write (a1 : Int32) (w : Mem) : Option (Mem) := some (up (setV w 10 0 (w 1 0 3) a1) 1 0 3 (((setV w 10 0 (w 1 0 3) a1) 1 0 3) + 1))
set_option maxRecDepth 100000 in
theorem t_X1_write (l : Launch) (X : XC) {N9 : Nat} (hN : 39 ≤ N9)  (a1 : Int32) (w : Mem) : Ct l X 1 yX1_write cX1_write 2 none emV [.inr (.inr (some (1, 0))), .inl a1] N9 flT w (f_X1_write a1 w) := by
  refine Ct_of (mi := mm_X1_write) (mik_X1 _ _ _) me_X1_write rfl (okAs_cons (okMV hN (by decide)) (okAs_cons rfl okAs_nil)) (Nat.le_of_ble_eq_true rfl) ?_
  unfold f_X1_write
  refine GE_run (flG_T hN) (pc1 := 9) (L1 := [some (.inr (.inr (some (1, 0)))), some (.inl a1)]) (S1 := [.inl a1, .inl (w 1 0 3), .inr (.inr (some (10, 0)))]) (w1 := w) (P := True) [(.aload_n 0, 0, 0, 0, 0), (.getfield 15, 1, 2, 0, 0), (.aload_n 0, 0, 0, 0, 0), (.getfield 29, 1, 3, 0, 0), (.iload_n 1, 0, 0, 0, 0)] (by decide +kernel) rfl trivial ?_
  refine GE_callNVp (As := [.inr (.inr (some (10, 0))), .inl (w 1 0 3), .inl a1]) (S := []) (p_X4_set l X hN 10 0 (w 1 0 3) a1 (by decide) (okM hN (by decide)) w) ⟨me_X4_set, ms_X4_set, ln_X1_25⟩ (by decide +kernel) rfl (by decide) (by decide) (Nat.le_of_ble_eq_true rfl) ?_
  refine GE_run (flG_T hN) (pc1 := 22) (L1 := [some (.inr (.inr (some (1, 0)))), some (.inl a1)]) (S1 := []) (w1 := up (setV w 10 0 (w 1 0 3) a1) 1 0 3 (((setV w 10 0 (w 1 0 3) a1) 1 0 3) + 1)) (P := True) [(.aload_n 0, 0, 0, 0, 0), (.dup, 0, 0, 0, 0), (.getfield 29, 1, 3, 0, 0), (.iconst 1, 0, 0, 1, 0), (.iadd, 0, 0, 0, 0), (.putfield 29, 1, 3, 0, 0)] (by decide +kernel) rfl trivial ?_
  exact GE_vret rfl (by decide +kernel)
abbrev mm_X1_isSign : MI := (RX1, cX1_isSign, 1, (some .boolean), ftp_X1.map (fun q => q.1), ctp_X1.map (fun q => q.1), clp_X1.map (fun q => q.1))
noncomputable def f_X1_isSign (a1 : Int32) (w : Mem) : Option (Int32 × Mem) := swE a1 40 [some (1, w), some (1, w), some (1, w), some (1, w), some (0, w), some (1, w), some (0, w), some (0, w), some (0, w), some (0, w), some (0, w), some (0, w), some (0, w), some (0, w), some (0, w), some (0, w), some (0, w), some (0, w), some (0, w), some (1, w), some (1, w), some (1, w)] (some (0, w))
set_option maxRecDepth 100000 in
theorem t_X1_isSign (l : Launch) (X : XC) {N9 : Nat} (hN : 39 ≤ N9)  (a1 : Int32) (w : Mem) : Ct l X 0 yX1_isSign cX1_isSign 1 (some .boolean) emI [.inl a1] N9 flT w (f_X1_isSign a1 w) := by
  refine Ct_of (mi := mm_X1_isSign) (mik_X1 _ _ _) me_X1_isSign rfl (okAs_cons rfl okAs_nil) (Nat.le_of_ble_eq_true rfl) ?_
  unfold f_X1_isSign
  refine GE_run (flG_T hN) (pc1 := 1) (L1 := [some (.inl a1)]) (S1 := [.inl a1]) (w1 := w) (P := True) [(.iload_n 0, 0, 0, 0, 0)] (by decide +kernel) rfl trivial ?_
  refine GE_swm (dflt := 105) (lo := 40) (hi := 61) (offs := #[103, 103, 103, 103, 105, 103, 105, 105, 105, 105, 105, 105, 105, 105, 105, 105, 105, 105, 105, 103, 103, 103]) (len := 103) (dt := 106) (mm := 22) [104, 104, 104, 104, 106, 104, 106, 106, 106, 106, 106, 106, 106, 106, 106, 106, 106, 106, 106, 104, 104, 104] (by decide +kernel) rfl (by decide +kernel) (And.intro (fun _ => ?_) (And.intro (fun _ => ?_) (And.intro (fun _ => ?_) (And.intro (fun _ => ?_) (And.intro (fun _ => ?_) (And.intro (fun _ => ?_) (And.intro (fun _ => ?_) (And.intro (fun _ => ?_) (And.intro (fun _ => ?_) (And.intro (fun _ => ?_) (And.intro (fun _ => ?_) (And.intro (fun _ => ?_) (And.intro (fun _ => ?_) (And.intro (fun _ => ?_) (And.intro (fun _ => ?_) (And.intro (fun _ => ?_) (And.intro (fun _ => ?_) (And.intro (fun _ => ?_) (And.intro (fun _ => ?_) (And.intro (fun _ => ?_) (And.intro (fun _ => ?_) (And.intro (fun _ => ?_) (trivial))))))))))))))))))))))) ?_
  · refine GE_run (flG_T hN) (pc1 := 105) (L1 := [some (.inl a1)]) (S1 := [.inl 1]) (w1 := w) (P := True) [(.iconst 1, 0, 0, 1, 0)] (by decide +kernel) rfl trivial ?_
    exact GE_zret (ty := .boolean) rfl (by decide +kernel) (by decide +kernel)
  · refine GE_run (flG_T hN) (pc1 := 105) (L1 := [some (.inl a1)]) (S1 := [.inl 1]) (w1 := w) (P := True) [(.iconst 1, 0, 0, 1, 0)] (by decide +kernel) rfl trivial ?_
    exact GE_zret (ty := .boolean) rfl (by decide +kernel) (by decide +kernel)
  · refine GE_run (flG_T hN) (pc1 := 105) (L1 := [some (.inl a1)]) (S1 := [.inl 1]) (w1 := w) (P := True) [(.iconst 1, 0, 0, 1, 0)] (by decide +kernel) rfl trivial ?_
    exact GE_zret (ty := .boolean) rfl (by decide +kernel) (by decide +kernel)
  · refine GE_run (flG_T hN) (pc1 := 105) (L1 := [some (.inl a1)]) (S1 := [.inl 1]) (w1 := w) (P := True) [(.iconst 1, 0, 0, 1, 0)] (by decide +kernel) rfl trivial ?_
    exact GE_zret (ty := .boolean) rfl (by decide +kernel) (by decide +kernel)
  · refine GE_run (flG_T hN) (pc1 := 107) (L1 := [some (.inl a1)]) (S1 := [.inl 0]) (w1 := w) (P := True) [(.iconst 0, 0, 0, 0, 0)] (by decide +kernel) rfl trivial ?_
    exact GE_zret (ty := .boolean) rfl (by decide +kernel) (by decide +kernel)
  · refine GE_run (flG_T hN) (pc1 := 105) (L1 := [some (.inl a1)]) (S1 := [.inl 1]) (w1 := w) (P := True) [(.iconst 1, 0, 0, 1, 0)] (by decide +kernel) rfl trivial ?_
    exact GE_zret (ty := .boolean) rfl (by decide +kernel) (by decide +kernel)
  · refine GE_run (flG_T hN) (pc1 := 107) (L1 := [some (.inl a1)]) (S1 := [.inl 0]) (w1 := w) (P := True) [(.iconst 0, 0, 0, 0, 0)] (by decide +kernel) rfl trivial ?_
    exact GE_zret (ty := .boolean) rfl (by decide +kernel) (by decide +kernel)
  · refine GE_run (flG_T hN) (pc1 := 107) (L1 := [some (.inl a1)]) (S1 := [.inl 0]) (w1 := w) (P := True) [(.iconst 0, 0, 0, 0, 0)] (by decide +kernel) rfl trivial ?_
    exact GE_zret (ty := .boolean) rfl (by decide +kernel) (by decide +kernel)
  · refine GE_run (flG_T hN) (pc1 := 107) (L1 := [some (.inl a1)]) (S1 := [.inl 0]) (w1 := w) (P := True) [(.iconst 0, 0, 0, 0, 0)] (by decide +kernel) rfl trivial ?_
    exact GE_zret (ty := .boolean) rfl (by decide +kernel) (by decide +kernel)
  · refine GE_run (flG_T hN) (pc1 := 107) (L1 := [some (.inl a1)]) (S1 := [.inl 0]) (w1 := w) (P := True) [(.iconst 0, 0, 0, 0, 0)] (by decide +kernel) rfl trivial ?_
    exact GE_zret (ty := .boolean) rfl (by decide +kernel) (by decide +kernel)
  · refine GE_run (flG_T hN) (pc1 := 107) (L1 := [some (.inl a1)]) (S1 := [.inl 0]) (w1 := w) (P := True) [(.iconst 0, 0, 0, 0, 0)] (by decide +kernel) rfl trivial ?_
    exact GE_zret (ty := .boolean) rfl (by decide +kernel) (by decide +kernel)
  · refine GE_run (flG_T hN) (pc1 := 107) (L1 := [some (.inl a1)]) (S1 := [.inl 0]) (w1 := w) (P := True) [(.iconst 0, 0, 0, 0, 0)] (by decide +kernel) rfl trivial ?_
    exact GE_zret (ty := .boolean) rfl (by decide +kernel) (by decide +kernel)
  · refine GE_run (flG_T hN) (pc1 := 107) (L1 := [some (.inl a1)]) (S1 := [.inl 0]) (w1 := w) (P := True) [(.iconst 0, 0, 0, 0, 0)] (by decide +kernel) rfl trivial ?_
    exact GE_zret (ty := .boolean) rfl (by decide +kernel) (by decide +kernel)
  · refine GE_run (flG_T hN) (pc1 := 107) (L1 := [some (.inl a1)]) (S1 := [.inl 0]) (w1 := w) (P := True) [(.iconst 0, 0, 0, 0, 0)] (by decide +kernel) rfl trivial ?_
    exact GE_zret (ty := .boolean) rfl (by decide +kernel) (by decide +kernel)
  · refine GE_run (flG_T hN) (pc1 := 107) (L1 := [some (.inl a1)]) (S1 := [.inl 0]) (w1 := w) (P := True) [(.iconst 0, 0, 0, 0, 0)] (by decide +kernel) rfl trivial ?_
    exact GE_zret (ty := .boolean) rfl (by decide +kernel) (by decide +kernel)
  · refine GE_run (flG_T hN) (pc1 := 107) (L1 := [some (.inl a1)]) (S1 := [.inl 0]) (w1 := w) (P := True) [(.iconst 0, 0, 0, 0, 0)] (by decide +kernel) rfl trivial ?_
    exact GE_zret (ty := .boolean) rfl (by decide +kernel) (by decide +kernel)
  · refine GE_run (flG_T hN) (pc1 := 107) (L1 := [some (.inl a1)]) (S1 := [.inl 0]) (w1 := w) (P := True) [(.iconst 0, 0, 0, 0, 0)] (by decide +kernel) rfl trivial ?_
    exact GE_zret (ty := .boolean) rfl (by decide +kernel) (by decide +kernel)
  · refine GE_run (flG_T hN) (pc1 := 107) (L1 := [some (.inl a1)]) (S1 := [.inl 0]) (w1 := w) (P := True) [(.iconst 0, 0, 0, 0, 0)] (by decide +kernel) rfl trivial ?_
    exact GE_zret (ty := .boolean) rfl (by decide +kernel) (by decide +kernel)
  · refine GE_run (flG_T hN) (pc1 := 107) (L1 := [some (.inl a1)]) (S1 := [.inl 0]) (w1 := w) (P := True) [(.iconst 0, 0, 0, 0, 0)] (by decide +kernel) rfl trivial ?_
    exact GE_zret (ty := .boolean) rfl (by decide +kernel) (by decide +kernel)
  · refine GE_run (flG_T hN) (pc1 := 105) (L1 := [some (.inl a1)]) (S1 := [.inl 1]) (w1 := w) (P := True) [(.iconst 1, 0, 0, 1, 0)] (by decide +kernel) rfl trivial ?_
    exact GE_zret (ty := .boolean) rfl (by decide +kernel) (by decide +kernel)
  · refine GE_run (flG_T hN) (pc1 := 105) (L1 := [some (.inl a1)]) (S1 := [.inl 1]) (w1 := w) (P := True) [(.iconst 1, 0, 0, 1, 0)] (by decide +kernel) rfl trivial ?_
    exact GE_zret (ty := .boolean) rfl (by decide +kernel) (by decide +kernel)
  · refine GE_run (flG_T hN) (pc1 := 105) (L1 := [some (.inl a1)]) (S1 := [.inl 1]) (w1 := w) (P := True) [(.iconst 1, 0, 0, 1, 0)] (by decide +kernel) rfl trivial ?_
    exact GE_zret (ty := .boolean) rfl (by decide +kernel) (by decide +kernel)
  · refine GE_run (flG_T hN) (pc1 := 107) (L1 := [some (.inl a1)]) (S1 := [.inl 0]) (w1 := w) (P := True) [(.iconst 0, 0, 0, 0, 0)] (by decide +kernel) rfl trivial ?_
    exact GE_zret (ty := .boolean) rfl (by decide +kernel) (by decide +kernel)
abbrev mm_X1_isLetter : MI := (RX1, cX1_isLetter, 3, (some .boolean), ftp_X1.map (fun q => q.1), ctp_X1.map (fun q => q.1), clp_X1.map (fun q => q.1))
noncomputable def f_X1_isLetter (a1 : Int32) (w : Mem) : Option (Int32 × Mem) := if (atV w 9 0 a1) < 97 then (some (0, w)) else (if (atV w 9 0 a1) ≤ 122 then (some (1, w)) else (some (0, w)))
set_option maxRecDepth 100000 in
theorem t_X1_isLetter (l : Launch) (X : XC) {N9 : Nat} (hN : 39 ≤ N9)  (a1 : Int32) (w : Mem) : Ct l X 1 yX1_isLetter cX1_isLetter 3 (some .boolean) emI [.inr (.inr (some (1, 0))), .inl a1] N9 flT w (f_X1_isLetter a1 w) := by
  refine Ct_of (mi := mm_X1_isLetter) (mik_X1 _ _ _) me_X1_isLetter rfl (okAs_cons (okMV hN (by decide)) (okAs_cons rfl okAs_nil)) (Nat.le_of_ble_eq_true rfl) ?_
  unfold f_X1_isLetter
  refine GE_run (flG_T hN) (pc1 := 5) (L1 := [some (.inr (.inr (some (1, 0)))), some (.inl a1), none]) (S1 := [.inl a1, .inr (.inr (some (9, 0)))]) (w1 := w) (P := True) [(.aload_n 0, 0, 0, 0, 0), (.getfield 9, 1, 0, 0, 0), (.iload_n 1, 0, 0, 0, 0)] (by decide +kernel) rfl trivial ?_
  refine GE_callNIp (As := [.inr (.inr (some (9, 0))), .inl a1]) (S := []) (p_X4_at l X hN 9 0 a1 (by decide) (okM hN (by decide)) w) ⟨me_X4_at, ms_X4_at, ln_X1_70⟩ (by decide +kernel) rfl (by decide) (by decide) (Nat.le_of_ble_eq_true rfl) ?_
  refine GE_run (flG_T hN) (pc1 := 12) (L1 := [some (.inr (.inr (some (1, 0)))), some (.inl a1), some (.inl (atV w 9 0 a1))]) (S1 := [.inl 97, .inl (atV w 9 0 a1)]) (w1 := w) (P := True) [(.istore_n 2, 0, 0, 0, 0), (.iload_n 2, 0, 0, 0, 0), (.bipush 97, 0, 0, 97, 0)] (by decide +kernel) rfl trivial ?_
  refine GE_icmp (k := .lt) (off := 13) (tgt := 25) (by decide +kernel) (by decide) (cnd_lt _ _) (fun c1 => ?_) (fun c1 => ?_)
  · refine GE_run (flG_T hN) (pc1 := 26) (L1 := [some (.inr (.inr (some (1, 0)))), some (.inl a1), some (.inl (atV w 9 0 a1))]) (S1 := [.inl 0]) (w1 := w) (P := True) [(.iconst 0, 0, 0, 0, 0)] (by decide +kernel) rfl trivial ?_
    exact GE_zret (ty := .boolean) rfl (by decide +kernel) (by decide +kernel)
  · refine GE_run (flG_T hN) (pc1 := 18) (L1 := [some (.inr (.inr (some (1, 0)))), some (.inl a1), some (.inl (atV w 9 0 a1))]) (S1 := [.inl 122, .inl (atV w 9 0 a1)]) (w1 := w) (P := True) [(.iload_n 2, 0, 0, 0, 0), (.bipush 122, 0, 0, 122, 0)] (by decide +kernel) rfl trivial ?_
    refine GE_icmpN (k := .gt) (off := 7) (tgt := 25) (by decide +kernel) (by decide) (cnd_gt _ _) (fun c2 => ?_) (fun c2 => ?_)
    · refine GE_run (flG_T hN) (pc1 := 26) (L1 := [some (.inr (.inr (some (1, 0)))), some (.inl a1), some (.inl (atV w 9 0 a1))]) (S1 := [.inl 0]) (w1 := w) (P := True) [(.iconst 0, 0, 0, 0, 0)] (by decide +kernel) rfl trivial ?_
      exact GE_zret (ty := .boolean) rfl (by decide +kernel) (by decide +kernel)
    · refine GE_run (flG_T hN) (pc1 := 26) (L1 := [some (.inr (.inr (some (1, 0)))), some (.inl a1), some (.inl (atV w 9 0 a1))]) (S1 := [.inl 1]) (w1 := w) (P := True) [(.iconst 1, 0, 0, 1, 0), (.goto 4, 0, 0, 0, 0)] (by decide +kernel) rfl trivial ?_
      exact GE_zret (ty := .boolean) rfl (by decide +kernel) (by decide +kernel)
abbrev mm_X1_isDigit : MI := (RX1, cX1_isDigit, 3, (some .boolean), ftp_X1.map (fun q => q.1), ctp_X1.map (fun q => q.1), clp_X1.map (fun q => q.1))
noncomputable def f_X1_isDigit (a1 : Int32) (w : Mem) : Option (Int32 × Mem) := if (atV w 9 0 a1) < 48 then (some (0, w)) else (if (atV w 9 0 a1) ≤ 57 then (some (1, w)) else (some (0, w)))
set_option maxRecDepth 100000 in
theorem t_X1_isDigit (l : Launch) (X : XC) {N9 : Nat} (hN : 39 ≤ N9)  (a1 : Int32) (w : Mem) : Ct l X 1 yX1_isDigit cX1_isDigit 3 (some .boolean) emI [.inr (.inr (some (1, 0))), .inl a1] N9 flT w (f_X1_isDigit a1 w) := by
  refine Ct_of (mi := mm_X1_isDigit) (mik_X1 _ _ _) me_X1_isDigit rfl (okAs_cons (okMV hN (by decide)) (okAs_cons rfl okAs_nil)) (Nat.le_of_ble_eq_true rfl) ?_
  unfold f_X1_isDigit
  refine GE_run (flG_T hN) (pc1 := 5) (L1 := [some (.inr (.inr (some (1, 0)))), some (.inl a1), none]) (S1 := [.inl a1, .inr (.inr (some (9, 0)))]) (w1 := w) (P := True) [(.aload_n 0, 0, 0, 0, 0), (.getfield 9, 1, 0, 0, 0), (.iload_n 1, 0, 0, 0, 0)] (by decide +kernel) rfl trivial ?_
  refine GE_callNIp (As := [.inr (.inr (some (9, 0))), .inl a1]) (S := []) (p_X4_at l X hN 9 0 a1 (by decide) (okM hN (by decide)) w) ⟨me_X4_at, ms_X4_at, ln_X1_70⟩ (by decide +kernel) rfl (by decide) (by decide) (Nat.le_of_ble_eq_true rfl) ?_
  refine GE_run (flG_T hN) (pc1 := 12) (L1 := [some (.inr (.inr (some (1, 0)))), some (.inl a1), some (.inl (atV w 9 0 a1))]) (S1 := [.inl 48, .inl (atV w 9 0 a1)]) (w1 := w) (P := True) [(.istore_n 2, 0, 0, 0, 0), (.iload_n 2, 0, 0, 0, 0), (.bipush 48, 0, 0, 48, 0)] (by decide +kernel) rfl trivial ?_
  refine GE_icmp (k := .lt) (off := 13) (tgt := 25) (by decide +kernel) (by decide) (cnd_lt _ _) (fun c1 => ?_) (fun c1 => ?_)
  · refine GE_run (flG_T hN) (pc1 := 26) (L1 := [some (.inr (.inr (some (1, 0)))), some (.inl a1), some (.inl (atV w 9 0 a1))]) (S1 := [.inl 0]) (w1 := w) (P := True) [(.iconst 0, 0, 0, 0, 0)] (by decide +kernel) rfl trivial ?_
    exact GE_zret (ty := .boolean) rfl (by decide +kernel) (by decide +kernel)
  · refine GE_run (flG_T hN) (pc1 := 18) (L1 := [some (.inr (.inr (some (1, 0)))), some (.inl a1), some (.inl (atV w 9 0 a1))]) (S1 := [.inl 57, .inl (atV w 9 0 a1)]) (w1 := w) (P := True) [(.iload_n 2, 0, 0, 0, 0), (.bipush 57, 0, 0, 57, 0)] (by decide +kernel) rfl trivial ?_
    refine GE_icmpN (k := .gt) (off := 7) (tgt := 25) (by decide +kernel) (by decide) (cnd_gt _ _) (fun c2 => ?_) (fun c2 => ?_)
    · refine GE_run (flG_T hN) (pc1 := 26) (L1 := [some (.inr (.inr (some (1, 0)))), some (.inl a1), some (.inl (atV w 9 0 a1))]) (S1 := [.inl 0]) (w1 := w) (P := True) [(.iconst 0, 0, 0, 0, 0)] (by decide +kernel) rfl trivial ?_
      exact GE_zret (ty := .boolean) rfl (by decide +kernel) (by decide +kernel)
    · refine GE_run (flG_T hN) (pc1 := 26) (L1 := [some (.inr (.inr (some (1, 0)))), some (.inl a1), some (.inl (atV w 9 0 a1))]) (S1 := [.inl 1]) (w1 := w) (P := True) [(.iconst 1, 0, 0, 1, 0), (.goto 4, 0, 0, 0, 0)] (by decide +kernel) rfl trivial ?_
      exact GE_zret (ty := .boolean) rfl (by decide +kernel) (by decide +kernel)
abbrev mm_X1_endOfWord : MI := (RX1, cX1_endOfWord, 3, (some .int), ftp_X1.map (fun q => q.1), ctp_X1.map (fun q => q.1), clp_X1.map (fun q => q.1))
noncomputable def h_X1_endOfWord_2  (k24 : Int32 → Mem → Option (Int32 × Mem)) : Nat → Int32 → Mem → Option (Int32 × Mem)
  | 0, _, _ => none
  | n + 1, x2, w => if x2 < (w 1 0 1) then (Option.bind (f_X1_isLetter x2 w) (fun r2 => if r2.1 = 0 then (k24 x2 r2.2) else ((h_X1_endOfWord_2 k24 n) (x2 + 1) r2.2))) else (k24 x2 w)
set_option maxRecDepth 100000 in
theorem h_X1_endOfWord_2_ok (l : Launch) (X : XC) {N9 : Nat} (hN : 39 ≤ N9)  (k24 : Int32 → Mem → Option (Int32 × Mem))  (hk24 : ∀ (x2 : Int32) (w : Mem), GE l X mm_X1_endOfWord 2 emI N9 flT (k24 x2 w) 24 [none, none, some (.inl x2)] [] w) : ∀ (n : Nat) (x2 : Int32) (w : Mem), GE l X mm_X1_endOfWord 2 emI N9 flT ((h_X1_endOfWord_2 k24 n) x2 w) 2 [some (.inr (.inr (some (1, 0)))), none, some (.inl x2)] [] w := by
  intro n
  induction n with
  | zero => intro x2 w; exact GE_none
  | succ n ih =>
    intro x2 w
    unfold h_X1_endOfWord_2
    refine GE_run (flG_T hN) (pc1 := 7) (L1 := [some (.inr (.inr (some (1, 0)))), none, some (.inl x2)]) (S1 := [.inl (w 1 0 1), .inl x2]) (w1 := w) (P := True) [(.iload_n 2, 0, 0, 0, 0), (.aload_n 0, 0, 0, 0, 0), (.getfield 21, 1, 1, 0, 0)] (by decide +kernel) rfl trivial ?_
    refine GE_icmpN (k := .ge) (off := 17) (tgt := 24) (by decide +kernel) (by decide) (cnd_ge _ _) (fun c1 => ?_) (fun c1 => ?_)
    · exact GE_weak [false, false, true] (hk24 x2 w)
    · refine GE_run (flG_T hN) (pc1 := 12) (L1 := [some (.inr (.inr (some (1, 0)))), none, some (.inl x2)]) (S1 := [.inl x2, .inr (.inr (some (1, 0)))]) (w1 := w) (P := True) [(.aload_n 0, 0, 0, 0, 0), (.iload_n 2, 0, 0, 0, 0)] (by decide +kernel) rfl trivial ?_
      refine GE_callVI (As := [.inl x2]) (k := 1) (i := 0) (S := []) (t_X1_isLetter l X hN x2 w) (by decide) ⟨me_X1_isLetter, mi_X1_isLetter, mv_X1_isLetter, lk_X1_74⟩ rfl (by decide +kernel) rfl (by decide) (by decide) (Nat.le_of_ble_eq_true rfl) (fun r2 _ => ?_)
      refine GE_if (k := .eq) (off := 9) (tgt := 24) (by decide +kernel) (by decide) (cnd_eq _ _) (fun c3 => ?_) (fun c3 => ?_)
      · exact GE_weak [false, false, true] (hk24 x2 r2.2)
      · refine GE_run (flG_T hN) (pc1 := 2) (L1 := [some (.inr (.inr (some (1, 0)))), none, some (.inl (x2 + 1))]) (S1 := []) (w1 := r2.2) (P := True) [(.iinc 2 1, 0, 0, 1, 0), (.goto (-19), 0, 0, 0, 0)] (by decide +kernel) rfl trivial ?_
        exact GE_weak [true, false, true] (ih (x2 + 1) r2.2)
noncomputable def f_X1_endOfWord (a1 : Int32) (w : Mem) : Option (Int32 × Mem) := h_X1_endOfWord_2 (fun x2_4 w5 => some (x2_4, w5)) FU a1 w
set_option maxRecDepth 100000 in
theorem t_X1_endOfWord (l : Launch) (X : XC) {N9 : Nat} (hN : 39 ≤ N9)  (a1 : Int32) (w : Mem) : Ct l X 2 yX1_endOfWord cX1_endOfWord 3 (some .int) emI [.inr (.inr (some (1, 0))), .inl a1] N9 flT w (f_X1_endOfWord a1 w) := by
  refine Ct_of (mi := mm_X1_endOfWord) (mik_X1 _ _ _) me_X1_endOfWord rfl (okAs_cons (okMV hN (by decide)) (okAs_cons rfl okAs_nil)) (Nat.le_of_ble_eq_true rfl) ?_
  unfold f_X1_endOfWord
  refine GE_run (flG_T hN) (pc1 := 2) (L1 := [some (.inr (.inr (some (1, 0)))), some (.inl a1), some (.inl a1)]) (S1 := []) (w1 := w) (P := True) [(.iload_n 1, 0, 0, 0, 0), (.istore_n 2, 0, 0, 0, 0)] (by decide +kernel) rfl trivial ?_
  refine GE_weak [true, false, true] (h_X1_endOfWord_2_ok l X hN _ ?_ FU a1 w)
  · intro x2_4 w5
    refine GE_run (flG_T hN) (pc1 := 25) (L1 := [none, none, some (.inl x2_4)]) (S1 := [.inl x2_4]) (w1 := w5) (P := True) [(.iload_n 2, 0, 0, 0, 0)] (by decide +kernel) rfl trivial ?_
    exact GE_iret rfl (by decide +kernel)
abbrev mm_X1_endOfNumber : MI := (RX1, cX1_endOfNumber, 3, (some .int), ftp_X1.map (fun q => q.1), ctp_X1.map (fun q => q.1), clp_X1.map (fun q => q.1))
noncomputable def h_X1_endOfNumber_7 (x1 : Int32) (k63 : Int32 → Mem → Option (Int32 × Mem)) : Nat → Int32 → Mem → Option (Int32 × Mem)
  | 0, _, _ => none
  | n + 1, x2, w => if x2 < (w 1 0 1) then (Option.bind (f_X1_isDigit x2 w) (fun r2 => if r2.1 = 0 then (k63 x2 r2.2) else (if (x2 - x1) < 4 then ((h_X1_endOfNumber_7 x1 k63 n) (x2 + 1) (up r2.2 1 0 8 ((((r2.2 1 0 8) * 10) + (atV r2.2 9 0 x2)) - 48))) else ((h_X1_endOfNumber_7 x1 k63 n) (x2 + 1) (up r2.2 1 0 8 0))))) else (k63 x2 w)
set_option maxRecDepth 100000 in
theorem h_X1_endOfNumber_7_ok (l : Launch) (X : XC) {N9 : Nat} (hN : 39 ≤ N9) (x1 : Int32) (k63 : Int32 → Mem → Option (Int32 × Mem))  (hk63 : ∀ (x2 : Int32) (w : Mem), GE l X mm_X1_endOfNumber 2 emI N9 flT (k63 x2 w) 63 [none, none, some (.inl x2)] [] w) : ∀ (n : Nat) (x2 : Int32) (w : Mem), GE l X mm_X1_endOfNumber 2 emI N9 flT ((h_X1_endOfNumber_7 x1 k63 n) x2 w) 7 [some (.inr (.inr (some (1, 0)))), some (.inl x1), some (.inl x2)] [] w := by
  intro n
  induction n with
  | zero => intro x2 w; exact GE_none
  | succ n ih =>
    intro x2 w
    unfold h_X1_endOfNumber_7
    refine GE_run (flG_T hN) (pc1 := 12) (L1 := [some (.inr (.inr (some (1, 0)))), some (.inl x1), some (.inl x2)]) (S1 := [.inl (w 1 0 1), .inl x2]) (w1 := w) (P := True) [(.iload_n 2, 0, 0, 0, 0), (.aload_n 0, 0, 0, 0, 0), (.getfield 21, 1, 1, 0, 0)] (by decide +kernel) rfl trivial ?_
    refine GE_icmpN (k := .ge) (off := 51) (tgt := 63) (by decide +kernel) (by decide) (cnd_ge _ _) (fun c1 => ?_) (fun c1 => ?_)
    · exact GE_weak [false, false, true] (hk63 x2 w)
    · refine GE_run (flG_T hN) (pc1 := 17) (L1 := [some (.inr (.inr (some (1, 0)))), some (.inl x1), some (.inl x2)]) (S1 := [.inl x2, .inr (.inr (some (1, 0)))]) (w1 := w) (P := True) [(.aload_n 0, 0, 0, 0, 0), (.iload_n 2, 0, 0, 0, 0)] (by decide +kernel) rfl trivial ?_
      refine GE_callVI (As := [.inl x2]) (k := 1) (i := 0) (S := []) (t_X1_isDigit l X hN x2 w) (by decide) ⟨me_X1_isDigit, mi_X1_isDigit, mv_X1_isDigit, lk_X1_86⟩ rfl (by decide +kernel) rfl (by decide) (by decide) (Nat.le_of_ble_eq_true rfl) (fun r2 _ => ?_)
      refine GE_if (k := .eq) (off := 43) (tgt := 63) (by decide +kernel) (by decide) (cnd_eq _ _) (fun c3 => ?_) (fun c3 => ?_)
      · exact GE_weak [false, false, true] (hk63 x2 r2.2)
      · refine GE_run (flG_T hN) (pc1 := 28) (L1 := [some (.inr (.inr (some (1, 0)))), some (.inl x1), some (.inl x2)]) (S1 := [.inl 4, .inl (x2 - x1), .inr (.inr (some (1, 0)))]) (w1 := r2.2) (P := True) [(.aload_n 0, 0, 0, 0, 0), (.iload_n 2, 0, 0, 0, 0), (.iload_n 1, 0, 0, 0, 0), (.isub, 0, 0, 0, 0), (.iconst 4, 0, 0, 4, 0)] (by decide +kernel) rfl trivial ?_
        refine GE_icmpN (k := .ge) (off := 25) (tgt := 53) (by decide +kernel) (by decide) (cnd_ge _ _) (fun c4 => ?_) (fun c4 => ?_)
        · refine GE_run (flG_T hN) (pc1 := 7) (L1 := [some (.inr (.inr (some (1, 0)))), some (.inl x1), some (.inl (x2 + 1))]) (S1 := []) (w1 := up r2.2 1 0 8 0) (P := True) [(.iconst 0, 0, 0, 0, 0), (.putfield 67, 1, 8, 0, 0), (.iinc 2 1, 0, 0, 1, 0), (.goto (-53), 0, 0, 0, 0)] (by decide +kernel) rfl trivial ?_
          exact GE_weak [true, true, true] (ih (x2 + 1) (up r2.2 1 0 8 0))
        · refine GE_run (flG_T hN) (pc1 := 43) (L1 := [some (.inr (.inr (some (1, 0)))), some (.inl x1), some (.inl x2)]) (S1 := [.inl x2, .inr (.inr (some (9, 0))), .inl ((r2.2 1 0 8) * 10), .inr (.inr (some (1, 0)))]) (w1 := r2.2) (P := True) [(.aload_n 0, 0, 0, 0, 0), (.getfield 67, 1, 8, 0, 0), (.bipush 10, 0, 0, 10, 0), (.imul, 0, 0, 0, 0), (.aload_n 0, 0, 0, 0, 0), (.getfield 9, 1, 0, 0, 0), (.iload_n 2, 0, 0, 0, 0)] (by decide +kernel) rfl trivial ?_
          refine GE_callNIp (As := [.inr (.inr (some (9, 0))), .inl x2]) (S := [.inl ((r2.2 1 0 8) * 10), .inr (.inr (some (1, 0)))]) (p_X4_at l X hN 9 0 x2 (by decide) (okM hN (by decide)) r2.2) ⟨me_X4_at, ms_X4_at, ln_X1_70⟩ (by decide +kernel) rfl (by decide) (by decide) (Nat.le_of_ble_eq_true rfl) ?_
          refine GE_run (flG_T hN) (pc1 := 7) (L1 := [some (.inr (.inr (some (1, 0)))), some (.inl x1), some (.inl (x2 + 1))]) (S1 := []) (w1 := up r2.2 1 0 8 ((((r2.2 1 0 8) * 10) + (atV r2.2 9 0 x2)) - 48)) (P := True) [(.iadd, 0, 0, 0, 0), (.bipush 48, 0, 0, 48, 0), (.isub, 0, 0, 0, 0), (.goto 4, 0, 0, 0, 0), (.putfield 67, 1, 8, 0, 0), (.iinc 2 1, 0, 0, 1, 0), (.goto (-53), 0, 0, 0, 0)] (by decide +kernel) rfl trivial ?_
          exact GE_weak [true, true, true] (ih (x2 + 1) (up r2.2 1 0 8 ((((r2.2 1 0 8) * 10) + (atV r2.2 9 0 x2)) - 48)))
noncomputable def f_X1_endOfNumber (a1 : Int32) (w : Mem) : Option (Int32 × Mem) := h_X1_endOfNumber_7 a1 (fun x2_5 w6 => some (x2_5, w6)) FU a1 (up w 1 0 8 0)
set_option maxRecDepth 100000 in
theorem t_X1_endOfNumber (l : Launch) (X : XC) {N9 : Nat} (hN : 39 ≤ N9)  (a1 : Int32) (w : Mem) : Ct l X 2 yX1_endOfNumber cX1_endOfNumber 3 (some .int) emI [.inr (.inr (some (1, 0))), .inl a1] N9 flT w (f_X1_endOfNumber a1 w) := by
  refine Ct_of (mi := mm_X1_endOfNumber) (mik_X1 _ _ _) me_X1_endOfNumber rfl (okAs_cons (okMV hN (by decide)) (okAs_cons rfl okAs_nil)) (Nat.le_of_ble_eq_true rfl) ?_
  unfold f_X1_endOfNumber
  refine GE_run (flG_T hN) (pc1 := 7) (L1 := [some (.inr (.inr (some (1, 0)))), some (.inl a1), some (.inl a1)]) (S1 := []) (w1 := up w 1 0 8 0) (P := True) [(.iload_n 1, 0, 0, 0, 0), (.istore_n 2, 0, 0, 0, 0), (.aload_n 0, 0, 0, 0, 0), (.iconst 0, 0, 0, 0, 0), (.putfield 67, 1, 8, 0, 0)] (by decide +kernel) rfl trivial ?_
  refine GE_weak [true, true, true] (h_X1_endOfNumber_7_ok l X hN a1 _ ?_ FU a1 (up w 1 0 8 0))
  · intro x2_5 w6
    refine GE_run (flG_T hN) (pc1 := 64) (L1 := [none, none, some (.inl x2_5)]) (S1 := [.inl x2_5]) (w1 := w6) (P := True) [(.iload_n 2, 0, 0, 0, 0)] (by decide +kernel) rfl trivial ?_
    exact GE_iret rfl (by decide +kernel)
abbrev mm_X1_spells : MI := (RX1, cX1_spells, 3, (some .boolean), ftp_X1.map (fun q => q.1), ctp_X1.map (fun q => q.1), clp_X1.map (fun q => q.1))
noncomputable def h_X1_spells_24 (i1 : Nat) (k61 : Mem → Option (Int32 × Mem)) : Nat → Int32 → Mem → Option (Int32 × Mem)
  | 0, _, _ => none
  | n + 1, x2, w => if x2 < (nI (lenS.getD i1 0)) then (if inB x2 (lenS.getD i1 0) then (if (chS i1 x2) = (atV w 9 0 ((w 1 0 6) + x2)) then ((h_X1_spells_24 i1 k61 n) (x2 + 1) w) else (some (0, w))) else none) else (k61 w)
set_option maxRecDepth 100000 in
theorem h_X1_spells_24_ok (l : Launch) (X : XC) {N9 : Nat} (hN : 39 ≤ N9) (i1 : Nat) (k61 : Mem → Option (Int32 × Mem)) (hi1 : i1 < 12) (hk61 : ∀  (w : Mem), GE l X mm_X1_spells 4 emI N9 flT (k61 w) 61 [none, none, none] [] w) : ∀ (n : Nat) (x2 : Int32) (w : Mem), GE l X mm_X1_spells 4 emI N9 flT ((h_X1_spells_24 i1 k61 n) x2 w) 24 [some (.inr (.inr (some (1, 0)))), some (.inr (.inr (some (40, i1)))), some (.inl x2)] [] w := by
  intro n
  induction n with
  | zero => intro x2 w; exact GE_none
  | succ n ih =>
    intro x2 w
    unfold h_X1_spells_24
    refine GE_run (flG_T hN) (pc1 := 26) (L1 := [some (.inr (.inr (some (1, 0)))), some (.inr (.inr (some (40, i1)))), some (.inl x2)]) (S1 := [.inr (.inr (some (40, i1))), .inl x2]) (w1 := w) (P := True) [(.iload_n 2, 0, 0, 0, 0), (.aload_n 1, 0, 0, 0, 0)] (by decide +kernel) rfl trivial ?_
    refine GE_lenP (S := [.inl x2]) hN hi1 ⟨me_J0_length_8abf5, mi_J0_length_8abf5, mv_J0_length_8abf5, lk_X1_123⟩ (by decide +kernel) (by decide) (Nat.le_of_ble_eq_true rfl) ?_
    refine GE_icmpN (k := .ge) (off := 32) (tgt := 61) (by decide +kernel) (by decide) (cnd_ge _ _) (fun c2 => ?_) (fun c2 => ?_)
    · exact GE_weak [false, false, false] (hk61 w)
    · refine GE_run (flG_T hN) (pc1 := 34) (L1 := [some (.inr (.inr (some (1, 0)))), some (.inr (.inr (some (40, i1)))), some (.inl x2)]) (S1 := [.inl x2, .inr (.inr (some (40, i1)))]) (w1 := w) (P := True) [(.aload_n 1, 0, 0, 0, 0), (.iload_n 2, 0, 0, 0, 0)] (by decide +kernel) rfl trivial ?_
      refine GE_chk (fun h3 => ?_)
      refine GE_chrP (S := []) hN hi1 h3 ⟨me_J0_charAt_5068e, mi_J0_charAt_5068e, mv_J0_charAt_5068e, lk_X1_128⟩ (by decide +kernel) (by decide) (Nat.le_of_ble_eq_true rfl) ?_
      refine GE_run (flG_T hN) (pc1 := 47) (L1 := [some (.inr (.inr (some (1, 0)))), some (.inr (.inr (some (40, i1)))), some (.inl x2)]) (S1 := [.inl ((w 1 0 6) + x2), .inr (.inr (some (9, 0))), .inl (chS i1 x2)]) (w1 := w) (P := True) [(.aload_n 0, 0, 0, 0, 0), (.getfield 9, 1, 0, 0, 0), (.aload_n 0, 0, 0, 0, 0), (.getfield 41, 1, 6, 0, 0), (.iload_n 2, 0, 0, 0, 0), (.iadd, 0, 0, 0, 0)] (by decide +kernel) rfl trivial ?_
      refine GE_callNIp (As := [.inr (.inr (some (9, 0))), .inl ((w 1 0 6) + x2)]) (S := [.inl (chS i1 x2)]) (p_X4_at l X hN 9 0 ((w 1 0 6) + x2) (by decide) (okM hN (by decide)) w) ⟨me_X4_at, ms_X4_at, ln_X1_70⟩ (by decide +kernel) rfl (by decide) (by decide) (Nat.le_of_ble_eq_true rfl) ?_
      refine GE_icmp (k := .eq) (off := 5) (tgt := 55) (by decide +kernel) (by decide) (cnd_eq _ _) (fun c4 => ?_) (fun c4 => ?_)
      · refine GE_run (flG_T hN) (pc1 := 24) (L1 := [some (.inr (.inr (some (1, 0)))), some (.inr (.inr (some (40, i1)))), some (.inl (x2 + 1))]) (S1 := []) (w1 := w) (P := True) [(.iinc 2 1, 0, 0, 1, 0), (.goto (-34), 0, 0, 0, 0)] (by decide +kernel) rfl trivial ?_
        exact GE_weak [true, true, true] (ih (x2 + 1) w)
      · refine GE_run (flG_T hN) (pc1 := 54) (L1 := [some (.inr (.inr (some (1, 0)))), some (.inr (.inr (some (40, i1)))), some (.inl x2)]) (S1 := [.inl 0]) (w1 := w) (P := True) [(.iconst 0, 0, 0, 0, 0)] (by decide +kernel) rfl trivial ?_
        exact GE_zret (ty := .boolean) rfl (by decide +kernel) (by decide +kernel)
noncomputable def f_X1_spells (i1 : Nat) (w : Mem) : Option (Int32 × Mem) := if (nI (lenS.getD i1 0)) = ((w 1 0 7) - (w 1 0 6)) then (h_X1_spells_24 i1 (fun w5 => some (1, w5)) FU 0 w) else (some (0, w))
set_option maxRecDepth 100000 in
theorem t_X1_spells (l : Launch) (X : XC) {N9 : Nat} (hN : 39 ≤ N9)  (i1 : Nat) (hi1 : i1 < 12) (w : Mem) : Ct l X 4 yX1_spells cX1_spells 3 (some .boolean) emI [.inr (.inr (some (1, 0))), .inr (.inr (some (40, i1)))] N9 flT w (f_X1_spells i1 w) := by
  refine Ct_of (mi := mm_X1_spells) (mik_X1 _ _ _) me_X1_spells rfl (okAs_cons (okMV hN (by decide)) (okAs_cons (ok40 (by omega)) okAs_nil)) (Nat.le_of_ble_eq_true rfl) ?_
  unfold f_X1_spells
  refine GE_run (flG_T hN) (pc1 := 1) (L1 := [some (.inr (.inr (some (1, 0)))), some (.inr (.inr (some (40, i1)))), none]) (S1 := [.inr (.inr (some (40, i1)))]) (w1 := w) (P := True) [(.aload_n 1, 0, 0, 0, 0)] (by decide +kernel) rfl trivial ?_
  refine GE_null1 (off := 19) (by decide +kernel) ?_
  refine GE_run (flG_T hN) (pc1 := 5) (L1 := [some (.inr (.inr (some (1, 0)))), some (.inr (.inr (some (40, i1)))), none]) (S1 := [.inr (.inr (some (40, i1)))]) (w1 := w) (P := True) [(.aload_n 1, 0, 0, 0, 0)] (by decide +kernel) rfl trivial ?_
  refine GE_lenP (S := []) hN hi1 ⟨me_J0_length_8abf5, mi_J0_length_8abf5, mv_J0_length_8abf5, lk_X1_123⟩ (by decide +kernel) (by decide) (Nat.le_of_ble_eq_true rfl) ?_
  refine GE_run (flG_T hN) (pc1 := 17) (L1 := [some (.inr (.inr (some (1, 0)))), some (.inr (.inr (some (40, i1)))), none]) (S1 := [.inl ((w 1 0 7) - (w 1 0 6)), .inl (nI (lenS.getD i1 0))]) (w1 := w) (P := True) [(.aload_n 0, 0, 0, 0, 0), (.getfield 32, 1, 7, 0, 0), (.aload_n 0, 0, 0, 0, 0), (.getfield 41, 1, 6, 0, 0), (.isub, 0, 0, 0, 0)] (by decide +kernel) rfl trivial ?_
  refine GE_icmp (k := .eq) (off := 5) (tgt := 22) (by decide +kernel) (by decide) (cnd_eq _ _) (fun c1 => ?_) (fun c1 => ?_)
  · refine GE_run (flG_T hN) (pc1 := 24) (L1 := [some (.inr (.inr (some (1, 0)))), some (.inr (.inr (some (40, i1)))), some (.inl 0)]) (S1 := []) (w1 := w) (P := True) [(.iconst 0, 0, 0, 0, 0), (.istore_n 2, 0, 0, 0, 0)] (by decide +kernel) rfl trivial ?_
    refine GE_weak [true, true, true] (h_X1_spells_24_ok l X hN i1 _ hi1 ?_ FU 0 w)
    · intro w5
      refine GE_run (flG_T hN) (pc1 := 62) (L1 := [none, none, none]) (S1 := [.inl 1]) (w1 := w5) (P := True) [(.iconst 1, 0, 0, 1, 0)] (by decide +kernel) rfl trivial ?_
      exact GE_zret (ty := .boolean) rfl (by decide +kernel) (by decide +kernel)
  · refine GE_run (flG_T hN) (pc1 := 21) (L1 := [some (.inr (.inr (some (1, 0)))), some (.inr (.inr (some (40, i1)))), none]) (S1 := [.inl 0]) (w1 := w) (P := True) [(.iconst 0, 0, 0, 0, 0)] (by decide +kernel) rfl trivial ?_
    exact GE_zret (ty := .boolean) rfl (by decide +kernel) (by decide +kernel)
abbrev mm_X1_wordOf : MI := (RX1, cX1_wordOf, 1, (some .int), ftp_X1.map (fun q => q.1), ctp_X1.map (fun q => q.1), clp_X1.map (fun q => q.1))
noncomputable def f_X1_wordOf  (w : Mem) : Option (Int32 × Mem) := Option.bind (f_X1_spells 0 w) (fun r1 => if r1.1 = 0 then (Option.bind (f_X1_spells 1 r1.2) (fun r3 => if r3.1 = 0 then (Option.bind (f_X1_spells 2 r3.2) (fun r5 => if r5.1 = 0 then (Option.bind (f_X1_spells 3 r5.2) (fun r7 => if r7.1 = 0 then (Option.bind (f_X1_spells 4 r7.2) (fun r9 => if r9.1 = 0 then (Option.bind (f_X1_spells 5 r9.2) (fun r11 => if r11.1 = 0 then (Option.bind (f_X1_spells 6 r11.2) (fun r13 => if r13.1 = 0 then (Option.bind (f_X1_spells 7 r13.2) (fun r15 => if r15.1 = 0 then (Option.bind (f_X1_spells 8 r15.2) (fun r17 => if r17.1 = 0 then (Option.bind (f_X1_spells 9 r17.2) (fun r19 => if r19.1 = 0 then (Option.bind (f_X1_spells 10 r19.2) (fun r21 => if r21.1 = 0 then (Option.bind (f_X1_spells 11 r21.2) (fun r23 => if r23.1 = 0 then (some (1, r23.2)) else (some ((-6), r23.2)))) else (some ((-5), r21.2)))) else (some ((-4), r19.2)))) else (some ((-3), r17.2)))) else (some ((-2), r15.2)))) else (some ((-1), r13.2)))) else (some (8, r11.2)))) else (some (7, r9.2)))) else (some (6, r7.2)))) else (some (5, r5.2)))) else (some (4, r3.2)))) else (some (3, r1.2)))
set_option maxRecDepth 100000 in
theorem t_X1_wordOf (l : Launch) (X : XC) {N9 : Nat} (hN : 39 ≤ N9)   (w : Mem) : Ct l X 5 yX1_wordOf cX1_wordOf 1 (some .int) emI [.inr (.inr (some (1, 0)))] N9 flT w (f_X1_wordOf  w) := by
  refine Ct_of (mi := mm_X1_wordOf) (mik_X1 _ _ _) me_X1_wordOf rfl (okAs_cons (okMV hN (by decide)) okAs_nil) (Nat.le_of_ble_eq_true rfl) ?_
  unfold f_X1_wordOf
  refine GE_run (flG_T hN) (pc1 := 1) (L1 := [some (.inr (.inr (some (1, 0))))]) (S1 := [.inr (.inr (some (1, 0)))]) (w1 := w) (P := True) [(.aload_n 0, 0, 0, 0, 0)] (by decide +kernel) rfl trivial ?_
  refine GE_ldcS "lets" 0 (List.mem_of_getElem? (i := 0) rfl) (by decide) (by decide +kernel) ?_
  refine GE_callVI (As := [.inr (.inr (some (40, 0)))]) (k := 1) (i := 0) (S := []) (t_X1_spells l X hN 0 (by decide) w) (by decide) ⟨me_X1_spells, mi_X1_spells, mv_X1_spells, lk_X1_97⟩ rfl (by decide +kernel) rfl (by decide) (by decide) (Nat.le_of_ble_eq_true rfl) (fun r1 _ => ?_)
  refine GE_if (k := .eq) (off := 5) (tgt := 11) (by decide +kernel) (by decide) (cnd_eq _ _) (fun c2 => ?_) (fun c2 => ?_)
  · refine GE_run (flG_T hN) (pc1 := 12) (L1 := [some (.inr (.inr (some (1, 0))))]) (S1 := [.inr (.inr (some (1, 0)))]) (w1 := r1.2) (P := True) [(.aload_n 0, 0, 0, 0, 0)] (by decide +kernel) rfl trivial ?_
    refine GE_ldcS "lucks" 1 (List.mem_of_getElem? (i := 1) rfl) (by decide) (by decide +kernel) ?_
    refine GE_callVI (As := [.inr (.inr (some (40, 1)))]) (k := 1) (i := 0) (S := []) (t_X1_spells l X hN 1 (by decide) r1.2) (by decide) ⟨me_X1_spells, mi_X1_spells, mv_X1_spells, lk_X1_97⟩ rfl (by decide +kernel) rfl (by decide) (by decide) (Nat.le_of_ble_eq_true rfl) (fun r3 _ => ?_)
    refine GE_if (k := .eq) (off := 5) (tgt := 22) (by decide +kernel) (by decide) (cnd_eq _ _) (fun c4 => ?_) (fun c4 => ?_)
    · refine GE_run (flG_T hN) (pc1 := 23) (L1 := [some (.inr (.inr (some (1, 0))))]) (S1 := [.inr (.inr (some (1, 0)))]) (w1 := r3.2) (P := True) [(.aload_n 0, 0, 0, 0, 0)] (by decide +kernel) rfl trivial ?_
      refine GE_ldcS "takes" 2 (List.mem_of_getElem? (i := 2) rfl) (by decide) (by decide +kernel) ?_
      refine GE_callVI (As := [.inr (.inr (some (40, 2)))]) (k := 1) (i := 0) (S := []) (t_X1_spells l X hN 2 (by decide) r3.2) (by decide) ⟨me_X1_spells, mi_X1_spells, mv_X1_spells, lk_X1_97⟩ rfl (by decide +kernel) rfl (by decide) (by decide) (Nat.le_of_ble_eq_true rfl) (fun r5 _ => ?_)
      refine GE_if (k := .eq) (off := 5) (tgt := 33) (by decide +kernel) (by decide) (cnd_eq _ _) (fun c6 => ?_) (fun c6 => ?_)
      · refine GE_run (flG_T hN) (pc1 := 34) (L1 := [some (.inr (.inr (some (1, 0))))]) (S1 := [.inr (.inr (some (1, 0)))]) (w1 := r5.2) (P := True) [(.aload_n 0, 0, 0, 0, 0)] (by decide +kernel) rfl trivial ?_
        refine GE_ldcS "or" 3 (List.mem_of_getElem? (i := 3) rfl) (by decide) (by decide +kernel) ?_
        refine GE_callVI (As := [.inr (.inr (some (40, 3)))]) (k := 1) (i := 0) (S := []) (t_X1_spells l X hN 3 (by decide) r5.2) (by decide) ⟨me_X1_spells, mi_X1_spells, mv_X1_spells, lk_X1_97⟩ rfl (by decide +kernel) rfl (by decide) (by decide) (Nat.le_of_ble_eq_true rfl) (fun r7 _ => ?_)
        refine GE_if (k := .eq) (off := 6) (tgt := 45) (by decide +kernel) (by decide) (cnd_eq _ _) (fun c8 => ?_) (fun c8 => ?_)
        · refine GE_run (flG_T hN) (pc1 := 46) (L1 := [some (.inr (.inr (some (1, 0))))]) (S1 := [.inr (.inr (some (1, 0)))]) (w1 := r7.2) (P := True) [(.aload_n 0, 0, 0, 0, 0)] (by decide +kernel) rfl trivial ?_
          refine GE_ldcS "and" 4 (List.mem_of_getElem? (i := 4) rfl) (by decide) (by decide +kernel) ?_
          refine GE_callVI (As := [.inr (.inr (some (40, 4)))]) (k := 1) (i := 0) (S := []) (t_X1_spells l X hN 4 (by decide) r7.2) (by decide) ⟨me_X1_spells, mi_X1_spells, mv_X1_spells, lk_X1_97⟩ rfl (by decide +kernel) rfl (by decide) (by decide) (Nat.le_of_ble_eq_true rfl) (fun r9 _ => ?_)
          refine GE_if (k := .eq) (off := 6) (tgt := 57) (by decide +kernel) (by decide) (cnd_eq _ _) (fun c10 => ?_) (fun c10 => ?_)
          · refine GE_run (flG_T hN) (pc1 := 58) (L1 := [some (.inr (.inr (some (1, 0))))]) (S1 := [.inr (.inr (some (1, 0)))]) (w1 := r9.2) (P := True) [(.aload_n 0, 0, 0, 0, 0)] (by decide +kernel) rfl trivial ?_
            refine GE_ldcS "not" 5 (List.mem_of_getElem? (i := 5) rfl) (by decide) (by decide +kernel) ?_
            refine GE_callVI (As := [.inr (.inr (some (40, 5)))]) (k := 1) (i := 0) (S := []) (t_X1_spells l X hN 5 (by decide) r9.2) (by decide) ⟨me_X1_spells, mi_X1_spells, mv_X1_spells, lk_X1_97⟩ rfl (by decide +kernel) rfl (by decide) (by decide) (Nat.le_of_ble_eq_true rfl) (fun r11 _ => ?_)
            refine GE_if (k := .eq) (off := 6) (tgt := 69) (by decide +kernel) (by decide) (cnd_eq _ _) (fun c12 => ?_) (fun c12 => ?_)
            · refine GE_run (flG_T hN) (pc1 := 70) (L1 := [some (.inr (.inr (some (1, 0))))]) (S1 := [.inr (.inr (some (1, 0)))]) (w1 := r11.2) (P := True) [(.aload_n 0, 0, 0, 0, 0)] (by decide +kernel) rfl trivial ?_
              refine GE_ldcS "thing" 6 (List.mem_of_getElem? (i := 6) rfl) (by decide) (by decide +kernel) ?_
              refine GE_callVI (As := [.inr (.inr (some (40, 6)))]) (k := 1) (i := 0) (S := []) (t_X1_spells l X hN 6 (by decide) r11.2) (by decide) ⟨me_X1_spells, mi_X1_spells, mv_X1_spells, lk_X1_97⟩ rfl (by decide +kernel) rfl (by decide) (by decide) (Nat.le_of_ble_eq_true rfl) (fun r13 _ => ?_)
              refine GE_if (k := .eq) (off := 5) (tgt := 80) (by decide +kernel) (by decide) (cnd_eq _ _) (fun c14 => ?_) (fun c14 => ?_)
              · refine GE_run (flG_T hN) (pc1 := 81) (L1 := [some (.inr (.inr (some (1, 0))))]) (S1 := [.inr (.inr (some (1, 0)))]) (w1 := r13.2) (P := True) [(.aload_n 0, 0, 0, 0, 0)] (by decide +kernel) rfl trivial ?_
                refine GE_ldcS "known" 7 (List.mem_of_getElem? (i := 7) rfl) (by decide) (by decide +kernel) ?_
                refine GE_callVI (As := [.inr (.inr (some (40, 7)))]) (k := 1) (i := 0) (S := []) (t_X1_spells l X hN 7 (by decide) r13.2) (by decide) ⟨me_X1_spells, mi_X1_spells, mv_X1_spells, lk_X1_97⟩ rfl (by decide +kernel) rfl (by decide) (by decide) (Nat.le_of_ble_eq_true rfl) (fun r15 _ => ?_)
                refine GE_if (k := .eq) (off := 6) (tgt := 92) (by decide +kernel) (by decide) (cnd_eq _ _) (fun c16 => ?_) (fun c16 => ?_)
                · refine GE_run (flG_T hN) (pc1 := 93) (L1 := [some (.inr (.inr (some (1, 0))))]) (S1 := [.inr (.inr (some (1, 0)))]) (w1 := r15.2) (P := True) [(.aload_n 0, 0, 0, 0, 0)] (by decide +kernel) rfl trivial ?_
                  refine GE_ldcS "kept" 8 (List.mem_of_getElem? (i := 8) rfl) (by decide) (by decide +kernel) ?_
                  refine GE_callVI (As := [.inr (.inr (some (40, 8)))]) (k := 1) (i := 0) (S := []) (t_X1_spells l X hN 8 (by decide) r15.2) (by decide) ⟨me_X1_spells, mi_X1_spells, mv_X1_spells, lk_X1_97⟩ rfl (by decide +kernel) rfl (by decide) (by decide) (Nat.le_of_ble_eq_true rfl) (fun r17 _ => ?_)
                  refine GE_if (k := .eq) (off := 6) (tgt := 104) (by decide +kernel) (by decide) (cnd_eq _ _) (fun c18 => ?_) (fun c18 => ?_)
                  · refine GE_run (flG_T hN) (pc1 := 105) (L1 := [some (.inr (.inr (some (1, 0))))]) (S1 := [.inr (.inr (some (1, 0)))]) (w1 := r17.2) (P := True) [(.aload_n 0, 0, 0, 0, 0)] (by decide +kernel) rfl trivial ?_
                    refine GE_ldcS "tide" 9 (List.mem_of_getElem? (i := 9) rfl) (by decide) (by decide +kernel) ?_
                    refine GE_callVI (As := [.inr (.inr (some (40, 9)))]) (k := 1) (i := 0) (S := []) (t_X1_spells l X hN 9 (by decide) r17.2) (by decide) ⟨me_X1_spells, mi_X1_spells, mv_X1_spells, lk_X1_97⟩ rfl (by decide +kernel) rfl (by decide) (by decide) (Nat.le_of_ble_eq_true rfl) (fun r19 _ => ?_)
                    refine GE_if (k := .eq) (off := 6) (tgt := 116) (by decide +kernel) (by decide) (cnd_eq _ _) (fun c20 => ?_) (fun c20 => ?_)
                    · refine GE_run (flG_T hN) (pc1 := 117) (L1 := [some (.inr (.inr (some (1, 0))))]) (S1 := [.inr (.inr (some (1, 0)))]) (w1 := r19.2) (P := True) [(.aload_n 0, 0, 0, 0, 0)] (by decide +kernel) rfl trivial ?_
                      refine GE_ldcS "luck" 10 (List.mem_of_getElem? (i := 10) rfl) (by decide) (by decide +kernel) ?_
                      refine GE_callVI (As := [.inr (.inr (some (40, 10)))]) (k := 1) (i := 0) (S := []) (t_X1_spells l X hN 10 (by decide) r19.2) (by decide) ⟨me_X1_spells, mi_X1_spells, mv_X1_spells, lk_X1_97⟩ rfl (by decide +kernel) rfl (by decide) (by decide) (Nat.le_of_ble_eq_true rfl) (fun r21 _ => ?_)
                      refine GE_if (k := .eq) (off := 6) (tgt := 128) (by decide +kernel) (by decide) (cnd_eq _ _) (fun c22 => ?_) (fun c22 => ?_)
                      · refine GE_run (flG_T hN) (pc1 := 129) (L1 := [some (.inr (.inr (some (1, 0))))]) (S1 := [.inr (.inr (some (1, 0)))]) (w1 := r21.2) (P := True) [(.aload_n 0, 0, 0, 0, 0)] (by decide +kernel) rfl trivial ?_
                        refine GE_ldcS "more" 11 (List.mem_of_getElem? (i := 11) rfl) (by decide) (by decide +kernel) ?_
                        refine GE_callVI (As := [.inr (.inr (some (40, 11)))]) (k := 1) (i := 0) (S := []) (t_X1_spells l X hN 11 (by decide) r21.2) (by decide) ⟨me_X1_spells, mi_X1_spells, mv_X1_spells, lk_X1_97⟩ rfl (by decide +kernel) rfl (by decide) (by decide) (Nat.le_of_ble_eq_true rfl) (fun r23 _ => ?_)
                        refine GE_if (k := .eq) (off := 8) (tgt := 142) (by decide +kernel) (by decide) (cnd_eq _ _) (fun c24 => ?_) (fun c24 => ?_)
                        · refine GE_run (flG_T hN) (pc1 := 143) (L1 := [some (.inr (.inr (some (1, 0))))]) (S1 := [.inl 1]) (w1 := r23.2) (P := True) [(.iconst 1, 0, 0, 1, 0)] (by decide +kernel) rfl trivial ?_
                          exact GE_iret rfl (by decide +kernel)
                        · refine GE_run (flG_T hN) (pc1 := 143) (L1 := [some (.inr (.inr (some (1, 0))))]) (S1 := [.inl (-6)]) (w1 := r23.2) (P := True) [(.bipush (-6), 0, 0, -6, 0), (.goto 4, 0, 0, 0, 0)] (by decide +kernel) rfl trivial ?_
                          exact GE_iret rfl (by decide +kernel)
                      · refine GE_run (flG_T hN) (pc1 := 127) (L1 := [some (.inr (.inr (some (1, 0))))]) (S1 := [.inl (-5)]) (w1 := r21.2) (P := True) [(.bipush (-5), 0, 0, -5, 0)] (by decide +kernel) rfl trivial ?_
                        exact GE_iret rfl (by decide +kernel)
                    · refine GE_run (flG_T hN) (pc1 := 115) (L1 := [some (.inr (.inr (some (1, 0))))]) (S1 := [.inl (-4)]) (w1 := r19.2) (P := True) [(.bipush (-4), 0, 0, -4, 0)] (by decide +kernel) rfl trivial ?_
                      exact GE_iret rfl (by decide +kernel)
                  · refine GE_run (flG_T hN) (pc1 := 103) (L1 := [some (.inr (.inr (some (1, 0))))]) (S1 := [.inl (-3)]) (w1 := r17.2) (P := True) [(.bipush (-3), 0, 0, -3, 0)] (by decide +kernel) rfl trivial ?_
                    exact GE_iret rfl (by decide +kernel)
                · refine GE_run (flG_T hN) (pc1 := 91) (L1 := [some (.inr (.inr (some (1, 0))))]) (S1 := [.inl (-2)]) (w1 := r15.2) (P := True) [(.bipush (-2), 0, 0, -2, 0)] (by decide +kernel) rfl trivial ?_
                  exact GE_iret rfl (by decide +kernel)
              · refine GE_run (flG_T hN) (pc1 := 79) (L1 := [some (.inr (.inr (some (1, 0))))]) (S1 := [.inl (-1)]) (w1 := r13.2) (P := True) [(.iconst (-1), 0, 0, -1, 0)] (by decide +kernel) rfl trivial ?_
                exact GE_iret rfl (by decide +kernel)
            · refine GE_run (flG_T hN) (pc1 := 68) (L1 := [some (.inr (.inr (some (1, 0))))]) (S1 := [.inl 8]) (w1 := r11.2) (P := True) [(.bipush 8, 0, 0, 8, 0)] (by decide +kernel) rfl trivial ?_
              exact GE_iret rfl (by decide +kernel)
          · refine GE_run (flG_T hN) (pc1 := 56) (L1 := [some (.inr (.inr (some (1, 0))))]) (S1 := [.inl 7]) (w1 := r9.2) (P := True) [(.bipush 7, 0, 0, 7, 0)] (by decide +kernel) rfl trivial ?_
            exact GE_iret rfl (by decide +kernel)
        · refine GE_run (flG_T hN) (pc1 := 44) (L1 := [some (.inr (.inr (some (1, 0))))]) (S1 := [.inl 6]) (w1 := r7.2) (P := True) [(.bipush 6, 0, 0, 6, 0)] (by decide +kernel) rfl trivial ?_
          exact GE_iret rfl (by decide +kernel)
      · refine GE_run (flG_T hN) (pc1 := 32) (L1 := [some (.inr (.inr (some (1, 0))))]) (S1 := [.inl 5]) (w1 := r5.2) (P := True) [(.iconst 5, 0, 0, 5, 0)] (by decide +kernel) rfl trivial ?_
        exact GE_iret rfl (by decide +kernel)
    · refine GE_run (flG_T hN) (pc1 := 21) (L1 := [some (.inr (.inr (some (1, 0))))]) (S1 := [.inl 4]) (w1 := r3.2) (P := True) [(.iconst 4, 0, 0, 4, 0)] (by decide +kernel) rfl trivial ?_
      exact GE_iret rfl (by decide +kernel)
  · refine GE_run (flG_T hN) (pc1 := 10) (L1 := [some (.inr (.inr (some (1, 0))))]) (S1 := [.inl 3]) (w1 := r1.2) (P := True) [(.iconst 3, 0, 0, 3, 0)] (by decide +kernel) rfl trivial ?_
    exact GE_iret rfl (by decide +kernel)
abbrev mm_X1_next : MI := (RX1, cX1_next, 2, none, ftp_X1.map (fun q => q.1), ctp_X1.map (fun q => q.1), clp_X1.map (fun q => q.1))
noncomputable def h_X1_next_5  (k45 : Int32 → Mem → Option (Mem)) : Nat → Int32 → Mem → Option (Mem)
  | 0, _, _ => none
  | n + 1, x1, w => if x1 < (w 1 0 1) then (if (atV w 9 0 x1) = 32 then ((h_X1_next_5 k45 n) (x1 + 1) w) else (if (atV w 9 0 x1) = 10 then ((h_X1_next_5 k45 n) (x1 + 1) w) else (k45 x1 w))) else (k45 x1 w)
set_option maxRecDepth 100000 in
theorem h_X1_next_5_ok (l : Launch) (X : XC) {N9 : Nat} (hN : 39 ≤ N9)  (k45 : Int32 → Mem → Option (Mem))  (hk45 : ∀ (x1 : Int32) (w : Mem), GE l X mm_X1_next 6 emV N9 flT (k45 x1 w) 45 [some (.inr (.inr (some (1, 0)))), some (.inl x1)] [] w) : ∀ (n : Nat) (x1 : Int32) (w : Mem), GE l X mm_X1_next 6 emV N9 flT ((h_X1_next_5 k45 n) x1 w) 5 [some (.inr (.inr (some (1, 0)))), some (.inl x1)] [] w := by
  intro n
  induction n with
  | zero => intro x1 w; exact GE_none
  | succ n ih =>
    intro x1 w
    unfold h_X1_next_5
    refine GE_run (flG_T hN) (pc1 := 10) (L1 := [some (.inr (.inr (some (1, 0)))), some (.inl x1)]) (S1 := [.inl (w 1 0 1), .inl x1]) (w1 := w) (P := True) [(.iload_n 1, 0, 0, 0, 0), (.aload_n 0, 0, 0, 0, 0), (.getfield 21, 1, 1, 0, 0)] (by decide +kernel) rfl trivial ?_
    refine GE_icmpN (k := .ge) (off := 35) (tgt := 45) (by decide +kernel) (by decide) (cnd_ge _ _) (fun c1 => ?_) (fun c1 => ?_)
    · exact GE_weak [true, true] (hk45 x1 w)
    · refine GE_run (flG_T hN) (pc1 := 18) (L1 := [some (.inr (.inr (some (1, 0)))), some (.inl x1)]) (S1 := [.inl x1, .inr (.inr (some (9, 0)))]) (w1 := w) (P := True) [(.aload_n 0, 0, 0, 0, 0), (.getfield 9, 1, 0, 0, 0), (.iload_n 1, 0, 0, 0, 0)] (by decide +kernel) rfl trivial ?_
      refine GE_callNIp (As := [.inr (.inr (some (9, 0))), .inl x1]) (S := []) (p_X4_at l X hN 9 0 x1 (by decide) (okM hN (by decide)) w) ⟨me_X4_at, ms_X4_at, ln_X1_70⟩ (by decide +kernel) rfl (by decide) (by decide) (Nat.le_of_ble_eq_true rfl) ?_
      refine GE_run (flG_T hN) (pc1 := 23) (L1 := [some (.inr (.inr (some (1, 0)))), some (.inl x1)]) (S1 := [.inl 32, .inl (atV w 9 0 x1)]) (w1 := w) (P := True) [(.bipush 32, 0, 0, 32, 0)] (by decide +kernel) rfl trivial ?_
      refine GE_icmp (k := .eq) (off := 16) (tgt := 39) (by decide +kernel) (by decide) (cnd_eq _ _) (fun c2 => ?_) (fun c2 => ?_)
      · refine GE_run (flG_T hN) (pc1 := 5) (L1 := [some (.inr (.inr (some (1, 0)))), some (.inl (x1 + 1))]) (S1 := []) (w1 := w) (P := True) [(.iinc 1 1, 0, 0, 1, 0), (.goto (-37), 0, 0, 0, 0)] (by decide +kernel) rfl trivial ?_
        exact GE_weak [true, true] (ih (x1 + 1) w)
      · refine GE_run (flG_T hN) (pc1 := 31) (L1 := [some (.inr (.inr (some (1, 0)))), some (.inl x1)]) (S1 := [.inl x1, .inr (.inr (some (9, 0)))]) (w1 := w) (P := True) [(.aload_n 0, 0, 0, 0, 0), (.getfield 9, 1, 0, 0, 0), (.iload_n 1, 0, 0, 0, 0)] (by decide +kernel) rfl trivial ?_
        refine GE_callNIp (As := [.inr (.inr (some (9, 0))), .inl x1]) (S := []) (p_X4_at l X hN 9 0 x1 (by decide) (okM hN (by decide)) w) ⟨me_X4_at, ms_X4_at, ln_X1_70⟩ (by decide +kernel) rfl (by decide) (by decide) (Nat.le_of_ble_eq_true rfl) ?_
        refine GE_run (flG_T hN) (pc1 := 36) (L1 := [some (.inr (.inr (some (1, 0)))), some (.inl x1)]) (S1 := [.inl 10, .inl (atV w 9 0 x1)]) (w1 := w) (P := True) [(.bipush 10, 0, 0, 10, 0)] (by decide +kernel) rfl trivial ?_
        refine GE_icmpN (k := .ne) (off := 9) (tgt := 45) (by decide +kernel) (by decide) (cnd_ne _ _) (fun c3 => ?_) (fun c3 => ?_)
        · exact GE_weak [true, true] (hk45 x1 w)
        · refine GE_run (flG_T hN) (pc1 := 5) (L1 := [some (.inr (.inr (some (1, 0)))), some (.inl (x1 + 1))]) (S1 := []) (w1 := w) (P := True) [(.iinc 1 1, 0, 0, 1, 0), (.goto (-37), 0, 0, 0, 0)] (by decide +kernel) rfl trivial ?_
          exact GE_weak [true, true] (ih (x1 + 1) w)
noncomputable def j_X1_next_45   (x1 : Int32) (w : Mem) : Option (Mem) := if x1 < ((up w 1 0 6 x1) 1 0 1) then (Option.bind (f_X1_isLetter x1 (up w 1 0 6 x1)) (fun r7 => if r7.1 = 0 then (Option.bind (f_X1_isDigit x1 r7.2) (fun r9 => if r9.1 = 0 then (Option.bind (f_X1_isSign (atV (up r9.2 1 0 7 (x1 + 1)) 9 0 x1) (up r9.2 1 0 7 (x1 + 1))) (fun r11 => if r11.1 = 0 then (some (up r11.2 1 0 5 1)) else (some (up r11.2 1 0 5 (atV r11.2 9 0 x1))))) else (Option.bind (f_X1_endOfNumber x1 r9.2) (fun r13 => if (((up r13.2 1 0 7 r13.1) 1 0 7) - x1) ≤ 4 then (some (up (up r13.2 1 0 7 r13.1) 1 0 5 2)) else (some (up (up r13.2 1 0 7 r13.1) 1 0 5 1)))))) else (Option.bind (f_X1_endOfWord x1 r7.2) (fun r15 => Option.bind (f_X1_wordOf  (up r15.2 1 0 7 r15.1)) (fun r16 => some (up r16.2 1 0 5 r16.1)))))) else (some (up (up (up w 1 0 6 x1) 1 0 7 x1) 1 0 5 0))
set_option maxRecDepth 100000 in
theorem j_X1_next_45_ok (l : Launch) (X : XC) {N9 : Nat} (hN : 39 ≤ N9)   (x1 : Int32)   (w : Mem) : GE l X mm_X1_next 6 emV N9 flT (j_X1_next_45 x1 w) 45 [some (.inr (.inr (some (1, 0)))), some (.inl x1)] [] w := by
  unfold j_X1_next_45
  refine GE_run (flG_T hN) (pc1 := 55) (L1 := [some (.inr (.inr (some (1, 0)))), some (.inl x1)]) (S1 := [.inl ((up w 1 0 6 x1) 1 0 1), .inl x1]) (w1 := up w 1 0 6 x1) (P := True) [(.aload_n 0, 0, 0, 0, 0), (.iload_n 1, 0, 0, 0, 0), (.putfield 41, 1, 6, 0, 0), (.iload_n 1, 0, 0, 0, 0), (.aload_n 0, 0, 0, 0, 0), (.getfield 21, 1, 1, 0, 0)] (by decide +kernel) rfl trivial ?_
  refine GE_icmp (k := .lt) (off := 16) (tgt := 71) (by decide +kernel) (by decide) (cnd_lt _ _) (fun c6 => ?_) (fun c6 => ?_)
  · refine GE_run (flG_T hN) (pc1 := 73) (L1 := [some (.inr (.inr (some (1, 0)))), some (.inl x1)]) (S1 := [.inl x1, .inr (.inr (some (1, 0)))]) (w1 := up w 1 0 6 x1) (P := True) [(.aload_n 0, 0, 0, 0, 0), (.iload_n 1, 0, 0, 0, 0)] (by decide +kernel) rfl trivial ?_
    refine GE_callVI (As := [.inl x1]) (k := 1) (i := 0) (S := []) (t_X1_isLetter l X hN x1 (up w 1 0 6 x1)) (by decide) ⟨me_X1_isLetter, mi_X1_isLetter, mv_X1_isLetter, lk_X1_74⟩ rfl (by decide +kernel) rfl (by decide) (by decide) (Nat.le_of_ble_eq_true rfl) (fun r7 _ => ?_)
    refine GE_if (k := .eq) (off := 23) (tgt := 99) (by decide +kernel) (by decide) (cnd_eq _ _) (fun c8 => ?_) (fun c8 => ?_)
    · refine GE_run (flG_T hN) (pc1 := 101) (L1 := [some (.inr (.inr (some (1, 0)))), some (.inl x1)]) (S1 := [.inl x1, .inr (.inr (some (1, 0)))]) (w1 := r7.2) (P := True) [(.aload_n 0, 0, 0, 0, 0), (.iload_n 1, 0, 0, 0, 0)] (by decide +kernel) rfl trivial ?_
      refine GE_callVI (As := [.inl x1]) (k := 1) (i := 0) (S := []) (t_X1_isDigit l X hN x1 r7.2) (by decide) ⟨me_X1_isDigit, mi_X1_isDigit, mv_X1_isDigit, lk_X1_86⟩ rfl (by decide +kernel) rfl (by decide) (by decide) (Nat.le_of_ble_eq_true rfl) (fun r9 _ => ?_)
      refine GE_if (k := .eq) (off := 34) (tgt := 138) (by decide +kernel) (by decide) (cnd_eq _ _) (fun c10 => ?_) (fun c10 => ?_)
      · refine GE_run (flG_T hN) (pc1 := 151) (L1 := [some (.inr (.inr (some (1, 0)))), some (.inl x1)]) (S1 := [.inl x1, .inr (.inr (some (9, 0))), .inr (.inr (some (1, 0)))]) (w1 := up r9.2 1 0 7 (x1 + 1)) (P := True) [(.aload_n 0, 0, 0, 0, 0), (.iload_n 1, 0, 0, 0, 0), (.iconst 1, 0, 0, 1, 0), (.iadd, 0, 0, 0, 0), (.putfield 32, 1, 7, 0, 0), (.aload_n 0, 0, 0, 0, 0), (.aload_n 0, 0, 0, 0, 0), (.getfield 9, 1, 0, 0, 0), (.iload_n 1, 0, 0, 0, 0)] (by decide +kernel) rfl trivial ?_
        refine GE_callNIp (As := [.inr (.inr (some (9, 0))), .inl x1]) (S := [.inr (.inr (some (1, 0)))]) (p_X4_at l X hN 9 0 x1 (by decide) (okM hN (by decide)) (up r9.2 1 0 7 (x1 + 1))) ⟨me_X4_at, ms_X4_at, ln_X1_70⟩ (by decide +kernel) rfl (by decide) (by decide) (Nat.le_of_ble_eq_true rfl) ?_
        refine GE_callSI (As := [.inl (atV (up r9.2 1 0 7 (x1 + 1)) 9 0 x1)]) (S := [.inr (.inr (some (1, 0)))]) (t_X1_isSign l X hN (atV (up r9.2 1 0 7 (x1 + 1)) 9 0 x1) (up r9.2 1 0 7 (x1 + 1))) ⟨me_X1_isSign, ms_X1_isSign, lk_X1_92⟩ (by decide +kernel) rfl (by decide) (by decide) (Nat.le_of_ble_eq_true rfl) (fun r11 _ => ?_)
        refine GE_if (k := .eq) (off := 14) (tgt := 171) (by decide +kernel) (by decide) (cnd_eq _ _) (fun c12 => ?_) (fun c12 => ?_)
        · refine GE_run (flG_T hN) (pc1 := 175) (L1 := [some (.inr (.inr (some (1, 0)))), some (.inl x1)]) (S1 := []) (w1 := up r11.2 1 0 5 1) (P := True) [(.iconst 1, 0, 0, 1, 0), (.putfield 38, 1, 5, 0, 0)] (by decide +kernel) rfl trivial ?_
          exact GE_vret rfl (by decide +kernel)
        · refine GE_run (flG_T hN) (pc1 := 165) (L1 := [some (.inr (.inr (some (1, 0)))), some (.inl x1)]) (S1 := [.inl x1, .inr (.inr (some (9, 0))), .inr (.inr (some (1, 0)))]) (w1 := r11.2) (P := True) [(.aload_n 0, 0, 0, 0, 0), (.getfield 9, 1, 0, 0, 0), (.iload_n 1, 0, 0, 0, 0)] (by decide +kernel) rfl trivial ?_
          refine GE_callNIp (As := [.inr (.inr (some (9, 0))), .inl x1]) (S := [.inr (.inr (some (1, 0)))]) (p_X4_at l X hN 9 0 x1 (by decide) (okM hN (by decide)) r11.2) ⟨me_X4_at, ms_X4_at, ln_X1_70⟩ (by decide +kernel) rfl (by decide) (by decide) (Nat.le_of_ble_eq_true rfl) ?_
          refine GE_run (flG_T hN) (pc1 := 175) (L1 := [some (.inr (.inr (some (1, 0)))), some (.inl x1)]) (S1 := []) (w1 := up r11.2 1 0 5 (atV r11.2 9 0 x1)) (P := True) [(.goto 4, 0, 0, 0, 0), (.putfield 38, 1, 5, 0, 0)] (by decide +kernel) rfl trivial ?_
          exact GE_vret rfl (by decide +kernel)
      · refine GE_run (flG_T hN) (pc1 := 110) (L1 := [some (.inr (.inr (some (1, 0)))), some (.inl x1)]) (S1 := [.inl x1, .inr (.inr (some (1, 0))), .inr (.inr (some (1, 0)))]) (w1 := r9.2) (P := True) [(.aload_n 0, 0, 0, 0, 0), (.aload_n 0, 0, 0, 0, 0), (.iload_n 1, 0, 0, 0, 0)] (by decide +kernel) rfl trivial ?_
        refine GE_callVI (As := [.inl x1]) (k := 1) (i := 0) (S := [.inr (.inr (some (1, 0)))]) (t_X1_endOfNumber l X hN x1 r9.2) (by decide) ⟨me_X1_endOfNumber, mi_X1_endOfNumber, mv_X1_endOfNumber, lk_X1_89⟩ rfl (by decide +kernel) rfl (by decide) (by decide) (Nat.le_of_ble_eq_true rfl) (fun r13 _ => ?_)
        refine GE_run (flG_T hN) (pc1 := 124) (L1 := [some (.inr (.inr (some (1, 0)))), some (.inl x1)]) (S1 := [.inl 4, .inl (((up r13.2 1 0 7 r13.1) 1 0 7) - x1), .inr (.inr (some (1, 0)))]) (w1 := up r13.2 1 0 7 r13.1) (P := True) [(.putfield 32, 1, 7, 0, 0), (.aload_n 0, 0, 0, 0, 0), (.aload_n 0, 0, 0, 0, 0), (.getfield 32, 1, 7, 0, 0), (.iload_n 1, 0, 0, 0, 0), (.isub, 0, 0, 0, 0), (.iconst 4, 0, 0, 4, 0)] (by decide +kernel) rfl trivial ?_
        refine GE_icmp (k := .le) (off := 7) (tgt := 131) (by decide +kernel) (by decide) (cnd_le _ _) (fun c14 => ?_) (fun c14 => ?_)
        · refine GE_run (flG_T hN) (pc1 := 175) (L1 := [some (.inr (.inr (some (1, 0)))), some (.inl x1)]) (S1 := []) (w1 := up (up r13.2 1 0 7 r13.1) 1 0 5 2) (P := True) [(.iconst 2, 0, 0, 2, 0), (.putfield 38, 1, 5, 0, 0), (.goto 40, 0, 0, 0, 0)] (by decide +kernel) rfl trivial ?_
          exact GE_vret rfl (by decide +kernel)
        · refine GE_run (flG_T hN) (pc1 := 175) (L1 := [some (.inr (.inr (some (1, 0)))), some (.inl x1)]) (S1 := []) (w1 := up (up r13.2 1 0 7 r13.1) 1 0 5 1) (P := True) [(.iconst 1, 0, 0, 1, 0), (.goto 4, 0, 0, 0, 0), (.putfield 38, 1, 5, 0, 0), (.goto 40, 0, 0, 0, 0)] (by decide +kernel) rfl trivial ?_
          exact GE_vret rfl (by decide +kernel)
    · refine GE_run (flG_T hN) (pc1 := 82) (L1 := [some (.inr (.inr (some (1, 0)))), some (.inl x1)]) (S1 := [.inl x1, .inr (.inr (some (1, 0))), .inr (.inr (some (1, 0)))]) (w1 := r7.2) (P := True) [(.aload_n 0, 0, 0, 0, 0), (.aload_n 0, 0, 0, 0, 0), (.iload_n 1, 0, 0, 0, 0)] (by decide +kernel) rfl trivial ?_
      refine GE_callVI (As := [.inl x1]) (k := 1) (i := 0) (S := [.inr (.inr (some (1, 0)))]) (t_X1_endOfWord l X hN x1 r7.2) (by decide) ⟨me_X1_endOfWord, mi_X1_endOfWord, mv_X1_endOfWord, lk_X1_78⟩ rfl (by decide +kernel) rfl (by decide) (by decide) (Nat.le_of_ble_eq_true rfl) (fun r15 _ => ?_)
      refine GE_run (flG_T hN) (pc1 := 90) (L1 := [some (.inr (.inr (some (1, 0)))), some (.inl x1)]) (S1 := [.inr (.inr (some (1, 0))), .inr (.inr (some (1, 0)))]) (w1 := up r15.2 1 0 7 r15.1) (P := True) [(.putfield 32, 1, 7, 0, 0), (.aload_n 0, 0, 0, 0, 0), (.aload_n 0, 0, 0, 0, 0)] (by decide +kernel) rfl trivial ?_
      refine GE_callVI (As := []) (k := 1) (i := 0) (S := [.inr (.inr (some (1, 0)))]) (t_X1_wordOf l X hN (up r15.2 1 0 7 r15.1)) (by decide) ⟨me_X1_wordOf, mi_X1_wordOf, mv_X1_wordOf, lk_X1_82⟩ rfl (by decide +kernel) rfl (by decide) (by decide) (Nat.le_of_ble_eq_true rfl) (fun r16 _ => ?_)
      refine GE_run (flG_T hN) (pc1 := 175) (L1 := [some (.inr (.inr (some (1, 0)))), some (.inl x1)]) (S1 := []) (w1 := up r16.2 1 0 5 r16.1) (P := True) [(.putfield 38, 1, 5, 0, 0), (.goto 79, 0, 0, 0, 0)] (by decide +kernel) rfl trivial ?_
      exact GE_vret rfl (by decide +kernel)
  · refine GE_run (flG_T hN) (pc1 := 175) (L1 := [some (.inr (.inr (some (1, 0)))), some (.inl x1)]) (S1 := []) (w1 := up (up (up w 1 0 6 x1) 1 0 7 x1) 1 0 5 0) (P := True) [(.aload_n 0, 0, 0, 0, 0), (.iload_n 1, 0, 0, 0, 0), (.putfield 32, 1, 7, 0, 0), (.aload_n 0, 0, 0, 0, 0), (.iconst 0, 0, 0, 0, 0), (.putfield 38, 1, 5, 0, 0), (.goto 107, 0, 0, 0, 0)] (by decide +kernel) rfl trivial ?_
    exact GE_vret rfl (by decide +kernel)
noncomputable def f_X1_next  (w : Mem) : Option (Mem) := h_X1_next_5 (fun x1_4 w5 => j_X1_next_45 x1_4 w5) FU (w 1 0 7) w
set_option maxRecDepth 100000 in
theorem t_X1_next (l : Launch) (X : XC) {N9 : Nat} (hN : 39 ≤ N9)   (w : Mem) : Ct l X 6 yX1_next cX1_next 2 none emV [.inr (.inr (some (1, 0)))] N9 flT w (f_X1_next  w) := by
  refine Ct_of (mi := mm_X1_next) (mik_X1 _ _ _) me_X1_next rfl (okAs_cons (okMV hN (by decide)) okAs_nil) (Nat.le_of_ble_eq_true rfl) ?_
  unfold f_X1_next
  refine GE_run (flG_T hN) (pc1 := 5) (L1 := [some (.inr (.inr (some (1, 0)))), some (.inl (w 1 0 7))]) (S1 := []) (w1 := w) (P := True) [(.aload_n 0, 0, 0, 0, 0), (.getfield 32, 1, 7, 0, 0), (.istore_n 1, 0, 0, 0, 0)] (by decide +kernel) rfl trivial ?_
  refine GE_weak [true, true] (h_X1_next_5_ok l X hN _ ?_ FU (w 1 0 7) w)
  · intro x1_4 w5
    exact GE_weak [true, true] (j_X1_next_45_ok l X hN x1_4 w5)
abbrev mm_X1_readsE : MI := (RX1, cX1_readsE, 3, (some .boolean), ftp_X1.map (fun q => q.1), ctp_X1.map (fun q => q.1), clp_X1.map (fun q => q.1))
noncomputable def h_X1_readsE_21 (rc : Nat → Int32 → Mem → Option (Int32 × Mem)) (x1 : Int32) (k63 : Mem → Option (Int32 × Mem)) : Nat → Int32 → Mem → Option (Int32 × Mem)
  | 0, _, _ => none
  | n + 1, x2, w => if x2 < 160 then (if (w 1 0 5) = 6 then (Option.bind (f_X1_next  w) (fun r6 => Option.bind (rc 1 x1 r6) (fun r7 => if r7.1 = 0 then (some (0, r7.2)) else (Option.bind (f_X1_write (-7) r7.2) (fun r9 => (h_X1_readsE_21 rc x1 k63 n) (x2 + 1) r9))))) else (k63 w)) else (k63 w)
set_option maxRecDepth 100000 in
theorem h_X1_readsE_21_ok (l : Launch) (X : XC) {N9 : Nat} (hN : 39 ≤ N9) (rc : Nat → Int32 → Mem → Option (Int32 × Mem)) (x1 : Int32) (k63 : Mem → Option (Int32 × Mem)) (m : Nat) (hrc0 : ∀ (a : Int32) (w : Mem), Ct l X (m + 6) yX1_readsE cX1_readsE 3 (some .boolean) emI [.inr (.inr (some (1, 0))), .inl a] N9 flT w (rc 0 a w)) (hrc1 : ∀ (a : Int32) (w : Mem), Ct l X (m + 6) yX1_readsAnd cX1_readsAnd 3 (some .boolean) emI [.inr (.inr (some (1, 0))), .inl a] N9 flT w (rc 1 a w)) (hrc2 : ∀ (a : Int32) (w : Mem), Ct l X (m + 6) yX1_readsNot cX1_readsNot 3 (some .boolean) emI [.inr (.inr (some (1, 0))), .inl a] N9 flT w (rc 2 a w)) (hrc3 : ∀ (a : Int32) (w : Mem), Ct l X (m + 6) yX1_readsSum cX1_readsSum 4 (some .boolean) emI [.inr (.inr (some (1, 0))), .inl a] N9 flT w (rc 3 a w)) (hrc4 : ∀ (a : Int32) (w : Mem), Ct l X (m + 6) yX1_readsTerm cX1_readsTerm 3 (some .boolean) emI [.inr (.inr (some (1, 0))), .inl a] N9 flT w (rc 4 a w)) (hrc5 : ∀ (a : Int32) (w : Mem), Ct l X (m + 6) yX1_readsOne cX1_readsOne 3 (some .boolean) emI [.inr (.inr (some (1, 0))), .inl a] N9 flT w (rc 5 a w)) (hk63 : ∀  (w : Mem), GE l X mm_X1_readsE (m + 7) emI N9 flT (k63 w) 63 [none, none, none] [] w) : ∀ (n : Nat) (x2 : Int32) (w : Mem), GE l X mm_X1_readsE (m + 7) emI N9 flT ((h_X1_readsE_21 rc x1 k63 n) x2 w) 21 [some (.inr (.inr (some (1, 0)))), some (.inl x1), some (.inl x2)] [] w := by
  intro n
  induction n with
  | zero => intro x2 w; exact GE_none
  | succ n ih =>
    intro x2 w
    unfold h_X1_readsE_21
    refine GE_run (flG_T hN) (pc1 := 25) (L1 := [some (.inr (.inr (some (1, 0)))), some (.inl x1), some (.inl x2)]) (S1 := [.inl 160, .inl x2]) (w1 := w) (P := True) [(.iload_n 2, 0, 0, 0, 0), (.sipush 160, 0, 0, 160, 0)] (by decide +kernel) rfl trivial ?_
    refine GE_icmpN (k := .ge) (off := 38) (tgt := 63) (by decide +kernel) (by decide) (cnd_ge _ _) (fun c4 => ?_) (fun c4 => ?_)
    · exact GE_weak [false, false, false] (hk63 w)
    · refine GE_run (flG_T hN) (pc1 := 34) (L1 := [some (.inr (.inr (some (1, 0)))), some (.inl x1), some (.inl x2)]) (S1 := [.inl 6, .inl (w 1 0 5)]) (w1 := w) (P := True) [(.aload_n 0, 0, 0, 0, 0), (.getfield 38, 1, 5, 0, 0), (.bipush 6, 0, 0, 6, 0)] (by decide +kernel) rfl trivial ?_
      refine GE_icmpN (k := .ne) (off := 29) (tgt := 63) (by decide +kernel) (by decide) (cnd_ne _ _) (fun c5 => ?_) (fun c5 => ?_)
      · exact GE_weak [false, false, false] (hk63 w)
      · refine GE_run (flG_T hN) (pc1 := 38) (L1 := [some (.inr (.inr (some (1, 0)))), some (.inl x1), some (.inl x2)]) (S1 := [.inr (.inr (some (1, 0)))]) (w1 := w) (P := True) [(.aload_n 0, 0, 0, 0, 0)] (by decide +kernel) rfl trivial ?_
        refine GE_callVV (As := []) (k := 1) (i := 0) (S := []) (t_X1_next l X hN w) (by decide) ⟨me_X1_next, mi_X1_next, mv_X1_next, lk_X1_35⟩ rfl (by decide +kernel) rfl (by omega) (by decide) (Nat.le_of_ble_eq_true rfl) (fun r6 _ => ?_)
        refine GE_run (flG_T hN) (pc1 := 43) (L1 := [some (.inr (.inr (some (1, 0)))), some (.inl x1), some (.inl x2)]) (S1 := [.inl x1, .inr (.inr (some (1, 0)))]) (w1 := r6) (P := True) [(.aload_n 0, 0, 0, 0, 0), (.iload_n 1, 0, 0, 0, 0)] (by decide +kernel) rfl trivial ?_
        refine GE_callSI (As := [.inr (.inr (some (1, 0))), .inl x1]) (S := []) (hrc1 x1 r6) ⟨me_X1_readsAnd, ms_X1_readsAnd, lk_X1_48⟩ (by decide +kernel) rfl (by omega) (by decide) (Nat.le_of_ble_eq_true rfl) (fun r7 _ => ?_)
        refine GE_ifN (k := .ne) (off := 5) (tgt := 51) (by decide +kernel) (by decide) (cnd_ne _ _) (fun c8 => ?_) (fun c8 => ?_)
        · refine GE_run (flG_T hN) (pc1 := 54) (L1 := [some (.inr (.inr (some (1, 0)))), some (.inl x1), some (.inl x2)]) (S1 := [.inl (-7), .inr (.inr (some (1, 0)))]) (w1 := r7.2) (P := True) [(.aload_n 0, 0, 0, 0, 0), (.bipush (-7), 0, 0, -7, 0)] (by decide +kernel) rfl trivial ?_
          refine GE_callVV (As := [.inl (-7)]) (k := 1) (i := 0) (S := []) (t_X1_write l X hN (-7) r7.2) (by decide) ⟨me_X1_write, mi_X1_write, mv_X1_write, lk_X1_51⟩ rfl (by decide +kernel) rfl (by omega) (by decide) (Nat.le_of_ble_eq_true rfl) (fun r9 _ => ?_)
          refine GE_run (flG_T hN) (pc1 := 21) (L1 := [some (.inr (.inr (some (1, 0)))), some (.inl x1), some (.inl (x2 + 1))]) (S1 := []) (w1 := r9) (P := True) [(.iinc 2 1, 0, 0, 1, 0), (.goto (-39), 0, 0, 0, 0)] (by decide +kernel) rfl trivial ?_
          exact GE_weak [true, true, true] (ih (x2 + 1) r9)
        · refine GE_run (flG_T hN) (pc1 := 50) (L1 := [some (.inr (.inr (some (1, 0)))), some (.inl x1), some (.inl x2)]) (S1 := [.inl 0]) (w1 := r7.2) (P := True) [(.iconst 0, 0, 0, 0, 0)] (by decide +kernel) rfl trivial ?_
          exact GE_zret (ty := .boolean) rfl (by decide +kernel) (by decide +kernel)
noncomputable def f_X1_readsE (rc : Nat → Int32 → Mem → Option (Int32 × Mem)) (a2 : Int32) (w : Mem) : Option (Int32 × Mem) := if a2 ≤ 5 then (Option.bind (rc 1 a2 w) (fun r2 => if r2.1 = 0 then (some (0, r2.2)) else (h_X1_readsE_21 rc a2 (fun w10 => some (1, w10)) FU 0 r2.2))) else (some (0, w))
set_option maxRecDepth 100000 in
theorem t_X1_readsE (l : Launch) (X : XC) {N9 : Nat} (hN : 39 ≤ N9)  (rc : Nat → Int32 → Mem → Option (Int32 × Mem)) (a2 : Int32) (m : Nat) (hrc0 : ∀ (a : Int32) (w : Mem), Ct l X (m + 6) yX1_readsE cX1_readsE 3 (some .boolean) emI [.inr (.inr (some (1, 0))), .inl a] N9 flT w (rc 0 a w)) (hrc1 : ∀ (a : Int32) (w : Mem), Ct l X (m + 6) yX1_readsAnd cX1_readsAnd 3 (some .boolean) emI [.inr (.inr (some (1, 0))), .inl a] N9 flT w (rc 1 a w)) (hrc2 : ∀ (a : Int32) (w : Mem), Ct l X (m + 6) yX1_readsNot cX1_readsNot 3 (some .boolean) emI [.inr (.inr (some (1, 0))), .inl a] N9 flT w (rc 2 a w)) (hrc3 : ∀ (a : Int32) (w : Mem), Ct l X (m + 6) yX1_readsSum cX1_readsSum 4 (some .boolean) emI [.inr (.inr (some (1, 0))), .inl a] N9 flT w (rc 3 a w)) (hrc4 : ∀ (a : Int32) (w : Mem), Ct l X (m + 6) yX1_readsTerm cX1_readsTerm 3 (some .boolean) emI [.inr (.inr (some (1, 0))), .inl a] N9 flT w (rc 4 a w)) (hrc5 : ∀ (a : Int32) (w : Mem), Ct l X (m + 6) yX1_readsOne cX1_readsOne 3 (some .boolean) emI [.inr (.inr (some (1, 0))), .inl a] N9 flT w (rc 5 a w)) (w : Mem) : Ct l X (m + 7) yX1_readsE cX1_readsE 3 (some .boolean) emI [.inr (.inr (some (1, 0))), .inl a2] N9 flT w (f_X1_readsE rc a2 w) := by
  refine Ct_of (mi := mm_X1_readsE) (mik_X1 _ _ _) me_X1_readsE rfl (okAs_cons (okMV hN (by decide)) (okAs_cons rfl okAs_nil)) (Nat.le_of_ble_eq_true rfl) ?_
  unfold f_X1_readsE
  refine GE_run (flG_T hN) (pc1 := 1) (L1 := [some (.inr (.inr (some (1, 0)))), some (.inl a2), none]) (S1 := [.inr (.inr (some (1, 0)))]) (w1 := w) (P := True) [(.aload_n 0, 0, 0, 0, 0)] (by decide +kernel) rfl trivial ?_
  refine GE_null1 (off := 16) (by decide +kernel) ?_
  refine GE_run (flG_T hN) (pc1 := 6) (L1 := [some (.inr (.inr (some (1, 0)))), some (.inl a2), none]) (S1 := [.inl 5, .inl a2]) (w1 := w) (P := True) [(.iload_n 1, 0, 0, 0, 0), (.iconst 5, 0, 0, 5, 0)] (by decide +kernel) rfl trivial ?_
  refine GE_icmpN (k := .gt) (off := 11) (tgt := 17) (by decide +kernel) (by decide) (cnd_gt _ _) (fun c1 => ?_) (fun c1 => ?_)
  · refine GE_run (flG_T hN) (pc1 := 18) (L1 := [some (.inr (.inr (some (1, 0)))), some (.inl a2), none]) (S1 := [.inl 0]) (w1 := w) (P := True) [(.iconst 0, 0, 0, 0, 0)] (by decide +kernel) rfl trivial ?_
    exact GE_zret (ty := .boolean) rfl (by decide +kernel) (by decide +kernel)
  · refine GE_run (flG_T hN) (pc1 := 11) (L1 := [some (.inr (.inr (some (1, 0)))), some (.inl a2), none]) (S1 := [.inl a2, .inr (.inr (some (1, 0)))]) (w1 := w) (P := True) [(.aload_n 0, 0, 0, 0, 0), (.iload_n 1, 0, 0, 0, 0)] (by decide +kernel) rfl trivial ?_
    refine GE_callSI (As := [.inr (.inr (some (1, 0))), .inl a2]) (S := []) (hrc1 a2 w) ⟨me_X1_readsAnd, ms_X1_readsAnd, lk_X1_48⟩ (by decide +kernel) rfl (by omega) (by decide) (Nat.le_of_ble_eq_true rfl) (fun r2 _ => ?_)
    refine GE_ifN (k := .ne) (off := 5) (tgt := 19) (by decide +kernel) (by decide) (cnd_ne _ _) (fun c3 => ?_) (fun c3 => ?_)
    · refine GE_run (flG_T hN) (pc1 := 21) (L1 := [some (.inr (.inr (some (1, 0)))), some (.inl a2), some (.inl 0)]) (S1 := []) (w1 := r2.2) (P := True) [(.iconst 0, 0, 0, 0, 0), (.istore_n 2, 0, 0, 0, 0)] (by decide +kernel) rfl trivial ?_
      refine GE_weak [true, true, true] (h_X1_readsE_21_ok l X hN rc a2 _ m hrc0 hrc1 hrc2 hrc3 hrc4 hrc5 ?_ FU 0 r2.2)
      · intro w10
        refine GE_run (flG_T hN) (pc1 := 64) (L1 := [none, none, none]) (S1 := [.inl 1]) (w1 := w10) (P := True) [(.iconst 1, 0, 0, 1, 0)] (by decide +kernel) rfl trivial ?_
        exact GE_zret (ty := .boolean) rfl (by decide +kernel) (by decide +kernel)
    · refine GE_run (flG_T hN) (pc1 := 18) (L1 := [some (.inr (.inr (some (1, 0)))), some (.inl a2), none]) (S1 := [.inl 0]) (w1 := r2.2) (P := True) [(.iconst 0, 0, 0, 0, 0)] (by decide +kernel) rfl trivial ?_
      exact GE_zret (ty := .boolean) rfl (by decide +kernel) (by decide +kernel)
abbrev mm_X1_readsAnd : MI := (RX1, cX1_readsAnd, 3, (some .boolean), ftp_X1.map (fun q => q.1), ctp_X1.map (fun q => q.1), clp_X1.map (fun q => q.1))
noncomputable def h_X1_readsAnd_16 (rc : Nat → Int32 → Mem → Option (Int32 × Mem)) (x1 : Int32) (k58 : Mem → Option (Int32 × Mem)) : Nat → Int32 → Mem → Option (Int32 × Mem)
  | 0, _, _ => none
  | n + 1, x2, w => if x2 < 160 then (if (w 1 0 5) = 7 then (Option.bind (f_X1_next  w) (fun r5 => Option.bind (rc 2 x1 r5) (fun r6 => if r6.1 = 0 then (some (0, r6.2)) else (Option.bind (f_X1_write (-8) r6.2) (fun r8 => (h_X1_readsAnd_16 rc x1 k58 n) (x2 + 1) r8))))) else (k58 w)) else (k58 w)
set_option maxRecDepth 100000 in
theorem h_X1_readsAnd_16_ok (l : Launch) (X : XC) {N9 : Nat} (hN : 39 ≤ N9) (rc : Nat → Int32 → Mem → Option (Int32 × Mem)) (x1 : Int32) (k58 : Mem → Option (Int32 × Mem)) (m : Nat) (hrc0 : ∀ (a : Int32) (w : Mem), Ct l X (m + 6) yX1_readsE cX1_readsE 3 (some .boolean) emI [.inr (.inr (some (1, 0))), .inl a] N9 flT w (rc 0 a w)) (hrc1 : ∀ (a : Int32) (w : Mem), Ct l X (m + 6) yX1_readsAnd cX1_readsAnd 3 (some .boolean) emI [.inr (.inr (some (1, 0))), .inl a] N9 flT w (rc 1 a w)) (hrc2 : ∀ (a : Int32) (w : Mem), Ct l X (m + 6) yX1_readsNot cX1_readsNot 3 (some .boolean) emI [.inr (.inr (some (1, 0))), .inl a] N9 flT w (rc 2 a w)) (hrc3 : ∀ (a : Int32) (w : Mem), Ct l X (m + 6) yX1_readsSum cX1_readsSum 4 (some .boolean) emI [.inr (.inr (some (1, 0))), .inl a] N9 flT w (rc 3 a w)) (hrc4 : ∀ (a : Int32) (w : Mem), Ct l X (m + 6) yX1_readsTerm cX1_readsTerm 3 (some .boolean) emI [.inr (.inr (some (1, 0))), .inl a] N9 flT w (rc 4 a w)) (hrc5 : ∀ (a : Int32) (w : Mem), Ct l X (m + 6) yX1_readsOne cX1_readsOne 3 (some .boolean) emI [.inr (.inr (some (1, 0))), .inl a] N9 flT w (rc 5 a w)) (hk58 : ∀  (w : Mem), GE l X mm_X1_readsAnd (m + 7) emI N9 flT (k58 w) 58 [none, none, none] [] w) : ∀ (n : Nat) (x2 : Int32) (w : Mem), GE l X mm_X1_readsAnd (m + 7) emI N9 flT ((h_X1_readsAnd_16 rc x1 k58 n) x2 w) 16 [some (.inr (.inr (some (1, 0)))), some (.inl x1), some (.inl x2)] [] w := by
  intro n
  induction n with
  | zero => intro x2 w; exact GE_none
  | succ n ih =>
    intro x2 w
    unfold h_X1_readsAnd_16
    refine GE_run (flG_T hN) (pc1 := 20) (L1 := [some (.inr (.inr (some (1, 0)))), some (.inl x1), some (.inl x2)]) (S1 := [.inl 160, .inl x2]) (w1 := w) (P := True) [(.iload_n 2, 0, 0, 0, 0), (.sipush 160, 0, 0, 160, 0)] (by decide +kernel) rfl trivial ?_
    refine GE_icmpN (k := .ge) (off := 38) (tgt := 58) (by decide +kernel) (by decide) (cnd_ge _ _) (fun c3 => ?_) (fun c3 => ?_)
    · exact GE_weak [false, false, false] (hk58 w)
    · refine GE_run (flG_T hN) (pc1 := 29) (L1 := [some (.inr (.inr (some (1, 0)))), some (.inl x1), some (.inl x2)]) (S1 := [.inl 7, .inl (w 1 0 5)]) (w1 := w) (P := True) [(.aload_n 0, 0, 0, 0, 0), (.getfield 38, 1, 5, 0, 0), (.bipush 7, 0, 0, 7, 0)] (by decide +kernel) rfl trivial ?_
      refine GE_icmpN (k := .ne) (off := 29) (tgt := 58) (by decide +kernel) (by decide) (cnd_ne _ _) (fun c4 => ?_) (fun c4 => ?_)
      · exact GE_weak [false, false, false] (hk58 w)
      · refine GE_run (flG_T hN) (pc1 := 33) (L1 := [some (.inr (.inr (some (1, 0)))), some (.inl x1), some (.inl x2)]) (S1 := [.inr (.inr (some (1, 0)))]) (w1 := w) (P := True) [(.aload_n 0, 0, 0, 0, 0)] (by decide +kernel) rfl trivial ?_
        refine GE_callVV (As := []) (k := 1) (i := 0) (S := []) (t_X1_next l X hN w) (by decide) ⟨me_X1_next, mi_X1_next, mv_X1_next, lk_X1_35⟩ rfl (by decide +kernel) rfl (by omega) (by decide) (Nat.le_of_ble_eq_true rfl) (fun r5 _ => ?_)
        refine GE_run (flG_T hN) (pc1 := 38) (L1 := [some (.inr (.inr (some (1, 0)))), some (.inl x1), some (.inl x2)]) (S1 := [.inl x1, .inr (.inr (some (1, 0)))]) (w1 := r5) (P := True) [(.aload_n 0, 0, 0, 0, 0), (.iload_n 1, 0, 0, 0, 0)] (by decide +kernel) rfl trivial ?_
        refine GE_callSI (As := [.inr (.inr (some (1, 0))), .inl x1]) (S := []) (hrc2 x1 r5) ⟨me_X1_readsNot, ms_X1_readsNot, lk_X1_55⟩ (by decide +kernel) rfl (by omega) (by decide) (Nat.le_of_ble_eq_true rfl) (fun r6 _ => ?_)
        refine GE_ifN (k := .ne) (off := 5) (tgt := 46) (by decide +kernel) (by decide) (cnd_ne _ _) (fun c7 => ?_) (fun c7 => ?_)
        · refine GE_run (flG_T hN) (pc1 := 49) (L1 := [some (.inr (.inr (some (1, 0)))), some (.inl x1), some (.inl x2)]) (S1 := [.inl (-8), .inr (.inr (some (1, 0)))]) (w1 := r6.2) (P := True) [(.aload_n 0, 0, 0, 0, 0), (.bipush (-8), 0, 0, -8, 0)] (by decide +kernel) rfl trivial ?_
          refine GE_callVV (As := [.inl (-8)]) (k := 1) (i := 0) (S := []) (t_X1_write l X hN (-8) r6.2) (by decide) ⟨me_X1_write, mi_X1_write, mv_X1_write, lk_X1_51⟩ rfl (by decide +kernel) rfl (by omega) (by decide) (Nat.le_of_ble_eq_true rfl) (fun r8 _ => ?_)
          refine GE_run (flG_T hN) (pc1 := 16) (L1 := [some (.inr (.inr (some (1, 0)))), some (.inl x1), some (.inl (x2 + 1))]) (S1 := []) (w1 := r8) (P := True) [(.iinc 2 1, 0, 0, 1, 0), (.goto (-39), 0, 0, 0, 0)] (by decide +kernel) rfl trivial ?_
          exact GE_weak [true, true, true] (ih (x2 + 1) r8)
        · refine GE_run (flG_T hN) (pc1 := 45) (L1 := [some (.inr (.inr (some (1, 0)))), some (.inl x1), some (.inl x2)]) (S1 := [.inl 0]) (w1 := r6.2) (P := True) [(.iconst 0, 0, 0, 0, 0)] (by decide +kernel) rfl trivial ?_
          exact GE_zret (ty := .boolean) rfl (by decide +kernel) (by decide +kernel)
noncomputable def f_X1_readsAnd (rc : Nat → Int32 → Mem → Option (Int32 × Mem)) (a2 : Int32) (w : Mem) : Option (Int32 × Mem) := Option.bind (rc 2 a2 w) (fun r1 => if r1.1 = 0 then (some (0, r1.2)) else (h_X1_readsAnd_16 rc a2 (fun w9 => some (1, w9)) FU 0 r1.2))
set_option maxRecDepth 100000 in
theorem t_X1_readsAnd (l : Launch) (X : XC) {N9 : Nat} (hN : 39 ≤ N9)  (rc : Nat → Int32 → Mem → Option (Int32 × Mem)) (a2 : Int32) (m : Nat) (hrc0 : ∀ (a : Int32) (w : Mem), Ct l X (m + 6) yX1_readsE cX1_readsE 3 (some .boolean) emI [.inr (.inr (some (1, 0))), .inl a] N9 flT w (rc 0 a w)) (hrc1 : ∀ (a : Int32) (w : Mem), Ct l X (m + 6) yX1_readsAnd cX1_readsAnd 3 (some .boolean) emI [.inr (.inr (some (1, 0))), .inl a] N9 flT w (rc 1 a w)) (hrc2 : ∀ (a : Int32) (w : Mem), Ct l X (m + 6) yX1_readsNot cX1_readsNot 3 (some .boolean) emI [.inr (.inr (some (1, 0))), .inl a] N9 flT w (rc 2 a w)) (hrc3 : ∀ (a : Int32) (w : Mem), Ct l X (m + 6) yX1_readsSum cX1_readsSum 4 (some .boolean) emI [.inr (.inr (some (1, 0))), .inl a] N9 flT w (rc 3 a w)) (hrc4 : ∀ (a : Int32) (w : Mem), Ct l X (m + 6) yX1_readsTerm cX1_readsTerm 3 (some .boolean) emI [.inr (.inr (some (1, 0))), .inl a] N9 flT w (rc 4 a w)) (hrc5 : ∀ (a : Int32) (w : Mem), Ct l X (m + 6) yX1_readsOne cX1_readsOne 3 (some .boolean) emI [.inr (.inr (some (1, 0))), .inl a] N9 flT w (rc 5 a w)) (w : Mem) : Ct l X (m + 7) yX1_readsAnd cX1_readsAnd 3 (some .boolean) emI [.inr (.inr (some (1, 0))), .inl a2] N9 flT w (f_X1_readsAnd rc a2 w) := by
  refine Ct_of (mi := mm_X1_readsAnd) (mik_X1 _ _ _) me_X1_readsAnd rfl (okAs_cons (okMV hN (by decide)) (okAs_cons rfl okAs_nil)) (Nat.le_of_ble_eq_true rfl) ?_
  unfold f_X1_readsAnd
  refine GE_run (flG_T hN) (pc1 := 1) (L1 := [some (.inr (.inr (some (1, 0)))), some (.inl a2), none]) (S1 := [.inr (.inr (some (1, 0)))]) (w1 := w) (P := True) [(.aload_n 0, 0, 0, 0, 0)] (by decide +kernel) rfl trivial ?_
  refine GE_null1 (off := 11) (by decide +kernel) ?_
  refine GE_run (flG_T hN) (pc1 := 6) (L1 := [some (.inr (.inr (some (1, 0)))), some (.inl a2), none]) (S1 := [.inl a2, .inr (.inr (some (1, 0)))]) (w1 := w) (P := True) [(.aload_n 0, 0, 0, 0, 0), (.iload_n 1, 0, 0, 0, 0)] (by decide +kernel) rfl trivial ?_
  refine GE_callSI (As := [.inr (.inr (some (1, 0))), .inl a2]) (S := []) (hrc2 a2 w) ⟨me_X1_readsNot, ms_X1_readsNot, lk_X1_55⟩ (by decide +kernel) rfl (by omega) (by decide) (Nat.le_of_ble_eq_true rfl) (fun r1 _ => ?_)
  refine GE_ifN (k := .ne) (off := 5) (tgt := 14) (by decide +kernel) (by decide) (cnd_ne _ _) (fun c2 => ?_) (fun c2 => ?_)
  · refine GE_run (flG_T hN) (pc1 := 16) (L1 := [some (.inr (.inr (some (1, 0)))), some (.inl a2), some (.inl 0)]) (S1 := []) (w1 := r1.2) (P := True) [(.iconst 0, 0, 0, 0, 0), (.istore_n 2, 0, 0, 0, 0)] (by decide +kernel) rfl trivial ?_
    refine GE_weak [true, true, true] (h_X1_readsAnd_16_ok l X hN rc a2 _ m hrc0 hrc1 hrc2 hrc3 hrc4 hrc5 ?_ FU 0 r1.2)
    · intro w9
      refine GE_run (flG_T hN) (pc1 := 59) (L1 := [none, none, none]) (S1 := [.inl 1]) (w1 := w9) (P := True) [(.iconst 1, 0, 0, 1, 0)] (by decide +kernel) rfl trivial ?_
      exact GE_zret (ty := .boolean) rfl (by decide +kernel) (by decide +kernel)
  · refine GE_run (flG_T hN) (pc1 := 13) (L1 := [some (.inr (.inr (some (1, 0)))), some (.inl a2), none]) (S1 := [.inl 0]) (w1 := r1.2) (P := True) [(.iconst 0, 0, 0, 0, 0)] (by decide +kernel) rfl trivial ?_
    exact GE_zret (ty := .boolean) rfl (by decide +kernel) (by decide +kernel)
abbrev mm_X1_readsNot : MI := (RX1, cX1_readsNot, 3, (some .boolean), ftp_X1.map (fun q => q.1), ctp_X1.map (fun q => q.1), clp_X1.map (fun q => q.1))
noncomputable def j_X1_readsNot_80 (rc : Nat → Int32 → Mem → Option (Int32 × Mem))  (x1 : Int32) (x2 : Int32) (w : Mem) : Option (Int32 × Mem) := Option.bind (f_X1_next  w) (fun r11 => Option.bind (rc 3 x1 r11) (fun r12 => if r12.1 = 0 then (some (0, r12.2)) else (if x2 = 60 then (Option.bind (f_X1_write (-10) r12.2) (fun r15 => some (1, r15))) else (Option.bind (f_X1_write (-11) r12.2) (fun r16 => some (1, r16))))))
set_option maxRecDepth 100000 in
theorem j_X1_readsNot_80_ok (l : Launch) (X : XC) {N9 : Nat} (hN : 39 ≤ N9) (rc : Nat → Int32 → Mem → Option (Int32 × Mem))  (x1 : Int32) (x2 : Int32) (m : Nat) (hrc0 : ∀ (a : Int32) (w : Mem), Ct l X (m + 6) yX1_readsE cX1_readsE 3 (some .boolean) emI [.inr (.inr (some (1, 0))), .inl a] N9 flT w (rc 0 a w)) (hrc1 : ∀ (a : Int32) (w : Mem), Ct l X (m + 6) yX1_readsAnd cX1_readsAnd 3 (some .boolean) emI [.inr (.inr (some (1, 0))), .inl a] N9 flT w (rc 1 a w)) (hrc2 : ∀ (a : Int32) (w : Mem), Ct l X (m + 6) yX1_readsNot cX1_readsNot 3 (some .boolean) emI [.inr (.inr (some (1, 0))), .inl a] N9 flT w (rc 2 a w)) (hrc3 : ∀ (a : Int32) (w : Mem), Ct l X (m + 6) yX1_readsSum cX1_readsSum 4 (some .boolean) emI [.inr (.inr (some (1, 0))), .inl a] N9 flT w (rc 3 a w)) (hrc4 : ∀ (a : Int32) (w : Mem), Ct l X (m + 6) yX1_readsTerm cX1_readsTerm 3 (some .boolean) emI [.inr (.inr (some (1, 0))), .inl a] N9 flT w (rc 4 a w)) (hrc5 : ∀ (a : Int32) (w : Mem), Ct l X (m + 6) yX1_readsOne cX1_readsOne 3 (some .boolean) emI [.inr (.inr (some (1, 0))), .inl a] N9 flT w (rc 5 a w))  (w : Mem) : GE l X mm_X1_readsNot (m + 7) emI N9 flT (j_X1_readsNot_80 rc x1 x2 w) 80 [some (.inr (.inr (some (1, 0)))), some (.inl x1), some (.inl x2)] [] w := by
  unfold j_X1_readsNot_80
  refine GE_run (flG_T hN) (pc1 := 81) (L1 := [some (.inr (.inr (some (1, 0)))), some (.inl x1), some (.inl x2)]) (S1 := [.inr (.inr (some (1, 0)))]) (w1 := w) (P := True) [(.aload_n 0, 0, 0, 0, 0)] (by decide +kernel) rfl trivial ?_
  refine GE_callVV (As := []) (k := 1) (i := 0) (S := []) (t_X1_next l X hN w) (by decide) ⟨me_X1_next, mi_X1_next, mv_X1_next, lk_X1_35⟩ rfl (by decide +kernel) rfl (by omega) (by decide) (Nat.le_of_ble_eq_true rfl) (fun r11 _ => ?_)
  refine GE_run (flG_T hN) (pc1 := 86) (L1 := [some (.inr (.inr (some (1, 0)))), some (.inl x1), some (.inl x2)]) (S1 := [.inl x1, .inr (.inr (some (1, 0)))]) (w1 := r11) (P := True) [(.aload_n 0, 0, 0, 0, 0), (.iload_n 1, 0, 0, 0, 0)] (by decide +kernel) rfl trivial ?_
  refine GE_callSI (As := [.inr (.inr (some (1, 0))), .inl x1]) (S := []) (hrc3 x1 r11) ⟨me_X1_readsSum, ms_X1_readsSum, lk_X1_58⟩ (by decide +kernel) rfl (by omega) (by decide) (Nat.le_of_ble_eq_true rfl) (fun r12 _ => ?_)
  refine GE_ifN (k := .ne) (off := 5) (tgt := 94) (by decide +kernel) (by decide) (cnd_ne _ _) (fun c13 => ?_) (fun c13 => ?_)
  · refine GE_run (flG_T hN) (pc1 := 98) (L1 := [some (.inr (.inr (some (1, 0)))), some (.inl x1), some (.inl x2)]) (S1 := [.inl 60, .inl x2, .inr (.inr (some (1, 0)))]) (w1 := r12.2) (P := True) [(.aload_n 0, 0, 0, 0, 0), (.iload_n 2, 0, 0, 0, 0), (.bipush 60, 0, 0, 60, 0)] (by decide +kernel) rfl trivial ?_
    refine GE_icmpN (k := .ne) (off := 8) (tgt := 106) (by decide +kernel) (by decide) (cnd_ne _ _) (fun c14 => ?_) (fun c14 => ?_)
    · refine GE_run (flG_T hN) (pc1 := 108) (L1 := [some (.inr (.inr (some (1, 0)))), some (.inl x1), some (.inl x2)]) (S1 := [.inl (-11), .inr (.inr (some (1, 0)))]) (w1 := r12.2) (P := True) [(.bipush (-11), 0, 0, -11, 0)] (by decide +kernel) rfl trivial ?_
      refine GE_callVV (As := [.inl (-11)]) (k := 1) (i := 0) (S := []) (t_X1_write l X hN (-11) r12.2) (by decide) ⟨me_X1_write, mi_X1_write, mv_X1_write, lk_X1_51⟩ rfl (by decide +kernel) rfl (by omega) (by decide) (Nat.le_of_ble_eq_true rfl) (fun r16 _ => ?_)
      refine GE_run (flG_T hN) (pc1 := 112) (L1 := [some (.inr (.inr (some (1, 0)))), some (.inl x1), some (.inl x2)]) (S1 := [.inl 1]) (w1 := r16) (P := True) [(.iconst 1, 0, 0, 1, 0)] (by decide +kernel) rfl trivial ?_
      exact GE_zret (ty := .boolean) rfl (by decide +kernel) (by decide +kernel)
    · refine GE_run (flG_T hN) (pc1 := 108) (L1 := [some (.inr (.inr (some (1, 0)))), some (.inl x1), some (.inl x2)]) (S1 := [.inl (-10), .inr (.inr (some (1, 0)))]) (w1 := r12.2) (P := True) [(.bipush (-10), 0, 0, -10, 0), (.goto 5, 0, 0, 0, 0)] (by decide +kernel) rfl trivial ?_
      refine GE_callVV (As := [.inl (-10)]) (k := 1) (i := 0) (S := []) (t_X1_write l X hN (-10) r12.2) (by decide) ⟨me_X1_write, mi_X1_write, mv_X1_write, lk_X1_51⟩ rfl (by decide +kernel) rfl (by omega) (by decide) (Nat.le_of_ble_eq_true rfl) (fun r15 _ => ?_)
      refine GE_run (flG_T hN) (pc1 := 112) (L1 := [some (.inr (.inr (some (1, 0)))), some (.inl x1), some (.inl x2)]) (S1 := [.inl 1]) (w1 := r15) (P := True) [(.iconst 1, 0, 0, 1, 0)] (by decide +kernel) rfl trivial ?_
      exact GE_zret (ty := .boolean) rfl (by decide +kernel) (by decide +kernel)
  · refine GE_run (flG_T hN) (pc1 := 93) (L1 := [some (.inr (.inr (some (1, 0)))), some (.inl x1), some (.inl x2)]) (S1 := [.inl 0]) (w1 := r12.2) (P := True) [(.iconst 0, 0, 0, 0, 0)] (by decide +kernel) rfl trivial ?_
    exact GE_zret (ty := .boolean) rfl (by decide +kernel) (by decide +kernel)
noncomputable def j_X1_readsNot_20 (rc : Nat → Int32 → Mem → Option (Int32 × Mem))  (x1 : Int32) (w : Mem) : Option (Int32 × Mem) := if (w 1 0 5) = 8 then (Option.bind (f_X1_next  w) (fun r4 => Option.bind (rc 2 (x1 + 1) r4) (fun r5 => if r5.1 = 0 then (some (0, r5.2)) else (Option.bind (f_X1_write (-9) r5.2) (fun r7 => some (1, r7)))))) else (Option.bind (rc 3 x1 w) (fun r8 => if r8.1 = 0 then (some (0, r8.2)) else (if (r8.2 1 0 5) = 60 then (j_X1_readsNot_80 rc x1 (r8.2 1 0 5) r8.2) else (if (r8.2 1 0 5) = 61 then (j_X1_readsNot_80 rc x1 (r8.2 1 0 5) r8.2) else (some (1, r8.2))))))
set_option maxRecDepth 100000 in
theorem j_X1_readsNot_20_ok (l : Launch) (X : XC) {N9 : Nat} (hN : 39 ≤ N9) (rc : Nat → Int32 → Mem → Option (Int32 × Mem))  (x1 : Int32) (m : Nat) (hrc0 : ∀ (a : Int32) (w : Mem), Ct l X (m + 6) yX1_readsE cX1_readsE 3 (some .boolean) emI [.inr (.inr (some (1, 0))), .inl a] N9 flT w (rc 0 a w)) (hrc1 : ∀ (a : Int32) (w : Mem), Ct l X (m + 6) yX1_readsAnd cX1_readsAnd 3 (some .boolean) emI [.inr (.inr (some (1, 0))), .inl a] N9 flT w (rc 1 a w)) (hrc2 : ∀ (a : Int32) (w : Mem), Ct l X (m + 6) yX1_readsNot cX1_readsNot 3 (some .boolean) emI [.inr (.inr (some (1, 0))), .inl a] N9 flT w (rc 2 a w)) (hrc3 : ∀ (a : Int32) (w : Mem), Ct l X (m + 6) yX1_readsSum cX1_readsSum 4 (some .boolean) emI [.inr (.inr (some (1, 0))), .inl a] N9 flT w (rc 3 a w)) (hrc4 : ∀ (a : Int32) (w : Mem), Ct l X (m + 6) yX1_readsTerm cX1_readsTerm 3 (some .boolean) emI [.inr (.inr (some (1, 0))), .inl a] N9 flT w (rc 4 a w)) (hrc5 : ∀ (a : Int32) (w : Mem), Ct l X (m + 6) yX1_readsOne cX1_readsOne 3 (some .boolean) emI [.inr (.inr (some (1, 0))), .inl a] N9 flT w (rc 5 a w))  (w : Mem) : GE l X mm_X1_readsNot (m + 7) emI N9 flT (j_X1_readsNot_20 rc x1 w) 20 [some (.inr (.inr (some (1, 0)))), some (.inl x1), none] [] w := by
  unfold j_X1_readsNot_20
  refine GE_run (flG_T hN) (pc1 := 26) (L1 := [some (.inr (.inr (some (1, 0)))), some (.inl x1), none]) (S1 := [.inl 8, .inl (w 1 0 5)]) (w1 := w) (P := True) [(.aload_n 0, 0, 0, 0, 0), (.getfield 38, 1, 5, 0, 0), (.bipush 8, 0, 0, 8, 0)] (by decide +kernel) rfl trivial ?_
  refine GE_icmpN (k := .ne) (off := 27) (tgt := 53) (by decide +kernel) (by decide) (cnd_ne _ _) (fun c3 => ?_) (fun c3 => ?_)
  · refine GE_run (flG_T hN) (pc1 := 55) (L1 := [some (.inr (.inr (some (1, 0)))), some (.inl x1), none]) (S1 := [.inl x1, .inr (.inr (some (1, 0)))]) (w1 := w) (P := True) [(.aload_n 0, 0, 0, 0, 0), (.iload_n 1, 0, 0, 0, 0)] (by decide +kernel) rfl trivial ?_
    refine GE_callSI (As := [.inr (.inr (some (1, 0))), .inl x1]) (S := []) (hrc3 x1 w) ⟨me_X1_readsSum, ms_X1_readsSum, lk_X1_58⟩ (by decide +kernel) rfl (by omega) (by decide) (Nat.le_of_ble_eq_true rfl) (fun r8 _ => ?_)
    refine GE_ifN (k := .ne) (off := 5) (tgt := 63) (by decide +kernel) (by decide) (cnd_ne _ _) (fun c9 => ?_) (fun c9 => ?_)
    · refine GE_run (flG_T hN) (pc1 := 71) (L1 := [some (.inr (.inr (some (1, 0)))), some (.inl x1), some (.inl (r8.2 1 0 5))]) (S1 := [.inl 60, .inl (r8.2 1 0 5)]) (w1 := r8.2) (P := True) [(.aload_n 0, 0, 0, 0, 0), (.getfield 38, 1, 5, 0, 0), (.istore_n 2, 0, 0, 0, 0), (.iload_n 2, 0, 0, 0, 0), (.bipush 60, 0, 0, 60, 0)] (by decide +kernel) rfl trivial ?_
      refine GE_icmp (k := .eq) (off := 9) (tgt := 80) (by decide +kernel) (by decide) (cnd_eq _ _) (fun c10 => ?_) (fun c10 => ?_)
      · exact GE_weak [true, true, true] (j_X1_readsNot_80_ok l X hN rc x1 (r8.2 1 0 5) m hrc0 hrc1 hrc2 hrc3 hrc4 hrc5 r8.2)
      · refine GE_run (flG_T hN) (pc1 := 77) (L1 := [some (.inr (.inr (some (1, 0)))), some (.inl x1), some (.inl (r8.2 1 0 5))]) (S1 := [.inl 61, .inl (r8.2 1 0 5)]) (w1 := r8.2) (P := True) [(.iload_n 2, 0, 0, 0, 0), (.bipush 61, 0, 0, 61, 0)] (by decide +kernel) rfl trivial ?_
        refine GE_icmpN (k := .ne) (off := 34) (tgt := 111) (by decide +kernel) (by decide) (cnd_ne _ _) (fun c17 => ?_) (fun c17 => ?_)
        · refine GE_run (flG_T hN) (pc1 := 112) (L1 := [some (.inr (.inr (some (1, 0)))), some (.inl x1), some (.inl (r8.2 1 0 5))]) (S1 := [.inl 1]) (w1 := r8.2) (P := True) [(.iconst 1, 0, 0, 1, 0)] (by decide +kernel) rfl trivial ?_
          exact GE_zret (ty := .boolean) rfl (by decide +kernel) (by decide +kernel)
        · exact GE_weak [true, true, true] (j_X1_readsNot_80_ok l X hN rc x1 (r8.2 1 0 5) m hrc0 hrc1 hrc2 hrc3 hrc4 hrc5 r8.2)
    · refine GE_run (flG_T hN) (pc1 := 62) (L1 := [some (.inr (.inr (some (1, 0)))), some (.inl x1), none]) (S1 := [.inl 0]) (w1 := r8.2) (P := True) [(.iconst 0, 0, 0, 0, 0)] (by decide +kernel) rfl trivial ?_
      exact GE_zret (ty := .boolean) rfl (by decide +kernel) (by decide +kernel)
  · refine GE_run (flG_T hN) (pc1 := 30) (L1 := [some (.inr (.inr (some (1, 0)))), some (.inl x1), none]) (S1 := [.inr (.inr (some (1, 0)))]) (w1 := w) (P := True) [(.aload_n 0, 0, 0, 0, 0)] (by decide +kernel) rfl trivial ?_
    refine GE_callVV (As := []) (k := 1) (i := 0) (S := []) (t_X1_next l X hN w) (by decide) ⟨me_X1_next, mi_X1_next, mv_X1_next, lk_X1_35⟩ rfl (by decide +kernel) rfl (by omega) (by decide) (Nat.le_of_ble_eq_true rfl) (fun r4 _ => ?_)
    refine GE_run (flG_T hN) (pc1 := 37) (L1 := [some (.inr (.inr (some (1, 0)))), some (.inl x1), none]) (S1 := [.inl (x1 + 1), .inr (.inr (some (1, 0)))]) (w1 := r4) (P := True) [(.aload_n 0, 0, 0, 0, 0), (.iload_n 1, 0, 0, 0, 0), (.iconst 1, 0, 0, 1, 0), (.iadd, 0, 0, 0, 0)] (by decide +kernel) rfl trivial ?_
    refine GE_callSI (As := [.inr (.inr (some (1, 0))), .inl (x1 + 1)]) (S := []) (hrc2 (x1 + 1) r4) ⟨me_X1_readsNot, ms_X1_readsNot, lk_X1_55⟩ (by decide +kernel) rfl (by omega) (by decide) (Nat.le_of_ble_eq_true rfl) (fun r5 _ => ?_)
    refine GE_ifN (k := .ne) (off := 5) (tgt := 45) (by decide +kernel) (by decide) (cnd_ne _ _) (fun c6 => ?_) (fun c6 => ?_)
    · refine GE_run (flG_T hN) (pc1 := 48) (L1 := [some (.inr (.inr (some (1, 0)))), some (.inl x1), none]) (S1 := [.inl (-9), .inr (.inr (some (1, 0)))]) (w1 := r5.2) (P := True) [(.aload_n 0, 0, 0, 0, 0), (.bipush (-9), 0, 0, -9, 0)] (by decide +kernel) rfl trivial ?_
      refine GE_callVV (As := [.inl (-9)]) (k := 1) (i := 0) (S := []) (t_X1_write l X hN (-9) r5.2) (by decide) ⟨me_X1_write, mi_X1_write, mv_X1_write, lk_X1_51⟩ rfl (by decide +kernel) rfl (by omega) (by decide) (Nat.le_of_ble_eq_true rfl) (fun r7 _ => ?_)
      refine GE_run (flG_T hN) (pc1 := 52) (L1 := [some (.inr (.inr (some (1, 0)))), some (.inl x1), none]) (S1 := [.inl 1]) (w1 := r7) (P := True) [(.iconst 1, 0, 0, 1, 0)] (by decide +kernel) rfl trivial ?_
      exact GE_zret (ty := .boolean) rfl (by decide +kernel) (by decide +kernel)
    · refine GE_run (flG_T hN) (pc1 := 44) (L1 := [some (.inr (.inr (some (1, 0)))), some (.inl x1), none]) (S1 := [.inl 0]) (w1 := r5.2) (P := True) [(.iconst 0, 0, 0, 0, 0)] (by decide +kernel) rfl trivial ?_
      exact GE_zret (ty := .boolean) rfl (by decide +kernel) (by decide +kernel)
noncomputable def f_X1_readsNot (rc : Nat → Int32 → Mem → Option (Int32 × Mem)) (a2 : Int32) (w : Mem) : Option (Int32 × Mem) := if (w 1 0 5) = 8 then (if a2 < 5 then (j_X1_readsNot_20 rc a2 w) else (some (0, w))) else (j_X1_readsNot_20 rc a2 w)
set_option maxRecDepth 100000 in
theorem t_X1_readsNot (l : Launch) (X : XC) {N9 : Nat} (hN : 39 ≤ N9)  (rc : Nat → Int32 → Mem → Option (Int32 × Mem)) (a2 : Int32) (m : Nat) (hrc0 : ∀ (a : Int32) (w : Mem), Ct l X (m + 6) yX1_readsE cX1_readsE 3 (some .boolean) emI [.inr (.inr (some (1, 0))), .inl a] N9 flT w (rc 0 a w)) (hrc1 : ∀ (a : Int32) (w : Mem), Ct l X (m + 6) yX1_readsAnd cX1_readsAnd 3 (some .boolean) emI [.inr (.inr (some (1, 0))), .inl a] N9 flT w (rc 1 a w)) (hrc2 : ∀ (a : Int32) (w : Mem), Ct l X (m + 6) yX1_readsNot cX1_readsNot 3 (some .boolean) emI [.inr (.inr (some (1, 0))), .inl a] N9 flT w (rc 2 a w)) (hrc3 : ∀ (a : Int32) (w : Mem), Ct l X (m + 6) yX1_readsSum cX1_readsSum 4 (some .boolean) emI [.inr (.inr (some (1, 0))), .inl a] N9 flT w (rc 3 a w)) (hrc4 : ∀ (a : Int32) (w : Mem), Ct l X (m + 6) yX1_readsTerm cX1_readsTerm 3 (some .boolean) emI [.inr (.inr (some (1, 0))), .inl a] N9 flT w (rc 4 a w)) (hrc5 : ∀ (a : Int32) (w : Mem), Ct l X (m + 6) yX1_readsOne cX1_readsOne 3 (some .boolean) emI [.inr (.inr (some (1, 0))), .inl a] N9 flT w (rc 5 a w)) (w : Mem) : Ct l X (m + 7) yX1_readsNot cX1_readsNot 3 (some .boolean) emI [.inr (.inr (some (1, 0))), .inl a2] N9 flT w (f_X1_readsNot rc a2 w) := by
  refine Ct_of (mi := mm_X1_readsNot) (mik_X1 _ _ _) me_X1_readsNot rfl (okAs_cons (okMV hN (by decide)) (okAs_cons rfl okAs_nil)) (Nat.le_of_ble_eq_true rfl) ?_
  unfold f_X1_readsNot
  refine GE_run (flG_T hN) (pc1 := 1) (L1 := [some (.inr (.inr (some (1, 0)))), some (.inl a2), none]) (S1 := [.inr (.inr (some (1, 0)))]) (w1 := w) (P := True) [(.aload_n 0, 0, 0, 0, 0)] (by decide +kernel) rfl trivial ?_
  refine GE_null1 (off := 17) (by decide +kernel) ?_
  refine GE_run (flG_T hN) (pc1 := 10) (L1 := [some (.inr (.inr (some (1, 0)))), some (.inl a2), none]) (S1 := [.inl 8, .inl (w 1 0 5)]) (w1 := w) (P := True) [(.aload_n 0, 0, 0, 0, 0), (.getfield 38, 1, 5, 0, 0), (.bipush 8, 0, 0, 8, 0)] (by decide +kernel) rfl trivial ?_
  refine GE_icmpN (k := .ne) (off := 10) (tgt := 20) (by decide +kernel) (by decide) (cnd_ne _ _) (fun c1 => ?_) (fun c1 => ?_)
  · exact GE_weak [true, true, false] (j_X1_readsNot_20_ok l X hN rc a2 m hrc0 hrc1 hrc2 hrc3 hrc4 hrc5 w)
  · refine GE_run (flG_T hN) (pc1 := 15) (L1 := [some (.inr (.inr (some (1, 0)))), some (.inl a2), none]) (S1 := [.inl 5, .inl a2]) (w1 := w) (P := True) [(.iload_n 1, 0, 0, 0, 0), (.iconst 5, 0, 0, 5, 0)] (by decide +kernel) rfl trivial ?_
    refine GE_icmp (k := .lt) (off := 5) (tgt := 20) (by decide +kernel) (by decide) (cnd_lt _ _) (fun c2 => ?_) (fun c2 => ?_)
    · exact GE_weak [true, true, false] (j_X1_readsNot_20_ok l X hN rc a2 m hrc0 hrc1 hrc2 hrc3 hrc4 hrc5 w)
    · refine GE_run (flG_T hN) (pc1 := 19) (L1 := [some (.inr (.inr (some (1, 0)))), some (.inl a2), none]) (S1 := [.inl 0]) (w1 := w) (P := True) [(.iconst 0, 0, 0, 0, 0)] (by decide +kernel) rfl trivial ?_
      exact GE_zret (ty := .boolean) rfl (by decide +kernel) (by decide +kernel)
abbrev mm_X1_readsSum : MI := (RX1, cX1_readsSum, 4, (some .boolean), ftp_X1.map (fun q => q.1), ctp_X1.map (fun q => q.1), clp_X1.map (fun q => q.1))
noncomputable def j_X1_readsSum_41 (rc : Nat → Int32 → Mem → Option (Int32 × Mem)) (kl16 : Int32 → Mem → Option (Int32 × Mem)) (x1 : Int32) (x2 : Int32) (w : Mem) : Option (Int32 × Mem) := Option.bind (f_X1_next  w) (fun r5 => Option.bind (rc 4 x1 r5) (fun r6 => if r6.1 = 0 then (some (0, r6.2)) else (if (w 1 0 5) = 43 then (Option.bind (f_X1_write (-12) r6.2) (fun r9 => kl16 (x2 + 1) r9)) else (Option.bind (f_X1_write (-13) r6.2) (fun r10 => kl16 (x2 + 1) r10)))))
set_option maxRecDepth 100000 in
theorem j_X1_readsSum_41_ok (l : Launch) (X : XC) {N9 : Nat} (hN : 39 ≤ N9) (rc : Nat → Int32 → Mem → Option (Int32 × Mem)) (kl16 : Int32 → Mem → Option (Int32 × Mem)) (x1 : Int32) (x2 : Int32) (m : Nat) (hrc0 : ∀ (a : Int32) (w : Mem), Ct l X (m + 6) yX1_readsE cX1_readsE 3 (some .boolean) emI [.inr (.inr (some (1, 0))), .inl a] N9 flT w (rc 0 a w)) (hrc1 : ∀ (a : Int32) (w : Mem), Ct l X (m + 6) yX1_readsAnd cX1_readsAnd 3 (some .boolean) emI [.inr (.inr (some (1, 0))), .inl a] N9 flT w (rc 1 a w)) (hrc2 : ∀ (a : Int32) (w : Mem), Ct l X (m + 6) yX1_readsNot cX1_readsNot 3 (some .boolean) emI [.inr (.inr (some (1, 0))), .inl a] N9 flT w (rc 2 a w)) (hrc3 : ∀ (a : Int32) (w : Mem), Ct l X (m + 6) yX1_readsSum cX1_readsSum 4 (some .boolean) emI [.inr (.inr (some (1, 0))), .inl a] N9 flT w (rc 3 a w)) (hrc4 : ∀ (a : Int32) (w : Mem), Ct l X (m + 6) yX1_readsTerm cX1_readsTerm 3 (some .boolean) emI [.inr (.inr (some (1, 0))), .inl a] N9 flT w (rc 4 a w)) (hrc5 : ∀ (a : Int32) (w : Mem), Ct l X (m + 6) yX1_readsOne cX1_readsOne 3 (some .boolean) emI [.inr (.inr (some (1, 0))), .inl a] N9 flT w (rc 5 a w)) (ih : ∀ (x2 : Int32) (w : Mem), GE l X mm_X1_readsSum (m + 7) emI N9 flT (kl16 x2 w) 16 [some (.inr (.inr (some (1, 0)))), some (.inl x1), some (.inl x2), none] [] w) (w : Mem) : GE l X mm_X1_readsSum (m + 7) emI N9 flT (j_X1_readsSum_41 rc kl16 x1 x2 w) 41 [some (.inr (.inr (some (1, 0)))), some (.inl x1), some (.inl x2), none] [] w := by
  unfold j_X1_readsSum_41
  refine GE_run (flG_T hN) (pc1 := 47) (L1 := [some (.inr (.inr (some (1, 0)))), some (.inl x1), some (.inl x2), some (.inl (w 1 0 5))]) (S1 := [.inr (.inr (some (1, 0)))]) (w1 := w) (P := True) [(.aload_n 0, 0, 0, 0, 0), (.getfield 38, 1, 5, 0, 0), (.istore_n 3, 0, 0, 0, 0), (.aload_n 0, 0, 0, 0, 0)] (by decide +kernel) rfl trivial ?_
  refine GE_callVV (As := []) (k := 1) (i := 0) (S := []) (t_X1_next l X hN w) (by decide) ⟨me_X1_next, mi_X1_next, mv_X1_next, lk_X1_35⟩ rfl (by decide +kernel) rfl (by omega) (by decide) (Nat.le_of_ble_eq_true rfl) (fun r5 _ => ?_)
  refine GE_run (flG_T hN) (pc1 := 52) (L1 := [some (.inr (.inr (some (1, 0)))), some (.inl x1), some (.inl x2), some (.inl (w 1 0 5))]) (S1 := [.inl x1, .inr (.inr (some (1, 0)))]) (w1 := r5) (P := True) [(.aload_n 0, 0, 0, 0, 0), (.iload_n 1, 0, 0, 0, 0)] (by decide +kernel) rfl trivial ?_
  refine GE_callSI (As := [.inr (.inr (some (1, 0))), .inl x1]) (S := []) (hrc4 x1 r5) ⟨me_X1_readsTerm, ms_X1_readsTerm, lk_X1_61⟩ (by decide +kernel) rfl (by omega) (by decide) (Nat.le_of_ble_eq_true rfl) (fun r6 _ => ?_)
  refine GE_ifN (k := .ne) (off := 5) (tgt := 60) (by decide +kernel) (by decide) (cnd_ne _ _) (fun c7 => ?_) (fun c7 => ?_)
  · refine GE_run (flG_T hN) (pc1 := 64) (L1 := [some (.inr (.inr (some (1, 0)))), some (.inl x1), some (.inl x2), some (.inl (w 1 0 5))]) (S1 := [.inl 43, .inl (w 1 0 5), .inr (.inr (some (1, 0)))]) (w1 := r6.2) (P := True) [(.aload_n 0, 0, 0, 0, 0), (.iload_n 3, 0, 0, 0, 0), (.bipush 43, 0, 0, 43, 0)] (by decide +kernel) rfl trivial ?_
    refine GE_icmpN (k := .ne) (off := 8) (tgt := 72) (by decide +kernel) (by decide) (cnd_ne _ _) (fun c8 => ?_) (fun c8 => ?_)
    · refine GE_run (flG_T hN) (pc1 := 74) (L1 := [some (.inr (.inr (some (1, 0)))), some (.inl x1), some (.inl x2), some (.inl (w 1 0 5))]) (S1 := [.inl (-13), .inr (.inr (some (1, 0)))]) (w1 := r6.2) (P := True) [(.bipush (-13), 0, 0, -13, 0)] (by decide +kernel) rfl trivial ?_
      refine GE_callVV (As := [.inl (-13)]) (k := 1) (i := 0) (S := []) (t_X1_write l X hN (-13) r6.2) (by decide) ⟨me_X1_write, mi_X1_write, mv_X1_write, lk_X1_51⟩ rfl (by decide +kernel) rfl (by omega) (by decide) (Nat.le_of_ble_eq_true rfl) (fun r10 _ => ?_)
      refine GE_run (flG_T hN) (pc1 := 16) (L1 := [some (.inr (.inr (some (1, 0)))), some (.inl x1), some (.inl (x2 + 1)), some (.inl (w 1 0 5))]) (S1 := []) (w1 := r10) (P := True) [(.iinc 2 1, 0, 0, 1, 0), (.goto (-64), 0, 0, 0, 0)] (by decide +kernel) rfl trivial ?_
      exact GE_weak [true, true, true, false] (ih (x2 + 1) r10)
    · refine GE_run (flG_T hN) (pc1 := 74) (L1 := [some (.inr (.inr (some (1, 0)))), some (.inl x1), some (.inl x2), some (.inl (w 1 0 5))]) (S1 := [.inl (-12), .inr (.inr (some (1, 0)))]) (w1 := r6.2) (P := True) [(.bipush (-12), 0, 0, -12, 0), (.goto 5, 0, 0, 0, 0)] (by decide +kernel) rfl trivial ?_
      refine GE_callVV (As := [.inl (-12)]) (k := 1) (i := 0) (S := []) (t_X1_write l X hN (-12) r6.2) (by decide) ⟨me_X1_write, mi_X1_write, mv_X1_write, lk_X1_51⟩ rfl (by decide +kernel) rfl (by omega) (by decide) (Nat.le_of_ble_eq_true rfl) (fun r9 _ => ?_)
      refine GE_run (flG_T hN) (pc1 := 16) (L1 := [some (.inr (.inr (some (1, 0)))), some (.inl x1), some (.inl (x2 + 1)), some (.inl (w 1 0 5))]) (S1 := []) (w1 := r9) (P := True) [(.iinc 2 1, 0, 0, 1, 0), (.goto (-64), 0, 0, 0, 0)] (by decide +kernel) rfl trivial ?_
      exact GE_weak [true, true, true, false] (ih (x2 + 1) r9)
  · refine GE_run (flG_T hN) (pc1 := 59) (L1 := [some (.inr (.inr (some (1, 0)))), some (.inl x1), some (.inl x2), some (.inl (w 1 0 5))]) (S1 := [.inl 0]) (w1 := r6.2) (P := True) [(.iconst 0, 0, 0, 0, 0)] (by decide +kernel) rfl trivial ?_
    exact GE_zret (ty := .boolean) rfl (by decide +kernel) (by decide +kernel)
noncomputable def h_X1_readsSum_16 (rc : Nat → Int32 → Mem → Option (Int32 × Mem)) (x1 : Int32) (k83 : Mem → Option (Int32 × Mem)) : Nat → Int32 → Mem → Option (Int32 × Mem)
  | 0, _, _ => none
  | n + 1, x2, w => if x2 < 160 then (if (w 1 0 5) = 43 then (j_X1_readsSum_41 rc (h_X1_readsSum_16 rc x1 k83 n) x1 x2 w) else (if (w 1 0 5) = 45 then (j_X1_readsSum_41 rc (h_X1_readsSum_16 rc x1 k83 n) x1 x2 w) else (k83 w))) else (k83 w)
set_option maxRecDepth 100000 in
theorem h_X1_readsSum_16_ok (l : Launch) (X : XC) {N9 : Nat} (hN : 39 ≤ N9) (rc : Nat → Int32 → Mem → Option (Int32 × Mem)) (x1 : Int32) (k83 : Mem → Option (Int32 × Mem)) (m : Nat) (hrc0 : ∀ (a : Int32) (w : Mem), Ct l X (m + 6) yX1_readsE cX1_readsE 3 (some .boolean) emI [.inr (.inr (some (1, 0))), .inl a] N9 flT w (rc 0 a w)) (hrc1 : ∀ (a : Int32) (w : Mem), Ct l X (m + 6) yX1_readsAnd cX1_readsAnd 3 (some .boolean) emI [.inr (.inr (some (1, 0))), .inl a] N9 flT w (rc 1 a w)) (hrc2 : ∀ (a : Int32) (w : Mem), Ct l X (m + 6) yX1_readsNot cX1_readsNot 3 (some .boolean) emI [.inr (.inr (some (1, 0))), .inl a] N9 flT w (rc 2 a w)) (hrc3 : ∀ (a : Int32) (w : Mem), Ct l X (m + 6) yX1_readsSum cX1_readsSum 4 (some .boolean) emI [.inr (.inr (some (1, 0))), .inl a] N9 flT w (rc 3 a w)) (hrc4 : ∀ (a : Int32) (w : Mem), Ct l X (m + 6) yX1_readsTerm cX1_readsTerm 3 (some .boolean) emI [.inr (.inr (some (1, 0))), .inl a] N9 flT w (rc 4 a w)) (hrc5 : ∀ (a : Int32) (w : Mem), Ct l X (m + 6) yX1_readsOne cX1_readsOne 3 (some .boolean) emI [.inr (.inr (some (1, 0))), .inl a] N9 flT w (rc 5 a w)) (hk83 : ∀  (w : Mem), GE l X mm_X1_readsSum (m + 7) emI N9 flT (k83 w) 83 [none, none, none, none] [] w) : ∀ (n : Nat) (x2 : Int32) (w : Mem), GE l X mm_X1_readsSum (m + 7) emI N9 flT ((h_X1_readsSum_16 rc x1 k83 n) x2 w) 16 [some (.inr (.inr (some (1, 0)))), some (.inl x1), some (.inl x2), none] [] w := by
  intro n
  induction n with
  | zero => intro x2 w; exact GE_none
  | succ n ih =>
    intro x2 w
    unfold h_X1_readsSum_16
    refine GE_run (flG_T hN) (pc1 := 20) (L1 := [some (.inr (.inr (some (1, 0)))), some (.inl x1), some (.inl x2), none]) (S1 := [.inl 160, .inl x2]) (w1 := w) (P := True) [(.iload_n 2, 0, 0, 0, 0), (.sipush 160, 0, 0, 160, 0)] (by decide +kernel) rfl trivial ?_
    refine GE_icmpN (k := .ge) (off := 63) (tgt := 83) (by decide +kernel) (by decide) (cnd_ge _ _) (fun c3 => ?_) (fun c3 => ?_)
    · exact GE_weak [false, false, false, false] (hk83 w)
    · refine GE_run (flG_T hN) (pc1 := 29) (L1 := [some (.inr (.inr (some (1, 0)))), some (.inl x1), some (.inl x2), none]) (S1 := [.inl 43, .inl (w 1 0 5)]) (w1 := w) (P := True) [(.aload_n 0, 0, 0, 0, 0), (.getfield 38, 1, 5, 0, 0), (.bipush 43, 0, 0, 43, 0)] (by decide +kernel) rfl trivial ?_
      refine GE_icmp (k := .eq) (off := 12) (tgt := 41) (by decide +kernel) (by decide) (cnd_eq _ _) (fun c4 => ?_) (fun c4 => ?_)
      · exact GE_weak [true, true, true, false] (j_X1_readsSum_41_ok l X hN rc (h_X1_readsSum_16 rc x1 k83 n) x1 x2 m hrc0 hrc1 hrc2 hrc3 hrc4 hrc5 ih w)
      · refine GE_run (flG_T hN) (pc1 := 38) (L1 := [some (.inr (.inr (some (1, 0)))), some (.inl x1), some (.inl x2), none]) (S1 := [.inl 45, .inl (w 1 0 5)]) (w1 := w) (P := True) [(.aload_n 0, 0, 0, 0, 0), (.getfield 38, 1, 5, 0, 0), (.bipush 45, 0, 0, 45, 0)] (by decide +kernel) rfl trivial ?_
        refine GE_icmpN (k := .ne) (off := 45) (tgt := 83) (by decide +kernel) (by decide) (cnd_ne _ _) (fun c11 => ?_) (fun c11 => ?_)
        · exact GE_weak [false, false, false, false] (hk83 w)
        · exact GE_weak [true, true, true, false] (j_X1_readsSum_41_ok l X hN rc (h_X1_readsSum_16 rc x1 k83 n) x1 x2 m hrc0 hrc1 hrc2 hrc3 hrc4 hrc5 ih w)
noncomputable def f_X1_readsSum (rc : Nat → Int32 → Mem → Option (Int32 × Mem)) (a2 : Int32) (w : Mem) : Option (Int32 × Mem) := Option.bind (rc 4 a2 w) (fun r1 => if r1.1 = 0 then (some (0, r1.2)) else (h_X1_readsSum_16 rc a2 (fun w12 => some (1, w12)) FU 0 r1.2))
set_option maxRecDepth 100000 in
theorem t_X1_readsSum (l : Launch) (X : XC) {N9 : Nat} (hN : 39 ≤ N9)  (rc : Nat → Int32 → Mem → Option (Int32 × Mem)) (a2 : Int32) (m : Nat) (hrc0 : ∀ (a : Int32) (w : Mem), Ct l X (m + 6) yX1_readsE cX1_readsE 3 (some .boolean) emI [.inr (.inr (some (1, 0))), .inl a] N9 flT w (rc 0 a w)) (hrc1 : ∀ (a : Int32) (w : Mem), Ct l X (m + 6) yX1_readsAnd cX1_readsAnd 3 (some .boolean) emI [.inr (.inr (some (1, 0))), .inl a] N9 flT w (rc 1 a w)) (hrc2 : ∀ (a : Int32) (w : Mem), Ct l X (m + 6) yX1_readsNot cX1_readsNot 3 (some .boolean) emI [.inr (.inr (some (1, 0))), .inl a] N9 flT w (rc 2 a w)) (hrc3 : ∀ (a : Int32) (w : Mem), Ct l X (m + 6) yX1_readsSum cX1_readsSum 4 (some .boolean) emI [.inr (.inr (some (1, 0))), .inl a] N9 flT w (rc 3 a w)) (hrc4 : ∀ (a : Int32) (w : Mem), Ct l X (m + 6) yX1_readsTerm cX1_readsTerm 3 (some .boolean) emI [.inr (.inr (some (1, 0))), .inl a] N9 flT w (rc 4 a w)) (hrc5 : ∀ (a : Int32) (w : Mem), Ct l X (m + 6) yX1_readsOne cX1_readsOne 3 (some .boolean) emI [.inr (.inr (some (1, 0))), .inl a] N9 flT w (rc 5 a w)) (w : Mem) : Ct l X (m + 7) yX1_readsSum cX1_readsSum 4 (some .boolean) emI [.inr (.inr (some (1, 0))), .inl a2] N9 flT w (f_X1_readsSum rc a2 w) := by
  refine Ct_of (mi := mm_X1_readsSum) (mik_X1 _ _ _) me_X1_readsSum rfl (okAs_cons (okMV hN (by decide)) (okAs_cons rfl okAs_nil)) (Nat.le_of_ble_eq_true rfl) ?_
  unfold f_X1_readsSum
  refine GE_run (flG_T hN) (pc1 := 1) (L1 := [some (.inr (.inr (some (1, 0)))), some (.inl a2), none, none]) (S1 := [.inr (.inr (some (1, 0)))]) (w1 := w) (P := True) [(.aload_n 0, 0, 0, 0, 0)] (by decide +kernel) rfl trivial ?_
  refine GE_null1 (off := 11) (by decide +kernel) ?_
  refine GE_run (flG_T hN) (pc1 := 6) (L1 := [some (.inr (.inr (some (1, 0)))), some (.inl a2), none, none]) (S1 := [.inl a2, .inr (.inr (some (1, 0)))]) (w1 := w) (P := True) [(.aload_n 0, 0, 0, 0, 0), (.iload_n 1, 0, 0, 0, 0)] (by decide +kernel) rfl trivial ?_
  refine GE_callSI (As := [.inr (.inr (some (1, 0))), .inl a2]) (S := []) (hrc4 a2 w) ⟨me_X1_readsTerm, ms_X1_readsTerm, lk_X1_61⟩ (by decide +kernel) rfl (by omega) (by decide) (Nat.le_of_ble_eq_true rfl) (fun r1 _ => ?_)
  refine GE_ifN (k := .ne) (off := 5) (tgt := 14) (by decide +kernel) (by decide) (cnd_ne _ _) (fun c2 => ?_) (fun c2 => ?_)
  · refine GE_run (flG_T hN) (pc1 := 16) (L1 := [some (.inr (.inr (some (1, 0)))), some (.inl a2), some (.inl 0), none]) (S1 := []) (w1 := r1.2) (P := True) [(.iconst 0, 0, 0, 0, 0), (.istore_n 2, 0, 0, 0, 0)] (by decide +kernel) rfl trivial ?_
    refine GE_weak [true, true, true, false] (h_X1_readsSum_16_ok l X hN rc a2 _ m hrc0 hrc1 hrc2 hrc3 hrc4 hrc5 ?_ FU 0 r1.2)
    · intro w12
      refine GE_run (flG_T hN) (pc1 := 84) (L1 := [none, none, none, none]) (S1 := [.inl 1]) (w1 := w12) (P := True) [(.iconst 1, 0, 0, 1, 0)] (by decide +kernel) rfl trivial ?_
      exact GE_zret (ty := .boolean) rfl (by decide +kernel) (by decide +kernel)
  · refine GE_run (flG_T hN) (pc1 := 13) (L1 := [some (.inr (.inr (some (1, 0)))), some (.inl a2), none, none]) (S1 := [.inl 0]) (w1 := r1.2) (P := True) [(.iconst 0, 0, 0, 0, 0)] (by decide +kernel) rfl trivial ?_
    exact GE_zret (ty := .boolean) rfl (by decide +kernel) (by decide +kernel)
abbrev mm_X1_readsTerm : MI := (RX1, cX1_readsTerm, 3, (some .boolean), ftp_X1.map (fun q => q.1), ctp_X1.map (fun q => q.1), clp_X1.map (fun q => q.1))
noncomputable def h_X1_readsTerm_16 (rc : Nat → Int32 → Mem → Option (Int32 × Mem)) (x1 : Int32) (k58 : Mem → Option (Int32 × Mem)) : Nat → Int32 → Mem → Option (Int32 × Mem)
  | 0, _, _ => none
  | n + 1, x2, w => if x2 < 160 then (if (w 1 0 5) = 42 then (Option.bind (f_X1_next  w) (fun r5 => Option.bind (rc 5 x1 r5) (fun r6 => if r6.1 = 0 then (some (0, r6.2)) else (Option.bind (f_X1_write (-14) r6.2) (fun r8 => (h_X1_readsTerm_16 rc x1 k58 n) (x2 + 1) r8))))) else (k58 w)) else (k58 w)
set_option maxRecDepth 100000 in
theorem h_X1_readsTerm_16_ok (l : Launch) (X : XC) {N9 : Nat} (hN : 39 ≤ N9) (rc : Nat → Int32 → Mem → Option (Int32 × Mem)) (x1 : Int32) (k58 : Mem → Option (Int32 × Mem)) (m : Nat) (hrc0 : ∀ (a : Int32) (w : Mem), Ct l X (m + 6) yX1_readsE cX1_readsE 3 (some .boolean) emI [.inr (.inr (some (1, 0))), .inl a] N9 flT w (rc 0 a w)) (hrc1 : ∀ (a : Int32) (w : Mem), Ct l X (m + 6) yX1_readsAnd cX1_readsAnd 3 (some .boolean) emI [.inr (.inr (some (1, 0))), .inl a] N9 flT w (rc 1 a w)) (hrc2 : ∀ (a : Int32) (w : Mem), Ct l X (m + 6) yX1_readsNot cX1_readsNot 3 (some .boolean) emI [.inr (.inr (some (1, 0))), .inl a] N9 flT w (rc 2 a w)) (hrc3 : ∀ (a : Int32) (w : Mem), Ct l X (m + 6) yX1_readsSum cX1_readsSum 4 (some .boolean) emI [.inr (.inr (some (1, 0))), .inl a] N9 flT w (rc 3 a w)) (hrc4 : ∀ (a : Int32) (w : Mem), Ct l X (m + 6) yX1_readsTerm cX1_readsTerm 3 (some .boolean) emI [.inr (.inr (some (1, 0))), .inl a] N9 flT w (rc 4 a w)) (hrc5 : ∀ (a : Int32) (w : Mem), Ct l X (m + 6) yX1_readsOne cX1_readsOne 3 (some .boolean) emI [.inr (.inr (some (1, 0))), .inl a] N9 flT w (rc 5 a w)) (hk58 : ∀  (w : Mem), GE l X mm_X1_readsTerm (m + 7) emI N9 flT (k58 w) 58 [none, none, none] [] w) : ∀ (n : Nat) (x2 : Int32) (w : Mem), GE l X mm_X1_readsTerm (m + 7) emI N9 flT ((h_X1_readsTerm_16 rc x1 k58 n) x2 w) 16 [some (.inr (.inr (some (1, 0)))), some (.inl x1), some (.inl x2)] [] w := by
  intro n
  induction n with
  | zero => intro x2 w; exact GE_none
  | succ n ih =>
    intro x2 w
    unfold h_X1_readsTerm_16
    refine GE_run (flG_T hN) (pc1 := 20) (L1 := [some (.inr (.inr (some (1, 0)))), some (.inl x1), some (.inl x2)]) (S1 := [.inl 160, .inl x2]) (w1 := w) (P := True) [(.iload_n 2, 0, 0, 0, 0), (.sipush 160, 0, 0, 160, 0)] (by decide +kernel) rfl trivial ?_
    refine GE_icmpN (k := .ge) (off := 38) (tgt := 58) (by decide +kernel) (by decide) (cnd_ge _ _) (fun c3 => ?_) (fun c3 => ?_)
    · exact GE_weak [false, false, false] (hk58 w)
    · refine GE_run (flG_T hN) (pc1 := 29) (L1 := [some (.inr (.inr (some (1, 0)))), some (.inl x1), some (.inl x2)]) (S1 := [.inl 42, .inl (w 1 0 5)]) (w1 := w) (P := True) [(.aload_n 0, 0, 0, 0, 0), (.getfield 38, 1, 5, 0, 0), (.bipush 42, 0, 0, 42, 0)] (by decide +kernel) rfl trivial ?_
      refine GE_icmpN (k := .ne) (off := 29) (tgt := 58) (by decide +kernel) (by decide) (cnd_ne _ _) (fun c4 => ?_) (fun c4 => ?_)
      · exact GE_weak [false, false, false] (hk58 w)
      · refine GE_run (flG_T hN) (pc1 := 33) (L1 := [some (.inr (.inr (some (1, 0)))), some (.inl x1), some (.inl x2)]) (S1 := [.inr (.inr (some (1, 0)))]) (w1 := w) (P := True) [(.aload_n 0, 0, 0, 0, 0)] (by decide +kernel) rfl trivial ?_
        refine GE_callVV (As := []) (k := 1) (i := 0) (S := []) (t_X1_next l X hN w) (by decide) ⟨me_X1_next, mi_X1_next, mv_X1_next, lk_X1_35⟩ rfl (by decide +kernel) rfl (by omega) (by decide) (Nat.le_of_ble_eq_true rfl) (fun r5 _ => ?_)
        refine GE_run (flG_T hN) (pc1 := 38) (L1 := [some (.inr (.inr (some (1, 0)))), some (.inl x1), some (.inl x2)]) (S1 := [.inl x1, .inr (.inr (some (1, 0)))]) (w1 := r5) (P := True) [(.aload_n 0, 0, 0, 0, 0), (.iload_n 1, 0, 0, 0, 0)] (by decide +kernel) rfl trivial ?_
        refine GE_callSI (As := [.inr (.inr (some (1, 0))), .inl x1]) (S := []) (hrc5 x1 r5) ⟨me_X1_readsOne, ms_X1_readsOne, lk_X1_64⟩ (by decide +kernel) rfl (by omega) (by decide) (Nat.le_of_ble_eq_true rfl) (fun r6 _ => ?_)
        refine GE_ifN (k := .ne) (off := 5) (tgt := 46) (by decide +kernel) (by decide) (cnd_ne _ _) (fun c7 => ?_) (fun c7 => ?_)
        · refine GE_run (flG_T hN) (pc1 := 49) (L1 := [some (.inr (.inr (some (1, 0)))), some (.inl x1), some (.inl x2)]) (S1 := [.inl (-14), .inr (.inr (some (1, 0)))]) (w1 := r6.2) (P := True) [(.aload_n 0, 0, 0, 0, 0), (.bipush (-14), 0, 0, -14, 0)] (by decide +kernel) rfl trivial ?_
          refine GE_callVV (As := [.inl (-14)]) (k := 1) (i := 0) (S := []) (t_X1_write l X hN (-14) r6.2) (by decide) ⟨me_X1_write, mi_X1_write, mv_X1_write, lk_X1_51⟩ rfl (by decide +kernel) rfl (by omega) (by decide) (Nat.le_of_ble_eq_true rfl) (fun r8 _ => ?_)
          refine GE_run (flG_T hN) (pc1 := 16) (L1 := [some (.inr (.inr (some (1, 0)))), some (.inl x1), some (.inl (x2 + 1))]) (S1 := []) (w1 := r8) (P := True) [(.iinc 2 1, 0, 0, 1, 0), (.goto (-39), 0, 0, 0, 0)] (by decide +kernel) rfl trivial ?_
          exact GE_weak [true, true, true] (ih (x2 + 1) r8)
        · refine GE_run (flG_T hN) (pc1 := 45) (L1 := [some (.inr (.inr (some (1, 0)))), some (.inl x1), some (.inl x2)]) (S1 := [.inl 0]) (w1 := r6.2) (P := True) [(.iconst 0, 0, 0, 0, 0)] (by decide +kernel) rfl trivial ?_
          exact GE_zret (ty := .boolean) rfl (by decide +kernel) (by decide +kernel)
noncomputable def f_X1_readsTerm (rc : Nat → Int32 → Mem → Option (Int32 × Mem)) (a2 : Int32) (w : Mem) : Option (Int32 × Mem) := Option.bind (rc 5 a2 w) (fun r1 => if r1.1 = 0 then (some (0, r1.2)) else (h_X1_readsTerm_16 rc a2 (fun w9 => some (1, w9)) FU 0 r1.2))
set_option maxRecDepth 100000 in
theorem t_X1_readsTerm (l : Launch) (X : XC) {N9 : Nat} (hN : 39 ≤ N9)  (rc : Nat → Int32 → Mem → Option (Int32 × Mem)) (a2 : Int32) (m : Nat) (hrc0 : ∀ (a : Int32) (w : Mem), Ct l X (m + 6) yX1_readsE cX1_readsE 3 (some .boolean) emI [.inr (.inr (some (1, 0))), .inl a] N9 flT w (rc 0 a w)) (hrc1 : ∀ (a : Int32) (w : Mem), Ct l X (m + 6) yX1_readsAnd cX1_readsAnd 3 (some .boolean) emI [.inr (.inr (some (1, 0))), .inl a] N9 flT w (rc 1 a w)) (hrc2 : ∀ (a : Int32) (w : Mem), Ct l X (m + 6) yX1_readsNot cX1_readsNot 3 (some .boolean) emI [.inr (.inr (some (1, 0))), .inl a] N9 flT w (rc 2 a w)) (hrc3 : ∀ (a : Int32) (w : Mem), Ct l X (m + 6) yX1_readsSum cX1_readsSum 4 (some .boolean) emI [.inr (.inr (some (1, 0))), .inl a] N9 flT w (rc 3 a w)) (hrc4 : ∀ (a : Int32) (w : Mem), Ct l X (m + 6) yX1_readsTerm cX1_readsTerm 3 (some .boolean) emI [.inr (.inr (some (1, 0))), .inl a] N9 flT w (rc 4 a w)) (hrc5 : ∀ (a : Int32) (w : Mem), Ct l X (m + 6) yX1_readsOne cX1_readsOne 3 (some .boolean) emI [.inr (.inr (some (1, 0))), .inl a] N9 flT w (rc 5 a w)) (w : Mem) : Ct l X (m + 7) yX1_readsTerm cX1_readsTerm 3 (some .boolean) emI [.inr (.inr (some (1, 0))), .inl a2] N9 flT w (f_X1_readsTerm rc a2 w) := by
  refine Ct_of (mi := mm_X1_readsTerm) (mik_X1 _ _ _) me_X1_readsTerm rfl (okAs_cons (okMV hN (by decide)) (okAs_cons rfl okAs_nil)) (Nat.le_of_ble_eq_true rfl) ?_
  unfold f_X1_readsTerm
  refine GE_run (flG_T hN) (pc1 := 1) (L1 := [some (.inr (.inr (some (1, 0)))), some (.inl a2), none]) (S1 := [.inr (.inr (some (1, 0)))]) (w1 := w) (P := True) [(.aload_n 0, 0, 0, 0, 0)] (by decide +kernel) rfl trivial ?_
  refine GE_null1 (off := 11) (by decide +kernel) ?_
  refine GE_run (flG_T hN) (pc1 := 6) (L1 := [some (.inr (.inr (some (1, 0)))), some (.inl a2), none]) (S1 := [.inl a2, .inr (.inr (some (1, 0)))]) (w1 := w) (P := True) [(.aload_n 0, 0, 0, 0, 0), (.iload_n 1, 0, 0, 0, 0)] (by decide +kernel) rfl trivial ?_
  refine GE_callSI (As := [.inr (.inr (some (1, 0))), .inl a2]) (S := []) (hrc5 a2 w) ⟨me_X1_readsOne, ms_X1_readsOne, lk_X1_64⟩ (by decide +kernel) rfl (by omega) (by decide) (Nat.le_of_ble_eq_true rfl) (fun r1 _ => ?_)
  refine GE_ifN (k := .ne) (off := 5) (tgt := 14) (by decide +kernel) (by decide) (cnd_ne _ _) (fun c2 => ?_) (fun c2 => ?_)
  · refine GE_run (flG_T hN) (pc1 := 16) (L1 := [some (.inr (.inr (some (1, 0)))), some (.inl a2), some (.inl 0)]) (S1 := []) (w1 := r1.2) (P := True) [(.iconst 0, 0, 0, 0, 0), (.istore_n 2, 0, 0, 0, 0)] (by decide +kernel) rfl trivial ?_
    refine GE_weak [true, true, true] (h_X1_readsTerm_16_ok l X hN rc a2 _ m hrc0 hrc1 hrc2 hrc3 hrc4 hrc5 ?_ FU 0 r1.2)
    · intro w9
      refine GE_run (flG_T hN) (pc1 := 59) (L1 := [none, none, none]) (S1 := [.inl 1]) (w1 := w9) (P := True) [(.iconst 1, 0, 0, 1, 0)] (by decide +kernel) rfl trivial ?_
      exact GE_zret (ty := .boolean) rfl (by decide +kernel) (by decide +kernel)
  · refine GE_run (flG_T hN) (pc1 := 13) (L1 := [some (.inr (.inr (some (1, 0)))), some (.inl a2), none]) (S1 := [.inl 0]) (w1 := r1.2) (P := True) [(.iconst 0, 0, 0, 0, 0)] (by decide +kernel) rfl trivial ?_
    exact GE_zret (ty := .boolean) rfl (by decide +kernel) (by decide +kernel)
abbrev mm_X1_readsOne : MI := (RX1, cX1_readsOne, 3, (some .boolean), ftp_X1.map (fun q => q.1), ctp_X1.map (fun q => q.1), clp_X1.map (fun q => q.1))
noncomputable def j_X1_readsOne_40 (rc : Nat → Int32 → Mem → Option (Int32 × Mem))  (s0 : Int32) (w : Mem) : Option (Int32 × Mem) := Option.bind (f_X1_write s0 w) (fun r3 => Option.bind (f_X1_next  r3) (fun r4 => some (1, r4)))
set_option maxRecDepth 100000 in
theorem j_X1_readsOne_40_ok (l : Launch) (X : XC) {N9 : Nat} (hN : 39 ≤ N9) (rc : Nat → Int32 → Mem → Option (Int32 × Mem))  (s0 : Int32) (m : Nat) (hrc0 : ∀ (a : Int32) (w : Mem), Ct l X (m + 6) yX1_readsE cX1_readsE 3 (some .boolean) emI [.inr (.inr (some (1, 0))), .inl a] N9 flT w (rc 0 a w)) (hrc1 : ∀ (a : Int32) (w : Mem), Ct l X (m + 6) yX1_readsAnd cX1_readsAnd 3 (some .boolean) emI [.inr (.inr (some (1, 0))), .inl a] N9 flT w (rc 1 a w)) (hrc2 : ∀ (a : Int32) (w : Mem), Ct l X (m + 6) yX1_readsNot cX1_readsNot 3 (some .boolean) emI [.inr (.inr (some (1, 0))), .inl a] N9 flT w (rc 2 a w)) (hrc3 : ∀ (a : Int32) (w : Mem), Ct l X (m + 6) yX1_readsSum cX1_readsSum 4 (some .boolean) emI [.inr (.inr (some (1, 0))), .inl a] N9 flT w (rc 3 a w)) (hrc4 : ∀ (a : Int32) (w : Mem), Ct l X (m + 6) yX1_readsTerm cX1_readsTerm 3 (some .boolean) emI [.inr (.inr (some (1, 0))), .inl a] N9 flT w (rc 4 a w)) (hrc5 : ∀ (a : Int32) (w : Mem), Ct l X (m + 6) yX1_readsOne cX1_readsOne 3 (some .boolean) emI [.inr (.inr (some (1, 0))), .inl a] N9 flT w (rc 5 a w))  (w : Mem) : GE l X mm_X1_readsOne (m + 7) emI N9 flT (j_X1_readsOne_40 rc s0 w) 40 [some (.inr (.inr (some (1, 0)))), none, none] [.inl s0, .inr (.inr (some (1, 0)))] w := by
  unfold j_X1_readsOne_40
  refine GE_callVV (As := [.inl s0]) (k := 1) (i := 0) (S := []) (t_X1_write l X hN s0 w) (by decide) ⟨me_X1_write, mi_X1_write, mv_X1_write, lk_X1_51⟩ rfl (by decide +kernel) rfl (by omega) (by decide) (Nat.le_of_ble_eq_true rfl) (fun r3 _ => ?_)
  refine GE_run (flG_T hN) (pc1 := 44) (L1 := [some (.inr (.inr (some (1, 0)))), none, none]) (S1 := [.inr (.inr (some (1, 0)))]) (w1 := r3) (P := True) [(.aload_n 0, 0, 0, 0, 0)] (by decide +kernel) rfl trivial ?_
  refine GE_callVV (As := []) (k := 1) (i := 0) (S := []) (t_X1_next l X hN r3) (by decide) ⟨me_X1_next, mi_X1_next, mv_X1_next, lk_X1_35⟩ rfl (by decide +kernel) rfl (by omega) (by decide) (Nat.le_of_ble_eq_true rfl) (fun r4 _ => ?_)
  refine GE_run (flG_T hN) (pc1 := 48) (L1 := [some (.inr (.inr (some (1, 0)))), none, none]) (S1 := [.inl 1]) (w1 := r4) (P := True) [(.iconst 1, 0, 0, 1, 0)] (by decide +kernel) rfl trivial ?_
  exact GE_zret (ty := .boolean) rfl (by decide +kernel) (by decide +kernel)
noncomputable def j_X1_readsOne_21 (rc : Nat → Int32 → Mem → Option (Int32 × Mem))   (w : Mem) : Option (Int32 × Mem) := if (w 1 0 5) < 0 then (j_X1_readsOne_40 rc (w 1 0 5) w) else (j_X1_readsOne_40 rc (w 1 0 8) w)
set_option maxRecDepth 100000 in
theorem j_X1_readsOne_21_ok (l : Launch) (X : XC) {N9 : Nat} (hN : 39 ≤ N9) (rc : Nat → Int32 → Mem → Option (Int32 × Mem))   (m : Nat) (hrc0 : ∀ (a : Int32) (w : Mem), Ct l X (m + 6) yX1_readsE cX1_readsE 3 (some .boolean) emI [.inr (.inr (some (1, 0))), .inl a] N9 flT w (rc 0 a w)) (hrc1 : ∀ (a : Int32) (w : Mem), Ct l X (m + 6) yX1_readsAnd cX1_readsAnd 3 (some .boolean) emI [.inr (.inr (some (1, 0))), .inl a] N9 flT w (rc 1 a w)) (hrc2 : ∀ (a : Int32) (w : Mem), Ct l X (m + 6) yX1_readsNot cX1_readsNot 3 (some .boolean) emI [.inr (.inr (some (1, 0))), .inl a] N9 flT w (rc 2 a w)) (hrc3 : ∀ (a : Int32) (w : Mem), Ct l X (m + 6) yX1_readsSum cX1_readsSum 4 (some .boolean) emI [.inr (.inr (some (1, 0))), .inl a] N9 flT w (rc 3 a w)) (hrc4 : ∀ (a : Int32) (w : Mem), Ct l X (m + 6) yX1_readsTerm cX1_readsTerm 3 (some .boolean) emI [.inr (.inr (some (1, 0))), .inl a] N9 flT w (rc 4 a w)) (hrc5 : ∀ (a : Int32) (w : Mem), Ct l X (m + 6) yX1_readsOne cX1_readsOne 3 (some .boolean) emI [.inr (.inr (some (1, 0))), .inl a] N9 flT w (rc 5 a w))  (w : Mem) : GE l X mm_X1_readsOne (m + 7) emI N9 flT (j_X1_readsOne_21 rc w) 21 [some (.inr (.inr (some (1, 0)))), none, none] [] w := by
  unfold j_X1_readsOne_21
  refine GE_run (flG_T hN) (pc1 := 26) (L1 := [some (.inr (.inr (some (1, 0)))), none, none]) (S1 := [.inl (w 1 0 5), .inr (.inr (some (1, 0)))]) (w1 := w) (P := True) [(.aload_n 0, 0, 0, 0, 0), (.aload_n 0, 0, 0, 0, 0), (.getfield 38, 1, 5, 0, 0)] (by decide +kernel) rfl trivial ?_
  refine GE_ifN (k := .ge) (off := 10) (tgt := 36) (by decide +kernel) (by decide) (cnd_ge _ _) (fun c2 => ?_) (fun c2 => ?_)
  · refine GE_run (flG_T hN) (pc1 := 40) (L1 := [some (.inr (.inr (some (1, 0)))), none, none]) (S1 := [.inl (w 1 0 8), .inr (.inr (some (1, 0)))]) (w1 := w) (P := True) [(.aload_n 0, 0, 0, 0, 0), (.getfield 67, 1, 8, 0, 0)] (by decide +kernel) rfl trivial ?_
    exact GE_weak [true, false, false] (j_X1_readsOne_40_ok l X hN rc (w 1 0 8) m hrc0 hrc1 hrc2 hrc3 hrc4 hrc5 w)
  · refine GE_run (flG_T hN) (pc1 := 40) (L1 := [some (.inr (.inr (some (1, 0)))), none, none]) (S1 := [.inl (w 1 0 5), .inr (.inr (some (1, 0)))]) (w1 := w) (P := True) [(.aload_n 0, 0, 0, 0, 0), (.getfield 38, 1, 5, 0, 0), (.goto 7, 0, 0, 0, 0)] (by decide +kernel) rfl trivial ?_
    exact GE_weak [true, false, false] (j_X1_readsOne_40_ok l X hN rc (w 1 0 5) m hrc0 hrc1 hrc2 hrc3 hrc4 hrc5 w)
noncomputable def j_X1_readsOne_88 (rc : Nat → Int32 → Mem → Option (Int32 × Mem))  (x1 : Int32) (s0 : Int32) (w : Mem) : Option (Int32 × Mem) := Option.bind (f_X1_next  w) (fun r9 => if s0 = 0 then (Option.bind (rc 0 (x1 + 1) r9) (fun r11 => if r11.1 = 0 then (some (0, r11.2)) else (if (r11.2 1 0 5) = 41 then (Option.bind (f_X1_next  r11.2) (fun r14 => some (1, r14))) else (some (0, r11.2))))) else (Option.bind (rc 5 (x1 + 1) r9) (fun r15 => if r15.1 = 0 then (some (0, r15.2)) else (Option.bind (f_X1_write (-15) r15.2) (fun r17 => some (1, r17))))))
set_option maxRecDepth 100000 in
theorem j_X1_readsOne_88_ok (l : Launch) (X : XC) {N9 : Nat} (hN : 39 ≤ N9) (rc : Nat → Int32 → Mem → Option (Int32 × Mem))  (x1 : Int32) (s0 : Int32) (m : Nat) (hrc0 : ∀ (a : Int32) (w : Mem), Ct l X (m + 6) yX1_readsE cX1_readsE 3 (some .boolean) emI [.inr (.inr (some (1, 0))), .inl a] N9 flT w (rc 0 a w)) (hrc1 : ∀ (a : Int32) (w : Mem), Ct l X (m + 6) yX1_readsAnd cX1_readsAnd 3 (some .boolean) emI [.inr (.inr (some (1, 0))), .inl a] N9 flT w (rc 1 a w)) (hrc2 : ∀ (a : Int32) (w : Mem), Ct l X (m + 6) yX1_readsNot cX1_readsNot 3 (some .boolean) emI [.inr (.inr (some (1, 0))), .inl a] N9 flT w (rc 2 a w)) (hrc3 : ∀ (a : Int32) (w : Mem), Ct l X (m + 6) yX1_readsSum cX1_readsSum 4 (some .boolean) emI [.inr (.inr (some (1, 0))), .inl a] N9 flT w (rc 3 a w)) (hrc4 : ∀ (a : Int32) (w : Mem), Ct l X (m + 6) yX1_readsTerm cX1_readsTerm 3 (some .boolean) emI [.inr (.inr (some (1, 0))), .inl a] N9 flT w (rc 4 a w)) (hrc5 : ∀ (a : Int32) (w : Mem), Ct l X (m + 6) yX1_readsOne cX1_readsOne 3 (some .boolean) emI [.inr (.inr (some (1, 0))), .inl a] N9 flT w (rc 5 a w))  (w : Mem) : GE l X mm_X1_readsOne (m + 7) emI N9 flT (j_X1_readsOne_88 rc x1 s0 w) 88 [some (.inr (.inr (some (1, 0)))), some (.inl x1), none] [.inl s0] w := by
  unfold j_X1_readsOne_88
  refine GE_run (flG_T hN) (pc1 := 90) (L1 := [some (.inr (.inr (some (1, 0)))), some (.inl x1), some (.inl s0)]) (S1 := [.inr (.inr (some (1, 0)))]) (w1 := w) (P := True) [(.istore_n 2, 0, 0, 0, 0), (.aload_n 0, 0, 0, 0, 0)] (by decide +kernel) rfl trivial ?_
  refine GE_callVV (As := []) (k := 1) (i := 0) (S := []) (t_X1_next l X hN w) (by decide) ⟨me_X1_next, mi_X1_next, mv_X1_next, lk_X1_35⟩ rfl (by decide +kernel) rfl (by omega) (by decide) (Nat.le_of_ble_eq_true rfl) (fun r9 _ => ?_)
  refine GE_run (flG_T hN) (pc1 := 94) (L1 := [some (.inr (.inr (some (1, 0)))), some (.inl x1), some (.inl s0)]) (S1 := [.inl s0]) (w1 := r9) (P := True) [(.iload_n 2, 0, 0, 0, 0)] (by decide +kernel) rfl trivial ?_
  refine GE_if (k := .eq) (off := 23) (tgt := 117) (by decide +kernel) (by decide) (cnd_eq _ _) (fun c10 => ?_) (fun c10 => ?_)
  · refine GE_run (flG_T hN) (pc1 := 121) (L1 := [some (.inr (.inr (some (1, 0)))), some (.inl x1), some (.inl s0)]) (S1 := [.inl (x1 + 1), .inr (.inr (some (1, 0)))]) (w1 := r9) (P := True) [(.aload_n 0, 0, 0, 0, 0), (.iload_n 1, 0, 0, 0, 0), (.iconst 1, 0, 0, 1, 0), (.iadd, 0, 0, 0, 0)] (by decide +kernel) rfl trivial ?_
    refine GE_callSI (As := [.inr (.inr (some (1, 0))), .inl (x1 + 1)]) (S := []) (hrc0 (x1 + 1) r9) ⟨me_X1_readsE, ms_X1_readsE, lk_X1_44⟩ (by decide +kernel) rfl (by omega) (by decide) (Nat.le_of_ble_eq_true rfl) (fun r11 _ => ?_)
    refine GE_if (k := .eq) (off := 12) (tgt := 136) (by decide +kernel) (by decide) (cnd_eq _ _) (fun c12 => ?_) (fun c12 => ?_)
    · refine GE_run (flG_T hN) (pc1 := 137) (L1 := [some (.inr (.inr (some (1, 0)))), some (.inl x1), some (.inl s0)]) (S1 := [.inl 0]) (w1 := r11.2) (P := True) [(.iconst 0, 0, 0, 0, 0)] (by decide +kernel) rfl trivial ?_
      exact GE_zret (ty := .boolean) rfl (by decide +kernel) (by decide +kernel)
    · refine GE_run (flG_T hN) (pc1 := 133) (L1 := [some (.inr (.inr (some (1, 0)))), some (.inl x1), some (.inl s0)]) (S1 := [.inl 41, .inl (r11.2 1 0 5)]) (w1 := r11.2) (P := True) [(.aload_n 0, 0, 0, 0, 0), (.getfield 38, 1, 5, 0, 0), (.bipush 41, 0, 0, 41, 0)] (by decide +kernel) rfl trivial ?_
      refine GE_icmp (k := .eq) (off := 5) (tgt := 138) (by decide +kernel) (by decide) (cnd_eq _ _) (fun c13 => ?_) (fun c13 => ?_)
      · refine GE_run (flG_T hN) (pc1 := 139) (L1 := [some (.inr (.inr (some (1, 0)))), some (.inl x1), some (.inl s0)]) (S1 := [.inr (.inr (some (1, 0)))]) (w1 := r11.2) (P := True) [(.aload_n 0, 0, 0, 0, 0)] (by decide +kernel) rfl trivial ?_
        refine GE_callVV (As := []) (k := 1) (i := 0) (S := []) (t_X1_next l X hN r11.2) (by decide) ⟨me_X1_next, mi_X1_next, mv_X1_next, lk_X1_35⟩ rfl (by decide +kernel) rfl (by omega) (by decide) (Nat.le_of_ble_eq_true rfl) (fun r14 _ => ?_)
        refine GE_run (flG_T hN) (pc1 := 143) (L1 := [some (.inr (.inr (some (1, 0)))), some (.inl x1), some (.inl s0)]) (S1 := [.inl 1]) (w1 := r14) (P := True) [(.iconst 1, 0, 0, 1, 0)] (by decide +kernel) rfl trivial ?_
        exact GE_zret (ty := .boolean) rfl (by decide +kernel) (by decide +kernel)
      · refine GE_run (flG_T hN) (pc1 := 137) (L1 := [some (.inr (.inr (some (1, 0)))), some (.inl x1), some (.inl s0)]) (S1 := [.inl 0]) (w1 := r11.2) (P := True) [(.iconst 0, 0, 0, 0, 0)] (by decide +kernel) rfl trivial ?_
        exact GE_zret (ty := .boolean) rfl (by decide +kernel) (by decide +kernel)
  · refine GE_run (flG_T hN) (pc1 := 101) (L1 := [some (.inr (.inr (some (1, 0)))), some (.inl x1), some (.inl s0)]) (S1 := [.inl (x1 + 1), .inr (.inr (some (1, 0)))]) (w1 := r9) (P := True) [(.aload_n 0, 0, 0, 0, 0), (.iload_n 1, 0, 0, 0, 0), (.iconst 1, 0, 0, 1, 0), (.iadd, 0, 0, 0, 0)] (by decide +kernel) rfl trivial ?_
    refine GE_callSI (As := [.inr (.inr (some (1, 0))), .inl (x1 + 1)]) (S := []) (hrc5 (x1 + 1) r9) ⟨me_X1_readsOne, ms_X1_readsOne, lk_X1_64⟩ (by decide +kernel) rfl (by omega) (by decide) (Nat.le_of_ble_eq_true rfl) (fun r15 _ => ?_)
    refine GE_ifN (k := .ne) (off := 5) (tgt := 109) (by decide +kernel) (by decide) (cnd_ne _ _) (fun c16 => ?_) (fun c16 => ?_)
    · refine GE_run (flG_T hN) (pc1 := 112) (L1 := [some (.inr (.inr (some (1, 0)))), some (.inl x1), some (.inl s0)]) (S1 := [.inl (-15), .inr (.inr (some (1, 0)))]) (w1 := r15.2) (P := True) [(.aload_n 0, 0, 0, 0, 0), (.bipush (-15), 0, 0, -15, 0)] (by decide +kernel) rfl trivial ?_
      refine GE_callVV (As := [.inl (-15)]) (k := 1) (i := 0) (S := []) (t_X1_write l X hN (-15) r15.2) (by decide) ⟨me_X1_write, mi_X1_write, mv_X1_write, lk_X1_51⟩ rfl (by decide +kernel) rfl (by omega) (by decide) (Nat.le_of_ble_eq_true rfl) (fun r17 _ => ?_)
      refine GE_run (flG_T hN) (pc1 := 116) (L1 := [some (.inr (.inr (some (1, 0)))), some (.inl x1), some (.inl s0)]) (S1 := [.inl 1]) (w1 := r17) (P := True) [(.iconst 1, 0, 0, 1, 0)] (by decide +kernel) rfl trivial ?_
      exact GE_zret (ty := .boolean) rfl (by decide +kernel) (by decide +kernel)
    · refine GE_run (flG_T hN) (pc1 := 108) (L1 := [some (.inr (.inr (some (1, 0)))), some (.inl x1), some (.inl s0)]) (S1 := [.inl 0]) (w1 := r15.2) (P := True) [(.iconst 0, 0, 0, 0, 0)] (by decide +kernel) rfl trivial ?_
      exact GE_zret (ty := .boolean) rfl (by decide +kernel) (by decide +kernel)
noncomputable def j_X1_readsOne_67 (rc : Nat → Int32 → Mem → Option (Int32 × Mem))  (x1 : Int32) (w : Mem) : Option (Int32 × Mem) := if x1 < 5 then (if (w 1 0 5) = 45 then (j_X1_readsOne_88 rc x1 1 w) else (j_X1_readsOne_88 rc x1 0 w)) else (some (0, w))
set_option maxRecDepth 100000 in
theorem j_X1_readsOne_67_ok (l : Launch) (X : XC) {N9 : Nat} (hN : 39 ≤ N9) (rc : Nat → Int32 → Mem → Option (Int32 × Mem))  (x1 : Int32) (m : Nat) (hrc0 : ∀ (a : Int32) (w : Mem), Ct l X (m + 6) yX1_readsE cX1_readsE 3 (some .boolean) emI [.inr (.inr (some (1, 0))), .inl a] N9 flT w (rc 0 a w)) (hrc1 : ∀ (a : Int32) (w : Mem), Ct l X (m + 6) yX1_readsAnd cX1_readsAnd 3 (some .boolean) emI [.inr (.inr (some (1, 0))), .inl a] N9 flT w (rc 1 a w)) (hrc2 : ∀ (a : Int32) (w : Mem), Ct l X (m + 6) yX1_readsNot cX1_readsNot 3 (some .boolean) emI [.inr (.inr (some (1, 0))), .inl a] N9 flT w (rc 2 a w)) (hrc3 : ∀ (a : Int32) (w : Mem), Ct l X (m + 6) yX1_readsSum cX1_readsSum 4 (some .boolean) emI [.inr (.inr (some (1, 0))), .inl a] N9 flT w (rc 3 a w)) (hrc4 : ∀ (a : Int32) (w : Mem), Ct l X (m + 6) yX1_readsTerm cX1_readsTerm 3 (some .boolean) emI [.inr (.inr (some (1, 0))), .inl a] N9 flT w (rc 4 a w)) (hrc5 : ∀ (a : Int32) (w : Mem), Ct l X (m + 6) yX1_readsOne cX1_readsOne 3 (some .boolean) emI [.inr (.inr (some (1, 0))), .inl a] N9 flT w (rc 5 a w))  (w : Mem) : GE l X mm_X1_readsOne (m + 7) emI N9 flT (j_X1_readsOne_67 rc x1 w) 67 [some (.inr (.inr (some (1, 0)))), some (.inl x1), none] [] w := by
  unfold j_X1_readsOne_67
  refine GE_run (flG_T hN) (pc1 := 69) (L1 := [some (.inr (.inr (some (1, 0)))), some (.inl x1), none]) (S1 := [.inl 5, .inl x1]) (w1 := w) (P := True) [(.iload_n 1, 0, 0, 0, 0), (.iconst 5, 0, 0, 5, 0)] (by decide +kernel) rfl trivial ?_
  refine GE_icmp (k := .lt) (off := 5) (tgt := 74) (by decide +kernel) (by decide) (cnd_lt _ _) (fun c7 => ?_) (fun c7 => ?_)
  · refine GE_run (flG_T hN) (pc1 := 80) (L1 := [some (.inr (.inr (some (1, 0)))), some (.inl x1), none]) (S1 := [.inl 45, .inl (w 1 0 5)]) (w1 := w) (P := True) [(.aload_n 0, 0, 0, 0, 0), (.getfield 38, 1, 5, 0, 0), (.bipush 45, 0, 0, 45, 0)] (by decide +kernel) rfl trivial ?_
    refine GE_icmpN (k := .ne) (off := 7) (tgt := 87) (by decide +kernel) (by decide) (cnd_ne _ _) (fun c8 => ?_) (fun c8 => ?_)
    · refine GE_run (flG_T hN) (pc1 := 88) (L1 := [some (.inr (.inr (some (1, 0)))), some (.inl x1), none]) (S1 := [.inl 0]) (w1 := w) (P := True) [(.iconst 0, 0, 0, 0, 0)] (by decide +kernel) rfl trivial ?_
      exact GE_weak [true, true, false] (j_X1_readsOne_88_ok l X hN rc x1 0 m hrc0 hrc1 hrc2 hrc3 hrc4 hrc5 w)
    · refine GE_run (flG_T hN) (pc1 := 88) (L1 := [some (.inr (.inr (some (1, 0)))), some (.inl x1), none]) (S1 := [.inl 1]) (w1 := w) (P := True) [(.iconst 1, 0, 0, 1, 0), (.goto 4, 0, 0, 0, 0)] (by decide +kernel) rfl trivial ?_
      exact GE_weak [true, true, false] (j_X1_readsOne_88_ok l X hN rc x1 1 m hrc0 hrc1 hrc2 hrc3 hrc4 hrc5 w)
  · refine GE_run (flG_T hN) (pc1 := 73) (L1 := [some (.inr (.inr (some (1, 0)))), some (.inl x1), none]) (S1 := [.inl 0]) (w1 := w) (P := True) [(.iconst 0, 0, 0, 0, 0)] (by decide +kernel) rfl trivial ?_
    exact GE_zret (ty := .boolean) rfl (by decide +kernel) (by decide +kernel)
noncomputable def f_X1_readsOne (rc : Nat → Int32 → Mem → Option (Int32 × Mem)) (a2 : Int32) (w : Mem) : Option (Int32 × Mem) := if (w 1 0 5) = 2 then (j_X1_readsOne_21 rc w) else (if (w 1 0 5) < 0 then (j_X1_readsOne_21 rc w) else (if (w 1 0 5) = 45 then (j_X1_readsOne_67 rc a2 w) else (if (w 1 0 5) = 40 then (j_X1_readsOne_67 rc a2 w) else (some (0, w)))))
set_option maxRecDepth 100000 in
theorem t_X1_readsOne (l : Launch) (X : XC) {N9 : Nat} (hN : 39 ≤ N9)  (rc : Nat → Int32 → Mem → Option (Int32 × Mem)) (a2 : Int32) (m : Nat) (hrc0 : ∀ (a : Int32) (w : Mem), Ct l X (m + 6) yX1_readsE cX1_readsE 3 (some .boolean) emI [.inr (.inr (some (1, 0))), .inl a] N9 flT w (rc 0 a w)) (hrc1 : ∀ (a : Int32) (w : Mem), Ct l X (m + 6) yX1_readsAnd cX1_readsAnd 3 (some .boolean) emI [.inr (.inr (some (1, 0))), .inl a] N9 flT w (rc 1 a w)) (hrc2 : ∀ (a : Int32) (w : Mem), Ct l X (m + 6) yX1_readsNot cX1_readsNot 3 (some .boolean) emI [.inr (.inr (some (1, 0))), .inl a] N9 flT w (rc 2 a w)) (hrc3 : ∀ (a : Int32) (w : Mem), Ct l X (m + 6) yX1_readsSum cX1_readsSum 4 (some .boolean) emI [.inr (.inr (some (1, 0))), .inl a] N9 flT w (rc 3 a w)) (hrc4 : ∀ (a : Int32) (w : Mem), Ct l X (m + 6) yX1_readsTerm cX1_readsTerm 3 (some .boolean) emI [.inr (.inr (some (1, 0))), .inl a] N9 flT w (rc 4 a w)) (hrc5 : ∀ (a : Int32) (w : Mem), Ct l X (m + 6) yX1_readsOne cX1_readsOne 3 (some .boolean) emI [.inr (.inr (some (1, 0))), .inl a] N9 flT w (rc 5 a w)) (w : Mem) : Ct l X (m + 7) yX1_readsOne cX1_readsOne 3 (some .boolean) emI [.inr (.inr (some (1, 0))), .inl a2] N9 flT w (f_X1_readsOne rc a2 w) := by
  refine Ct_of (mi := mm_X1_readsOne) (mik_X1 _ _ _) me_X1_readsOne rfl (okAs_cons (okMV hN (by decide)) (okAs_cons rfl okAs_nil)) (Nat.le_of_ble_eq_true rfl) ?_
  unfold f_X1_readsOne
  refine GE_run (flG_T hN) (pc1 := 1) (L1 := [some (.inr (.inr (some (1, 0)))), some (.inl a2), none]) (S1 := [.inr (.inr (some (1, 0)))]) (w1 := w) (P := True) [(.aload_n 0, 0, 0, 0, 0)] (by decide +kernel) rfl trivial ?_
  refine GE_nonnull1 (off := 5) (tgt := 6) (by decide +kernel) (by decide) ?_
  refine GE_run (flG_T hN) (pc1 := 11) (L1 := [some (.inr (.inr (some (1, 0)))), some (.inl a2), none]) (S1 := [.inl 2, .inl (w 1 0 5)]) (w1 := w) (P := True) [(.aload_n 0, 0, 0, 0, 0), (.getfield 38, 1, 5, 0, 0), (.iconst 2, 0, 0, 2, 0)] (by decide +kernel) rfl trivial ?_
  refine GE_icmp (k := .eq) (off := 10) (tgt := 21) (by decide +kernel) (by decide) (cnd_eq _ _) (fun c1 => ?_) (fun c1 => ?_)
  · exact GE_weak [true, false, false] (j_X1_readsOne_21_ok l X hN rc m hrc0 hrc1 hrc2 hrc3 hrc4 hrc5 w)
  · refine GE_run (flG_T hN) (pc1 := 18) (L1 := [some (.inr (.inr (some (1, 0)))), some (.inl a2), none]) (S1 := [.inl (w 1 0 5)]) (w1 := w) (P := True) [(.aload_n 0, 0, 0, 0, 0), (.getfield 38, 1, 5, 0, 0)] (by decide +kernel) rfl trivial ?_
    refine GE_ifN (k := .ge) (off := 31) (tgt := 49) (by decide +kernel) (by decide) (cnd_ge _ _) (fun c5 => ?_) (fun c5 => ?_)
    · refine GE_run (flG_T hN) (pc1 := 55) (L1 := [some (.inr (.inr (some (1, 0)))), some (.inl a2), none]) (S1 := [.inl 45, .inl (w 1 0 5)]) (w1 := w) (P := True) [(.aload_n 0, 0, 0, 0, 0), (.getfield 38, 1, 5, 0, 0), (.bipush 45, 0, 0, 45, 0)] (by decide +kernel) rfl trivial ?_
      refine GE_icmp (k := .eq) (off := 12) (tgt := 67) (by decide +kernel) (by decide) (cnd_eq _ _) (fun c6 => ?_) (fun c6 => ?_)
      · exact GE_weak [true, true, false] (j_X1_readsOne_67_ok l X hN rc a2 m hrc0 hrc1 hrc2 hrc3 hrc4 hrc5 w)
      · refine GE_run (flG_T hN) (pc1 := 64) (L1 := [some (.inr (.inr (some (1, 0)))), some (.inl a2), none]) (S1 := [.inl 40, .inl (w 1 0 5)]) (w1 := w) (P := True) [(.aload_n 0, 0, 0, 0, 0), (.getfield 38, 1, 5, 0, 0), (.bipush 40, 0, 0, 40, 0)] (by decide +kernel) rfl trivial ?_
        refine GE_icmpN (k := .ne) (off := 8) (tgt := 72) (by decide +kernel) (by decide) (cnd_ne _ _) (fun c18 => ?_) (fun c18 => ?_)
        · refine GE_run (flG_T hN) (pc1 := 73) (L1 := [some (.inr (.inr (some (1, 0)))), some (.inl a2), none]) (S1 := [.inl 0]) (w1 := w) (P := True) [(.iconst 0, 0, 0, 0, 0)] (by decide +kernel) rfl trivial ?_
          exact GE_zret (ty := .boolean) rfl (by decide +kernel) (by decide +kernel)
        · exact GE_weak [true, true, false] (j_X1_readsOne_67_ok l X hN rc a2 m hrc0 hrc1 hrc2 hrc3 hrc4 hrc5 w)
    · exact GE_weak [true, false, false] (j_X1_readsOne_21_ok l X hN rc m hrc0 hrc1 hrc2 hrc3 hrc4 hrc5 w)
noncomputable def rd : Nat → Nat → Int32 → Mem → Option (Int32 × Mem)
  | 0, _, _, _ => none
  | m + 1, k, a, w => match k with
    | 0 => f_X1_readsE (rd m) a w
    | 1 => f_X1_readsAnd (rd m) a w
    | 2 => f_X1_readsNot (rd m) a w
    | 3 => f_X1_readsSum (rd m) a w
    | 4 => f_X1_readsTerm (rd m) a w
    | _ => f_X1_readsOne (rd m) a w
theorem rd_ok (l : Launch) (X : XC) {N9 : Nat} (hN : 39 ≤ N9) : ∀ m : Nat, (∀ (a : Int32) (w : Mem), Ct l X (m + 6) yX1_readsE cX1_readsE 3 (some .boolean) emI [.inr (.inr (some (1, 0))), .inl a] N9 flT w (rd m 0 a w)) ∧ (∀ (a : Int32) (w : Mem), Ct l X (m + 6) yX1_readsAnd cX1_readsAnd 3 (some .boolean) emI [.inr (.inr (some (1, 0))), .inl a] N9 flT w (rd m 1 a w)) ∧ (∀ (a : Int32) (w : Mem), Ct l X (m + 6) yX1_readsNot cX1_readsNot 3 (some .boolean) emI [.inr (.inr (some (1, 0))), .inl a] N9 flT w (rd m 2 a w)) ∧ (∀ (a : Int32) (w : Mem), Ct l X (m + 6) yX1_readsSum cX1_readsSum 4 (some .boolean) emI [.inr (.inr (some (1, 0))), .inl a] N9 flT w (rd m 3 a w)) ∧ (∀ (a : Int32) (w : Mem), Ct l X (m + 6) yX1_readsTerm cX1_readsTerm 3 (some .boolean) emI [.inr (.inr (some (1, 0))), .inl a] N9 flT w (rd m 4 a w)) ∧ (∀ (a : Int32) (w : Mem), Ct l X (m + 6) yX1_readsOne cX1_readsOne 3 (some .boolean) emI [.inr (.inr (some (1, 0))), .inl a] N9 flT w (rd m 5 a w)) := by
  intro m
  induction m with
  | zero => exact ⟨fun _ _ => Ct_none, fun _ _ => Ct_none, fun _ _ => Ct_none, fun _ _ => Ct_none, fun _ _ => Ct_none, fun _ _ => Ct_none⟩
  | succ m ih =>
    obtain ⟨h0, h1, h2, h3, h4, h5⟩ := ih
    exact ⟨fun a w => t_X1_readsE l X hN (rd m) a m h0 h1 h2 h3 h4 h5 w, fun a w => t_X1_readsAnd l X hN (rd m) a m h0 h1 h2 h3 h4 h5 w, fun a w => t_X1_readsNot l X hN (rd m) a m h0 h1 h2 h3 h4 h5 w, fun a w => t_X1_readsSum l X hN (rd m) a m h0 h1 h2 h3 h4 h5 w, fun a w => t_X1_readsTerm l X hN (rd m) a m h0 h1 h2 h3 h4 h5 w, fun a w => t_X1_readsOne l X hN (rd m) a m h0 h1 h2 h3 h4 h5 w⟩
