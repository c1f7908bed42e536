/-! the builder's methods, small ones first -/
theorem W_wid {l : Launch} {X : XC} {Y : YC} {mi : MI} {p : Program} {e : Env} {R : Room} {s : State} {m : MethodId} {args : Array Value} {below : List Frame} {meth : Method} {c : Code} {ce sl k n : Nat} {Q : State → Prop} {pc : Nat} {L : LL} {S : List AV} {ws : va_W} (h1 : ce ≤ k) (h2 : sl ≤ n) (kk : GB l X Y mi p e R s m args below meth c k n Q pc L S ws) : GB l X Y mi p e R s m args below meth c ce sl Q pc L S ws :=
  fun H locs ls hP hD hS hl hL => W.widen h1 h2 (kk H locs ls hP hD hS hl hL)
theorem GB_wid {l : Launch} {X : XC} {Y : YC} {mi : MI} {p : Program} {e : Env} {R : Room} {s : State} {m : MethodId} {args : Array Value} {below : List Frame} {meth : Method} {c : Code} {ce sl k n : Nat} {Q : State → Prop} {pc : Nat} {L : LL} {S : List AV} {ws : va_W} (h1 : ce ≤ k) (h2 : sl ≤ n) (kk : GB l X Y mi p e R s m args below meth c k n Q pc L S ws) : GB l X Y mi p e R s m args below meth c ce sl Q pc L S ws := W_wid h1 h2 kk
abbrev sb0E : va_E := .inr (0, [.null, .int 0, .int 0, .int 0])
abbrev sbE (v n : Nat) : va_E := .inr (0, [.ref v, .int 0, .int 0, .int (nI n)])
abbrev byE (Y : YC) (c : Nat) (f : Nat → Int32) : va_E := .inl (Y.2, c, .inl f)
abbrev ws2 (Y : YC) (b v c n : Nat) (f : Nat → Int32) : va_W := [(b, sbE v n), (v, byE Y c f)]
theorem shlI_0 (x : Int32) : shlI x 0 = x := by
  unfold shlI
  rw [show (0 : Int32) &&& 31 = 0 by decide]
  apply Int32.toBitVec_inj.mp
  simp
theorem shrI_0 (x : Int32) : shrI x 0 = x := by
  unfold shrI
  rw [show (0 : Int32) &&& 31 = 0 by decide]
  apply Int32.toBitVec_inj.mp
  simp
theorem nI_subN {a b : Nat} (h : b ≤ a) : nI a - nI b = nI (a - b) := by
  have h1 := nI_add (a - b) b
  rw [Nat.sub_add_cancel h] at h1
  rw [← h1]
  exact Int32.add_sub_cancel _ _
theorem neg_le0 : ∀ j : Nat, j < 1000 → -(nI j) ≤ 0 := by decide +kernel
theorem sub_le0 {k c : Nat} (h : k ≤ c) (hc : c < 1000) : nI k - nI c ≤ 0 := by
  rw [← Int32.neg_sub, nI_subN h]
  exact neg_le0 _ (by omega)
theorem ss_1 : ∀ x : Nat, x < 10 → ¬ (-(nI x) ≤ -10) := by decide +kernel
theorem ss_2 : ∀ x : Nat, x < 64 → 10 ≤ x → -(nI x) ≤ -10 := by decide +kernel
theorem ss_3 : ∀ x : Nat, x < 64 → ¬ (-(nI x) ≤ 10 * (-10)) := by decide +kernel
theorem gc_1 : ∀ x : Nat, x < 64 → -100 < -(nI x) := by decide +kernel
theorem gc_2 : ∀ x : Nat, x < 10 → -9 ≤ -(nI x) := by decide +kernel
theorem gc_3 : ∀ x : Nat, x < 64 → 10 ≤ x → ¬ (-9 ≤ -(nI x)) := by decide +kernel
theorem fl_J5_18 : Cond.fieldLink RJ5 18 "java/lang/String" "COMPACT_STRINGS" "Z" ∈ lw_tbl := List.mem_of_getElem? (i := 390) (by decide +kernel)
theorem fl_J5_22 : Cond.fieldLink RJ5 22 "java/lang/AbstractStringBuilder" "coder" "B" ∈ lw_tbl := List.mem_of_getElem? (i := 400) (by decide +kernel)
theorem ac_J0 : Cond.methodLink RJ0 212 arraycopyName ∈ lw_tbl := List.mem_of_getElem? (i := 530) (by decide +kernel)
theorem ac_J7 : Cond.methodLink RJ7 150 arraycopyName ∈ lw_tbl := List.mem_of_getElem? (i := 455) (by decide +kernel)
theorem ar_byte : Cond.arrayClass .byte ∈ lw_tbl := List.mem_of_getElem? (i := 412) (by decide +kernel)
theorem mx_st : Cond.static Lib.Math.max.name ∈ lw_tbl := List.mem_of_getElem? (i := 109) (by decide +kernel)
theorem mn_st : Cond.static Lib.Math.min.name ∈ lw_tbl := List.mem_of_getElem? (i := 453) (by decide +kernel)
theorem mm_in : Cond.initialized "java/lang/Math" ∈ lw_tbl := List.mem_of_getElem? (i := 20) (by decide +kernel)
theorem mx_l8 : Cond.methodLink RJ8 194 Lib.Math.max.name ∈ lw_tbl := List.mem_of_getElem? (i := 436) (by decide +kernel)
theorem mn_l7 : Cond.methodLink RJ7 304 Lib.Math.min.name ∈ lw_tbl := List.mem_of_getElem? (i := 452) (by decide +kernel)
theorem mx_co : Cond.code Lib.Math.max.name Lib.Math.max.code 2 (some .int) ∈ lw_tbl := codeAt_in (k := 110) (by decide +kernel)
theorem mn_co : Cond.code Lib.Math.min.name Lib.Math.min.code 2 (some .int) ∈ lw_tbl := codeAt_in (k := 454) (by decide +kernel)
theorem pv_J5_inflateIfNeededFor_a7421 : Cond.privateMethod yJ5_inflateIfNeededFor_a7421 ∈ lw_tbl := List.mem_of_getElem? (i := 503) (by decide +kernel)
theorem sm_J5_inflateIfNeededFor_a7421 : Cond.sameMethod yJ5_inflateIfNeededFor_a7421.cls yJ5_inflateIfNeededFor_a7421.cls yJ5_inflateIfNeededFor_a7421.name yJ5_inflateIfNeededFor_a7421.desc ∈ lw_tbl := List.mem_of_getElem? (i := 839) (by decide +kernel)
theorem fl_J5_15 : Cond.fieldLink RJ5 15 "java/lang/AbstractStringBuilder" "value" "[B" ∈ lw_tbl := List.mem_of_getElem? (i := 399) (by decide +kernel)
theorem mi_c8 : MIok (RJ8, cJ8_newLength_cabcc, 4, (some .int), [], [(200, 2147483639)], []) := ⟨fun _ h => (List.not_mem_nil h).elim, fun q h => by rw [List.mem_singleton.mp h]; exact List.mem_of_getElem? (i := 437) (by decide +kernel), fun _ h => (List.not_mem_nil h).elim⟩
theorem mi_c5 : MIok (RJ5, cJ5_newCapacity_0f7a4, 6, (some .int), [], [(39, 2147483647)], []) := ⟨fun _ h => (List.not_mem_nil h).elim, fun q h => by rw [List.mem_singleton.mp h]; exact List.mem_of_getElem? (i := 441) (by decide +kernel), fun _ h => (List.not_mem_nil h).elim⟩
theorem b_isLatin1 {l : Launch} {X : XC} {Y : YC} (hX : XB X Y) {b v n : Nat} {tl : va_W} : MtB l X Y 0 yJ5_isLatin1_aae02 cJ5_isLatin1_aae02 1 (some .boolean) [rf b] 0 0 ((b, sbE v n) :: tl) (fun v9 ws9 => v9 = some (.inl 1) ∧ ws9 = (b, sbE v n) :: tl) := by
  refine MtB_of (mi := ((RJ5, cJ5_isLatin1_aae02, 1, (some .boolean), [], [], []))) hX (mikE _ _ _ _) me_J5_isLatin1_aae02 rfl (Nat.le_of_ble_eq_true rfl) ?_
  intro p_ e_ s_ m_ args_ below_ meth_ c_ B hnm
  refine GB_compact B (idx := 18) fl_J5_18 (by decide +kernel) ?_
  refine GB_ifF B (k := .eq) (off := 14) (tgt := 17) (by decide +kernel) (by decide) (show ¬ ((1 : Int32) = 0) by decide) ?_
  refine GB_run B (w := w00) (P := True) (pc1 := 7) (L1 := [some (rf b)]) (S1 := [rf b]) (w1 := w00) [(.aload_n 0, 0, 0, 0, 0)] (by decide +kernel) (by decide +kernel) rfl ?_
  refine GB_get B (q0 := 0) (k := 1) (v := .inl 0) rfl (by decide) fl_J5_22 rfl (by decide +kernel) ?_
  refine GB_ifF B (k := .ne) (off := 7) (tgt := 17) (by decide +kernel) (by decide) (show ¬ ¬ ((0 : Int32) = 0) by decide) ?_
  refine GB_run B (w := w00) (P := True) (pc1 := 18) (L1 := [some (rf b)]) (S1 := [.inl 1]) (w1 := w00) [(.iconst 1, 0, 0, 1, 0), (.goto 4, 0, 0, 0, 0)] (by decide +kernel) (by decide +kernel) rfl ?_
  exact GB_zret B (ty := .boolean) rfl (by decide +kernel) (by decide +kernel) ⟨rfl, rfl⟩
theorem b_coder {l : Launch} {X : XC} {Y : YC} (hX : XB X Y) {i v0 len : Nat} {by0 : Nat → Int32} (hG : strG X i v0 len by0) {ws : va_W} : MtB l X Y 0 yJ0_coder_7d493 cJ0_coder_7d493 1 (some .byte) [.inr (.inr (some (40, i)))] 0 0 ws (fun v9 ws9 => v9 = some (.inl 0) ∧ ws9 = ws) := by
  refine MtB_of (mi := ((RJ0, cJ0_coder_7d493, 1, (some .byte), [], [], []))) hX (mikE _ _ _ _) me_J0_coder_7d493 rfl (Nat.le_of_ble_eq_true rfl) ?_
  intro p_ e_ s_ m_ args_ below_ meth_ c_ B hnm
  refine GB_compact B (idx := 38) fl_J0_38 (by decide +kernel) ?_
  refine GB_ifF B (k := .eq) (off := 10) (tgt := 13) (by decide +kernel) (by decide) (show ¬ ((1 : Int32) = 0) by decide) ?_
  refine GB_run B (w := w00) (P := True) (pc1 := 7) (L1 := [some (.inr (.inr (some (40, i))))]) (S1 := [.inr (.inr (some (40, i)))]) (w1 := w00) [(.aload_n 0, 0, 0, 0, 0)] (by decide +kernel) (by decide +kernel) rfl ?_
  refine GB_strcoder B (idx := 15) hG fl_J0_15 (by decide +kernel) ?_
  refine GB_run B (w := w00) (P := True) (pc1 := 14) (L1 := [some (.inr (.inr (some (40, i))))]) (S1 := [.inl 0]) (w1 := w00) [(.goto 4, 0, 0, 0, 0)] (by decide +kernel) (by decide +kernel) rfl ?_
  exact GB_zret B (ty := .byte) rfl (by decide +kernel) (by decide +kernel) ⟨rfl, rfl⟩
theorem b_length {l : Launch} {X : XC} {Y : YC} (hX : XB X Y) {i v0 len : Nat} {by0 : Nat → Int32} (hG : strG X i v0 len by0) {ws : va_W} : MtB l X Y 1 yJ0_length_8abf5 cJ0_length_8abf5 1 (some .int) [.inr (.inr (some (40, i)))] 0 0 ws (fun v9 ws9 => v9 = some (.inl (nI len)) ∧ ws9 = ws) := by
  refine MtB_of (mi := ((RJ0, cJ0_length_8abf5, 1, (some .int), [], [], []))) hX (mikE _ _ _ _) me_J0_length_8abf5 rfl (Nat.le_of_ble_eq_true rfl) ?_
  intro p_ e_ s_ m_ args_ below_ meth_ c_ B hnm
  refine GB_run B (w := w00) (P := True) (pc1 := 1) (L1 := [some (.inr (.inr (some (40, i))))]) (S1 := [.inr (.inr (some (40, i)))]) (w1 := w00) [(.aload_n 0, 0, 0, 0, 0)] (by decide +kernel) (by decide +kernel) rfl ?_
  refine GB_strval B (idx := 9) hG fl_J0_9 (by decide +kernel) ?_
  refine GB_tlen B hG.2.2.2.2.2.2 (by decide +kernel) ?_
  refine GB_run B (w := w00) (P := True) (pc1 := 6) (L1 := [some (.inr (.inr (some (40, i))))]) (S1 := [.inr (.inr (some (40, i))), .inl (nI len)]) (w1 := w00) [(.aload_n 0, 0, 0, 0, 0)] (by decide +kernel) (by decide +kernel) rfl ?_
  refine GB_callT B (As := []) (S := [.inl (nI len)]) hG (b_coder hX hG) ⟨me_J0_coder_7d493, mi_J0_coder_7d493, mv_J0_coder_7d493, lk_J0_335⟩ rfl (by decide +kernel) rfl ⟨Nat.le_of_ble_eq_true rfl, Nat.le_of_ble_eq_true rfl⟩ ⟨Nat.le_of_ble_eq_true rfl, Nat.le_of_ble_eq_true rfl⟩ (Nat.le_of_ble_eq_true rfl) (fun v9 ws9 h9 => ?_)
  obtain ⟨rfl, rfl⟩ := h9
  refine GB_run B (w := w00) (P := True) (pc1 := 10) (L1 := [some (.inr (.inr (some (40, i))))]) (S1 := [.inl (shrI (nI len) 0)]) (w1 := w00) [(.ishr, 0, 0, 0, 0)] (by decide +kernel) (by decide +kernel) rfl ?_
  rw [show (shrI (nI len) 0 : Int32) = nI len from shrI_0 _]
  exact GB_iret B rfl (by decide +kernel) ⟨rfl, rfl⟩
theorem b_inflate {l : Launch} {X : XC} {Y : YC} (hX : XB X Y) {i v0 len : Nat} {by0 : Nat → Int32} (hG : strG X i v0 len by0) {b v n : Nat} {tl : va_W} : MtB l X Y 1 yJ5_inflateIfNeededFor_a7421 cJ5_inflateIfNeededFor_a7421 2 none [rf b, .inr (.inr (some (40, i)))] 0 0 ((b, sbE v n) :: tl) (fun v9 ws9 => v9 = none ∧ ws9 = (b, sbE v n) :: tl) := by
  refine MtB_of (mi := ((RJ5, cJ5_inflateIfNeededFor_a7421, 2, none, [], [], []))) hX (mikE _ _ _ _) me_J5_inflateIfNeededFor_a7421 rfl (Nat.le_of_ble_eq_true rfl) ?_
  intro p_ e_ s_ m_ args_ below_ meth_ c_ B hnm
  refine GB_compact B (idx := 18) fl_J5_18 (by decide +kernel) ?_
  refine GB_ifF B (k := .eq) (off := 18) (tgt := 21) (by decide +kernel) (by decide) (show ¬ ((1 : Int32) = 0) by decide) ?_
  refine GB_run B (w := w00) (P := True) (pc1 := 7) (L1 := [some (rf b), some (.inr (.inr (some (40, i))))]) (S1 := [rf b]) (w1 := w00) [(.aload_n 0, 0, 0, 0, 0)] (by decide +kernel) (by decide +kernel) rfl ?_
  refine GB_get B (q0 := 0) (k := 1) (v := .inl 0) rfl (by decide) fl_J5_22 rfl (by decide +kernel) ?_
  refine GB_run B (w := w00) (P := True) (pc1 := 11) (L1 := [some (rf b), some (.inr (.inr (some (40, i))))]) (S1 := [.inr (.inr (some (40, i))), .inl 0]) (w1 := w00) [(.aload_n 1, 0, 0, 0, 0)] (by decide +kernel) (by decide +kernel) rfl ?_
  refine GB_callT B (As := []) (S := [.inl 0]) hG (b_coder hX hG) ⟨me_J0_coder_7d493, mi_J0_coder_7d493, mv_J0_coder_7d493, lk_J5_40⟩ rfl (by decide +kernel) rfl ⟨Nat.le_of_ble_eq_true rfl, Nat.le_of_ble_eq_true rfl⟩ ⟨Nat.le_of_ble_eq_true rfl, Nat.le_of_ble_eq_true rfl⟩ (Nat.le_of_ble_eq_true rfl) (fun v9 ws9 h9 => ?_)
  obtain ⟨rfl, rfl⟩ := h9
  refine GB_icT B (k := .eq) (off := 7) (tgt := 21) (by decide +kernel) (by decide) (show (0 : Int32) = 0 by decide) ?_
  exact GB_vret B rfl (by decide +kernel) ⟨rfl, rfl⟩
theorem b_getBytes {l : Launch} {X : XC} {Y : YC} (hX : XB X Y) {i v0 len : Nat} {by0 : Nat → Int32} (hG : strG X i v0 len by0) {b v c n : Nat} {f : Nat → Int32} (hby : ∀ j, fits .byte (.int (by0 j)) = true) (hnc : n + len ≤ c) (hc : c < 1000) : MtB l X Y 1 yJ0_getBytes_840e7 cJ0_getBytes_840e7 4 none [.inr (.inr (some (40, i))), rf v, .inl (nI n), .inl 0] 0 0 (ws2 Y b v c n f) (fun v9 ws9 => v9 = none ∧ ws9 = ws2 Y b v c n (va_cpy by0 f 0 n len)) := by
  refine MtB_of (mi := ((RJ0, cJ0_getBytes_840e7, 4, none, [], [], []))) hX (mikE _ _ _ _) me_J0_getBytes_840e7 rfl (Nat.le_of_ble_eq_true rfl) ?_
  intro p_ e_ s_ m_ args_ below_ meth_ c_ B hnm
  refine GB_run B (w := w00) (P := True) (pc1 := 1) (L1 := [some (.inr (.inr (some (40, i)))), some (rf v), some (.inl (nI n)), some (.inl 0)]) (S1 := [.inr (.inr (some (40, i)))]) (w1 := w00) [(.aload_n 0, 0, 0, 0, 0)] (by decide +kernel) (by decide +kernel) rfl ?_
  refine GB_callT B (As := []) (S := []) hG (b_coder hX hG) ⟨me_J0_coder_7d493, mi_J0_coder_7d493, mv_J0_coder_7d493, lk_J0_335⟩ rfl (by decide +kernel) rfl ⟨Nat.le_of_ble_eq_true rfl, Nat.le_of_ble_eq_true rfl⟩ ⟨Nat.le_of_ble_eq_true rfl, Nat.le_of_ble_eq_true rfl⟩ (Nat.le_of_ble_eq_true rfl) (fun v9 ws9 h9 => ?_)
  obtain ⟨rfl, rfl⟩ := h9
  refine GB_run B (w := w00) (P := True) (pc1 := 5) (L1 := [some (.inr (.inr (some (40, i)))), some (rf v), some (.inl (nI n)), some (.inl 0)]) (S1 := [.inl 0, .inl 0]) (w1 := w00) [(.iload_n 3, 0, 0, 0, 0)] (by decide +kernel) (by decide +kernel) rfl ?_
  refine GB_icF B (k := .ne) (off := 23) (tgt := 28) (by decide +kernel) (by decide) (show ¬ ¬ ((0 : Int32) = 0) by decide) ?_
  refine GB_run B (w := w00) (P := True) (pc1 := 9) (L1 := [some (.inr (.inr (some (40, i)))), some (rf v), some (.inl (nI n)), some (.inl 0)]) (S1 := [.inr (.inr (some (40, i)))]) (w1 := w00) [(.aload_n 0, 0, 0, 0, 0)] (by decide +kernel) (by decide +kernel) rfl ?_
  refine GB_strval B (idx := 9) hG fl_J0_9 (by decide +kernel) ?_
  refine GB_run B (w := w00) (P := True) (pc1 := 18) (L1 := [some (.inr (.inr (some (40, i)))), some (rf v), some (.inl (nI n)), some (.inl 0)]) (S1 := [.inr (.inr (some (40, i))), .inl (shlI (nI n) 0), rf v, .inl 0, .inr (.inr (some (40, v0)))]) (w1 := w00) [(.iconst 0, 0, 0, 0, 0), (.aload_n 1, 0, 0, 0, 0), (.iload_n 2, 0, 0, 0, 0), (.iload_n 3, 0, 0, 0, 0), (.ishl, 0, 0, 0, 0), (.aload_n 0, 0, 0, 0, 0)] (by decide +kernel) (by decide +kernel) rfl ?_
  refine GB_strval B (idx := 9) hG fl_J0_9 (by decide +kernel) ?_
  refine GB_tlen B hG.2.2.2.2.2.2 (by decide +kernel) ?_
  rw [show (shlI (nI n) 0 : Int32) = nI n from shlI_0 _]
  refine GB_copy B (q1 := 1) hG.2.2.2.2.2.2 ac_J0 rfl (by decide) (nI_pos (by omega)) (nI_pos (by omega)) (by rw [show tn (0 : Int32) = 0 by decide, show tn (nI len) = len from nI_clamp (by omega)]; omega) (by rw [show tn (nI n) = n from nI_clamp (by omega), show tn (nI len) = len from nI_clamp (by omega)]; omega) hby ⟨Nat.le_of_ble_eq_true rfl, Nat.le_of_ble_eq_true rfl⟩ (Nat.le_of_ble_eq_true rfl) (by decide +kernel) ?_
  rw [show tn (0 : Int32) = 0 by decide, show tn (nI n) = n from nI_clamp (by omega), show tn (nI len) = len from nI_clamp (by omega)]
  refine GB_run B (w := w00) (P := True) (pc1 := 43) (L1 := [some (.inr (.inr (some (40, i)))), some (rf v), some (.inl (nI n)), some (.inl 0)]) (S1 := []) (w1 := w00) [(.goto 18, 0, 0, 0, 0)] (by decide +kernel) (by decide +kernel) rfl ?_
  exact GB_vret B rfl (by decide +kernel) ⟨rfl, rfl⟩
theorem b_putStringAt {l : Launch} {X : XC} {Y : YC} (hX : XB X Y) {i v0 len : Nat} {by0 : Nat → Int32} (hG : strG X i v0 len by0) {b v c n : Nat} {f : Nat → Int32} (hby : ∀ j, fits .byte (.int (by0 j)) = true) (hnc : n + len ≤ c) (hc : c < 1000) : MtB l X Y 2 yJ5_putStringAt_47b60 cJ5_putStringAt_47b60 3 none [rf b, .inl (nI n), .inr (.inr (some (40, i)))] 0 0 (ws2 Y b v c n f) (fun v9 ws9 => v9 = none ∧ ws9 = ws2 Y b v c n (va_cpy by0 f 0 n len)) := by
  refine MtB_of (mi := ((RJ5, cJ5_putStringAt_47b60, 3, none, [], [], []))) hX (mikE _ _ _ _) me_J5_putStringAt_47b60 rfl (Nat.le_of_ble_eq_true rfl) ?_
  intro p_ e_ s_ m_ args_ below_ meth_ c_ B hnm
  refine GB_run B (w := w00) (P := True) (pc1 := 2) (L1 := [some (rf b), some (.inl (nI n)), some (.inr (.inr (some (40, i))))]) (S1 := [.inr (.inr (some (40, i))), rf b]) (w1 := w00) [(.aload_n 0, 0, 0, 0, 0), (.aload_n 2, 0, 0, 0, 0)] (by decide +kernel) (by decide +kernel) rfl ?_
  refine GB_callP B (q0 := 0) (As := [.inr (.inr (some (40, i)))]) (S := []) rfl (b_inflate hX hG) me_J5_inflateIfNeededFor_a7421 mi_J5_inflateIfNeededFor_a7421 pv_J5_inflateIfNeededFor_a7421 lk_J5_397 sm_J5_inflateIfNeededFor_a7421 (by decide +kernel) rfl ⟨Nat.le_of_ble_eq_true rfl, Nat.le_of_ble_eq_true rfl⟩ ⟨Nat.le_of_ble_eq_true rfl, Nat.le_of_ble_eq_true rfl⟩ (Nat.le_of_ble_eq_true rfl) (fun v9 ws9 h9 => ?_)
  obtain ⟨rfl, rfl⟩ := h9
  refine GB_run B (w := w00) (P := True) (pc1 := 7) (L1 := [some (rf b), some (.inl (nI n)), some (.inr (.inr (some (40, i))))]) (S1 := [rf b, .inr (.inr (some (40, i)))]) (w1 := w00) [(.aload_n 2, 0, 0, 0, 0), (.aload_n 0, 0, 0, 0, 0)] (by decide +kernel) (by decide +kernel) rfl ?_
  refine GB_get B (q0 := 0) (k := 0) (v := rf v) rfl (by decide) fl_J5_15 (congrArg some (B.rf v)).symm (by decide +kernel) ?_
  refine GB_run B (w := w00) (P := True) (pc1 := 12) (L1 := [some (rf b), some (.inl (nI n)), some (.inr (.inr (some (40, i))))]) (S1 := [rf b, .inl (nI n), rf v, .inr (.inr (some (40, i)))]) (w1 := w00) [(.iload_n 1, 0, 0, 0, 0), (.aload_n 0, 0, 0, 0, 0)] (by decide +kernel) (by decide +kernel) rfl ?_
  refine GB_get B (q0 := 0) (k := 1) (v := .inl 0) rfl (by decide) fl_J5_22 rfl (by decide +kernel) ?_
  refine GB_callT B (As := [rf v, .inl (nI n), .inl 0]) (S := []) hG (b_getBytes hX hG hby hnc hc) ⟨me_J0_getBytes_840e7, mi_J0_getBytes_840e7, mv_J0_getBytes_840e7, lk_J5_399⟩ rfl (by decide +kernel) rfl ⟨Nat.le_of_ble_eq_true rfl, Nat.le_of_ble_eq_true rfl⟩ ⟨Nat.le_of_ble_eq_true rfl, Nat.le_of_ble_eq_true rfl⟩ (Nat.le_of_ble_eq_true rfl) (fun v9 ws9 h9 => ?_)
  obtain ⟨rfl, rfl⟩ := h9
  exact GB_vret B rfl (by decide +kernel) ⟨rfl, rfl⟩
theorem nI_max {g q : Nat} (hg : g < 1000) (hq : q < 1000) : (if nI g < nI q then nI q else nI g) = nI (max g q) := by
  by_cases h : g < q
  · rw [if_pos (nI_lt h (by omega)), Nat.max_eq_right (by omega)]
  · rw [if_neg (nI_nlt (by omega) (by omega)), Nat.max_eq_left (by omega)]
theorem nI_nle0 {x : Nat} (h0 : 0 < x) (h : x < 3000) : ¬ nI x ≤ 0 := nI_nle h0 (by omega)
theorem nI_ngt {x : Nat} (h : x < 3000) : ¬ ((2147483639 : Int32) < nI x) := nI_nlt (a := 2147483639) (b := x) (by omega) (by omega)
theorem b_newLength {l : Launch} {X : XC} {Y : YC} (hX : XB X Y) {a g q : Nat} (ha : a < 1000) (hg : g < 1000) (hq : q < 1000) (h0 : 0 < a) {ws : va_W} : MtB l X Y 1 yJ8_newLength_cabcc cJ8_newLength_cabcc 4 (some .int) [.inl (nI a), .inl (nI g), .inl (nI q)] 0 0 ws (fun v9 ws9 => v9 = some (.inl (nI (a + max g q))) ∧ ws9 = ws) := by
  refine MtB_of (mi := ((RJ8, cJ8_newLength_cabcc, 4, (some .int), [], [(200, 2147483639)], []))) hX (mi_c8) me_J8_newLength_cabcc rfl (Nat.le_of_ble_eq_true rfl) ?_
  intro p_ e_ s_ m_ args_ below_ meth_ c_ B hnm
  refine GB_run B (w := w00) (P := True) (pc1 := 3) (L1 := [some (.inl (nI a)), some (.inl (nI g)), some (.inl (nI q)), none]) (S1 := [.inl (nI q), .inl (nI g), .inl (nI a)]) (w1 := w00) [(.iload_n 0, 0, 0, 0, 0), (.iload_n 1, 0, 0, 0, 0), (.iload_n 2, 0, 0, 0, 0)] (by decide +kernel) (by decide +kernel) rfl ?_
  refine GB_max B mx_l8 mx_st mm_in mx_co ⟨Nat.le_of_ble_eq_true rfl, Nat.le_of_ble_eq_true rfl⟩ ⟨Nat.le_refl _, Nat.le_refl _⟩ (Nat.le_of_ble_eq_true rfl) (by decide +kernel) ?_
  rw [show (if nI g < nI q then nI q else nI g : Int32) = nI (max g q) from nI_max (by omega) (by omega)]
  refine GB_run B (w := w00) (P := True) (pc1 := 7) (L1 := [some (.inl (nI a)), some (.inl (nI g)), some (.inl (nI q)), none]) (S1 := [.inl (nI a + nI (max g q))]) (w1 := w00) [(.iadd, 0, 0, 0, 0)] (by decide +kernel) (by decide +kernel) rfl ?_
  rw [show (nI a + nI (max g q) : Int32) = nI (a + max g q) from nI_add _ _]
  refine GB_run B (w := w00) (P := True) (pc1 := 10) (L1 := [some (.inl (nI a)), some (.inl (nI g)), some (.inl (nI q)), some (.inl (nI (a + max g q)))]) (S1 := [.inl (nI (a + max g q)), .inl 0]) (w1 := w00) [(.istore_n 3, 0, 0, 0, 0), (.iconst 0, 0, 0, 0, 0), (.iload_n 3, 0, 0, 0, 0)] (by decide +kernel) (by decide +kernel) rfl ?_
  refine GB_icF B (k := .ge) (off := 11) (tgt := 21) (by decide +kernel) (by decide) (nI_nle0 (by omega) (by omega)) ?_
  refine GB_run B (w := w00) (P := True) (pc1 := 16) (L1 := [some (.inl (nI a)), some (.inl (nI g)), some (.inl (nI q)), some (.inl (nI (a + max g q)))]) (S1 := [.inl 2147483639, .inl (nI (a + max g q))]) (w1 := w00) [(.iload_n 3, 0, 0, 0, 0), (.ldc 200, 0, 0, 2147483639, 0)] (by decide +kernel) (by decide +kernel) rfl ?_
  refine GB_icF B (k := .gt) (off := 5) (tgt := 21) (by decide +kernel) (by decide) (nI_ngt (by omega)) ?_
  refine GB_run B (w := w00) (P := True) (pc1 := 20) (L1 := [some (.inl (nI a)), some (.inl (nI g)), some (.inl (nI q)), some (.inl (nI (a + max g q)))]) (S1 := [.inl (nI (a + max g q))]) (w1 := w00) [(.iload_n 3, 0, 0, 0, 0)] (by decide +kernel) (by decide +kernel) rfl ?_
  exact GB_iret B rfl (by decide +kernel) ⟨rfl, rfl⟩
theorem b_newCapacity {l : Launch} {X : XC} {Y : YC} (hX : XB X Y) {b v c n : Nat} {f : Nat → Int32} {k : Nat} (hk : c < k) (hk2 : k < 900) (h0 : 0 < c) : MtB l X Y 2 yJ5_newCapacity_0f7a4 cJ5_newCapacity_0f7a4 6 (some .int) [rf b, .inl (nI k)] 0 0 (ws2 Y b v c n f) (fun v9 ws9 => v9 = some (.inl (nI (c + max (k - c) (c + 2)))) ∧ ws9 = ws2 Y b v c n f) := by
  refine MtB_of (mi := ((RJ5, cJ5_newCapacity_0f7a4, 6, (some .int), [], [(39, 2147483647)], []))) hX (mi_c5) me_J5_newCapacity_0f7a4 rfl (Nat.le_of_ble_eq_true rfl) ?_
  intro p_ e_ s_ m_ args_ below_ meth_ c_ B hnm
  refine GB_run B (w := w00) (P := True) (pc1 := 1) (L1 := [some (rf b), some (.inl (nI k)), none, none, none, none]) (S1 := [rf b]) (w1 := w00) [(.aload_n 0, 0, 0, 0, 0)] (by decide +kernel) (by decide +kernel) rfl ?_
  refine GB_get B (q0 := 0) (k := 0) (v := rf v) rfl (by decide) fl_J5_15 (congrArg some (B.rf v)).symm (by decide +kernel) ?_
  refine GB_alen B (q0 := 1) rfl (by decide +kernel) ?_
  refine GB_run B (w := w00) (P := True) (pc1 := 8) (L1 := [some (rf b), some (.inl (nI k)), some (.inl (nI c)), none, none, none]) (S1 := [rf b, .inl (nI k)]) (w1 := w00) [(.istore_n 2, 0, 0, 0, 0), (.iload_n 1, 0, 0, 0, 0), (.aload_n 0, 0, 0, 0, 0)] (by decide +kernel) (by decide +kernel) rfl ?_
  refine GB_get B (q0 := 0) (k := 1) (v := .inl 0) rfl (by decide) fl_J5_22 rfl (by decide +kernel) ?_
  refine GB_run B (w := w00) (P := True) (pc1 := 12) (L1 := [some (rf b), some (.inl (nI k)), some (.inl (nI c)), none, none, none]) (S1 := [.inl (shlI (nI k) 0)]) (w1 := w00) [(.ishl, 0, 0, 0, 0)] (by decide +kernel) (by decide +kernel) rfl ?_
  rw [show (shlI (nI k) 0 : Int32) = nI k from shlI_0 _]
  refine GB_run B (w := w00) (P := True) (pc1 := 16) (L1 := [some (rf b), some (.inl (nI k)), some (.inl (nI c)), some (.inl (nI k)), none, none]) (S1 := [.inl (nI k - nI c)]) (w1 := w00) [(.istore_n 3, 0, 0, 0, 0), (.iload_n 3, 0, 0, 0, 0), (.iload_n 2, 0, 0, 0, 0), (.isub, 0, 0, 0, 0)] (by decide +kernel) (by decide +kernel) rfl ?_
  rw [show (nI k - nI c : Int32) = nI (k - c) from nI_subN (by omega)]
  refine GB_run B (w := w00) (P := True) (pc1 := 24) (L1 := [some (rf b), some (.inl (nI k)), some (.inl (nI c)), some (.inl (nI k)), some (.inl (nI (k - c))), none]) (S1 := [rf b, .inl 2, .inl (nI c), .inl (nI (k - c)), .inl (nI c)]) (w1 := w00) [(.istore 4, 0, 0, 0, 0), (.iload_n 2, 0, 0, 0, 0), (.iload 4, 0, 0, 0, 0), (.iload_n 2, 0, 0, 0, 0), (.iconst 2, 0, 0, 2, 0), (.aload_n 0, 0, 0, 0, 0)] (by decide +kernel) (by decide +kernel) rfl ?_
  refine GB_get B (q0 := 0) (k := 1) (v := .inl 0) rfl (by decide) fl_J5_22 rfl (by decide +kernel) ?_
  refine GB_run B (w := w00) (P := True) (pc1 := 28) (L1 := [some (rf b), some (.inl (nI k)), some (.inl (nI c)), some (.inl (nI k)), some (.inl (nI (k - c))), none]) (S1 := [.inl (shlI 2 0), .inl (nI c), .inl (nI (k - c)), .inl (nI c)]) (w1 := w00) [(.ishl, 0, 0, 0, 0)] (by decide +kernel) (by decide +kernel) rfl ?_
  rw [show (shlI 2 0 : Int32) = 2 from shlI_0 _]
  refine GB_run B (w := w00) (P := True) (pc1 := 29) (L1 := [some (rf b), some (.inl (nI k)), some (.inl (nI c)), some (.inl (nI k)), some (.inl (nI (k - c))), none]) (S1 := [.inl (nI c + 2), .inl (nI (k - c)), .inl (nI c)]) (w1 := w00) [(.iadd, 0, 0, 0, 0)] (by decide +kernel) (by decide +kernel) rfl ?_
  rw [show (nI c + 2 : Int32) = nI (c + 2) from nI_add c 2]
  refine GB_callS B (As := [.inl (nI c), .inl (nI (k - c)), .inl (nI (c + 2))]) (S := []) (b_newLength hX (a := c) (g := k - c) (q := c + 2) (by omega) (by omega) (by omega) (by omega)) ⟨me_J8_newLength_cabcc, ms_J8_newLength_cabcc, lk_J5_114⟩ (by decide +kernel) rfl ⟨Nat.le_of_ble_eq_true rfl, Nat.le_of_ble_eq_true rfl⟩ ⟨Nat.le_of_ble_eq_true rfl, Nat.le_of_ble_eq_true rfl⟩ (Nat.le_of_ble_eq_true rfl) (fun v9 ws9 h9 => ?_)
  obtain ⟨rfl, rfl⟩ := h9
  refine GB_run B (w := w00) (P := True) (pc1 := 38) (L1 := [some (rf b), some (.inl (nI k)), some (.inl (nI c)), some (.inl (nI k)), some (.inl (nI (k - c))), some (.inl (nI (c + max (k - c) (c + 2))))]) (S1 := [.inl 2147483647, .inl (nI (c + max (k - c) (c + 2)))]) (w1 := w00) [(.istore 5, 0, 0, 0, 0), (.iload 5, 0, 0, 0, 0), (.ldc 39, 0, 0, 2147483647, 0)] (by decide +kernel) (by decide +kernel) rfl ?_
  refine GB_icT B (k := .ne) (off := 13) (tgt := 51) (by decide +kernel) (by decide) (fun h => absurd (nI_lt (a := c + max (k - c) (c + 2)) (b := 2147483647) (by omega) (by omega)) (by rw [show nI (c + max (k - c) (c + 2)) = 2147483647 from h]; exact Int32.lt_irrefl)) ?_
  refine GB_run B (w := w00) (P := True) (pc1 := 54) (L1 := [some (rf b), some (.inl (nI k)), some (.inl (nI c)), some (.inl (nI k)), some (.inl (nI (k - c))), some (.inl (nI (c + max (k - c) (c + 2))))]) (S1 := [rf b, .inl (nI (c + max (k - c) (c + 2)))]) (w1 := w00) [(.iload 5, 0, 0, 0, 0), (.aload_n 0, 0, 0, 0, 0)] (by decide +kernel) (by decide +kernel) rfl ?_
  refine GB_get B (q0 := 0) (k := 1) (v := .inl 0) rfl (by decide) fl_J5_22 rfl (by decide +kernel) ?_
  refine GB_run B (w := w00) (P := True) (pc1 := 58) (L1 := [some (rf b), some (.inl (nI k)), some (.inl (nI c)), some (.inl (nI k)), some (.inl (nI (k - c))), some (.inl (nI (c + max (k - c) (c + 2))))]) (S1 := [.inl (shrI (nI (c + max (k - c) (c + 2))) 0)]) (w1 := w00) [(.ishr, 0, 0, 0, 0)] (by decide +kernel) (by decide +kernel) rfl ?_
  rw [show (shrI (nI (c + max (k - c) (c + 2))) 0 : Int32) = nI (c + max (k - c) (c + 2)) from shrI_0 _]
  exact GB_iret B rfl (by decide +kernel) ⟨rfl, rfl⟩
theorem b_copyOf {l : Launch} {X : XC} {Y : YC} (hX : XB X Y) {i c k : Nat} {f : Nat → Int32} (hT : va_T .byte (X.2.2.2.1 i) c (fun j => .int (f j)) (AA X) X.2.2.1 X.2.2.1.heap) (hby : ∀ j, fits .byte (.int (f j)) = true) (hck : c < k) (hk : k < 1000) : MtB l X Y 1 yJ7_copyOf_9075b cJ7_copyOf_9075b 3 (some (.array .byte)) [.inr (.inr (some (40, i))), .inl (nI k)] 1 k [] (fun v9 ws9 => ∃ z, v9 = some (rf z) ∧ ws9 = [(z, byE Y k (va_cpy f (fun _ => 0) 0 0 c))]) := by
  refine MtB_of (mi := ((RJ7, cJ7_copyOf_9075b, 3, (some (.array .byte)), [], [], []))) hX (mikE _ _ _ _) me_J7_copyOf_9075b rfl (Nat.le_of_ble_eq_true rfl) ?_
  intro p_ e_ s_ m_ args_ below_ meth_ c_ B hnm
  refine GB_run B (w := w00) (P := True) (pc1 := 2) (L1 := [some (.inr (.inr (some (40, i)))), some (.inl (nI k)), none]) (S1 := [.inr (.inr (some (40, i))), .inl (nI k)]) (w1 := w00) [(.iload_n 1, 0, 0, 0, 0), (.aload_n 0, 0, 0, 0, 0)] (by decide +kernel) (by decide +kernel) rfl ?_
  refine GB_tlen B hT (by decide +kernel) ?_
  refine GB_icT B (k := .ne) (off := 11) (tgt := 14) (by decide +kernel) (by decide) (fun h => absurd ((nI_eq (by omega) (by omega)).mp h) (by omega)) ?_
  refine GB_run B (w := w00) (P := True) (pc1 := 15) (L1 := [some (.inr (.inr (some (40, i)))), some (.inl (nI k)), none]) (S1 := [.inl (nI k)]) (w1 := w00) [(.iload_n 1, 0, 0, 0, 0)] (by decide +kernel) (by decide +kernel) rfl ?_
  refine GB_newa B (N' := k) ar_byte (nI_pos (by omega)) (nI_clamp (by omega)) (by omega) (Nat.le_of_eq (Nat.zero_add 1)) (Nat.le_of_eq (Nat.zero_add k)) (by decide +kernel) (fun z => ?_)
  refine GB_run B (w := w00) (P := True) (pc1 := 23) (L1 := [some (.inr (.inr (some (40, i)))), some (.inl (nI k)), some (rf z)]) (S1 := [.inr (.inr (some (40, i))), .inl 0, rf z, .inl 0, .inr (.inr (some (40, i)))]) (w1 := w00) [(.astore_n 2, 0, 0, 0, 0), (.aload_n 0, 0, 0, 0, 0), (.iconst 0, 0, 0, 0, 0), (.aload_n 2, 0, 0, 0, 0), (.iconst 0, 0, 0, 0, 0), (.aload_n 0, 0, 0, 0, 0)] (by decide +kernel) (by decide +kernel) rfl ?_
  refine GB_tlen B hT (by decide +kernel) ?_
  refine GB_run B (w := w00) (P := True) (pc1 := 25) (L1 := [some (.inr (.inr (some (40, i)))), some (.inl (nI k)), some (rf z)]) (S1 := [.inl (nI k), .inl (nI c), .inl 0, rf z, .inl 0, .inr (.inr (some (40, i)))]) (w1 := w00) [(.iload_n 1, 0, 0, 0, 0)] (by decide +kernel) (by decide +kernel) rfl ?_
  refine GB_min B mn_l7 mn_st mm_in mn_co ⟨Nat.le_of_ble_eq_true rfl, Nat.le_of_ble_eq_true rfl⟩ ⟨Nat.le_of_eq (Nat.zero_add 1), Nat.le_of_eq (Nat.zero_add k)⟩ (Nat.le_of_ble_eq_true rfl) (by decide +kernel) ?_
  rw [show (if nI k < nI c then nI k else nI c : Int32) = nI c from if_neg (nI_nlt (by omega) (by omega))]
  refine GB_copy B (q1 := 0) hT ac_J7 rfl (by decide) (by decide) (nI_pos (by omega)) (by rw [show tn (0 : Int32) = 0 by decide, show tn (nI c) = c from nI_clamp (by omega)]; omega) (by rw [show tn (0 : Int32) = 0 by decide, show tn (nI c) = c from nI_clamp (by omega)]; omega) hby ⟨Nat.le_of_ble_eq_true rfl, Nat.le_of_ble_eq_true rfl⟩ (Nat.le_of_ble_eq_true rfl) (by decide +kernel) ?_
  rw [show tn (0 : Int32) = 0 by decide, show tn (nI c) = c from nI_clamp (by omega)]
  refine GB_run B (w := w00) (P := True) (pc1 := 32) (L1 := [some (.inr (.inr (some (40, i)))), some (.inl (nI k)), some (rf z)]) (S1 := [rf z]) (w1 := w00) [(.aload_n 2, 0, 0, 0, 0)] (by decide +kernel) (by decide +kernel) rfl ?_
  refine GB_wid (k := 1) (n := k) (Nat.le_of_eq (Nat.zero_add 1)) (Nat.le_of_eq (Nat.zero_add k)) ?_
  exact GB_aret B rfl (Or.inr ⟨_, rfl⟩) (by decide +kernel) ⟨z, rfl, rfl⟩
