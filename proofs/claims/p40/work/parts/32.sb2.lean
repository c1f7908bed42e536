/-! the builder's methods: room, append, the text at the end -/
theorem GB_sub {l : Launch} {X : XC} {Y : YC} {mi : MI} {p : Program} {e : Env} {R : Room} {s : State} {m : MethodId} {args : Array Value} {below : List Frame} {meth : Method} {c : Code} {ce sl : Nat} {Q : State → Prop} {pc : Nat} {L : LL} {S : List AV} {ws ws' : va_W} (is : List Nat) (hs : is.filterMap (fun i => ws[i]?) = ws') (hm : is.map (fun i => ws[i]?) = ws'.map some) (hn : va_nd is = true) (kk : GB l X Y mi p e R s m args below meth c ce sl Q pc L S ws') : GB l X Y mi p e R s m args below meth c ce sl Q pc L S ws :=
  fun H locs ls hP hD hS hl hL => kk H locs ls (hP.sub is hs) (hD.sub is hn hm) hS hl hL
theorem own_T2 {X : XC} {Y : YC} {H : Heap} {ws : va_W} {q0 a n : Nat} {f : Nat → Int32} (hX : XB X Y) (hC : xc X + 39 ≤ xb X) (hP : va_P Y.1 cl2 ws H) (hD : va_D (AY X) ws) (he : ws[q0]? = some (a, .inl (Y.2, n, .inl f))) : va_T .byte ((fz X H).2.2.2.1 (100 + a)) n (fun j => .int (f j)) (AA (fz X H)) (fz X H).2.2.1 (fz X H).2.2.1.heap := by
  show va_T .byte (X.2.2.2.1 (100 + a)) n _ _ _ _
  rw [hX.2.2.1 a]
  refine own_T hX (Or.inr trivial) hP hD (fun h => ?_) he
  have h1 : xb X ≤ a := hD.2 q0 _ he
  omega
def dgO (x : Nat) : Int32 := nI (48 + x % 10)
def dgT (x : Nat) : Int32 := nI (48 + x / 10)
theorem nar_O : ∀ x : Nat, x < 100 → vp_nar .byte (dgO x) = dgO x := by decide +kernel
theorem nar_T : ∀ x : Nat, x < 100 → vp_nar .byte (dgT x) = dgT x := by decide +kernel
theorem nI_m1 {k : Nat} (h : 0 < k) : nI k + -1 = nI (k - 1) := by
  obtain ⟨j, rfl⟩ : ∃ j, k = j + 1 := ⟨k - 1, by omega⟩
  rw [Nat.add_sub_cancel, ← nI_pred j, Int32.sub_eq_add_neg]
/-- the digits' two rows of bytes lie at the pool's places 42, 43 -/
def DG (X : XC) : Prop := (va_Z "java/lang/Integer" "DigitOnes" "[B" (.ref (X.2.2.2.1 42)) (AA X) X.2.2.1 X.2.2.1.heap ∧ va_T .byte (X.2.2.2.1 42) 100 (fun j => .int (dgO j)) (AA X) X.2.2.1 X.2.2.1.heap) ∧ va_Z "java/lang/Integer" "DigitTens" "[B" (.ref (X.2.2.2.1 43)) (AA X) X.2.2.1 X.2.2.1.heap ∧ va_T .byte (X.2.2.2.1 43) 100 (fun j => .int (dgT j)) (AA X) X.2.2.1 X.2.2.1.heap
theorem pv_J5_newCapacity_0f7a4 : Cond.privateMethod yJ5_newCapacity_0f7a4 ∈ lw_tbl := List.mem_of_getElem? (i := 430) (by decide +kernel)
theorem sm_J5_newCapacity_0f7a4 : Cond.sameMethod yJ5_newCapacity_0f7a4.cls yJ5_newCapacity_0f7a4.cls yJ5_newCapacity_0f7a4.name yJ5_newCapacity_0f7a4.desc ∈ lw_tbl := List.mem_of_getElem? (i := 837) (by decide +kernel)
theorem fl_J5_79 : Cond.fieldLink RJ5 79 "java/lang/AbstractStringBuilder" "count" "I" ∈ lw_tbl := List.mem_of_getElem? (i := 402) (by decide +kernel)
theorem pv_J5_ensureCapacityInternal_d00df : Cond.privateMethod yJ5_ensureCapacityInternal_d00df ∈ lw_tbl := List.mem_of_getElem? (i := 426) (by decide +kernel)
theorem sm_J5_ensureCapacityInternal_d00df : Cond.sameMethod yJ5_ensureCapacityInternal_d00df.cls yJ5_ensureCapacityInternal_d00df.cls yJ5_ensureCapacityInternal_d00df.name yJ5_ensureCapacityInternal_d00df.desc ∈ lw_tbl := List.mem_of_getElem? (i := 836) (by decide +kernel)
theorem pv_J5_putStringAt_47b60 : Cond.privateMethod yJ5_putStringAt_47b60 ∈ lw_tbl := List.mem_of_getElem? (i := 499) (by decide +kernel)
theorem sm_J5_putStringAt_47b60 : Cond.sameMethod yJ5_putStringAt_47b60.cls yJ5_putStringAt_47b60.cls yJ5_putStringAt_47b60.name yJ5_putStringAt_47b60.desc ∈ lw_tbl := List.mem_of_getElem? (i := 838) (by decide +kernel)
theorem fl_J6_83 : Cond.fieldLink RJ6 83 "java/lang/Integer" "DigitOnes" "[B" ∈ lw_tbl := List.mem_of_getElem? (i := 545) (by decide +kernel)
theorem fl_J6_87 : Cond.fieldLink RJ6 87 "java/lang/Integer" "DigitTens" "[B" ∈ lw_tbl := List.mem_of_getElem? (i := 547) (by decide +kernel)
theorem sm_J5_isLatin1_aae02 : Cond.sameMethod yJ5_isLatin1_aae02.cls yJ5_isLatin1_aae02.cls yJ5_isLatin1_aae02.name yJ5_isLatin1_aae02.desc ∈ lw_tbl := List.mem_of_getElem? (i := 460) (by decide +kernel)
theorem se_J5_isLatin1_aae02 : Cond.selects RJ4 yJ5_isLatin1_aae02 yJ5_isLatin1_aae02 ∈ lw_tbl := List.mem_of_getElem? (i := 461) (by decide +kernel)
theorem sm_J5_append_cf1ce : Cond.sameMethod yJ5_append_cf1ce.cls yJ5_append_cf1ce.cls yJ5_append_cf1ce.name yJ5_append_cf1ce.desc ∈ lw_tbl := List.mem_of_getElem? (i := 834) (by decide +kernel)
theorem su_J4 : Cond.superclass RJ4 RJ5 ∈ lw_tbl := List.mem_of_getElem? (i := 411) (by decide +kernel)
theorem sm_J5_append_c97b9 : Cond.sameMethod yJ5_append_c97b9.cls yJ5_append_c97b9.cls yJ5_append_c97b9.name yJ5_append_c97b9.desc ∈ lw_tbl := List.mem_of_getElem? (i := 841) (by decide +kernel)
theorem ob_in : Cond.instanceMethod Lib.objectInit ∈ lw_tbl := List.mem_of_getElem? (i := 196) (by decide +kernel)
theorem ob_co : Cond.code Lib.objectInit ⟨#[0xb1]⟩ 1 none ∈ lw_tbl := codeAt_in (k := 197) (by decide +kernel)
theorem ob_J5 : Cond.methodLink RJ5 3 Lib.objectInit ∈ lw_tbl := List.mem_of_getElem? (i := 389) (by decide +kernel)
theorem sm_J5_length_8abf5 : Cond.sameMethod yJ5_length_8abf5.cls yJ5_length_8abf5.cls yJ5_length_8abf5.name yJ5_length_8abf5.desc ∈ lw_tbl := List.mem_of_getElem? (i := 583) (by decide +kernel)
theorem ob_J0 : Cond.methodLink RJ0 1 Lib.objectInit ∈ lw_tbl := List.mem_of_getElem? (i := 575) (by decide +kernel)
theorem sm_J5_getValue_6d5f1 : Cond.sameMethod yJ5_getValue_6d5f1.cls yJ5_getValue_6d5f1.cls yJ5_getValue_6d5f1.name yJ5_getValue_6d5f1.desc ∈ lw_tbl := List.mem_of_getElem? (i := 578) (by decide +kernel)
theorem se_J5_getValue_6d5f1 : Cond.selects RJ4 yJ5_getValue_6d5f1 yJ5_getValue_6d5f1 ∈ lw_tbl := List.mem_of_getElem? (i := 579) (by decide +kernel)
theorem se_J5_length_8abf5 : Cond.selects RJ4 yJ5_length_8abf5 yJ4_length_8abf5 ∈ lw_tbl := List.mem_of_getElem? (i := 584) (by decide +kernel)
theorem cl_J4_18 : Cond.classLink RJ4 18 RJ0 ∈ lw_tbl := List.mem_of_getElem? (i := 567) (by decide +kernel)
theorem is_J0 : Cond.instantiable RJ0 4 ∈ lw_tbl := List.mem_of_getElem? (i := 568) (by decide +kernel)
theorem in_J0 : Cond.initialized RJ0 ∈ lw_tbl := List.mem_of_getElem? (i := 17) (by decide +kernel)
theorem b_ensR {l : Launch} {X : XC} {Y : YC} (hX : XB X Y) {b v c n : Nat} {f : Nat → Int32} {k : Nat} (hk : k ≤ c) (hc : c < 1000) : MtB l X Y 3 yJ5_ensureCapacityInternal_d00df cJ5_ensureCapacityInternal_d00df 3 none [rf b, .inl (nI k)] 0 0 (ws2 Y b v c n f) (fun v9 ws9 => v9 = none ∧ ∃ v1, ws9 = ws2 Y b v1 c n f) := by
  refine MtB_of (mi := ((RJ5, cJ5_ensureCapacityInternal_d00df, 3, none, [], [], []))) hX (mikE _ _ _ _) me_J5_ensureCapacityInternal_d00df rfl (Nat.le_of_ble_eq_true rfl) ?_
  intro p_ e_ s_ m_ args_ below_ meth_ c_ B hnm
  refine GB_run B (w := w00) (P := True) (pc1 := 1) (L1 := [some (rf b), some (.inl (nI k)), none]) (S1 := [rf b]) (w1 := w00) [(.aload_n 0, 0, 0, 0, 0)] (by decide +kernel) (by decide +kernel) rfl ?_
  refine GB_get B (q0 := 0) (k := 0) (v := rf v) rfl (by decide) fl_J5_15 (congrArg some (B.rf v)).symm (by decide +kernel) ?_
  refine GB_alen B (q0 := 1) rfl (by decide +kernel) ?_
  refine GB_run B (w := w00) (P := True) (pc1 := 6) (L1 := [some (rf b), some (.inl (nI k)), none]) (S1 := [rf b, .inl (nI c)]) (w1 := w00) [(.aload_n 0, 0, 0, 0, 0)] (by decide +kernel) (by decide +kernel) rfl ?_
  refine GB_get B (q0 := 0) (k := 1) (v := .inl 0) rfl (by decide) fl_J5_22 rfl (by decide +kernel) ?_
  refine GB_run B (w := w00) (P := True) (pc1 := 10) (L1 := [some (rf b), some (.inl (nI k)), none]) (S1 := [.inl (shrI (nI c) 0)]) (w1 := w00) [(.ishr, 0, 0, 0, 0)] (by decide +kernel) (by decide +kernel) rfl ?_
  rw [show (shrI (nI c) 0 : Int32) = nI c from shrI_0 _]
  refine GB_run B (w := w00) (P := True) (pc1 := 14) (L1 := [some (rf b), some (.inl (nI k)), some (.inl (nI c))]) (S1 := [.inl (nI k - nI c)]) (w1 := w00) [(.istore_n 2, 0, 0, 0, 0), (.iload_n 1, 0, 0, 0, 0), (.iload_n 2, 0, 0, 0, 0), (.isub, 0, 0, 0, 0)] (by decide +kernel) (by decide +kernel) rfl ?_
  refine GB_ifT B (k := .le) (off := 24) (tgt := 38) (by decide +kernel) (by decide) (sub_le0 hk hc) ?_
  exact GB_vret B rfl (by decide +kernel) ⟨rfl, v, rfl⟩
theorem b_ensG {l : Launch} {X : XC} {Y : YC} (hX : XB X Y) (hC : xc X + 39 ≤ xb X) {b v c n : Nat} {f : Nat → Int32} {k : Nat} (hby : ∀ j, fits .byte (.int (f j)) = true) (hk : c < k) (hk2 : k < 300) (h0 : 0 < c) : MtB l X Y 3 yJ5_ensureCapacityInternal_d00df cJ5_ensureCapacityInternal_d00df 3 none [rf b, .inl (nI k)] 1 (c + max (k - c) (c + 2)) (ws2 Y b v c n f) (fun v9 ws9 => v9 = none ∧ ∃ v1, ws9 = ws2 Y b v1 (c + max (k - c) (c + 2)) n (va_cpy f (fun _ => 0) 0 0 c)) := by
  refine MtB_of (mi := ((RJ5, cJ5_ensureCapacityInternal_d00df, 3, none, [], [], []))) hX (mikE _ _ _ _) me_J5_ensureCapacityInternal_d00df rfl (Nat.le_of_ble_eq_true rfl) ?_
  intro p_ e_ s_ m_ args_ below_ meth_ c_ B hnm
  refine GB_run B (w := w00) (P := True) (pc1 := 1) (L1 := [some (rf b), some (.inl (nI k)), none]) (S1 := [rf b]) (w1 := w00) [(.aload_n 0, 0, 0, 0, 0)] (by decide +kernel) (by decide +kernel) rfl ?_
  refine GB_get B (q0 := 0) (k := 0) (v := rf v) rfl (by decide) fl_J5_15 (congrArg some (B.rf v)).symm (by decide +kernel) ?_
  refine GB_alen B (q0 := 1) rfl (by decide +kernel) ?_
  refine GB_run B (w := w00) (P := True) (pc1 := 6) (L1 := [some (rf b), some (.inl (nI k)), none]) (S1 := [rf b, .inl (nI c)]) (w1 := w00) [(.aload_n 0, 0, 0, 0, 0)] (by decide +kernel) (by decide +kernel) rfl ?_
  refine GB_get B (q0 := 0) (k := 1) (v := .inl 0) rfl (by decide) fl_J5_22 rfl (by decide +kernel) ?_
  refine GB_run B (w := w00) (P := True) (pc1 := 10) (L1 := [some (rf b), some (.inl (nI k)), none]) (S1 := [.inl (shrI (nI c) 0)]) (w1 := w00) [(.ishr, 0, 0, 0, 0)] (by decide +kernel) (by decide +kernel) rfl ?_
  rw [show (shrI (nI c) 0 : Int32) = nI c from shrI_0 _]
  refine GB_run B (w := w00) (P := True) (pc1 := 14) (L1 := [some (rf b), some (.inl (nI k)), some (.inl (nI c))]) (S1 := [.inl (nI k - nI c)]) (w1 := w00) [(.istore_n 2, 0, 0, 0, 0), (.iload_n 1, 0, 0, 0, 0), (.iload_n 2, 0, 0, 0, 0), (.isub, 0, 0, 0, 0)] (by decide +kernel) (by decide +kernel) rfl ?_
  rw [show (nI k - nI c : Int32) = nI (k - c) from nI_subN (by omega)]
  refine GB_ifF B (k := .le) (off := 24) (tgt := 38) (by decide +kernel) (by decide) (nI_nle (by omega) (by omega)) ?_
  refine GB_run B (w := w00) (P := True) (pc1 := 19) (L1 := [some (rf b), some (.inl (nI k)), some (.inl (nI c))]) (S1 := [rf b, rf b]) (w1 := w00) [(.aload_n 0, 0, 0, 0, 0), (.aload_n 0, 0, 0, 0, 0)] (by decide +kernel) (by decide +kernel) rfl ?_
  refine GB_get B (q0 := 0) (k := 0) (v := rf v) rfl (by decide) fl_J5_15 (congrArg some (B.rf v)).symm (by decide +kernel) ?_
  refine GB_run B (w := w00) (P := True) (pc1 := 24) (L1 := [some (rf b), some (.inl (nI k)), some (.inl (nI c))]) (S1 := [.inl (nI k), rf b, rf v, rf b]) (w1 := w00) [(.aload_n 0, 0, 0, 0, 0), (.iload_n 1, 0, 0, 0, 0)] (by decide +kernel) (by decide +kernel) rfl ?_
  refine GB_callP B (q0 := 0) (As := [.inl (nI k)]) (S := [rf v, rf b]) rfl (b_newCapacity hX hk (by omega) h0) me_J5_newCapacity_0f7a4 mi_J5_newCapacity_0f7a4 pv_J5_newCapacity_0f7a4 lk_J5_104 sm_J5_newCapacity_0f7a4 (by decide +kernel) rfl ⟨Nat.le_of_ble_eq_true rfl, Nat.le_of_ble_eq_true rfl⟩ ⟨Nat.le_of_ble_eq_true rfl, Nat.le_of_ble_eq_true rfl⟩ (Nat.le_of_ble_eq_true rfl) (fun v9 ws9 h9 => ?_)
  obtain ⟨rfl, rfl⟩ := h9
  refine GB_run B (w := w00) (P := True) (pc1 := 28) (L1 := [some (rf b), some (.inl (nI k)), some (.inl (nI c))]) (S1 := [rf b, .inl (nI (c + max (k - c) (c + 2))), rf v, rf b]) (w1 := w00) [(.aload_n 0, 0, 0, 0, 0)] (by decide +kernel) (by decide +kernel) rfl ?_
  refine GB_get B (q0 := 0) (k := 1) (v := .inl 0) rfl (by decide) fl_J5_22 rfl (by decide +kernel) ?_
  refine GB_run B (w := w00) (P := True) (pc1 := 32) (L1 := [some (rf b), some (.inl (nI k)), some (.inl (nI c))]) (S1 := [.inl (shlI (nI (c + max (k - c) (c + 2))) 0), rf v, rf b]) (w1 := w00) [(.ishl, 0, 0, 0, 0)] (by decide +kernel) (by decide +kernel) rfl ?_
  rw [show (shlI (nI (c + max (k - c) (c + 2))) 0 : Int32) = nI (c + max (k - c) (c + 2)) from shlI_0 _]
  refine GB_callZ B (As := [rf v, .inl (nI (c + max (k - c) (c + 2)))]) (S := [rf b]) (fun H hP hD hk9 => b_copyOf (XB_fz hX hk9) (i := 100 + v) (own_T2 (q0 := 1) hX hC hP hD rfl) hby (by omega) (by omega)) ⟨me_J7_copyOf_9075b, ms_J7_copyOf_9075b, lk_J5_108⟩ (by decide +kernel) rfl ⟨Nat.le_of_ble_eq_true rfl, Nat.le_of_ble_eq_true rfl⟩ ⟨Nat.le_refl _, Nat.le_of_eq (by simp)⟩ (Nat.le_of_ble_eq_true rfl) (fun v9 ws9 h9 => ?_)
  obtain ⟨z, rfl, rfl⟩ := h9
  refine GB_put B (q0 := 0) (k := 0) (v := rf z) rfl (by decide) fl_J5_15 (by rw [B.rf]; rfl) (by rw [B.rf]; rfl) rfl (by decide +kernel) ?_
  rw [B.rf]
  refine GB_wid (k := 1) (n := (c + max (k - c) (c + 2))) (Nat.le_refl _) (Nat.le_of_eq (by simp)) ?_
  refine GB_sub [0, 2] rfl rfl rfl ?_
  exact GB_vret B rfl (by decide +kernel) ⟨rfl, z, rfl⟩
theorem b_appS {l : Launch} {X : XC} {Y : YC} (hX : XB X Y) {i v0 len : Nat} {by0 : Nat → Int32} (hG : strG X i v0 len by0) {b v c n : Nat} {f : Nat → Int32} {c1 mcE msE : Nat} {f1 : Nat → Int32} (hE : MtB l X Y 3 yJ5_ensureCapacityInternal_d00df cJ5_ensureCapacityInternal_d00df 3 none [rf b, .inl (nI (n + len))] mcE msE (ws2 Y b v c n f) (fun v9 ws9 => v9 = none ∧ ∃ v1, ws9 = ws2 Y b v1 c1 n f1)) (hby : ∀ j, fits .byte (.int (by0 j)) = true) (hnc : n + len ≤ c1) (hc1 : c1 < 1000) : MtB l X Y 4 yJ5_append_cf1ce cJ5_append_cf1ce 3 (some (.object "java/lang/AbstractStringBuilder")) [rf b, .inr (.inr (some (40, i)))] mcE msE (ws2 Y b v c n f) (fun v9 ws9 => v9 = some (rf b) ∧ ∃ v1, ws9 = ws2 Y b v1 c1 (n + len) (va_cpy by0 f1 0 n len)) := by
  refine MtB_of (mi := ((RJ5, cJ5_append_cf1ce, 3, (some (.object "java/lang/AbstractStringBuilder")), [], [], []))) hX (mikE _ _ _ _) me_J5_append_cf1ce rfl (Nat.le_of_ble_eq_true rfl) ?_
  intro p_ e_ s_ m_ args_ below_ meth_ c_ B hnm
  refine GB_run B (w := w00) (P := True) (pc1 := 1) (L1 := [some (rf b), some (.inr (.inr (some (40, i)))), none]) (S1 := [.inr (.inr (some (40, i)))]) (w1 := w00) [(.aload_n 1, 0, 0, 0, 0)] (by decide +kernel) (by decide +kernel) rfl ?_
  refine GB_nonnull B (off := 8) (tgt := 9) (by decide +kernel) (by decide) ?_
  refine GB_run B (w := w00) (P := True) (pc1 := 10) (L1 := [some (rf b), some (.inr (.inr (some (40, i)))), none]) (S1 := [.inr (.inr (some (40, i)))]) (w1 := w00) [(.aload_n 1, 0, 0, 0, 0)] (by decide +kernel) (by decide +kernel) rfl ?_
  refine GB_callT B (As := []) (S := []) hG (b_length hX hG) ⟨me_J0_length_8abf5, mi_J0_length_8abf5, mv_J0_length_8abf5, lk_J5_32⟩ rfl (by decide +kernel) rfl ⟨Nat.le_of_ble_eq_true rfl, Nat.le_of_ble_eq_true rfl⟩ ⟨by simp, by simp⟩ (Nat.le_of_ble_eq_true rfl) (fun v9 ws9 h9 => ?_)
  obtain ⟨rfl, rfl⟩ := h9
  refine GB_run B (w := w00) (P := True) (pc1 := 16) (L1 := [some (rf b), some (.inr (.inr (some (40, i)))), some (.inl (nI len))]) (S1 := [rf b, rf b]) (w1 := w00) [(.istore_n 2, 0, 0, 0, 0), (.aload_n 0, 0, 0, 0, 0), (.aload_n 0, 0, 0, 0, 0)] (by decide +kernel) (by decide +kernel) rfl ?_
  refine GB_get B (q0 := 0) (k := 3) (v := .inl (nI n)) rfl (by decide) fl_J5_79 rfl (by decide +kernel) ?_
  refine GB_run B (w := w00) (P := True) (pc1 := 21) (L1 := [some (rf b), some (.inr (.inr (some (40, i)))), some (.inl (nI len))]) (S1 := [.inl (nI n + nI len), rf b]) (w1 := w00) [(.iload_n 2, 0, 0, 0, 0), (.iadd, 0, 0, 0, 0)] (by decide +kernel) (by decide +kernel) rfl ?_
  rw [show (nI n + nI len : Int32) = nI (n + len) from nI_add _ _]
  refine GB_callP B (q0 := 0) (As := [.inl (nI (n + len))]) (S := []) rfl (hE) me_J5_ensureCapacityInternal_d00df mi_J5_ensureCapacityInternal_d00df pv_J5_ensureCapacityInternal_d00df lk_J5_100 sm_J5_ensureCapacityInternal_d00df (by decide +kernel) rfl ⟨Nat.le_of_ble_eq_true rfl, Nat.le_of_ble_eq_true rfl⟩ ⟨by simp, by simp⟩ (Nat.le_of_ble_eq_true rfl) (fun v9 ws9 h9 => ?_)
  obtain ⟨rfl, v1, rfl⟩ := h9
  refine GB_run B (w := w00) (P := True) (pc1 := 26) (L1 := [some (rf b), some (.inr (.inr (some (40, i)))), some (.inl (nI len))]) (S1 := [rf b, rf b]) (w1 := w00) [(.aload_n 0, 0, 0, 0, 0), (.aload_n 0, 0, 0, 0, 0)] (by decide +kernel) (by decide +kernel) rfl ?_
  refine GB_get B (q0 := 0) (k := 3) (v := .inl (nI n)) rfl (by decide) fl_J5_79 rfl (by decide +kernel) ?_
  refine GB_run B (w := w00) (P := True) (pc1 := 30) (L1 := [some (rf b), some (.inr (.inr (some (40, i)))), some (.inl (nI len))]) (S1 := [.inr (.inr (some (40, i))), .inl (nI n), rf b]) (w1 := w00) [(.aload_n 1, 0, 0, 0, 0)] (by decide +kernel) (by decide +kernel) rfl ?_
  refine GB_callP B (q0 := 0) (As := [.inl (nI n), .inr (.inr (some (40, i)))]) (S := []) rfl (b_putStringAt hX hG hby hnc hc1) me_J5_putStringAt_47b60 mi_J5_putStringAt_47b60 pv_J5_putStringAt_47b60 lk_J5_208 sm_J5_putStringAt_47b60 (by decide +kernel) rfl ⟨Nat.le_of_ble_eq_true rfl, Nat.le_of_ble_eq_true rfl⟩ ⟨by simp, by simp⟩ (Nat.le_of_ble_eq_true rfl) (fun v9 ws9 h9 => ?_)
  obtain ⟨rfl, rfl⟩ := h9
  refine GB_run B (w := w00) (P := True) (pc1 := 35) (L1 := [some (rf b), some (.inr (.inr (some (40, i)))), some (.inl (nI len))]) (S1 := [rf b, rf b]) (w1 := w00) [(.aload_n 0, 0, 0, 0, 0), (.dup, 0, 0, 0, 0)] (by decide +kernel) (by decide +kernel) rfl ?_
  refine GB_get B (q0 := 0) (k := 3) (v := .inl (nI n)) rfl (by decide) fl_J5_79 rfl (by decide +kernel) ?_
  refine GB_run B (w := w00) (P := True) (pc1 := 40) (L1 := [some (rf b), some (.inr (.inr (some (40, i)))), some (.inl (nI len))]) (S1 := [.inl (nI n + nI len), rf b]) (w1 := w00) [(.iload_n 2, 0, 0, 0, 0), (.iadd, 0, 0, 0, 0)] (by decide +kernel) (by decide +kernel) rfl ?_
  rw [show (nI n + nI len : Int32) = nI (n + len) from nI_add _ _]
  refine GB_put B (q0 := 0) (k := 3) (v := .inl (nI (n + len))) rfl (by decide) fl_J5_79 rfl rfl rfl (by decide +kernel) ?_
  refine GB_run B (w := w00) (P := True) (pc1 := 44) (L1 := [some (rf b), some (.inr (.inr (some (40, i)))), some (.inl (nI len))]) (S1 := [rf b]) (w1 := w00) [(.aload_n 0, 0, 0, 0, 0)] (by decide +kernel) (by decide +kernel) rfl ?_
  refine GB_wid (k := mcE) (n := msE) (by simp) (by simp) ?_
  exact GB_aret B rfl (Or.inl ⟨_, rfl⟩) (by decide +kernel) ⟨rfl, v1, rfl⟩
theorem b_size1 {l : Launch} {X : XC} {Y : YC} (hX : XB X Y) {x : Nat} (hx : x < 10) {ws : va_W} : MtB l X Y 0 yJ6_stringSize_0f7a4 cJ6_stringSize_0f7a4 4 (some .int) [.inl (nI x)] 0 0 ws (fun v9 ws9 => v9 = some (.inl (nI 1)) ∧ ws9 = ws) := by
  refine MtB_of (mi := ((RJ6, cJ6_stringSize_0f7a4, 4, (some .int), [], [], []))) hX (mikE _ _ _ _) me_J6_stringSize_0f7a4 rfl (Nat.le_of_ble_eq_true rfl) ?_
  intro p_ e_ s_ m_ args_ below_ meth_ c_ B hnm
  refine GB_run B (w := w00) (P := True) (pc1 := 3) (L1 := [some (.inl (nI x)), some (.inl 1), none, none]) (S1 := [.inl (nI x)]) (w1 := w00) [(.iconst 1, 0, 0, 1, 0), (.istore_n 1, 0, 0, 0, 0), (.iload_n 0, 0, 0, 0, 0)] (by decide +kernel) (by decide +kernel) rfl ?_
  refine GB_ifF B (k := .lt) (off := 8) (tgt := 11) (by decide +kernel) (by decide) (nI_pos (by omega)) ?_
  refine GB_run B (w := w00) (P := True) (pc1 := 19) (L1 := [some (.inl (-(nI x))), some (.inl 0), some (.inl (-10)), some (.inl 1)]) (S1 := [.inl 10, .inl 1]) (w1 := w00) [(.iconst 0, 0, 0, 0, 0), (.istore_n 1, 0, 0, 0, 0), (.iload_n 0, 0, 0, 0, 0), (.ineg, 0, 0, 0, 0), (.istore_n 0, 0, 0, 0, 0), (.bipush (-10), 0, 0, (-10), 0), (.istore_n 2, 0, 0, 0, 0), (.iconst 1, 0, 0, 1, 0), (.istore_n 3, 0, 0, 0, 0), (.iload_n 3, 0, 0, 0, 0), (.bipush 10, 0, 0, 10, 0)] (by decide +kernel) (by decide +kernel) rfl ?_
  refine GB_icF B (k := .ge) (off := 23) (tgt := 42) (by decide +kernel) (by decide) (show ¬ ((10 : Int32) ≤ 1) by decide) ?_
  refine GB_run B (w := w00) (P := True) (pc1 := 24) (L1 := [some (.inl (-(nI x))), some (.inl 0), some (.inl (-10)), some (.inl 1)]) (S1 := [.inl (-10), .inl (-(nI x))]) (w1 := w00) [(.iload_n 0, 0, 0, 0, 0), (.iload_n 2, 0, 0, 0, 0)] (by decide +kernel) (by decide +kernel) rfl ?_
  refine GB_icF B (k := .le) (off := 7) (tgt := 31) (by decide +kernel) (by decide) (ss_1 x hx) ?_
  refine GB_run B (w := w00) (P := True) (pc1 := 30) (L1 := [some (.inl (-(nI x))), some (.inl 0), some (.inl (-10)), some (.inl 1)]) (S1 := [.inl (1 + 0)]) (w1 := w00) [(.iload_n 3, 0, 0, 0, 0), (.iload_n 1, 0, 0, 0, 0), (.iadd, 0, 0, 0, 0)] (by decide +kernel) (by decide +kernel) rfl ?_
  rw [show (1 + 0 : Int32) = nI 1 from by decide]
  exact GB_iret B rfl (by decide +kernel) ⟨rfl, rfl⟩
theorem b_size2 {l : Launch} {X : XC} {Y : YC} (hX : XB X Y) {x : Nat} (hx : x < 64) (h10 : 10 ≤ x) {ws : va_W} : MtB l X Y 0 yJ6_stringSize_0f7a4 cJ6_stringSize_0f7a4 4 (some .int) [.inl (nI x)] 0 0 ws (fun v9 ws9 => v9 = some (.inl (nI 2)) ∧ ws9 = ws) := by
  refine MtB_of (mi := ((RJ6, cJ6_stringSize_0f7a4, 4, (some .int), [], [], []))) hX (mikE _ _ _ _) me_J6_stringSize_0f7a4 rfl (Nat.le_of_ble_eq_true rfl) ?_
  intro p_ e_ s_ m_ args_ below_ meth_ c_ B hnm
  refine GB_run B (w := w00) (P := True) (pc1 := 3) (L1 := [some (.inl (nI x)), some (.inl 1), none, none]) (S1 := [.inl (nI x)]) (w1 := w00) [(.iconst 1, 0, 0, 1, 0), (.istore_n 1, 0, 0, 0, 0), (.iload_n 0, 0, 0, 0, 0)] (by decide +kernel) (by decide +kernel) rfl ?_
  refine GB_ifF B (k := .lt) (off := 8) (tgt := 11) (by decide +kernel) (by decide) (nI_pos (by omega)) ?_
  refine GB_run B (w := w00) (P := True) (pc1 := 19) (L1 := [some (.inl (-(nI x))), some (.inl 0), some (.inl (-10)), some (.inl 1)]) (S1 := [.inl 10, .inl 1]) (w1 := w00) [(.iconst 0, 0, 0, 0, 0), (.istore_n 1, 0, 0, 0, 0), (.iload_n 0, 0, 0, 0, 0), (.ineg, 0, 0, 0, 0), (.istore_n 0, 0, 0, 0, 0), (.bipush (-10), 0, 0, (-10), 0), (.istore_n 2, 0, 0, 0, 0), (.iconst 1, 0, 0, 1, 0), (.istore_n 3, 0, 0, 0, 0), (.iload_n 3, 0, 0, 0, 0), (.bipush 10, 0, 0, 10, 0)] (by decide +kernel) (by decide +kernel) rfl ?_
  refine GB_icF B (k := .ge) (off := 23) (tgt := 42) (by decide +kernel) (by decide) (show ¬ ((10 : Int32) ≤ 1) by decide) ?_
  refine GB_run B (w := w00) (P := True) (pc1 := 24) (L1 := [some (.inl (-(nI x))), some (.inl 0), some (.inl (-10)), some (.inl 1)]) (S1 := [.inl (-10), .inl (-(nI x))]) (w1 := w00) [(.iload_n 0, 0, 0, 0, 0), (.iload_n 2, 0, 0, 0, 0)] (by decide +kernel) (by decide +kernel) rfl ?_
  refine GB_icT B (k := .le) (off := 7) (tgt := 31) (by decide +kernel) (by decide) (ss_2 x hx h10) ?_
  refine GB_run B (w := w00) (P := True) (pc1 := 19) (L1 := [some (.inl (-(nI x))), some (.inl 0), some (.inl (10 * (-10))), some (.inl (1 + 1))]) (S1 := [.inl 10, .inl (1 + 1)]) (w1 := w00) [(.bipush 10, 0, 0, 10, 0), (.iload_n 2, 0, 0, 0, 0), (.imul, 0, 0, 0, 0), (.istore_n 2, 0, 0, 0, 0), (.iinc 3 1, 0, 0, 1, 0), (.goto (-23), 0, 0, 0, 0), (.iload_n 3, 0, 0, 0, 0), (.bipush 10, 0, 0, 10, 0)] (by decide +kernel) (by decide +kernel) rfl ?_
  refine GB_icF B (k := .ge) (off := 23) (tgt := 42) (by decide +kernel) (by decide) (show ¬ ((10 : Int32) ≤ 1 + 1) by decide) ?_
  refine GB_run B (w := w00) (P := True) (pc1 := 24) (L1 := [some (.inl (-(nI x))), some (.inl 0), some (.inl (10 * (-10))), some (.inl (1 + 1))]) (S1 := [.inl (10 * (-10)), .inl (-(nI x))]) (w1 := w00) [(.iload_n 0, 0, 0, 0, 0), (.iload_n 2, 0, 0, 0, 0)] (by decide +kernel) (by decide +kernel) rfl ?_
  refine GB_icF B (k := .le) (off := 7) (tgt := 31) (by decide +kernel) (by decide) (ss_3 x hx) ?_
  refine GB_run B (w := w00) (P := True) (pc1 := 30) (L1 := [some (.inl (-(nI x))), some (.inl 0), some (.inl (10 * (-10))), some (.inl (1 + 1))]) (S1 := [.inl ((1 + 1) + 0)]) (w1 := w00) [(.iload_n 3, 0, 0, 0, 0), (.iload_n 1, 0, 0, 0, 0), (.iadd, 0, 0, 0, 0)] (by decide +kernel) (by decide +kernel) rfl ?_
  rw [show ((1 + 1) + 0 : Int32) = nI 2 from by decide]
  exact GB_iret B rfl (by decide +kernel) ⟨rfl, rfl⟩
theorem b_chars1 {l : Launch} {X : XC} {Y : YC} (hX : XB X Y) (hDG : DG X) {b v c n : Nat} {f : Nat → Int32} {x k : Nat} (hx : x < 10) (hk : 0 < k) (hkc : k ≤ c) (hc : c < 1000) : MtB l X Y 0 yJ6_getChars_ba4f3 cJ6_getChars_ba4f3 7 (some .int) [.inl (nI x), .inl (nI k), rf v] 0 0 (ws2 Y b v c n f) (fun v9 ws9 => ∃ r, v9 = some (.inl r) ∧ ws9 = ws2 Y b v c n (upd f (k - 1) (dgO x))) := by
  refine MtB_of (mi := ((RJ6, cJ6_getChars_ba4f3, 7, (some .int), [], [], []))) hX (mikE _ _ _ _) me_J6_getChars_ba4f3 rfl (Nat.le_of_ble_eq_true rfl) ?_
  intro p_ e_ s_ m_ args_ below_ meth_ c_ B hnm
  refine GB_run B (w := w00) (P := True) (pc1 := 4) (L1 := [some (.inl (nI x)), some (.inl (nI k)), some (rf v), none, none, some (.inl (nI k)), none]) (S1 := [.inl (nI x)]) (w1 := w00) [(.iload_n 1, 0, 0, 0, 0), (.istore 5, 0, 0, 0, 0), (.iload_n 0, 0, 0, 0, 0)] (by decide +kernel) (by decide +kernel) rfl ?_
  refine GB_ifT B (k := .ge) (off := 7) (tgt := 11) (by decide +kernel) (by decide) (nI_pos' (by omega)) ?_
  refine GB_run B (w := w00) (P := True) (pc1 := 16) (L1 := [some (.inl (nI x)), some (.inl (nI k)), some (rf v), none, none, some (.inl (nI k)), some (.inl 0)]) (S1 := [.inl 0]) (w1 := w00) [(.iconst 0, 0, 0, 0, 0), (.istore 6, 0, 0, 0, 0), (.iload 6, 0, 0, 0, 0)] (by decide +kernel) (by decide +kernel) rfl ?_
  refine GB_ifF B (k := .ne) (off := 6) (tgt := 22) (by decide +kernel) (by decide) (show ¬ ¬ ((0 : Int32) = 0) by decide) ?_
  refine GB_run B (w := w00) (P := True) (pc1 := 25) (L1 := [some (.inl (-(nI x))), some (.inl (nI k)), some (rf v), none, none, some (.inl (nI k)), some (.inl 0)]) (S1 := [.inl (-100), .inl (-(nI x))]) (w1 := w00) [(.iload_n 0, 0, 0, 0, 0), (.ineg, 0, 0, 0, 0), (.istore_n 0, 0, 0, 0, 0), (.iload_n 0, 0, 0, 0, 0), (.bipush (-100), 0, 0, (-100), 0)] (by decide +kernel) (by decide +kernel) rfl ?_
  refine GB_icT B (k := .gt) (off := 47) (tgt := 72) (by decide +kernel) (by decide) (gc_1 x (by omega)) ?_
  refine GB_run B (w := w00) (P := True) (pc1 := 78) (L1 := [some (.inl (-(nI x))), some (.inl (nI k)), some (rf v), none, none, some (.inl (nI k + (-1))), some (.inl 0)]) (S1 := [.inl (nI k + (-1)), rf v]) (w1 := w00) [(.aload_n 2, 0, 0, 0, 0), (.iinc 5 (-1), 0, 0, (-1), 0), (.iload 5, 0, 0, 0, 0)] (by decide +kernel) (by decide +kernel) rfl ?_
  refine GB_static B (i := 42) hDG.1.1 fl_J6_83 (by decide +kernel) ?_
  refine GB_run B (w := w00) (P := True) (pc1 := 83) (L1 := [some (.inl (-(nI x))), some (.inl (nI k)), some (rf v), none, none, some (.inl (nI k + (-1))), some (.inl 0)]) (S1 := [.inl (-(-(nI x))), .inr (.inr (some (40, 42))), .inl (nI k + (-1)), rf v]) (w1 := w00) [(.iload_n 0, 0, 0, 0, 0), (.ineg, 0, 0, 0, 0)] (by decide +kernel) (by decide +kernel) rfl ?_
  rw [show (-(-(nI x)) : Int32) = nI x from Int32.neg_neg]
  refine GB_tb B hDG.1.2 (nI_in (by omega) (by omega)) (by decide +kernel) ?_
  rw [show tn (nI x) = x from nI_clamp (by omega)]
  rw [show (nI k + (-1) : Int32) = nI (k - 1) from nI_m1 (by omega)]
  refine GB_bast B (q0 := 1) rfl (nI_in (by omega) (by omega)) (by decide +kernel) ?_
  rw [show tn (nI (k - 1)) = k - 1 from nI_clamp (by omega), nar_O x (by omega)]
  refine GB_run B (w := w00) (P := True) (pc1 := 88) (L1 := [some (.inl (-(nI x))), some (.inl (nI k)), some (rf v), none, none, some (.inl (nI (k - 1))), some (.inl 0)]) (S1 := [.inl (-9), .inl (-(nI x))]) (w1 := w00) [(.iload_n 0, 0, 0, 0, 0), (.bipush (-9), 0, 0, (-9), 0)] (by decide +kernel) (by decide +kernel) rfl ?_
  refine GB_icT B (k := .ge) (off := 16) (tgt := 104) (by decide +kernel) (by decide) (gc_2 x (by omega)) ?_
  refine GB_run B (w := w00) (P := True) (pc1 := 106) (L1 := [some (.inl (-(nI x))), some (.inl (nI k)), some (rf v), none, none, some (.inl (nI (k - 1))), some (.inl 0)]) (S1 := [.inl 0]) (w1 := w00) [(.iload 6, 0, 0, 0, 0)] (by decide +kernel) (by decide +kernel) rfl ?_
  refine GB_ifT B (k := .eq) (off := 12) (tgt := 118) (by decide +kernel) (by decide) (show (0 : Int32) = 0 by decide) ?_
  refine GB_run B (w := w00) (P := True) (pc1 := 120) (L1 := [some (.inl (-(nI x))), some (.inl (nI k)), some (rf v), none, none, some (.inl (nI (k - 1))), some (.inl 0)]) (S1 := [.inl (nI (k - 1))]) (w1 := w00) [(.iload 5, 0, 0, 0, 0)] (by decide +kernel) (by decide +kernel) rfl ?_
  exact GB_iret B rfl (by decide +kernel) ⟨_, rfl, rfl⟩
theorem b_chars2 {l : Launch} {X : XC} {Y : YC} (hX : XB X Y) (hDG : DG X) {b v c n : Nat} {f : Nat → Int32} {x k : Nat} (hx : x < 64) (h10 : 10 ≤ x) (hk : 1 < k) (hkc : k ≤ c) (hc : c < 1000) : MtB l X Y 0 yJ6_getChars_ba4f3 cJ6_getChars_ba4f3 7 (some .int) [.inl (nI x), .inl (nI k), rf v] 0 0 (ws2 Y b v c n f) (fun v9 ws9 => ∃ r, v9 = some (.inl r) ∧ ws9 = ws2 Y b v c n (upd (upd f (k - 1) (dgO x)) (k - 1 - 1) (dgT x))) := by
  refine MtB_of (mi := ((RJ6, cJ6_getChars_ba4f3, 7, (some .int), [], [], []))) hX (mikE _ _ _ _) me_J6_getChars_ba4f3 rfl (Nat.le_of_ble_eq_true rfl) ?_
  intro p_ e_ s_ m_ args_ below_ meth_ c_ B hnm
  refine GB_run B (w := w00) (P := True) (pc1 := 4) (L1 := [some (.inl (nI x)), some (.inl (nI k)), some (rf v), none, none, some (.inl (nI k)), none]) (S1 := [.inl (nI x)]) (w1 := w00) [(.iload_n 1, 0, 0, 0, 0), (.istore 5, 0, 0, 0, 0), (.iload_n 0, 0, 0, 0, 0)] (by decide +kernel) (by decide +kernel) rfl ?_
  refine GB_ifT B (k := .ge) (off := 7) (tgt := 11) (by decide +kernel) (by decide) (nI_pos' (by omega)) ?_
  refine GB_run B (w := w00) (P := True) (pc1 := 16) (L1 := [some (.inl (nI x)), some (.inl (nI k)), some (rf v), none, none, some (.inl (nI k)), some (.inl 0)]) (S1 := [.inl 0]) (w1 := w00) [(.iconst 0, 0, 0, 0, 0), (.istore 6, 0, 0, 0, 0), (.iload 6, 0, 0, 0, 0)] (by decide +kernel) (by decide +kernel) rfl ?_
  refine GB_ifF B (k := .ne) (off := 6) (tgt := 22) (by decide +kernel) (by decide) (show ¬ ¬ ((0 : Int32) = 0) by decide) ?_
  refine GB_run B (w := w00) (P := True) (pc1 := 25) (L1 := [some (.inl (-(nI x))), some (.inl (nI k)), some (rf v), none, none, some (.inl (nI k)), some (.inl 0)]) (S1 := [.inl (-100), .inl (-(nI x))]) (w1 := w00) [(.iload_n 0, 0, 0, 0, 0), (.ineg, 0, 0, 0, 0), (.istore_n 0, 0, 0, 0, 0), (.iload_n 0, 0, 0, 0, 0), (.bipush (-100), 0, 0, (-100), 0)] (by decide +kernel) (by decide +kernel) rfl ?_
  refine GB_icT B (k := .gt) (off := 47) (tgt := 72) (by decide +kernel) (by decide) (gc_1 x (by omega)) ?_
  refine GB_run B (w := w00) (P := True) (pc1 := 78) (L1 := [some (.inl (-(nI x))), some (.inl (nI k)), some (rf v), none, none, some (.inl (nI k + (-1))), some (.inl 0)]) (S1 := [.inl (nI k + (-1)), rf v]) (w1 := w00) [(.aload_n 2, 0, 0, 0, 0), (.iinc 5 (-1), 0, 0, (-1), 0), (.iload 5, 0, 0, 0, 0)] (by decide +kernel) (by decide +kernel) rfl ?_
  refine GB_static B (i := 42) hDG.1.1 fl_J6_83 (by decide +kernel) ?_
  refine GB_run B (w := w00) (P := True) (pc1 := 83) (L1 := [some (.inl (-(nI x))), some (.inl (nI k)), some (rf v), none, none, some (.inl (nI k + (-1))), some (.inl 0)]) (S1 := [.inl (-(-(nI x))), .inr (.inr (some (40, 42))), .inl (nI k + (-1)), rf v]) (w1 := w00) [(.iload_n 0, 0, 0, 0, 0), (.ineg, 0, 0, 0, 0)] (by decide +kernel) (by decide +kernel) rfl ?_
  rw [show (-(-(nI x)) : Int32) = nI x from Int32.neg_neg]
  refine GB_tb B hDG.1.2 (nI_in (by omega) (by omega)) (by decide +kernel) ?_
  rw [show tn (nI x) = x from nI_clamp (by omega)]
  rw [show (nI k + (-1) : Int32) = nI (k - 1) from nI_m1 (by omega)]
  refine GB_bast B (q0 := 1) rfl (nI_in (by omega) (by omega)) (by decide +kernel) ?_
  rw [show tn (nI (k - 1)) = k - 1 from nI_clamp (by omega), nar_O x (by omega)]
  refine GB_run B (w := w00) (P := True) (pc1 := 88) (L1 := [some (.inl (-(nI x))), some (.inl (nI k)), some (rf v), none, none, some (.inl (nI (k - 1))), some (.inl 0)]) (S1 := [.inl (-9), .inl (-(nI x))]) (w1 := w00) [(.iload_n 0, 0, 0, 0, 0), (.bipush (-9), 0, 0, (-9), 0)] (by decide +kernel) (by decide +kernel) rfl ?_
  refine GB_icF B (k := .ge) (off := 16) (tgt := 104) (by decide +kernel) (by decide) (gc_3 x (by omega) h10) ?_
  refine GB_run B (w := w00) (P := True) (pc1 := 97) (L1 := [some (.inl (-(nI x))), some (.inl (nI k)), some (rf v), none, none, some (.inl (nI (k - 1) + (-1))), some (.inl 0)]) (S1 := [.inl (nI (k - 1) + (-1)), rf v]) (w1 := w00) [(.aload_n 2, 0, 0, 0, 0), (.iinc 5 (-1), 0, 0, (-1), 0), (.iload 5, 0, 0, 0, 0)] (by decide +kernel) (by decide +kernel) rfl ?_
  refine GB_static B (i := 43) hDG.2.1 fl_J6_87 (by decide +kernel) ?_
  refine GB_run B (w := w00) (P := True) (pc1 := 102) (L1 := [some (.inl (-(nI x))), some (.inl (nI k)), some (rf v), none, none, some (.inl (nI (k - 1) + (-1))), some (.inl 0)]) (S1 := [.inl (-(-(nI x))), .inr (.inr (some (40, 43))), .inl (nI (k - 1) + (-1)), rf v]) (w1 := w00) [(.iload_n 0, 0, 0, 0, 0), (.ineg, 0, 0, 0, 0)] (by decide +kernel) (by decide +kernel) rfl ?_
  rw [show (-(-(nI x)) : Int32) = nI x from Int32.neg_neg]
  refine GB_tb B hDG.2.2 (nI_in (by omega) (by omega)) (by decide +kernel) ?_
  rw [show tn (nI x) = x from nI_clamp (by omega)]
  rw [show (nI (k - 1) + (-1) : Int32) = nI (k - 1 - 1) from nI_m1 (by omega)]
  refine GB_bast B (q0 := 1) rfl (nI_in (by omega) (by omega)) (by decide +kernel) ?_
  rw [show tn (nI (k - 1 - 1)) = k - 1 - 1 from nI_clamp (by omega), nar_T x (by omega)]
  refine GB_run B (w := w00) (P := True) (pc1 := 106) (L1 := [some (.inl (-(nI x))), some (.inl (nI k)), some (rf v), none, none, some (.inl (nI (k - 1 - 1))), some (.inl 0)]) (S1 := [.inl 0]) (w1 := w00) [(.iload 6, 0, 0, 0, 0)] (by decide +kernel) (by decide +kernel) rfl ?_
  refine GB_ifT B (k := .eq) (off := 12) (tgt := 118) (by decide +kernel) (by decide) (show (0 : Int32) = 0 by decide) ?_
  refine GB_run B (w := w00) (P := True) (pc1 := 120) (L1 := [some (.inl (-(nI x))), some (.inl (nI k)), some (rf v), none, none, some (.inl (nI (k - 1 - 1))), some (.inl 0)]) (S1 := [.inl (nI (k - 1 - 1))]) (w1 := w00) [(.iload 5, 0, 0, 0, 0)] (by decide +kernel) (by decide +kernel) rfl ?_
  exact GB_iret B rfl (by decide +kernel) ⟨_, rfl, rfl⟩
theorem b_appI {l : Launch} {X : XC} {Y : YC} (hX : XB X Y) {b v c n : Nat} {f : Nat → Int32} {x nd c1 mcE msE : Nat} {f1 f2 : Nat → Int32} (hSz : ∀ {ws : va_W}, MtB l X Y 0 yJ6_stringSize_0f7a4 cJ6_stringSize_0f7a4 4 (some .int) [.inl (nI x)] 0 0 ws (fun v9 ws9 => v9 = some (.inl (nI nd)) ∧ ws9 = ws)) (hE : MtB l X Y 3 yJ5_ensureCapacityInternal_d00df cJ5_ensureCapacityInternal_d00df 3 none [rf b, .inl (nI (n + nd))] mcE msE (ws2 Y b v c n f) (fun v9 ws9 => v9 = none ∧ ∃ v1, ws9 = ws2 Y b v1 c1 n f1)) (hC : ∀ v1, MtB l X Y 0 yJ6_getChars_ba4f3 cJ6_getChars_ba4f3 7 (some .int) [.inl (nI x), .inl (nI (n + nd)), rf v1] 0 0 (ws2 Y b v1 c1 n f1) (fun v9 ws9 => ∃ r, v9 = some (.inl r) ∧ ws9 = ws2 Y b v1 c1 n f2)) : MtB l X Y 4 yJ5_append_c97b9 cJ5_append_c97b9 4 (some (.object "java/lang/AbstractStringBuilder")) [rf b, .inl (nI x)] mcE msE (ws2 Y b v c n f) (fun v9 ws9 => v9 = some (rf b) ∧ ∃ v1, ws9 = ws2 Y b v1 c1 (n + nd) f2) := by
  refine MtB_of (mi := ((RJ5, cJ5_append_c97b9, 4, (some (.object "java/lang/AbstractStringBuilder")), [], [], []))) hX (mikE _ _ _ _) me_J5_append_c97b9 rfl (Nat.le_of_ble_eq_true rfl) ?_
  intro p_ e_ s_ m_ args_ below_ meth_ c_ B hnm
  refine GB_run B (w := w00) (P := True) (pc1 := 1) (L1 := [some (rf b), some (.inl (nI x)), none, none]) (S1 := [rf b]) (w1 := w00) [(.aload_n 0, 0, 0, 0, 0)] (by decide +kernel) (by decide +kernel) rfl ?_
  refine GB_get B (q0 := 0) (k := 3) (v := .inl (nI n)) rfl (by decide) fl_J5_79 rfl (by decide +kernel) ?_
  refine GB_run B (w := w00) (P := True) (pc1 := 7) (L1 := [some (rf b), some (.inl (nI x)), some (.inl (nI n)), none]) (S1 := [.inl (nI x), .inl (nI n)]) (w1 := w00) [(.istore_n 2, 0, 0, 0, 0), (.iload_n 2, 0, 0, 0, 0), (.iload_n 1, 0, 0, 0, 0)] (by decide +kernel) (by decide +kernel) rfl ?_
  refine GB_callS B (As := [.inl (nI x)]) (S := [.inl (nI n)]) (hSz) ⟨me_J6_stringSize_0f7a4, ms_J6_stringSize_0f7a4, lk_J5_245⟩ (by decide +kernel) rfl ⟨Nat.le_of_ble_eq_true rfl, Nat.le_of_ble_eq_true rfl⟩ ⟨by simp, by simp⟩ (Nat.le_of_ble_eq_true rfl) (fun v9 ws9 h9 => ?_)
  obtain ⟨rfl, rfl⟩ := h9
  refine GB_run B (w := w00) (P := True) (pc1 := 11) (L1 := [some (rf b), some (.inl (nI x)), some (.inl (nI n)), none]) (S1 := [.inl (nI n + nI nd)]) (w1 := w00) [(.iadd, 0, 0, 0, 0)] (by decide +kernel) (by decide +kernel) rfl ?_
  rw [show (nI n + nI nd : Int32) = nI (n + nd) from nI_add _ _]
  refine GB_run B (w := w00) (P := True) (pc1 := 14) (L1 := [some (rf b), some (.inl (nI x)), some (.inl (nI n)), some (.inl (nI (n + nd)))]) (S1 := [.inl (nI (n + nd)), rf b]) (w1 := w00) [(.istore_n 3, 0, 0, 0, 0), (.aload_n 0, 0, 0, 0, 0), (.iload_n 3, 0, 0, 0, 0)] (by decide +kernel) (by decide +kernel) rfl ?_
  refine GB_callP B (q0 := 0) (As := [.inl (nI (n + nd))]) (S := []) rfl (hE) me_J5_ensureCapacityInternal_d00df mi_J5_ensureCapacityInternal_d00df pv_J5_ensureCapacityInternal_d00df lk_J5_100 sm_J5_ensureCapacityInternal_d00df (by decide +kernel) rfl ⟨Nat.le_of_ble_eq_true rfl, Nat.le_of_ble_eq_true rfl⟩ ⟨by simp, by simp⟩ (Nat.le_of_ble_eq_true rfl) (fun v9 ws9 h9 => ?_)
  obtain ⟨rfl, v1, rfl⟩ := h9
  refine GB_run B (w := w00) (P := True) (pc1 := 18) (L1 := [some (rf b), some (.inl (nI x)), some (.inl (nI n)), some (.inl (nI (n + nd)))]) (S1 := [rf b]) (w1 := w00) [(.aload_n 0, 0, 0, 0, 0)] (by decide +kernel) (by decide +kernel) rfl ?_
  refine GB_callU B (q0 := 0) (As := []) (S := []) rfl (b_isLatin1 hX) me_J5_isLatin1_aae02 mi_J5_isLatin1_aae02 lk_J5_83 sm_J5_isLatin1_aae02 se_J5_isLatin1_aae02 (by decide +kernel) rfl ⟨Nat.le_of_ble_eq_true rfl, Nat.le_of_ble_eq_true rfl⟩ ⟨by simp, by simp⟩ (Nat.le_of_ble_eq_true rfl) (fun v9 ws9 h9 => ?_)
  obtain ⟨rfl, rfl⟩ := h9
  refine GB_ifF B (k := .eq) (off := 16) (tgt := 37) (by decide +kernel) (by decide) (show ¬ ((1 : Int32) = 0) by decide) ?_
  refine GB_run B (w := w00) (P := True) (pc1 := 27) (L1 := [some (rf b), some (.inl (nI x)), some (.inl (nI n)), some (.inl (nI (n + nd)))]) (S1 := [rf b, .inl (nI (n + nd)), .inl (nI x)]) (w1 := w00) [(.iload_n 1, 0, 0, 0, 0), (.iload_n 3, 0, 0, 0, 0), (.aload_n 0, 0, 0, 0, 0)] (by decide +kernel) (by decide +kernel) rfl ?_
  refine GB_get B (q0 := 0) (k := 0) (v := rf v1) rfl (by decide) fl_J5_15 (congrArg some (B.rf v1)).symm (by decide +kernel) ?_
  refine GB_callS B (As := [.inl (nI x), .inl (nI (n + nd)), rf v1]) (S := []) (hC v1) ⟨me_J6_getChars_ba4f3, ms_J6_getChars_ba4f3, lk_J5_248⟩ (by decide +kernel) rfl ⟨Nat.le_of_ble_eq_true rfl, Nat.le_of_ble_eq_true rfl⟩ ⟨by simp, by simp⟩ (Nat.le_of_ble_eq_true rfl) (fun v9 ws9 h9 => ?_)
  obtain ⟨r, rfl, rfl⟩ := h9
  refine GB_run B (w := w00) (P := True) (pc1 := 50) (L1 := [some (rf b), some (.inl (nI x)), some (.inl (nI n)), some (.inl (nI (n + nd)))]) (S1 := [.inl (nI (n + nd)), rf b]) (w1 := w00) [(.pop, 0, 0, 0, 0), (.goto 14, 0, 0, 0, 0), (.aload_n 0, 0, 0, 0, 0), (.iload_n 3, 0, 0, 0, 0)] (by decide +kernel) (by decide +kernel) rfl ?_
  refine GB_put B (q0 := 0) (k := 3) (v := .inl (nI (n + nd))) rfl (by decide) fl_J5_79 rfl rfl rfl (by decide +kernel) ?_
  refine GB_run B (w := w00) (P := True) (pc1 := 54) (L1 := [some (rf b), some (.inl (nI x)), some (.inl (nI n)), some (.inl (nI (n + nd)))]) (S1 := [rf b]) (w1 := w00) [(.aload_n 0, 0, 0, 0, 0)] (by decide +kernel) (by decide +kernel) rfl ?_
  refine GB_wid (k := mcE) (n := msE) (by simp) (by simp) ?_
  exact GB_aret B rfl (Or.inl ⟨_, rfl⟩) (by decide +kernel) ⟨rfl, v1, rfl⟩
theorem b4_appS {l : Launch} {X : XC} {Y : YC} (hX : XB X Y) {b v c n : Nat} {f : Nat → Int32} {i : Nat} {mcE msE : Nat} {Q9 : va_W → Prop} (hA : MtB l X Y 4 yJ5_append_cf1ce cJ5_append_cf1ce 3 (some (.object "java/lang/AbstractStringBuilder")) [rf b, .inr (.inr (some (40, i)))] mcE msE (ws2 Y b v c n f) (fun v9 ws9 => v9 = some (rf b) ∧ Q9 ws9)) : MtB l X Y 5 yJ4_append_15ec4 cJ4_append_15ec4 2 (some (.object "java/lang/StringBuilder")) [rf b, .inr (.inr (some (40, i)))] mcE msE (ws2 Y b v c n f) (fun v9 ws9 => v9 = some (rf b) ∧ Q9 ws9) := by
  refine MtB_of (mi := ((RJ4, cJ4_append_15ec4, 2, (some (.object "java/lang/StringBuilder")), [], [], []))) hX (mikE _ _ _ _) me_J4_append_15ec4 rfl (Nat.le_of_ble_eq_true rfl) ?_
  intro p_ e_ s_ m_ args_ below_ meth_ c_ B hnm
  refine GB_run B (w := w00) (P := True) (pc1 := 2) (L1 := [some (rf b), some (.inr (.inr (some (40, i))))]) (S1 := [.inr (.inr (some (40, i))), rf b]) (w1 := w00) [(.aload_n 0, 0, 0, 0, 0), (.aload_n 1, 0, 0, 0, 0)] (by decide +kernel) (by decide +kernel) rfl ?_
  refine GB_callSU B (q0 := 0) (As := [.inr (.inr (some (40, i)))]) (S := []) rfl (hA) me_J5_append_cf1ce mi_J5_append_cf1ce lk_J4_29 sm_J5_append_cf1ce su_J4 (by decide) (by decide +kernel) rfl ⟨Nat.le_of_ble_eq_true rfl, Nat.le_of_ble_eq_true rfl⟩ ⟨by simp, by simp⟩ (Nat.le_of_ble_eq_true rfl) (fun v9 ws9 h9 => ?_)
  obtain ⟨rfl, h8⟩ := h9
  refine GB_run B (w := w00) (P := True) (pc1 := 7) (L1 := [some (rf b), some (.inr (.inr (some (40, i))))]) (S1 := [rf b]) (w1 := w00) [(.pop, 0, 0, 0, 0), (.aload_n 0, 0, 0, 0, 0)] (by decide +kernel) (by decide +kernel) rfl ?_
  refine GB_wid (k := mcE) (n := msE) (by simp) (by simp) ?_
  exact GB_aret B rfl (Or.inl ⟨_, rfl⟩) (by decide +kernel) ⟨rfl, h8⟩
theorem b4_appI {l : Launch} {X : XC} {Y : YC} (hX : XB X Y) {b v c n : Nat} {f : Nat → Int32} {x : Nat} {mcE msE : Nat} {Q9 : va_W → Prop} (hA : MtB l X Y 4 yJ5_append_c97b9 cJ5_append_c97b9 4 (some (.object "java/lang/AbstractStringBuilder")) [rf b, .inl (nI x)] mcE msE (ws2 Y b v c n f) (fun v9 ws9 => v9 = some (rf b) ∧ Q9 ws9)) : MtB l X Y 5 yJ4_append_bf812 cJ4_append_bf812 2 (some (.object "java/lang/StringBuilder")) [rf b, .inl (nI x)] mcE msE (ws2 Y b v c n f) (fun v9 ws9 => v9 = some (rf b) ∧ Q9 ws9) := by
  refine MtB_of (mi := ((RJ4, cJ4_append_bf812, 2, (some (.object "java/lang/StringBuilder")), [], [], []))) hX (mikE _ _ _ _) me_J4_append_bf812 rfl (Nat.le_of_ble_eq_true rfl) ?_
  intro p_ e_ s_ m_ args_ below_ meth_ c_ B hnm
  refine GB_run B (w := w00) (P := True) (pc1 := 2) (L1 := [some (rf b), some (.inl (nI x))]) (S1 := [.inl (nI x), rf b]) (w1 := w00) [(.aload_n 0, 0, 0, 0, 0), (.iload_n 1, 0, 0, 0, 0)] (by decide +kernel) (by decide +kernel) rfl ?_
  refine GB_callSU B (q0 := 0) (As := [.inl (nI x)]) (S := []) rfl (hA) me_J5_append_c97b9 mi_J5_append_c97b9 lk_J4_53 sm_J5_append_c97b9 su_J4 (by decide) (by decide +kernel) rfl ⟨Nat.le_of_ble_eq_true rfl, Nat.le_of_ble_eq_true rfl⟩ ⟨by simp, by simp⟩ (Nat.le_of_ble_eq_true rfl) (fun v9 ws9 h9 => ?_)
  obtain ⟨rfl, h8⟩ := h9
  refine GB_run B (w := w00) (P := True) (pc1 := 7) (L1 := [some (rf b), some (.inl (nI x))]) (S1 := [rf b]) (w1 := w00) [(.pop, 0, 0, 0, 0), (.aload_n 0, 0, 0, 0, 0)] (by decide +kernel) (by decide +kernel) rfl ?_
  refine GB_wid (k := mcE) (n := msE) (by simp) (by simp) ?_
  exact GB_aret B rfl (Or.inl ⟨_, rfl⟩) (by decide +kernel) ⟨rfl, h8⟩
theorem b_init5 {l : Launch} {X : XC} {Y : YC} (hX : XB X Y) {b : Nat} : MtB l X Y 1 yJ5_init_d00df cJ5_init_d00df 2 none [rf b, .inl 16] 1 16 [(b, sb0E)] (fun v9 ws9 => v9 = none ∧ ∃ v, ws9 = ws2 Y b v 16 0 (fun _ => 0)) := by
  refine MtB_of (mi := ((RJ5, cJ5_init_d00df, 2, none, [], [], []))) hX (mikE _ _ _ _) me_J5_init_d00df rfl (Nat.le_of_ble_eq_true rfl) ?_
  intro p_ e_ s_ m_ args_ below_ meth_ c_ B hnm
  refine GB_run B (w := w00) (P := True) (pc1 := 1) (L1 := [some (rf b), some (.inl 16)]) (S1 := [rf b]) (w1 := w00) [(.aload_n 0, 0, 0, 0, 0)] (by decide +kernel) (by decide +kernel) rfl ?_
  refine GB_obj B ob_J5 ob_in ob_co ⟨Nat.le_of_ble_eq_true rfl, Nat.le_of_ble_eq_true rfl⟩ (Nat.le_of_ble_eq_true rfl) (by decide +kernel) ?_
  refine GB_compact B (idx := 18) fl_J5_18 (by decide +kernel) ?_
  refine GB_ifF B (k := .eq) (off := 18) (tgt := 25) (by decide +kernel) (by decide) (show ¬ ((1 : Int32) = 0) by decide) ?_
  refine GB_run B (w := w00) (P := True) (pc1 := 12) (L1 := [some (rf b), some (.inl 16)]) (S1 := [.inl 16, rf b]) (w1 := w00) [(.aload_n 0, 0, 0, 0, 0), (.iload_n 1, 0, 0, 0, 0)] (by decide +kernel) (by decide +kernel) rfl ?_
  refine GB_newa B (N' := 16) ar_byte (by decide) (by decide) (by omega) (Nat.le_refl _) (Nat.le_refl _) (by decide +kernel) (fun v => ?_)
  refine GB_put B (q0 := 0) (k := 0) (v := rf v) rfl (by decide) fl_J5_15 (by rw [B.rf]; rfl) (by rw [B.rf]; rfl) rfl (by decide +kernel) ?_
  rw [B.rf]
  refine GB_run B (w := w00) (P := True) (pc1 := 19) (L1 := [some (rf b), some (.inl 16)]) (S1 := [.inl 0, rf b]) (w1 := w00) [(.aload_n 0, 0, 0, 0, 0), (.iconst 0, 0, 0, 0, 0)] (by decide +kernel) (by decide +kernel) rfl ?_
  refine GB_put B (q0 := 0) (k := 1) (v := .inl 0) rfl (by decide) fl_J5_22 rfl rfl rfl (by decide +kernel) ?_
  refine GB_run B (w := w00) (P := True) (pc1 := 38) (L1 := [some (rf b), some (.inl 16)]) (S1 := []) (w1 := w00) [(.goto 16, 0, 0, 0, 0)] (by decide +kernel) (by decide +kernel) rfl ?_
  exact GB_vret B rfl (by decide +kernel) ⟨rfl, v, rfl⟩
theorem b_init4 {l : Launch} {X : XC} {Y : YC} (hX : XB X Y) {b : Nat} : MtB l X Y 2 yJ4_init_da8c8 cJ4_init_da8c8 1 none [rf b] 1 16 [(b, sb0E)] (fun v9 ws9 => v9 = none ∧ ∃ v, ws9 = ws2 Y b v 16 0 (fun _ => 0)) := by
  refine MtB_of (mi := ((RJ4, cJ4_init_da8c8, 1, none, [], [], []))) hX (mikE _ _ _ _) me_J4_init_da8c8 rfl (Nat.le_of_ble_eq_true rfl) ?_
  intro p_ e_ s_ m_ args_ below_ meth_ c_ B hnm
  refine GB_run B (w := w00) (P := True) (pc1 := 3) (L1 := [some (rf b)]) (S1 := [.inl 16, rf b]) (w1 := w00) [(.aload_n 0, 0, 0, 0, 0), (.bipush 16, 0, 0, 16, 0)] (by decide +kernel) (by decide +kernel) rfl ?_
  refine GB_callI B (As := [.inl 16]) (S := []) (b_init5 hX) me_J5_init_d00df mi_J5_init_d00df rfl lk_J4_1 (by decide +kernel) rfl ⟨Nat.le_of_ble_eq_true rfl, Nat.le_of_ble_eq_true rfl⟩ ⟨Nat.le_of_ble_eq_true rfl, Nat.le_of_ble_eq_true rfl⟩ (Nat.le_of_ble_eq_true rfl) (fun v9 ws9 h9 => ?_)
  obtain ⟨rfl, v, rfl⟩ := h9
  exact GB_vret B rfl (by decide +kernel) ⟨rfl, v, rfl⟩
theorem b_getValue {l : Launch} {X : XC} {Y : YC} (hX : XB X Y) {b v n : Nat} {tl : va_W} : MtB l X Y 0 yJ5_getValue_6d5f1 cJ5_getValue_6d5f1 1 (some (.array .byte)) [rf b] 0 0 ((b, sbE v n) :: tl) (fun v9 ws9 => v9 = some (rf v) ∧ ws9 = (b, sbE v n) :: tl) := by
  refine MtB_of (mi := ((RJ5, cJ5_getValue_6d5f1, 1, (some (.array .byte)), [], [], []))) hX (mikE _ _ _ _) me_J5_getValue_6d5f1 rfl (Nat.le_of_ble_eq_true rfl) ?_
  intro p_ e_ s_ m_ args_ below_ meth_ c_ B hnm
  refine GB_run B (w := w00) (P := True) (pc1 := 1) (L1 := [some (rf b)]) (S1 := [rf b]) (w1 := w00) [(.aload_n 0, 0, 0, 0, 0)] (by decide +kernel) (by decide +kernel) rfl ?_
  refine GB_get B (q0 := 0) (k := 0) (v := rf v) rfl (by decide) fl_J5_15 (congrArg some (B.rf v)).symm (by decide +kernel) ?_
  exact GB_aret B rfl (Or.inr ⟨_, rfl⟩) (by decide +kernel) ⟨rfl, rfl⟩
theorem b_len5 {l : Launch} {X : XC} {Y : YC} (hX : XB X Y) {b v n : Nat} {tl : va_W} : MtB l X Y 0 yJ5_length_8abf5 cJ5_length_8abf5 1 (some .int) [rf b] 0 0 ((b, sbE v n) :: tl) (fun v9 ws9 => v9 = some (.inl (nI n)) ∧ ws9 = (b, sbE v n) :: tl) := by
  refine MtB_of (mi := ((RJ5, cJ5_length_8abf5, 1, (some .int), [], [], []))) hX (mikE _ _ _ _) me_J5_length_8abf5 rfl (Nat.le_of_ble_eq_true rfl) ?_
  intro p_ e_ s_ m_ args_ below_ meth_ c_ B hnm
  refine GB_run B (w := w00) (P := True) (pc1 := 1) (L1 := [some (rf b)]) (S1 := [rf b]) (w1 := w00) [(.aload_n 0, 0, 0, 0, 0)] (by decide +kernel) (by decide +kernel) rfl ?_
  refine GB_get B (q0 := 0) (k := 3) (v := .inl (nI n)) rfl (by decide) fl_J5_79 rfl (by decide +kernel) ?_
  exact GB_iret B rfl (by decide +kernel) ⟨rfl, rfl⟩
theorem b_len4 {l : Launch} {X : XC} {Y : YC} (hX : XB X Y) {b v n : Nat} {tl : va_W} : MtB l X Y 1 yJ4_length_8abf5 cJ4_length_8abf5 1 (some .int) [rf b] 0 0 ((b, sbE v n) :: tl) (fun v9 ws9 => v9 = some (.inl (nI n)) ∧ ws9 = (b, sbE v n) :: tl) := by
  refine MtB_of (mi := ((RJ4, cJ4_length_8abf5, 1, (some .int), [], [], []))) hX (mikE _ _ _ _) me_J4_length_8abf5 rfl (Nat.le_of_ble_eq_true rfl) ?_
  intro p_ e_ s_ m_ args_ below_ meth_ c_ B hnm
  refine GB_run B (w := w00) (P := True) (pc1 := 1) (L1 := [some (rf b)]) (S1 := [rf b]) (w1 := w00) [(.aload_n 0, 0, 0, 0, 0)] (by decide +kernel) (by decide +kernel) rfl ?_
  refine GB_callSU B (q0 := 0) (As := []) (S := []) rfl (b_len5 hX) me_J5_length_8abf5 mi_J5_length_8abf5 lk_J4_343 sm_J5_length_8abf5 su_J4 (by decide) (by decide +kernel) rfl ⟨Nat.le_of_ble_eq_true rfl, Nat.le_of_ble_eq_true rfl⟩ ⟨Nat.le_of_ble_eq_true rfl, Nat.le_of_ble_eq_true rfl⟩ (Nat.le_of_ble_eq_true rfl) (fun v9 ws9 h9 => ?_)
  obtain ⟨rfl, rfl⟩ := h9
  exact GB_iret B rfl (by decide +kernel) ⟨rfl, rfl⟩
theorem b_chkLen {l : Launch} {X : XC} {Y : YC} (hX : XB X Y) {n : Nat} (hn : n < 1000) {ws : va_W} : MtB l X Y 0 yJ7_checkLength_df160 cJ7_checkLength_df160 2 none [.inl 0, .inl (nI n)] 0 0 ws (fun v9 ws9 => v9 = none ∧ ws9 = ws) := by
  refine MtB_of (mi := ((RJ7, cJ7_checkLength_df160, 2, none, [], [], []))) hX (mikE _ _ _ _) me_J7_checkLength_df160 rfl (Nat.le_of_ble_eq_true rfl) ?_
  intro p_ e_ s_ m_ args_ below_ meth_ c_ B hnm
  refine GB_run B (w := w00) (P := True) (pc1 := 2) (L1 := [some (.inl 0), some (.inl (nI n))]) (S1 := [.inl 0, .inl (nI n)]) (w1 := w00) [(.iload_n 1, 0, 0, 0, 0), (.iload_n 0, 0, 0, 0, 0)] (by decide +kernel) (by decide +kernel) rfl ?_
  refine GB_icT B (k := .ge) (off := 35) (tgt := 37) (by decide +kernel) (by decide) (nI_pos' (by omega)) ?_
  exact GB_vret B rfl (by decide +kernel) ⟨rfl, rfl⟩
theorem b_rangeB {l : Launch} {X : XC} {Y : YC} (hX : XB X Y) {i c n : Nat} {f : Nat → Int32} (hT : va_T .byte (X.2.2.2.1 i) c (fun j => .int (f j)) (AA X) X.2.2.1 X.2.2.1.heap) (hby : ∀ j, fits .byte (.int (f j)) = true) (hnc : n < c) (hc : c < 1000) : MtB l X Y 1 yJ7_copyOfRangeByte_39247 cJ7_copyOfRangeByte_39247 5 (some (.array .byte)) [.inr (.inr (some (40, i))), .inl 0, .inl (nI n)] 1 n [] (fun v9 ws9 => ∃ z, v9 = some (rf z) ∧ ws9 = [(z, byE Y n (va_cpy f (fun _ => 0) 0 0 n))]) := by
  refine MtB_of (mi := ((RJ7, cJ7_copyOfRangeByte_39247, 5, (some (.array .byte)), [], [], []))) hX (mikE _ _ _ _) me_J7_copyOfRangeByte_39247 rfl (Nat.le_of_ble_eq_true rfl) ?_
  intro p_ e_ s_ m_ args_ below_ meth_ c_ B hnm
  refine GB_run B (w := w00) (P := True) (pc1 := 2) (L1 := [some (.inr (.inr (some (40, i)))), some (.inl 0), some (.inl (nI n)), none, none]) (S1 := [.inl (nI n), .inl 0]) (w1 := w00) [(.iload_n 1, 0, 0, 0, 0), (.iload_n 2, 0, 0, 0, 0)] (by decide +kernel) (by decide +kernel) rfl ?_
  refine GB_callS B (As := [.inl 0, .inl (nI n)]) (S := []) (b_chkLen hX (by omega)) ⟨me_J7_checkLength_df160, ms_J7_checkLength_df160, lk_J7_343⟩ (by decide +kernel) rfl ⟨Nat.le_of_ble_eq_true rfl, Nat.le_of_ble_eq_true rfl⟩ ⟨by simp, by simp⟩ (Nat.le_of_ble_eq_true rfl) (fun v9 ws9 h9 => ?_)
  obtain ⟨rfl, rfl⟩ := h9
  refine GB_run B (w := w00) (P := True) (pc1 := 8) (L1 := [some (.inr (.inr (some (40, i)))), some (.inl 0), some (.inl (nI n)), none, none]) (S1 := [.inl (nI n - 0)]) (w1 := w00) [(.iload_n 2, 0, 0, 0, 0), (.iload_n 1, 0, 0, 0, 0), (.isub, 0, 0, 0, 0)] (by decide +kernel) (by decide +kernel) rfl ?_
  rw [show (nI n - 0 : Int32) = nI n from Int32.sub_zero _]
  refine GB_run B (w := w00) (P := True) (pc1 := 10) (L1 := [some (.inr (.inr (some (40, i)))), some (.inl 0), some (.inl (nI n)), some (.inl (nI n)), none]) (S1 := [.inl (nI n)]) (w1 := w00) [(.istore_n 3, 0, 0, 0, 0), (.iload_n 3, 0, 0, 0, 0)] (by decide +kernel) (by decide +kernel) rfl ?_
  refine GB_newa B (N' := n) ar_byte (nI_pos (by omega)) (nI_clamp (by omega)) (by omega) (Nat.le_refl _) (Nat.le_of_eq (by simp)) (by decide +kernel) (fun z => ?_)
  refine GB_run B (w := w00) (P := True) (pc1 := 20) (L1 := [some (.inr (.inr (some (40, i)))), some (.inl 0), some (.inl (nI n)), some (.inl (nI n)), some (rf z)]) (S1 := [.inr (.inr (some (40, i))), .inl 0, rf z, .inl 0, .inr (.inr (some (40, i)))]) (w1 := w00) [(.astore 4, 0, 0, 0, 0), (.aload_n 0, 0, 0, 0, 0), (.iload_n 1, 0, 0, 0, 0), (.aload 4, 0, 0, 0, 0), (.iconst 0, 0, 0, 0, 0), (.aload_n 0, 0, 0, 0, 0)] (by decide +kernel) (by decide +kernel) rfl ?_
  refine GB_tlen B hT (by decide +kernel) ?_
  refine GB_run B (w := w00) (P := True) (pc1 := 23) (L1 := [some (.inr (.inr (some (40, i)))), some (.inl 0), some (.inl (nI n)), some (.inl (nI n)), some (rf z)]) (S1 := [.inl (nI c - 0), .inl 0, rf z, .inl 0, .inr (.inr (some (40, i)))]) (w1 := w00) [(.iload_n 1, 0, 0, 0, 0), (.isub, 0, 0, 0, 0)] (by decide +kernel) (by decide +kernel) rfl ?_
  rw [show (nI c - 0 : Int32) = nI c from Int32.sub_zero _]
  refine GB_run B (w := w00) (P := True) (pc1 := 24) (L1 := [some (.inr (.inr (some (40, i)))), some (.inl 0), some (.inl (nI n)), some (.inl (nI n)), some (rf z)]) (S1 := [.inl (nI n), .inl (nI c), .inl 0, rf z, .inl 0, .inr (.inr (some (40, i)))]) (w1 := w00) [(.iload_n 3, 0, 0, 0, 0)] (by decide +kernel) (by decide +kernel) rfl ?_
  refine GB_min B mn_l7 mn_st mm_in mn_co ⟨Nat.le_of_ble_eq_true rfl, Nat.le_of_ble_eq_true rfl⟩ ⟨Nat.le_refl _, Nat.le_of_eq (by simp)⟩ (Nat.le_of_ble_eq_true rfl) (by decide +kernel) ?_
  rw [show (if nI n < nI c then nI n else nI c : Int32) = nI n from if_pos (nI_lt (by omega) (by omega))]
  refine GB_copy B (q1 := 0) hT ac_J7 rfl (by decide) (by decide) (nI_pos (by omega)) (by rw [show tn (0 : Int32) = 0 by decide, show tn (nI n) = n from nI_clamp (by omega)]; omega) (by rw [show tn (0 : Int32) = 0 by decide, show tn (nI n) = n from nI_clamp (by omega)]; omega) hby ⟨Nat.le_of_ble_eq_true rfl, Nat.le_of_ble_eq_true rfl⟩ (Nat.le_of_ble_eq_true rfl) (by decide +kernel) ?_
  rw [show tn (0 : Int32) = 0 by decide, show tn (nI n) = n from nI_clamp (by omega)]
  refine GB_run B (w := w00) (P := True) (pc1 := 32) (L1 := [some (.inr (.inr (some (40, i)))), some (.inl 0), some (.inl (nI n)), some (.inl (nI n)), some (rf z)]) (S1 := [rf z]) (w1 := w00) [(.aload 4, 0, 0, 0, 0)] (by decide +kernel) (by decide +kernel) rfl ?_
  refine GB_wid (k := 1) (n := n) (Nat.le_refl _) (Nat.le_of_eq (by simp)) ?_
  exact GB_aret B rfl (Or.inr ⟨_, rfl⟩) (by decide +kernel) ⟨z, rfl, rfl⟩
theorem b_range {l : Launch} {X : XC} {Y : YC} (hX : XB X Y) {i c n : Nat} {f : Nat → Int32} (hT : va_T .byte (X.2.2.2.1 i) c (fun j => .int (f j)) (AA X) X.2.2.1 X.2.2.1.heap) (hby : ∀ j, fits .byte (.int (f j)) = true) (hnc : n < c) (hc : c < 1000) : MtB l X Y 2 yJ7_copyOfRange_39247 cJ7_copyOfRange_39247 3 (some (.array .byte)) [.inr (.inr (some (40, i))), .inl 0, .inl (nI n)] 1 n [] (fun v9 ws9 => ∃ z, v9 = some (rf z) ∧ ws9 = [(z, byE Y n (va_cpy f (fun _ => 0) 0 0 n))]) := by
  refine MtB_of (mi := ((RJ7, cJ7_copyOfRange_39247, 3, (some (.array .byte)), [], [], []))) hX (mikE _ _ _ _) me_J7_copyOfRange_39247 rfl (Nat.le_of_ble_eq_true rfl) ?_
  intro p_ e_ s_ m_ args_ below_ meth_ c_ B hnm
  refine GB_run B (w := w00) (P := True) (pc1 := 1) (L1 := [some (.inr (.inr (some (40, i)))), some (.inl 0), some (.inl (nI n))]) (S1 := [.inl 0]) (w1 := w00) [(.iload_n 1, 0, 0, 0, 0)] (by decide +kernel) (by decide +kernel) rfl ?_
  refine GB_ifF B (k := .ne) (off := 9) (tgt := 10) (by decide +kernel) (by decide) (show ¬ ¬ ((0 : Int32) = 0) by decide) ?_
  refine GB_run B (w := w00) (P := True) (pc1 := 6) (L1 := [some (.inr (.inr (some (40, i)))), some (.inl 0), some (.inl (nI n))]) (S1 := [.inr (.inr (some (40, i))), .inl (nI n)]) (w1 := w00) [(.iload_n 2, 0, 0, 0, 0), (.aload_n 0, 0, 0, 0, 0)] (by decide +kernel) (by decide +kernel) rfl ?_
  refine GB_tlen B hT (by decide +kernel) ?_
  refine GB_icF B (k := .eq) (off := 10) (tgt := 17) (by decide +kernel) (by decide) (fun h => absurd ((nI_eq (by omega) (by omega)).mp h) (by omega)) ?_
  refine GB_run B (w := w00) (P := True) (pc1 := 13) (L1 := [some (.inr (.inr (some (40, i)))), some (.inl 0), some (.inl (nI n))]) (S1 := [.inl (nI n), .inl 0, .inr (.inr (some (40, i)))]) (w1 := w00) [(.aload_n 0, 0, 0, 0, 0), (.iload_n 1, 0, 0, 0, 0), (.iload_n 2, 0, 0, 0, 0)] (by decide +kernel) (by decide +kernel) rfl ?_
  refine GB_callS B (As := [.inr (.inr (some (40, i))), .inl 0, .inl (nI n)]) (S := []) (b_rangeB hX hT hby hnc hc) ⟨me_J7_copyOfRangeByte_39247, ms_J7_copyOfRangeByte_39247, lk_J7_339⟩ (by decide +kernel) rfl ⟨Nat.le_of_ble_eq_true rfl, Nat.le_of_ble_eq_true rfl⟩ ⟨by simp, by simp⟩ (Nat.le_of_ble_eq_true rfl) (fun v9 ws9 h9 => ?_)
  obtain ⟨z, rfl, rfl⟩ := h9
  refine GB_wid (k := 1) (n := n) (Nat.le_refl _) (Nat.le_of_eq (by simp)) ?_
  exact GB_aret B rfl (Or.inr ⟨_, rfl⟩) (by decide +kernel) ⟨z, rfl, rfl⟩
abbrev st0E : va_E := .inr (1, [.null, .int 0, .int 0, .int 0])
abbrev stE (y : Nat) : va_E := .inr (1, [.ref y, .int 0, .int 0, .int 0])
theorem b_strI {l : Launch} {X : XC} {Y : YC} (hX : XB X Y) (hC : xc X + 39 ≤ xb X) {b v c n t : Nat} {f : Nat → Int32} (hby : ∀ j, fits .byte (.int (f j)) = true) (hnc : n < c) (hc : c < 1000) : MtB l X Y 3 yJ0_init_db425 cJ0_init_db425 5 none [rf t, rf b, .inr (.inr none)] 1 n [(b, sbE v n), (v, byE Y c f), (t, st0E)] (fun v9 ws9 => v9 = none ∧ ∃ y, ws9 = [(b, sbE v n), (v, byE Y c f), (t, stE y), (y, byE Y n (va_cpy f (fun _ => 0) 0 0 n))]) := by
  refine MtB_of (mi := ((RJ0, cJ0_init_db425, 5, none, [], [], []))) hX (mikE _ _ _ _) me_J0_init_db425 rfl (Nat.le_of_ble_eq_true rfl) ?_
  intro p_ e_ s_ m_ args_ below_ meth_ c_ B hnm
  refine GB_run B (w := w00) (P := True) (pc1 := 1) (L1 := [some (rf t), some (rf b), some (.inr (.inr none)), none, none]) (S1 := [rf t]) (w1 := w00) [(.aload_n 0, 0, 0, 0, 0)] (by decide +kernel) (by decide +kernel) rfl ?_
  refine GB_obj B ob_J0 ob_in ob_co ⟨Nat.le_of_ble_eq_true rfl, Nat.le_of_ble_eq_true rfl⟩ (Nat.le_of_ble_eq_true rfl) (by decide +kernel) ?_
  refine GB_run B (w := w00) (P := True) (pc1 := 5) (L1 := [some (rf t), some (rf b), some (.inr (.inr none)), none, none]) (S1 := [rf b]) (w1 := w00) [(.aload_n 1, 0, 0, 0, 0)] (by decide +kernel) (by decide +kernel) rfl ?_
  refine GB_callU B (q0 := 0) (As := []) (S := []) rfl (b_getValue hX) me_J5_getValue_6d5f1 mi_J5_getValue_6d5f1 lk_J0_552 sm_J5_getValue_6d5f1 se_J5_getValue_6d5f1 (by decide +kernel) rfl ⟨Nat.le_of_ble_eq_true rfl, Nat.le_of_ble_eq_true rfl⟩ ⟨by simp, by simp⟩ (Nat.le_of_ble_eq_true rfl) (fun v9 ws9 h9 => ?_)
  obtain ⟨rfl, rfl⟩ := h9
  refine GB_run B (w := w00) (P := True) (pc1 := 10) (L1 := [some (rf t), some (rf b), some (.inr (.inr none)), some (rf v), none]) (S1 := [rf b]) (w1 := w00) [(.astore_n 3, 0, 0, 0, 0), (.aload_n 1, 0, 0, 0, 0)] (by decide +kernel) (by decide +kernel) rfl ?_
  refine GB_callO B (q0 := 0) (As := []) (S := []) rfl (b_len4 hX) me_J4_length_8abf5 me_J5_length_8abf5 mi_J4_length_8abf5 mi_J5_length_8abf5 lk_J0_549 sm_J5_length_8abf5 se_J5_length_8abf5 (by decide +kernel) rfl ⟨Nat.le_of_ble_eq_true rfl, Nat.le_of_ble_eq_true rfl⟩ ⟨by simp, by simp⟩ (Nat.le_of_ble_eq_true rfl) (fun v9 ws9 h9 => ?_)
  obtain ⟨rfl, rfl⟩ := h9
  refine GB_run B (w := w00) (P := True) (pc1 := 16) (L1 := [some (rf t), some (rf b), some (.inr (.inr none)), some (rf v), some (.inl (nI n))]) (S1 := [rf b]) (w1 := w00) [(.istore 4, 0, 0, 0, 0), (.aload_n 1, 0, 0, 0, 0)] (by decide +kernel) (by decide +kernel) rfl ?_
  refine GB_callU B (q0 := 0) (As := []) (S := []) rfl (b_isLatin1 hX) me_J5_isLatin1_aae02 mi_J5_isLatin1_aae02 lk_J0_1047 sm_J5_isLatin1_aae02 se_J5_isLatin1_aae02 (by decide +kernel) rfl ⟨Nat.le_of_ble_eq_true rfl, Nat.le_of_ble_eq_true rfl⟩ ⟨by simp, by simp⟩ (Nat.le_of_ble_eq_true rfl) (fun v9 ws9 h9 => ?_)
  obtain ⟨rfl, rfl⟩ := h9
  refine GB_ifF B (k := .eq) (off := 22) (tgt := 41) (by decide +kernel) (by decide) (show ¬ ((1 : Int32) = 0) by decide) ?_
  refine GB_run B (w := w00) (P := True) (pc1 := 24) (L1 := [some (rf t), some (rf b), some (.inr (.inr none)), some (rf v), some (.inl (nI n))]) (S1 := [.inl 0, rf t]) (w1 := w00) [(.aload_n 0, 0, 0, 0, 0), (.iconst 0, 0, 0, 0, 0)] (by decide +kernel) (by decide +kernel) rfl ?_
  refine GB_putF B rfl hnm (q0 := 2) (k := 1) (v := .inl 0) rfl (by decide) fl_J0_15 rfl rfl rfl (by decide +kernel) ?_
  refine GB_run B (w := w00) (P := True) (pc1 := 32) (L1 := [some (rf t), some (rf b), some (.inr (.inr none)), some (rf v), some (.inl (nI n))]) (S1 := [.inl (nI n), .inl 0, rf v, rf t]) (w1 := w00) [(.aload_n 0, 0, 0, 0, 0), (.aload_n 3, 0, 0, 0, 0), (.iconst 0, 0, 0, 0, 0), (.iload 4, 0, 0, 0, 0)] (by decide +kernel) (by decide +kernel) rfl ?_
  refine GB_callZ B (As := [rf v, .inl 0, .inl (nI n)]) (S := [rf t]) (fun H hP hD hk9 => b_range (XB_fz hX hk9) (i := 100 + v) (own_T2 (q0 := 1) hX hC hP hD rfl) hby hnc hc) ⟨me_J7_copyOfRange_39247, ms_J7_copyOfRange_39247, lk_J0_54⟩ (by decide +kernel) rfl ⟨Nat.le_of_ble_eq_true rfl, Nat.le_of_ble_eq_true rfl⟩ ⟨by simp, by simp⟩ (Nat.le_of_ble_eq_true rfl) (fun v9 ws9 h9 => ?_)
  obtain ⟨y, rfl, rfl⟩ := h9
  refine GB_putF B rfl hnm (q0 := 2) (k := 0) (v := rf y) rfl (by decide) fl_J0_9 (by rw [B.rf]; rfl) (by rw [B.rf]; rfl) rfl (by decide +kernel) ?_
  rw [B.rf]
  refine GB_run B (w := w00) (P := True) (pc1 := 97) (L1 := [some (rf t), some (rf b), some (.inr (.inr none)), some (rf v), some (.inl (nI n))]) (S1 := []) (w1 := w00) [(.goto 59, 0, 0, 0, 0)] (by decide +kernel) (by decide +kernel) rfl ?_
  refine GB_wid (k := 1) (n := n) (by simp) (by simp) ?_
  exact GB_vret B rfl (by decide +kernel) ⟨rfl, y, rfl⟩
theorem b_strJ {l : Launch} {X : XC} {Y : YC} (hX : XB X Y) (hC : xc X + 39 ≤ xb X) {b v c n t : Nat} {f : Nat → Int32} (hby : ∀ j, fits .byte (.int (f j)) = true) (hnc : n < c) (hc : c < 1000) : MtB l X Y 4 yJ0_init_81219 cJ0_init_81219 2 none [rf t, rf b] 1 n [(b, sbE v n), (v, byE Y c f), (t, st0E)] (fun v9 ws9 => v9 = none ∧ ∃ y, ws9 = [(b, sbE v n), (v, byE Y c f), (t, stE y), (y, byE Y n (va_cpy f (fun _ => 0) 0 0 n))]) := by
  refine MtB_of (mi := ((RJ0, cJ0_init_81219, 2, none, [], [], []))) hX (mikE _ _ _ _) me_J0_init_81219 rfl (Nat.le_of_ble_eq_true rfl) ?_
  intro p_ e_ s_ m_ args_ below_ meth_ c_ B hnm
  refine GB_run B (w := w00) (P := True) (pc1 := 3) (L1 := [some (rf t), some (rf b)]) (S1 := [.inr (.inr none), rf b, rf t]) (w1 := w00) [(.aload_n 0, 0, 0, 0, 0), (.aload_n 1, 0, 0, 0, 0), (.aconst_null, 0, 0, 0, 0)] (by decide +kernel) (by decide +kernel) rfl ?_
  refine GB_callI B (As := [rf b, .inr (.inr none)]) (S := []) (b_strI hX hC hby hnc hc) me_J0_init_db425 mi_J0_init_db425 rfl lk_J0_489 (by decide +kernel) rfl ⟨Nat.le_of_ble_eq_true rfl, Nat.le_of_ble_eq_true rfl⟩ ⟨by simp, by simp⟩ (Nat.le_of_ble_eq_true rfl) (fun v9 ws9 h9 => ?_)
  obtain ⟨rfl, y, rfl⟩ := h9
  refine GB_wid (k := 1) (n := n) (by simp) (by simp) ?_
  exact GB_vret B rfl (by decide +kernel) ⟨rfl, y, rfl⟩
theorem b_toString {l : Launch} {X : XC} {Y : YC} (hX : XB X Y) (hC : xc X + 39 ≤ xb X) {b v c n : Nat} {f : Nat → Int32} (hby : ∀ j, fits .byte (.int (f j)) = true) (hnc : n < c) (hc : c < 1000) : MtB l X Y 5 yJ4_toString_0e30d cJ4_toString_0e30d 1 (some (.object "java/lang/String")) [rf b] 2 (4 + n) (ws2 Y b v c n f) (fun v9 ws9 => ∃ t y, v9 = some (rf t) ∧ ws9 = [(b, sbE v n), (v, byE Y c f), (t, stE y), (y, byE Y n (va_cpy f (fun _ => 0) 0 0 n))]) := by
  refine MtB_of (mi := ((RJ4, cJ4_toString_0e30d, 1, (some (.object "java/lang/String")), [], [], []))) hX (mikE _ _ _ _) me_J4_toString_0e30d rfl (Nat.le_of_ble_eq_true rfl) ?_
  intro p_ e_ s_ m_ args_ below_ meth_ c_ B hnm
  refine GB_newT B cl_J4_18 is_J0 in_J0 (by simp) (by simp) (by decide +kernel) (fun t => ?_)
  refine GB_run B (w := w00) (P := True) (pc1 := 5) (L1 := [some (rf b)]) (S1 := [rf b, rf t, rf t]) (w1 := w00) [(.dup, 0, 0, 0, 0), (.aload_n 0, 0, 0, 0, 0)] (by decide +kernel) (by decide +kernel) rfl ?_
  refine GB_callI B (As := [rf b]) (S := [rf t]) (b_strJ hX hC hby hnc hc) me_J0_init_81219 mi_J0_init_81219 rfl lk_J4_137 (by decide +kernel) rfl ⟨Nat.le_of_ble_eq_true rfl, Nat.le_of_ble_eq_true rfl⟩ ⟨by simp, by simp⟩ (Nat.le_of_ble_eq_true rfl) (fun v9 ws9 h9 => ?_)
  obtain ⟨rfl, y, rfl⟩ := h9
  refine GB_wid (k := 2) (n := (4 + n)) (by simp) (by simp) ?_
  exact GB_aret B rfl (Or.inl ⟨_, rfl⟩) (by decide +kernel) ⟨t, y, rfl, rfl⟩
