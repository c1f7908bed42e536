/-! String.length and charAt on the pool's texts -/
theorem fl_J0_38 : Cond.fieldLink RJ0 38 "java/lang/String" "COMPACT_STRINGS" "Z" ∈ lw_tbl := List.mem_of_getElem? (i := 497) (by decide +kernel)
theorem fl_J0_15 : Cond.fieldLink RJ0 15 "java/lang/String" "coder" "B" ∈ lw_tbl := List.mem_of_getElem? (i := 613) (by decide +kernel)
theorem fl_J0_9 : Cond.fieldLink RJ0 9 "java/lang/String" "value" "[B" ∈ lw_tbl := List.mem_of_getElem? (i := 612) (by decide +kernel)
theorem fl_J0_1053 : Cond.fieldLink RJ0 1053 "jdk/internal/util/Preconditions" "SIOOBE_FORMATTER" "Ljava/util/function/BiFunction;" ∈ lw_tbl := List.mem_of_getElem? (i := 475) (by decide +kernel)
theorem mikE (own : String) (cc : ByteArray) (nL : Nat) (ret : Option FieldType) : MIok (own, cc, nL, ret, [], [], []) := ⟨fun _ h => (List.not_mem_nil h).elim, fun _ h => (List.not_mem_nil h).elim, fun _ h => (List.not_mem_nil h).elim⟩
section STRK
variable {l : Launch} {X : XC} {mi : MI} {d : Nat} {ρ : Type} {em : ρ → Option AV × Mem} {n : Nat} {fl : Fl} {E : Option ρ} {pc : Nat} {L : LL} {S : List AV} {w : Mem}
theorem old_at {p : Program} {s : State} {m : MethodId} {args : Array Value} {meth : Method} {c : Code} {H : Heap} {locs : List Loc} (B : Bd X mi p s m args meth c) (hW : Wd X n fl w H) (hS : va_S (AA X) s.heap H locs) : ∀ a : Nat, a < X.2.2.1.heap.size → ¬ (AA X) a → s.heap[a]? = X.2.2.1.heap[a]? := by
  intro a ha hna
  have hxb := B.2.2.2.2.2.2.2.2.2.2.1
  have h1 : a < xb X := ha
  rw [← hS.2.1 a (by omega) hna]
  exact hW.2.2.2.2 a hna
/-- a text: where it lies, where its bytes lie, how many, which -/
def strG (X : XC) (i v len : Nat) (by0 : Nat → Int32) : Prop := i < 50 ∧ v < 50 ∧ len < 1000 ∧ va_O "java/lang/String" (X.2.2.2.1 i) (AA X) X.2.2.1 X.2.2.1.heap ∧ va_OF "java/lang/String" "coder" "B" (.int 0) (X.2.2.2.1 i) (AA X) X.2.2.1 X.2.2.1.heap ∧ va_OF "java/lang/String" "value" "[B" (.ref (X.2.2.2.1 v)) (X.2.2.2.1 i) (AA X) X.2.2.1 X.2.2.1.heap ∧ va_T .byte (X.2.2.2.1 v) len (fun j => .int (by0 j)) (AA X) X.2.2.1 X.2.2.1.heap
theorem str_at {i v len : Nat} {by0 : Nat → Int32} {p : Program} {s : State} {m : MethodId} {args : Array Value} {meth : Method} {c : Code} {H : Heap} {locs : List Loc} (hG : strG X i v len by0) (B : Bd X mi p s m args meth c) (hW : Wd X n fl w H) (hS : va_S (AA X) s.heap H locs) : va_O "java/lang/String" (X.2.2.2.1 i) (AA X) s s.heap ∧ va_OF "java/lang/String" "coder" "B" (.int 0) (X.2.2.2.1 i) (AA X) s s.heap ∧ va_OF "java/lang/String" "value" "[B" (.ref (X.2.2.2.1 v)) (X.2.2.2.1 i) (AA X) s s.heap ∧ va_T .byte (X.2.2.2.1 v) len (fun j => .int (by0 j)) (AA X) s s.heap := by
  obtain ⟨-, -, -, h1, h2, h3, h4⟩ := hG
  have ha := B.2.2.2.2.2.2.2.1
  have hk := old_at B hW hS
  exact ⟨(h1.moved ha).kept hk, (h2.moved ha).kept hk, (h3.moved ha).kept hk, (h4.moved ha).kept hk⟩
theorem strG_pool (hX : XOK X) {i : Nat} (hi : i < 12) : strG X i (19 + i) (lenS.getD i 0) (fun j => (bytS.getD i []).getD j 0) := by
  obtain ⟨h1, h2, h3, h4⟩ := hX.2.1.1 i (by omega)
  exact ⟨by omega, by omega, (by decide +kernel : ∀ i, i < 19 → lenS.getD i 0 < 1000) i (by omega), h1, h2, h3, h4⟩
theorem GE_compact {idx : Nat} (hf : Cond.fieldLink mi.1 idx "java/lang/String" "COMPACT_STRINGS" "Z" ∈ lw_tbl) (hd : decode mi.2.1 pc = .ok (.getstatic idx, 3)) (kk : GE l X mi d em n fl E (pc + 3) L (.inl 1 :: S) w) : GE l X mi d em n fl E pc L S w := by
  intro r hr p e s m args below meth c B H locs ls hW hS hl hL oL oS
  exact va_gets B.1 B.2.1 ((B.2.2.2.2.2.2.2.2.1.2.2.1.moved B.2.2.2.2.2.2.2.1).kept (old_at B hW hS)) hS B.2.2.2.1 (B.hw hf rfl) (fun _ h => h) hd (kk r hr p e s m args below meth c B H locs ls hW hS hl hL oL (List.forall_mem_cons.mpr ⟨rfl, oS⟩))
theorem GE_fmt {idx : Nat} (hf : Cond.fieldLink mi.1 idx "jdk/internal/util/Preconditions" "SIOOBE_FORMATTER" "Ljava/util/function/BiFunction;" ∈ lw_tbl) (hd : decode mi.2.1 pc = .ok (.getstatic idx, 3)) (kk : ∀ q : Option (Nat × Nat), okV n (.inr (.inr q)) = true → GE l X mi d em n fl E (pc + 3) L (.inr (.inr q) :: S) w) : GE l X mi d em n fl E pc L S w := by
  intro r hr p e s m args below meth c B H locs ls hW hS hl hL oL oS
  rcases B.2.2.2.2.2.2.2.2.1.2.2.2 with h | h
  · exact va_gets B.1 B.2.1 ((h.moved B.2.2.2.2.2.2.2.1).kept (old_at B hW hS)) hS B.2.2.2.1 (B.hw hf rfl) (fun _ h => h) hd (kk none rfl r hr p e s m args below meth c B H locs ls hW hS hl hL oL (List.forall_mem_cons.mpr ⟨rfl, oS⟩))
  · exact va_gets B.1 B.2.1 ((h.moved B.2.2.2.2.2.2.2.1).kept (old_at B hW hS)) hS B.2.2.2.1 (B.hw hf rfl) (fun _ h => h) hd (kk (some (40, 38)) rfl r hr p e s m args below meth c B H locs ls hW hS hl hL oL (List.forall_mem_cons.mpr ⟨rfl, oS⟩))
theorem ok40 {n j : Nat} (h : j < 50) : okV n (.inr (.inr (some (40, j)))) = true := by
  show decide (j < 50) = true; exact decide_eq_true h
theorem GE_strval {idx i : Nat} {v0 len : Nat} {by0 : Nat → Int32} (hG : strG X i v0 len by0) (hf : Cond.fieldLink mi.1 idx "java/lang/String" "value" "[B" ∈ lw_tbl) (hd : decode mi.2.1 pc = .ok (.getfield idx, 3)) (kk : GE l X mi d em n fl E (pc + 3) L (.inr (.inr (some (40, v0))) :: S) w) : GE l X mi d em n fl E pc L (.inr (.inr (some (40, i))) :: S) w := by
  intro r hr p e s m args below meth c B H locs ls hW hS hl hL oL oS
  exact vk_getf B.1 B.2.1 (str_at hG B hW hS).2.2.1 hS B.2.2.2.1 (B.hw hf rfl) (fun _ h => h) hd (kk r hr p e s m args below meth c B H locs ls hW hS hl hL oL (List.forall_mem_cons.mpr ⟨ok40 hG.2.1, (List.forall_mem_cons.mp oS).2⟩))
theorem GE_strcoder {idx i : Nat} {v0 len : Nat} {by0 : Nat → Int32} (hG : strG X i v0 len by0) (hf : Cond.fieldLink mi.1 idx "java/lang/String" "coder" "B" ∈ lw_tbl) (hd : decode mi.2.1 pc = .ok (.getfield idx, 3)) (kk : GE l X mi d em n fl E (pc + 3) L (.inl 0 :: S) w) : GE l X mi d em n fl E pc L (.inr (.inr (some (40, i))) :: S) w := by
  intro r hr p e s m args below meth c B H locs ls hW hS hl hL oL oS
  exact vk_getf B.1 B.2.1 (str_at hG B hW hS).2.1 hS B.2.2.2.1 (B.hw hf rfl) (fun _ h => h) hd (kk r hr p e s m args below meth c B H locs ls hW hS hl hL oL (List.forall_mem_cons.mpr ⟨rfl, (List.forall_mem_cons.mp oS).2⟩))
theorem GE_strlen {i : Nat} {v0 len : Nat} {by0 : Nat → Int32} (hG : strG X i v0 len by0) (hd : decode mi.2.1 pc = .ok (.arraylength, 1)) (kk : GE l X mi d em n fl E (pc + 1) L (.inl (nI (len)) :: S) w) : GE l X mi d em n fl E pc L (.inr (.inr (some (40, v0))) :: S) w := by
  intro r hr p e s m args below meth c B H locs ls hW hS hl hL oL oS
  exact va_tlen B.1 B.2.1 (str_at hG B hW hS).2.2.2 hS rfl hd (kk r hr p e s m args below meth c B H locs ls hW hS hl hL oL (List.forall_mem_cons.mpr ⟨rfl, (List.forall_mem_cons.mp oS).2⟩))
theorem GE_strbyte {i : Nat} {x : Int32} {v0 len : Nat} {by0 : Nat → Int32} (hG : strG X i v0 len by0) (hx : inB x (len)) (hd : decode mi.2.1 pc = .ok (.baload, 1)) (kk : GE l X mi d em n fl E (pc + 1) L (.inl (by0 (tn x)) :: S) w) : GE l X mi d em n fl E pc L (.inl x :: .inr (.inr (some (40, v0))) :: S) w := by
  intro r hr p e s m args below meth c B H locs ls hW hS hl hL oL oS
  exact va_tb B.1 B.2.1 (str_at hG B hW hS).2.2.2 hS hx rfl hd (kk r hr p e s m args below meth c B H locs ls hW hS hl hL oL (List.forall_mem_cons.mpr ⟨rfl, (List.forall_mem_cons.mp (List.forall_mem_cons.mp oS).2).2⟩))
theorem GE_ldcS {idx : Nat} (tx : String) (i : Nat) (hm : (mi.1, idx, tx, i) ∈ strA) (hi : i < 19) (hd : decode mi.2.1 pc = .ok (.ldc idx, 2)) (kk : GE l X mi d em n fl E (pc + 2) L (.inr (.inr (some (40, i))) :: S) w) : GE l X mi d em n fl E pc L S w := by
  intro r hr p e s m args below meth c B H locs ls hW hS hl hL oL oS
  have h1 := B.2.2.2.2.2.2.2.2.2.2.2.2 _ hm
  exact va_ldcS B.1 B.2.1 B.2.2.2.1 h1 hd (kk r hr p e s m args below meth c B H locs ls hW hS hl hL oL (List.forall_mem_cons.mpr ⟨ok40 (by omega), oS⟩))
theorem GE_callVs {ρ' : Type} {em' : ρ' → Option AV × Mem} {d' idx nn i maxL : Nat} {y : MethodName} {cc : ByteArray} {ret : Option FieldType} {As : List AV} {f : Option ρ'} {kf : ρ' → Option ρ} {v0 len : Nat} {by0 : Nat → Int32} (hG : strG X i v0 len by0) (hC : Ct l X d' y cc maxL ret em' (.inr (.inr (some (40, i))) :: As) n fl w f) (cl : CV mi.1 idx y cc maxL ret nn) (hcls : y.cls = "java/lang/String") (hd : decode mi.2.1 pc = .ok (.invokevirtual idx, 3)) (hn : As.length = nn) (hdd : d' < d) (hm : maxL ≤ 45) (hcat : catS S ≤ 8)
    (kk : ∀ r, f = some r → GE l X mi d em n fl (kf r) (pc + 3) L ((em' r).1.toList ++ S) (em' r).2) : GE l X mi d em n fl (f.bind kf) pc L (As.reverse ++ .inr (.inr (some (40, i))) :: S) w := by
  intro r hr p e s m args below meth c B
  obtain ⟨r1, h1, h2⟩ := Option.bind_eq_some_iff.mp hr
  have hM := hC B.2.2.2.2.2.2.2.2.1 r1 h1
  have hR := room_d hdd hm
  intro H locs ls hW hS hl hL oL oS
  have hrc : ∃ cell : Cell, H[X.2.2.2.1 i]? = some cell ∧ cell.vm.isStatics = false ∧ s.vm.findClass "java/lang/String" = some cell.cls := by
    obtain ⟨cell, g1, g2, g3, -⟩ := (str_at hG B hW hS).1.kept hS.2.1
    exact ⟨cell, g1, g2, g3⟩
  refine G_call (Qy := fun v n1 fl1 w1 => n1 = n ∧ fl1 = fl ∧ (v, w1) = em' r1) (a := (Value.ref (adr X 40 i) :: As.map (cv X)).toArray) (mc := 0) (ms := 0) (S := S) (fun H2 locs2 ls2 hW2 hl2 oS2 => ?_) (fun v hv => List.mem_append_right _ (List.mem_cons_of_mem _ hv)) (fun _ _ _ _ h => Nat.le_of_eq h.1.symm) (fun v n1 fl1 w1 hq => ?_) H locs ls hW hS hl hL oL oS
  · have hrc2 : ∃ cell : Cell, H2[X.2.2.2.1 i]? = some cell ∧ cell.vm.isStatics = false ∧ s.vm.findClass "java/lang/String" = some cell.cls := by
      obtain ⟨cell, g1, g2, g3⟩ := hrc
      refine ⟨cell, ?_, g2, g3⟩
      have hA : ¬ (AA X) (X.2.2.2.1 i) := by
        obtain ⟨cell0, -, -, -, hA⟩ := hG.2.2.2.1
        exact hA
      rw [hW2.2.2.2.2 _ hA, ← hW.2.2.2.2 _ hA]
      exact g1
    exact va_runV (own := mi.1) (C := y.cls) (Ts := gtb) (n := nn) ⟨B.1, B.2.1, B.2.2.1, B.2.2.2.1, B.2.2.2.2.1⟩ hM ⟨callB_of nn B.2.2.2.2.1 (ws_in B cl.1) rfl rfl rfl (B.hw cl.1.2.1 rfl) (B.hw cl.2.2.2 rfl) ⟨cl.1.2.2.2.1, cl.1.2.2.2.2⟩ hR, B.hw cl.2.1 rfl, B.hw cl.2.2.1 rfl⟩ ⟨PcW_blind, by rw [hcls]; exact hrc2, PcW_at B hW2⟩ rfl (by rw [List.length_map]; exact hn) hl2.1 (by simp; rfl) (lv_room (catS_ok hcat)) hd ⟨Nat.le_refl _, Nat.le_refl _⟩
  · obtain ⟨rfl, rfl, h3⟩ := hq
    have h4 := kk r1 h1 r h2 p e s m args below meth c B
    rw [← h3] at h4
    exact h4
theorem GE_callVsI {d' idx nn i maxL : Nat} {y : MethodName} {cc : ByteArray} {ret : Option FieldType} {As : List AV} {f : Option (Int32 × Mem)} {kf : Int32 × Mem → Option ρ} {v0 len : Nat} {by0 : Nat → Int32} (hG : strG X i v0 len by0) (hC : Ct l X d' y cc maxL ret emI (.inr (.inr (some (40, i))) :: As) n fl w f) (cl : CV mi.1 idx y cc maxL ret nn) (hcls : y.cls = "java/lang/String") (hd : decode mi.2.1 pc = .ok (.invokevirtual idx, 3)) (hn : As.length = nn) (hdd : d' < d) (hm : maxL ≤ 45) (hcat : catS S ≤ 8)
    (kk : ∀ r, f = some r → GE l X mi d em n fl (kf r) (pc + 3) L (.inl r.1 :: S) r.2) : GE l X mi d em n fl (f.bind kf) pc L (As.reverse ++ .inr (.inr (some (40, i))) :: S) w := GE_callVs hG hC cl hcls hd hn hdd hm hcat kk
theorem GE_callVsIp {d' idx nn i maxL : Nat} {y : MethodName} {cc : ByteArray} {ret : Option FieldType} {As : List AV} {v : Int32} {w2 : Mem} {v0 len : Nat} {by0 : Nat → Int32} (hG : strG X i v0 len by0) (hC : Ct l X d' y cc maxL ret emI (.inr (.inr (some (40, i))) :: As) n fl w (some (v, w2))) (cl : CV mi.1 idx y cc maxL ret nn) (hcls : y.cls = "java/lang/String") (hd : decode mi.2.1 pc = .ok (.invokevirtual idx, 3)) (hn : As.length = nn) (hdd : d' < d) (hm : maxL ≤ 45) (hcat : catS S ≤ 8)
    (kk : GE l X mi d em n fl E (pc + 3) L (.inl v :: S) w2) : GE l X mi d em n fl E pc L (As.reverse ++ .inr (.inr (some (40, i))) :: S) w := GE_callVs (kf := fun _ => E) (f := some (v, w2)) hG hC cl hcls hd hn hdd hm hcat (fun r h => by cases h; exact kk)
end STRK
abbrev mm_J0_coder : MI := (RJ0, cJ0_coder_7d493, 1, (some .byte), [], [], [])
theorem pg_J0_coder (l : Launch) (X : XC) {N9 : Nat} (hN : 39 ≤ N9) {i : Nat} {v0 len : Nat} {by0 : Nat → Int32} (hG : strG X i v0 len by0) (w : Mem) : Ct l X 0 yJ0_coder_7d493 cJ0_coder_7d493 1 (some .byte) emI [.inr (.inr (some (40, i)))] N9 flT w (some (0, w)) := by
  refine Ct_of (mi := mm_J0_coder) (mikE _ _ _ _) me_J0_coder_7d493 rfl (okAs_cons (ok40 hG.1) okAs_nil) (Nat.le_of_ble_eq_true rfl) ?_
  refine GE_compact (idx := 38) fl_J0_38 (by decide +kernel) ?_
  refine GE_eq (E1 := if (1 : Int32) = 0 then none else some (0, w)) (by first | exact (if_neg (by decide)).symm | exact (if_pos (by decide)).symm) ?_
  refine GE_if (k := .eq) (off := 10) (tgt := 13) (by decide +kernel) (by decide) (cnd_eq _ _) (fun c => GE_none) (fun c => ?_)
  refine GE_run (flG_T hN) (pc1 := 7) (L1 := [some (.inr (.inr (some (40, i))))]) (S1 := [.inr (.inr (some (40, i)))]) (w1 := w) (P := True) [(.aload_n 0, 0, 0, 0, 0)] (by decide +kernel) rfl trivial ?_
  refine GE_strcoder (idx := 15) hG fl_J0_15 (by decide +kernel) ?_
  refine GE_run (flG_T hN) (pc1 := 14) (L1 := [some (.inr (.inr (some (40, i))))]) (S1 := [.inl 0]) (w1 := w) (P := True) [(.goto 4, 0, 0, 0, 0)] (by decide +kernel) rfl trivial ?_
  exact GE_zret (ty := .byte) rfl (by decide +kernel) (by decide +kernel)
abbrev mm_J0_isLatin1 : MI := (RJ0, cJ0_isLatin1_aae02, 1, (some .boolean), [], [], [])
theorem pg_J0_isLatin1 (l : Launch) (X : XC) {N9 : Nat} (hN : 39 ≤ N9) {i : Nat} {v0 len : Nat} {by0 : Nat → Int32} (hG : strG X i v0 len by0) (w : Mem) : Ct l X 0 yJ0_isLatin1_aae02 cJ0_isLatin1_aae02 1 (some .boolean) emI [.inr (.inr (some (40, i)))] N9 flT w (some (1, w)) := by
  refine Ct_of (mi := mm_J0_isLatin1) (mikE _ _ _ _) me_J0_isLatin1_aae02 rfl (okAs_cons (ok40 hG.1) okAs_nil) (Nat.le_of_ble_eq_true rfl) ?_
  refine GE_compact (idx := 38) fl_J0_38 (by decide +kernel) ?_
  refine GE_eq (E1 := if (1 : Int32) = 0 then none else some (1, w)) (by first | exact (if_neg (by decide)).symm | exact (if_pos (by decide)).symm) ?_
  refine GE_if (k := .eq) (off := 14) (tgt := 17) (by decide +kernel) (by decide) (cnd_eq _ _) (fun c => GE_none) (fun c => ?_)
  refine GE_run (flG_T hN) (pc1 := 7) (L1 := [some (.inr (.inr (some (40, i))))]) (S1 := [.inr (.inr (some (40, i)))]) (w1 := w) (P := True) [(.aload_n 0, 0, 0, 0, 0)] (by decide +kernel) rfl trivial ?_
  refine GE_strcoder (idx := 15) hG fl_J0_15 (by decide +kernel) ?_
  refine GE_eq (E1 := if (0 : Int32) = 0 then some (1, w) else none) (by first | exact (if_neg (by decide)).symm | exact (if_pos (by decide)).symm) ?_
  refine GE_ifN (k := .ne) (off := 7) (tgt := 17) (by decide +kernel) (by decide) (cnd_ne _ _) (fun c => GE_none) (fun c => ?_)
  refine GE_run (flG_T hN) (pc1 := 18) (L1 := [some (.inr (.inr (some (40, i))))]) (S1 := [.inl 1]) (w1 := w) (P := True) [(.iconst 1, 0, 0, 1, 0), (.goto 4, 0, 0, 0, 0)] (by decide +kernel) rfl trivial ?_
  exact GE_zret (ty := .boolean) rfl (by decide +kernel) (by decide +kernel)
abbrev mm_J0_length : MI := (RJ0, cJ0_length_8abf5, 1, (some .int), [], [], [])
theorem lenS_sm : ∀ i, i < 12 → lenS.getD i 0 < 8 := by decide +kernel
theorem pg_J0_length (l : Launch) (X : XC) {N9 : Nat} (hN : 39 ≤ N9) {i : Nat} {v0 len : Nat} {by0 : Nat → Int32} (hG : strG X i v0 len by0) (w : Mem) : Ct l X 1 yJ0_length_8abf5 cJ0_length_8abf5 1 (some .int) emI [.inr (.inr (some (40, i)))] N9 flT w (some (nI (len), w)) := by
  have e1 : some (nI (len), w) = some (shrI (nI (len)) 0, w) := by
    have h := sc_shr0 (n := len) (by have := hG.2.2.1; omega)
    unfold shrI; rw [h]
  rw [e1]
  refine Ct_of (mi := mm_J0_length) (mikE _ _ _ _) me_J0_length_8abf5 rfl (okAs_cons (ok40 hG.1) okAs_nil) (Nat.le_of_ble_eq_true rfl) ?_
  refine GE_run (flG_T hN) (pc1 := 1) (L1 := [some (.inr (.inr (some (40, i))))]) (S1 := [.inr (.inr (some (40, i)))]) (w1 := w) (P := True) [(.aload_n 0, 0, 0, 0, 0)] (by decide +kernel) rfl trivial ?_
  refine GE_strval (idx := 9) hG fl_J0_9 (by decide +kernel) ?_
  refine GE_strlen hG (by decide +kernel) ?_
  refine GE_run (flG_T hN) (pc1 := 6) (L1 := [some (.inr (.inr (some (40, i))))]) (S1 := [.inr (.inr (some (40, i))), .inl (nI (len))]) (w1 := w) (P := True) [(.aload_n 0, 0, 0, 0, 0)] (by decide +kernel) rfl trivial ?_
  refine GE_callVsIp (As := []) (S := [.inl (nI (len))]) hG (pg_J0_coder l X hN hG w) ⟨me_J0_coder_7d493, mi_J0_coder_7d493, mv_J0_coder_7d493, lk_J0_335⟩ rfl (by decide +kernel) rfl (by decide) (by decide) (Nat.le_of_ble_eq_true rfl) ?_
  refine GE_run (flG_T hN) (pc1 := 10) (L1 := [some (.inr (.inr (some (40, i))))]) (S1 := [.inl (shrI (nI (len)) 0)]) (w1 := w) (P := True) [(.ishr, 0, 0, 0, 0)] (by decide +kernel) rfl trivial ?_
  exact GE_iret rfl (by decide +kernel)
abbrev mm_J3_checkIndex : MI := (RJ3, cJ3_checkIndex_8e157, 3, (some .int), [], [], [])
theorem p_J3_checkIndex (l : Launch) (X : XC) {N9 : Nat} (hN : 39 ≤ N9) (a1 a2 : Int32) (q : Option (Nat × Nat)) (hq : okV N9 (.inr (.inr q)) = true) (h0 : ¬ a1 < 0) (h1 : a1 < a2) (w : Mem) : Ct l X 0 yJ3_checkIndex_8e157 cJ3_checkIndex_8e157 3 (some .int) emI [.inl a1, .inl a2, .inr (.inr q)] N9 flT w (some (a1, w)) := by
  have e1 : some (a1, w) = if a1 < 0 then none else if a1 < a2 then some (a1, w) else none := by rw [if_neg h0, if_pos h1]
  rw [e1]
  refine Ct_of (mi := mm_J3_checkIndex) (mikE _ _ _ _) me_J3_checkIndex_8e157 rfl (okAs_cons rfl (okAs_cons rfl (okAs_cons hq okAs_nil))) (Nat.le_of_ble_eq_true rfl) ?_
  refine GE_run (flG_T hN) (pc1 := 1) (L1 := [some (.inl a1), some (.inl a2), some (.inr (.inr q))]) (S1 := [.inl a1]) (w1 := w) (P := True) [(.iload_n 0, 0, 0, 0, 0)] (by decide +kernel) rfl trivial ?_
  refine GE_if (k := .lt) (off := 8) (tgt := 9) (by decide +kernel) (by decide) (cnd_lt _ _) (fun c => GE_none) (fun c => ?_)
  refine GE_run (flG_T hN) (pc1 := 6) (L1 := [some (.inl a1), some (.inl a2), some (.inr (.inr q))]) (S1 := [.inl a2, .inl a1]) (w1 := w) (P := True) [(.iload_n 0, 0, 0, 0, 0), (.iload_n 1, 0, 0, 0, 0)] (by decide +kernel) rfl trivial ?_
  refine GE_icmp (k := .lt) (off := 10) (tgt := 16) (by decide +kernel) (by decide) (cnd_lt _ _) (fun c => ?_) (fun c => GE_none)
  refine GE_run (flG_T hN) (pc1 := 17) (L1 := [some (.inl a1), some (.inl a2), some (.inr (.inr q))]) (S1 := [.inl a1]) (w1 := w) (P := True) [(.iload_n 0, 0, 0, 0, 0)] (by decide +kernel) rfl trivial ?_
  exact GE_iret rfl (by decide +kernel)
abbrev mm_J0_checkIndex : MI := (RJ0, cJ0_checkIndex_df160, 2, none, [], [], [])
theorem p_J0_checkIndex (l : Launch) (X : XC) {N9 : Nat} (hN : 39 ≤ N9) (a1 a2 : Int32) (h0 : ¬ a1 < 0) (h1 : a1 < a2) (w : Mem) : Ct l X 1 yJ0_checkIndex_df160 cJ0_checkIndex_df160 2 none emV [.inl a1, .inl a2] N9 flT w (some w) := by
  refine Ct_of (mi := mm_J0_checkIndex) (mikE _ _ _ _) me_J0_checkIndex_df160 rfl (okAs_cons rfl (okAs_cons rfl okAs_nil)) (Nat.le_of_ble_eq_true rfl) ?_
  refine GE_run (flG_T hN) (pc1 := 2) (L1 := [some (.inl a1), some (.inl a2)]) (S1 := [.inl a2, .inl a1]) (w1 := w) (P := True) [(.iload_n 0, 0, 0, 0, 0), (.iload_n 1, 0, 0, 0, 0)] (by decide +kernel) rfl trivial ?_
  refine GE_fmt (idx := 1053) fl_J0_1053 (by decide +kernel) (fun q hq => ?_)
  refine GE_callSIp (As := [.inl a1, .inl a2, .inr (.inr q)]) (S := []) (p_J3_checkIndex l X hN a1 a2 q hq h0 h1 w) ⟨me_J3_checkIndex_8e157, ms_J3_checkIndex_8e157, lk_J0_1059⟩ (by decide +kernel) rfl (by decide) (by decide) (Nat.le_of_ble_eq_true rfl) ?_
  refine GE_run (flG_T hN) (pc1 := 9) (L1 := [some (.inl a1), some (.inl a2)]) (S1 := []) (w1 := w) (P := True) [(.pop, 0, 0, 0, 0)] (by decide +kernel) rfl trivial ?_
  exact GE_vret rfl (by decide +kernel)
def chB (by0 : Nat → Int32) (k : Int32) : Int32 := ((by0 (tn k) &&& 255).toUInt32 % 65536).toInt32
def chS (i : Nat) (k : Int32) : Int32 := ((((bytS.getD i []).getD (tn k) 0) &&& 255).toUInt32 % 65536).toInt32
theorem inB_lt {x : Int32} {n : Nat} (hn : n < 2000) (h : inB x n) : ¬ x < 0 ∧ x < nI n := by
  have h1 : ¬ x < 0 := fun z => h (Or.inl z)
  have h2 : ¬ n ≤ x.toNatClampNeg := fun z => h (Or.inr z)
  refine ⟨h1, Int32.lt_iff_toInt_lt.mpr ?_⟩
  rw [nI_toInt (by omega)]
  have h3 : ¬ n ≤ x.toInt.toNat := h2
  have h4 : ¬ x.toInt < 0 := fun z => h1 (Int32.lt_iff_toInt_lt.mpr z)
  omega
abbrev mm_J1_charAt : MI := (RJ1, cJ1_charAt_3b067, 2, (some .char), [], [], [])
theorem pg_J1_charAt (l : Launch) (X : XC) {N9 : Nat} (hN : 39 ≤ N9) {i : Nat} {v0 len : Nat} {by0 : Nat → Int32} (hG : strG X i v0 len by0) (a1 : Int32) (hx : inB a1 (len)) (w : Mem) : Ct l X 2 yJ1_charAt_3b067 cJ1_charAt_3b067 2 (some .char) emI [.inr (.inr (some (40, v0))), .inl a1] N9 flT w (some (chB by0 a1, w)) := by
  obtain ⟨h0, h1⟩ := inB_lt (by have := hG.2.2.1; omega) hx
  refine Ct_of (mi := mm_J1_charAt) (mikE _ _ _ _) me_J1_charAt_3b067 rfl (okAs_cons (ok40 hG.2.1) (okAs_cons rfl okAs_nil)) (Nat.le_of_ble_eq_true rfl) ?_
  refine GE_run (flG_T hN) (pc1 := 2) (L1 := [some (.inr (.inr (some (40, v0)))), some (.inl a1)]) (S1 := [.inr (.inr (some (40, v0))), .inl a1]) (w1 := w) (P := True) [(.iload_n 1, 0, 0, 0, 0), (.aload_n 0, 0, 0, 0, 0)] (by decide +kernel) rfl trivial ?_
  refine GE_strlen hG (by decide +kernel) ?_
  refine GE_callSVp (As := [.inl a1, .inl (nI (len))]) (S := []) (p_J0_checkIndex l X hN a1 (nI (len)) h0 h1 w) ⟨me_J0_checkIndex_df160, ms_J0_checkIndex_df160, lk_J1_9⟩ (by decide +kernel) rfl (by decide) (by decide) (Nat.le_of_ble_eq_true rfl) ?_
  refine GE_run (flG_T hN) (pc1 := 8) (L1 := [some (.inr (.inr (some (40, v0)))), some (.inl a1)]) (S1 := [.inl a1, .inr (.inr (some (40, v0)))]) (w1 := w) (P := True) [(.aload_n 0, 0, 0, 0, 0), (.iload_n 1, 0, 0, 0, 0)] (by decide +kernel) rfl trivial ?_
  refine GE_strbyte hG hx (by decide +kernel) ?_
  refine GE_run (flG_T hN) (pc1 := 14) (L1 := [some (.inr (.inr (some (40, v0)))), some (.inl a1)]) (S1 := [.inl (chB by0 a1)]) (w1 := w) (P := True) [(.sipush 255, 0, 0, 255, 0), (.iand, 0, 0, 0, 0), (.i2c, 0, 0, 0, 0)] (by decide +kernel) rfl trivial ?_
  exact GE_zret (ty := .char) rfl (by unfold chB; rw [sc_c2]; exact sc_nar _) (by decide +kernel)
abbrev mm_J0_charAt : MI := (RJ0, cJ0_charAt_5068e, 2, (some .char), [], [], [])
theorem pg_J0_charAt (l : Launch) (X : XC) {N9 : Nat} (hN : 39 ≤ N9) {i : Nat} {v0 len : Nat} {by0 : Nat → Int32} (hG : strG X i v0 len by0) (a1 : Int32) (hx : inB a1 (len)) (w : Mem) : Ct l X 3 yJ0_charAt_5068e cJ0_charAt_5068e 2 (some .char) emI [.inr (.inr (some (40, i))), .inl a1] N9 flT w (some (chB by0 a1, w)) := by
  refine Ct_of (mi := mm_J0_charAt) (mikE _ _ _ _) me_J0_charAt_5068e rfl (okAs_cons (ok40 hG.1) (okAs_cons rfl okAs_nil)) (Nat.le_of_ble_eq_true rfl) ?_
  refine GE_run (flG_T hN) (pc1 := 1) (L1 := [some (.inr (.inr (some (40, i)))), some (.inl a1)]) (S1 := [.inr (.inr (some (40, i)))]) (w1 := w) (P := True) [(.aload_n 0, 0, 0, 0, 0)] (by decide +kernel) rfl trivial ?_
  refine GE_callVsIp (As := []) (S := []) hG (pg_J0_isLatin1 l X hN hG w) ⟨me_J0_isLatin1_aae02, mi_J0_isLatin1_aae02, mv_J0_isLatin1_aae02, lk_J0_492⟩ rfl (by decide +kernel) rfl (by decide) (by decide) (Nat.le_of_ble_eq_true rfl) ?_
  refine GE_eq (E1 := if (1 : Int32) = 0 then none else some (chB by0 a1, w)) (if_neg (by decide)).symm ?_
  refine GE_if (k := .eq) (off := 12) (tgt := 16) (by decide +kernel) (by decide) (cnd_eq _ _) (fun c => GE_none) (fun c => ?_)
  refine GE_run (flG_T hN) (pc1 := 8) (L1 := [some (.inr (.inr (some (40, i)))), some (.inl a1)]) (S1 := [.inr (.inr (some (40, i)))]) (w1 := w) (P := True) [(.aload_n 0, 0, 0, 0, 0)] (by decide +kernel) rfl trivial ?_
  refine GE_strval (idx := 9) hG fl_J0_9 (by decide +kernel) ?_
  refine GE_run (flG_T hN) (pc1 := 12) (L1 := [some (.inr (.inr (some (40, i)))), some (.inl a1)]) (S1 := [.inl a1, .inr (.inr (some (40, v0)))]) (w1 := w) (P := True) [(.iload_n 1, 0, 0, 0, 0)] (by decide +kernel) rfl trivial ?_
  refine GE_callSIp (As := [.inr (.inr (some (40, v0))), .inl a1]) (S := []) (pg_J1_charAt l X hN hG a1 hx w) ⟨me_J1_charAt_3b067, ms_J1_charAt_3b067, lk_J0_495⟩ (by decide +kernel) rfl (by decide) (by decide) (Nat.le_of_ble_eq_true rfl) ?_
  exact GE_zret (ty := .char) rfl (by unfold chB; rw [sc_c2]; exact sc_nar _) (by decide +kernel)
theorem p_J0_length (l : Launch) (X : XC) {N9 : Nat} (hN : 39 ≤ N9) (i : Nat) (hi : i < 12) (w : Mem) : Ct l X 1 yJ0_length_8abf5 cJ0_length_8abf5 1 (some .int) emI [.inr (.inr (some (40, i)))] N9 flT w (some (nI (lenS.getD i 0), w)) := fun hX => pg_J0_length l X hN (strG_pool hX hi) w hX
theorem p_J0_charAt (l : Launch) (X : XC) {N9 : Nat} (hN : 39 ≤ N9) (i : Nat) (hi : i < 12) (a1 : Int32) (hx : inB a1 (lenS.getD i 0)) (w : Mem) : Ct l X 3 yJ0_charAt_5068e cJ0_charAt_5068e 2 (some .char) emI [.inr (.inr (some (40, i))), .inl a1] N9 flT w (some (chS i a1, w)) := fun hX => pg_J0_charAt l X hN (strG_pool hX hi) a1 hx w hX
theorem GE_lenP {l : Launch} {X : XC} {mi : MI} {d : Nat} {ρ : Type} {em : ρ → Option AV × Mem} {N9 : Nat} {E : Option ρ} {pc idx i : Nat} {L : LL} {S : List AV} {w : Mem} (hN : 39 ≤ N9) (hi : i < 12) (cl : CV mi.1 idx yJ0_length_8abf5 cJ0_length_8abf5 1 (some .int) 0) (hd : decode mi.2.1 pc = .ok (.invokevirtual idx, 3)) (hdd : 1 < d) (hcat : catS S ≤ 8) (kk : GE l X mi d em N9 flT E (pc + 3) L (.inl (nI (lenS.getD i 0)) :: S) w) : GE l X mi d em N9 flT E pc L (.inr (.inr (some (40, i))) :: S) w :=
  fun r hr p e s m args below meth c B => GE_callVsIp (As := []) (strG_pool B.2.2.2.2.2.2.2.2.1 hi) (p_J0_length l X hN i hi w) cl rfl hd rfl hdd (by decide) hcat kk r hr p e s m args below meth c B
theorem GE_chrP {l : Launch} {X : XC} {mi : MI} {d : Nat} {ρ : Type} {em : ρ → Option AV × Mem} {N9 : Nat} {E : Option ρ} {pc idx i : Nat} {L : LL} {S : List AV} {w : Mem} {a1 : Int32} (hN : 39 ≤ N9) (hi : i < 12) (hx : inB a1 (lenS.getD i 0)) (cl : CV mi.1 idx yJ0_charAt_5068e cJ0_charAt_5068e 2 (some .char) 1) (hd : decode mi.2.1 pc = .ok (.invokevirtual idx, 3)) (hdd : 3 < d) (hcat : catS S ≤ 8) (kk : GE l X mi d em N9 flT E (pc + 3) L (.inl (chS i a1) :: S) w) : GE l X mi d em N9 flT E pc L (.inl a1 :: .inr (.inr (some (40, i))) :: S) w :=
  fun r hr p e s m args below meth c B => GE_callVsIp (As := [.inl a1]) (strG_pool B.2.2.2.2.2.2.2.2.1 hi) (p_J0_charAt l X hN i hi a1 hx w) cl rfl hd rfl hdd (by decide) hcat kk r hr p e s m args below meth c B
theorem GE_lenG {l : Launch} {X : XC} {mi : MI} {d : Nat} {ρ : Type} {em : ρ → Option AV × Mem} {N9 : Nat} {E : Option ρ} {pc idx i v0 len : Nat} {by0 : Nat → Int32} {L : LL} {S : List AV} {w : Mem} (hN : 39 ≤ N9) (hG : strG X i v0 len by0) (cl : CV mi.1 idx yJ0_length_8abf5 cJ0_length_8abf5 1 (some .int) 0) (hd : decode mi.2.1 pc = .ok (.invokevirtual idx, 3)) (hdd : 1 < d) (hcat : catS S ≤ 8) (kk : GE l X mi d em N9 flT E (pc + 3) L (.inl (nI len) :: S) w) : GE l X mi d em N9 flT E pc L (.inr (.inr (some (40, i))) :: S) w :=
  GE_callVsIp (As := []) hG (pg_J0_length l X hN hG w) cl rfl hd rfl hdd (by decide) hcat kk
theorem GE_chrG {l : Launch} {X : XC} {mi : MI} {d : Nat} {ρ : Type} {em : ρ → Option AV × Mem} {N9 : Nat} {E : Option ρ} {pc idx i v0 len : Nat} {by0 : Nat → Int32} {L : LL} {S : List AV} {w : Mem} {a1 : Int32} (hN : 39 ≤ N9) (hG : strG X i v0 len by0) (hx : inB a1 len) (cl : CV mi.1 idx yJ0_charAt_5068e cJ0_charAt_5068e 2 (some .char) 1) (hd : decode mi.2.1 pc = .ok (.invokevirtual idx, 3)) (hdd : 3 < d) (hcat : catS S ≤ 8) (kk : GE l X mi d em N9 flT E (pc + 3) L (.inl (chB by0 a1) :: S) w) : GE l X mi d em N9 flT E pc L (.inl a1 :: .inr (.inr (some (40, i))) :: S) w :=
  GE_callVsIp (As := [.inl a1]) hG (pg_J0_charAt l X hN hG a1 hx w) cl rfl hd rfl hdd (by decide) hcat kk
