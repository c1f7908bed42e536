theorem tm_st : ∀ q ∈ strA, Cond.stringRef q.1 q.2.1 q.2.2.1 ∈ lw_tbl := by
  intro q hq
  simp only [strA, strT, strL, List.map_cons, List.map_nil, List.cons_append, List.nil_append, List.mem_cons, List.not_mem_nil, or_false] at hq
  rcases hq with rfl | rfl | rfl | rfl | rfl | rfl | rfl | rfl | rfl | rfl | rfl | rfl | rfl | rfl | rfl | rfl | rfl | rfl | rfl
  · exact List.mem_of_getElem? (i := 688) (by decide +kernel)
  · exact List.mem_of_getElem? (i := 695) (by decide +kernel)
  · exact List.mem_of_getElem? (i := 696) (by decide +kernel)
  · exact List.mem_of_getElem? (i := 697) (by decide +kernel)
  · exact List.mem_of_getElem? (i := 698) (by decide +kernel)
  · exact List.mem_of_getElem? (i := 699) (by decide +kernel)
  · exact List.mem_of_getElem? (i := 700) (by decide +kernel)
  · exact List.mem_of_getElem? (i := 701) (by decide +kernel)
  · exact List.mem_of_getElem? (i := 702) (by decide +kernel)
  · exact List.mem_of_getElem? (i := 703) (by decide +kernel)
  · exact List.mem_of_getElem? (i := 704) (by decide +kernel)
  · exact List.mem_of_getElem? (i := 705) (by decide +kernel)
  · exact List.mem_of_getElem? (i := 413) (by decide +kernel)
  · exact List.mem_of_getElem? (i := 557) (by decide +kernel)
  · exact List.mem_of_getElem? (i := 558) (by decide +kernel)
  · exact List.mem_of_getElem? (i := 559) (by decide +kernel)
  · exact List.mem_of_getElem? (i := 560) (by decide +kernel)
  · exact List.mem_of_getElem? (i := 561) (by decide +kernel)
  · exact List.mem_of_getElem? (i := 562) (by decide +kernel)
theorem tm_ix : ∀ q ∈ strA, q.2.2.2 < 19 ∧ tmS q.2.2.2 = Term.string q.1 q.2.1 := by
  intro q hq
  simp only [strA, strT, strL, List.map_cons, List.map_nil, List.cons_append, List.nil_append, List.mem_cons, List.not_mem_nil, or_false] at hq
  rcases hq with rfl | rfl | rfl | rfl | rfl | rfl | rfl | rfl | rfl | rfl | rfl | rfl | rfl | rfl | rfl | rfl | rfl | rfl | rfl <;> exact ⟨by decide, rfl⟩
theorem arr_spec {A : Array Value} {s : State} {ty : FieldType} (h : (Cond.arrayClass ty).before A s = true) : ∃ c : ClassId, ArrOfT s c ty ∧ s.vm.findClass ("[" ++ ty.toString) = some c := by
  obtain ⟨c, k, comp, h1, h2, h3⟩ := Cond.arrayClass_spec h
  exact ⟨c, fun n z => ⟨fun k h => (by cases h), k, h2, comp, h3⟩, h1⟩
theorem st_X {s : State} {b : Nat} (hts : ∀ w ∈ lw_tbl, w.before #[Value.ref b] s = true) (hgv : gvC.before #[Value.ref b] s = true) : ∃ (X : XC) (Y : YC), X.2.2.1 = s ∧ X.2.2.2.2 = b ∧ SU X Y ∧ nstOK X s := by
  have hf := flat_of_before gvC hgv
  let A : Nat → Prop := fun q => (s.heap.size ≤ q ∧ q < s.heap.size + 39) ∨ s.heap.size ≤ q
  have hA : ∀ a : Nat, a < s.heap.size → ¬ A a := fun a h z => by
    rcases z with z | z
    · exact absurd z.1 (Nat.not_le.mpr h)
    · exact absurd z (Nat.not_le.mpr h)
  have h0 : ∀ ci : Nat, ∃ q : ClassId × (Nat → Nat), ci < 6 → u_Kn s (cC ci).1 (cC ci).2.1 (cC ci).2.2 q.1 q.2 := by
    intro ci
    by_cases h : ci < 6
    · obtain ⟨c, f, hk⟩ := u_known hts (cC_in ci h) (hts _ (ins_ok ci h))
      exact ⟨(c, f), fun _ => hk⟩
    · exact ⟨(0, fun _ => 0), fun z => absurd z h⟩
  obtain ⟨g, hg⟩ := Classical.axiomOfChoice h0
  obtain ⟨c4, f4, hk4⟩ := u_known hts inJ4 (hts (Cond.instantiable RJ4 4) (List.mem_of_getElem? (i := 382) (by decide +kernel)))
  obtain ⟨c0, f0, hk0⟩ := u_known hts inJ0 (hts (Cond.instantiable RJ0 4) (List.mem_of_getElem? (i := 568) (by decide +kernel)))
  obtain ⟨cB, hB1, hB2⟩ := arr_spec (hts (Cond.arrayClass .byte) (List.mem_of_getElem? (i := 412) (by decide +kernel)))
  obtain ⟨cI, hI1, hI2⟩ := arr_spec (hts (Cond.arrayClass .int) (List.mem_of_getElem? (i := 218) (by decide +kernel)))
  obtain ⟨cL, hL1, hL2⟩ := arr_spec (hts (Cond.arrayClass .long) (List.mem_of_getElem? (i := 833) (by decide +kernel)))
  have hAO : va_AO "NameThrownBack$Sheet" s := va_AO.of (hts (Cond.arrayOver (.object "NameThrownBack$Sheet")) (List.mem_of_getElem? (i := 306) (by decide +kernel)))
  obtain ⟨comp, cS, kS, o1, o2, o3, o4, o5⟩ := Cond.arrayOver_spec hAO
  obtain ⟨adK, adV, hS, hev⟩ := vk_Sof (args := #[Value.ref b]) (s := s) (N := 19) (tm := tmS) (len := lenS) (byt := bytS) (A := A) (fun i hi => by have := (by decide +kernel : ∀ i, i < 19 → lenS.getD i 0 < 1000) i hi; omega) (fun i hi => hf _ (tm_ex i hi)) (fun i hi => hf _ (tm_co i hi)) (fun i hi => hf _ (tm_ar i hi)) (fun i hi => hf _ (tm_le i hi)) (fun i hi j hj => hf _ (tm_el i hi j hj)) (fun i j hi hj hij => (tm_ne i hi j hj hij).imp (hf _) (hf _)) hA
  have hc : va_Z "java/lang/String" "COMPACT_STRINGS" "Z" (.int 1) A s s.heap := va_Zof (hts (Cond.laysStatic "java/lang/String" "COMPACT_STRINGS" "Z") (List.mem_of_getElem? (i := 391) (by decide +kernel))) (hts (Cond.initialized "java/lang/String") (List.mem_of_getElem? (i := 17) (by decide +kernel))) (va_eqt (hf (Cond.eq (.static "java/lang/String" "COMPACT_STRINGS" "Z") (.int 1)) (by decide +kernel))) hA
  have hq : va_Zq "jdk/internal/util/Preconditions" "SIOOBE_FORMATTER" "Ljava/util/function/BiFunction;" A s s.heap := va_Zqof (hts (Cond.laysStatic "jdk/internal/util/Preconditions" "SIOOBE_FORMATTER" "Ljava/util/function/BiFunction;") (List.mem_of_getElem? (i := 476) (by decide +kernel))) (hts (Cond.initialized "jdk/internal/util/Preconditions") (List.mem_of_getElem? (i := 23) (by decide +kernel))) (hf (Cond.isRef (.static "jdk/internal/util/Preconditions" "SIOOBE_FORMATTER" "Ljava/util/function/BiFunction;")) (by decide +kernel)) hA
  have hT : ∃ t : Nat, va_Z "jdk/internal/util/Preconditions" "SIOOBE_FORMATTER" "Ljava/util/function/BiFunction;" .null A s s.heap ∨ va_Z "jdk/internal/util/Preconditions" "SIOOBE_FORMATTER" "Ljava/util/function/BiFunction;" (.ref t) A s s.heap := by
    rcases hq with h | ⟨t, h⟩
    · exact ⟨0, Or.inl h⟩
    · exact ⟨t, Or.inr h⟩
  obtain ⟨t, hT⟩ := hT
  obtain ⟨dO, eO, hO⟩ := va_Tof (args := #[Value.ref b]) (s := s) (tm := .static "java/lang/Integer" "DigitOnes" "[B") (ty := .byte) (N := 100) (f := fun j => .int (dgO j)) (A := A) (by decide) (hf _ (by decide +kernel)) (va_eqt (hf (Cond.eq (.length (.static "java/lang/Integer" "DigitOnes" "[B")) (.int 100)) (by decide +kernel))) (fun j hj => va_eqt (hf _ (dg_O j hj))) hA
  obtain ⟨dT, eT, hTn⟩ := va_Tof (args := #[Value.ref b]) (s := s) (tm := .static "java/lang/Integer" "DigitTens" "[B") (ty := .byte) (N := 100) (f := fun j => .int (dgT j)) (A := A) (by decide) (hf _ (by decide +kernel)) (va_eqt (hf (Cond.eq (.length (.static "java/lang/Integer" "DigitTens" "[B")) (.int 100)) (by decide +kernel))) (fun j hj => va_eqt (hf _ (dg_T j hj))) hA
  have zO : va_Z "java/lang/Integer" "DigitOnes" "[B" (.ref dO) A s s.heap := va_Zref (hts _ (List.mem_of_getElem? (i := 546) (by decide +kernel))) (hts (Cond.initialized "java/lang/Integer") (List.mem_of_getElem? (i := 25) (by decide +kernel))) eO hA
  have zT : va_Z "java/lang/Integer" "DigitTens" "[B" (.ref dT) A s s.heap := va_Zref (hts _ (List.mem_of_getElem? (i := 548) (by decide +kernel))) (hts (Cond.initialized "java/lang/Integer") (List.mem_of_getElem? (i := 25) (by decide +kernel))) eT hA
  let sa : Nat → Nat := fun i => if i < 19 then adK i else if i < 38 then adV (i - 19) else if i = 38 then t else if i = 42 then dO else if i = 43 then dT else if i = 97 then cL else if i = 98 then s.heap.size else if i = 99 then 0 else i - 100
  have e1 : ∀ i, i < 19 → sa i = adK i := fun i hi => if_pos hi
  have e2 : ∀ i, i < 19 → sa (19 + i) = adV i := fun i hi => by
    show (if 19 + i < 19 then adK (19 + i) else if 19 + i < 38 then adV (19 + i - 19) else _) = adV i
    rw [if_neg (by omega), if_pos (by omega), show 19 + i - 19 = i by omega]
  have e9 : ∀ a, sa (100 + a) = a := fun a => by
    show (if 100 + a < 19 then _ else if 100 + a < 38 then _ else if 100 + a = 38 then _ else if 100 + a = 42 then _ else if 100 + a = 43 then _ else if 100 + a = 97 then _ else if 100 + a = 98 then _ else if 100 + a = 99 then _ else 100 + a - 100) = a
    rw [if_neg (by omega), if_neg (by omega), if_neg (by omega), if_neg (by omega), if_neg (by omega), if_neg (by omega), if_neg (by omega), if_neg (by omega)]
    omega
  refine ⟨((fun ci => (g ci).1, fun ci => (g ci).2), (cI, cS), s, sa, b), ((fun ci => if ci = 0 then c4 else c0, fun ci => if ci = 0 then f4 else f0), cB), rfl, rfl, ⟨⟨⟨⟨fun ci q hq => ?_, fun k q hq => ?_⟩, ⟨fun i hi => ?_, fun i j hi hj he => ?_⟩, hc, hT⟩, ⟨fun ci q hq => ?_, fun k q hq => ?_⟩, e9, fun y hy => Cond.privateMethod_at (hts _ hy)⟩, ⟨⟨zO, hO⟩, zT, hTn⟩, rfl, hAO⟩, ⟨fun a i x h hm => va_Nw.of rfl (hts _ hm), fun q hq => ?_⟩⟩
  · by_cases h : ci < 6
    · have h1 := cC_get ci h
      have h2 : cC ci = q := Option.some.inj (h1.symm.trans hq)
      rw [← h2]
      exact hg ci h
    · rw [List.getElem?_eq_none (by show 6 ≤ ci; omega)] at hq; cases hq
  · match k, hq with
    | 0, hq => cases hq; exact ⟨hI1, hI2⟩
    | 1, hq => cases hq; exact ⟨fun n z => ⟨fun k h => (by cases h), kS, o3, comp, o4⟩, kS, comp, o3, o4, o1, o5⟩
    | 2, hq => cases hq; exact ⟨hL1, hL2⟩
    | k + 3, hq => cases hq
  · show va_O "java/lang/String" (sa i) A s s.heap ∧ va_OF "java/lang/String" "coder" "B" (.int 0) (sa i) A s s.heap ∧ va_OF "java/lang/String" "value" "[B" (.ref (sa (19 + i))) (sa i) A s s.heap ∧ va_T .byte (sa (19 + i)) (lenS.getD i 0) (fun j => .int ((bytS.getD i []).getD j 0)) A s s.heap
    rw [e1 i hi, e2 i hi]
    exact hS.1 i hi
  · have he2 : sa i = sa j := he
    rw [e1 i hi, e1 j hj] at he2
    exact hS.2 i j hi hj he2
  · match ci, hq with
    | 0, hq => cases hq; exact hk4
    | 1, hq => cases hq; exact hk0
    | ci + 2, hq => cases hq
  · match k, hq with
    | 0, hq => cases hq; exact ⟨hB1, hB2⟩
    | k + 1, hq => cases hq
  · obtain ⟨h1, h2⟩ := tm_ix q hq
    have h3 := hev _ h1
    rw [h2] at h3
    show vk_R q.1 q.2.1 q.2.2.1 (sa q.2.2.2) s
    rw [e1 _ h1]
    exact vk_R.of (hts _ (tm_st q hq)) h3
