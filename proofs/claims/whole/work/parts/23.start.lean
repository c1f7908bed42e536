/-! the law's start: the world that stands there -/
theorem ins_ok : ∀ ci, ci < 6 → Cond.instantiable (cC ci).1 (cC ci).2.2 ∈ lw_tbl := fun ci h => match ci, h with
  | 0, _ => List.mem_of_getElem? (i := 130) (by decide +kernel)
  | 1, _ => List.mem_of_getElem? (i := 93) (by decide +kernel)
  | 2, _ => List.mem_of_getElem? (i := 180) (by decide +kernel)
  | 3, _ => List.mem_of_getElem? (i := 69) (by decide +kernel)
  | 4, _ => List.mem_of_getElem? (i := 61) (by decide +kernel)
  | 5, _ => List.mem_of_getElem? (i := 686) (by decide +kernel)
  | n + 6, h => absurd h (by omega)
def tmS (i : Nat) : Term := Term.string RX1 (strT.getD i (0, "", 0)).1
abbrev gvC : Cond := Jvm.Cond.and given_1 narrow_1
theorem tm_ex : ∀ i, i < 12 → Cond.exactly (tmS i) "java/lang/String" ∈ flatC gvC := by decide +kernel
theorem tm_co : ∀ i, i < 12 → Cond.eq (.field (tmS i) "java/lang/String" "coder" "B") (.int 0) ∈ flatC gvC := by decide +kernel
theorem tm_ar : ∀ i, i < 12 → Cond.arrayOf (.field (tmS i) "java/lang/String" "value" "[B") .byte ∈ flatC gvC := by decide +kernel
theorem tm_le : ∀ i, i < 12 → Cond.eq (.length (.field (tmS i) "java/lang/String" "value" "[B")) (.int (Int32.ofNat (lenS.getD i 0))) ∈ flatC gvC := by decide +kernel
theorem tm_el : ∀ i, i < 12 → ∀ j, j < lenS.getD i 0 → Cond.eq (.elem (.field (tmS i) "java/lang/String" "value" "[B") (.int (Int32.ofNat j))) (.int ((bytS.getD i []).getD j 0)) ∈ flatC gvC := by decide +kernel
theorem tm_ne : ∀ i, i < 12 → ∀ j, j < 12 → i ≠ j → Cond.not (Cond.eq (tmS i) (tmS j)) ∈ flatC gvC ∨ Cond.not (Cond.eq (tmS j) (tmS i)) ∈ flatC gvC := by decide +kernel
theorem tm_st : ∀ q ∈ strT, Cond.stringRef RX1 q.1 q.2.1 ∈ lw_tbl := by
  intro q hq
  simp only [strT, List.mem_cons, List.not_mem_nil, or_false] at hq
  rcases hq with rfl | rfl | rfl | rfl | rfl | rfl | rfl | rfl | rfl | rfl | rfl | rfl
  · exact List.mem_of_getElem? (i := 277) (by decide +kernel)
  · exact List.mem_of_getElem? (i := 330) (by decide +kernel)
  · exact List.mem_of_getElem? (i := 331) (by decide +kernel)
  · exact List.mem_of_getElem? (i := 332) (by decide +kernel)
  · exact List.mem_of_getElem? (i := 333) (by decide +kernel)
  · exact List.mem_of_getElem? (i := 334) (by decide +kernel)
  · exact List.mem_of_getElem? (i := 335) (by decide +kernel)
  · exact List.mem_of_getElem? (i := 336) (by decide +kernel)
  · exact List.mem_of_getElem? (i := 337) (by decide +kernel)
  · exact List.mem_of_getElem? (i := 338) (by decide +kernel)
  · exact List.mem_of_getElem? (i := 339) (by decide +kernel)
  · exact List.mem_of_getElem? (i := 340) (by decide +kernel)
theorem tm_ix : ∀ q ∈ strT, q.2.2 < 12 ∧ tmS q.2.2 = Term.string RX1 q.1 := by
  intro q hq
  simp only [strT, List.mem_cons, List.not_mem_nil, or_false] at hq
  rcases hq with rfl | rfl | rfl | rfl | rfl | rfl | rfl | rfl | rfl | rfl | rfl | rfl <;> exact ⟨by decide, rfl⟩
theorem arr_spec {A : Array Value} {s : State} {ty : FieldType} (h : (Cond.arrayClass ty).before A s = true) : ∃ c : ClassId, ArrOfT s c ty ∧ s.vm.findClass ("[" ++ ty.toString) = some c := by
  obtain ⟨c, k, comp, h1, h2, h3⟩ := Cond.arrayClass_spec h
  exact ⟨c, fun n z => ⟨fun k h => (by cases h), k, h2, comp, h3⟩, h1⟩
theorem st_X {s : State} {b : Nat} (hts : ∀ w ∈ lw_tbl, w.before #[Value.ref b] s = true) (hgv : gvC.before #[Value.ref b] s = true) : ∃ X : XC, X.2.2.1 = s ∧ X.2.2.2.2 = b ∧ XOK X ∧ nstOK X s ∧ va_AO "NameThrownBack$Sheet" X.2.2.1 := by
  have hf := flat_of_before gvC hgv
  have hA : ∀ a : Nat, a < s.heap.size → ¬ (fun q : Nat => s.heap.size ≤ q) a := fun a h => Nat.not_le.mpr h
  have h0 : ∀ ci : Nat, ∃ q : ClassId × (Nat → Nat), ci < 6 → u_Kn s (cC ci).1 (cC ci).2.1 (cC ci).2.2 q.1 q.2 := by
    intro ci
    by_cases h : ci < 6
    · obtain ⟨c, f, hk⟩ := u_known hts (cC_in ci h) (hts _ (ins_ok ci h))
      exact ⟨(c, f), fun _ => hk⟩
    · exact ⟨(0, fun _ => 0), fun z => absurd z h⟩
  obtain ⟨g, hg⟩ := Classical.axiomOfChoice h0
  obtain ⟨cI, hI1, hI2⟩ := arr_spec (hts (Cond.arrayClass .int) (List.mem_of_getElem? (i := 91) (by decide +kernel)))
  have hAO : va_AO "NameThrownBack$Sheet" s := va_AO.of (hts (Cond.arrayOver (.object "NameThrownBack$Sheet")) (List.mem_of_getElem? (i := 179) (by decide +kernel)))
  obtain ⟨comp, cS, kS, o1, o2, o3, o4, o5⟩ := Cond.arrayOver_spec hAO
  obtain ⟨adK, adV, hS, hev⟩ := vk_Sof (args := #[Value.ref b]) (s := s) (N := 12) (tm := tmS) (len := lenS) (byt := bytS) (A := fun q : Nat => s.heap.size ≤ q) (fun i hi => by have := lenS_sm i hi; omega) (fun i hi => hf _ (tm_ex i hi)) (fun i hi => hf _ (tm_co i hi)) (fun i hi => hf _ (tm_ar i hi)) (fun i hi => hf _ (tm_le i hi)) (fun i hi j hj => hf _ (tm_el i hi j hj)) (fun i j hi hj hij => (tm_ne i hi j hj hij).imp (hf _) (hf _)) hA
  have hc : va_Z "java/lang/String" "COMPACT_STRINGS" "Z" (.int 1) (fun q : Nat => s.heap.size ≤ q) s s.heap := va_Zof (hts (Cond.laysStatic "java/lang/String" "COMPACT_STRINGS" "Z") (List.mem_of_getElem? (i := 291) (by decide +kernel))) (hts (Cond.initialized "java/lang/String") (List.mem_of_getElem? (i := 55) (by decide +kernel))) (va_eqt (hf (Cond.eq (.static "java/lang/String" "COMPACT_STRINGS" "Z") (.int 1)) (by decide +kernel))) hA
  have hq : va_Zq "jdk/internal/util/Preconditions" "SIOOBE_FORMATTER" "Ljava/util/function/BiFunction;" (fun q : Nat => s.heap.size ≤ q) s s.heap := va_Zqof (hts (Cond.laysStatic "jdk/internal/util/Preconditions" "SIOOBE_FORMATTER" "Ljava/util/function/BiFunction;") (List.mem_of_getElem? (i := 307) (by decide +kernel))) (hts (Cond.initialized "jdk/internal/util/Preconditions") (List.mem_of_getElem? (i := 57) (by decide +kernel))) (hf (Cond.isRef (.static "jdk/internal/util/Preconditions" "SIOOBE_FORMATTER" "Ljava/util/function/BiFunction;")) (by decide +kernel)) hA
  have hT : ∃ t : Nat, va_Z "jdk/internal/util/Preconditions" "SIOOBE_FORMATTER" "Ljava/util/function/BiFunction;" .null (fun q : Nat => s.heap.size ≤ q) s s.heap ∨ va_Z "jdk/internal/util/Preconditions" "SIOOBE_FORMATTER" "Ljava/util/function/BiFunction;" (.ref t) (fun q : Nat => s.heap.size ≤ q) s s.heap := by
    rcases hq with h | ⟨t, h⟩
    · exact ⟨0, Or.inl h⟩
    · exact ⟨t, Or.inr h⟩
  obtain ⟨t, hT⟩ := hT
  let sa : Nat → Nat := fun i => if i < 12 then adK i else if i < 24 then adV (i - 12) else t
  have e1 : ∀ i, i < 12 → sa i = adK i := fun i hi => if_pos hi
  have e2 : ∀ i, i < 12 → sa (12 + i) = adV i := fun i hi => by
    show (if 12 + i < 12 then adK (12 + i) else if 12 + i < 24 then adV (12 + i - 12) else t) = adV i
    rw [if_neg (by omega), if_pos (by omega), show 12 + i - 12 = i by omega]
  have e3 : sa 24 = t := by
    show (if 24 < 12 then adK 24 else if 24 < 24 then adV (24 - 12) else t) = t
    rw [if_neg (by omega), if_neg (by omega)]
  refine ⟨((fun ci => (g ci).1, fun ci => (g ci).2), (cI, cS), s, sa, b), rfl, rfl, ⟨⟨fun ci q hq => ?_, fun k q hq => ?_⟩, ⟨fun i hi => ?_, fun i j hi hj he => ?_⟩, hc, ?_⟩, ⟨fun a i x h hm => va_Nw.of rfl (hts _ hm), fun q hq => ?_⟩, hAO⟩
  · by_cases h : ci < 6
    · have h1 := cC_get ci h
      have h2 : cC ci = q := Option.some.inj (h1.symm.trans hq)
      rw [← h2]
      exact hg ci h
    · rw [List.getElem?_eq_none (by show 6 ≤ ci; omega)] at hq; cases hq
  · match k, hq with
    | 0, hq => cases hq; exact ⟨hI1, hI2⟩
    | 1, hq => cases hq; exact ⟨fun n z => ⟨fun k h => (by cases h), kS, o3, comp, o4⟩, kS, comp, o3, o4, o1, o5⟩
    | k + 2, hq => cases hq
  · show va_O "java/lang/String" (sa i) _ s s.heap ∧ va_OF "java/lang/String" "coder" "B" (.int 0) (sa i) _ s s.heap ∧ va_OF "java/lang/String" "value" "[B" (.ref (sa (12 + i))) (sa i) _ s s.heap ∧ va_T .byte (sa (12 + i)) (lenS.getD i 0) (fun j => .int ((bytS.getD i []).getD j 0)) _ s s.heap
    rw [e1 i hi, e2 i hi]
    exact hS.1 i hi
  · have he2 : sa i = sa j := he
    rw [e1 i hi, e1 j hj] at he2
    exact hS.2 i j hi hj he2
  · show va_Z _ _ _ .null _ s s.heap ∨ va_Z _ _ _ (.ref (sa 24)) _ s s.heap
    rw [e3]; exact hT
  · obtain ⟨h1, h2⟩ := tm_ix q hq
    have h3 := hev _ h1
    rw [h2] at h3
    show vk_R RX1 q.1 q.2.1 (sa q.2.2) s
    rw [e1 _ h1]
    exact vk_R.of (hts _ (tm_st q hq)) h3
