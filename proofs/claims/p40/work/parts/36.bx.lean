/-! build: its text is read; the whole of build -/
theorem aa_rp {X : XC} {pl : Nat → Nat} (h : pl 98 = X.2.2.2.1 98) : AA (rp X pl) = AA X := by
  have h1 : xc (rp X pl) = xc X := h
  funext q
  show ((xc (rp X pl) ≤ q ∧ q < xc (rp X pl) + 39) ∨ xb X ≤ q) = ((xc X ≤ q ∧ q < xc X + 39) ∨ xb X ≤ q)
  rw [h1]
theorem XOK_rp {X : XC} {pl : Nat → Nat} (hX : XOK X) (h : ∀ k, k < 40 → pl k = X.2.2.2.1 k) (h97 : pl 97 = X.2.2.2.1 97) (h98 : pl 98 = X.2.2.2.1 98) : XOK (rp X pl) := by
  have ha := aa_rp h98
  refine ⟨?_, ⟨fun i hi => ?_, fun i j hi hj he => hX.2.1.2 i j hi hj ?_⟩, ?_, ?_⟩
  · show va_K X.1 classes [(X.2.1.1, .int), (X.2.1.2, .object "NameThrownBack$Sheet"), (pl 97, .long)] X.2.2.1
    rw [h97]; exact hX.1
  · rw [ha]
    show va_O "java/lang/String" (pl i) (AA X) X.2.2.1 X.2.2.1.heap ∧ va_OF "java/lang/String" "coder" "B" (.int 0) (pl i) (AA X) X.2.2.1 X.2.2.1.heap ∧ va_OF "java/lang/String" "value" "[B" (.ref (pl (19 + i))) (pl i) (AA X) X.2.2.1 X.2.2.1.heap ∧ va_T .byte (pl (19 + i)) (lenS.getD i 0) (fun j => .int ((bytS.getD i []).getD j 0)) (AA X) X.2.2.1 X.2.2.1.heap
    rw [h i (by omega), h (19 + i) (by omega)]
    exact hX.2.1.1 i hi
  · have h1 : pl i = pl j := he
    rw [h i (by omega), h j (by omega)] at h1
    exact h1
  · rw [ha]; exact hX.2.2.1
  · rw [ha]
    show va_Z _ _ _ .null (AA X) X.2.2.1 X.2.2.1.heap ∨ va_Z _ _ _ (.ref (pl 38)) (AA X) X.2.2.1 X.2.2.1.heap
    rw [h 38 (by omega)]
    exact hX.2.2.2
theorem DG_fz {X : XC} {H : Heap} (hk : KpY X H) (h : DG X) : DG (fz X H) := by
  have hq : ∀ a : Nat, a < X.2.2.1.heap.size → ¬ AA X a → H[a]? = X.2.2.1.heap[a]? := fun a h1 h2 => hk.2 a h1 h2
  have ha := fz_aa hk.1
  exact ⟨⟨((h.1.1.moved (fz_vm X H)).kept hq).narrow ha, h.1.2.fz hk⟩, ((h.2.1.moved (fz_vm X H)).kept hq).narrow ha, h.2.2.fz hk⟩
/-- the text that the builder made, seen as one of the pool -/
theorem strG_of {X0 : XC} {Y : YC} {s : State} {args : Array Value} {H : Heap} {ws : va_W} {n : Nat} {g by0 : Nat → Int32} {t y : Nat} {pl : Nat → Nat} (hts : ∀ w ∈ gtb, w.before args s = true) (hK : va_K Y.1 cl2 (ty2 Y) s) (hal : X0.2.2.1.vm.Alike s.vm) (hP : va_P Y.1 cl2 ws H) (h2 : ws[2]? = some (t, stE y)) (h3 : ws[3]? = some (y, byE Y n g)) (hD : ∀ (k : Nat) (q : Nat × va_E), ws[k]? = some q → xc X0 + 39 ≤ q.1) (hpt : pl 40 = t) (hpy : pl 41 = y) (hp98 : pl 98 = X0.2.2.2.1 98) (hn : n < 1000) (hg : ∀ j, j < n → g j = by0 j) : strG (rp (fz X0 H) pl) 40 41 n by0 := by
  have hs : s.vm.Alike (rp (fz X0 H) pl).2.2.1.vm := hal.symm
  have hA : ∀ (k : Nat) (q : Nat × va_E), ws[k]? = some q → q.1 < H.size → ¬ AA (rp (fz X0 H) pl) q.1 := by
    intro k q hq hlt hz
    rw [aa_rp (X := fz X0 H) hp98] at hz
    have h9 := hD k q hq
    rcases hz with hz | hz
    · have h8 : q.1 < xc X0 + 39 := hz.2
      omega
    · have h8 : H.size ≤ q.1 := hz
      omega
  have lt2 := (hP 2 _ h2).lt
  have lt3 := (hP 3 _ h3).lt
  have hA2 := hA 2 _ h2 lt2
  have hA3 := hA 3 _ h3 lt3
  obtain ⟨r, hc, cell, q1, q2, q3, q4⟩ := hP 2 _ h2
  cases Option.some.inj hc
  obtain ⟨hS, hfc, kC, hkC, hkind⟩ := hK.1 1 _ rfl
  have fld : ∀ k : Nat, k < 4 → ∀ v, [Value.ref y, .int 0, .int 0, .int 0][k]? = some v → va_OF (TJ0 k).1 (TJ0 k).2.1 (TJ0 k).2.2.1 v t (AA (rp (fz X0 H) pl)) s H := by
    intro k hk v hv
    obtain ⟨cf, kf, fi, f, hi, hsl⟩ := hS k hk
    refine ⟨cf, kf, fi, f, cell, hi, (u_facts hfc hkC (u_lays hts (u_gtb inJ0) hk) hi).1, q1, (by rw [q3]; exact fun h => by cases h), ?_, hA2⟩
    rw [hsl, q4 k hk]
    simp [vp_V, hv]
  have e0 := fld 0 (by decide) _ rfl
  have e1 := fld 1 (by decide) _ rfl
  have hcell : H[y]? = some (arrV Y.2 n (fun j => .int (g j))) := hP 3 _ h3
  refine ⟨by decide, by decide, hn, ?_, ?_, ?_, ?_⟩
  · show va_O "java/lang/String" (pl 40) _ _ H
    rw [hpt]
    exact va_O.moved hs ⟨cell, q1, by rw [q3]; rfl, by rw [q2]; exact hfc, hA2⟩
  · show va_OF "java/lang/String" "coder" "B" (.int 0) (pl 40) _ _ H
    rw [hpt]
    exact va_OF.moved hs e1
  · show va_OF "java/lang/String" "value" "[B" (.ref (pl 41)) (pl 40) _ _ H
    rw [hpt, hpy]
    exact va_OF.moved hs e0
  · show va_T .byte (pl 41) n _ _ _ H
    rw [hpy]
    refine va_T.moved hs ⟨_, hcell, ((hK.2 0 _ rfl).1 n (fun j => .int (g j))), (fun e => by cases e), ?_, ?_, ?_, hA3⟩
    · rw [arrV_size]; exact Nat.le_refl _
    · rw [arrV_size]
    · intro j hj; rw [arrV_read _ _ hj, hg j hj]
/-- what the build's frame knows of the text's phase -/
def BV (X0 X : XC) (s : State) : Prop := XOK X ∧ X.2.2.1.vm.Alike s.vm ∧ nstOK X s ∧ ∀ q, AA X q → AA X0 q
section GWx
variable {l : Launch} {X0 X : XC} {Y : YC} {mi : MI} {p : Program} {e : Env} {R : Room} {s : State} {m : MethodId} {args : Array Value} {below : List Frame} {meth : Method} {c : Code} {ce sl : Nat} {Q : State → Prop} {wm : Mem} {pc : Nat} {L : LL} {S : List AV}
theorem GW_xrun {ρ' : Type} {em' : ρ' → Option AV × Mem} {r1 : ρ'} {a : Array Value} {st0 : List AV} (hV : BV X0 X s)
    (hr : ∀ (H : Heap) (locs : List Loc) (ls : Array Slot), Wd X 39 flT wm H → lv_has ls mi.2.2.1 (lvP X 0 L) → va_Run p l e R s m args below meth c H locs ce sl 0 0 (F0 m pc ls (st0.map (cv X))) (S.map (cv X)) (QcW X (fun v n1 fl1 w1 => n1 = 39 ∧ fl1 = flT ∧ (v, w1) = em' r1) a) (AA X))
    (kk : GW l X0 X Y mi p e R s m args below meth c ce sl Q (em' r1).2 (pc + 3) L ((em' r1).1.toList ++ S) []) : GW l X0 X Y mi p e R s m args below meth c ce sl Q wm pc L st0 [] := by
  intro H locs ls hW hP hD hS hl hL T hT XT
  obtain ⟨v0, st₀, t, T', L2, h0, X', hL2, e1, e2, ⟨⟨v, n1, fl1, w1, hv, ⟨rfl, rfl, h3⟩, hW1, -⟩, hz, hk⟩, st⟩ := hr H locs ls hW hl T hT XT
  cases hv
  rw [h0] at hz hk
  have hS1 : va_S (AA X0) s.heap T'.heap (locs ++ L2) := ⟨Nat.le_trans hS.1 (by rw [e1]; exact hz), fun q h1 h2 => by rw [e1, hk q (Nat.lt_of_lt_of_le h1 hS.1) (fun z => h2 (hV.2.2.2 q z))]; exact hS.2.1 q h1 h2, fun q hq => by
      rcases List.mem_append.mp hq with h | h
      · exact hS.2.2 q h
      · exact hV.2.2.2 _ (hL2 q h)⟩
  have h4 : (v.map (cv X)).toList ++ S.map (cv X) = ((em' r1).1.toList ++ S).map (cv X) := by rw [← h3]; cases v <;> simp
  have hW2 : Wd X 39 flT (em' r1).2 T'.heap := by rw [← h3, e1]; exact hW1
  obtain ⟨t2, a1, b1⟩ := kk T'.heap (locs ++ L2) ls hW2 (fun k q hk => by simp at hk) ⟨(fun i j x z hi => by simp at hi), (fun k q hk => by simp at hk)⟩ hS1 hl hL T' rfl X'
  exact ⟨t2, st t2 (by rw [h4]; exact a1), b1⟩
theorem PcX_at (hV : BV X0 X s) {As : List AV} {H : Heap} (hW : Wd X 39 flT wm H) : ∀ U : State, U.heap = H → s.WarmedH U.vm → PcW X 39 flT wm As (As.map (cv X)).toArray U := by
  intro U hU hWm
  exact ⟨rfl, by rw [hU]; exact hW, hV.2.1.trans hWm.alike, fun a2 i x h hm => va_Nw.warmM hWm (hV.2.2.1.1 a2 i x h hm), fun z hz => vk_R.warm hWm (hV.2.2.1.2 z hz)⟩
theorem GW_xS {ρ' : Type} {em' : ρ' → Option AV × Mem} {r1 : ρ'} {f : Option ρ'} {d idx nn : Nat} {y : MethodName} {cc : ByteArray} {maxL : Nat} {ret : Option FieldType} {As : List AV} (hV : BV X0 X s) (B : Bd X0 mi p s m args meth c) (hC : Ct l X d y cc maxL ret em' As 39 flT wm f) (hf1 : f = some r1) (cl : CS mi.1 idx y cc maxL ret nn) (hd : decode mi.2.1 pc = .ok (.invokestatic idx, 3)) (hn : As.length = nn)
    (hR : d + 1 ≤ R.frames ∧ 8 + (maxL + 11) + 64 * d ≤ R.locals) (hf : ce + 0 ≤ R.cells ∧ sl + 0 ≤ R.slots) (hcat : catS S ≤ 8)
    (kk : GW l X0 X Y mi p e R s m args below meth c ce sl Q (em' r1).2 (pc + 3) L ((em' r1).1.toList ++ S) []) : GW l X0 X Y mi p e R s m args below meth c ce sl Q wm pc L (As.reverse ++ S) [] := by
  refine GW_xrun (a := (As.map (cv X)).toArray) hV (fun H locs ls hW hl => ?_) kk
  exact va_runS (own := mi.1) (Ts := gtb) (n := nn) ⟨B.1, B.2.1, B.2.2.1, B.2.2.2.1, B.2.2.2.2.1⟩ (hC hV.1 r1 hf1) ⟨callB_of nn B.2.2.2.2.1 (wsB_in cl.1) rfl rfl rfl (B.hw cl.1.2.1 rfl) (B.hw cl.2.2 rfl) ⟨cl.1.2.2.2.1, cl.1.2.2.2.2⟩ hR, B.hw cl.2.1 rfl⟩ ⟨PcW_blind, PcX_at hV hW⟩ rfl (by rw [List.length_map]; exact hn) hl.1 (by simp) (lv_room (catS_ok hcat)) hd hf
theorem GW_xV {ρ' : Type} {em' : ρ' → Option AV × Mem} {r1 : ρ'} {f : Option ρ'} {d idx nn : Nat} {y : MethodName} {cc : ByteArray} {maxL : Nat} {ret : Option FieldType} {As : List AV} (hV : BV X0 X s) (B : Bd X0 mi p s m args meth c) (hC : Ct l X d y cc maxL ret em' (.inr (.inr (some (4, 0))) :: As) 39 flT wm f) (hf1 : f = some r1) (cl : CV mi.1 idx y cc maxL ret nn) (hcls : y.cls = (cC 4).1) (hd : decode mi.2.1 pc = .ok (.invokevirtual idx, 3)) (hn : As.length = nn)
    (hR : d + 1 ≤ R.frames ∧ 8 + (maxL + 11) + 64 * d ≤ R.locals) (hf : ce + 0 ≤ R.cells ∧ sl + 0 ≤ R.slots) (hcat : catS S ≤ 8)
    (kk : GW l X0 X Y mi p e R s m args below meth c ce sl Q (em' r1).2 (pc + 3) L ((em' r1).1.toList ++ S) []) : GW l X0 X Y mi p e R s m args below meth c ce sl Q wm pc L (As.reverse ++ .inr (.inr (some (4, 0))) :: S) [] := by
  refine GW_xrun (a := (Value.ref (adr X 4 0) :: As.map (cv X)).toArray) hV (fun H locs ls hW hl => ?_) kk
  have hrc : ∃ cell : Cell, H[adr X 4 0]? = some cell ∧ cell.vm.isStatics = false ∧ s.vm.findClass (cC 4).1 = some cell.cls := va_recv (hV.1.1.moved hV.2.1) hW.1 (cC_get 4 (by decide)) ((wl_get hW.2.2.2.1 (show okc 39 4 0 = true by decide +kernel)).trans (by rw [ent_o (by decide)]))
  exact va_runV (own := mi.1) (C := y.cls) (Ts := gtb) (n := nn) ⟨B.1, B.2.1, B.2.2.1, B.2.2.2.1, B.2.2.2.2.1⟩ (hC hV.1 r1 hf1) ⟨callB_of nn B.2.2.2.2.1 (wsB_in cl.1) rfl rfl rfl (B.hw cl.1.2.1 rfl) (B.hw cl.2.2.2 rfl) ⟨cl.1.2.2.2.1, cl.1.2.2.2.2⟩ hR, B.hw cl.2.1 rfl, B.hw cl.2.2.1 rfl⟩ ⟨PcW_blind, by rw [hcls]; exact hrc, PcX_at hV hW⟩ rfl (by rw [List.length_map]; exact hn) hl.1 (by simp; rfl) (lv_room (catS_ok hcat)) hd hf
end GWx
