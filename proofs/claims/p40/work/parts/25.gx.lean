/-! as GE, with the room, the counts and the end left open -/
def GX {ρ : Type} (l : Launch) (X : XC) (mi : MI) (R0 : Room) (ce0 sl0 : Nat) (Z : ρ → Program → Env → State → MethodId → Array Value → List Frame → Method → Code → State → Prop) (n : Nat) (fl : Fl) (E : Option ρ) (pc : Nat) (L : LL) (S : List AV) (w : Mem) : Prop :=
  ∀ (r : ρ), E = some r → ∀ (p : Program) (e : Env) (s : State) (m : MethodId) (args : Array Value) (below : List Frame) (meth : Method) (c : Code), Bd X mi p s m args meth c →
    G l X mi p e R0 s m args below meth c ce0 sl0 (Z r p e s m args below meth c) n fl pc L S w
section GXs
variable {l : Launch} {X : XC} {mi : MI} {R0 : Room} {ce0 sl0 : Nat} {d : Nat} {ρ ρ' : Type} {Z : ρ → Program → Env → State → MethodId → Array Value → List Frame → Method → Code → State → Prop} {em' : ρ' → Option AV × Mem} {n : Nat} {fl : Fl} {E E1 E2 : Option ρ} {pc pc1 tgt : Nat} {L L1 : LL} {S S1 : List AV} {w w1 : Mem} {P : Prop} {off : Int} {k : ClassFile.Cond} {x y : Int32}
theorem GX_none : GX l X mi R0 ce0 sl0 Z n fl none pc L S w := fun r h => by cases h
theorem GX_run (hfl : flG n fl) (is : List EI) (hb : blk mi pc is = some pc1) (hx : exs fl is (L, S, w) = some (P, L1, S1, w1)) (hP : P) (kk : GX l X mi R0 ce0 sl0 Z n fl E pc1 L1 S1 w1) : GX l X mi R0 ce0 sl0 Z n fl E pc L S w :=
  fun r hr p e s m args below meth c B => G_run B hfl is hb hx hP (kk r hr p e s m args below meth c B)
theorem GX_chk [Decidable P] (kk : P → GX l X mi R0 ce0 sl0 Z n fl E pc L S w) : GX l X mi R0 ce0 sl0 Z n fl (if P then E else none) pc L S w := by
  intro r hr
  by_cases h : P
  · rw [if_pos h] at hr; exact kk h r hr
  · rw [if_neg h] at hr; cases hr
theorem GX_eq (h : E = E1) (kk : GX l X mi R0 ce0 sl0 Z n fl E1 pc L S w) : GX l X mi R0 ce0 sl0 Z n fl E pc L S w := h ▸ kk
theorem GX_if [Decidable P] (hd : decode mi.2.1 pc = .ok (.ifCond k off, 3)) (ht : (pc : Int) + off = (tgt : Int)) (hP : cnd k x 0 ↔ P) (t : P → GX l X mi R0 ce0 sl0 Z n fl E1 tgt L S w) (f : ¬ P → GX l X mi R0 ce0 sl0 Z n fl E2 (pc + 3) L S w) : GX l X mi R0 ce0 sl0 Z n fl (if P then E1 else E2) pc L (.inl x :: S) w := by
  intro r hr p e s m args below meth c B
  refine G_if B hd ht (fun h => ?_) (fun h => ?_)
  · have h1 := hP.mp h; rw [if_pos h1] at hr; exact t h1 r hr p e s m args below meth c B
  · have h1 : ¬ P := fun z => h (hP.mpr z); rw [if_neg h1] at hr; exact f h1 r hr p e s m args below meth c B
theorem GX_ifN [Decidable P] (hd : decode mi.2.1 pc = .ok (.ifCond k off, 3)) (ht : (pc : Int) + off = (tgt : Int)) (hP : cnd k x 0 ↔ ¬ P) (t : ¬ P → GX l X mi R0 ce0 sl0 Z n fl E2 tgt L S w) (f : P → GX l X mi R0 ce0 sl0 Z n fl E1 (pc + 3) L S w) : GX l X mi R0 ce0 sl0 Z n fl (if P then E1 else E2) pc L (.inl x :: S) w := by
  intro r hr p e s m args below meth c B
  refine G_if B hd ht (fun h => ?_) (fun h => ?_)
  · have h1 := hP.mp h; rw [if_neg h1] at hr; exact t h1 r hr p e s m args below meth c B
  · have h1 : P := Decidable.byContradiction fun z => h (hP.mpr z)
    rw [if_pos h1] at hr; exact f h1 r hr p e s m args below meth c B
theorem GX_icmp [Decidable P] (hd : decode mi.2.1 pc = .ok (.if_icmp k off, 3)) (ht : (pc : Int) + off = (tgt : Int)) (hP : cnd k x y ↔ P) (t : P → GX l X mi R0 ce0 sl0 Z n fl E1 tgt L S w) (f : ¬ P → GX l X mi R0 ce0 sl0 Z n fl E2 (pc + 3) L S w) : GX l X mi R0 ce0 sl0 Z n fl (if P then E1 else E2) pc L (.inl y :: .inl x :: S) w := by
  intro r hr p e s m args below meth c B
  refine G_icmp B hd ht (fun h => ?_) (fun h => ?_)
  · have h1 := hP.mp h; rw [if_pos h1] at hr; exact t h1 r hr p e s m args below meth c B
  · have h1 : ¬ P := fun z => h (hP.mpr z); rw [if_neg h1] at hr; exact f h1 r hr p e s m args below meth c B
theorem GX_icmpN [Decidable P] (hd : decode mi.2.1 pc = .ok (.if_icmp k off, 3)) (ht : (pc : Int) + off = (tgt : Int)) (hP : cnd k x y ↔ ¬ P) (t : ¬ P → GX l X mi R0 ce0 sl0 Z n fl E2 tgt L S w) (f : P → GX l X mi R0 ce0 sl0 Z n fl E1 (pc + 3) L S w) : GX l X mi R0 ce0 sl0 Z n fl (if P then E1 else E2) pc L (.inl y :: .inl x :: S) w := by
  intro r hr p e s m args below meth c B
  refine G_icmp B hd ht (fun h => ?_) (fun h => ?_)
  · have h1 := hP.mp h; rw [if_neg h1] at hr; exact t h1 r hr p e s m args below meth c B
  · have h1 : P := Decidable.byContradiction fun z => h (hP.mpr z)
    rw [if_pos h1] at hr; exact f h1 r hr p e s m args below meth c B
theorem GX_weak (m : List Bool) (h : GX l X mi R0 ce0 sl0 Z n fl E pc (dropL m L) S w) (hm : m.length = L.length := by rfl) : GX l X mi R0 ce0 sl0 Z n fl E pc L S w := by
  intro r hr p e s me args below meth c B H locs ls hW hS hl hL oL oS
  refine h r hr p e s me args below meth c B H locs ls hW hS (lv_mono hl (fun q hq => ?_)) ((dropL_len m L hm).trans hL) (fun v hv => ?_) oS
  · obtain ⟨j, v, h1, h2⟩ := (mem_lvP _ 0).mp hq
    exact (mem_lvP _ 0).mpr ⟨j, v, dropL_get m L j v h1, h2⟩
  · obtain ⟨j, hj⟩ := List.getElem?_of_mem hv
    exact oL v (List.mem_of_getElem? (dropL_get m L j v hj))
theorem GX_callV {d' idx nn k i maxL : Nat} {y : MethodName} {cc : ByteArray} {ret : Option FieldType} {As : List AV} {f : Option ρ'} {kf : ρ' → Option ρ} (hC : Ct l X d' y cc maxL ret em' (.inr (.inr (some (k, i))) :: As) n fl w f) (hk : k < 6) (cl : CV mi.1 idx y cc maxL ret nn) (hcls : y.cls = (cC k).1) (hd : decode mi.2.1 pc = .ok (.invokevirtual idx, 3)) (hn : As.length = nn) (hR : d' + 1 ≤ R0.frames ∧ 8 + (maxL + 11) + 64 * d' ≤ R0.locals) (hf : ce0 + 0 ≤ R0.cells ∧ sl0 + 0 ≤ R0.slots) (hcat : catS S ≤ 8)
    (kk : ∀ r, f = some r → GX l X mi R0 ce0 sl0 Z n fl (kf r) (pc + 3) L ((em' r).1.toList ++ S) (em' r).2) : GX l X mi R0 ce0 sl0 Z n fl (f.bind kf) pc L (As.reverse ++ .inr (.inr (some (k, i))) :: S) w := by
  intro r hr p e s m args below meth c B
  obtain ⟨r1, h1, h2⟩ := Option.bind_eq_some_iff.mp hr
  refine G_callV B hk (hC B.2.2.2.2.2.2.2.2.1 r1 h1) cl.1 cl.2.1 cl.2.2.1 hcls cl.2.2.2 hd hn hR hf hcat (fun _ _ _ _ h => Nat.le_of_eq h.1.symm) (fun v n1 fl1 w1 hq => ?_)
  obtain ⟨rfl, rfl, h3⟩ := hq
  have h4 := kk r1 h1 r h2 p e s m args below meth c B
  rw [← h3] at h4
  exact h4
theorem GX_callS {d' idx nn maxL : Nat} {y : MethodName} {cc : ByteArray} {ret : Option FieldType} {As : List AV} {f : Option ρ'} {kf : ρ' → Option ρ} (hC : Ct l X d' y cc maxL ret em' As n fl w f) (cl : CS mi.1 idx y cc maxL ret nn) (hd : decode mi.2.1 pc = .ok (.invokestatic idx, 3)) (hn : As.length = nn) (hR : d' + 1 ≤ R0.frames ∧ 8 + (maxL + 11) + 64 * d' ≤ R0.locals) (hf : ce0 + 0 ≤ R0.cells ∧ sl0 + 0 ≤ R0.slots) (hcat : catS S ≤ 8)
    (kk : ∀ r, f = some r → GX l X mi R0 ce0 sl0 Z n fl (kf r) (pc + 3) L ((em' r).1.toList ++ S) (em' r).2) : GX l X mi R0 ce0 sl0 Z n fl (f.bind kf) pc L (As.reverse ++ S) w := by
  intro r hr p e s m args below meth c B
  obtain ⟨r1, h1, h2⟩ := Option.bind_eq_some_iff.mp hr
  refine G_callS B (hC B.2.2.2.2.2.2.2.2.1 r1 h1) cl.1 cl.2.1 cl.2.2 hd hn hR hf hcat (fun _ _ _ _ h => Nat.le_of_eq h.1.symm) (fun v n1 fl1 w1 hq => ?_)
  obtain ⟨rfl, rfl, h3⟩ := hq
  have h4 := kk r1 h1 r h2 p e s m args below meth c B
  rw [← h3] at h4
  exact h4
theorem GX_callVp {d' idx nn k i maxL : Nat} {y : MethodName} {cc : ByteArray} {ret : Option FieldType} {As : List AV} {r1 : ρ'} (hC : Ct l X d' y cc maxL ret em' (.inr (.inr (some (k, i))) :: As) n fl w (some r1)) (hk : k < 6) (cl : CV mi.1 idx y cc maxL ret nn) (hcls : y.cls = (cC k).1) (hd : decode mi.2.1 pc = .ok (.invokevirtual idx, 3)) (hn : As.length = nn) (hR : d' + 1 ≤ R0.frames ∧ 8 + (maxL + 11) + 64 * d' ≤ R0.locals) (hf : ce0 + 0 ≤ R0.cells ∧ sl0 + 0 ≤ R0.slots) (hcat : catS S ≤ 8)
    (kk : GX l X mi R0 ce0 sl0 Z n fl E (pc + 3) L ((em' r1).1.toList ++ S) (em' r1).2) : GX l X mi R0 ce0 sl0 Z n fl E pc L (As.reverse ++ .inr (.inr (some (k, i))) :: S) w :=
  GX_callV (kf := fun _ => E) (f := some r1) hC hk cl hcls hd hn hR hf hcat (fun r h => by cases h; exact kk)
theorem GX_callSp {d' idx nn maxL : Nat} {y : MethodName} {cc : ByteArray} {ret : Option FieldType} {As : List AV} {r1 : ρ'} (hC : Ct l X d' y cc maxL ret em' As n fl w (some r1)) (cl : CS mi.1 idx y cc maxL ret nn) (hd : decode mi.2.1 pc = .ok (.invokestatic idx, 3)) (hn : As.length = nn) (hR : d' + 1 ≤ R0.frames ∧ 8 + (maxL + 11) + 64 * d' ≤ R0.locals) (hf : ce0 + 0 ≤ R0.cells ∧ sl0 + 0 ≤ R0.slots) (hcat : catS S ≤ 8)
    (kk : GX l X mi R0 ce0 sl0 Z n fl E (pc + 3) L ((em' r1).1.toList ++ S) (em' r1).2) : GX l X mi R0 ce0 sl0 Z n fl E pc L (As.reverse ++ S) w :=
  GX_callS (kf := fun _ => E) (f := some r1) hC cl hd hn hR hf hcat (fun r h => by cases h; exact kk)
theorem GX_callVI {d' idx nn maxL : Nat} {k i : Nat} {y : MethodName} {cc : ByteArray} {ret : Option FieldType} {As : List AV} {f : Option (Int32 × Mem)} {kf : Int32 × Mem → Option ρ} (hC : Ct l X d' y cc maxL ret emI (.inr (.inr (some (k, i))) :: As) n fl w f) (hk : k < 6) (cl : CV mi.1 idx y cc maxL ret nn) (hcls : y.cls = (cC k).1) (hd : decode mi.2.1 pc = .ok (.invokevirtual idx, 3)) (hn : As.length = nn) (hR : d' + 1 ≤ R0.frames ∧ 8 + (maxL + 11) + 64 * d' ≤ R0.locals) (hf : ce0 + 0 ≤ R0.cells ∧ sl0 + 0 ≤ R0.slots) (hcat : catS S ≤ 8) (kk : ∀ r, f = some r → GX l X mi R0 ce0 sl0 Z n fl (kf r) (pc + 3) L (.inl r.1 :: S) r.2) : GX l X mi R0 ce0 sl0 Z n fl (f.bind kf) pc L (As.reverse ++ .inr (.inr (some (k, i))) :: S) w := GX_callV hC hk cl hcls hd hn hR hf hcat kk
theorem GX_callVIp {d' idx nn maxL : Nat} {k i : Nat} {y : MethodName} {cc : ByteArray} {ret : Option FieldType} {As : List AV} {v : Int32} {w2 : Mem} (hC : Ct l X d' y cc maxL ret emI (.inr (.inr (some (k, i))) :: As) n fl w (some (v, w2))) (hk : k < 6) (cl : CV mi.1 idx y cc maxL ret nn) (hcls : y.cls = (cC k).1) (hd : decode mi.2.1 pc = .ok (.invokevirtual idx, 3)) (hn : As.length = nn) (hR : d' + 1 ≤ R0.frames ∧ 8 + (maxL + 11) + 64 * d' ≤ R0.locals) (hf : ce0 + 0 ≤ R0.cells ∧ sl0 + 0 ≤ R0.slots) (hcat : catS S ≤ 8) (kk : GX l X mi R0 ce0 sl0 Z n fl E (pc + 3) L (.inl v :: S) w2) : GX l X mi R0 ce0 sl0 Z n fl E pc L (As.reverse ++ .inr (.inr (some (k, i))) :: S) w := GX_callVp hC hk cl hcls hd hn hR hf hcat kk
theorem GX_callVL {d' idx nn maxL : Nat} {k i : Nat} {y : MethodName} {cc : ByteArray} {ret : Option FieldType} {As : List AV} {f : Option (Int64 × Mem)} {kf : Int64 × Mem → Option ρ} (hC : Ct l X d' y cc maxL ret emL (.inr (.inr (some (k, i))) :: As) n fl w f) (hk : k < 6) (cl : CV mi.1 idx y cc maxL ret nn) (hcls : y.cls = (cC k).1) (hd : decode mi.2.1 pc = .ok (.invokevirtual idx, 3)) (hn : As.length = nn) (hR : d' + 1 ≤ R0.frames ∧ 8 + (maxL + 11) + 64 * d' ≤ R0.locals) (hf : ce0 + 0 ≤ R0.cells ∧ sl0 + 0 ≤ R0.slots) (hcat : catS S ≤ 8) (kk : ∀ r, f = some r → GX l X mi R0 ce0 sl0 Z n fl (kf r) (pc + 3) L (.inr (.inl r.1) :: S) r.2) : GX l X mi R0 ce0 sl0 Z n fl (f.bind kf) pc L (As.reverse ++ .inr (.inr (some (k, i))) :: S) w := GX_callV hC hk cl hcls hd hn hR hf hcat kk
theorem GX_callVV {d' idx nn maxL : Nat} {k i : Nat} {y : MethodName} {cc : ByteArray} {ret : Option FieldType} {As : List AV} {f : Option (Mem)} {kf : Mem → Option ρ} (hC : Ct l X d' y cc maxL ret emV (.inr (.inr (some (k, i))) :: As) n fl w f) (hk : k < 6) (cl : CV mi.1 idx y cc maxL ret nn) (hcls : y.cls = (cC k).1) (hd : decode mi.2.1 pc = .ok (.invokevirtual idx, 3)) (hn : As.length = nn) (hR : d' + 1 ≤ R0.frames ∧ 8 + (maxL + 11) + 64 * d' ≤ R0.locals) (hf : ce0 + 0 ≤ R0.cells ∧ sl0 + 0 ≤ R0.slots) (hcat : catS S ≤ 8) (kk : ∀ r, f = some r → GX l X mi R0 ce0 sl0 Z n fl (kf r) (pc + 3) L S r) : GX l X mi R0 ce0 sl0 Z n fl (f.bind kf) pc L (As.reverse ++ .inr (.inr (some (k, i))) :: S) w := GX_callV hC hk cl hcls hd hn hR hf hcat kk
theorem GX_callVVp {d' idx nn maxL : Nat} {k i : Nat} {y : MethodName} {cc : ByteArray} {ret : Option FieldType} {As : List AV} {w2 : Mem} (hC : Ct l X d' y cc maxL ret emV (.inr (.inr (some (k, i))) :: As) n fl w (some w2)) (hk : k < 6) (cl : CV mi.1 idx y cc maxL ret nn) (hcls : y.cls = (cC k).1) (hd : decode mi.2.1 pc = .ok (.invokevirtual idx, 3)) (hn : As.length = nn) (hR : d' + 1 ≤ R0.frames ∧ 8 + (maxL + 11) + 64 * d' ≤ R0.locals) (hf : ce0 + 0 ≤ R0.cells ∧ sl0 + 0 ≤ R0.slots) (hcat : catS S ≤ 8) (kk : GX l X mi R0 ce0 sl0 Z n fl E (pc + 3) L S w2) : GX l X mi R0 ce0 sl0 Z n fl E pc L (As.reverse ++ .inr (.inr (some (k, i))) :: S) w := GX_callVp hC hk cl hcls hd hn hR hf hcat kk
theorem GX_callSI {d' idx nn maxL : Nat} {y : MethodName} {cc : ByteArray} {ret : Option FieldType} {As : List AV} {f : Option (Int32 × Mem)} {kf : Int32 × Mem → Option ρ} (hC : Ct l X d' y cc maxL ret emI As n fl w f) (cl : CS mi.1 idx y cc maxL ret nn) (hd : decode mi.2.1 pc = .ok (.invokestatic idx, 3)) (hn : As.length = nn) (hR : d' + 1 ≤ R0.frames ∧ 8 + (maxL + 11) + 64 * d' ≤ R0.locals) (hf : ce0 + 0 ≤ R0.cells ∧ sl0 + 0 ≤ R0.slots) (hcat : catS S ≤ 8) (kk : ∀ r, f = some r → GX l X mi R0 ce0 sl0 Z n fl (kf r) (pc + 3) L (.inl r.1 :: S) r.2) : GX l X mi R0 ce0 sl0 Z n fl (f.bind kf) pc L (As.reverse ++ S) w := GX_callS hC cl hd hn hR hf hcat kk
theorem GX_callSIp {d' idx nn maxL : Nat} {y : MethodName} {cc : ByteArray} {ret : Option FieldType} {As : List AV} {v : Int32} {w2 : Mem} (hC : Ct l X d' y cc maxL ret emI As n fl w (some (v, w2))) (cl : CS mi.1 idx y cc maxL ret nn) (hd : decode mi.2.1 pc = .ok (.invokestatic idx, 3)) (hn : As.length = nn) (hR : d' + 1 ≤ R0.frames ∧ 8 + (maxL + 11) + 64 * d' ≤ R0.locals) (hf : ce0 + 0 ≤ R0.cells ∧ sl0 + 0 ≤ R0.slots) (hcat : catS S ≤ 8) (kk : GX l X mi R0 ce0 sl0 Z n fl E (pc + 3) L (.inl v :: S) w2) : GX l X mi R0 ce0 sl0 Z n fl E pc L (As.reverse ++ S) w := GX_callSp hC cl hd hn hR hf hcat kk
theorem GX_callSL {d' idx nn maxL : Nat} {y : MethodName} {cc : ByteArray} {ret : Option FieldType} {As : List AV} {f : Option (Int64 × Mem)} {kf : Int64 × Mem → Option ρ} (hC : Ct l X d' y cc maxL ret emL As n fl w f) (cl : CS mi.1 idx y cc maxL ret nn) (hd : decode mi.2.1 pc = .ok (.invokestatic idx, 3)) (hn : As.length = nn) (hR : d' + 1 ≤ R0.frames ∧ 8 + (maxL + 11) + 64 * d' ≤ R0.locals) (hf : ce0 + 0 ≤ R0.cells ∧ sl0 + 0 ≤ R0.slots) (hcat : catS S ≤ 8) (kk : ∀ r, f = some r → GX l X mi R0 ce0 sl0 Z n fl (kf r) (pc + 3) L (.inr (.inl r.1) :: S) r.2) : GX l X mi R0 ce0 sl0 Z n fl (f.bind kf) pc L (As.reverse ++ S) w := GX_callS hC cl hd hn hR hf hcat kk
theorem GX_callSV {d' idx nn maxL : Nat} {y : MethodName} {cc : ByteArray} {ret : Option FieldType} {As : List AV} {f : Option (Mem)} {kf : Mem → Option ρ} (hC : Ct l X d' y cc maxL ret emV As n fl w f) (cl : CS mi.1 idx y cc maxL ret nn) (hd : decode mi.2.1 pc = .ok (.invokestatic idx, 3)) (hn : As.length = nn) (hR : d' + 1 ≤ R0.frames ∧ 8 + (maxL + 11) + 64 * d' ≤ R0.locals) (hf : ce0 + 0 ≤ R0.cells ∧ sl0 + 0 ≤ R0.slots) (hcat : catS S ≤ 8) (kk : ∀ r, f = some r → GX l X mi R0 ce0 sl0 Z n fl (kf r) (pc + 3) L S r) : GX l X mi R0 ce0 sl0 Z n fl (f.bind kf) pc L (As.reverse ++ S) w := GX_callS hC cl hd hn hR hf hcat kk
theorem GX_callSVp {d' idx nn maxL : Nat} {y : MethodName} {cc : ByteArray} {ret : Option FieldType} {As : List AV} {w2 : Mem} (hC : Ct l X d' y cc maxL ret emV As n fl w (some w2)) (cl : CS mi.1 idx y cc maxL ret nn) (hd : decode mi.2.1 pc = .ok (.invokestatic idx, 3)) (hn : As.length = nn) (hR : d' + 1 ≤ R0.frames ∧ 8 + (maxL + 11) + 64 * d' ≤ R0.locals) (hf : ce0 + 0 ≤ R0.cells ∧ sl0 + 0 ≤ R0.slots) (hcat : catS S ≤ 8) (kk : GX l X mi R0 ce0 sl0 Z n fl E (pc + 3) L S w2) : GX l X mi R0 ce0 sl0 Z n fl E pc L (As.reverse ++ S) w := GX_callSp hC cl hd hn hR hf hcat kk
end GXs
