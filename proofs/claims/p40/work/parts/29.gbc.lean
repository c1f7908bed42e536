/-! contracts over the builder's world; their ends; calls -/
def PcB (X : XC) (Y : YC) (ws : va_W) (As : List AV) : Array Value → State → Prop := va_Pc (As.map (cv X)) (fun U => va_P Y.1 cl2 ws U.heap ∧ va_D (AY X) ws ∧ KpY X U.heap ∧ X.2.2.1.vm.Alike U.vm ∧ nstOK X U)
def QcB (X : XC) (Y : YC) (Qy : Option AV → va_W → Prop) : Array Value → State → Outcome → State → Prop := fun _ st oc t => (∃ (v : Option AV) (ws1 : va_W), oc = .returned (v.map (cv X)) ∧ Qy v ws1 ∧ va_P Y.1 cl2 ws1 t.heap ∧ va_D (AY X) ws1) ∧ va_F (AY X) st t
def MtB (l : Launch) (X : XC) (Y : YC) (d : Nat) (y : MethodName) (cc : ByteArray) (maxL : Nat) (ret : Option FieldType) (As : List AV) (mc ms : Nat) (ws : va_W) (Qy : Option AV → va_W → Prop) : Prop :=
  Met l y (wsM y cc maxL ret) (rmD d mc ms) (PcB X Y ws As) (QcB X Y Qy) mc ms (AY X)
/-- what every method may take for granted -/
def XB (X : XC) (Y : YC) : Prop := XOK X ∧ K2 X Y ∧ (∀ a : Nat, X.2.2.2.1 (100 + a) = a) ∧ PVT X
theorem MtB_of {l : Launch} {X : XC} {Y : YC} {mi : MI} {ws : va_W} {d mc ms nn : Nat} {y : MethodName} {As : List AV} {Qy : Option AV → va_W → Prop} (hX : XB X Y) (hmi : MIok mi) (me : meOK y mi.2.1 mi.2.2.1 mi.2.2.2.1 nn) (hcl : y.cls = mi.1) (hle : (enL As).length ≤ mi.2.2.1)
    (body : ∀ p e s m args below meth c, BB X Y mi p s m args meth c → meth.name = y.name → GB l X Y mi p e (rmD d mc ms) s m args below meth c 0 0 (MQ below (QcB X Y Qy) args s mc ms (AY X)) 0 (enN As mi.2.2.1) [] ws) : MtB l X Y d y mi.2.1 mi.2.2.1 mi.2.2.2.1 As mc ms ws Qy := by
  refine Met.ofWF (cc := mi.2.1) (maxL := mi.2.2.1) (ret := mi.2.2.2.1) me.2.2.1 rfl ?_
  intro p e s m args below meth c s₁ B hml hv
  obtain ⟨rfl, hP, hD, hkp, hal, hns⟩ := hv
  have hts := atoms_spec (ws := wsM y mi.2.1 mi.2.2.1 mi.2.2.2.1) B.pre
  have hown : s.vm.findClass mi.1 = some m.cls := by rw [← hcl]; exact findClass_of_methodNamed B.named
  have hB : BB X Y mi p s m (As.map (cv X)).toArray meth c := ⟨⟨B.exec, B.bytes, hml, hown, fun w hw => hts w (List.mem_cons_of_mem _ hw), B.returns, B.notSynchronized, hal, hX.1, hmi, hkp.1, hns⟩, hkp, hX.2.1, hX.2.2⟩
  rw [lg_entry_eq]
  have hl := lv_entry (As.map (cv X)) (n := mi.2.2.1) (by rw [enL_sl]; exact hle)
  refine body p e s m _ below meth c hB (name_of_methodNamed B.named B.method).1 s.heap [] _ hP hD va_S.rf (lv_mono hl (fun q hq => ?_)) ?_
  · rw [enN, lvP_app, enL_args] at hq; exact hq
  · simp only [enN, List.length_append, List.length_replicate]; omega
section GBc
variable {l : Launch} {X : XC} {Y : YC} {mi : MI} {p : Program} {e : Env} {R : Room} {s : State} {m : MethodId} {args : Array Value} {below : List Frame} {meth : Method} {c : Code} {ce sl : Nat} {Q : State → Prop} {pc pc1 : Nat} {L L1 : LL} {S S1 : List AV} {ws : va_W}
theorem GB_fin {Qy : Option AV → va_W → Prop} {v : Option AV} {H : Heap} {locs : List Loc} (hP : va_P Y.1 cl2 ws H) (hD : va_D (AY X) ws) (hS : va_S (AY X) s.heap H locs) (hq : Qy v ws) : ∀ t : State, t.heap = H → s.WarmedH t.vm → QcB X Y Qy args s (.returned (v.map (cv X))) t := by
  intro t ht _
  exact ⟨⟨v, ws, rfl, hq, by rw [ht]; exact hP, hD⟩, hS.F ht⟩
theorem GB_iret {Qy : Option AV → va_W → Prop} {v : Int32} (B : BB X Y mi p s m args meth c) (hr : mi.2.2.2.1 = some .int) (hd : decode mi.2.1 pc = .ok (.ireturn, 1)) (hq : Qy (some (.inl v)) ws) : GB l X Y mi p e R s m args below meth c ce sl (MQ below (QcB X Y Qy) args s ce sl (AY X)) pc L [.inl v] ws := by
  intro H locs ls hP hD hS hl hL
  exact W.iret B.1.1 B.1.2.1 (by rw [B.1.2.2.2.2.2.1]; exact hr) (GB_fin (v := some (.inl v)) hP hD hS hq) hS.2.2 hd B.1.2.2.2.2.2.2.1
theorem GB_zret {Qy : Option AV → va_W → Prop} {v : Int32} {ty : FieldType} (B : BB X Y mi p s m args meth c) (hr : mi.2.2.2.1 = some ty) (hn : narrow ty (.int v) = .int v) (hd : decode mi.2.1 pc = .ok (.ireturn, 1)) (hq : Qy (some (.inl v)) ws) : GB l X Y mi p e R s m args below meth c ce sl (MQ below (QcB X Y Qy) args s ce sl (AY X)) pc L [.inl v] ws := by
  intro H locs ls hP hD hS hl hL
  exact W.zret B.1.1 B.1.2.1 (by rw [B.1.2.2.2.2.2.1]; exact hr) hn (GB_fin (v := some (.inl v)) hP hD hS hq) hS.2.2 hd B.1.2.2.2.2.2.2.1
theorem GB_vret {Qy : Option AV → va_W → Prop} (B : BB X Y mi p s m args meth c) (hr : mi.2.2.2.1 = none) (hd : decode mi.2.1 pc = .ok (.return_, 1)) (hq : Qy none ws) : GB l X Y mi p e R s m args below meth c ce sl (MQ below (QcB X Y Qy) args s ce sl (AY X)) pc L [] ws := by
  intro H locs ls hP hD hS hl hL
  exact W.vret B.1.1 B.1.2.1 (by rw [B.1.2.2.2.2.2.1]; exact hr) (GB_fin (v := none) hP hD hS hq) hS.2.2 hd B.1.2.2.2.2.2.2.1
theorem GB_aret {Qy : Option AV → va_W → Prop} {q : Nat × Nat} {ty : FieldType} (B : BB X Y mi p s m args meth c) (hr : mi.2.2.2.1 = some ty) (hty : (∃ C, ty = .object C) ∨ ∃ C, ty = .array C) (hd : decode mi.2.1 pc = .ok (.areturn, 1)) (hq : Qy (some (.inr (.inr (some q)))) ws) : GB l X Y mi p e R s m args below meth c ce sl (MQ below (QcB X Y Qy) args s ce sl (AY X)) pc L [.inr (.inr (some q))] ws := by
  intro H locs ls hP hD hS hl hL
  exact W.aret B.1.1 B.1.2.1 (by rw [B.1.2.2.2.2.2.1]; exact hr) hty (Or.inr ⟨_, rfl⟩) (GB_fin (v := some (.inr (.inr (some q)))) hP hD hS hq) hS.2.2 hd B.1.2.2.2.2.2.2.1
-- calls
theorem PcB_blind {As : List AV} : FrameBlind (PcB X Y ws As) := fun a U g mk q => ⟨q.1, q.2.1, q.2.2.1, q.2.2.2.1, q.2.2.2.2.1, fun a2 i x h hm => va_Nw.same rfl rfl (q.2.2.2.2.2.1 a2 i x h hm), fun z hz => vk_R.same rfl (q.2.2.2.2.2.2 z hz)⟩
theorem PcB_at (B : BB X Y mi p s m args meth c) {As : List AV} {H : Heap} {locs : List Loc} (hP : va_P Y.1 cl2 ws H) (hD : va_D (AY X) ws) (hS : va_S (AY X) s.heap H locs) : ∀ U : State, U.heap = H → s.WarmedH U.vm → PcB X Y ws As (As.map (cv X)).toArray U := by
  intro U hU hWm
  exact ⟨rfl, by rw [hU]; exact hP, hD, by rw [hU]; exact B.kp hS, B.1.2.2.2.2.2.2.2.1.trans hWm.alike, fun a2 i x h hm => va_Nw.warmM hWm (B.1.2.2.2.2.2.2.2.2.2.2.2.1 a2 i x h hm), fun z hz => vk_R.warm hWm (B.1.2.2.2.2.2.2.2.2.2.2.2.2 z hz)⟩
theorem GB_call {mc ms : Nat} {a : Array Value} {st0 : List AV} {Qy : Option AV → va_W → Prop}
    (hr : ∀ (H : Heap) (locs : List Loc) (ls : Array Slot), va_P Y.1 cl2 ws H → va_D (AY X) ws → va_S (AY X) s.heap H locs → lv_has ls mi.2.2.1 (lvP X 0 L) → va_Run p l e R s m args below meth c H locs ce sl mc ms (F0 m pc ls (st0.map (cv X))) (S.map (cv X)) (QcB X Y Qy a) (AY X))
    (kk : ∀ (v : Option AV) (ws1 : va_W), Qy v ws1 → GB l X Y mi p e R s m args below meth c (ce + mc) (sl + ms) Q (pc + 3) L (v.toList ++ S) ws1) : GB l X Y mi p e R s m args below meth c ce sl Q pc L st0 ws := by
  intro H locs ls hP hD hS hl hL T hT X0
  obtain ⟨v0, st₀, t, T', L2, h0, X', hL2, e1, e2, ⟨⟨v, ws1, hv, hq, hP1, hD1⟩, hz, hk⟩, st⟩ := hr H locs ls hP hD hS hl T hT X0
  cases hv
  rw [h0] at hz hk
  have hS1 : va_S (AY X) s.heap T'.heap (locs ++ L2) := ⟨Nat.le_trans hS.1 (by rw [e1]; exact hz), fun q h1 h2 => by rw [e1, hk q (Nat.lt_of_lt_of_le h1 hS.1) h2]; exact hS.2.1 q h1 h2, fun q hq => by
      rcases List.mem_append.mp hq with h | h
      · exact hS.2.2 q h
      · exact hL2 q h⟩
  have h3 : (v.map (cv X)).toList ++ S.map (cv X) = (v.toList ++ S).map (cv X) := by cases v <;> simp
  obtain ⟨t2, a1, b1⟩ := kk v ws1 hq T'.heap (locs ++ L2) ls (by rw [e1]; exact hP1) hD1 hS1 hl hL T' rfl X'
  exact ⟨t2, st t2 (by rw [h3]; exact a1), b1⟩
theorem wsB_in {y : MethodName} {cc : ByteArray} {maxL nn : Nat} {ret : Option FieldType} (me : meOK y cc maxL ret nn) : GoodIn gtb (wsM y cc maxL ret) := by
  intro w hw
  rcases List.mem_cons.mp hw with rfl | h
  · exact gtb_good _ (gm me.1 rfl)
  · exact gtb_good _ h
theorem GB_callS {d mc ms idx nn : Nat} {y : MethodName} {cc : ByteArray} {maxL : Nat} {ret : Option FieldType} {As : List AV} {Qy : Option AV → va_W → Prop} (B : BB X Y mi p s m args meth c)
    (hM : MtB l X Y d y cc maxL ret As mc ms ws Qy) (cl : CS mi.1 idx y cc maxL ret nn) (hd : decode mi.2.1 pc = .ok (.invokestatic idx, 3)) (hn : As.length = nn)
    (hR : d + 1 ≤ R.frames ∧ 8 + (maxL + 11) + 64 * d ≤ R.locals) (hf : ce + mc ≤ R.cells ∧ sl + ms ≤ R.slots) (hcat : catS S ≤ 8)
    (kk : ∀ (v : Option AV) (ws1 : va_W), Qy v ws1 → GB l X Y mi p e R s m args below meth c (ce + mc) (sl + ms) Q (pc + 3) L (v.toList ++ S) ws1) : GB l X Y mi p e R s m args below meth c ce sl Q pc L (As.reverse ++ S) ws := by
  refine GB_call (Qy := Qy) (a := (As.map (cv X)).toArray) (fun H locs ls hP hD hS hl => ?_) kk
  exact va_runS (own := mi.1) (Ts := gtb) (n := nn) ⟨B.1.1, B.1.2.1, B.1.2.2.1, B.1.2.2.2.1, B.1.2.2.2.2.1⟩ hM ⟨callB_of nn B.1.2.2.2.2.1 (wsB_in cl.1) rfl rfl rfl (B.1.hw cl.1.2.1 rfl) (B.1.hw cl.2.2 rfl) ⟨cl.1.2.2.2.1, cl.1.2.2.2.2⟩ hR, B.1.hw cl.2.1 rfl⟩ ⟨PcB_blind, PcB_at B hP hD hS⟩ rfl (by rw [List.length_map]; exact hn) hl.1 (by simp) (lv_room (catS_ok hcat)) hd hf
/-- a method that a pool's text has -/
theorem GB_callT {d mc ms idx nn i v0 len : Nat} {by0 : Nat → Int32} {y : MethodName} {cc : ByteArray} {maxL : Nat} {ret : Option FieldType} {As : List AV} {Qy : Option AV → va_W → Prop} (B : BB X Y mi p s m args meth c) (hG : strG X i v0 len by0)
    (hM : MtB l X Y d y cc maxL ret (.inr (.inr (some (40, i))) :: As) mc ms ws Qy) (cl : CV mi.1 idx y cc maxL ret nn) (hcls : y.cls = "java/lang/String") (hd : decode mi.2.1 pc = .ok (.invokevirtual idx, 3)) (hn : As.length = nn)
    (hR : d + 1 ≤ R.frames ∧ 8 + (maxL + 11) + 64 * d ≤ R.locals) (hf : ce + mc ≤ R.cells ∧ sl + ms ≤ R.slots) (hcat : catS S ≤ 8)
    (kk : ∀ (v : Option AV) (ws1 : va_W), Qy v ws1 → GB l X Y mi p e R s m args below meth c (ce + mc) (sl + ms) Q (pc + 3) L (v.toList ++ S) ws1) : GB l X Y mi p e R s m args below meth c ce sl Q pc L (As.reverse ++ .inr (.inr (some (40, i))) :: S) ws := by
  refine GB_call (Qy := Qy) (a := (Value.ref (adr X 40 i) :: As.map (cv X)).toArray) (fun H locs ls hP hD hS hl => ?_) kk
  have hrc : ∃ cell : Cell, H[X.2.2.2.1 i]? = some cell ∧ cell.vm.isStatics = false ∧ s.vm.findClass "java/lang/String" = some cell.cls := va_Orecv (B.str hG).1 hS
  exact va_runV (own := mi.1) (C := y.cls) (Ts := gtb) (n := nn) ⟨B.1.1, B.1.2.1, B.1.2.2.1, B.1.2.2.2.1, B.1.2.2.2.2.1⟩ hM ⟨callB_of nn B.1.2.2.2.2.1 (wsB_in cl.1) rfl rfl rfl (B.1.hw cl.1.2.1 rfl) (B.1.hw cl.2.2.2 rfl) ⟨cl.1.2.2.2.1, cl.1.2.2.2.2⟩ hR, B.1.hw cl.2.1 rfl, B.1.hw cl.2.2.1 rfl⟩ ⟨PcB_blind, by rw [hcls]; exact hrc, PcB_at B hP hD hS⟩ rfl (by rw [List.length_map]; exact hn) hl.1 (by simp; rfl) (lv_room (catS_ok hcat)) hd hf
theorem own_recv (B : BB X Y mi p s m args meth c) {H : Heap} {q0 a k : Nat} {fs : List Value} (hP : va_P Y.1 cl2 ws H) (he : ws[q0]? = some (a, .inr (k, fs))) {C : String} {T : u_T} {N : Nat} (hc : cl2[k]? = some (C, T, N)) : ∃ cell : Cell, H[a]? = some cell ∧ cell.vm.isStatics = false ∧ s.vm.findClass C = some cell.cls :=
  va_recv B.hK hP hc he
/-- a method of the builder's own class -/
theorem GB_callV {d mc ms idx nn q0 a : Nat} {fs : List Value} {y : MethodName} {cc : ByteArray} {maxL : Nat} {ret : Option FieldType} {As : List AV} {Qy : Option AV → va_W → Prop} (B : BB X Y mi p s m args meth c) (he : ws[q0]? = some (a, .inr (0, fs)))
    (hM : MtB l X Y d y cc maxL ret (rf a :: As) mc ms ws Qy) (cl : CV mi.1 idx y cc maxL ret nn) (hcls : y.cls = RJ4) (hd : decode mi.2.1 pc = .ok (.invokevirtual idx, 3)) (hn : As.length = nn)
    (hR : d + 1 ≤ R.frames ∧ 8 + (maxL + 11) + 64 * d ≤ R.locals) (hf : ce + mc ≤ R.cells ∧ sl + ms ≤ R.slots) (hcat : catS S ≤ 8)
    (kk : ∀ (v : Option AV) (ws1 : va_W), Qy v ws1 → GB l X Y mi p e R s m args below meth c (ce + mc) (sl + ms) Q (pc + 3) L (v.toList ++ S) ws1) : GB l X Y mi p e R s m args below meth c ce sl Q pc L (As.reverse ++ rf a :: S) ws := by
  refine GB_call (Qy := Qy) (a := (Value.ref a :: As.map (cv X)).toArray) (fun H locs ls hP hD hS hl => ?_) kk
  have hpa := PcB_at B (As := rf a :: As) hP hD hS
  rw [List.map_cons, B.rf] at hpa
  exact va_runV (own := mi.1) (C := y.cls) (Ts := gtb) (n := nn) ⟨B.1.1, B.1.2.1, B.1.2.2.1, B.1.2.2.2.1, B.1.2.2.2.2.1⟩ hM ⟨callB_of nn B.1.2.2.2.2.1 (wsB_in cl.1) rfl rfl rfl (B.1.hw cl.1.2.1 rfl) (B.1.hw cl.2.2.2 rfl) ⟨cl.1.2.2.2.1, cl.1.2.2.2.2⟩ hR, B.1.hw cl.2.1 rfl, B.1.hw cl.2.2.1 rfl⟩ ⟨PcB_blind, by rw [hcls]; exact own_recv B hP he rfl, hpa⟩ rfl (by rw [List.length_map]; exact hn) hl.1 (by simp [B.rf]) (lv_room (catS_ok hcat)) hd hf
/-- a constructor -/
theorem GB_callI {d mc ms idx nn a : Nat} {y : MethodName} {cc : ByteArray} {maxL : Nat} {As : List AV} {Qy : Option AV → va_W → Prop} (B : BB X Y mi p s m args meth c)
    (hM : MtB l X Y d y cc maxL none (rf a :: As) mc ms ws Qy) (me : meOK y cc maxL none nn) (hin : Cond.instanceMethod y ∈ lw_tbl) (hy1 : y.name = "<init>") (hlk : Cond.methodLink mi.1 idx y ∈ lw_tbl) (hd : decode mi.2.1 pc = .ok (.invokespecial idx, 3)) (hn : As.length = nn)
    (hR : d + 1 ≤ R.frames ∧ 8 + (maxL + 11) + 64 * d ≤ R.locals) (hf : ce + mc ≤ R.cells ∧ sl + ms ≤ R.slots) (hcat : catS S ≤ 8)
    (kk : ∀ (v : Option AV) (ws1 : va_W), Qy v ws1 → GB l X Y mi p e R s m args below meth c (ce + mc) (sl + ms) Q (pc + 3) L (v.toList ++ S) ws1) : GB l X Y mi p e R s m args below meth c ce sl Q pc L (As.reverse ++ rf a :: S) ws := by
  refine GB_call (Qy := Qy) (a := (Value.ref a :: As.map (cv X)).toArray) (fun H locs ls hP hD hS hl => ?_) kk
  have hpa := PcB_at B (As := rf a :: As) hP hD hS
  rw [List.map_cons, B.rf] at hpa
  exact va_runI (own := mi.1) (Ts := gtb) (n := nn) ⟨B.1.1, B.1.2.1, B.1.2.2.1, B.1.2.2.2.1, B.1.2.2.2.2.1⟩ hM ⟨callB_of nn B.1.2.2.2.2.1 (wsB_in me) rfl rfl rfl (B.1.hw me.2.1 rfl) (B.1.hw hlk rfl) ⟨me.2.2.2.1, me.2.2.2.2⟩ hR, hy1, B.1.hw hin rfl⟩ ⟨PcB_blind, hpa⟩ rfl (by rw [List.length_map]; exact hn) hl.1 (by simp [B.rf]) (lv_room (catS_ok hcat)) hd hf
/-- a method that the builder's class inherits, by its own name -/
theorem GB_callU {d mc ms idx nn q0 a : Nat} {fs : List Value} {y : MethodName} {cc : ByteArray} {maxL : Nat} {ret : Option FieldType} {As : List AV} {Qy : Option AV → va_W → Prop} (B : BB X Y mi p s m args meth c) (he : ws[q0]? = some (a, .inr (0, fs)))
    (hM : MtB l X Y d y cc maxL ret (rf a :: As) mc ms ws Qy) (me : meOK y cc maxL ret nn) (hin : Cond.instanceMethod y ∈ lw_tbl) (hlk : Cond.methodLink mi.1 idx y ∈ lw_tbl) (hsm : Cond.sameMethod y.cls y.cls y.name y.desc ∈ lw_tbl) (hse : Cond.selects RJ4 y y ∈ lw_tbl) (hd : decode mi.2.1 pc = .ok (.invokevirtual idx, 3)) (hn : As.length = nn)
    (hR : d + 1 ≤ R.frames ∧ 8 + (maxL + 11) + 64 * d ≤ R.locals) (hf : ce + mc ≤ R.cells ∧ sl + ms ≤ R.slots) (hcat : catS S ≤ 8)
    (kk : ∀ (v : Option AV) (ws1 : va_W), Qy v ws1 → GB l X Y mi p e R s m args below meth c (ce + mc) (sl + ms) Q (pc + 3) L (v.toList ++ S) ws1) : GB l X Y mi p e R s m args below meth c ce sl Q pc L (As.reverse ++ rf a :: S) ws := by
  refine GB_call (Qy := Qy) (a := (Value.ref a :: As.map (cv X)).toArray) (fun H locs ls hP hD hS hl => ?_) kk
  have hpa := PcB_at B (As := rf a :: As) hP hD hS
  rw [List.map_cons, B.rf] at hpa
  have hg : GoodIn gtb (va_wsU mi.1 idx RJ4 y.cls y y (wsM y cc maxL ret)) := by
    intro w hw
    rcases List.mem_append.mp (show w ∈ ([.methodLink mi.1 idx y, .sameMethod y.cls y.cls y.name y.desc, .selects RJ4 y y, .instanceMethod y, .initialized y.cls] : List Cond) ++ wsM y cc maxL ret from hw) with h | h
    · simp only [List.mem_cons, List.not_mem_nil, or_false] at h
      rcases h with rfl | rfl | rfl | rfl | rfl
      · exact gtb_good _ (gm hlk rfl)
      · exact gtb_good _ (gm hsm rfl)
      · exact gtb_good _ (gm hse rfl)
      · exact gtb_good _ (gm hin rfl)
      · exact gtb_good _ (gm me.2.1 rfl)
    · exact wsB_in me w h
  exact va_runU (own := mi.1) (C := RJ4) (owner := y.cls) (x := y) (Ts := gtb) (n := nn) ⟨B.1.1, B.1.2.1, B.1.2.2.1, B.1.2.2.2.1, B.1.2.2.2.2.1⟩ hM (va_cwU nn B.1.2.2.2.2.1 hg rfl rfl rfl rfl ⟨me.2.2.2.1, me.2.2.2.2⟩ hR) ⟨PcB_blind, own_recv B hP he rfl, hpa⟩ rfl (by rw [List.length_map]; exact hn) hl.1 (by simp [B.rf]) (lv_room (catS_ok hcat)) hd hf
/-- a method that the builder's class has over the one that is named -/
theorem GB_callO {d mc ms idx nn q0 a : Nat} {fs : List Value} {x y : MethodName} {cc b0 : ByteArray} {m0 : Nat} {r0 : Option FieldType} {maxL : Nat} {ret : Option FieldType} {As : List AV} {Qy : Option AV → va_W → Prop} (B : BB X Y mi p s m args meth c) (he : ws[q0]? = some (a, .inr (0, fs)))
    (hM : MtB l X Y d y cc maxL ret (rf a :: As) mc ms ws Qy) (me : meOK y cc maxL ret nn) (mx : meOK x b0 m0 r0 nn) (hin : Cond.instanceMethod y ∈ lw_tbl) (hinx : Cond.instanceMethod x ∈ lw_tbl) (hlk : Cond.methodLink mi.1 idx x ∈ lw_tbl) (hsm : Cond.sameMethod x.cls x.cls x.name x.desc ∈ lw_tbl) (hse : Cond.selects RJ4 x y ∈ lw_tbl) (hd : decode mi.2.1 pc = .ok (.invokevirtual idx, 3)) (hn : As.length = nn)
    (hR : d + 1 ≤ R.frames ∧ 8 + (maxL + 11) + 64 * d ≤ R.locals) (hf : ce + mc ≤ R.cells ∧ sl + ms ≤ R.slots) (hcat : catS S ≤ 8)
    (kk : ∀ (v : Option AV) (ws1 : va_W), Qy v ws1 → GB l X Y mi p e R s m args below meth c (ce + mc) (sl + ms) Q (pc + 3) L (v.toList ++ S) ws1) : GB l X Y mi p e R s m args below meth c ce sl Q pc L (As.reverse ++ rf a :: S) ws := by
  refine GB_call (Qy := Qy) (a := (Value.ref a :: As.map (cv X)).toArray) (fun H locs ls hP hD hS hl => ?_) kk
  have hpa := PcB_at B (As := rf a :: As) hP hD hS
  rw [List.map_cons, B.rf] at hpa
  have hg : GoodIn gtb (va_wsO mi.1 idx RJ4 x.cls x y (wsM y cc maxL ret)) := by
    intro w hw
    rcases List.mem_append.mp (show w ∈ ([.methodLink mi.1 idx x, .sameMethod x.cls x.cls x.name x.desc, .instanceMethod x, .selects RJ4 x y, .instanceMethod y, .initialized y.cls] : List Cond) ++ wsM y cc maxL ret from hw) with h | h
    · simp only [List.mem_cons, List.not_mem_nil, or_false] at h
      rcases h with rfl | rfl | rfl | rfl | rfl | rfl
      · exact gtb_good _ (gm hlk rfl)
      · exact gtb_good _ (gm hsm rfl)
      · exact gtb_good _ (gm hinx rfl)
      · exact gtb_good _ (gm hse rfl)
      · exact gtb_good _ (gm hin rfl)
      · exact gtb_good _ (gm me.2.1 rfl)
    · exact wsB_in me w h
  exact va_runU (own := mi.1) (C := RJ4) (owner := x.cls) (x := x) (Ts := gtb) (n := nn) ⟨B.1.1, B.1.2.1, B.1.2.2.1, B.1.2.2.2.1, B.1.2.2.2.2.1⟩ hM (va_cwO nn B.1.2.2.2.2.1 hg rfl rfl rfl (gm mx.1 rfl) ⟨mx.2.2.2.1, mx.2.2.2.2⟩ hR) ⟨PcB_blind, own_recv B hP he rfl, hpa⟩ rfl (by rw [List.length_map]; exact hn) hl.1 (by simp [B.rf]) (lv_room (catS_ok hcat)) hd hf
/-- super.method -/
theorem GB_callSU {d mc ms idx nn q0 a : Nat} {fs : List Value} {y : MethodName} {cc : ByteArray} {maxL : Nat} {ret : Option FieldType} {As : List AV} {Qy : Option AV → va_W → Prop} (B : BB X Y mi p s m args meth c) (he : ws[q0]? = some (a, .inr (0, fs)))
    (hM : MtB l X Y d y cc maxL ret (rf a :: As) mc ms ws Qy) (me : meOK y cc maxL ret nn) (hin : Cond.instanceMethod y ∈ lw_tbl) (hlk : Cond.methodLink mi.1 idx y ∈ lw_tbl) (hsm : Cond.sameMethod y.cls y.cls y.name y.desc ∈ lw_tbl) (hsu : Cond.superclass mi.1 y.cls ∈ lw_tbl) (hno : y.name ≠ "<init>") (hd : decode mi.2.1 pc = .ok (.invokespecial idx, 3)) (hn : As.length = nn)
    (hR : d + 1 ≤ R.frames ∧ 8 + (maxL + 11) + 64 * d ≤ R.locals) (hf : ce + mc ≤ R.cells ∧ sl + ms ≤ R.slots) (hcat : catS S ≤ 8)
    (kk : ∀ (v : Option AV) (ws1 : va_W), Qy v ws1 → GB l X Y mi p e R s m args below meth c (ce + mc) (sl + ms) Q (pc + 3) L (v.toList ++ S) ws1) : GB l X Y mi p e R s m args below meth c ce sl Q pc L (As.reverse ++ rf a :: S) ws := by
  refine GB_call (Qy := Qy) (a := (Value.ref a :: As.map (cv X)).toArray) (fun H locs ls hP hD hS hl => ?_) kk
  have hpa := PcB_at B (As := rf a :: As) hP hD hS
  rw [List.map_cons, B.rf] at hpa
  have hg : GoodIn gtb (va_wsSU mi.1 idx y (wsM y cc maxL ret)) := by
    intro w hw
    rcases List.mem_append.mp (show w ∈ ([.methodLink mi.1 idx y, .sameMethod y.cls y.cls y.name y.desc, .superclass mi.1 y.cls, .instanceMethod y, .initialized y.cls] : List Cond) ++ wsM y cc maxL ret from hw) with h | h
    · simp only [List.mem_cons, List.not_mem_nil, or_false] at h
      rcases h with rfl | rfl | rfl | rfl | rfl
      · exact gtb_good _ (gm hlk rfl)
      · exact gtb_good _ (gm hsm rfl)
      · exact gtb_good _ (gm hsu rfl)
      · exact gtb_good _ (gm hin rfl)
      · exact gtb_good _ (gm me.2.1 rfl)
    · exact wsB_in me w h
  exact va_runSU (own := mi.1) (C := RJ4) (Ts := gtb) (n := nn) (B.hK.1 0 _ rfl).2 ⟨B.1.1, B.1.2.1, B.1.2.2.1, B.1.2.2.2.1, B.1.2.2.2.2.1⟩ hM (va_cwSU nn B.1.2.2.2.2.1 hg rfl rfl rfl ⟨hno, me.2.2.2.2.2⟩ hR) ⟨PcB_blind, own_recv B hP he rfl, hpa⟩ rfl (by rw [List.length_map]; exact hn) hl.1 (by simp [B.rf]) (lv_room (catS_ok hcat)) hd hf
end GBc
