/-! stretches, contracts, calls, ends -/
def blk (mi : MI) : Nat → List EI → Option Nat
  | pc, [] => some pc
  | pc, e :: es => match ste mi pc e with
    | none => none
    | some pc1 => blk mi pc1 es
def addC (c : Option Prop) (P : Prop) : Prop := match c with
  | none => P
  | some c => c ∧ P
def exs (fl : Fl) : List EI → AS → Option (Prop × AS)
  | [], σ => some (True, σ)
  | e :: es, σ => match ex1 fl e σ with
    | none => none
    | some (c, σ1) => match exs fl es σ1 with
      | none => none
      | some (P, σ2) => some (addC c P, σ2)
def flG (n : Nat) (fl : Fl) : Prop := flOK n fl ∧ ∀ j, j < 4 → fl 18 0 j = true → okc n 2 j = true
def okAs (n : Nat) (As : List AV) : Prop := ∀ v ∈ As, okV n v = true
def PcW (X : XC) (n : Nat) (fl : Fl) (w : Mem) (As : List AV) : Array Value → State → Prop := va_Pc (As.map (cv X)) (fun U => Wd X n fl w U.heap ∧ X.2.2.1.vm.Alike U.vm ∧ nstOK X U)
def QcW (X : XC) (Q : Option AV → Nat → Fl → Mem → Prop) : Array Value → State → Outcome → State → Prop := fun _ st oc t => (∃ (v : Option AV) (n1 : Nat) (fl1 : Fl) (w1 : Mem), oc = .returned (v.map (cv X)) ∧ Q v n1 fl1 w1 ∧ Wd X n1 fl1 w1 t.heap ∧ ∀ u, v = some u → okV n1 u = true) ∧ va_F (AA X) st t
abbrev rmD (d mc ms : Nat) : Room := { frames := d, cells := mc, slots := ms, locals := 64 * d }
abbrev wsM (y : MethodName) (cc : ByteArray) (maxL : Nat) (ret : Option FieldType) : List Cond := Cond.code y cc maxL ret :: gtb
/-- the contract of a method at one world: it returns, with Q -/
def Mt (l : Launch) (X : XC) (d : Nat) (y : MethodName) (cc : ByteArray) (maxL : Nat) (ret : Option FieldType) (As : List AV) (mc ms n : Nat) (fl : Fl) (w : Mem) (Q : Option AV → Nat → Fl → Mem → Prop) : Prop :=
  Met l y (wsM y cc maxL ret) (rmD d mc ms) (PcW X n fl w As) (QcW X Q) mc ms (AA X)
def enL : List AV → LL
  | [] => []
  | .inr (.inl x) :: t => some (.inr (.inl x)) :: none :: enL t
  | v :: t => some v :: enL t
def enN (As : List AV) (nL : Nat) : LL := enL As ++ List.replicate (nL - (enL As).length) none
theorem cv_cat1 {X : XC} {v : AV} (h : cat1 v = true) : ¬ (cv X v).category = 2 := by
  rcases v with x | x | _ | q
  · simp [cv, Value.category]
  · cases h
  · simp [cv, Value.category]
  · simp [cv, Value.category]
theorem enL_args {X : XC} : ∀ (As : List AV) (k : Nat), lvP X k (enL As) = lv_args k (As.map (cv X)) := by
  intro As
  induction As with
  | nil => intro k; rfl
  | cons v t ih =>
    intro k
    rcases v with x | x | _ | q
    · show (k, Value.int x) :: lvP X (k + 1) (enL t) = (k, Value.int x) :: lv_args (k + 1) _
      rw [ih]
    · show (k, Value.long x) :: lvP X (k + 1 + 1) (enL t) = (k, Value.long x) :: lv_args (k + 2) _
      rw [ih]
    · show (k, Value.null) :: lvP X (k + 1) (enL t) = (k, Value.null) :: lv_args (k + 1) _
      rw [ih]
    · show (k, Value.ref _) :: lvP X (k + 1) (enL t) = (k, Value.ref _) :: lv_args (k + 1) _
      rw [ih]
theorem enL_sl {X : XC} : ∀ (As : List AV), (lg_sl (As.map (cv X))).length = (enL As).length := by
  intro As
  induction As with
  | nil => rfl
  | cons v t ih =>
    rcases v with x | x | _ | q <;> simp [enL, lg_sl, cv, Value.category] at ih ⊢ <;> omega
theorem lvP_app {X : XC} {m : Nat} : ∀ (L : LL) (k : Nat), lvP X k (L ++ List.replicate m none) = lvP X k L := by
  have h0 : ∀ (m k : Nat), lvP X k (List.replicate m none) = [] := by
    intro m
    induction m with
    | zero => intro k; rfl
    | succ m ih => intro k; exact ih (k + 1)
  intro L
  induction L with
  | nil => intro k; exact h0 m k
  | cons a t ih =>
    intro k
    cases a with
    | none => exact ih (k + 1)
    | some v => exact congrArg (fun z => (k, cv X v) :: z) (ih (k + 1))
theorem enL_ok {n : Nat} : ∀ (As : List AV), okAs n As → ∀ v, some v ∈ enL As → okV n v = true := by
  intro As
  induction As with
  | nil => intro _ v hv; cases hv
  | cons a t ih =>
    intro h v hv
    have h2 := List.forall_mem_cons.mp h
    rcases a with x | x | _ | q <;> simp only [enL, List.mem_cons, reduceCtorEq, false_or, Option.some.injEq] at hv
    all_goals
      rcases hv with rfl | hv
      · exact h2.1
      · exact ih h2.2 v hv
theorem Met.ofWF {l : Launch} {y : MethodName} {ws ws' : List Cond} {rm : Room} {Pc : Array Value → State → Prop} {Qc : Array Value → State → Outcome → State → Prop} {mc ms : Nat} {free : Addr → Prop} {cc : ByteArray} {maxL : Nat} {ret : Option FieldType}
    (hy : plainFor y = true) (hw : ws = Cond.code y cc maxL ret :: ws')
    (body : ∀ p e s m args below meth c s₁, BodyLoose p l y (headSpec ws rm) cc maxL ret e s m args below meth c s₁ → c.maxLocals = maxL → Pc args s →
      W p l e (headSpec ws rm).room s m args below meth c s.heap [] 0 0 (MQ below Qc args s mc ms free) (entryFrame m args maxL)) : Met l y ws rm Pc Qc mc ms free := by
  refine MetFree.of_bodySF (code := cc) (maxLocals := maxL) (ret := ret) hy ?_ ?_
  · intro args s m h hn
    obtain ⟨meth, c, h1, h2, h3, h4, h5, h6, -, -⟩ := Cond.code_spec hn (atoms_spec (ws := ws) h _ (by rw [hw]; exact List.mem_cons_self))
    exact ⟨meth, c, h1, h2, h3, h4, h5, h6⟩
  · intro p e s m args below meth c s₁ B hml hP _
    have hh0 : s₁.heap = s.heap := by rw [B.state]; rfl
    obtain ⟨t, a1, o, b1, b2, b3⟩ := body p e s m args below meth c s₁ B hml hP s₁ hh0 (Stand.of_body B)
    exact ⟨t, o, a1, b1, b2, ⟨b3.1, b3.2⟩⟩
section CON
variable {l : Launch} {X : XC} {mi : MI} {p : Program} {e : Env} {R : Room} {s : State} {m : MethodId} {args : Array Value} {below : List Frame} {meth : Method} {c : Code} {ce sl : Nat} {Q : State → Prop} {n : Nat} {fl : Fl} {pc pc1 : Nat} {L L1 : LL} {S S1 : List AV} {w w1 : Mem} {P : Prop}
theorem G_run (B : Bd X mi p s m args meth c) (hfl : flG n fl) : ∀ (is : List EI) {pc : Nat} {L : LL} {S : List AV} {w : Mem} {P : Prop}, blk mi pc is = some pc1 → exs fl is (L, S, w) = some (P, L1, S1, w1) → P → G l X mi p e R s m args below meth c ce sl Q n fl pc1 L1 S1 w1 → G l X mi p e R s m args below meth c ce sl Q n fl pc L S w := by
  intro is
  induction is with
  | nil =>
    intro pc L S w P hb hx hP kk
    cases hb
    cases hx
    exact kk
  | cons ei es ih =>
    intro pc L S w P hb hx hP kk
    unfold blk at hb
    split at hb
    · cases hb
    · rename_i pc2 hst
      unfold exs at hx
      split at hx
      · cases hx
      · rename_i cd σ1 hex
        split at hx
        · cases hx
        · rename_i P2 σ2 hes
          obtain ⟨L2, S2, w2⟩ := σ1
          cases hx
          cases cd with
          | none => exact g_one B hfl.1 hfl.2 hst hex trivial (ih hb hes hP kk)
          | some cp => exact g_one B hfl.1 hfl.2 hst hex hP.1 (ih hb hes hP.2 kk)
/-- a method by its body -/
theorem Mt_of {d mc ms nn : Nat} {y : MethodName} {As : List AV} {Qy : Option AV → Nat → Fl → Mem → Prop} (hX : XOK X) (hmi : MIok mi) (me : meOK y mi.2.1 mi.2.2.1 mi.2.2.2.1 nn) (hcl : y.cls = mi.1) (hok : okAs n As) (hle : (enL As).length ≤ mi.2.2.1)
    (body : ∀ p e s m args below meth c, Bd X mi p s m args meth c → meth.name = y.name → G l X mi p e (rmD d mc ms) s m args below meth c 0 0 (MQ below (QcW X Qy) args s mc ms (AA X)) n fl 0 (enN As mi.2.2.1) [] w) : Mt l X d y mi.2.1 mi.2.2.1 mi.2.2.2.1 As mc ms n fl w Qy := by
  refine Met.ofWF (cc := mi.2.1) (maxL := mi.2.2.1) (ret := mi.2.2.2.1) me.2.2.1 rfl ?_
  intro p e s m args below meth c s₁ B hml hv
  obtain ⟨rfl, hW, hal, hns⟩ := hv
  have hts := atoms_spec (ws := wsM y mi.2.1 mi.2.2.1 mi.2.2.2.1) B.pre
  have hown : s.vm.findClass mi.1 = some m.cls := by rw [← hcl]; exact findClass_of_methodNamed B.named
  have hB : Bd X mi p s m (As.map (cv X)).toArray meth c := ⟨B.exec, B.bytes, hml, hown, fun w hw => hts w (List.mem_cons_of_mem _ hw), B.returns, B.notSynchronized, hal, hX, hmi, hW.2.2.1.1, hns⟩
  rw [lg_entry_eq]
  have hl := lv_entry (As.map (cv X)) (n := mi.2.2.1) (by rw [enL_sl]; exact hle)
  refine body p e s m _ below meth c hB (name_of_methodNamed B.named B.method).1 s.heap [] _ hW va_S.rf (lv_mono hl (fun q hq => ?_)) ?_ ?_ (fun v hv => by cases hv)
  · rw [enN, lvP_app, enL_args] at hq; exact hq
  · simp only [enN, List.length_append, List.length_replicate]; omega
  · intro v hv
    rcases List.mem_append.mp hv with h | h
    · exact enL_ok As hok v h
    · have := List.eq_of_mem_replicate h; cases this
-- ends
theorem G_fin {Qy : Option AV → Nat → Fl → Mem → Prop} {v : Option AV} {H : Heap} {locs : List Loc} (hW : Wd X n fl w H) (hS : va_S (AA X) s.heap H locs) (hq : Qy v n fl w) (hv : ∀ u, v = some u → okV n u = true) : ∀ t : State, t.heap = H → s.WarmedH t.vm → QcW X Qy args s (.returned (v.map (cv X))) t := by
  intro t ht _
  exact ⟨⟨v, n, fl, w, rfl, hq, by rw [ht]; exact hW, hv⟩, hS.F ht⟩
theorem G_iret {Qy : Option AV → Nat → Fl → Mem → Prop} {v : Int32} (B : Bd X mi p s m args meth c) (hr : mi.2.2.2.1 = some .int) (hd : decode mi.2.1 pc = .ok (.ireturn, 1)) (hq : Qy (some (.inl v)) n fl w) : G l X mi p e R s m args below meth c ce sl (MQ below (QcW X Qy) args s ce sl (AA X)) n fl pc L [.inl v] w := by
  intro H locs ls hW hS hl hL oL oS
  exact W.iret B.1 B.2.1 (by rw [B.2.2.2.2.2.1]; exact hr) (G_fin (v := some (.inl v)) hW hS hq (fun u hu => by cases hu; rfl)) hS.2.2 hd B.2.2.2.2.2.2.1
theorem G_zret {Qy : Option AV → Nat → Fl → Mem → Prop} {v : Int32} {ty : FieldType} (B : Bd X mi p s m args meth c) (hr : mi.2.2.2.1 = some ty) (hn : narrow ty (.int v) = .int v) (hd : decode mi.2.1 pc = .ok (.ireturn, 1)) (hq : Qy (some (.inl v)) n fl w) : G l X mi p e R s m args below meth c ce sl (MQ below (QcW X Qy) args s ce sl (AA X)) n fl pc L [.inl v] w := by
  intro H locs ls hW hS hl hL oL oS
  exact W.zret B.1 B.2.1 (by rw [B.2.2.2.2.2.1]; exact hr) hn (G_fin (v := some (.inl v)) hW hS hq (fun u hu => by cases hu; rfl)) hS.2.2 hd B.2.2.2.2.2.2.1
theorem G_lret {Qy : Option AV → Nat → Fl → Mem → Prop} {v : Int64} (B : Bd X mi p s m args meth c) (hr : mi.2.2.2.1 = some .long) (hd : decode mi.2.1 pc = .ok (.lreturn, 1)) (hq : Qy (some (.inr (.inl v))) n fl w) : G l X mi p e R s m args below meth c ce sl (MQ below (QcW X Qy) args s ce sl (AA X)) n fl pc L [.inr (.inl v)] w := by
  intro H locs ls hW hS hl hL oL oS
  exact W.lret B.1 B.2.1 (by rw [B.2.2.2.2.2.1]; exact hr) (G_fin (v := some (.inr (.inl v))) hW hS hq (fun u hu => by cases hu; rfl)) hS.2.2 hd B.2.2.2.2.2.2.1
theorem G_vret {Qy : Option AV → Nat → Fl → Mem → Prop} (B : Bd X mi p s m args meth c) (hr : mi.2.2.2.1 = none) (hd : decode mi.2.1 pc = .ok (.return_, 1)) (hq : Qy none n fl w) : G l X mi p e R s m args below meth c ce sl (MQ below (QcW X Qy) args s ce sl (AA X)) n fl pc L [] w := by
  intro H locs ls hW hS hl hL oL oS
  exact W.vret B.1 B.2.1 (by rw [B.2.2.2.2.2.1]; exact hr) (G_fin (v := none) hW hS hq (fun u hu => by cases hu)) hS.2.2 hd B.2.2.2.2.2.2.1
theorem G_aret {Qy : Option AV → Nat → Fl → Mem → Prop} {r : Option (Nat × Nat)} {C : String} (B : Bd X mi p s m args meth c) (hr : mi.2.2.2.1 = some (.object C)) (hd : decode mi.2.1 pc = .ok (.areturn, 1)) (hq : Qy (some (.inr (.inr r))) n fl w) : G l X mi p e R s m args below meth c ce sl (MQ below (QcW X Qy) args s ce sl (AA X)) n fl pc L [.inr (.inr r)] w := by
  intro H locs ls hW hS hl hL oL oS
  have h1 := G_fin (args := args) (v := some (.inr (.inr r))) hW hS hq (fun u hu => by cases hu; exact (List.forall_mem_cons.mp oS).1)
  cases r with
  | none => exact W.aret B.1 B.2.1 (by rw [B.2.2.2.2.2.1]; exact hr) (Or.inl ⟨_, rfl⟩) (Or.inl rfl) h1 hS.2.2 hd B.2.2.2.2.2.2.1
  | some q => exact W.aret B.1 B.2.1 (by rw [B.2.2.2.2.2.1]; exact hr) (Or.inl ⟨_, rfl⟩) (Or.inr ⟨_, rfl⟩) h1 hS.2.2 hd B.2.2.2.2.2.2.1
-- calls
theorem okc_mono {n n1 k i : Nat} (h : n ≤ n1) (hc : okc n k i = true) : okc n1 k i = true := by
  simp only [okc, Bool.and_eq_true, decide_eq_true_eq] at hc ⊢
  exact ⟨by omega, hc.2⟩
theorem okV_mono {n n1 : Nat} {v : AV} (h : n ≤ n1) (hc : okV n v = true) : okV n1 v = true := by
  rcases v with x | x | _ | ⟨k, i⟩
  · rfl
  · rfl
  · rfl
  · show okR n1 (k, i) = true
    have hc : okR n (k, i) = true := hc
    unfold okR at hc ⊢
    split at hc
    · exact hc
    · exact hc
    · exact okc_mono h hc
theorem PcW_blind {As : List AV} : FrameBlind (PcW X n fl w As) := fun a U g mk q => ⟨q.1, q.2.1, q.2.2.1, fun a2 i x h hm => va_Nw.same rfl rfl (q.2.2.2.1 a2 i x h hm), fun z hz => vk_R.same rfl (q.2.2.2.2 z hz)⟩
theorem PcW_at (B : Bd X mi p s m args meth c) {As : List AV} {H : Heap} (hW : Wd X n fl w H) : ∀ U : State, U.heap = H → s.WarmedH U.vm → PcW X n fl w As (As.map (cv X)).toArray U := by
  intro U hU hWm
  exact ⟨rfl, by rw [hU]; exact hW, B.2.2.2.2.2.2.2.1.trans hWm.alike, fun a2 i x h hm => va_Nw.warmM hWm (B.2.2.2.2.2.2.2.2.2.2.2.1 a2 i x h hm), fun z hz => vk_R.warm hWm (B.2.2.2.2.2.2.2.2.2.2.2.2 z hz)⟩
theorem G_call {mc ms : Nat} {a : Array Value} {st0 : List AV} {Qy : Option AV → Nat → Fl → Mem → Prop}
    (hr : ∀ (H : Heap) (locs : List Loc) (ls : Array Slot), Wd X n fl w H → lv_has ls mi.2.2.1 (lvP X 0 L) → (∀ v ∈ st0, okV n v = true) → va_Run p l e R s m args below meth c H locs ce sl mc ms (F0 m pc ls (st0.map (cv X))) (S.map (cv X)) (QcW X Qy a) (AA X))
    (hsub : ∀ v ∈ S, v ∈ st0) (hmn : ∀ (v : Option AV) (n1 : Nat) (fl1 : Fl) (w1 : Mem), Qy v n1 fl1 w1 → n ≤ n1)
    (kk : ∀ (v : Option AV) (n1 : Nat) (fl1 : Fl) (w1 : Mem), Qy v n1 fl1 w1 → G l X mi p e R s m args below meth c (ce + mc) (sl + ms) Q n1 fl1 (pc + 3) L (v.toList ++ S) w1) : G l X mi p e R s m args below meth c ce sl Q n fl pc L st0 w := by
  intro H locs ls hW hS hl hL oL oS T hT X0
  obtain ⟨v0, st₀, t, T', L2, h0, X', hL2, e1, e2, ⟨⟨v, n1, fl1, w1, hv, hq, hW1, hov⟩, hz, hk⟩, st⟩ := hr H locs ls hW hl oS T hT X0
  cases hv
  rw [h0] at hz hk
  have hn : n ≤ n1 := hmn v n1 fl1 w1 hq
  have hS1 : va_S (AA X) s.heap T'.heap (locs ++ L2) := ⟨Nat.le_trans hS.1 (by rw [e1]; exact hz), fun q h1 h2 => by rw [e1, hk q (Nat.lt_of_lt_of_le h1 hS.1) h2]; exact hS.2.1 q h1 h2, fun q hq => by
      rcases List.mem_append.mp hq with h | h
      · exact hS.2.2 q h
      · exact hL2 q h⟩
  have h3 : (v.map (cv X)).toList ++ S.map (cv X) = (v.toList ++ S).map (cv X) := by cases v <;> simp
  obtain ⟨t2, a1, b1⟩ := kk v n1 fl1 w1 hq T'.heap (locs ++ L2) ls (by rw [e1]; exact hW1) hS1 hl hL (fun u hu => okV_mono hn (oL u hu)) (fun u hu => by
      rcases List.mem_append.mp hu with h | h
      · cases v with
        | none => cases h
        | some x => rw [List.mem_singleton.mp h]; exact hov x rfl
      · exact okV_mono hn (oS u (hsub u h))) T' rfl X'
  exact ⟨t2, st t2 (by rw [h3]; exact a1), b1⟩
def catS (S : List AV) : Nat := (S.map fun v => if cat1 v = true then 1 else 2).sum
theorem catS_ok (h : catS S ≤ 8) : ((S.map (cv X)).map fun v => v.category).sum ≤ 8 := by
  have e1 : (S.map (cv X)).map (fun v => v.category) = S.map fun v => if cat1 v = true then 1 else 2 := by
    rw [List.map_map]
    refine List.map_congr_left (fun v _ => ?_)
    rcases v with x | x | _ | q <;> rfl
  rw [e1]; exact h
theorem ws_in (B : Bd X mi p s m args meth c) {y : MethodName} {cc : ByteArray} {maxL nn : Nat} {ret : Option FieldType} (me : meOK y cc maxL ret nn) : GoodIn gtb (wsM y cc maxL ret) := by
  intro w hw
  rcases List.mem_cons.mp hw with rfl | h
  · exact gtb_good _ (gm me.1 rfl)
  · exact gtb_good _ h
theorem G_callS {d mc ms idx nn : Nat} {y : MethodName} {cc : ByteArray} {maxL : Nat} {ret : Option FieldType} {As : List AV} {Qy : Option AV → Nat → Fl → Mem → Prop} (B : Bd X mi p s m args meth c)
    (hM : Mt l X d y cc maxL ret As mc ms n fl w Qy) (me : meOK y cc maxL ret nn) (hst : Cond.static y ∈ lw_tbl) (hlk : Cond.methodLink mi.1 idx y ∈ lw_tbl) (hd : decode mi.2.1 pc = .ok (.invokestatic idx, 3)) (hn : As.length = nn)
    (hR : d + 1 ≤ R.frames ∧ 8 + (maxL + 11) + 64 * d ≤ R.locals) (hf : ce + mc ≤ R.cells ∧ sl + ms ≤ R.slots) (hcat : catS S ≤ 8) (hmn : ∀ (v : Option AV) (n1 : Nat) (fl1 : Fl) (w1 : Mem), Qy v n1 fl1 w1 → n ≤ n1)
    (kk : ∀ (v : Option AV) (n1 : Nat) (fl1 : Fl) (w1 : Mem), Qy v n1 fl1 w1 → G l X mi p e R s m args below meth c (ce + mc) (sl + ms) Q n1 fl1 (pc + 3) L (v.toList ++ S) w1) : G l X mi p e R s m args below meth c ce sl Q n fl pc L (As.reverse ++ S) w := by
  refine G_call (Qy := Qy) (a := (As.map (cv X)).toArray) (fun H locs ls hW hl oS => ?_) (fun v hv => List.mem_append_right _ hv) hmn kk
  refine va_runS (own := mi.1) (Ts := gtb) (n := nn) ⟨B.1, B.2.1, B.2.2.1, B.2.2.2.1, B.2.2.2.2.1⟩ hM ⟨callB_of nn B.2.2.2.2.1 (ws_in B me) rfl rfl rfl (B.hw me.2.1 rfl) (B.hw hlk rfl) ⟨me.2.2.2.1, me.2.2.2.2⟩ hR, B.hw hst rfl⟩ ⟨PcW_blind, PcW_at B hW⟩ rfl (by rw [List.length_map]; exact hn) hl.1 (by simp) (lv_room (catS_ok hcat)) hd hf
theorem G_callSN {d mc ms idx nn : Nat} {y : MethodName} {host : String} {cc : ByteArray} {maxL : Nat} {ret : Option FieldType} {As : List AV} {Qy : Option AV → Nat → Fl → Mem → Prop} (B : Bd X mi p s m args meth c)
    (hM : Mt l X d y cc maxL ret As mc ms n fl w Qy) (me : meOK y cc maxL ret nn) (hst : Cond.static y ∈ lw_tbl) (hlk : Cond.methodLinkNest mi.1 idx y host ∈ lw_tbl) (hd : decode mi.2.1 pc = .ok (.invokestatic idx, 3)) (hn : As.length = nn)
    (hR : d + 1 ≤ R.frames ∧ 8 + (maxL + 11) + 64 * d ≤ R.locals) (hf : ce + mc ≤ R.cells ∧ sl + ms ≤ R.slots) (hcat : catS S ≤ 8) (hmn : ∀ (v : Option AV) (n1 : Nat) (fl1 : Fl) (w1 : Mem), Qy v n1 fl1 w1 → n ≤ n1)
    (kk : ∀ (v : Option AV) (n1 : Nat) (fl1 : Fl) (w1 : Mem), Qy v n1 fl1 w1 → G l X mi p e R s m args below meth c (ce + mc) (sl + ms) Q n1 fl1 (pc + 3) L (v.toList ++ S) w1) : G l X mi p e R s m args below meth c ce sl Q n fl pc L (As.reverse ++ S) w := by
  refine G_call (Qy := Qy) (a := (As.map (cv X)).toArray) (fun H locs ls hW hl oS => ?_) (fun v hv => List.mem_append_right _ hv) hmn kk
  refine va_runSN (own := mi.1) (Ts := gtb) (n := nn) ⟨B.1, B.2.1, B.2.2.1, B.2.2.2.1, B.2.2.2.2.1⟩ hM ⟨va_cnB nn B.2.2.2.2.1 (ws_in B me) rfl rfl rfl (B.2.2.2.2.2.2.2.2.2.2.2.1 _ _ _ _ hlk) (B.hw me.2.1 rfl) ⟨me.2.2.2.1, me.2.2.2.2⟩ hR, B.hw hst rfl, trivial⟩ ⟨PcW_blind, PcW_at B hW⟩ rfl (by rw [List.length_map]; exact hn) hl.1 (by simp) (lv_room (catS_ok hcat)) hd hf
theorem recv_ok (B : Bd X mi p s m args meth c) {H : Heap} {k i : Nat} (hW : Wd X n fl w H) (hk : k < 6) (hok : okV n (.inr (.inr (some (k, i)))) = true) : ∃ cell : Cell, H[adr X k i]? = some cell ∧ cell.vm.isStatics = false ∧ s.vm.findClass (cC k).1 = some cell.cls :=
  va_recv B.hK hW.1 (cC_get k hk) ((wl_get hW.2.2.2.1 (own_ref (by omega) hok)).trans (by rw [ent_o hk]))
theorem G_callV {d mc ms idx nn k i : Nat} {y : MethodName} {cc : ByteArray} {maxL : Nat} {ret : Option FieldType} {As : List AV} {Qy : Option AV → Nat → Fl → Mem → Prop} (B : Bd X mi p s m args meth c) (hk : k < 6)
    (hM : Mt l X d y cc maxL ret (.inr (.inr (some (k, i))) :: As) mc ms n fl w Qy) (me : meOK y cc maxL ret nn) (hin : Cond.instanceMethod y ∈ lw_tbl) (hse : Cond.selects y.cls y y ∈ lw_tbl) (hcls : y.cls = (cC k).1) (hlk : Cond.methodLink mi.1 idx y ∈ lw_tbl) (hd : decode mi.2.1 pc = .ok (.invokevirtual idx, 3)) (hn : As.length = nn)
    (hR : d + 1 ≤ R.frames ∧ 8 + (maxL + 11) + 64 * d ≤ R.locals) (hf : ce + mc ≤ R.cells ∧ sl + ms ≤ R.slots) (hcat : catS S ≤ 8) (hmn : ∀ (v : Option AV) (n1 : Nat) (fl1 : Fl) (w1 : Mem), Qy v n1 fl1 w1 → n ≤ n1)
    (kk : ∀ (v : Option AV) (n1 : Nat) (fl1 : Fl) (w1 : Mem), Qy v n1 fl1 w1 → G l X mi p e R s m args below meth c (ce + mc) (sl + ms) Q n1 fl1 (pc + 3) L (v.toList ++ S) w1) : G l X mi p e R s m args below meth c ce sl Q n fl pc L (As.reverse ++ .inr (.inr (some (k, i))) :: S) w := by
  refine G_call (Qy := Qy) (a := (Value.ref (adr X k i) :: As.map (cv X)).toArray) (fun H locs ls hW hl oS => ?_) (fun v hv => List.mem_append_right _ (List.mem_cons_of_mem _ hv)) hmn kk
  have hrc := recv_ok B hW hk (oS _ (List.mem_append_right _ List.mem_cons_self))
  exact va_runV (own := mi.1) (C := y.cls) (Ts := gtb) (n := nn) ⟨B.1, B.2.1, B.2.2.1, B.2.2.2.1, B.2.2.2.2.1⟩ hM ⟨callB_of nn B.2.2.2.2.1 (ws_in B me) rfl rfl rfl (B.hw me.2.1 rfl) (B.hw hlk rfl) ⟨me.2.2.2.1, me.2.2.2.2⟩ hR, B.hw hin rfl, B.hw hse rfl⟩ ⟨PcW_blind, by rw [hcls]; exact hrc, PcW_at B hW⟩ rfl (by rw [List.length_map]; exact hn) hl.1 (by simp; rfl) (lv_room (catS_ok hcat)) hd hf
theorem G_callI {d mc ms idx nn k i : Nat} {y : MethodName} {cc : ByteArray} {maxL : Nat} {As : List AV} {Qy : Option AV → Nat → Fl → Mem → Prop} (B : Bd X mi p s m args meth c)
    (hM : Mt l X d y cc maxL none (.inr (.inr (some (k, i))) :: As) mc ms n fl w Qy) (me : meOK y cc maxL none nn) (hin : Cond.instanceMethod y ∈ lw_tbl) (hy1 : y.name = "<init>") (hlk : Cond.methodLink mi.1 idx y ∈ lw_tbl) (hd : decode mi.2.1 pc = .ok (.invokespecial idx, 3)) (hn : As.length = nn)
    (hR : d + 1 ≤ R.frames ∧ 8 + (maxL + 11) + 64 * d ≤ R.locals) (hf : ce + mc ≤ R.cells ∧ sl + ms ≤ R.slots) (hcat : catS S ≤ 8) (hmn : ∀ (v : Option AV) (n1 : Nat) (fl1 : Fl) (w1 : Mem), Qy v n1 fl1 w1 → n ≤ n1)
    (kk : ∀ (v : Option AV) (n1 : Nat) (fl1 : Fl) (w1 : Mem), Qy v n1 fl1 w1 → G l X mi p e R s m args below meth c (ce + mc) (sl + ms) Q n1 fl1 (pc + 3) L (v.toList ++ S) w1) : G l X mi p e R s m args below meth c ce sl Q n fl pc L (As.reverse ++ .inr (.inr (some (k, i))) :: S) w := by
  refine G_call (Qy := Qy) (a := (Value.ref (adr X k i) :: As.map (cv X)).toArray) (fun H locs ls hW hl oS => ?_) (fun v hv => List.mem_append_right _ (List.mem_cons_of_mem _ hv)) hmn kk
  exact va_runI (own := mi.1) (Ts := gtb) (n := nn) ⟨B.1, B.2.1, B.2.2.1, B.2.2.2.1, B.2.2.2.2.1⟩ hM ⟨callB_of nn B.2.2.2.2.1 (ws_in B me) rfl rfl rfl (B.hw me.2.1 rfl) (B.hw hlk rfl) ⟨me.2.2.2.1, me.2.2.2.2⟩ hR, hy1, B.hw hin rfl⟩ ⟨PcW_blind, PcW_at B hW⟩ rfl (by rw [List.length_map]; exact hn) hl.1 (by simp; rfl) (lv_room (catS_ok hcat)) hd hf
theorem G_callIN {d mc ms idx nn k i : Nat} {y : MethodName} {host : String} {cc : ByteArray} {maxL : Nat} {As : List AV} {Qy : Option AV → Nat → Fl → Mem → Prop} (B : Bd X mi p s m args meth c)
    (hM : Mt l X d y cc maxL none (.inr (.inr (some (k, i))) :: As) mc ms n fl w Qy) (me : meOK y cc maxL none nn) (hin : Cond.instanceMethod y ∈ lw_tbl) (hy1 : y.name = "<init>") (hlk : Cond.methodLinkNest mi.1 idx y host ∈ lw_tbl) (hd : decode mi.2.1 pc = .ok (.invokespecial idx, 3)) (hn : As.length = nn)
    (hR : d + 1 ≤ R.frames ∧ 8 + (maxL + 11) + 64 * d ≤ R.locals) (hf : ce + mc ≤ R.cells ∧ sl + ms ≤ R.slots) (hcat : catS S ≤ 8) (hmn : ∀ (v : Option AV) (n1 : Nat) (fl1 : Fl) (w1 : Mem), Qy v n1 fl1 w1 → n ≤ n1)
    (kk : ∀ (v : Option AV) (n1 : Nat) (fl1 : Fl) (w1 : Mem), Qy v n1 fl1 w1 → G l X mi p e R s m args below meth c (ce + mc) (sl + ms) Q n1 fl1 (pc + 3) L (v.toList ++ S) w1) : G l X mi p e R s m args below meth c ce sl Q n fl pc L (As.reverse ++ .inr (.inr (some (k, i))) :: S) w := by
  refine G_call (Qy := Qy) (a := (Value.ref (adr X k i) :: As.map (cv X)).toArray) (fun H locs ls hW hl oS => ?_) (fun v hv => List.mem_append_right _ (List.mem_cons_of_mem _ hv)) hmn kk
  exact va_runIN (own := mi.1) (Ts := gtb) (n := nn) ⟨B.1, B.2.1, B.2.2.1, B.2.2.2.1, B.2.2.2.2.1⟩ hM ⟨va_cnB nn B.2.2.2.2.1 (ws_in B me) rfl rfl rfl (B.2.2.2.2.2.2.2.2.2.2.2.1 _ _ _ _ hlk) (B.hw me.2.1 rfl) ⟨me.2.2.2.1, me.2.2.2.2⟩ hR, hy1, B.hw hin rfl⟩ ⟨PcW_blind, PcW_at B hW⟩ rfl (by rw [List.length_map]; exact hn) hl.1 (by simp; rfl) (lv_room (catS_ok hcat)) hd hf
end CON
