/-! A METHOD AS A FUNCTION: if the expression E answers r, then from here on the method returns what E says -/
def GE {ρ : Type} (l : Launch) (X : XC) (mi : MI) (d : Nat) (em : ρ → Option AV × Mem) (n : Nat) (fl : Fl) (E : Option ρ) (pc : Nat) (L : LL) (S : List AV) (w : Mem) : Prop :=
  ∀ (r : ρ), E = some r → ∀ (p : Program) (e : Env) (s : State) (m : MethodId) (args : Array Value) (below : List Frame) (meth : Method) (c : Code), Bd X mi p s m args meth c →
    G l X mi p e (rmD d 0 0) s m args below meth c 0 0 (MQ below (QcW X (fun v n1 fl1 w1 => n1 = n ∧ fl1 = fl ∧ (v, w1) = em r)) args s 0 0 (AA X)) n fl pc L S w
def Ct {ρ : Type} (l : Launch) (X : XC) (d : Nat) (y : MethodName) (cc : ByteArray) (maxL : Nat) (ret : Option FieldType) (em : ρ → Option AV × Mem) (As : List AV) (n : Nat) (fl : Fl) (w : Mem) (E : Option ρ) : Prop :=
  XOK X → ∀ (r : ρ), E = some r → Mt l X d y cc maxL ret As 0 0 n fl w (fun v n1 fl1 w1 => n1 = n ∧ fl1 = fl ∧ (v, w1) = em r)
def emI : Int32 × Mem → Option AV × Mem := fun q => (some (.inl q.1), q.2)
def emL : Int64 × Mem → Option AV × Mem := fun q => (some (.inr (.inl q.1)), q.2)
def emA : Option (Nat × Nat) × Mem → Option AV × Mem := fun q => (some (.inr (.inr q.1)), q.2)
def emV : Mem → Option AV × Mem := fun w => (none, w)
theorem okM {n : Nat} (hn : 39 ≤ n) {q : Nat × Nat} (h : okR 39 q = true) : okR n q = true := okV_mono (v := .inr (.inr (some q))) hn h
theorem okMV {n : Nat} (hn : 39 ≤ n) {v : AV} (h : okV 39 v = true) : okV n v = true := okV_mono hn h
theorem flG_T {n : Nat} (hn : 39 ≤ n) : flG n flT := by
  refine ⟨?_, fun j hj _ => okc_mono hn ((by decide +kernel : ∀ j, j < 4 → okc 39 2 j = true) j hj)⟩
  intro k i j hok hk t ht _
  obtain ⟨h1, h2⟩ := okc_spec hok
  have h40 : ord k i < 40 := by
    rcases Nat.lt_or_ge (ord k i) 40 with h | h
    · exact h
    · have h3 : al (ord k i) = (99, 0) := by
        unfold al
        rw [List.getD_eq_getElem?_getD, List.getElem?_eq_none (by rw [show alT.length = 40 by decide]; exact h)]
        rfl
      rw [h3] at h2
      have : (99 : Nat) = k := congrArg (fun z => z.1) h2
      omega
  have key : ∀ q, q < 40 → (al q).1 < 6 → ∀ j, j < 11 → ∀ t, fdD (al q).1 j = some t → okR 39 (t.1, t.2.getD (al q).2) = true := by
    have h : ∀ q, q < 40 → (al q).1 < 6 → ∀ j, j < 11 → (match fdD (al q).1 j with | some t => okR 39 (t.1, t.2.getD (al q).2) | none => true) = true := by decide +kernel
    intro q hq h6 j hj t ht
    have h1 := h q hq h6 j hj
    rw [ht] at h1
    exact h1
  have hj : j < 11 := by
    rcases Nat.lt_or_ge j 11 with h | h
    · exact h
    · have hl : ∀ k, k < 6 → (fldT.getD k []).length ≤ 11 := by decide +kernel
      have h3 : fdD k j = none := by
        unfold fdD
        rw [List.getD_eq_getElem?_getD, List.getElem?_eq_none (by have := hl k hk; omega)]
        rfl
      rw [h3] at ht; cases ht
  have h4 := key (ord k i) h40 (by rw [h2]; exact hk) j hj t (by rw [h2]; exact ht)
  rw [h2] at h4
  exact okM hn h4
def cnd (k : ClassFile.Cond) (x y : Int32) : Prop := match k with
  | .eq => x = y
  | .ne => ¬ x = y
  | .lt => x < y
  | .ge => y ≤ x
  | .gt => y < x
  | .le => x ≤ y
section GEs
variable {l : Launch} {X : XC} {mi : MI} {d : Nat} {ρ ρ' : Type} {em : ρ → Option AV × Mem} {em' : ρ' → Option AV × Mem} {n : Nat} {fl : Fl} {E E1 E2 : Option ρ} {pc pc1 tgt : Nat} {L L1 : LL} {S S1 : List AV} {w w1 : Mem} {P : Prop} {off : Int} {k : ClassFile.Cond} {x y : Int32}
theorem GE_none : GE l X mi d em n fl none pc L S w := fun r h => by cases h
theorem GE_run (hfl : flG n fl) (is : List EI) (hb : blk mi pc is = some pc1) (hx : exs fl is (L, S, w) = some (P, L1, S1, w1)) (hP : P) (kk : GE l X mi d em n fl E pc1 L1 S1 w1) : GE l X mi d em n fl E pc L S w :=
  fun r hr p e s m args below meth c B => G_run B hfl is hb hx hP (kk r hr p e s m args below meth c B)
theorem GE_chk [Decidable P] (kk : P → GE l X mi d em n fl E pc L S w) : GE l X mi d em n fl (if P then E else none) pc L S w := by
  intro r hr
  by_cases h : P
  · rw [if_pos h] at hr; exact kk h r hr
  · rw [if_neg h] at hr; cases hr
theorem GE_eq (h : E = E1) (kk : GE l X mi d em n fl E1 pc L S w) : GE l X mi d em n fl E pc L S w := h ▸ kk
theorem G_if {p : Program} {e : Env} {R : Room} {s : State} {m : MethodId} {args : Array Value} {below : List Frame} {meth : Method} {c : Code} {ce sl : Nat} {Q : State → Prop} (B : Bd X mi p s m args meth c) (hd : decode mi.2.1 pc = .ok (.ifCond k off, 3)) (ht : (pc : Int) + off = (tgt : Int))
    (t : cnd k x 0 → G l X mi p e R s m args below meth c ce sl Q n fl tgt L S w) (f : ¬ cnd k x 0 → G l X mi p e R s m args below meth c ce sl Q n fl (pc + 3) L S w) : G l X mi p e R s m args below meth c ce sl Q n fl pc L (.inl x :: S) w := by
  intro H locs ls hW hS hl hL oL oS
  have oS2 := (List.forall_mem_cons.mp oS).2
  have kt := fun h => t h H locs ls hW hS hl hL oL oS2
  have kf := fun h => f h H locs ls hW hS hl hL oL oS2
  cases k with
  | eq => exact lv_if_eq B.1 B.2.1 hd ht kt kf
  | ne => exact lv_if_ne B.1 B.2.1 hd ht kt (fun h => kf (fun z => z h))
  | lt => exact lv_if_lt B.1 B.2.1 hd ht kt kf
  | ge => exact lv_if_ge B.1 B.2.1 hd ht kt kf
  | gt => exact lv_if_gt B.1 B.2.1 hd ht kt kf
  | le => exact lv_if_le B.1 B.2.1 hd ht kt kf
theorem G_icmp {p : Program} {e : Env} {R : Room} {s : State} {m : MethodId} {args : Array Value} {below : List Frame} {meth : Method} {c : Code} {ce sl : Nat} {Q : State → Prop} (B : Bd X mi p s m args meth c) (hd : decode mi.2.1 pc = .ok (.if_icmp k off, 3)) (ht : (pc : Int) + off = (tgt : Int))
    (t : cnd k x y → G l X mi p e R s m args below meth c ce sl Q n fl tgt L S w) (f : ¬ cnd k x y → G l X mi p e R s m args below meth c ce sl Q n fl (pc + 3) L S w) : G l X mi p e R s m args below meth c ce sl Q n fl pc L (.inl y :: .inl x :: S) w := by
  intro H locs ls hW hS hl hL oL oS
  have oS2 := (List.forall_mem_cons.mp (List.forall_mem_cons.mp oS).2).2
  have kt := fun h => t h H locs ls hW hS hl hL oL oS2
  have kf := fun h => f h H locs ls hW hS hl hL oL oS2
  cases k with
  | eq => exact lv_icmp_eq B.1 B.2.1 hd ht kt kf
  | ne => exact lv_icmp_ne B.1 B.2.1 hd ht kt (fun h => kf (fun z => z h))
  | lt => exact lv_icmp_lt B.1 B.2.1 hd ht kt kf
  | ge => exact lv_icmp_ge B.1 B.2.1 hd ht kt kf
  | gt => exact lv_icmp_gt B.1 B.2.1 hd ht kt kf
  | le => exact lv_icmp_le B.1 B.2.1 hd ht kt kf
/-- a branch on one number; P is where it goes on (GE_if: jumps, GE_ifN: does not) -/
theorem GE_if [Decidable P] (hd : decode mi.2.1 pc = .ok (.ifCond k off, 3)) (ht : (pc : Int) + off = (tgt : Int)) (hP : cnd k x 0 ↔ P) (t : P → GE l X mi d em n fl E1 tgt L S w) (f : ¬ P → GE l X mi d em n fl E2 (pc + 3) L S w) : GE l X mi d em n fl (if P then E1 else E2) pc L (.inl x :: S) w := by
  intro r hr p e s m args below meth c B
  refine G_if B hd ht (fun h => ?_) (fun h => ?_)
  · have h1 := hP.mp h; rw [if_pos h1] at hr; exact t h1 r hr p e s m args below meth c B
  · have h1 : ¬ P := fun z => h (hP.mpr z); rw [if_neg h1] at hr; exact f h1 r hr p e s m args below meth c B
theorem GE_ifN [Decidable P] (hd : decode mi.2.1 pc = .ok (.ifCond k off, 3)) (ht : (pc : Int) + off = (tgt : Int)) (hP : cnd k x 0 ↔ ¬ P) (t : ¬ P → GE l X mi d em n fl E2 tgt L S w) (f : P → GE l X mi d em n fl E1 (pc + 3) L S w) : GE l X mi d em n fl (if P then E1 else E2) pc L (.inl x :: S) w := by
  intro r hr p e s m args below meth c B
  refine G_if B hd ht (fun h => ?_) (fun h => ?_)
  · have h1 := hP.mp h; rw [if_neg h1] at hr; exact t h1 r hr p e s m args below meth c B
  · have h1 : P := Decidable.byContradiction fun z => h (hP.mpr z)
    rw [if_pos h1] at hr; exact f h1 r hr p e s m args below meth c B
theorem GE_icmp [Decidable P] (hd : decode mi.2.1 pc = .ok (.if_icmp k off, 3)) (ht : (pc : Int) + off = (tgt : Int)) (hP : cnd k x y ↔ P) (t : P → GE l X mi d em n fl E1 tgt L S w) (f : ¬ P → GE l X mi d em n fl E2 (pc + 3) L S w) : GE l X mi d em n fl (if P then E1 else E2) pc L (.inl y :: .inl x :: S) w := by
  intro r hr p e s m args below meth c B
  refine G_icmp B hd ht (fun h => ?_) (fun h => ?_)
  · have h1 := hP.mp h; rw [if_pos h1] at hr; exact t h1 r hr p e s m args below meth c B
  · have h1 : ¬ P := fun z => h (hP.mpr z); rw [if_neg h1] at hr; exact f h1 r hr p e s m args below meth c B
theorem GE_icmpN [Decidable P] (hd : decode mi.2.1 pc = .ok (.if_icmp k off, 3)) (ht : (pc : Int) + off = (tgt : Int)) (hP : cnd k x y ↔ ¬ P) (t : ¬ P → GE l X mi d em n fl E2 tgt L S w) (f : P → GE l X mi d em n fl E1 (pc + 3) L S w) : GE l X mi d em n fl (if P then E1 else E2) pc L (.inl y :: .inl x :: S) w := by
  intro r hr p e s m args below meth c B
  refine G_icmp B hd ht (fun h => ?_) (fun h => ?_)
  · have h1 := hP.mp h; rw [if_neg h1] at hr; exact t h1 r hr p e s m args below meth c B
  · have h1 : P := Decidable.byContradiction fun z => h (hP.mpr z)
    rw [if_pos h1] at hr; exact f h1 r hr p e s m args below meth c B
/-- null or not -/
theorem GE_null {q : Option (Nat × Nat)} {E2 : Nat × Nat → Option ρ} (hd : decode mi.2.1 pc = .ok (.ifnull off, 3)) (ht : (pc : Int) + off = (tgt : Int)) (t : q = none → GE l X mi d em n fl E1 tgt L S w) (f : ∀ z, q = some z → GE l X mi d em n fl (E2 z) (pc + 3) L S w) : GE l X mi d em n fl (q.elim E1 E2) pc L (.inr (.inr q) :: S) w := by
  intro r hr p e s m args below meth c B H locs ls hW hS hl hL oL oS
  have oS2 := (List.forall_mem_cons.mp oS).2
  cases q with
  | none => exact lv_ifnullN B.1 B.2.1 hd ht (t rfl r hr p e s m args below meth c B H locs ls hW hS hl hL oL oS2)
  | some z => exact lv_ifnull B.1 B.2.1 hd (f z rfl r hr p e s m args below meth c B H locs ls hW hS hl hL oL oS2)
theorem GE_nonnull {q : Option (Nat × Nat)} {E2 : Nat × Nat → Option ρ} (hd : decode mi.2.1 pc = .ok (.ifnonnull off, 3)) (ht : (pc : Int) + off = (tgt : Int)) (t : ∀ z, q = some z → GE l X mi d em n fl (E2 z) tgt L S w) (f : q = none → GE l X mi d em n fl E1 (pc + 3) L S w) : GE l X mi d em n fl (q.elim E1 E2) pc L (.inr (.inr q) :: S) w := by
  intro r hr p e s m args below meth c B H locs ls hW hS hl hL oL oS
  have oS2 := (List.forall_mem_cons.mp oS).2
  cases q with
  | none => exact lv_ifnonnullN B.1 B.2.1 hd (f rfl r hr p e s m args below meth c B H locs ls hW hS hl hL oL oS2)
  | some z => exact lv_ifnonnull B.1 B.2.1 hd ht (t z rfl r hr p e s m args below meth c B H locs ls hW hS hl hL oL oS2)
theorem GE_null1 {q : Nat × Nat} (hd : decode mi.2.1 pc = .ok (.ifnull off, 3)) (f : GE l X mi d em n fl E (pc + 3) L S w) : GE l X mi d em n fl E pc L (.inr (.inr (some q)) :: S) w := by
  intro r hr p e s m args below meth c B H locs ls hW hS hl hL oL oS
  exact lv_ifnull B.1 B.2.1 hd (f r hr p e s m args below meth c B H locs ls hW hS hl hL oL (List.forall_mem_cons.mp oS).2)
theorem GE_nonnull1 {q : Nat × Nat} (hd : decode mi.2.1 pc = .ok (.ifnonnull off, 3)) (ht : (pc : Int) + off = (tgt : Int)) (f : GE l X mi d em n fl E tgt L S w) : GE l X mi d em n fl E pc L (.inr (.inr (some q)) :: S) w := by
  intro r hr p e s m args below meth c B H locs ls hW hS hl hL oL oS
  exact lv_ifnonnull B.1 B.2.1 hd ht (f r hr p e s m args below meth c B H locs ls hW hS hl hL oL (List.forall_mem_cons.mp oS).2)
end GEs
/-- a switch: from number a on, one behind the other -/
def swE {ρ : Type} (x : Int32) : Int → List (Option ρ) → Option ρ → Option ρ
  | _, [], d => d
  | a, e :: es, d => if x = Int32.ofInt a then e else swE x (a + 1) es d
def swAll {ρ : Type} (x : Int32) (F : Option ρ → Nat → Prop) : Int → List (Option ρ) → List Nat → Prop
  | _, [], [] => True
  | a, e :: es, t :: ts => (x = Int32.ofInt a → F e t) ∧ swAll x F (a + 1) es ts
  | _, _, _ => False
def swT (pc : Nat) (offs : List Int) (ts : List Nat) : Bool := decide (offs.map (fun o => (pc : Int) + o) = ts.map (fun t : Nat => (t : Int)))
theorem ofInt_toInt {a : Int} (h1 : -2147483648 ≤ a) (h2 : a < 2147483648) : (Int32.ofInt a).toInt = a := Int32.toInt_ofInt_of_le h1 h2
section SWs
variable {l : Launch} {X : XC} {mi : MI} {d : Nat} {ρ : Type} {em : ρ → Option AV × Mem} {n : Nat} {fl : Fl} {Ed : Option ρ} {pc dt len : Nat} {L : LL} {S : List AV} {w : Mem} {x : Int32}
theorem swE_out : ∀ (es : List (Option ρ)) (a : Int), -2147483648 ≤ a → a + es.length ≤ 2147483648 → (x.toInt < a ∨ a + es.length ≤ x.toInt) → swE x a es Ed = Ed := by
  intro es
  induction es with
  | nil => intro a _ _ _; rfl
  | cons e es ih =>
    intro a h1 h2 h3
    simp only [List.length_cons, Int.natCast_add, Int.natCast_one] at h2 h3
    unfold swE
    rw [if_neg, ih (a + 1) (by omega) (by omega) (by omega)]
    intro z
    have h4 := ofInt_toInt (a := a) h1 (by omega)
    rw [← z] at h4
    omega
theorem swE_in {F : Option ρ → Nat → Prop} : ∀ (es : List (Option ρ)) (ts : List Nat) (a : Int), -2147483648 ≤ a → a + es.length ≤ 2147483648 → swAll x F a es ts → a ≤ x.toInt → x.toInt < a + es.length → ∃ t, ts[(x.toInt - a).toNat]? = some t ∧ F (swE x a es Ed) t := by
  intro es
  induction es with
  | nil => intro ts a _ _ _ h1 h2; simp at h2; omega
  | cons e es ih =>
    intro ts a h1 h2 h3 h4 h5
    simp only [List.length_cons, Int.natCast_add, Int.natCast_one] at h2 h5
    cases ts with
    | nil => exact h3.elim
    | cons t ts =>
      obtain ⟨h6, h7⟩ := h3
      unfold swE
      have h8 := ofInt_toInt (a := a) h1 (by omega)
      by_cases hx : x.toInt = a
      · have hxa : x = Int32.ofInt a := Int32.toInt_inj.mp (by rw [h8, hx])
        rw [if_pos hxa]
        refine ⟨t, ?_, h6 hxa⟩
        rw [hx, Int.sub_self]; rfl
      · have hxa : ¬ x = Int32.ofInt a := fun z => hx (by rw [z, h8])
        rw [if_neg hxa]
        obtain ⟨t2, h9, h10⟩ := ih ts (a + 1) (by omega) (by omega) h7 (by omega) (by omega)
        refine ⟨t2, ?_, h10⟩
        rw [show (x.toInt - a).toNat = (x.toInt - (a + 1)).toNat + 1 by omega]
        exact h9
theorem GE_sw {dflt lo hi : Int} {offs : Array Int} {es : List (Option ρ)} (ts : List Nat) (hd : decode mi.2.1 pc = .ok (.tableswitch dflt lo hi offs, len)) (hb : (decide (-2147483648 ≤ lo ∧ lo + es.length ≤ 2147483648 ∧ hi + 1 = lo + es.length ∧ (pc : Int) + dflt = (dt : Int)) && swT pc offs.toList ts) = true)
    (hc : swAll x (fun e t => GE l X mi d em n fl e t L S w) lo es ts) (hde : GE l X mi d em n fl Ed dt L S w) : GE l X mi d em n fl (swE x lo es Ed) pc L (.inl x :: S) w := by
  simp only [Bool.and_eq_true, decide_eq_true_eq, swT] at hb
  obtain ⟨⟨h1, h2, h3, h4⟩, h5⟩ := hb
  intro r hr p e s m args below meth c B H locs ls hW hS hl hL oL oS
  have oS2 := (List.forall_mem_cons.mp oS).2
  by_cases ho : x.toInt < lo ∨ hi < x.toInt
  · rw [swE_out es lo h1 h2 (by omega)] at hr
    exact lv_tableOut B.1 B.2.1 hd ho h4 (hde r hr p e s m args below meth c B H locs ls hW hS hl hL oL oS2)
  · obtain ⟨t, h6, h7⟩ := swE_in (Ed := Ed) es ts lo h1 h2 hc (by omega) (by omega)
    have h8 : (offs.toList.map (fun o => (pc : Int) + o))[(x.toInt - lo).toNat]? = some (t : Int) := by rw [h5, List.getElem?_map, h6]; rfl
    rw [List.getElem?_map] at h8
    cases h9 : offs.toList[(x.toInt - lo).toNat]? with
    | none => rw [h9] at h8; cases h8
    | some o =>
      rw [h9] at h8
      exact lv_tableIn B.1 B.2.1 hd (by omega) (by omega) (by rw [← Array.getElem?_toList]; exact h9) (Option.some.inj h8) (h7 r hr p e s m args below meth c B H locs ls hW hS hl hL oL oS2)
end SWs
section GEr
variable {l : Launch} {X : XC} {mi : MI} {d : Nat} {ρ ρ' : Type} {em : ρ → Option AV × Mem} {em' : ρ' → Option AV × Mem} {n : Nat} {fl : Fl} {E : Option ρ} {pc : Nat} {L : LL} {S : List AV} {w : Mem}
theorem GE_iret {v : Int32} (hr : mi.2.2.2.1 = some .int) (hd : decode mi.2.1 pc = .ok (.ireturn, 1)) : GE l X mi d emI n fl (some (v, w)) pc L [.inl v] w := by
  intro r h p e s m args below meth c B
  cases h
  exact G_iret B hr hd ⟨rfl, rfl, rfl⟩
theorem GE_zret {v : Int32} {ty : FieldType} (hr : mi.2.2.2.1 = some ty) (hn : narrow ty (.int v) = .int v) (hd : decode mi.2.1 pc = .ok (.ireturn, 1)) : GE l X mi d emI n fl (some (v, w)) pc L [.inl v] w := by
  intro r h p e s m args below meth c B
  cases h
  exact G_zret B hr hn hd ⟨rfl, rfl, rfl⟩
theorem nar_z {v : Int32} (h : v = 0 ∨ v = 1) : narrow .boolean (.int v) = .int v := by rcases h with rfl | rfl <;> decide +kernel
theorem GE_bret {v : Int32} (hr : mi.2.2.2.1 = some .boolean) (hd : decode mi.2.1 pc = .ok (.ireturn, 1)) : GE l X mi d emI n fl (if v = 0 ∨ v = 1 then some (v, w) else none) pc L [.inl v] w :=
  GE_chk (fun h => GE_zret hr (nar_z h) hd)
theorem GE_lret {v : Int64} (hr : mi.2.2.2.1 = some .long) (hd : decode mi.2.1 pc = .ok (.lreturn, 1)) : GE l X mi d emL n fl (some (v, w)) pc L [.inr (.inl v)] w := by
  intro r h p e s m args below meth c B
  cases h
  exact G_lret B hr hd ⟨rfl, rfl, rfl⟩
theorem GE_vret (hr : mi.2.2.2.1 = none) (hd : decode mi.2.1 pc = .ok (.return_, 1)) : GE l X mi d emV n fl (some w) pc L [] w := by
  intro r h p e s m args below meth c B
  cases h
  exact G_vret B hr hd ⟨rfl, rfl, rfl⟩
theorem GE_aret {q : Option (Nat × Nat)} {C : String} (hr : mi.2.2.2.1 = some (.object C)) (hd : decode mi.2.1 pc = .ok (.areturn, 1)) : GE l X mi d emA n fl (some (q, w)) pc L [.inr (.inr q)] w := by
  intro r h p e s m args below meth c B
  cases h
  exact G_aret B hr hd ⟨rfl, rfl, rfl⟩
/-- a method from its body -/
theorem Ct_of {nn : Nat} {y : MethodName} {As : List AV} (hmi : MIok mi) (me : meOK y mi.2.1 mi.2.2.1 mi.2.2.2.1 nn) (hcl : y.cls = mi.1) (hok : okAs n As) (hle : (enL As).length ≤ mi.2.2.1) (body : GE l X mi d em n fl E 0 (enN As mi.2.2.1) [] w) : Ct l X d y mi.2.1 mi.2.2.1 mi.2.2.2.1 em As n fl w E :=
  fun hX r hr => Mt_of hX hmi me hcl hok hle (fun p e s m args below meth c B _ => body r hr p e s m args below meth c B)
/-- what a call's place says of the callee: 0 virtual, 1 static, 2 static of a nest mate -/
def CV (own : String) (idx : Nat) (y : MethodName) (cc : ByteArray) (maxL : Nat) (ret : Option FieldType) (nn : Nat) : Prop := meOK y cc maxL ret nn ∧ Cond.instanceMethod y ∈ lw_tbl ∧ Cond.selects y.cls y y ∈ lw_tbl ∧ Cond.methodLink own idx y ∈ lw_tbl
def CS (own : String) (idx : Nat) (y : MethodName) (cc : ByteArray) (maxL : Nat) (ret : Option FieldType) (nn : Nat) : Prop := meOK y cc maxL ret nn ∧ Cond.static y ∈ lw_tbl ∧ Cond.methodLink own idx y ∈ lw_tbl
def CN (own host : String) (idx : Nat) (y : MethodName) (cc : ByteArray) (maxL : Nat) (ret : Option FieldType) (nn : Nat) : Prop := meOK y cc maxL ret nn ∧ Cond.static y ∈ lw_tbl ∧ Cond.methodLinkNest own idx y host ∈ lw_tbl
theorem room_d {d d' maxL : Nat} (h : d' < d) (hm : maxL ≤ 45) : d' + 1 ≤ (rmD d 0 0).frames ∧ 8 + (maxL + 11) + 64 * d' ≤ (rmD d 0 0).locals := by
  show d' + 1 ≤ d ∧ 8 + (maxL + 11) + 64 * d' ≤ 64 * d
  omega
theorem GE_callV {d' idx nn k i maxL : Nat} {y : MethodName} {cc : ByteArray} {ret : Option FieldType} {As : List AV} {f : Option ρ'} {kf : ρ' → Option ρ} (hC : Ct l X d' y cc maxL ret em' (.inr (.inr (some (k, i))) :: As) n fl w f) (hk : k < 6) (cl : CV mi.1 idx y cc maxL ret nn) (hcls : y.cls = (cC k).1) (hd : decode mi.2.1 pc = .ok (.invokevirtual idx, 3)) (hn : As.length = nn) (hdd : d' < d) (hm : maxL ≤ 45) (hcat : catS S ≤ 8)
    (kk : ∀ r, f = some r → GE l X mi d em n fl (kf r) (pc + 3) L ((em' r).1.toList ++ S) (em' r).2) : GE l X mi d em n fl (f.bind kf) pc L (As.reverse ++ .inr (.inr (some (k, i))) :: S) w := by
  intro r hr p e s m args below meth c B
  obtain ⟨r1, h1, h2⟩ := Option.bind_eq_some_iff.mp hr
  refine G_callV B hk (hC B.2.2.2.2.2.2.2.2.1 r1 h1) cl.1 cl.2.1 cl.2.2.1 hcls cl.2.2.2 hd hn (room_d hdd hm) ⟨Nat.le_refl _, Nat.le_refl _⟩ hcat (fun _ _ _ _ h => Nat.le_of_eq h.1.symm) (fun v n1 fl1 w1 hq => ?_)
  obtain ⟨rfl, rfl, h3⟩ := hq
  have h4 := kk r1 h1 r h2 p e s m args below meth c B
  rw [← h3] at h4
  exact h4
theorem GE_callS {d' idx nn maxL : Nat} {y : MethodName} {cc : ByteArray} {ret : Option FieldType} {As : List AV} {f : Option ρ'} {kf : ρ' → Option ρ} (hC : Ct l X d' y cc maxL ret em' As n fl w f) (cl : CS mi.1 idx y cc maxL ret nn) (hd : decode mi.2.1 pc = .ok (.invokestatic idx, 3)) (hn : As.length = nn) (hdd : d' < d) (hm : maxL ≤ 45) (hcat : catS S ≤ 8)
    (kk : ∀ r, f = some r → GE l X mi d em n fl (kf r) (pc + 3) L ((em' r).1.toList ++ S) (em' r).2) : GE l X mi d em n fl (f.bind kf) pc L (As.reverse ++ S) w := by
  intro r hr p e s m args below meth c B
  obtain ⟨r1, h1, h2⟩ := Option.bind_eq_some_iff.mp hr
  refine G_callS B (hC B.2.2.2.2.2.2.2.2.1 r1 h1) cl.1 cl.2.1 cl.2.2 hd hn (room_d hdd hm) ⟨Nat.le_refl _, Nat.le_refl _⟩ hcat (fun _ _ _ _ h => Nat.le_of_eq h.1.symm) (fun v n1 fl1 w1 hq => ?_)
  obtain ⟨rfl, rfl, h3⟩ := hq
  have h4 := kk r1 h1 r h2 p e s m args below meth c B
  rw [← h3] at h4
  exact h4
theorem GE_callN {d' idx nn maxL : Nat} {y : MethodName} {host : String} {cc : ByteArray} {ret : Option FieldType} {As : List AV} {f : Option ρ'} {kf : ρ' → Option ρ} (hC : Ct l X d' y cc maxL ret em' As n fl w f) (cl : CN mi.1 host idx y cc maxL ret nn) (hd : decode mi.2.1 pc = .ok (.invokestatic idx, 3)) (hn : As.length = nn) (hdd : d' < d) (hm : maxL ≤ 45) (hcat : catS S ≤ 8)
    (kk : ∀ r, f = some r → GE l X mi d em n fl (kf r) (pc + 3) L ((em' r).1.toList ++ S) (em' r).2) : GE l X mi d em n fl (f.bind kf) pc L (As.reverse ++ S) w := by
  intro r hr p e s m args below meth c B
  obtain ⟨r1, h1, h2⟩ := Option.bind_eq_some_iff.mp hr
  refine G_callSN B (hC B.2.2.2.2.2.2.2.2.1 r1 h1) cl.1 cl.2.1 cl.2.2 hd hn (room_d hdd hm) ⟨Nat.le_refl _, Nat.le_refl _⟩ hcat (fun _ _ _ _ h => Nat.le_of_eq h.1.symm) (fun v n1 fl1 w1 hq => ?_)
  obtain ⟨rfl, rfl, h3⟩ := hq
  have h4 := kk r1 h1 r h2 p e s m args below meth c B
  rw [← h3] at h4
  exact h4
/-- a contract at an answer that is known -/
theorem Ct.eq {d' maxL : Nat} {y : MethodName} {cc : ByteArray} {ret : Option FieldType} {As : List AV} {f f2 : Option ρ} (hC : Ct l X d' y cc maxL ret em As n fl w f) (h : f2 = f) : Ct l X d' y cc maxL ret em As n fl w f2 := h ▸ hC
end GEr
