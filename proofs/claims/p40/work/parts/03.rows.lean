/-! ONE INSTRUCTION, as a function on (locals, stack, memory), and what it has to do with the machine -/
abbrev EI : Type := Instr × Nat × Nat × Int32 × Int64
abbrev MI : Type := String × ByteArray × Nat × Option FieldType × List (Nat × Nat × Nat) × List (Nat × Int32) × List (Nat × Int64)
def MIok (mi : MI) : Prop := (∀ q : Nat × Nat × Nat, q ∈ mi.2.2.2.2.1 → ftW mi.1 q ∈ lw_tbl) ∧ (∀ q : Nat × Int32, q ∈ mi.2.2.2.2.2.1 → ctW mi.1 q ∈ lw_tbl) ∧ ∀ q : Nat × Int64, q ∈ mi.2.2.2.2.2.2 → clW mi.1 q ∈ lw_tbl
def lenI : Instr → Nat
  | .iload _ => 2 | .istore _ => 2 | .aload _ => 2 | .astore _ => 2 | .lload _ => 2 | .lstore _ => 2
  | .bipush _ => 2 | .sipush _ => 3 | .ldc _ => 2 | .ldc_w _ => 3 | .ldc2_w _ => 3
  | .iinc _ _ => 3 | .getfield _ => 3 | .putfield _ => 3 | .goto _ => 3
  | _ => 1
def lkF (mi : MI) (e : EI) (i : Nat) : Bool := decide ((i, e.2.1, e.2.2.1) ∈ mi.2.2.2.2.1) && (decide (e.2.1 < 6) && decide (e.2.2.1 < (cC e.2.1).2.2))
def lkI (mi : MI) (pc : Nat) (e : EI) : Bool := match e.1 with
  | .iconst n => decide (Int32.ofInt n = e.2.2.2.1)
  | .bipush n => decide ((Int8.ofInt n).toInt32 = e.2.2.2.1)
  | .sipush n => decide ((Int16.ofInt n).toInt32 = e.2.2.2.1)
  | .iinc _ n => decide (Int32.ofInt n = e.2.2.2.1)
  | .lconst n => decide (Int64.ofNat (n : Nat) = e.2.2.2.2)
  | .ldc i => decide ((i, e.2.2.2.1) ∈ mi.2.2.2.2.2.1)
  | .ldc_w i => decide ((i, e.2.2.2.1) ∈ mi.2.2.2.2.2.1)
  | .ldc2_w i => decide ((i, e.2.2.2.2) ∈ mi.2.2.2.2.2.2)
  | .getfield i => lkF mi e i
  | .putfield i => lkF mi e i && (decide (((cC e.2.1).2.1 e.2.2.1).2.2.2 = false) && (decide (fdD e.2.1 e.2.2.1 = none) && (decide (tyC e.2.1 e.2.2.1 = .int) || decide (tyC e.2.1 e.2.2.1 = .boolean))))
  | .goto off => decide (0 ≤ (pc : Int) + off)
  | _ => true
def nxt (pc : Nat) : Instr → Nat
  | .goto off => ((pc : Int) + off).toNat
  | i => pc + lenI i
def ste (mi : MI) (pc : Nat) (e : EI) : Option Nat := if decode mi.2.1 pc = .ok (e.1, lenI e.1) ∧ lkI mi pc e = true then some (nxt pc e.1) else none
theorem ste_spec {mi : MI} {pc pc1 : Nat} {e : EI} (h : ste mi pc e = some pc1) : decode mi.2.1 pc = .ok (e.1, lenI e.1) ∧ lkI mi pc e = true ∧ nxt pc e.1 = pc1 := by
  unfold ste at h
  split at h
  · rename_i h1; exact ⟨h1.1, h1.2, Option.some.inj h⟩
  · cases h
abbrev LL : Type := List (Option AV)
abbrev AS : Type := LL × List AV × Mem
def unL (L : LL) (i : Nat) : LL := match i with
  | 0 => L
  | j + 1 => match L[j]? with
    | some (some (.inr (.inl _))) => L.set j none
    | _ => L
def stL (L : LL) (i : Nat) (v : AV) : LL := (unL L i).set i (some v)
def stL2 (L : LL) (i : Nat) (v : AV) : LL := (stL L i v).set (i + 1) none
def rmI (x y : Int32) : Int32 := x - x / y * y
def rmL (x y : Int64) : Int64 := x - x / y * y
def shlI (x y : Int32) : Int32 := x <<< (y &&& 31)
def shrI (x y : Int32) : Int32 := x >>> (y &&& 31)
def shlL (x : Int64) (y : Int32) : Int64 := x <<< (y.toInt64 &&& 63)
def shrL (x : Int64) (y : Int32) : Int64 := x >>> (y.toInt64 &&& 63)
def ushrL (x : Int64) (y : Int32) : Int64 := (x.toUInt64 >>> (y.toInt64.toUInt64 &&& Int64.toUInt64 63)).toInt64
def ushrI (x y : Int32) : Int32 := (x.toUInt32 >>> (y.toUInt32 &&& Int32.toUInt32 31)).toInt32
abbrev inB (x : Int32) (n : Nat) : Prop := ¬ (x < 0 ∨ n ≤ x.toNatClampNeg)
abbrev tn (x : Int32) : Nat := x.toNatClampNeg
abbrev OX : Type := Option (Option Prop × AS)
def xPush (σ : AS) (v : AV) : OX := some (none, σ.1, v :: σ.2.1, σ.2.2)
def xLdI (σ : AS) (i : Nat) : OX := match σ.1[i]? with
  | some (some (.inl x)) => some (none, σ.1, .inl x :: σ.2.1, σ.2.2)
  | _ => none
def xLdL (σ : AS) (i : Nat) : OX := match σ.1[i]? with
  | some (some (.inr (.inl x))) => some (none, σ.1, .inr (.inl x) :: σ.2.1, σ.2.2)
  | _ => none
def xLdA (σ : AS) (i : Nat) : OX := match σ.1[i]? with
  | some (some (.inr (.inr x))) => some (none, σ.1, .inr (.inr x) :: σ.2.1, σ.2.2)
  | _ => none
def xStI (σ : AS) (i : Nat) : OX := match σ with
  | (L, .inl x :: S, w) => if i < L.length then some (none, stL L i (.inl x), S, w) else none
  | _ => none
def xStL (σ : AS) (i : Nat) : OX := match σ with
  | (L, .inr (.inl x) :: S, w) => if i + 1 < L.length then some (none, stL2 L i (.inr (.inl x)), S, w) else none
  | _ => none
def xStA (σ : AS) (i : Nat) : OX := match σ with
  | (L, .inr (.inr x) :: S, w) => if i < L.length then some (none, stL L i (.inr (.inr x)), S, w) else none
  | _ => none
def xInc (σ : AS) (i : Nat) (k : Int32) : OX := match σ.1[i]? with
  | some (some (.inl x)) => if i < σ.1.length then some (none, stL σ.1 i (.inl (x + k)), σ.2.1, σ.2.2) else none
  | _ => none
def xII (σ : AS) (f : Int32 → Int32 → Int32) : OX := match σ with
  | (L, .inl y :: .inl x :: S, w) => some (none, L, .inl (f x y) :: S, w)
  | _ => none
def xIz (σ : AS) (f : Int32 → Int32 → Int32) : OX := match σ with
  | (L, .inl y :: .inl x :: S, w) => some (some (¬ y = 0), L, .inl (f x y) :: S, w)
  | _ => none
def xLL (σ : AS) (f : Int64 → Int64 → Int64) : OX := match σ with
  | (L, .inr (.inl y) :: .inr (.inl x) :: S, w) => some (none, L, .inr (.inl (f x y)) :: S, w)
  | _ => none
def xLz (σ : AS) (f : Int64 → Int64 → Int64) : OX := match σ with
  | (L, .inr (.inl y) :: .inr (.inl x) :: S, w) => some (some (¬ y = 0), L, .inr (.inl (f x y)) :: S, w)
  | _ => none
def xLI (σ : AS) (f : Int64 → Int32 → Int64) : OX := match σ with
  | (L, .inl y :: .inr (.inl x) :: S, w) => some (none, L, .inr (.inl (f x y)) :: S, w)
  | _ => none
def xLald (σ : AS) : OX := match σ with
  | (L, .inl x :: .inr (.inr (some q)) :: S, w) => if q = (20, 0) then some (some (inB x 60), L, .inr (.inl (w 20 0 (tn x)).toInt64) :: S, w) else none
  | _ => none
def xLast (σ : AS) : OX := match σ with
  | (L, .inr (.inl v) :: .inl x :: .inr (.inr (some q)) :: S, w) => if q = (20, 0) then some (some (inB x 60 ∧ v.toInt32.toInt64 = v), L, S, up w 20 0 (tn x) v.toInt32) else none
  | _ => none
def xCmp (σ : AS) : OX := match σ with
  | (L, .inr (.inl y) :: .inr (.inl x) :: S, w) => some (none, L, .inl (lg_cmp x y) :: S, w)
  | _ => none
def xI1 (σ : AS) (f : Int32 → AV) : OX := match σ with
  | (L, .inl x :: S, w) => some (none, L, f x :: S, w)
  | _ => none
def xL1 (σ : AS) (f : Int64 → AV) : OX := match σ with
  | (L, .inr (.inl x) :: S, w) => some (none, L, f x :: S, w)
  | _ => none
def cat1 : AV → Bool
  | .inr (.inl _) => false
  | _ => true
def xDup (σ : AS) : OX := match σ with
  | (L, v :: S, w) => if cat1 v = true then some (none, L, v :: v :: S, w) else none
  | _ => none
def xPop (σ : AS) : OX := match σ with
  | (L, v :: S, w) => if cat1 v = true then some (none, L, S, w) else none
  | _ => none
def xDup2 (σ : AS) : OX := match σ with
  | (L, v :: u :: S, w) => if cat1 v = true then (if cat1 u = true then some (none, L, v :: u :: v :: u :: S, w) else none) else none
  | _ => none
def xGet (fl : Fl) (σ : AS) (k j : Nat) : OX := match σ with
  | (L, .inr (.inr (some q)) :: S, w) => if q.1 = k then
      (match fdD k j with
      | none => some (none, L, .inl (w k q.2 j) :: S, w)
      | some t => if fl k q.2 j = true then some (none, L, .inr (.inr (some (t.1, t.2.getD q.2))) :: S, w) else some (none, L, .inr (.inr none) :: S, w)) else none
  | _ => none
def isZ (k j : Nat) : Bool := decide (tyC k j = .boolean)
def zfT : List (Nat × Nat) := [(4, 5), (5, 5)]
def xPut (σ : AS) (k j : Nat) : OX := match σ with
  | (L, .inl x :: .inr (.inr (some q)) :: S, w) => if q.1 = k then some (if (k, j) ∈ zfT then some (x = 1) else none, L, S, up w k q.2 j x) else none
  | _ => none
def xIald (σ : AS) : OX := match σ with
  | (L, .inl x :: .inr (.inr (some q)) :: S, w) => if isA q.1 = true then some (some (inB x (lenK q.1)), L, .inl (w q.1 q.2 (tn x)) :: S, w) else none
  | _ => none
def xIast (σ : AS) : OX := match σ with
  | (L, .inl v :: .inl x :: .inr (.inr (some q)) :: S, w) => if isA q.1 = true then some (some (inB x (lenK q.1)), L, S, up w q.1 q.2 (tn x) v) else none
  | _ => none
def xAald (fl : Fl) (σ : AS) : OX := match σ with
  | (L, .inl x :: .inr (.inr (some q)) :: S, w) => if q = (18, 0) then (if fl 18 0 (tn x) = true then some (some (inB x 4), L, .inr (.inr (some (2, tn x))) :: S, w) else none) else none
  | _ => none
def xAlen (σ : AS) : OX := match σ with
  | (L, .inr (.inr (some q)) :: S, w) => if decide (6 ≤ q.1) && (decide (q.1 < 37) && decide (q.1 ≠ 20)) = true then some (none, L, .inl (Int32.ofNat (lenK q.1)) :: S, w) else none
  | _ => none
def ex1 (fl : Fl) (e : EI) (σ : AS) : OX := match e.1 with
  | .iconst _ => xPush σ (.inl e.2.2.2.1)
  | .bipush _ => xPush σ (.inl e.2.2.2.1)
  | .sipush _ => xPush σ (.inl e.2.2.2.1)
  | .ldc _ => xPush σ (.inl e.2.2.2.1)
  | .ldc_w _ => xPush σ (.inl e.2.2.2.1)
  | .lconst _ => xPush σ (.inr (.inl e.2.2.2.2))
  | .ldc2_w _ => xPush σ (.inr (.inl e.2.2.2.2))
  | .aconst_null => xPush σ (.inr (.inr none))
  | .iload_n k => xLdI σ k
  | .iload i => xLdI σ i
  | .lload_n k => xLdL σ k
  | .lload i => xLdL σ i
  | .aload_n k => xLdA σ k
  | .aload i => xLdA σ i
  | .istore_n k => xStI σ k
  | .istore i => xStI σ i
  | .lstore_n k => xStL σ k
  | .lstore i => xStL σ i
  | .astore_n k => xStA σ k
  | .astore i => xStA σ i
  | .iinc i _ => xInc σ i e.2.2.2.1
  | .iadd => xII σ (fun x y => x + y)
  | .isub => xII σ (fun x y => x - y)
  | .imul => xII σ (fun x y => x * y)
  | .iand => xII σ (fun x y => x &&& y)
  | .ior => xII σ (fun x y => x ||| y)
  | .ixor => xII σ (fun x y => x ^^^ y)
  | .ishl => xII σ shlI
  | .ishr => xII σ shrI
  | .iushr => xII σ ushrI
  | .idiv => xIz σ (fun x y => x / y)
  | .irem => xIz σ rmI
  | .ladd => xLL σ (fun x y => x + y)
  | .lmul => xLL σ (fun x y => x * y)
  | .ldiv => xLz σ (fun x y => x / y)
  | .lrem => xLz σ rmL
  | .lsub => xLL σ (fun x y => x - y)
  | .land => xLL σ (fun x y => x &&& y)
  | .lor => xLL σ (fun x y => x ||| y)
  | .lxor => xLL σ (fun x y => x ^^^ y)
  | .lshl => xLI σ shlL
  | .lshr => xLI σ shrL
  | .lushr => xLI σ ushrL
  | .laload => xLald σ
  | .lastore => xLast σ
  | .lcmp => xCmp σ
  | .ineg => xI1 σ (fun x => .inl (-x))
  | .i2l => xI1 σ (fun x => .inr (.inl x.toInt64))
  | .i2b => xI1 σ (fun x => .inl x.toInt8.toInt32)
  | .i2s => xI1 σ (fun x => .inl x.toInt16.toInt32)
  | .i2c => xI1 σ (fun x => .inl (x.toUInt32 % 65536).toInt32)
  | .l2i => xL1 σ (fun x => .inl x.toInt32)
  | .dup => xDup σ
  | .pop => xPop σ
  | .dup2 => xDup2 σ
  | .getfield _ => xGet fl σ e.2.1 e.2.2.1
  | .putfield _ => xPut σ e.2.1 e.2.2.1
  | .iaload => xIald σ
  | .iastore => xIast σ
  | .aaload => xAald fl σ
  | .arraylength => xAlen σ
  | .goto _ => some (none, σ)
  | _ => none
/-- the listed locals as the kit lists them -/
def lvP (X : XC) : Nat → LL → List (Nat × Value)
  | _, [] => []
  | k, none :: t => lvP X (k + 1) t
  | k, some v :: t => (k, cv X v) :: lvP X (k + 1) t
theorem mem_lvP {X : XC} {q : Nat × Value} : ∀ (L : LL) (k : Nat), q ∈ lvP X k L ↔ ∃ (j : Nat) (v : AV), L[j]? = some (some v) ∧ q = (k + j, cv X v) := by
  intro L
  induction L with
  | nil => intro k; simp [lvP]
  | cons a t ih =>
    intro k
    have key : (∃ (j : Nat) (v : AV), (a :: t)[j]? = some (some v) ∧ q = (k + j, cv X v)) ↔ (∃ v, a = some v ∧ q = (k, cv X v)) ∨ ∃ (j : Nat) (v : AV), t[j]? = some (some v) ∧ q = (k + 1 + j, cv X v) := by
      constructor
      · rintro ⟨j, v, h1, h2⟩
        cases j with
        | zero => simp at h1; exact Or.inl ⟨v, h1, h2⟩
        | succ j => simp at h1; exact Or.inr ⟨j, v, h1, by rw [h2]; congr 1; omega⟩
      · rintro (⟨v, h1, h2⟩ | ⟨j, v, h1, h2⟩)
        · exact ⟨0, v, by simp [h1], h2⟩
        · exact ⟨j + 1, v, by simpa using h1, by rw [h2]; congr 1; omega⟩
    rw [key]
    cases a with
    | none => simp [lvP, ih (k + 1)]
    | some v => simp [lvP, ih (k + 1), eq_comm]
theorem lv_mono {ls : Array Slot} {nL : Nat} {l l' : List (Nat × Value)} (h : lv_has ls nL l) (hs : ∀ q ∈ l', q ∈ l) : lv_has ls nL l' := ⟨h.1, h.2.1, fun q hq => h.2.2 q (hs q hq)⟩
theorem lvP_at {X : XC} {ls : Array Slot} {nL : Nat} {L : LL} {i : Nat} {v : AV} (h : lv_has ls nL (lvP X 0 L)) (hi : L[i]? = some (some v)) : ls[i]? = some (.val (cv X v)) :=
  h.2.2 (i, cv X v) ((mem_lvP L 0).mpr ⟨i, v, hi, by simp⟩)
theorem unL_get {L : LL} {i j : Nat} {u : AV} (h : (unL L i)[j]? = some (some u)) : L[j]? = some (some u) ∧ ¬ (j + 1 = i ∧ ∃ x, u = .inr (.inl x)) := by
  cases i with
  | zero => exact ⟨h, by omega⟩
  | succ k =>
    unfold unL at h
    dsimp only at h
    split at h
    · rename_i x hk
      by_cases hj : j = k
      · subst hj
        have hl := (List.getElem?_eq_some_iff.mp hk).1
        rw [List.getElem?_set_self hl] at h
        cases h
      · rw [List.getElem?_set_ne (Ne.symm hj)] at h
        exact ⟨h, by omega⟩
    · rename_i hk
      refine ⟨h, ?_⟩
      rintro ⟨e1, x, rfl⟩
      have : j = k := by omega
      subst this
      exact hk x h
theorem unL_len (L : LL) (i : Nat) : (unL L i).length = L.length := by
  cases i with
  | zero => rfl
  | succ k => unfold unL; dsimp only; split <;> simp
theorem stL_len (L : LL) (i : Nat) (v : AV) : (stL L i v).length = L.length := by simp [stL, unL_len]
theorem stL2_len (L : LL) (i : Nat) (v : AV) : (stL2 L i v).length = L.length := by simp [stL2, stL_len]
theorem cv_cat {X : XC} {u : AV} (h : (cv X u).category = 2) : ∃ x, u = .inr (.inl x) := by
  rcases u with x | x | _ | q
  · simp [cv, Value.category] at h
  · exact ⟨x, rfl⟩
  · simp [cv, Value.category] at h
  · simp [cv, Value.category] at h
theorem stL_get {L : LL} {i j : Nat} {v u : AV} (hi : i < L.length) (h : (stL L i v)[j]? = some (some u)) : (j = i ∧ u = v) ∨ (¬ j = i ∧ L[j]? = some (some u) ∧ ¬ (j + 1 = i ∧ ∃ x, u = .inr (.inl x))) := by
  unfold stL at h
  by_cases hj : j = i
  · subst hj
    rw [List.getElem?_set_self (by rw [unL_len]; exact hi)] at h
    cases h; exact Or.inl ⟨rfl, rfl⟩
  · rw [List.getElem?_set_ne (Ne.symm hj)] at h
    exact Or.inr ⟨hj, unL_get h⟩
theorem lvP_st {X : XC} {L : LL} {i : Nat} {v : AV} (hi : i < L.length) : ∀ q ∈ lvP X 0 (stL L i v), q ∈ (i, cv X v) :: (lvP X 0 L).filter (fun q => !(q.1 == i) && !(q.1 + 1 == i && q.2.category == 2)) := by
  intro q hq
  obtain ⟨j, u, h1, rfl⟩ := (mem_lvP _ 0).mp hq
  rcases stL_get hi h1 with ⟨rfl, rfl⟩ | ⟨h2, h3, h4⟩
  · simp
  · refine List.mem_cons_of_mem _ (List.mem_filter.mpr ⟨(mem_lvP _ 0).mpr ⟨j, u, h3, rfl⟩, ?_⟩)
    have h5 : ¬ (j + 1 = i ∧ (cv X u).category = 2) := fun z => h4 ⟨z.1, cv_cat z.2⟩
    simp only [Nat.zero_add, Bool.and_eq_true, Bool.not_eq_true', beq_eq_false_iff_ne, ne_eq, Bool.and_eq_false_iff]
    refine ⟨h2, ?_⟩
    by_cases h6 : j + 1 = i
    · exact Or.inr (fun z => h5 ⟨h6, z⟩)
    · exact Or.inl h6
theorem lvP_st2 {X : XC} {L : LL} {i : Nat} {v : AV} (hi : i + 1 < L.length) : ∀ q ∈ lvP X 0 (stL2 L i v), q ∈ (i, cv X v) :: (lvP X 0 L).filter (fun q => !(q.1 == i) && (!(q.1 == i + 1) && !(q.1 + 1 == i && q.2.category == 2))) := by
  intro q hq
  obtain ⟨j, u, h1, rfl⟩ := (mem_lvP _ 0).mp hq
  unfold stL2 at h1
  have hne : ¬ j = i + 1 := by
    intro e1; subst e1
    rw [List.getElem?_set_self (by rw [stL_len]; exact hi)] at h1
    cases h1
  rw [List.getElem?_set_ne (Ne.symm hne)] at h1
  rcases stL_get (by omega) h1 with ⟨rfl, rfl⟩ | ⟨h2, h3, h4⟩
  · simp
  · refine List.mem_cons_of_mem _ (List.mem_filter.mpr ⟨(mem_lvP _ 0).mpr ⟨j, u, h3, rfl⟩, ?_⟩)
    have h5 : ¬ (j + 1 = i ∧ (cv X u).category = 2) := fun z => h4 ⟨z.1, cv_cat z.2⟩
    simp only [Nat.zero_add, Bool.and_eq_true, Bool.not_eq_true', beq_eq_false_iff_ne, ne_eq, Bool.and_eq_false_iff]
    refine ⟨h2, hne, ?_⟩
    by_cases h6 : j + 1 = i
    · exact Or.inr (fun z => h5 ⟨h6, z⟩)
    · exact Or.inl h6
