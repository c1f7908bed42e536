/-! THE BUILDER'S WORLD: cells in a list, at addresses from xb X on -/
def TJ4 : u_T := fun k => match k with
  | 0 => (RJ5, "value", "[B", false)
  | 1 => (RJ5, "coder", "B", false)
  | 2 => (RJ5, "maybeLatin1", "Z", false)
  | _ => (RJ5, "count", "I", false)
def tyJ4 : Nat → FieldType := fun k => match k with
  | 0 => .array .byte
  | 1 => .byte
  | 2 => .boolean
  | _ => .int
theorem nmJ4 : ∀ a, a < 4 → ∀ b, b < 4 → a ≠ b → (TJ4 a).2.1 ≠ (TJ4 b).2.1 := by decide +kernel
theorem tyJ4_ok : ∀ k, k < 4 → parseFieldDescriptor (TJ4 k).2.2.1 = some (tyJ4 k) := by decide +kernel
def TJ0 : u_T := fun k => match k with
  | 0 => (RJ0, "value", "[B", true)
  | 1 => (RJ0, "coder", "B", true)
  | 2 => (RJ0, "hash", "I", false)
  | _ => (RJ0, "hashIsZero", "Z", false)
def tyJ0 : Nat → FieldType := fun k => match k with
  | 0 => .array .byte
  | 1 => .byte
  | 2 => .int
  | _ => .boolean
theorem nmJ0 : ∀ a, a < 4 → ∀ b, b < 4 → a ≠ b → (TJ0 a).2.1 ≠ (TJ0 b).2.1 := by decide +kernel
theorem tyJ0_ok : ∀ k, k < 4 → parseFieldDescriptor (TJ0 k).2.2.1 = some (tyJ0 k) := by decide +kernel
theorem inJ4 : ∀ w ∈ u_ws RJ4 TJ4 4, w ∈ lw_tbl := by
  have h : u_ws RJ4 TJ4 4 = ([403, 405, 407, 409] : List Nat).filterMap (fun i => lw_tbl[i]?) := by decide +kernel
  intro w hw; rw [h] at hw; obtain ⟨i, -, hi⟩ := List.mem_filterMap.mp hw; exact List.mem_of_getElem? hi
theorem inJ0 : ∀ w ∈ u_ws RJ0 TJ0 4, w ∈ lw_tbl := by
  have h : u_ws RJ0 TJ0 4 = ([614, 616, 618, 620] : List Nat).filterMap (fun i => lw_tbl[i]?) := by decide +kernel
  intro w hw; rw [h] at hw; obtain ⟨i, -, hi⟩ := List.mem_filterMap.mp hw; exact List.mem_of_getElem? hi
theorem u_gtb {C : String} {T : u_T} {N : Nat} (h : ∀ w ∈ u_ws C T N, w ∈ lw_tbl) : ∀ w ∈ u_ws C T N, w ∈ gtb := by
  intro w hw
  refine gm (h w hw) ?_
  obtain ⟨k, -, rfl⟩ := List.mem_map.mp hw
  exact lay_good C T k
abbrev cl2 : List vw_C := [(RJ4, TJ4, 4), (RJ0, TJ0, 4)]
abbrev AY (X : XC) : Nat → Prop := fun q => xb X ≤ q
/-- the builder's and String's class, rows of bytes -/
abbrev YC : Type := va_G × ClassId
abbrev ty2 (Y : YC) : List (ClassId × FieldType) := [(Y.2, .byte)]
def K2 (X : XC) (Y : YC) : Prop := va_K Y.1 cl2 (ty2 Y) X.2.2.1
def KpY (X : XC) (H : Heap) : Prop := xb X ≤ H.size ∧ ∀ q, q < xb X → ¬ AA X q → H[q]? = X.2.2.1.heap[q]?
def PVT (X : XC) : Prop := ∀ y : MethodName, Cond.privateMethod y ∈ lw_tbl → X.2.2.1.PrivateAt y
def BB (X : XC) (Y : YC) (mi : MI) (p : Program) (s : State) (m : MethodId) (args : Array Value) (meth : Method) (c : Code) : Prop :=
  Bd X mi p s m args meth c ∧ KpY X s.heap ∧ K2 X Y ∧ (∀ a : Nat, X.2.2.2.1 (100 + a) = a) ∧ PVT X
def rf (a : Nat) : AV := .inr (.inr (some (40, 100 + a)))
def GB (l : Launch) (X : XC) (Y : YC) (mi : MI) (p : Program) (e : Env) (R : Room) (s : State) (m : MethodId) (args : Array Value) (below : List Frame) (meth : Method) (c : Code) (ce sl : Nat) (Q : State → Prop) (pc : Nat) (L : LL) (S : List AV) (ws : va_W) : Prop :=
  ∀ (H : Heap) (locs : List Loc) (ls : Array Slot), va_P Y.1 cl2 ws H → va_D (AY X) ws → va_S (AY X) s.heap H locs → lv_has ls mi.2.2.1 (lvP X 0 L) → L.length = mi.2.2.1 → W p l e R s m args below meth c H locs ce sl Q (F0 m pc ls (S.map (cv X)))
def w00 : Mem := fun _ _ _ => 0
def pureI : Instr → Bool
  | .iconst _ | .bipush _ | .sipush _ | .ldc _ | .aconst_null | .iload_n _ | .iload _ | .aload_n _ | .aload _ | .istore_n _ | .istore _ | .astore_n _ | .astore _ | .iinc _ _ | .iadd | .isub | .imul | .iand | .ishl | .ishr | .ineg | .i2b | .dup | .pop | .goto _ => true
  | _ => false
section GBs
variable {l : Launch} {X : XC} {Y : YC} {mi : MI} {p : Program} {e : Env} {R : Room} {s : State} {m : MethodId} {args : Array Value} {below : List Frame} {meth : Method} {c : Code} {ce sl : Nat} {Q : State → Prop} {pc pc1 : Nat} {L L1 : LL} {S S1 : List AV} {w w1 : Mem} {cd : Option Prop} {ws : va_W} {P : Prop}
theorem b_push {v : AV} {len : Nat} (row : ∀ (H : Heap) (locs : List Loc) (ls : Array Slot) (rest : List Value), W p l e R s m args below meth c H locs ce sl Q (F0 m (pc + len) ls (cv X v :: rest)) → W p l e R s m args below meth c H locs ce sl Q (F0 m pc ls rest)) (hex : xPush (L, S, w) v = some (cd, L1, S1, w1)) (kk : GB l X Y mi p e R s m args below meth c ce sl Q (pc + len) L1 S1 ws) : GB l X Y mi p e R s m args below meth c ce sl Q pc L S ws := by
  unfold xPush at hex
  simp only [Option.some.injEq, Prod.mk.injEq] at hex
  obtain ⟨rfl, rfl, rfl, rfl⟩ := hex
  intro H locs ls hP hD hS hl hL
  exact row H locs ls _ (kk H locs ls hP hD hS hl hL)
theorem b_ldI {i len : Nat} (row : ∀ (H : Heap) (locs : List Loc) (ls : Array Slot) (rest : List Value) (x : Int32), ls[i]? = some (.val (.int x)) → W p l e R s m args below meth c H locs ce sl Q (F0 m (pc + len) ls (.int x :: rest)) → W p l e R s m args below meth c H locs ce sl Q (F0 m pc ls rest)) (hex : xLdI (L, S, w) i = some (cd, L1, S1, w1)) (kk : GB l X Y mi p e R s m args below meth c ce sl Q (pc + len) L1 S1 ws) : GB l X Y mi p e R s m args below meth c ce sl Q pc L S ws := by
  unfold xLdI at hex
  split at hex
  · rename_i x hx
    simp only [Option.some.injEq, Prod.mk.injEq] at hex
    obtain ⟨rfl, rfl, rfl, rfl⟩ := hex
    intro H locs ls hP hD hS hl hL
    exact row H locs ls _ x (lvP_at hl hx) (kk H locs ls hP hD hS hl hL)
  · cases hex
theorem b_ldA {i len : Nat} (row : ∀ (H : Heap) (locs : List Loc) (ls : Array Slot) (rest : List Value) (a : Nat), ls[i]? = some (.val (.ref a)) → W p l e R s m args below meth c H locs ce sl Q (F0 m (pc + len) ls (.ref a :: rest)) → W p l e R s m args below meth c H locs ce sl Q (F0 m pc ls rest)) (rowN : ∀ (H : Heap) (locs : List Loc) (ls : Array Slot) (rest : List Value), ls[i]? = some (.val .null) → W p l e R s m args below meth c H locs ce sl Q (F0 m (pc + len) ls (.null :: rest)) → W p l e R s m args below meth c H locs ce sl Q (F0 m pc ls rest)) (hex : xLdA (L, S, w) i = some (cd, L1, S1, w1)) (kk : GB l X Y mi p e R s m args below meth c ce sl Q (pc + len) L1 S1 ws) : GB l X Y mi p e R s m args below meth c ce sl Q pc L S ws := by
  unfold xLdA at hex
  split at hex
  · rename_i x hx
    simp only [Option.some.injEq, Prod.mk.injEq] at hex
    obtain ⟨rfl, rfl, rfl, rfl⟩ := hex
    intro H locs ls hP hD hS hl hL
    have k1 := kk H locs ls hP hD hS hl hL
    cases x with
    | none => exact rowN H locs ls _ (lvP_at hl hx) k1
    | some q => exact row H locs ls _ _ (lvP_at hl hx) k1
  · cases hex
theorem b_stI {i len : Nat} (row : ∀ (H : Heap) (locs : List Loc) (ls : Array Slot) (rest : List Value) (x : Int32) (lv lv' : List (Nat × Value)), lv_has ls mi.2.2.1 lv → i < mi.2.2.1 → (i, Value.int x) :: lv.filter (fun q => !(q.1 == i) && !(q.1 + 1 == i && q.2.category == 2)) = lv' → (∀ ls' : Array Slot, lv_has ls' mi.2.2.1 lv' → W p l e R s m args below meth c H locs ce sl Q (F0 m (pc + len) ls' rest)) → W p l e R s m args below meth c H locs ce sl Q (F0 m pc ls (.int x :: rest))) (hex : xStI (L, S, w) i = some (cd, L1, S1, w1)) (kk : GB l X Y mi p e R s m args below meth c ce sl Q (pc + len) L1 S1 ws) : GB l X Y mi p e R s m args below meth c ce sl Q pc L S ws := by
  unfold xStI at hex
  split at hex
  · rename_i q L0 x S0 w0 e0
    cases e0
    split at hex
    · rename_i hi
      simp only [Option.some.injEq, Prod.mk.injEq] at hex
      obtain ⟨rfl, rfl, rfl, rfl⟩ := hex
      intro H locs ls hP hD hS hl hL
      exact row H locs ls _ x _ _ hl (by rw [← hL]; exact hi) rfl (fun ls' h' => kk H locs ls' hP hD hS (lv_mono h' (lvP_st hi)) (by rw [stL_len]; exact hL))
    · cases hex
  · cases hex
theorem b_stA {i len : Nat} (row : ∀ (H : Heap) (locs : List Loc) (ls : Array Slot) (rest : List Value) (x : Nat) (lv lv' : List (Nat × Value)), lv_has ls mi.2.2.1 lv → i < mi.2.2.1 → (i, Value.ref x) :: lv.filter (fun q => !(q.1 == i) && !(q.1 + 1 == i && q.2.category == 2)) = lv' → (∀ ls' : Array Slot, lv_has ls' mi.2.2.1 lv' → W p l e R s m args below meth c H locs ce sl Q (F0 m (pc + len) ls' rest)) → W p l e R s m args below meth c H locs ce sl Q (F0 m pc ls (.ref x :: rest))) (rowN : ∀ (H : Heap) (locs : List Loc) (ls : Array Slot) (rest : List Value) (lv lv' : List (Nat × Value)), lv_has ls mi.2.2.1 lv → i < mi.2.2.1 → (i, Value.null) :: lv.filter (fun q => !(q.1 == i) && !(q.1 + 1 == i && q.2.category == 2)) = lv' → (∀ ls' : Array Slot, lv_has ls' mi.2.2.1 lv' → W p l e R s m args below meth c H locs ce sl Q (F0 m (pc + len) ls' rest)) → W p l e R s m args below meth c H locs ce sl Q (F0 m pc ls (.null :: rest))) (hex : xStA (L, S, w) i = some (cd, L1, S1, w1)) (kk : GB l X Y mi p e R s m args below meth c ce sl Q (pc + len) L1 S1 ws) : GB l X Y mi p e R s m args below meth c ce sl Q pc L S ws := by
  unfold xStA at hex
  split at hex
  · rename_i q L0 x S0 w0 e0
    cases e0
    split at hex
    · rename_i hi
      simp only [Option.some.injEq, Prod.mk.injEq] at hex
      obtain ⟨rfl, rfl, rfl, rfl⟩ := hex
      intro H locs ls hP hD hS hl hL
      cases x with
      | none => exact rowN H locs ls _ _ _ hl (by rw [← hL]; exact hi) rfl (fun ls' h' => kk H locs ls' hP hD hS (lv_mono h' (lvP_st hi)) (by rw [stL_len]; exact hL))
      | some q => exact row H locs ls _ _ _ _ hl (by rw [← hL]; exact hi) rfl (fun ls' h' => kk H locs ls' hP hD hS (lv_mono h' (lvP_st hi)) (by rw [stL_len]; exact hL))
    · cases hex
  · cases hex
theorem b_inc {i len : Nat} {kn : Int} {k : Int32} (B : Bd X mi p s m args meth c) (h3 : len = 3) (hk : Int32.ofInt kn = k) (hd : decode mi.2.1 pc = .ok (.iinc i kn, 3)) (hex : xInc (L, S, w) i k = some (cd, L1, S1, w1)) (kk : GB l X Y mi p e R s m args below meth c ce sl Q (pc + len) L1 S1 ws) : GB l X Y mi p e R s m args below meth c ce sl Q pc L S ws := by
  unfold xInc at hex
  subst h3
  obtain ⟨hx, hb, -⟩ := B
  split at hex
  · rename_i x hx2
    split at hex
    · rename_i hi
      simp only [Option.some.injEq, Prod.mk.injEq] at hex
      obtain ⟨rfl, rfl, rfl, rfl⟩ := hex
      intro H locs ls hP hD hS hl hL
      obtain ⟨j, hj⟩ := List.getElem?_of_mem ((mem_lvP (X := X) L 0).mpr ⟨i, _, hx2, rfl⟩)
      rw [Nat.zero_add] at hj
      exact lv_iinc (v := x + k) hx hb hd hl hj (by rw [hk]) (by rw [← hL]; exact hi) rfl (fun ls' h' => kk H locs ls' hP hD hS (lv_mono h' (lvP_st (v := .inl (x + k)) hi)) (by rw [stL_len]; exact hL))
    · cases hex
  · cases hex
theorem b_II {f : Int32 → Int32 → Int32} {len : Nat} (row : ∀ (H : Heap) (locs : List Loc) (ls : Array Slot) (rest : List Value) (x y : Int32), W p l e R s m args below meth c H locs ce sl Q (F0 m (pc + len) ls (.int (f x y) :: rest)) → W p l e R s m args below meth c H locs ce sl Q (F0 m pc ls (.int y :: .int x :: rest))) (hex : xII (L, S, w) f = some (cd, L1, S1, w1)) (kk : GB l X Y mi p e R s m args below meth c ce sl Q (pc + len) L1 S1 ws) : GB l X Y mi p e R s m args below meth c ce sl Q pc L S ws := by
  unfold xII at hex
  split at hex
  · rename_i q L0 y x S0 w0 e0
    cases e0
    simp only [Option.some.injEq, Prod.mk.injEq] at hex
    obtain ⟨rfl, rfl, rfl, rfl⟩ := hex
    intro H locs ls hP hD hS hl hL
    exact row H locs ls _ x y (kk H locs ls hP hD hS hl hL)
  · cases hex
theorem b_I1 {f : Int32 → AV} {len : Nat} (row : ∀ (H : Heap) (locs : List Loc) (ls : Array Slot) (rest : List Value) (x : Int32), W p l e R s m args below meth c H locs ce sl Q (F0 m (pc + len) ls (cv X (f x) :: rest)) → W p l e R s m args below meth c H locs ce sl Q (F0 m pc ls (.int x :: rest))) (hex : xI1 (L, S, w) f = some (cd, L1, S1, w1)) (kk : GB l X Y mi p e R s m args below meth c ce sl Q (pc + len) L1 S1 ws) : GB l X Y mi p e R s m args below meth c ce sl Q pc L S ws := by
  unfold xI1 at hex
  split at hex
  · rename_i q L0 x S0 w0 e0
    cases e0
    simp only [Option.some.injEq, Prod.mk.injEq] at hex
    obtain ⟨rfl, rfl, rfl, rfl⟩ := hex
    intro H locs ls hP hD hS hl hL
    exact row H locs ls _ x (kk H locs ls hP hD hS hl hL)
  · cases hex
theorem b_Dup {len : Nat} (B : Bd X mi p s m args meth c) (h3 : len = 1) (hd : decode mi.2.1 pc = .ok (.dup, 1)) (hex : xDup (L, S, w) = some (cd, L1, S1, w1)) (kk : GB l X Y mi p e R s m args below meth c ce sl Q (pc + len) L1 S1 ws) : GB l X Y mi p e R s m args below meth c ce sl Q pc L S ws := by
  unfold xDup at hex
  subst h3
  obtain ⟨hx, hb, -⟩ := B
  split at hex
  · rename_i q L0 v S0 w0 e0
    cases e0
    split at hex
    · rename_i hv
      simp only [Option.some.injEq, Prod.mk.injEq] at hex
      obtain ⟨rfl, rfl, rfl, rfl⟩ := hex
      intro H locs ls hP hD hS hl hL
      exact lv_dup hx hb hd (cat1_cv hv) (kk H locs ls hP hD hS hl hL)
    · cases hex
  · cases hex
theorem b_Pop {len : Nat} (B : Bd X mi p s m args meth c) (h3 : len = 1) (hd : decode mi.2.1 pc = .ok (.pop, 1)) (hex : xPop (L, S, w) = some (cd, L1, S1, w1)) (kk : GB l X Y mi p e R s m args below meth c ce sl Q (pc + len) L1 S1 ws) : GB l X Y mi p e R s m args below meth c ce sl Q pc L S ws := by
  unfold xPop at hex
  subst h3
  obtain ⟨hx, hb, -⟩ := B
  split at hex
  · rename_i q L0 v S0 w0 e0
    cases e0
    split at hex
    · rename_i hv
      simp only [Option.some.injEq, Prod.mk.injEq] at hex
      obtain ⟨rfl, rfl, rfl, rfl⟩ := hex
      intro H locs ls hP hD hS hl hL
      exact lv_pop hx hb hd (cat1_cv hv) (kk H locs ls hP hD hS hl hL)
    · cases hex
  · cases hex
theorem b_one (B : Bd X mi p s m args meth c) {ei : EI} (hp : pureI ei.1 = true) (hst : ste mi pc ei = some pc1) (hex : ex1 flT ei (L, S, w) = some (cd, L1, S1, w1)) (kk : GB l X Y mi p e R s m args below meth c ce sl Q pc1 L1 S1 ws) : GB l X Y mi p e R s m args below meth c ce sl Q pc L S ws := by
  obtain ⟨hd, hlk, rfl⟩ := ste_spec hst
  obtain ⟨ins, ea, eb, ek, el⟩ := ei
  have hx := B.1
  have hb := B.2.1
  have hown := B.2.2.2.1
  cases ins with
  | iconst q => exact b_push (v := .inl ek) (len := 1) (fun H locs ls rest k1 => lv_iconst hx hb hd (of_decide_eq_true hlk) k1) hex kk
  | bipush q => exact b_push (v := .inl ek) (len := 2) (fun H locs ls rest k1 => lv_bipush hx hb hd (of_decide_eq_true hlk) k1) hex kk
  | sipush q => exact b_push (v := .inl ek) (len := 3) (fun H locs ls rest k1 => lv_sipush hx hb hd (of_decide_eq_true hlk) k1) hex kk
  | ldc q => exact b_push (v := .inl ek) (len := 2) (fun H locs ls rest k1 => lv_ldc hx hb hown (B.hw (B.2.2.2.2.2.2.2.2.2.1.2.1 _ (of_decide_eq_true hlk)) rfl) hd k1) hex kk
  | aconst_null => exact b_push (v := .inr (.inr none)) (len := 1) (fun H locs ls rest k1 => lv_null hx hb hd k1) hex kk
  | iload_n q => exact b_ldI (len := 1) (fun H locs ls rest x hl k1 => lv_iload_n hx hb hd rfl hl k1) hex kk
  | iload q => exact b_ldI (len := 2) (fun H locs ls rest x hl k1 => lv_iload hx hb hd hl k1) hex kk
  | aload_n q => exact b_ldA (len := 1) (fun H locs ls rest x hl k1 => lv_aload_n hx hb hd rfl hl k1) (fun H locs ls rest hl k1 => lv_aload_nN hx hb hd rfl hl k1) hex kk
  | aload q => exact b_ldA (len := 2) (fun H locs ls rest x hl k1 => lv_aload hx hb hd hl k1) (fun H locs ls rest hl k1 => lv_aloadN hx hb hd hl k1) hex kk
  | istore_n q => exact b_stI (len := 1) (fun H locs ls rest x lv lv' h1 h2 h3 k1 => lv_istore_n hx hb hd rfl h1 h2 h3 k1) hex kk
  | istore q => exact b_stI (len := 2) (fun H locs ls rest x lv lv' h1 h2 h3 k1 => lv_istore hx hb hd h1 h2 h3 k1) hex kk
  | astore_n q => exact b_stA (len := 1) (fun H locs ls rest x lv lv' h1 h2 h3 k1 => lv_astore_n hx hb hd rfl h1 h2 h3 k1) (fun H locs ls rest lv lv' h1 h2 h3 k1 => lv_astore_nN hx hb hd rfl h1 h2 h3 k1) hex kk
  | astore q => exact b_stA (len := 2) (fun H locs ls rest x lv lv' h1 h2 h3 k1 => lv_astore hx hb hd h1 h2 h3 k1) (fun H locs ls rest lv lv' h1 h2 h3 k1 => lv_astoreN hx hb hd h1 h2 h3 k1) hex kk
  | iinc q1 q2 => exact b_inc B rfl (of_decide_eq_true hlk) hd hex kk
  | iadd => exact b_II (fun H locs ls rest x y k1 => lv_iadd hx hb hd k1) hex kk
  | isub => exact b_II (fun H locs ls rest x y k1 => lv_isub hx hb hd k1) hex kk
  | imul => exact b_II (fun H locs ls rest x y k1 => lv_imul hx hb hd k1) hex kk
  | iand => exact b_II (fun H locs ls rest x y k1 => lv_iand hx hb hd k1) hex kk
  | ishl => exact b_II (fun H locs ls rest x y k1 => lv_ishl hx hb hd k1) hex kk
  | ishr => exact b_II (fun H locs ls rest x y k1 => lv_ishr hx hb hd k1) hex kk
  | ineg => exact b_I1 (f := fun x => .inl (-x)) (fun H locs ls rest x k1 => lv_ineg hx hb hd k1) hex kk
  | i2b => exact b_I1 (f := fun x => .inl x.toInt8.toInt32) (fun H locs ls rest x k1 => lv_i2b hx hb hd rfl k1) hex kk
  | dup => exact b_Dup B rfl hd hex kk
  | pop => exact b_Pop B rfl hd hex kk
  | goto q =>
    simp only [ex1, Option.some.injEq, Prod.mk.injEq] at hex
    obtain ⟨rfl, rfl, rfl, rfl⟩ := hex
    intro H locs ls hP hD hS hl hL
    exact lv_goto hx hb hd (Int.toNat_of_nonneg (of_decide_eq_true hlk)).symm (kk H locs ls hP hD hS hl hL)
  | _ => cases hp
theorem GB_run (B : BB X Y mi p s m args meth c) : ∀ (is : List EI) {pc : Nat} {L : LL} {S : List AV} {w : Mem} {P : Prop}, (is.all fun e => pureI e.1) = true → blk mi pc is = some pc1 → exs flT is (L, S, w) = some (P, L1, S1, w1) → GB l X Y mi p e R s m args below meth c ce sl Q pc1 L1 S1 ws → GB l X Y mi p e R s m args below meth c ce sl Q pc L S ws := by
  intro is
  induction is with
  | nil =>
    intro pc L S w P hp hb hx kk
    cases hb
    cases hx
    exact kk
  | cons ei es ih =>
    intro pc L S w P hp hb hx kk
    have hp2 := Bool.and_eq_true_iff.mp (show (pureI ei.1 && es.all fun e => pureI e.1) = true from hp)
    unfold blk at hb
    split at hb
    · cases hb
    · rename_i pc2 hst
      unfold exs at hx
      split at hx
      · cases hx
      · rename_i cd σ1 hex
        split at hx
        · cases hx
        · rename_i P2 σ2 hes
          obtain ⟨L2, S2, w2⟩ := σ1
          cases hx
          exact b_one B.1 hp2.1 hst hex (ih hp2.2 hb hes kk)
theorem GB_if {k : ClassFile.Cond} {off : Int} {tgt : Nat} {x : Int32} (B : BB X Y mi p s m args meth c) (hd : decode mi.2.1 pc = .ok (.ifCond k off, 3)) (ht : (pc : Int) + off = (tgt : Int)) (t : cnd k x 0 → GB l X Y mi p e R s m args below meth c ce sl Q tgt L S ws) (f : ¬ cnd k x 0 → GB l X Y mi p e R s m args below meth c ce sl Q (pc + 3) L S ws) : GB l X Y mi p e R s m args below meth c ce sl Q pc L (.inl x :: S) ws := by
  intro H locs ls hP hD hS hl hL
  have kt := fun h => t h H locs ls hP hD hS hl hL
  have kf := fun h => f h H locs ls hP hD hS hl hL
  cases k with
  | eq => exact lv_if_eq B.1.1 B.1.2.1 hd ht kt kf
  | ne => exact lv_if_ne B.1.1 B.1.2.1 hd ht kt (fun h => kf (fun z => z h))
  | lt => exact lv_if_lt B.1.1 B.1.2.1 hd ht kt kf
  | ge => exact lv_if_ge B.1.1 B.1.2.1 hd ht kt kf
  | gt => exact lv_if_gt B.1.1 B.1.2.1 hd ht kt kf
  | le => exact lv_if_le B.1.1 B.1.2.1 hd ht kt kf
theorem GB_icmp {k : ClassFile.Cond} {off : Int} {tgt : Nat} {x y : Int32} (B : BB X Y mi p s m args meth c) (hd : decode mi.2.1 pc = .ok (.if_icmp k off, 3)) (ht : (pc : Int) + off = (tgt : Int)) (t : cnd k x y → GB l X Y mi p e R s m args below meth c ce sl Q tgt L S ws) (f : ¬ cnd k x y → GB l X Y mi p e R s m args below meth c ce sl Q (pc + 3) L S ws) : GB l X Y mi p e R s m args below meth c ce sl Q pc L (.inl y :: .inl x :: S) ws := by
  intro H locs ls hP hD hS hl hL
  have kt := fun h => t h H locs ls hP hD hS hl hL
  have kf := fun h => f h H locs ls hP hD hS hl hL
  cases k with
  | eq => exact lv_icmp_eq B.1.1 B.1.2.1 hd ht kt kf
  | ne => exact lv_icmp_ne B.1.1 B.1.2.1 hd ht kt (fun h => kf (fun z => z h))
  | lt => exact lv_icmp_lt B.1.1 B.1.2.1 hd ht kt kf
  | ge => exact lv_icmp_ge B.1.1 B.1.2.1 hd ht kt kf
  | gt => exact lv_icmp_gt B.1.1 B.1.2.1 hd ht kt kf
  | le => exact lv_icmp_le B.1.1 B.1.2.1 hd ht kt kf
theorem GB_ifT {k : ClassFile.Cond} {off : Int} {tgt : Nat} {x : Int32} (B : BB X Y mi p s m args meth c) (hd : decode mi.2.1 pc = .ok (.ifCond k off, 3)) (ht : (pc : Int) + off = (tgt : Int)) (hc : cnd k x 0) (t : GB l X Y mi p e R s m args below meth c ce sl Q tgt L S ws) : GB l X Y mi p e R s m args below meth c ce sl Q pc L (.inl x :: S) ws := GB_if B hd ht (fun _ => t) (fun h => absurd hc h)
theorem GB_ifF {k : ClassFile.Cond} {off : Int} {tgt : Nat} {x : Int32} (B : BB X Y mi p s m args meth c) (hd : decode mi.2.1 pc = .ok (.ifCond k off, 3)) (ht : (pc : Int) + off = (tgt : Int)) (hc : ¬ cnd k x 0) (t : GB l X Y mi p e R s m args below meth c ce sl Q (pc + 3) L S ws) : GB l X Y mi p e R s m args below meth c ce sl Q pc L (.inl x :: S) ws := GB_if B hd ht (fun h => absurd h hc) (fun _ => t)
theorem GB_icT {k : ClassFile.Cond} {off : Int} {tgt : Nat} {x y : Int32} (B : BB X Y mi p s m args meth c) (hd : decode mi.2.1 pc = .ok (.if_icmp k off, 3)) (ht : (pc : Int) + off = (tgt : Int)) (hc : cnd k x y) (t : GB l X Y mi p e R s m args below meth c ce sl Q tgt L S ws) : GB l X Y mi p e R s m args below meth c ce sl Q pc L (.inl y :: .inl x :: S) ws := GB_icmp B hd ht (fun _ => t) (fun h => absurd hc h)
theorem GB_icF {k : ClassFile.Cond} {off : Int} {tgt : Nat} {x y : Int32} (B : BB X Y mi p s m args meth c) (hd : decode mi.2.1 pc = .ok (.if_icmp k off, 3)) (ht : (pc : Int) + off = (tgt : Int)) (hc : ¬ cnd k x y) (t : GB l X Y mi p e R s m args below meth c ce sl Q (pc + 3) L S ws) : GB l X Y mi p e R s m args below meth c ce sl Q pc L (.inl y :: .inl x :: S) ws := GB_icmp B hd ht (fun h => absurd h hc) (fun _ => t)
theorem BB.hK (B : BB X Y mi p s m args meth c) : va_K Y.1 cl2 (ty2 Y) s := va_K.moved B.1.2.2.2.2.2.2.2.1 B.2.2.1
theorem BB.rf (B : BB X Y mi p s m args meth c) (a : Nat) : cv X (rf a) = .ref a := by
  show Value.ref (X.2.2.2.1 (100 + a)) = .ref a
  rw [B.2.2.2.1 a]
theorem ay_aa : ∀ q, AY X q → AA X q := fun q h => Or.inr h
theorem BB.old (B : BB X Y mi p s m args meth c) : ∀ a : Nat, a < X.2.2.1.heap.size → ¬ AA X a → s.heap[a]? = X.2.2.1.heap[a]? := fun a h1 h2 => B.2.1.2 a h1 h2
theorem BB.new (B : BB X Y mi p s m args meth c) : ∀ q : Nat, s.heap.size ≤ q → AY X q := fun q h => Nat.le_trans B.2.1.1 h
theorem BB.kp (B : BB X Y mi p s m args meth c) {H : Heap} {locs : List Loc} (hS : va_S (AY X) s.heap H locs) : KpY X H := by
  refine ⟨Nat.le_trans B.2.1.1 hS.1, fun q h1 h2 => ?_⟩
  rw [hS.2.1 q (Nat.lt_of_lt_of_le h1 B.2.1.1) (fun z => absurd z (Nat.not_le.mpr h1))]
  exact B.2.1.2 q h1 h2
theorem BB.str (B : BB X Y mi p s m args meth c) {i v len : Nat} {by0 : Nat → Int32} (hG : strG X i v len by0) : va_O "java/lang/String" (X.2.2.2.1 i) (AY X) s s.heap ∧ va_OF "java/lang/String" "coder" "B" (.int 0) (X.2.2.2.1 i) (AY X) s s.heap ∧ va_OF "java/lang/String" "value" "[B" (.ref (X.2.2.2.1 v)) (X.2.2.2.1 i) (AY X) s s.heap ∧ va_T .byte (X.2.2.2.1 v) len (fun j => .int (by0 j)) (AY X) s s.heap := by
  obtain ⟨-, -, -, h1, h2, h3, h4⟩ := hG
  have ha := B.1.2.2.2.2.2.2.2.1
  exact ⟨((h1.moved ha).kept B.old).narrow ay_aa, ((h2.moved ha).kept B.old).narrow ay_aa, ((h3.moved ha).kept B.old).narrow ay_aa, ((h4.moved ha).kept B.old).narrow ay_aa⟩
-- fields of the builder (class 0) and of a String (class 1)
theorem GB_get {idx q0 a k : Nat} {fs : List Value} {v : AV} (B : BB X Y mi p s m args meth c) (he : ws[q0]? = some (a, .inr (0, fs))) (hk : k < 4) (hf : Cond.fieldLink mi.1 idx RJ5 (TJ4 k).2.1 (TJ4 k).2.2.1 ∈ lw_tbl) (hv : fs[k]? = some (cv X v)) (hd : decode mi.2.1 pc = .ok (.getfield idx, 3)) (kk : GB l X Y mi p e R s m args below meth c ce sl Q (pc + 3) L (v :: S) ws) : GB l X Y mi p e R s m args below meth c ce sl Q pc L (rf a :: S) ws := by
  intro H locs ls hP hD hS hl hL
  have k1 := kk H locs ls hP hD hS hl hL
  rw [List.map_cons, B.rf]
  have hT : (TJ4 k).1 = RJ5 := (by decide : ∀ k, k < 4 → (TJ4 k).1 = RJ5) k hk
  exact va_get B.1.1 B.1.2.1 B.1.2.2.2.2.1 (u_gtb inJ4) B.1.2.2.2.1 B.hK hP q0 he rfl k hk (B.1.hw hf rfl) (fun x h => by rw [hT] at h; exact h) hv hd k1
theorem GB_put {idx q0 a k : Nat} {fs : List Value} {v : AV} (B : BB X Y mi p s m args meth c) (he : ws[q0]? = some (a, .inr (0, fs))) (hk : k < 4) (hf : Cond.fieldLink mi.1 idx RJ5 (TJ4 k).2.1 (TJ4 k).2.2.1 ∈ lw_tbl) (hn : narrow (tyJ4 k) (cv X v) = cv X v) (hfit : fits (tyJ4 k) (cv X v) = true) (hl4 : fs.length = 4) (hd : decode mi.2.1 pc = .ok (.putfield idx, 3)) (kk : GB l X Y mi p e R s m args below meth c ce sl Q (pc + 3) L S (ws.set q0 (a, .inr (0, fs.set k (cv X v))))) : GB l X Y mi p e R s m args below meth c ce sl Q pc L (v :: rf a :: S) ws := by
  intro H locs ls hP hD hS hl hL
  rw [List.map_cons, List.map_cons, B.rf]
  have hT : (TJ4 k).1 = RJ5 := (by decide : ∀ k, k < 4 → (TJ4 k).1 = RJ5) k hk
  exact va_put B.1.1 B.1.2.1 B.1.2.2.2.2.1 (u_gtb inJ4) tyJ4 tyJ4_ok nmJ4 B.1.2.2.2.1 B.hK hP hD hS q0 he rfl k hk (B.1.hw hf rfl) (fun x h => by rw [hT] at h; exact h) ((by decide : ∀ k, k < 4 → (TJ4 k).2.2.2 = false) k hk) (tyJ4_ok k hk) hn hfit (by rw [hl4]; exact hk) hd (fun H1 locs1 hP1 hD1 hS1 => kk H1 locs1 ls hP1 hD1 hS1 hl hL)
theorem GB_putF {idx q0 a k : Nat} {fs : List Value} {v : AV} (B : BB X Y mi p s m args meth c) (hown : mi.1 = RJ0) (hini : meth.name = "<init>") (he : ws[q0]? = some (a, .inr (1, fs))) (hk : k < 2) (hf : Cond.fieldLink mi.1 idx RJ0 (TJ0 k).2.1 (TJ0 k).2.2.1 ∈ lw_tbl) (hn : narrow (tyJ0 k) (cv X v) = cv X v) (hfit : fits (tyJ0 k) (cv X v) = true) (hl4 : fs.length = 4) (hd : decode mi.2.1 pc = .ok (.putfield idx, 3)) (kk : GB l X Y mi p e R s m args below meth c ce sl Q (pc + 3) L S (ws.set q0 (a, .inr (1, fs.set k (cv X v))))) : GB l X Y mi p e R s m args below meth c ce sl Q pc L (v :: rf a :: S) ws := by
  intro H locs ls hP hD hS hl hL
  rw [List.map_cons, List.map_cons, B.rf]
  have hT : (TJ0 k).1 = RJ0 := (by decide : ∀ k, k < 2 → (TJ0 k).1 = RJ0) k hk
  exact va_putF B.1.1 B.1.2.1 B.1.2.2.2.2.1 (u_gtb inJ0) tyJ0 tyJ0_ok nmJ0 B.1.2.2.2.1 B.hK hP hD hS q0 he rfl k (by omega) (B.1.hw hf rfl) (fun x h => by rw [hT] at h; exact h) ((by decide : ∀ k, k < 2 → (TJ0 k).2.2.2 = true) k hk) hini (hT.trans hown.symm) (tyJ0_ok k (by omega)) hn hfit (by omega) hd (fun H1 locs1 hP1 hD1 hS1 => kk H1 locs1 ls hP1 hD1 hS1 hl hL)
-- rows of bytes
theorem GB_alen {q0 a n : Nat} {f : Nat → Int32} (B : BB X Y mi p s m args meth c) (he : ws[q0]? = some (a, .inl (Y.2, n, .inl f))) (hd : decode mi.2.1 pc = .ok (.arraylength, 1)) (kk : GB l X Y mi p e R s m args below meth c ce sl Q (pc + 1) L (.inl (nI n) :: S) ws) : GB l X Y mi p e R s m args below meth c ce sl Q pc L (rf a :: S) ws := by
  intro H locs ls hP hD hS hl hL
  rw [List.map_cons, B.rf]
  exact va_alen B.1.1 B.1.2.1 B.hK hP q0 0 he rfl rfl hd (kk H locs ls hP hD hS hl hL)
theorem GB_bast {q0 a n : Nat} {f : Nat → Int32} {i x : Int32} (B : BB X Y mi p s m args meth c) (he : ws[q0]? = some (a, .inl (Y.2, n, .inl f))) (hin : inB i n) (hd : decode mi.2.1 pc = .ok (.bastore, 1)) (kk : GB l X Y mi p e R s m args below meth c ce sl Q (pc + 1) L S (ws.set q0 (a, .inl (Y.2, n, .inl (upd f (tn i) (vp_nar .byte x)))))) : GB l X Y mi p e R s m args below meth c ce sl Q pc L (.inl x :: .inl i :: rf a :: S) ws := by
  intro H locs ls hP hD hS hl hL
  rw [List.map_cons, List.map_cons, List.map_cons, B.rf]
  exact va_bast B.1.1 B.1.2.1 B.hK hP hD hS q0 0 he rfl hin hd (fun H1 locs1 hP1 hD1 hS1 => kk H1 locs1 ls hP1 hD1 hS1 hl hL)
theorem GB_newa {n : Int32} {N' : Nat} (B : BB X Y mi p s m args meth c) (harr : Cond.arrayClass .byte ∈ lw_tbl) (hn : ¬ n < 0) (hN : tn n = N') (hN2 : N' ≤ 1000) (hce : ce + 1 ≤ R.cells) (hsl : sl + N' ≤ R.slots) (hd : decode mi.2.1 pc = .ok (.newarray .byte, 2)) (kk : ∀ a, GB l X Y mi p e R s m args below meth c (ce + 1) (sl + N') Q (pc + 2) L (rf a :: S) (ws ++ [(a, .inl (Y.2, N', .inl (fun _ => 0)))])) : GB l X Y mi p e R s m args below meth c ce sl Q pc L (.inl n :: S) ws := by
  intro H locs ls hP hD hS hl hL
  rw [List.map_cons]
  refine va_newa (atype := .byte) (ty := .byte) (a0 := (N', .inl (fun _ => 0))) B.1.1 B.1.2.1 (B.1.hw harr rfl) rfl B.hK hP hD hS B.new (fun cA => rfl) hn hN (by show N' * 1 ≤ 536870912; omega) hce hsl hd (fun a cA H1 hK1 hP1 hD1 hS1 => ?_)
  have e1 : Y.2 = cA := by
    have h1 := (hK1.2 0 (Y.2, .byte) rfl).2
    have h2 := (hK1.2 1 (cA, .byte) rfl).2
    exact Option.some.inj (h1.symm.trans h2)
  subst e1
  have k1 := kk a H1 locs ls hP1 hD1 hS1 hl hL
  rw [List.map_cons, B.rf] at k1
  exact k1
theorem GB_newS {idx : Nat} (B : BB X Y mi p s m args meth c) (hcl : Cond.classLink mi.1 idx RJ4 ∈ lw_tbl) (hinst : Cond.instantiable RJ4 4 ∈ lw_tbl) (hini : Cond.initialized RJ4 ∈ lw_tbl) (hce : ce + 1 ≤ R.cells) (hsl : sl + 4 ≤ R.slots) (hd : decode mi.2.1 pc = .ok (.new idx, 3)) (kk : ∀ a, GB l X Y mi p e R s m args below meth c (ce + 1) (sl + 4) Q (pc + 3) L (rf a :: S) (ws ++ [(a, .inr (0, [.null, .int 0, .int 0, .int 0]))])) : GB l X Y mi p e R s m args below meth c ce sl Q pc L S ws := by
  intro H locs ls hP hD hS hl hL
  refine va_new (ci := 0) B.1.1 B.1.2.1 B.1.2.2.2.2.1 (u_gtb inJ4) tyJ4 tyJ4_ok B.1.2.2.2.1 (B.1.hw hcl rfl) (B.1.hw hinst rfl) (B.1.hw hini rfl) B.hK hP hD hS B.new rfl (fun j hj => (by decide : ∀ j, j < 4 → defaultValue (tyJ4 j) = vp_V [.null, .int 0, .int 0, .int 0] j) j hj) hce hsl hd (fun a H1 hP1 hD1 hS1 => ?_)
  have k1 := kk a H1 locs ls hP1 hD1 hS1 hl hL
  rw [List.map_cons, B.rf] at k1
  exact k1
theorem GB_newT {idx : Nat} (B : BB X Y mi p s m args meth c) (hcl : Cond.classLink mi.1 idx RJ0 ∈ lw_tbl) (hinst : Cond.instantiable RJ0 4 ∈ lw_tbl) (hini : Cond.initialized RJ0 ∈ lw_tbl) (hce : ce + 1 ≤ R.cells) (hsl : sl + 4 ≤ R.slots) (hd : decode mi.2.1 pc = .ok (.new idx, 3)) (kk : ∀ a, GB l X Y mi p e R s m args below meth c (ce + 1) (sl + 4) Q (pc + 3) L (rf a :: S) (ws ++ [(a, .inr (1, [.null, .int 0, .int 0, .int 0]))])) : GB l X Y mi p e R s m args below meth c ce sl Q pc L S ws := by
  intro H locs ls hP hD hS hl hL
  refine va_new (ci := 1) B.1.1 B.1.2.1 B.1.2.2.2.2.1 (u_gtb inJ0) tyJ0 tyJ0_ok B.1.2.2.2.1 (B.1.hw hcl rfl) (B.1.hw hinst rfl) (B.1.hw hini rfl) B.hK hP hD hS B.new rfl (fun j hj => (by decide : ∀ j, j < 4 → defaultValue (tyJ0 j) = vp_V [.null, .int 0, .int 0, .int 0] j) j hj) hce hsl hd (fun a H1 hP1 hD1 hS1 => ?_)
  have k1 := kk a H1 locs ls hP1 hD1 hS1 hl hL
  rw [List.map_cons, B.rf] at k1
  exact k1
theorem GB_obj {idx a : Nat} (B : BB X Y mi p s m args meth c) (hlk : Cond.methodLink mi.1 idx Lib.objectInit ∈ lw_tbl) (hin : Cond.instanceMethod Lib.objectInit ∈ lw_tbl) (hco : Cond.code Lib.objectInit ⟨#[0xb1]⟩ 1 none ∈ lw_tbl) (hR : 1 ≤ R.frames ∧ 30 ≤ R.locals) (hcat : catS S ≤ 8) (hd : decode mi.2.1 pc = .ok (.invokespecial idx, 3)) (kk : GB l X Y mi p e R s m args below meth c ce sl Q (pc + 3) L S ws) : GB l X Y mi p e R s m args below meth c ce sl Q pc L (rf a :: S) ws := by
  intro H locs ls hP hD hS hl hL
  rw [List.map_cons, B.rf]
  refine W.objInit B.1.1 B.1.2.1 B.1.2.2.2.1 (B.1.hw hlk rfl) (B.1.hw hin rfl) (B.1.hw hco rfl) rfl ((show ls.size = mi.2.2.1 from hl.1).trans B.1.2.2.1.symm) rfl hd hR.1 ?_ (kk H locs ls hP hD hS hl hL)
  have := lv_room (m := m) (pc := pc) (ls := ls) (rest := Value.ref a :: S.map (cv X)) (catS_ok (X := X) hcat)
  omega
-- statics and the pool's texts
theorem GB_compact {idx : Nat} (B : BB X Y mi p s m args meth c) (hf : Cond.fieldLink mi.1 idx "java/lang/String" "COMPACT_STRINGS" "Z" ∈ lw_tbl) (hd : decode mi.2.1 pc = .ok (.getstatic idx, 3)) (kk : GB l X Y mi p e R s m args below meth c ce sl Q (pc + 3) L (.inl 1 :: S) ws) : GB l X Y mi p e R s m args below meth c ce sl Q pc L S ws := by
  intro H locs ls hP hD hS hl hL
  exact va_gets B.1.1 B.1.2.1 (((B.1.2.2.2.2.2.2.2.2.1.2.2.1.moved B.1.2.2.2.2.2.2.2.1).kept B.old).narrow ay_aa) hS B.1.2.2.2.1 (B.1.hw hf rfl) (fun _ h => h) hd (kk H locs ls hP hD hS hl hL)
theorem GB_static {idx i : Nat} {C nm ds : String} (B : BB X Y mi p s m args meth c) (hZ : va_Z C nm ds (.ref (X.2.2.2.1 i)) (AA X) X.2.2.1 X.2.2.1.heap) (hf : Cond.fieldLink mi.1 idx C nm ds ∈ lw_tbl) (hd : decode mi.2.1 pc = .ok (.getstatic idx, 3)) (kk : GB l X Y mi p e R s m args below meth c ce sl Q (pc + 3) L (.inr (.inr (some (40, i))) :: S) ws) : GB l X Y mi p e R s m args below meth c ce sl Q pc L S ws := by
  intro H locs ls hP hD hS hl hL
  exact va_gets B.1.1 B.1.2.1 (((hZ.moved B.1.2.2.2.2.2.2.2.1).kept B.old).narrow ay_aa) hS B.1.2.2.2.1 (B.1.hw hf rfl) (fun _ h => h) hd (kk H locs ls hP hD hS hl hL)
theorem GB_tb {i N : Nat} {f : Nat → Int32} {x : Int32} (B : BB X Y mi p s m args meth c) (hT : va_T .byte (X.2.2.2.1 i) N (fun j => .int (f j)) (AA X) X.2.2.1 X.2.2.1.heap) (hx : inB x N) (hd : decode mi.2.1 pc = .ok (.baload, 1)) (kk : GB l X Y mi p e R s m args below meth c ce sl Q (pc + 1) L (.inl (f (tn x)) :: S) ws) : GB l X Y mi p e R s m args below meth c ce sl Q pc L (.inl x :: .inr (.inr (some (40, i))) :: S) ws := by
  intro H locs ls hP hD hS hl hL
  exact va_tb B.1.1 B.1.2.1 (((hT.moved B.1.2.2.2.2.2.2.2.1).kept B.old).narrow ay_aa) hS hx rfl hd (kk H locs ls hP hD hS hl hL)
theorem GB_strval {idx i v0 len : Nat} {by0 : Nat → Int32} (B : BB X Y mi p s m args meth c) (hG : strG X i v0 len by0) (hf : Cond.fieldLink mi.1 idx "java/lang/String" "value" "[B" ∈ lw_tbl) (hd : decode mi.2.1 pc = .ok (.getfield idx, 3)) (kk : GB l X Y mi p e R s m args below meth c ce sl Q (pc + 3) L (.inr (.inr (some (40, v0))) :: S) ws) : GB l X Y mi p e R s m args below meth c ce sl Q pc L (.inr (.inr (some (40, i))) :: S) ws := by
  intro H locs ls hP hD hS hl hL
  exact vk_getf B.1.1 B.1.2.1 (B.str hG).2.2.1 hS B.1.2.2.2.1 (B.1.hw hf rfl) (fun _ h => h) hd (kk H locs ls hP hD hS hl hL)
theorem GB_strcoder {idx i v0 len : Nat} {by0 : Nat → Int32} (B : BB X Y mi p s m args meth c) (hG : strG X i v0 len by0) (hf : Cond.fieldLink mi.1 idx "java/lang/String" "coder" "B" ∈ lw_tbl) (hd : decode mi.2.1 pc = .ok (.getfield idx, 3)) (kk : GB l X Y mi p e R s m args below meth c ce sl Q (pc + 3) L (.inl 0 :: S) ws) : GB l X Y mi p e R s m args below meth c ce sl Q pc L (.inr (.inr (some (40, i))) :: S) ws := by
  intro H locs ls hP hD hS hl hL
  exact vk_getf B.1.1 B.1.2.1 (B.str hG).2.1 hS B.1.2.2.2.1 (B.1.hw hf rfl) (fun _ h => h) hd (kk H locs ls hP hD hS hl hL)
theorem GB_tlen {i N : Nat} {f : Nat → Int32} (B : BB X Y mi p s m args meth c) (hT : va_T .byte (X.2.2.2.1 i) N (fun j => .int (f j)) (AA X) X.2.2.1 X.2.2.1.heap) (hd : decode mi.2.1 pc = .ok (.arraylength, 1)) (kk : GB l X Y mi p e R s m args below meth c ce sl Q (pc + 1) L (.inl (nI N) :: S) ws) : GB l X Y mi p e R s m args below meth c ce sl Q pc L (.inr (.inr (some (40, i))) :: S) ws := by
  intro H locs ls hP hD hS hl hL
  exact va_tlen B.1.1 B.1.2.1 (((hT.moved B.1.2.2.2.2.2.2.2.1).kept B.old).narrow ay_aa) hS rfl hd (kk H locs ls hP hD hS hl hL)
theorem GB_nonnull {off : Int} {tgt i : Nat} (B : BB X Y mi p s m args meth c) (hd : decode mi.2.1 pc = .ok (.ifnonnull off, 3)) (ht : (pc : Int) + off = (tgt : Int)) (kk : GB l X Y mi p e R s m args below meth c ce sl Q tgt L S ws) : GB l X Y mi p e R s m args below meth c ce sl Q pc L (.inr (.inr (some (40, i))) :: S) ws := by
  intro H locs ls hP hD hS hl hL
  exact lv_ifnonnull B.1.1 B.1.2.1 hd ht (kk H locs ls hP hD hS hl hL)
/-- arraycopy of an old row of bytes into one of the world's -/
theorem GB_copy {idx i q1 a n0 n1 : Nat} {f g : Nat → Int32} {sp dp nn : Int32} (B : BB X Y mi p s m args meth c) (hT : va_T .byte (X.2.2.2.1 i) n0 (fun j => .int (f j)) (AA X) X.2.2.1 X.2.2.1.heap) (hlk : Cond.methodLink mi.1 idx arraycopyName ∈ lw_tbl) (he : ws[q1]? = some (a, .inl (Y.2, n1, .inl g))) (h1 : ¬ sp < 0) (h2 : ¬ dp < 0) (h3 : ¬ nn < 0) (h4 : tn sp + tn nn ≤ n0) (h5 : tn dp + tn nn ≤ n1) (hfit : ∀ j : Nat, fits .byte (.int (f j)) = true) (hR : 1 ≤ R.frames ∧ 60 ≤ R.locals) (hcat : catS S ≤ 8) (hd : decode mi.2.1 pc = .ok (.invokestatic idx, 3))
    (kk : GB l X Y mi p e R s m args below meth c ce sl Q (pc + 3) L S (ws.set q1 (a, .inl (Y.2, n1, .inl (va_cpy f g (tn sp) (tn dp) (tn nn)))))) : GB l X Y mi p e R s m args below meth c ce sl Q pc L (.inl nn :: .inl dp :: rf a :: .inl sp :: .inr (.inr (some (40, i))) :: S) ws := by
  intro H locs ls hP hD hS hl hL
  simp only [List.map_cons]
  rw [B.rf]
  have hw1 : Cond.native arraycopyName ∈ lw_tbl := List.mem_of_getElem? (i := 457) (by decide +kernel)
  have hw2 : Cond.static arraycopyName ∈ lw_tbl := List.mem_of_getElem? (i := 456) (by decide +kernel)
  have hw3 : Cond.initialized "java/lang/System" ∈ lw_tbl := List.mem_of_getElem? (i := 22) (by decide +kernel)
  have hc8 := catS_ok (X := X) hcat
  refine vk_copyt B.1.1 B.1.2.1 (B.1.2.2.1.trans hl.1.symm) B.1.2.2.2.1 (B.1.hw hlk rfl) (B.1.hw hw1 rfl) (B.1.hw hw2 rfl) (B.1.hw hw3 rfl) B.hK hP hD hS (((hT.moved B.1.2.2.2.2.2.2.2.1).kept B.old).narrow ay_aa) q1 0 he rfl h1 h2 h3 h4 h5 (fun j _ => hfit _) hR.1 ?_ hd (fun H1 locs1 hP1 hD1 hS1 => kk H1 locs1 ls hP1 hD1 hS1 hl hL)
  have hnf : nativeFrameWords "java/lang/System" "arraycopy" 5 + 11 ≤ 40 := by decide
  omega
theorem GB_min {idx : Nat} {x y : Int32} (B : BB X Y mi p s m args meth c) (hlk : Cond.methodLink mi.1 idx Lib.Math.min.name ∈ lw_tbl) (hst : Cond.static Lib.Math.min.name ∈ lw_tbl) (hini : Cond.initialized "java/lang/Math" ∈ lw_tbl) (hco : Cond.code Lib.Math.min.name Lib.Math.min.code 2 (some .int) ∈ lw_tbl) (hR : 1 ≤ R.frames ∧ 30 ≤ R.locals) (hcs : ce ≤ R.cells ∧ sl ≤ R.slots) (hcat : catS S ≤ 8) (hd : decode mi.2.1 pc = .ok (.invokestatic idx, 3)) (kk : GB l X Y mi p e R s m args below meth c ce sl Q (pc + 3) L (.inl (if y < x then y else x) :: S) ws) : GB l X Y mi p e R s m args below meth c ce sl Q pc L (.inl y :: .inl x :: S) ws := by
  intro H locs ls hP hD hS hl hL
  have hc8 := catS_ok (X := X) hcat
  exact va_mmin B.1.1 B.1.2.1 (B.1.2.2.1.trans hl.1.symm) B.1.2.2.2.1 (B.1.hw hlk rfl) (B.1.hw hst rfl) (B.1.hw hini rfl) (B.1.hw hco rfl) hR.1 (by omega) hcs.1 hcs.2 hd (kk H locs ls hP hD hS hl hL)
theorem GB_max {idx : Nat} {x y : Int32} (B : BB X Y mi p s m args meth c) (hlk : Cond.methodLink mi.1 idx Lib.Math.max.name ∈ lw_tbl) (hst : Cond.static Lib.Math.max.name ∈ lw_tbl) (hini : Cond.initialized "java/lang/Math" ∈ lw_tbl) (hco : Cond.code Lib.Math.max.name Lib.Math.max.code 2 (some .int) ∈ lw_tbl) (hR : 1 ≤ R.frames ∧ 30 ≤ R.locals) (hcs : ce ≤ R.cells ∧ sl ≤ R.slots) (hcat : catS S ≤ 8) (hd : decode mi.2.1 pc = .ok (.invokestatic idx, 3)) (kk : GB l X Y mi p e R s m args below meth c ce sl Q (pc + 3) L (.inl (if x < y then y else x) :: S) ws) : GB l X Y mi p e R s m args below meth c ce sl Q pc L (.inl y :: .inl x :: S) ws := by
  intro H locs ls hP hD hS hl hL
  have hc8 := catS_ok (X := X) hcat
  exact va_mmax B.1.1 B.1.2.1 (B.1.2.2.1.trans hl.1.symm) B.1.2.2.2.1 (B.1.hw hlk rfl) (B.1.hw hst rfl) (B.1.hw hini rfl) (B.1.hw hco rfl) hR.1 (by omega) hcs.1 hcs.2 hd (kk H locs ls hP hD hS hl hL)
end GBs
