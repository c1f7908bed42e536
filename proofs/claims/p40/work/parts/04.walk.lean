def strA : List (String × Nat × String × Nat) := strT.map (fun q => (RX1, q)) ++ strL.map (fun q => (RL, q))
/-- the links of nest mates hold -/
def nstOK (X : XC) (U : State) : Prop := (∀ (a : String) (i : Nat) (x : MethodName) (h : String), Cond.methodLinkNest a i x h ∈ lw_tbl → va_Nw (.methodLinkNest a i x h) U) ∧ ∀ q : String × Nat × String × Nat, q ∈ strA → vk_R q.1 q.2.1 q.2.2.1 (X.2.2.2.1 q.2.2.2) U
/-- what a method's body knows -/
def Bd (X : XC) (mi : MI) (p : Program) (s : State) (m : MethodId) (args : Array Value) (meth : Method) (c : Code) : Prop :=
  p.tables.exec = Jvm.exec ∧ c.code = mi.2.1 ∧ c.maxLocals = mi.2.2.1 ∧ s.vm.findClass mi.1 = some m.cls ∧ (∀ w ∈ gtb, w.before args s = true) ∧ meth.sig.returnType = mi.2.2.2.1 ∧ meth.locks = false ∧ X.2.2.1.vm.Alike s.vm ∧ XOK X ∧ MIok mi ∧ xb X ≤ s.heap.size ∧ nstOK X s
/-- from this state on the run comes to Q -/
def G (l : Launch) (X : XC) (mi : MI) (p : Program) (e : Env) (R : Room) (s : State) (m : MethodId) (args : Array Value) (below : List Frame) (meth : Method) (c : Code) (ce sl : Nat) (Q : State → Prop) (n : Nat) (fl : Fl) (pc : Nat) (L : LL) (S : List AV) (w : Mem) : Prop :=
  ∀ (H : Heap) (locs : List Loc) (ls : Array Slot), Wd X n fl w H → va_S (AA X) s.heap H locs → lv_has ls mi.2.2.1 (lvP X 0 L) → L.length = mi.2.2.1 → (∀ v, some v ∈ L → okV n v = true) → (∀ v ∈ S, okV n v = true) → W p l e R s m args below meth c H locs ce sl Q (F0 m pc ls (S.map (cv X)))
def flOK (n : Nat) (fl : Fl) : Prop := ∀ k i j : Nat, okc n k i = true → k < 6 → ∀ t, fdD k j = some t → fl k i j = true → okR n (t.1, t.2.getD i) = true
section WALK
variable {l : Launch} {X : XC} {mi : MI} {p : Program} {e : Env} {R : Room} {s : State} {m : MethodId} {args : Array Value} {below : List Frame} {meth : Method} {c : Code} {ce sl : Nat} {Q : State → Prop} {n : Nat} {fl : Fl} {pc pc1 : Nat} {L L1 : LL} {S S1 : List AV} {w w1 : Mem} {cd : Option Prop}

theorem g_push {v : AV} {len : Nat} (hv : okV n v = true) (row : ∀ (H : Heap) (locs : List Loc) (ls : Array Slot) (rest : List Value), W p l e R s m args below meth c H locs ce sl Q (F0 m (pc + len) ls (cv X v :: rest)) → W p l e R s m args below meth c H locs ce sl Q (F0 m pc ls rest)) (hex : xPush (L, S, w) v = some (cd, L1, S1, w1)) (kk : G l X mi p e R s m args below meth c ce sl Q n fl (pc + len) L1 S1 w1) : G l X mi p e R s m args below meth c ce sl Q n fl pc L S w := by
  unfold xPush at hex
  simp only [Option.some.injEq, Prod.mk.injEq] at hex
  obtain ⟨rfl, rfl, rfl, rfl⟩ := hex
  intro H locs ls hW hS hl hL oL oS
  exact row H locs ls _ (kk H locs ls hW hS hl hL oL (List.forall_mem_cons.mpr ⟨hv, oS⟩))
theorem g_ldI {i len : Nat} (row : ∀ (H : Heap) (locs : List Loc) (ls : Array Slot) (rest : List Value) (x : Int32), ls[i]? = some (.val (.int x)) → W p l e R s m args below meth c H locs ce sl Q (F0 m (pc + len) ls (.int x :: rest)) → W p l e R s m args below meth c H locs ce sl Q (F0 m pc ls rest)) (hex : xLdI (L, S, w) i = some (cd, L1, S1, w1)) (kk : G l X mi p e R s m args below meth c ce sl Q n fl (pc + len) L1 S1 w1) : G l X mi p e R s m args below meth c ce sl Q n fl pc L S w := by
  unfold xLdI at hex
  split at hex
  · rename_i x hx
    simp only [Option.some.injEq, Prod.mk.injEq] at hex
    obtain ⟨rfl, rfl, rfl, rfl⟩ := hex
    intro H locs ls hW hS hl hL oL oS
    exact row H locs ls _ x (lvP_at hl hx) (kk H locs ls hW hS hl hL oL (List.forall_mem_cons.mpr ⟨rfl, oS⟩))
  · cases hex
theorem g_ldL {i len : Nat} (row : ∀ (H : Heap) (locs : List Loc) (ls : Array Slot) (rest : List Value) (x : Int64), ls[i]? = some (.val (.long x)) → W p l e R s m args below meth c H locs ce sl Q (F0 m (pc + len) ls (.long x :: rest)) → W p l e R s m args below meth c H locs ce sl Q (F0 m pc ls rest)) (hex : xLdL (L, S, w) i = some (cd, L1, S1, w1)) (kk : G l X mi p e R s m args below meth c ce sl Q n fl (pc + len) L1 S1 w1) : G l X mi p e R s m args below meth c ce sl Q n fl pc L S w := by
  unfold xLdL at hex
  split at hex
  · rename_i x hx
    simp only [Option.some.injEq, Prod.mk.injEq] at hex
    obtain ⟨rfl, rfl, rfl, rfl⟩ := hex
    intro H locs ls hW hS hl hL oL oS
    exact row H locs ls _ x (lvP_at hl hx) (kk H locs ls hW hS hl hL oL (List.forall_mem_cons.mpr ⟨rfl, oS⟩))
  · cases hex
theorem g_ldA {i len : Nat} (row : ∀ (H : Heap) (locs : List Loc) (ls : Array Slot) (rest : List Value) (a : Nat), ls[i]? = some (.val (.ref a)) → W p l e R s m args below meth c H locs ce sl Q (F0 m (pc + len) ls (.ref a :: rest)) → W p l e R s m args below meth c H locs ce sl Q (F0 m pc ls rest)) (rowN : ∀ (H : Heap) (locs : List Loc) (ls : Array Slot) (rest : List Value), ls[i]? = some (.val .null) → W p l e R s m args below meth c H locs ce sl Q (F0 m (pc + len) ls (.null :: rest)) → W p l e R s m args below meth c H locs ce sl Q (F0 m pc ls rest)) (hex : xLdA (L, S, w) i = some (cd, L1, S1, w1)) (kk : G l X mi p e R s m args below meth c ce sl Q n fl (pc + len) L1 S1 w1) : G l X mi p e R s m args below meth c ce sl Q n fl pc L S w := by
  unfold xLdA at hex
  split at hex
  · rename_i x hx
    simp only [Option.some.injEq, Prod.mk.injEq] at hex
    obtain ⟨rfl, rfl, rfl, rfl⟩ := hex
    intro H locs ls hW hS hl hL oL oS
    have k1 := kk H locs ls hW hS hl hL oL (List.forall_mem_cons.mpr ⟨oL _ (List.mem_of_getElem? hx), oS⟩)
    cases x with
    | none => exact rowN H locs ls _ (lvP_at hl hx) k1
    | some q => exact row H locs ls _ _ (lvP_at hl hx) k1
  · cases hex
theorem st_okL {i : Nat} {v : AV} (hi : i < L.length) (hv : okV n v = true) (oL : ∀ u, some u ∈ L → okV n u = true) : ∀ u, some u ∈ stL L i v → okV n u = true := by
  intro u hu
  obtain ⟨j, hj⟩ := List.getElem?_of_mem hu
  rcases stL_get hi hj with ⟨-, rfl⟩ | ⟨-, h, -⟩
  · exact hv
  · exact oL u (List.mem_of_getElem? h)
theorem st2_okL {i : Nat} {v : AV} (hi : i + 1 < L.length) (hv : okV n v = true) (oL : ∀ u, some u ∈ L → okV n u = true) : ∀ u, some u ∈ stL2 L i v → okV n u = true := by
  intro u hu
  obtain ⟨j, hj⟩ := List.getElem?_of_mem hu
  unfold stL2 at hj
  by_cases hne : j = i + 1
  · subst hne
    rw [List.getElem?_set_self (by rw [stL_len]; exact hi)] at hj
    cases hj
  · rw [List.getElem?_set_ne (Ne.symm hne)] at hj
    exact st_okL (by omega) hv oL u (List.mem_of_getElem? hj)
theorem g_stI {i len : Nat} (row : ∀ (H : Heap) (locs : List Loc) (ls : Array Slot) (rest : List Value) (x : Int32) (lv lv' : List (Nat × Value)), lv_has ls mi.2.2.1 lv → i < mi.2.2.1 → (i, Value.int x) :: lv.filter (fun q => !(q.1 == i) && !(q.1 + 1 == i && q.2.category == 2)) = lv' → (∀ ls' : Array Slot, lv_has ls' mi.2.2.1 lv' → W p l e R s m args below meth c H locs ce sl Q (F0 m (pc + len) ls' rest)) → W p l e R s m args below meth c H locs ce sl Q (F0 m pc ls (.int x :: rest))) (hex : xStI (L, S, w) i = some (cd, L1, S1, w1)) (kk : G l X mi p e R s m args below meth c ce sl Q n fl (pc + len) L1 S1 w1) : G l X mi p e R s m args below meth c ce sl Q n fl pc L S w := by
  unfold xStI at hex
  split at hex
  · rename_i q L0 x S0 w0 e0
    cases e0
    split at hex
    · rename_i hi
      simp only [Option.some.injEq, Prod.mk.injEq] at hex
      obtain ⟨rfl, rfl, rfl, rfl⟩ := hex
      intro H locs ls hW hS hl hL oL oS
      have oS2 := List.forall_mem_cons.mp oS
      exact row H locs ls _ x _ _ hl (by rw [← hL]; exact hi) rfl (fun ls' h' => kk H locs ls' hW hS (lv_mono h' (lvP_st hi)) (by rw [stL_len]; exact hL) (st_okL hi oS2.1 oL) oS2.2)
    · cases hex
  · cases hex
theorem g_stL {i len : Nat} (row : ∀ (H : Heap) (locs : List Loc) (ls : Array Slot) (rest : List Value) (x : Int64) (lv lv' : List (Nat × Value)), lv_has ls mi.2.2.1 lv → i + 1 < mi.2.2.1 → (i, Value.long x) :: lv.filter (fun q => !(q.1 == i) && (!(q.1 == i + 1) && !(q.1 + 1 == i && q.2.category == 2))) = lv' → (∀ ls' : Array Slot, lv_has ls' mi.2.2.1 lv' → W p l e R s m args below meth c H locs ce sl Q (F0 m (pc + len) ls' rest)) → W p l e R s m args below meth c H locs ce sl Q (F0 m pc ls (.long x :: rest))) (hex : xStL (L, S, w) i = some (cd, L1, S1, w1)) (kk : G l X mi p e R s m args below meth c ce sl Q n fl (pc + len) L1 S1 w1) : G l X mi p e R s m args below meth c ce sl Q n fl pc L S w := by
  unfold xStL at hex
  split at hex
  · rename_i q L0 x S0 w0 e0
    cases e0
    split at hex
    · rename_i hi
      simp only [Option.some.injEq, Prod.mk.injEq] at hex
      obtain ⟨rfl, rfl, rfl, rfl⟩ := hex
      intro H locs ls hW hS hl hL oL oS
      have oS2 := List.forall_mem_cons.mp oS
      exact row H locs ls _ x _ _ hl (by rw [← hL]; exact hi) rfl (fun ls' h' => kk H locs ls' hW hS (lv_mono h' (lvP_st2 hi)) (by rw [stL2_len]; exact hL) (st2_okL hi oS2.1 oL) oS2.2)
    · cases hex
  · cases hex
theorem g_stA {i len : Nat} (row : ∀ (H : Heap) (locs : List Loc) (ls : Array Slot) (rest : List Value) (x : Nat) (lv lv' : List (Nat × Value)), lv_has ls mi.2.2.1 lv → i < mi.2.2.1 → (i, Value.ref x) :: lv.filter (fun q => !(q.1 == i) && !(q.1 + 1 == i && q.2.category == 2)) = lv' → (∀ ls' : Array Slot, lv_has ls' mi.2.2.1 lv' → W p l e R s m args below meth c H locs ce sl Q (F0 m (pc + len) ls' rest)) → W p l e R s m args below meth c H locs ce sl Q (F0 m pc ls (.ref x :: rest))) (rowN : ∀ (H : Heap) (locs : List Loc) (ls : Array Slot) (rest : List Value) (lv lv' : List (Nat × Value)), lv_has ls mi.2.2.1 lv → i < mi.2.2.1 → (i, Value.null) :: lv.filter (fun q => !(q.1 == i) && !(q.1 + 1 == i && q.2.category == 2)) = lv' → (∀ ls' : Array Slot, lv_has ls' mi.2.2.1 lv' → W p l e R s m args below meth c H locs ce sl Q (F0 m (pc + len) ls' rest)) → W p l e R s m args below meth c H locs ce sl Q (F0 m pc ls (.null :: rest))) (hex : xStA (L, S, w) i = some (cd, L1, S1, w1)) (kk : G l X mi p e R s m args below meth c ce sl Q n fl (pc + len) L1 S1 w1) : G l X mi p e R s m args below meth c ce sl Q n fl pc L S w := by
  unfold xStA at hex
  split at hex
  · rename_i q L0 x S0 w0 e0
    cases e0
    split at hex
    · rename_i hi
      simp only [Option.some.injEq, Prod.mk.injEq] at hex
      obtain ⟨rfl, rfl, rfl, rfl⟩ := hex
      intro H locs ls hW hS hl hL oL oS
      have oS2 := List.forall_mem_cons.mp oS
      cases x with
      | none => exact rowN H locs ls _ _ _ hl (by rw [← hL]; exact hi) rfl (fun ls' h' => kk H locs ls' hW hS (lv_mono h' (lvP_st hi)) (by rw [stL_len]; exact hL) (st_okL hi oS2.1 oL) oS2.2)
      | some q => exact row H locs ls _ _ _ _ hl (by rw [← hL]; exact hi) rfl (fun ls' h' => kk H locs ls' hW hS (lv_mono h' (lvP_st hi)) (by rw [stL_len]; exact hL) (st_okL hi oS2.1 oL) oS2.2)
    · cases hex
  · cases hex
theorem g_inc {i : Nat} {kn : Int} {k : Int32} (B : Bd X mi p s m args meth c) (hk : Int32.ofInt kn = k) (hd : decode mi.2.1 pc = .ok (.iinc i kn, 3)) (hex : xInc (L, S, w) i k = some (cd, L1, S1, w1)) (kk : G l X mi p e R s m args below meth c ce sl Q n fl (pc + 3) L1 S1 w1) : G l X mi p e R s m args below meth c ce sl Q n fl pc L S w := by
  obtain ⟨hx, hb, -⟩ := B
  unfold xInc at hex
  split at hex
  · rename_i x hx2
    split at hex
    · rename_i hi
      simp only [Option.some.injEq, Prod.mk.injEq] at hex
      obtain ⟨rfl, rfl, rfl, rfl⟩ := hex
      intro H locs ls hW hS hl hL oL oS
      obtain ⟨j, hj⟩ := List.getElem?_of_mem ((mem_lvP (X := X) L 0).mpr ⟨i, _, hx2, rfl⟩)
      rw [Nat.zero_add] at hj
      exact lv_iinc (v := x + k) hx hb hd hl hj (by rw [hk]) (by rw [← hL]; exact hi) rfl (fun ls' h' => kk H locs ls' hW hS (lv_mono h' (lvP_st (v := .inl (x + k)) hi)) (by rw [stL_len]; exact hL) (st_okL hi rfl oL) oS)
    · cases hex
  · cases hex
theorem g_II {f : Int32 → Int32 → Int32} (row : ∀ (H : Heap) (locs : List Loc) (ls : Array Slot) (rest : List Value) (x y : Int32), W p l e R s m args below meth c H locs ce sl Q (F0 m (pc + 1) ls (.int (f x y) :: rest)) → W p l e R s m args below meth c H locs ce sl Q (F0 m pc ls (.int y :: .int x :: rest))) (hex : xII (L, S, w) f = some (cd, L1, S1, w1)) (kk : G l X mi p e R s m args below meth c ce sl Q n fl (pc + 1) L1 S1 w1) : G l X mi p e R s m args below meth c ce sl Q n fl pc L S w := by
  unfold xII at hex
  split at hex
  · rename_i q L0 y x S0 w0 e0
    cases e0
    simp only [Option.some.injEq, Prod.mk.injEq] at hex
    obtain ⟨rfl, rfl, rfl, rfl⟩ := hex
    intro H locs ls hW hS hl hL oL oS
    have oS2 := (List.forall_mem_cons.mp (List.forall_mem_cons.mp oS).2).2
    exact row H locs ls _ x y (kk H locs ls hW hS hl hL oL (List.forall_mem_cons.mpr ⟨rfl, oS2⟩))
  · cases hex
theorem g_Iz {f : Int32 → Int32 → Int32} (row : ∀ (H : Heap) (locs : List Loc) (ls : Array Slot) (rest : List Value) (x y : Int32), ¬ y = 0 → W p l e R s m args below meth c H locs ce sl Q (F0 m (pc + 1) ls (.int (f x y) :: rest)) → W p l e R s m args below meth c H locs ce sl Q (F0 m pc ls (.int y :: .int x :: rest))) (hex : xIz (L, S, w) f = some (cd, L1, S1, w1)) (hc : cd.getD True) (kk : G l X mi p e R s m args below meth c ce sl Q n fl (pc + 1) L1 S1 w1) : G l X mi p e R s m args below meth c ce sl Q n fl pc L S w := by
  unfold xIz at hex
  split at hex
  · rename_i q L0 y x S0 w0 e0
    cases e0
    simp only [Option.some.injEq, Prod.mk.injEq] at hex
    obtain ⟨rfl, rfl, rfl, rfl⟩ := hex
    intro H locs ls hW hS hl hL oL oS
    have oS2 := (List.forall_mem_cons.mp (List.forall_mem_cons.mp oS).2).2
    exact row H locs ls _ x y hc (kk H locs ls hW hS hl hL oL (List.forall_mem_cons.mpr ⟨rfl, oS2⟩))
  · cases hex
theorem g_LL {f : Int64 → Int64 → Int64} (row : ∀ (H : Heap) (locs : List Loc) (ls : Array Slot) (rest : List Value) (x y : Int64), W p l e R s m args below meth c H locs ce sl Q (F0 m (pc + 1) ls (.long (f x y) :: rest)) → W p l e R s m args below meth c H locs ce sl Q (F0 m pc ls (.long y :: .long x :: rest))) (hex : xLL (L, S, w) f = some (cd, L1, S1, w1)) (kk : G l X mi p e R s m args below meth c ce sl Q n fl (pc + 1) L1 S1 w1) : G l X mi p e R s m args below meth c ce sl Q n fl pc L S w := by
  unfold xLL at hex
  split at hex
  · rename_i q L0 y x S0 w0 e0
    cases e0
    simp only [Option.some.injEq, Prod.mk.injEq] at hex
    obtain ⟨rfl, rfl, rfl, rfl⟩ := hex
    intro H locs ls hW hS hl hL oL oS
    have oS2 := (List.forall_mem_cons.mp (List.forall_mem_cons.mp oS).2).2
    exact row H locs ls _ x y (kk H locs ls hW hS hl hL oL (List.forall_mem_cons.mpr ⟨rfl, oS2⟩))
  · cases hex
theorem g_Lz {f : Int64 → Int64 → Int64} (row : ∀ (H : Heap) (locs : List Loc) (ls : Array Slot) (rest : List Value) (x y : Int64), ¬ y = 0 → W p l e R s m args below meth c H locs ce sl Q (F0 m (pc + 1) ls (.long (f x y) :: rest)) → W p l e R s m args below meth c H locs ce sl Q (F0 m pc ls (.long y :: .long x :: rest))) (hex : xLz (L, S, w) f = some (cd, L1, S1, w1)) (hc : cd.getD True) (kk : G l X mi p e R s m args below meth c ce sl Q n fl (pc + 1) L1 S1 w1) : G l X mi p e R s m args below meth c ce sl Q n fl pc L S w := by
  unfold xLz at hex
  split at hex
  · rename_i q L0 y x S0 w0 e0
    cases e0
    simp only [Option.some.injEq, Prod.mk.injEq] at hex
    obtain ⟨rfl, rfl, rfl, rfl⟩ := hex
    intro H locs ls hW hS hl hL oL oS
    have oS2 := (List.forall_mem_cons.mp (List.forall_mem_cons.mp oS).2).2
    exact row H locs ls _ x y hc (kk H locs ls hW hS hl hL oL (List.forall_mem_cons.mpr ⟨rfl, oS2⟩))
  · cases hex
theorem g_Cmp (row : ∀ (H : Heap) (locs : List Loc) (ls : Array Slot) (rest : List Value) (x y : Int64), W p l e R s m args below meth c H locs ce sl Q (F0 m (pc + 1) ls (.int (lg_cmp x y) :: rest)) → W p l e R s m args below meth c H locs ce sl Q (F0 m pc ls (.long y :: .long x :: rest))) (hex : xCmp (L, S, w) = some (cd, L1, S1, w1)) (kk : G l X mi p e R s m args below meth c ce sl Q n fl (pc + 1) L1 S1 w1) : G l X mi p e R s m args below meth c ce sl Q n fl pc L S w := by
  unfold xCmp at hex
  split at hex
  · rename_i q L0 y x S0 w0 e0
    cases e0
    simp only [Option.some.injEq, Prod.mk.injEq] at hex
    obtain ⟨rfl, rfl, rfl, rfl⟩ := hex
    intro H locs ls hW hS hl hL oL oS
    have oS2 := (List.forall_mem_cons.mp (List.forall_mem_cons.mp oS).2).2
    exact row H locs ls _ x y (kk H locs ls hW hS hl hL oL (List.forall_mem_cons.mpr ⟨rfl, oS2⟩))
  · cases hex
theorem g_I1 {f : Int32 → AV} (hf : ∀ x, okV n (f x) = true) (row : ∀ (H : Heap) (locs : List Loc) (ls : Array Slot) (rest : List Value) (x : Int32), W p l e R s m args below meth c H locs ce sl Q (F0 m (pc + 1) ls (cv X (f x) :: rest)) → W p l e R s m args below meth c H locs ce sl Q (F0 m pc ls (.int x :: rest))) (hex : xI1 (L, S, w) f = some (cd, L1, S1, w1)) (kk : G l X mi p e R s m args below meth c ce sl Q n fl (pc + 1) L1 S1 w1) : G l X mi p e R s m args below meth c ce sl Q n fl pc L S w := by
  unfold xI1 at hex
  split at hex
  · rename_i q L0 x S0 w0 e0
    cases e0
    simp only [Option.some.injEq, Prod.mk.injEq] at hex
    obtain ⟨rfl, rfl, rfl, rfl⟩ := hex
    intro H locs ls hW hS hl hL oL oS
    exact row H locs ls _ x (kk H locs ls hW hS hl hL oL (List.forall_mem_cons.mpr ⟨hf x, (List.forall_mem_cons.mp oS).2⟩))
  · cases hex
theorem g_L1 {f : Int64 → AV} (hf : ∀ x, okV n (f x) = true) (row : ∀ (H : Heap) (locs : List Loc) (ls : Array Slot) (rest : List Value) (x : Int64), W p l e R s m args below meth c H locs ce sl Q (F0 m (pc + 1) ls (cv X (f x) :: rest)) → W p l e R s m args below meth c H locs ce sl Q (F0 m pc ls (.long x :: rest))) (hex : xL1 (L, S, w) f = some (cd, L1, S1, w1)) (kk : G l X mi p e R s m args below meth c ce sl Q n fl (pc + 1) L1 S1 w1) : G l X mi p e R s m args below meth c ce sl Q n fl pc L S w := by
  unfold xL1 at hex
  split at hex
  · rename_i q L0 x S0 w0 e0
    cases e0
    simp only [Option.some.injEq, Prod.mk.injEq] at hex
    obtain ⟨rfl, rfl, rfl, rfl⟩ := hex
    intro H locs ls hW hS hl hL oL oS
    exact row H locs ls _ x (kk H locs ls hW hS hl hL oL (List.forall_mem_cons.mpr ⟨hf x, (List.forall_mem_cons.mp oS).2⟩))
  · cases hex
theorem cat1_cv {v : AV} (h : cat1 v = true) : (cv X v).category = 1 := by
  rcases v with x | x | _ | q
  · rfl
  · cases h
  · rfl
  · rfl
theorem g_Dup (B : Bd X mi p s m args meth c) (hd : decode mi.2.1 pc = .ok (.dup, 1)) (hex : xDup (L, S, w) = some (cd, L1, S1, w1)) (kk : G l X mi p e R s m args below meth c ce sl Q n fl (pc + 1) L1 S1 w1) : G l X mi p e R s m args below meth c ce sl Q n fl pc L S w := by
  obtain ⟨hx, hb, -⟩ := B
  unfold xDup at hex
  split at hex
  · rename_i q L0 v S0 w0 e0
    cases e0
    split at hex
    · rename_i hv
      simp only [Option.some.injEq, Prod.mk.injEq] at hex
      obtain ⟨rfl, rfl, rfl, rfl⟩ := hex
      intro H locs ls hW hS hl hL oL oS
      exact lv_dup hx hb hd (cat1_cv hv) (kk H locs ls hW hS hl hL oL (List.forall_mem_cons.mpr ⟨(List.forall_mem_cons.mp oS).1, oS⟩))
    · cases hex
  · cases hex
theorem g_Pop (B : Bd X mi p s m args meth c) (hd : decode mi.2.1 pc = .ok (.pop, 1)) (hex : xPop (L, S, w) = some (cd, L1, S1, w1)) (kk : G l X mi p e R s m args below meth c ce sl Q n fl (pc + 1) L1 S1 w1) : G l X mi p e R s m args below meth c ce sl Q n fl pc L S w := by
  obtain ⟨hx, hb, -⟩ := B
  unfold xPop at hex
  split at hex
  · rename_i q L0 v S0 w0 e0
    cases e0
    split at hex
    · rename_i hv
      simp only [Option.some.injEq, Prod.mk.injEq] at hex
      obtain ⟨rfl, rfl, rfl, rfl⟩ := hex
      intro H locs ls hW hS hl hL oL oS
      exact lv_pop hx hb hd (cat1_cv hv) (kk H locs ls hW hS hl hL oL (List.forall_mem_cons.mp oS).2)
    · cases hex
  · cases hex
theorem g_Dup2 (B : Bd X mi p s m args meth c) (hd : decode mi.2.1 pc = .ok (.dup2, 1)) (hex : xDup2 (L, S, w) = some (cd, L1, S1, w1)) (kk : G l X mi p e R s m args below meth c ce sl Q n fl (pc + 1) L1 S1 w1) : G l X mi p e R s m args below meth c ce sl Q n fl pc L S w := by
  obtain ⟨hx, hb, -⟩ := B
  unfold xDup2 at hex
  split at hex
  · rename_i q L0 v u S0 w0 e0
    cases e0
    split at hex
    · rename_i hv
      split at hex
      · rename_i hu
        simp only [Option.some.injEq, Prod.mk.injEq] at hex
        obtain ⟨rfl, rfl, rfl, rfl⟩ := hex
        intro H locs ls hW hS hl hL oL oS
        have o1 := List.forall_mem_cons.mp oS
        have o2 := List.forall_mem_cons.mp o1.2
        exact lv_dup2_11 hx hb hd (cat1_cv hv) (cat1_cv hu) (kk H locs ls hW hS hl hL oL (List.forall_mem_cons.mpr ⟨o1.1, List.forall_mem_cons.mpr ⟨o2.1, oS⟩⟩))
      · cases hex
    · cases hex
  · cases hex
theorem Bd.hw (B : Bd X mi p s m args meth c) {w : Cond} (h : w ∈ lw_tbl) (hg : goodWord w = true) : w.before args s = true := B.2.2.2.2.1 w (gm h hg)
theorem Bd.hK (B : Bd X mi p s m args meth c) : va_K X.1 classes (tysL X) s := va_K.moved B.2.2.2.2.2.2.2.1 B.2.2.2.2.2.2.2.2.1.1
theorem lay_good (C : String) (T : u_T) (k : Nat) : goodWord (u_lay C T k) = true := by
  unfold u_lay; split <;> rfl
theorem Bd.lay (B : Bd X mi p s m args meth c) {k : Nat} (hk : k < 6) : ∀ w ∈ u_ws (cC k).1 (cC k).2.1 (cC k).2.2, w ∈ gtb := by
  intro w hw
  refine gm (cC_in k hk w hw) ?_
  obtain ⟨j, -, rfl⟩ := List.mem_map.mp hw
  exact lay_good _ _ _
theorem lkF_spec {e : EI} {i : Nat} (h : lkF mi e i = true) : (i, e.2.1, e.2.2.1) ∈ mi.2.2.2.2.1 ∧ e.2.1 < 6 ∧ e.2.2.1 < (cC e.2.1).2.2 := by
  simp only [lkF, Bool.and_eq_true, decide_eq_true_eq] at h; exact h
theorem cC_own : ∀ k, k < 6 → ∀ j, j < (cC k).2.2 → ((cC k).2.1 j).1 = (cC k).1 := by decide +kernel
theorem own_ref {k i : Nat} (hk : k < 37) (h : okV n (.inr (.inr (some (k, i)))) = true) : okc n k i = true := by
  rw [← okR_own hk]; exact h
theorem w_get (B : Bd X mi p s m args meth c) {H : Heap} {locs : List Loc} {ls : Array Slot} {rest : List Value} {k i j idx : Nat} (hW : Wd X n fl w H) (hok : okc n k i = true) (hk : k < 6) (hj : j < (cC k).2.2) (hf : (idx, k, j) ∈ mi.2.2.2.2.1) (hd : decode mi.2.1 pc = .ok (.getfield idx, 3)) (kk : W p l e R s m args below meth c H locs ce sl Q (F0 m (pc + 3) ls (fv X fl w k i j :: rest))) : W p l e R s m args below meth c H locs ce sl Q (F0 m pc ls (.ref (adr X k i) :: rest)) := by
  have hlink : (Cond.fieldLink mi.1 idx (cC k).1 ((cC k).2.1 j).2.1 ((cC k).2.1 j).2.2.1).before args s = true := B.hw (B.2.2.2.2.2.2.2.2.2.1.1 _ hf) rfl
  exact va_get (Ts := gtb) B.1 B.2.1 B.2.2.2.2.1 (B.lay hk) B.2.2.2.1 B.hK hW.1 (ord k i) ((wl_get hW.2.2.2.1 hok).trans (by rw [ent_o hk])) (cC_get k hk) j hj hlink (fun _ h => by rw [cC_own k hk j hj] at h; exact h) (fvs_get hj) hd kk
theorem g_get (B : Bd X mi p s m args meth c) (hfl : flOK n fl) {ei : EI} {idx : Nat} (hlk : lkF mi ei idx = true) (hd : decode mi.2.1 pc = .ok (.getfield idx, 3)) (hex : xGet fl (L, S, w) ei.2.1 ei.2.2.1 = some (cd, L1, S1, w1)) (kk : G l X mi p e R s m args below meth c ce sl Q n fl (pc + 3) L1 S1 w1) : G l X mi p e R s m args below meth c ce sl Q n fl pc L S w := by
  obtain ⟨hf, hk, hj⟩ := lkF_spec hlk
  generalize ei.2.1 = k at hex hf hk hj
  generalize ei.2.2.1 = j at hex hf hj
  unfold xGet at hex
  split at hex
  · rename_i q L0 r S0 w0 e0
    cases e0
    obtain ⟨k', i⟩ := r
    split at hex
    · rename_i hkk
      dsimp only at hkk
      subst hkk
      intro H locs ls hW hS hl hL oL oS
      have o1 := List.forall_mem_cons.mp oS
      have hok := own_ref (by omega) o1.1
      refine w_get B hW hok hk hj hf hd ?_
      unfold fv
      split at hex
      · rename_i hfd
        rw [hfd]
        simp only [Option.some.injEq, Prod.mk.injEq] at hex
        obtain ⟨rfl, rfl, rfl, rfl⟩ := hex
        exact kk H locs ls hW hS hl hL oL (List.forall_mem_cons.mpr ⟨rfl, o1.2⟩)
      · rename_i t hfd
        rw [hfd]
        dsimp only at hex ⊢
        split at hex
        · rename_i hff
          rw [if_pos hff]
          simp only [Option.some.injEq, Prod.mk.injEq] at hex
          obtain ⟨rfl, rfl, rfl, rfl⟩ := hex
          exact kk H locs ls hW hS hl hL oL (List.forall_mem_cons.mpr ⟨hfl _ _ _ hok hk t hfd hff, o1.2⟩)
        · rename_i hff
          rw [if_neg hff]
          simp only [Option.some.injEq, Prod.mk.injEq] at hex
          obtain ⟨rfl, rfl, rfl, rfl⟩ := hex
          exact kk H locs ls hW hS hl hL oL (List.forall_mem_cons.mpr ⟨rfl, o1.2⟩)
    · cases hex
  · cases hex
theorem old_kept {H H1 : Heap} {locs locs1 : List Loc} (hxb : xb X ≤ s.heap.size) (hW : Wd X n fl w H) (hS : va_S (AA X) s.heap H locs) (hS1 : va_S (AA X) s.heap H1 locs1) : ∀ q, ¬ AA X q → H1[q]? = X.2.2.1.heap[q]? := by
  intro q h1
  have h2 : ¬ xb X ≤ q := fun z => h1 (Or.inr z)
  rw [hS1.2.1 q (by omega) h1, ← hS.2.1 q (by omega) h1]
  exact hW.2.2.2.2 q h1
/-- a cell of the world is written: what the machine has to do with a new entry -/
theorem Wd.put {H H1 : Heap} {locs locs1 : List Loc} {k i : Nat} {e2 : va_E} {fl1 : Fl} {w1 : Mem} (hxb : xb X ≤ s.heap.size) (hW : Wd X n fl w H) (hS : va_S (AA X) s.heap H locs) (hS1 : va_S (AA X) s.heap H1 locs1) (hok : okc n k i = true) (hsz : H1.size = H.size)
    (hP : va_P X.1 classes ((wl X n fl w).set (ord k i) (adr X k i, e2)) H1) (hD : va_D (AA X) ((wl X n fl w).set (ord k i) (adr X k i, e2))) (he : e2 = ent X fl1 w1 (k, i)) (hf : ∀ a b c, ¬ (a = k ∧ b = i) → fl1 a b c = fl a b c) (hw : ∀ a b c, ¬ (a = k ∧ b = i) → w1 a b c = w a b c) : Wd X n fl1 w1 H1 := by
  have e1 := wl_set (X := X) (n := n) hW.2.2.2.1 hok he hf hw
  rw [e1] at hP hD
  exact ⟨hP, hD, by rw [hsz]; exact hW.2.2.1, hW.2.2.2.1, old_kept hxb hW hS hS1⟩
theorem w_put (B : Bd X mi p s m args meth c) {H : Heap} {locs : List Loc} {ls : Array Slot} {rest : List Value} {k j idx : Nat} {fs : List Value} {v : Value} {a : Nat} {ws : va_W} {q0 : Nat} (hP : va_P X.1 classes ws H) (hD : va_D (AA X) ws) (hS0 : va_S (AA X) s.heap H locs) (he : ws[q0]? = some (a, .inr (k, fs))) (hk : k < 6) (hj : j < (cC k).2.2) (hf : (idx, k, j) ∈ mi.2.2.2.2.1)
    (hfin : ((cC k).2.1 j).2.2.2 = false) (hn : narrow (tyC k j) v = v) (hfit : fits (tyC k j) v = true) (hl : j < fs.length) (hd : decode mi.2.1 pc = .ok (.putfield idx, 3))
    (kk : ∀ (H1 : Heap) (locs1 : List Loc), va_P X.1 classes (ws.set q0 (a, .inr (k, fs.set j v))) H1 → va_D (AA X) (ws.set q0 (a, .inr (k, fs.set j v))) → va_S (AA X) s.heap H1 locs1 → H1.size = H.size → W p l e R s m args below meth c H1 locs1 ce sl Q (F0 m (pc + 3) ls rest)) : W p l e R s m args below meth c H locs ce sl Q (F0 m pc ls (v :: .ref a :: rest)) := by
  have hlink : (Cond.fieldLink mi.1 idx (cC k).1 ((cC k).2.1 j).2.1 ((cC k).2.1 j).2.2.1).before args s = true := B.hw (B.2.2.2.2.2.2.2.2.2.1.1 _ hf) rfl
  have hts := B.2.2.2.2.1
  have hin := B.lay hk
  have hc := cC_get k hk
  have hap := va_apart (own := mi.1) hts hin (tyC k) (cC_ty k hk) (cC_nm k hk) B.hK hc
  obtain ⟨r, h1, cell, q1, q2, q3, q4⟩ := hP q0 _ he
  have hr : r = cC k := Option.some.inj (h1.symm.trans hc)
  subst hr
  obtain ⟨hS, hfc, kC, hkC, hkind⟩ := B.hK.1 k _ hc
  obtain ⟨cf, kf, fi, f, hi, hsl⟩ := hS j hj
  have hlay := hts _ (hin _ (u_in_lay hj))
  unfold u_lay at hlay
  rw [if_neg (by rw [hfin]; decide)] at hlay
  have hst := (u_facts hfc hkC (u_lays hts hin hj) hi).1
  have h6 := u_store hfc hkC hkind hlay hi (cC_ty k hk j hj) hn hfit
  refine W.putK B.1 B.2.1 (f := f) ⟨B.2.2.2.1, hlink, ⟨_, _, _, by rw [cC_own k hk j hj] at hi; exact hi⟩, hst⟩ (by rw [q2]; exact h6) q1 q3 (by rw [hsl]; exact k2_hasslot (q4 j hj)) rfl rfl hd fun H' e1 e2 e3 => ?_
  rw [hsl] at e1 ⊢
  exact kk H' _ (hP.set hD he ⟨_, hc, t_OB.to (V := updV (vp_V fs) j v) ⟨_, e1, q2, q3, t_set q4 hap hj v⟩ (fun j _ => vp_updV_set hl v j)⟩ e3) (hD.set he) (hS0.put e2 e3 (hD.2 q0 _ he)) e2
theorem fvs_len {k i : Nat} : (fvs X fl w k i).length = (cC k).2.2 := by simp [fvs]
theorem fvs_up {k i j : Nat} {x : Int32} (hj : j < (cC k).2.2) (hfd : fdD k j = none) : (fvs X fl w k i).set j (.int x) = fvs X fl (up w k i j x) k i := by
  refine List.ext_getElem? (fun q => ?_)
  by_cases hq : q < (cC k).2.2
  · by_cases hqj : q = j
    · subst hqj
      rw [List.getElem?_set_self (by rw [fvs_len]; exact hq), fvs_get hq]
      unfold fv; rw [hfd, up_s]
    · rw [List.getElem?_set_ne (Ne.symm hqj), fvs_get hq, fvs_get hq]
      unfold fv; rw [up_n (by omega)]
  · rw [List.getElem?_eq_none (by rw [List.length_set, fvs_len]; omega), List.getElem?_eq_none (by rw [fvs_len]; omega)]
theorem up_o {k i j : Nat} {x : Int32} : ∀ a b c, ¬ (a = k ∧ b = i) → up w k i j x a b c = w a b c := fun a b c h => up_n (fun z => h ⟨z.1, z.2.1⟩)
theorem zf_ty : ∀ k, k < 6 → ∀ j, j < (cC k).2.2 → (k, j) ∉ zfT → tyC k j ≠ .boolean := by decide +kernel
theorem g_put (B : Bd X mi p s m args meth c) {ei : EI} {idx : Nat} (hlk : lkI mi pc (.putfield idx, ei.2) = true) (hd : decode mi.2.1 pc = .ok (.putfield idx, 3)) (hex : xPut (L, S, w) ei.2.1 ei.2.2.1 = some (cd, L1, S1, w1)) (hc : cd.getD True) (kk : G l X mi p e R s m args below meth c ce sl Q n fl (pc + 3) L1 S1 w1) : G l X mi p e R s m args below meth c ce sl Q n fl pc L S w := by
  have h0 : (lkF mi (.putfield idx, ei.2) idx && (decide (((cC ei.2.1).2.1 ei.2.2.1).2.2.2 = false) && (decide (fdD ei.2.1 ei.2.2.1 = none) && (decide (tyC ei.2.1 ei.2.2.1 = .int) || decide (tyC ei.2.1 ei.2.2.1 = .boolean))))) = true := hlk
  simp only [Bool.and_eq_true, Bool.or_eq_true, decide_eq_true_eq] at h0
  obtain ⟨h1, hfin, hfd, hty⟩ := h0
  obtain ⟨hf, hk, hj⟩ := lkF_spec h1
  dsimp only at hf hk hj
  generalize ei.2.1 = k at hex hf hk hj hfin hfd hty
  generalize ei.2.2.1 = j at hex hf hj hfin hfd hty
  unfold xPut at hex
  split at hex
  · rename_i q L0 x r S0 w0 e0
    cases e0
    obtain ⟨k', i⟩ := r
    split at hex
    · rename_i hkk
      dsimp only at hkk
      subst hkk
      simp only [Option.some.injEq, Prod.mk.injEq] at hex
      obtain ⟨hcd, rfl, rfl, rfl⟩ := hex
      intro H locs ls hW hS hl hL oL oS
      have o1 := List.forall_mem_cons.mp (List.forall_mem_cons.mp oS).2
      have hok := own_ref (by omega) o1.1
      have hnf : narrow (tyC k' j) (.int x) = .int x ∧ fits (tyC k' j) (.int x) = true := by
        by_cases hz : (k', j) ∈ zfT
        · rw [if_pos hz] at hcd
          subst hcd
          have hx1 : x = 1 := hc
          subst hx1
          rcases hty with h | h <;> rw [h] <;> exact ⟨by decide +kernel, by decide +kernel⟩
        · have h2 := zf_ty k' hk j hj hz
          rcases hty with h | h
          · rw [h]; exact ⟨rfl, rfl⟩
          · exact absurd h h2
      refine w_put B hW.1 hW.2.1 hS ((wl_get hW.2.2.2.1 hok).trans (by rw [ent_o hk])) hk hj hf hfin hnf.1 hnf.2 (by rw [fvs_len]; exact hj) hd (fun H1 locs1 hP1 hD1 hS1 hsz => ?_)
      exact kk H1 locs1 ls (hW.put B.2.2.2.2.2.2.2.2.2.2.1 hS hS1 hok hsz hP1 hD1 (by rw [ent_o hk]; exact congrArg (fun z => Sum.inr (k', z)) (fvs_up hj hfd)) (fun _ _ _ _ => rfl) up_o) hS1 hl hL oL o1.2
    · cases hex
  · cases hex
theorem g_iald (B : Bd X mi p s m args meth c) (hd : decode mi.2.1 pc = .ok (.iaload, 1)) (hex : xIald (L, S, w) = some (cd, L1, S1, w1)) (hc : cd.getD True) (kk : G l X mi p e R s m args below meth c ce sl Q n fl (pc + 1) L1 S1 w1) : G l X mi p e R s m args below meth c ce sl Q n fl pc L S w := by
  unfold xIald at hex
  split at hex
  · rename_i q L0 x r S0 w0 e0
    cases e0
    obtain ⟨k, i⟩ := r
    split at hex
    · rename_i hA
      dsimp only at hA
      simp only [Option.some.injEq, Prod.mk.injEq] at hex
      obtain ⟨rfl, rfl, rfl, rfl⟩ := hex
      intro H locs ls hW hS hl hL oL oS
      have o1 := List.forall_mem_cons.mp (List.forall_mem_cons.mp oS).2
      have hok := own_ref (isA_spec hA).2.1 o1.1
      exact va_iald B.1 B.2.1 B.hK hW.1 (ord k i) 0 ((wl_get hW.2.2.2.1 hok).trans (by rw [ent_a hA])) rfl hc hd (kk H locs ls hW hS hl hL oL (List.forall_mem_cons.mpr ⟨rfl, o1.2⟩))
    · cases hex
  · cases hex
theorem up_fun {k i j : Nat} {x : Int32} : upd (w k i) j x = up w k i j x k i := by
  funext q
  by_cases hq : q = j
  · subst hq; rw [up_s]; simp [upd]
  · rw [up_n (by omega)]; simp [upd, hq]
theorem w_iast (B : Bd X mi p s m args meth c) {H : Heap} {locs : List Loc} {ls : Array Slot} {rest : List Value} {ws : va_W} {q0 a nn : Nat} {f : Nat → Int32} {i x : Int32} (hP : va_P X.1 classes ws H) (hD : va_D (AA X) ws) (hS : va_S (AA X) s.heap H locs) (ha : ws[q0]? = some (a, .inl (X.2.1.1, nn, .inl f))) (hin : vp_in i nn) (hd : decode mi.2.1 pc = .ok (.iastore, 1))
    (kk : ∀ (H1 : Heap) (locs1 : List Loc), va_P X.1 classes (ws.set q0 (a, .inl (X.2.1.1, nn, .inl (upd f i.toNatClampNeg x)))) H1 → va_D (AA X) (ws.set q0 (a, .inl (X.2.1.1, nn, .inl (upd f i.toNatClampNeg x)))) → va_S (AA X) s.heap H1 locs1 → H1.size = H.size → W p l e R s m args below meth c H1 locs1 ce sl Q (F0 m (pc + 1) ls rest)) : W p l e R s m args below meth c H locs ce sl Q (F0 m pc ls (.int x :: .int i :: .ref a :: rest)) := by
  refine W.iast B.1 B.2.1 (hP q0 _ ha) ((B.hK.2 0 _ rfl).1 nn (fun j => .int (f j))) (fun q => by cases q) (by show ¬ (i < 0 ∨ (arrV _ _ _).slots.size ≤ _); rw [arrV_size]; exact hin) rfl rfl hd fun H1 e z oq => ?_
  refine kk H1 _ (hP.set hD ha ?_ oq) (hD.set ha) (hS.put z oq (hD.2 q0 _ ha)) z
  show H1[a]? = some (vp_cell _ _)
  rw [e]
  rw [vp_cell_i, vp_cell_i, arrV_store]
  congr 2
  funext q
  by_cases hq : q = i.toNatClampNeg
  · subst hq
    simp [updV, upd]
  · simp [updV, upd, hq]
theorem g_iast (B : Bd X mi p s m args meth c) (hd : decode mi.2.1 pc = .ok (.iastore, 1)) (hex : xIast (L, S, w) = some (cd, L1, S1, w1)) (hc : cd.getD True) (kk : G l X mi p e R s m args below meth c ce sl Q n fl (pc + 1) L1 S1 w1) : G l X mi p e R s m args below meth c ce sl Q n fl pc L S w := by
  unfold xIast at hex
  split at hex
  · rename_i q L0 v x r S0 w0 e0
    cases e0
    obtain ⟨k, i⟩ := r
    split at hex
    · rename_i hA
      dsimp only at hA
      simp only [Option.some.injEq, Prod.mk.injEq] at hex
      obtain ⟨rfl, rfl, rfl, rfl⟩ := hex
      intro H locs ls hW hS hl hL oL oS
      have o1 := List.forall_mem_cons.mp (List.forall_mem_cons.mp (List.forall_mem_cons.mp oS).2).2
      have hok := own_ref (isA_spec hA).2.1 o1.1
      refine w_iast B hW.1 hW.2.1 hS ((wl_get hW.2.2.2.1 hok).trans (by rw [ent_a hA])) hc hd (fun H1 locs1 hP1 hD1 hS1 hsz => ?_)
      exact kk H1 locs1 ls (hW.put B.2.2.2.2.2.2.2.2.2.2.1 hS hS1 hok hsz hP1 hD1 (by rw [up_fun, ent_a hA]) (fun _ _ _ _ => rfl) up_o) hS1 hl hL oL o1.2
    · cases hex
  · cases hex
theorem g_aald (B : Bd X mi p s m args meth c) (hfl : flOK n fl) (hfs : ∀ j, j < 4 → fl 18 0 j = true → okc n 2 j = true) (hd : decode mi.2.1 pc = .ok (.aaload, 1)) (hex : xAald fl (L, S, w) = some (cd, L1, S1, w1)) (hc : cd.getD True) (kk : G l X mi p e R s m args below meth c ce sl Q n fl (pc + 1) L1 S1 w1) : G l X mi p e R s m args below meth c ce sl Q n fl pc L S w := by
  unfold xAald at hex
  split at hex
  · rename_i q L0 x r S0 w0 e0
    cases e0
    split at hex
    · rename_i hA
      subst hA
      split at hex
      · rename_i hff
        simp only [Option.some.injEq, Prod.mk.injEq] at hex
        obtain ⟨rfl, rfl, rfl, rfl⟩ := hex
        intro H locs ls hW hS hl hL oL oS
        have o1 := List.forall_mem_cons.mp (List.forall_mem_cons.mp oS).2
        have hok := own_ref (by decide) o1.1
        have hin : vp_in x 4 := hc
        have hlt : tn x < 4 := Nat.not_le.mp fun q => hin (Or.inr q)
        refine va_aldq (C := "NameThrownBack$Sheet") B.1 B.2.1 B.hK hW.1 (ord 18 0) 1 ((wl_get hW.2.2.2.1 hok).trans (by rw [ent_q])) rfl hin hd ?_
        rw [if_pos hff]
        exact kk H locs ls hW hS hl hL oL (List.forall_mem_cons.mpr ⟨by show okR n (2, tn x) = true; rw [okR_own (by decide)]; exact hfs _ hlt hff, o1.2⟩)
      · cases hex
    · cases hex
  · cases hex
theorem g_alen (B : Bd X mi p s m args meth c) (hd : decode mi.2.1 pc = .ok (.arraylength, 1)) (hex : xAlen (L, S, w) = some (cd, L1, S1, w1)) (kk : G l X mi p e R s m args below meth c ce sl Q n fl (pc + 1) L1 S1 w1) : G l X mi p e R s m args below meth c ce sl Q n fl pc L S w := by
  unfold xAlen at hex
  split at hex
  · rename_i q L0 r S0 w0 e0
    cases e0
    obtain ⟨k, i⟩ := r
    split at hex
    · rename_i hA
      simp only [Bool.and_eq_true, decide_eq_true_eq] at hA
      simp only [Option.some.injEq, Prod.mk.injEq] at hex
      obtain ⟨rfl, rfl, rfl, rfl⟩ := hex
      intro H locs ls hW hS hl hL oL oS
      have o1 := List.forall_mem_cons.mp oS
      have hok := own_ref hA.2.1 o1.1
      by_cases h18 : k = 18
      · subst h18
        refine va_alen (ty := .object "NameThrownBack$Sheet") B.1 B.2.1 B.hK hW.1 (ord 18 i) 1 ((wl_get hW.2.2.2.1 hok).trans (by rw [ent_q])) rfl rfl hd ?_
        exact kk H locs ls hW hS hl hL oL (List.forall_mem_cons.mpr ⟨rfl, o1.2⟩)
      · have hA2 : isA k = true := by simp only [isA, Bool.and_eq_true, decide_eq_true_eq]; exact ⟨hA.1, hA.2.1, h18, hA.2.2⟩
        refine va_alen (ty := .int) B.1 B.2.1 B.hK hW.1 (ord k i) 0 ((wl_get hW.2.2.2.1 hok).trans (by rw [ent_a hA2])) rfl rfl hd ?_
        exact kk H locs ls hW hS hl hL oL (List.forall_mem_cons.mpr ⟨rfl, o1.2⟩)
    · cases hex
  · cases hex
theorem g_LI {f : Int64 → Int32 → Int64} (row : ∀ (H : Heap) (locs : List Loc) (ls : Array Slot) (rest : List Value) (x : Int64) (y : Int32), W p l e R s m args below meth c H locs ce sl Q (F0 m (pc + 1) ls (.long (f x y) :: rest)) → W p l e R s m args below meth c H locs ce sl Q (F0 m pc ls (.int y :: .long x :: rest))) (hex : xLI (L, S, w) f = some (cd, L1, S1, w1)) (kk : G l X mi p e R s m args below meth c ce sl Q n fl (pc + 1) L1 S1 w1) : G l X mi p e R s m args below meth c ce sl Q n fl pc L S w := by
  unfold xLI at hex
  split at hex
  · rename_i q L0 y x S0 w0 e0
    cases e0
    simp only [Option.some.injEq, Prod.mk.injEq] at hex
    obtain ⟨rfl, rfl, rfl, rfl⟩ := hex
    intro H locs ls hW hS hl hL oL oS
    have oS2 := (List.forall_mem_cons.mp (List.forall_mem_cons.mp oS).2).2
    exact row H locs ls _ x y (kk H locs ls hW hS hl hL oL (List.forall_mem_cons.mpr ⟨rfl, oS2⟩))
  · cases hex
theorem g_lald (B : Bd X mi p s m args meth c) (hd : decode mi.2.1 pc = .ok (.laload, 1)) (hex : xLald (L, S, w) = some (cd, L1, S1, w1)) (hc : cd.getD True) (kk : G l X mi p e R s m args below meth c ce sl Q n fl (pc + 1) L1 S1 w1) : G l X mi p e R s m args below meth c ce sl Q n fl pc L S w := by
  unfold xLald at hex
  split at hex
  · rename_i q L0 x r S0 w0 e0
    cases e0
    split at hex
    · rename_i hA
      subst hA
      simp only [Option.some.injEq, Prod.mk.injEq] at hex
      obtain ⟨rfl, rfl, rfl, rfl⟩ := hex
      intro H locs ls hW hS hl hL oL oS
      have o1 := List.forall_mem_cons.mp (List.forall_mem_cons.mp oS).2
      have hok := own_ref (by decide) o1.1
      exact va_lald (f := fun j => (w 20 0 j).toInt64) B.1 B.2.1 B.hK hW.1 (ord 20 0) 2 ((wl_get hW.2.2.2.1 hok).trans (by rw [ent_h])) rfl hc hd (kk H locs ls hW hS hl hL oL (List.forall_mem_cons.mpr ⟨rfl, o1.2⟩))
    · cases hex
  · cases hex
def upL (f : Nat → Int64) (k : Nat) (x : Int64) : Nat → Int64 := fun j => if j = k then x else f j
theorem up_fun20 {i : Nat} {v : Int64} (hv : v.toInt32.toInt64 = v) : upL (fun j => (w 20 0 j).toInt64) i v = fun j => (up w 20 0 i v.toInt32 20 0 j).toInt64 := by
  funext q
  by_cases hq : q = i
  · subst hq; rw [up_s, hv]; simp [upL]
  · rw [up_n (by omega)]; simp [upL, hq]
theorem w_last (B : Bd X mi p s m args meth c) {H : Heap} {locs : List Loc} {ls : Array Slot} {rest : List Value} {ws : va_W} {q0 a nn : Nat} {f : Nat → Int64} {i : Int32} {x : Int64} (hP : va_P X.1 classes ws H) (hD : va_D (AA X) ws) (hS : va_S (AA X) s.heap H locs) (ha : ws[q0]? = some (a, .inl (lc X, nn, .inr (.inl f)))) (hin : vp_in i nn) (hd : decode mi.2.1 pc = .ok (.lastore, 1))
    (kk : ∀ (H1 : Heap) (locs1 : List Loc), va_P X.1 classes (ws.set q0 (a, .inl (lc X, nn, .inr (.inl (upL f i.toNatClampNeg x))))) H1 → va_D (AA X) (ws.set q0 (a, .inl (lc X, nn, .inr (.inl (upL f i.toNatClampNeg x))))) → va_S (AA X) s.heap H1 locs1 → H1.size = H.size → W p l e R s m args below meth c H1 locs1 ce sl Q (F0 m (pc + 1) ls rest)) : W p l e R s m args below meth c H locs ce sl Q (F0 m pc ls (.long x :: .int i :: .ref a :: rest)) := by
  refine W.last B.1 B.2.1 (hP q0 _ ha) ((B.hK.2 2 _ rfl).1 nn (fun j => .long (f j))) (fun q => by cases q) (by show ¬ (i < 0 ∨ (arrV _ _ _).slots.size ≤ _); rw [arrV_size]; exact hin) rfl rfl hd fun H1 e z oq => ?_
  refine kk H1 _ (hP.set hD ha ?_ oq) (hD.set ha) (hS.put z oq (hD.2 q0 _ ha)) z
  show H1[a]? = some (vp_cell _ _)
  rw [e]
  rw [vp_cell_l, vp_cell_l, arrV_store]
  congr 2
  funext q
  by_cases hq : q = i.toNatClampNeg
  · subst hq
    simp [updV, upL]
  · simp [updV, upL, hq]
theorem g_last (B : Bd X mi p s m args meth c) (hd : decode mi.2.1 pc = .ok (.lastore, 1)) (hex : xLast (L, S, w) = some (cd, L1, S1, w1)) (hc : cd.getD True) (kk : G l X mi p e R s m args below meth c ce sl Q n fl (pc + 1) L1 S1 w1) : G l X mi p e R s m args below meth c ce sl Q n fl pc L S w := by
  unfold xLast at hex
  split at hex
  · rename_i q L0 v x r S0 w0 e0
    cases e0
    split at hex
    · rename_i hA
      subst hA
      simp only [Option.some.injEq, Prod.mk.injEq] at hex
      obtain ⟨rfl, rfl, rfl, rfl⟩ := hex
      intro H locs ls hW hS hl hL oL oS
      have o1 := List.forall_mem_cons.mp (List.forall_mem_cons.mp (List.forall_mem_cons.mp oS).2).2
      have hok := own_ref (by decide) o1.1
      refine w_last B hW.1 hW.2.1 hS ((wl_get hW.2.2.2.1 hok).trans (by rw [ent_h])) hc.1 hd (fun H1 locs1 hP1 hD1 hS1 hsz => ?_)
      exact kk H1 locs1 ls (hW.put B.2.2.2.2.2.2.2.2.2.2.1 hS hS1 hok hsz hP1 hD1 (by rw [up_fun20 hc.2, ent_h]) (fun _ _ _ _ => rfl) up_o) hS1 hl hL oL o1.2
    · cases hex
  · cases hex
set_option maxHeartbeats 4000000 in
theorem g_one (B : Bd X mi p s m args meth c) (hfl : flOK n fl) (hfs : ∀ j, j < 4 → fl 18 0 j = true → okc n 2 j = true) {ei : EI} (hst : ste mi pc ei = some pc1) (hex : ex1 fl ei (L, S, w) = some (cd, L1, S1, w1)) (hc : cd.getD True) (kk : G l X mi p e R s m args below meth c ce sl Q n fl pc1 L1 S1 w1) : G l X mi p e R s m args below meth c ce sl Q n fl pc L S w := by
  obtain ⟨hd, hlk, rfl⟩ := ste_spec hst
  obtain ⟨ins, ea, eb, ek, el⟩ := ei
  have hx := B.1
  have hb := B.2.1
  have hown := B.2.2.2.1
  cases ins with
  | iconst q => exact g_push (v := .inl ek) (len := 1) rfl (fun H locs ls rest k1 => lv_iconst hx hb hd (of_decide_eq_true hlk) k1) hex kk
  | bipush q => exact g_push (v := .inl ek) (len := 2) rfl (fun H locs ls rest k1 => lv_bipush hx hb hd (of_decide_eq_true hlk) k1) hex kk
  | sipush q => exact g_push (v := .inl ek) (len := 3) rfl (fun H locs ls rest k1 => lv_sipush hx hb hd (of_decide_eq_true hlk) k1) hex kk
  | ldc q => exact g_push (v := .inl ek) (len := 2) rfl (fun H locs ls rest k1 => lv_ldc hx hb hown (B.hw (B.2.2.2.2.2.2.2.2.2.1.2.1 _ (of_decide_eq_true hlk)) rfl) hd k1) hex kk
  | ldc_w q => exact g_push (v := .inl ek) (len := 3) rfl (fun H locs ls rest k1 => lv_ldcw hx hb hown (B.hw (B.2.2.2.2.2.2.2.2.2.1.2.1 _ (of_decide_eq_true hlk)) rfl) hd k1) hex kk
  | ldc2_w q => exact g_push (v := .inr (.inl el)) (len := 3) rfl (fun H locs ls rest k1 => lv_ldc2 hx hb hown (B.hw (B.2.2.2.2.2.2.2.2.2.1.2.2 _ (of_decide_eq_true hlk)) rfl) hd k1) hex kk
  | lconst q => exact g_push (v := .inr (.inl el)) (len := 1) rfl (fun H locs ls rest k1 => lv_lconst hx hb hd (of_decide_eq_true hlk) k1) hex kk
  | aconst_null => exact g_push (v := .inr (.inr none)) (len := 1) rfl (fun H locs ls rest k1 => lv_null hx hb hd k1) hex kk
  | iload_n q => exact g_ldI (len := 1) (fun H locs ls rest x hl k1 => lv_iload_n hx hb hd rfl hl k1) hex kk
  | iload q => exact g_ldI (len := 2) (fun H locs ls rest x hl k1 => lv_iload hx hb hd hl k1) hex kk
  | lload_n q => exact g_ldL (len := 1) (fun H locs ls rest x hl k1 => lv_lload_n hx hb hd rfl hl k1) hex kk
  | lload q => exact g_ldL (len := 2) (fun H locs ls rest x hl k1 => lv_lload hx hb hd hl k1) hex kk
  | aload_n q => exact g_ldA (len := 1) (fun H locs ls rest x hl k1 => lv_aload_n hx hb hd rfl hl k1) (fun H locs ls rest hl k1 => lv_aload_nN hx hb hd rfl hl k1) hex kk
  | aload q => exact g_ldA (len := 2) (fun H locs ls rest x hl k1 => lv_aload hx hb hd hl k1) (fun H locs ls rest hl k1 => lv_aloadN hx hb hd hl k1) hex kk
  | istore_n q => exact g_stI (len := 1) (fun H locs ls rest x lv lv' h1 h2 h3 k1 => lv_istore_n hx hb hd rfl h1 h2 h3 k1) hex kk
  | istore q => exact g_stI (len := 2) (fun H locs ls rest x lv lv' h1 h2 h3 k1 => lv_istore hx hb hd h1 h2 h3 k1) hex kk
  | lstore_n q => exact g_stL (len := 1) (fun H locs ls rest x lv lv' h1 h2 h3 k1 => lv_lstore_n hx hb hd rfl h1 h2 h3 k1) hex kk
  | lstore q => exact g_stL (len := 2) (fun H locs ls rest x lv lv' h1 h2 h3 k1 => lv_lstore hx hb hd h1 h2 h3 k1) hex kk
  | astore_n q => exact g_stA (len := 1) (fun H locs ls rest x lv lv' h1 h2 h3 k1 => lv_astore_n hx hb hd rfl h1 h2 h3 k1) (fun H locs ls rest lv lv' h1 h2 h3 k1 => lv_astore_nN hx hb hd rfl h1 h2 h3 k1) hex kk
  | astore q => exact g_stA (len := 2) (fun H locs ls rest x lv lv' h1 h2 h3 k1 => lv_astore hx hb hd h1 h2 h3 k1) (fun H locs ls rest lv lv' h1 h2 h3 k1 => lv_astoreN hx hb hd h1 h2 h3 k1) hex kk
  | iinc q1 q2 => exact g_inc B (of_decide_eq_true hlk) hd hex kk
  | iadd => exact g_II (fun H locs ls rest x y k1 => lv_iadd hx hb hd k1) hex kk
  | isub => exact g_II (fun H locs ls rest x y k1 => lv_isub hx hb hd k1) hex kk
  | imul => exact g_II (fun H locs ls rest x y k1 => lv_imul hx hb hd k1) hex kk
  | iand => exact g_II (fun H locs ls rest x y k1 => lv_iand hx hb hd k1) hex kk
  | ior => exact g_II (fun H locs ls rest x y k1 => lv_ior hx hb hd k1) hex kk
  | ixor => exact g_II (fun H locs ls rest x y k1 => lv_ixor hx hb hd k1) hex kk
  | ishl => exact g_II (fun H locs ls rest x y k1 => lv_ishl hx hb hd k1) hex kk
  | ishr => exact g_II (fun H locs ls rest x y k1 => lv_ishr hx hb hd k1) hex kk
  | iushr => exact g_II (fun H locs ls rest x y k1 => lv_iushr hx hb hd rfl k1) hex kk
  | idiv => exact g_Iz (fun H locs ls rest x y h0 k1 => lv_idiv hx hb hd h0 k1) hex hc kk
  | irem => exact g_Iz (fun H locs ls rest x y h0 k1 => lv_irem hx hb hd h0 k1) hex hc kk
  | ladd => exact g_LL (fun H locs ls rest x y k1 => lv_ladd hx hb hd k1) hex kk
  | lsub => exact g_LL (fun H locs ls rest x y k1 => lv_lsub hx hb hd k1) hex kk
  | land => exact g_LL (fun H locs ls rest x y k1 => lv_land hx hb hd k1) hex kk
  | lor => exact g_LL (fun H locs ls rest x y k1 => lv_lor hx hb hd k1) hex kk
  | lxor => exact g_LL (fun H locs ls rest x y k1 => lv_lxor hx hb hd k1) hex kk
  | lshl => exact g_LI (fun H locs ls rest x y k1 => lv_lshl hx hb hd rfl k1) hex kk
  | lshr => exact g_LI (fun H locs ls rest x y k1 => lv_lshr hx hb hd rfl k1) hex kk
  | lushr => exact g_LI (fun H locs ls rest x y k1 => lv_lushr hx hb hd rfl k1) hex kk
  | laload => exact g_lald B hd hex hc kk
  | lastore => exact g_last B hd hex hc kk
  | lmul => exact g_LL (fun H locs ls rest x y k1 => lv_lmul hx hb hd k1) hex kk
  | ldiv => exact g_Lz (fun H locs ls rest x y h0 k1 => lv_ldiv hx hb hd h0 k1) hex hc kk
  | lrem => exact g_Lz (fun H locs ls rest x y h0 k1 => lv_lrem hx hb hd h0 k1) hex hc kk
  | lcmp => exact g_Cmp (fun H locs ls rest x y k1 => W.lcmp hx hb hd k1) hex kk
  | ineg => exact g_I1 (f := fun x => .inl (-x)) (fun _ => rfl) (fun H locs ls rest x k1 => lv_ineg hx hb hd k1) hex kk
  | i2l => exact g_I1 (f := fun x => .inr (.inl x.toInt64)) (fun _ => rfl) (fun H locs ls rest x k1 => lv_i2l hx hb hd rfl k1) hex kk
  | i2b => exact g_I1 (f := fun x => .inl x.toInt8.toInt32) (fun _ => rfl) (fun H locs ls rest x k1 => lv_i2b hx hb hd rfl k1) hex kk
  | i2s => exact g_I1 (f := fun x => .inl x.toInt16.toInt32) (fun _ => rfl) (fun H locs ls rest x k1 => lv_i2s hx hb hd rfl k1) hex kk
  | i2c => exact g_I1 (f := fun x => .inl (x.toUInt32 % 65536).toInt32) (fun _ => rfl) (fun H locs ls rest x k1 => lv_i2c hx hb hd rfl k1) hex kk
  | l2i => exact g_L1 (f := fun x => .inl x.toInt32) (fun _ => rfl) (fun H locs ls rest x k1 => lv_l2i hx hb hd rfl k1) hex kk
  | dup => exact g_Dup B hd hex kk
  | pop => exact g_Pop B hd hex kk
  | dup2 => exact g_Dup2 B hd hex kk
  | getfield q => exact g_get B hfl (ei := (.getfield q, ea, eb, ek, el)) hlk hd hex kk
  | putfield q => exact g_put B (ei := (.putfield q, ea, eb, ek, el)) hlk hd hex hc kk
  | iaload => exact g_iald B hd hex hc kk
  | iastore => exact g_iast B hd hex hc kk
  | aaload => exact g_aald B hfl hfs hd hex hc kk
  | arraylength => exact g_alen B hd hex kk
  | goto q => 
    simp only [ex1, Option.some.injEq, Prod.mk.injEq] at hex
    obtain ⟨rfl, rfl, rfl, rfl⟩ := hex
    intro H locs ls hW hS hl hL oL oS
    exact lv_goto hx hb hd (Int.toNat_of_nonneg (of_decide_eq_true hlk)).symm (kk H locs ls hW hS hl hL oL oS)
  | _ => simp [ex1] at hex
end WALK
