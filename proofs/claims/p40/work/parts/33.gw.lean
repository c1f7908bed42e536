/-! build's frame, while its text is made: the class's world, and the builder's -/
theorem Wd_F {X : XC} {fl : Fl} {w : Mem} {H H1 : Heap} (hC : xc X + 39 ≤ xb X) (hW : Wd X 39 fl w H) (hz : H.size ≤ H1.size) (hk : ∀ q : Nat, q < H.size → ¬ AY X q → H1[q]? = H[q]?) : Wd X 39 fl w H1 := by
  have hsz := hW.2.2.1
  refine ⟨fun k q hq => ?_, hW.2.1, ⟨Nat.le_trans hsz.1 hz, fun h => absurd h (by decide), fun h => Nat.le_trans (hsz.2.2 h) hz⟩, hW.2.2.2.1, fun q hq => ?_⟩
  · have h1 := hW.1 k q hq
    refine h1.kept (hk q.1 h1.lt (fun h => ?_))
    have h2 : k < 39 := by
      have := (List.getElem?_eq_some_iff.mp hq).1
      rw [wl_len] at this; exact this
    rw [wl_at h2] at hq
    cases hq
    have h3 : xb X ≤ ad X k := h
    unfold ad at h3
    rw [if_neg (by omega)] at h3
    omega
  · have hlt : ¬ AY X q := fun h => hq (Or.inr h)
    rw [← hW.2.2.2.2 q hq]
    exact hk q (Nat.lt_of_lt_of_le (Nat.not_le.mp hlt) hsz.1) hlt
theorem Wd_kp {X : XC} {fl : Fl} {w : Mem} {n : Nat} {H : Heap} (hW : Wd X n fl w H) : KpY X H := ⟨hW.2.2.1.1, fun q _ h => hW.2.2.2.2 q h⟩
theorem lvP_fz (X : XC) (H : Heap) : lvP (fz X H) = lvP X := by
  funext k L
  induction L generalizing k with
  | nil => rfl
  | cons a t ih =>
    cases a with
    | none => exact ih (k + 1)
    | some v => show (k, cv (fz X H) v) :: lvP (fz X H) (k + 1) t = (k, cv X v) :: lvP X (k + 1) t; rw [ih, cv_fz]
theorem wl_fz (X : XC) (H : Heap) (n : Nat) (fl : Fl) (w : Mem) : wl (fz X H) n fl w = wl X n fl w := rfl
/-- the same world, with the heap as it is now held fast -/
theorem Wd_fz {X : XC} {fl : Fl} {w : Mem} {n : Nat} {H : Heap} (hn : 39 ≤ n) (hW : Wd X n fl w H) (hhb : n = 40 → xb (fz X H) ≤ hb X) : Wd (fz X H) n fl w H := by
  refine ⟨hW.1, ⟨hW.2.1.1, fun k q hq => ?_⟩, ⟨Nat.le_refl _, fun h => absurd h (by omega), hW.2.2.1.2.2⟩, hW.2.2.2.1, fun q _ => rfl⟩
  have h2 : k < n := by
    have := (List.getElem?_eq_some_iff.mp hq).1
    rw [wl_len] at this; exact this
  have hn40 := hW.2.2.2.1
  have hq2 := hq
  rw [wl_at h2] at hq2
  cases hq2
  by_cases h39 : k = 39
  · subst h39
    refine Or.inr ?_
    show xb (fz X H) ≤ ad X 39
    exact hhb (by omega)
  · refine Or.inl ?_
    show xc X ≤ ad X k ∧ ad X k < xc X + 39
    unfold ad
    rw [if_neg h39]
    omega
/-- what the build's frame knows of the builder's phase: X is X0 with a later heap -/
def BW (X0 X : XC) (Y : YC) (s : State) : Prop := (∃ H0 : Heap, X = fz X0 H0) ∧ XB X Y ∧ xc X0 + 39 ≤ xb X ∧ xb X0 ≤ xb X ∧ DG X ∧ ∀ q, AA X0 q → s.heap.size ≤ q
def GW (l : Launch) (X0 X : XC) (Y : YC) (mi : MI) (p : Program) (e : Env) (R : Room) (s : State) (m : MethodId) (args : Array Value) (below : List Frame) (meth : Method) (c : Code) (ce sl : Nat) (Q : State → Prop) (wm : Mem) (pc : Nat) (L : LL) (S : List AV) (ws : va_W) : Prop :=
  ∀ (H : Heap) (locs : List Loc) (ls : Array Slot), Wd X 39 flT wm H → va_P Y.1 cl2 ws H → va_D (AY X) ws → va_S (AA X0) s.heap H locs → lv_has ls mi.2.2.1 (lvP X 0 L) → L.length = mi.2.2.1 → W p l e R s m args below meth c H locs ce sl Q (F0 m pc ls (S.map (cv X)))
section GWs
variable {l : Launch} {X0 X : XC} {Y : YC} {mi : MI} {p : Program} {e : Env} {R : Room} {s : State} {m : MethodId} {args : Array Value} {below : List Frame} {meth : Method} {c : Code} {ce sl : Nat} {Q : State → Prop} {wm : Mem} {pc pc1 : Nat} {L L1 : LL} {S S1 : List AV} {w w1 : Mem} {cd : Option Prop} {ws : va_W} {P : Prop}
theorem w_pushB {v : AV} {len : Nat} (row : ∀ (H : Heap) (locs : List Loc) (ls : Array Slot) (rest : List Value), W p l e R s m args below meth c H locs ce sl Q (F0 m (pc + len) ls (cv X v :: rest)) → W p l e R s m args below meth c H locs ce sl Q (F0 m pc ls rest)) (hex : xPush (L, S, w) v = some (cd, L1, S1, w1)) (kk : GW l X0 X Y mi p e R s m args below meth c ce sl Q wm (pc + len) L1 S1 ws) : GW l X0 X Y mi p e R s m args below meth c ce sl Q wm pc L S ws := by
  unfold xPush at hex
  simp only [Option.some.injEq, Prod.mk.injEq] at hex
  obtain ⟨rfl, rfl, rfl, rfl⟩ := hex
  intro H locs ls hW hP hD hS hl hL
  exact row H locs ls _ (kk H locs ls hW hP hD hS hl hL)
theorem w_ldIB {i len : Nat} (row : ∀ (H : Heap) (locs : List Loc) (ls : Array Slot) (rest : List Value) (x : Int32), ls[i]? = some (.val (.int x)) → W p l e R s m args below meth c H locs ce sl Q (F0 m (pc + len) ls (.int x :: rest)) → W p l e R s m args below meth c H locs ce sl Q (F0 m pc ls rest)) (hex : xLdI (L, S, w) i = some (cd, L1, S1, w1)) (kk : GW l X0 X Y mi p e R s m args below meth c ce sl Q wm (pc + len) L1 S1 ws) : GW l X0 X Y mi p e R s m args below meth c ce sl Q wm pc L S ws := by
  unfold xLdI at hex
  split at hex
  · rename_i x hx
    simp only [Option.some.injEq, Prod.mk.injEq] at hex
    obtain ⟨rfl, rfl, rfl, rfl⟩ := hex
    intro H locs ls hW hP hD hS hl hL
    exact row H locs ls _ x (lvP_at hl hx) (kk H locs ls hW hP hD hS hl hL)
  · cases hex
theorem w_ldAB {i len : Nat} (row : ∀ (H : Heap) (locs : List Loc) (ls : Array Slot) (rest : List Value) (a : Nat), ls[i]? = some (.val (.ref a)) → W p l e R s m args below meth c H locs ce sl Q (F0 m (pc + len) ls (.ref a :: rest)) → W p l e R s m args below meth c H locs ce sl Q (F0 m pc ls rest)) (rowN : ∀ (H : Heap) (locs : List Loc) (ls : Array Slot) (rest : List Value), ls[i]? = some (.val .null) → W p l e R s m args below meth c H locs ce sl Q (F0 m (pc + len) ls (.null :: rest)) → W p l e R s m args below meth c H locs ce sl Q (F0 m pc ls rest)) (hex : xLdA (L, S, w) i = some (cd, L1, S1, w1)) (kk : GW l X0 X Y mi p e R s m args below meth c ce sl Q wm (pc + len) L1 S1 ws) : GW l X0 X Y mi p e R s m args below meth c ce sl Q wm pc L S ws := by
  unfold xLdA at hex
  split at hex
  · rename_i x hx
    simp only [Option.some.injEq, Prod.mk.injEq] at hex
    obtain ⟨rfl, rfl, rfl, rfl⟩ := hex
    intro H locs ls hW hP hD hS hl hL
    have k1 := kk H locs ls hW hP hD hS hl hL
    cases x with
    | none => exact rowN H locs ls _ (lvP_at hl hx) k1
    | some q => exact row H locs ls _ _ (lvP_at hl hx) k1
  · cases hex
theorem w_stIB {i len : Nat} (row : ∀ (H : Heap) (locs : List Loc) (ls : Array Slot) (rest : List Value) (x : Int32) (lv lv' : List (Nat × Value)), lv_has ls mi.2.2.1 lv → i < mi.2.2.1 → (i, Value.int x) :: lv.filter (fun q => !(q.1 == i) && !(q.1 + 1 == i && q.2.category == 2)) = lv' → (∀ ls' : Array Slot, lv_has ls' mi.2.2.1 lv' → W p l e R s m args below meth c H locs ce sl Q (F0 m (pc + len) ls' rest)) → W p l e R s m args below meth c H locs ce sl Q (F0 m pc ls (.int x :: rest))) (hex : xStI (L, S, w) i = some (cd, L1, S1, w1)) (kk : GW l X0 X Y mi p e R s m args below meth c ce sl Q wm (pc + len) L1 S1 ws) : GW l X0 X Y mi p e R s m args below meth c ce sl Q wm pc L S ws := by
  unfold xStI at hex
  split at hex
  · rename_i q L0 x S0 w0 e0
    cases e0
    split at hex
    · rename_i hi
      simp only [Option.some.injEq, Prod.mk.injEq] at hex
      obtain ⟨rfl, rfl, rfl, rfl⟩ := hex
      intro H locs ls hW hP hD hS hl hL
      exact row H locs ls _ x _ _ hl (by rw [← hL]; exact hi) rfl (fun ls' h' => kk H locs ls' hW hP hD hS (lv_mono h' (lvP_st hi)) (by rw [stL_len]; exact hL))
    · cases hex
  · cases hex
theorem w_stAB {i len : Nat} (row : ∀ (H : Heap) (locs : List Loc) (ls : Array Slot) (rest : List Value) (x : Nat) (lv lv' : List (Nat × Value)), lv_has ls mi.2.2.1 lv → i < mi.2.2.1 → (i, Value.ref x) :: lv.filter (fun q => !(q.1 == i) && !(q.1 + 1 == i && q.2.category == 2)) = lv' → (∀ ls' : Array Slot, lv_has ls' mi.2.2.1 lv' → W p l e R s m args below meth c H locs ce sl Q (F0 m (pc + len) ls' rest)) → W p l e R s m args below meth c H locs ce sl Q (F0 m pc ls (.ref x :: rest))) (rowN : ∀ (H : Heap) (locs : List Loc) (ls : Array Slot) (rest : List Value) (lv lv' : List (Nat × Value)), lv_has ls mi.2.2.1 lv → i < mi.2.2.1 → (i, Value.null) :: lv.filter (fun q => !(q.1 == i) && !(q.1 + 1 == i && q.2.category == 2)) = lv' → (∀ ls' : Array Slot, lv_has ls' mi.2.2.1 lv' → W p l e R s m args below meth c H locs ce sl Q (F0 m (pc + len) ls' rest)) → W p l e R s m args below meth c H locs ce sl Q (F0 m pc ls (.null :: rest))) (hex : xStA (L, S, w) i = some (cd, L1, S1, w1)) (kk : GW l X0 X Y mi p e R s m args below meth c ce sl Q wm (pc + len) L1 S1 ws) : GW l X0 X Y mi p e R s m args below meth c ce sl Q wm pc L S ws := by
  unfold xStA at hex
  split at hex
  · rename_i q L0 x S0 w0 e0
    cases e0
    split at hex
    · rename_i hi
      simp only [Option.some.injEq, Prod.mk.injEq] at hex
      obtain ⟨rfl, rfl, rfl, rfl⟩ := hex
      intro H locs ls hW hP hD hS hl hL
      cases x with
      | none => exact rowN H locs ls _ _ _ hl (by rw [← hL]; exact hi) rfl (fun ls' h' => kk H locs ls' hW hP hD hS (lv_mono h' (lvP_st hi)) (by rw [stL_len]; exact hL))
      | some q => exact row H locs ls _ _ _ _ hl (by rw [← hL]; exact hi) rfl (fun ls' h' => kk H locs ls' hW hP hD hS (lv_mono h' (lvP_st hi)) (by rw [stL_len]; exact hL))
    · cases hex
  · cases hex
theorem w_incB {i len : Nat} {kn : Int} {k : Int32} (B : Bd X0 mi p s m args meth c) (h3 : len = 3) (hk : Int32.ofInt kn = k) (hd : decode mi.2.1 pc = .ok (.iinc i kn, 3)) (hex : xInc (L, S, w) i k = some (cd, L1, S1, w1)) (kk : GW l X0 X Y mi p e R s m args below meth c ce sl Q wm (pc + len) L1 S1 ws) : GW l X0 X Y mi p e R s m args below meth c ce sl Q wm pc L S ws := by
  unfold xInc at hex
  subst h3
  obtain ⟨hx, hb, -⟩ := B
  split at hex
  · rename_i x hx2
    split at hex
    · rename_i hi
      simp only [Option.some.injEq, Prod.mk.injEq] at hex
      obtain ⟨rfl, rfl, rfl, rfl⟩ := hex
      intro H locs ls hW hP hD hS hl hL
      obtain ⟨j, hj⟩ := List.getElem?_of_mem ((mem_lvP (X := X) L 0).mpr ⟨i, _, hx2, rfl⟩)
      rw [Nat.zero_add] at hj
      exact lv_iinc (v := x + k) hx hb hd hl hj (by rw [hk]) (by rw [← hL]; exact hi) rfl (fun ls' h' => kk H locs ls' hW hP hD hS (lv_mono h' (lvP_st (v := .inl (x + k)) hi)) (by rw [stL_len]; exact hL))
    · cases hex
  · cases hex
theorem w_IIB {f : Int32 → Int32 → Int32} {len : Nat} (row : ∀ (H : Heap) (locs : List Loc) (ls : Array Slot) (rest : List Value) (x y : Int32), W p l e R s m args below meth c H locs ce sl Q (F0 m (pc + len) ls (.int (f x y) :: rest)) → W p l e R s m args below meth c H locs ce sl Q (F0 m pc ls (.int y :: .int x :: rest))) (hex : xII (L, S, w) f = some (cd, L1, S1, w1)) (kk : GW l X0 X Y mi p e R s m args below meth c ce sl Q wm (pc + len) L1 S1 ws) : GW l X0 X Y mi p e R s m args below meth c ce sl Q wm pc L S ws := by
  unfold xII at hex
  split at hex
  · rename_i q L0 y x S0 w0 e0
    cases e0
    simp only [Option.some.injEq, Prod.mk.injEq] at hex
    obtain ⟨rfl, rfl, rfl, rfl⟩ := hex
    intro H locs ls hW hP hD hS hl hL
    exact row H locs ls _ x y (kk H locs ls hW hP hD hS hl hL)
  · cases hex
theorem w_I1B {f : Int32 → AV} {len : Nat} (row : ∀ (H : Heap) (locs : List Loc) (ls : Array Slot) (rest : List Value) (x : Int32), W p l e R s m args below meth c H locs ce sl Q (F0 m (pc + len) ls (cv X (f x) :: rest)) → W p l e R s m args below meth c H locs ce sl Q (F0 m pc ls (.int x :: rest))) (hex : xI1 (L, S, w) f = some (cd, L1, S1, w1)) (kk : GW l X0 X Y mi p e R s m args below meth c ce sl Q wm (pc + len) L1 S1 ws) : GW l X0 X Y mi p e R s m args below meth c ce sl Q wm pc L S ws := by
  unfold xI1 at hex
  split at hex
  · rename_i q L0 x S0 w0 e0
    cases e0
    simp only [Option.some.injEq, Prod.mk.injEq] at hex
    obtain ⟨rfl, rfl, rfl, rfl⟩ := hex
    intro H locs ls hW hP hD hS hl hL
    exact row H locs ls _ x (kk H locs ls hW hP hD hS hl hL)
  · cases hex
theorem w_DupB {len : Nat} (B : Bd X0 mi p s m args meth c) (h3 : len = 1) (hd : decode mi.2.1 pc = .ok (.dup, 1)) (hex : xDup (L, S, w) = some (cd, L1, S1, w1)) (kk : GW l X0 X Y mi p e R s m args below meth c ce sl Q wm (pc + len) L1 S1 ws) : GW l X0 X Y mi p e R s m args below meth c ce sl Q wm pc L S ws := by
  unfold xDup at hex
  subst h3
  obtain ⟨hx, hb, -⟩ := B
  split at hex
  · rename_i q L0 v S0 w0 e0
    cases e0
    split at hex
    · rename_i hv
      simp only [Option.some.injEq, Prod.mk.injEq] at hex
      obtain ⟨rfl, rfl, rfl, rfl⟩ := hex
      intro H locs ls hW hP hD hS hl hL
      exact lv_dup hx hb hd (cat1_cv hv) (kk H locs ls hW hP hD hS hl hL)
    · cases hex
  · cases hex
theorem w_PopB {len : Nat} (B : Bd X0 mi p s m args meth c) (h3 : len = 1) (hd : decode mi.2.1 pc = .ok (.pop, 1)) (hex : xPop (L, S, w) = some (cd, L1, S1, w1)) (kk : GW l X0 X Y mi p e R s m args below meth c ce sl Q wm (pc + len) L1 S1 ws) : GW l X0 X Y mi p e R s m args below meth c ce sl Q wm pc L S ws := by
  unfold xPop at hex
  subst h3
  obtain ⟨hx, hb, -⟩ := B
  split at hex
  · rename_i q L0 v S0 w0 e0
    cases e0
    split at hex
    · rename_i hv
      simp only [Option.some.injEq, Prod.mk.injEq] at hex
      obtain ⟨rfl, rfl, rfl, rfl⟩ := hex
      intro H locs ls hW hP hD hS hl hL
      exact lv_pop hx hb hd (cat1_cv hv) (kk H locs ls hW hP hD hS hl hL)
    · cases hex
  · cases hex
theorem w_oneB (B : Bd X0 mi p s m args meth c) {ei : EI} (hp : pureI ei.1 = true) (hst : ste mi pc ei = some pc1) (hex : ex1 flT ei (L, S, w) = some (cd, L1, S1, w1)) (kk : GW l X0 X Y mi p e R s m args below meth c ce sl Q wm pc1 L1 S1 ws) : GW l X0 X Y mi p e R s m args below meth c ce sl Q wm pc L S ws := by
  obtain ⟨hd, hlk, rfl⟩ := ste_spec hst
  obtain ⟨ins, ea, eb, ek, el⟩ := ei
  have hx := B.1
  have hb := B.2.1
  have hown := B.2.2.2.1
  cases ins with
  | iconst q => exact w_pushB (v := .inl ek) (len := 1) (fun H locs ls rest k1 => lv_iconst hx hb hd (of_decide_eq_true hlk) k1) hex kk
  | bipush q => exact w_pushB (v := .inl ek) (len := 2) (fun H locs ls rest k1 => lv_bipush hx hb hd (of_decide_eq_true hlk) k1) hex kk
  | sipush q => exact w_pushB (v := .inl ek) (len := 3) (fun H locs ls rest k1 => lv_sipush hx hb hd (of_decide_eq_true hlk) k1) hex kk
  | ldc q => exact w_pushB (v := .inl ek) (len := 2) (fun H locs ls rest k1 => lv_ldc hx hb hown (B.hw (B.2.2.2.2.2.2.2.2.2.1.2.1 _ (of_decide_eq_true hlk)) rfl) hd k1) hex kk
  | aconst_null => exact w_pushB (v := .inr (.inr none)) (len := 1) (fun H locs ls rest k1 => lv_null hx hb hd k1) hex kk
  | iload_n q => exact w_ldIB (len := 1) (fun H locs ls rest x hl k1 => lv_iload_n hx hb hd rfl hl k1) hex kk
  | iload q => exact w_ldIB (len := 2) (fun H locs ls rest x hl k1 => lv_iload hx hb hd hl k1) hex kk
  | aload_n q => exact w_ldAB (len := 1) (fun H locs ls rest x hl k1 => lv_aload_n hx hb hd rfl hl k1) (fun H locs ls rest hl k1 => lv_aload_nN hx hb hd rfl hl k1) hex kk
  | aload q => exact w_ldAB (len := 2) (fun H locs ls rest x hl k1 => lv_aload hx hb hd hl k1) (fun H locs ls rest hl k1 => lv_aloadN hx hb hd hl k1) hex kk
  | istore_n q => exact w_stIB (len := 1) (fun H locs ls rest x lv lv' h1 h2 h3 k1 => lv_istore_n hx hb hd rfl h1 h2 h3 k1) hex kk
  | istore q => exact w_stIB (len := 2) (fun H locs ls rest x lv lv' h1 h2 h3 k1 => lv_istore hx hb hd h1 h2 h3 k1) hex kk
  | astore_n q => exact w_stAB (len := 1) (fun H locs ls rest x lv lv' h1 h2 h3 k1 => lv_astore_n hx hb hd rfl h1 h2 h3 k1) (fun H locs ls rest lv lv' h1 h2 h3 k1 => lv_astore_nN hx hb hd rfl h1 h2 h3 k1) hex kk
  | astore q => exact w_stAB (len := 2) (fun H locs ls rest x lv lv' h1 h2 h3 k1 => lv_astore hx hb hd h1 h2 h3 k1) (fun H locs ls rest lv lv' h1 h2 h3 k1 => lv_astoreN hx hb hd h1 h2 h3 k1) hex kk
  | iinc q1 q2 => exact w_incB B rfl (of_decide_eq_true hlk) hd hex kk
  | iadd => exact w_IIB (fun H locs ls rest x y k1 => lv_iadd hx hb hd k1) hex kk
  | isub => exact w_IIB (fun H locs ls rest x y k1 => lv_isub hx hb hd k1) hex kk
  | imul => exact w_IIB (fun H locs ls rest x y k1 => lv_imul hx hb hd k1) hex kk
  | iand => exact w_IIB (fun H locs ls rest x y k1 => lv_iand hx hb hd k1) hex kk
  | ishl => exact w_IIB (fun H locs ls rest x y k1 => lv_ishl hx hb hd k1) hex kk
  | ishr => exact w_IIB (fun H locs ls rest x y k1 => lv_ishr hx hb hd k1) hex kk
  | ineg => exact w_I1B (f := fun x => .inl (-x)) (fun H locs ls rest x k1 => lv_ineg hx hb hd k1) hex kk
  | i2b => exact w_I1B (f := fun x => .inl x.toInt8.toInt32) (fun H locs ls rest x k1 => lv_i2b hx hb hd rfl k1) hex kk
  | dup => exact w_DupB B rfl hd hex kk
  | pop => exact w_PopB B rfl hd hex kk
  | goto q =>
    simp only [ex1, Option.some.injEq, Prod.mk.injEq] at hex
    obtain ⟨rfl, rfl, rfl, rfl⟩ := hex
    intro H locs ls hW hP hD hS hl hL
    exact lv_goto hx hb hd (Int.toNat_of_nonneg (of_decide_eq_true hlk)).symm (kk H locs ls hW hP hD hS hl hL)
  | _ => cases hp
theorem GW_run (B : Bd X0 mi p s m args meth c) : ∀ (is : List EI) {pc : Nat} {L : LL} {S : List AV} {w : Mem} {P : Prop}, (is.all fun e => pureI e.1) = true → blk mi pc is = some pc1 → exs flT is (L, S, w) = some (P, L1, S1, w1) → GW l X0 X Y mi p e R s m args below meth c ce sl Q wm pc1 L1 S1 ws → GW l X0 X Y mi p e R s m args below meth c ce sl Q wm pc L S ws := by
  intro is
  induction is with
  | nil =>
    intro pc L S w P hp hb hx kk
    cases hb
    cases hx
    exact kk
  | cons ei es ih =>
    intro pc L S w P hp hb hx kk
    have hp2 := Bool.and_eq_true_iff.mp (show (pureI ei.1 && es.all fun e => pureI e.1) = true from hp)
    unfold blk at hb
    split at hb
    · cases hb
    · rename_i pc2 hst
      unfold exs at hx
      split at hx
      · cases hx
      · rename_i cd σ1 hex
        split at hx
        · cases hx
        · rename_i P2 σ2 hes
          obtain ⟨L2, S2, w2⟩ := σ1
          cases hx
          exact w_oneB B hp2.1 hst hex (ih hp2.2 hb hes kk)

theorem BW.al (h : BW X0 X Y s) : X0.2.2.1.vm.Alike X.2.2.1.vm := by obtain ⟨⟨H0, rfl⟩, -⟩ := h; exact fz_vm _ _
theorem BW.xc (h : BW X0 X Y s) : xc X = xc X0 := by obtain ⟨⟨H0, rfl⟩, -⟩ := h; rfl
theorem BW.pool (h : BW X0 X Y s) : X.2.2.2.1 = X0.2.2.2.1 := by obtain ⟨⟨H0, rfl⟩, -⟩ := h; rfl
theorem BW.scr (h : BW X0 X Y s) : X.2.2.2.2 = X0.2.2.2.2 := by obtain ⟨⟨H0, rfl⟩, -⟩ := h; rfl
theorem BW.aa (h : BW X0 X Y s) : ∀ q, AY X q → AA X0 q := fun q hq => Or.inr (Nat.le_trans h.2.2.2.1 hq)
theorem BW.hK (h : BW X0 X Y s) (B : Bd X0 mi p s m args meth c) (ha : X.2.2.1.vm.Alike s.vm) : va_K Y.1 cl2 (ty2 Y) s := h.2.1.2.1.moved ha
theorem BW.sal (h : BW X0 X Y s) (B : Bd X0 mi p s m args meth c) : X.2.2.1.vm.Alike s.vm := by
  obtain ⟨⟨H0, rfl⟩, -⟩ := h
  exact B.2.2.2.2.2.2.2.1
theorem BW.nst (h : BW X0 X Y s) {U : State} (hn : nstOK X0 U) : nstOK X U := by
  obtain ⟨⟨H0, rfl⟩, -⟩ := h
  exact hn
theorem BW.rf (h : BW X0 X Y s) (a : Nat) : cv X (rf a) = .ref a := by
  show Value.ref (X.2.2.2.1 (100 + a)) = .ref a
  rw [h.2.1.2.2.1 a]
theorem GW_newS {idx : Nat} (hb : BW X0 X Y s) (B : Bd X0 mi p s m args meth c) (hcl : Cond.classLink mi.1 idx RJ4 ∈ lw_tbl) (hinst : Cond.instantiable RJ4 4 ∈ lw_tbl) (hini : Cond.initialized RJ4 ∈ lw_tbl) (hce : ce + 1 ≤ R.cells) (hsl : sl + 4 ≤ R.slots) (hd : decode mi.2.1 pc = .ok (.new idx, 3)) (kk : ∀ a, GW l X0 X Y mi p e R s m args below meth c (ce + 1) (sl + 4) Q wm (pc + 3) L (rf a :: S) [(a, sb0E)]) : GW l X0 X Y mi p e R s m args below meth c ce sl Q wm pc L S [] := by
  intro H locs ls hW hP hD hS hl hL
  refine va_forget (fun q hq => hb.2.2.2.2.2 _ (hS.2.2 q hq)) ?_
  have hxs : xb X ≤ H.size := hW.2.2.1.1
  refine va_new (ci := 0) (ws := []) (A := fun q => H.size ≤ q) (H0 := H) B.1 B.2.1 B.2.2.2.2.1 (u_gtb inJ4) tyJ4 tyJ4_ok B.2.2.2.1 (B.hw hcl rfl) (B.hw hinst rfl) (B.hw hini rfl) (hb.hK B (hb.sal B)) hP ⟨hD.1, fun k q hq => by simp at hq⟩ va_S.rf (fun q h => h) rfl (fun j hj => (by decide : ∀ j, j < 4 → defaultValue (tyJ4 j) = vp_V [.null, .int 0, .int 0, .int 0] j) j hj) hce hsl hd (fun a H1 hP1 hD1 hS1 => ?_)
  have hge : ∀ q, q < H.size → H1[q]? = H[q]? := fun q h => hS1.2.1 q h (Nat.not_le.mpr h)
  have hS2 : va_S (AA X0) s.heap H1 [] := ⟨Nat.le_trans hS.1 hS1.1, fun q h1 h2 => by rw [hge q (Nat.lt_of_lt_of_le h1 hS.1)]; exact hS.2.1 q h1 h2, fun q hq => by cases hq⟩
  have k1 := kk a H1 [] ls (Wd_F (by rw [hb.xc]; exact hb.2.2.1) hW hS1.1 (fun q h _ => hge q h)) hP1 ⟨hD1.1, fun k q hq => Nat.le_trans hxs (hD1.2 k q hq)⟩ hS2 hl hL
  rw [List.map_cons, hb.rf] at k1
  exact k1
theorem GW_ldcS {idx : Nat} (hb : BW X0 X Y s) (B : Bd X0 mi p s m args meth c) (tx : String) (i : Nat) (hm : (mi.1, idx, tx, i) ∈ strA) (hd : decode mi.2.1 pc = .ok (.ldc idx, 2)) (kk : GW l X0 X Y mi p e R s m args below meth c ce sl Q wm (pc + 2) L (.inr (.inr (some (40, i))) :: S) ws) : GW l X0 X Y mi p e R s m args below meth c ce sl Q wm pc L S ws := by
  intro H locs ls hW hP hD hS hl hL
  have h1 := (hb.nst B.2.2.2.2.2.2.2.2.2.2.2).2 _ hm
  exact va_ldcS B.1 B.2.1 B.2.2.2.1 h1 hd (kk H locs ls hW hP hD hS hl hL)
/-- a call of a method of the builder -/
theorem GW_call {mc ms : Nat} {a : Array Value} {st0 : List AV} {Qy : Option AV → va_W → Prop} (hb : BW X0 X Y s)
    (hr : ∀ (H : Heap) (locs : List Loc) (ls : Array Slot), Wd X 39 flT wm H → va_P Y.1 cl2 ws H → va_D (AY X) ws → va_S (AA X0) s.heap H locs → lv_has ls mi.2.2.1 (lvP X 0 L) → va_Run p l e R s m args below meth c H locs ce sl mc ms (F0 m pc ls (st0.map (cv X))) (S.map (cv X)) (QcB X Y Qy a) (AY X))
    (kk : ∀ (v : Option AV) (ws1 : va_W), Qy v ws1 → GW l X0 X Y mi p e R s m args below meth c (ce + mc) (sl + ms) Q wm (pc + 3) L (v.toList ++ S) ws1) : GW l X0 X Y mi p e R s m args below meth c ce sl Q wm pc L st0 ws := by
  intro H locs ls hW hP hD hS hl hL T hT XT
  obtain ⟨v0, st₀, t, T', L2, h0, X', hL2, e1, e2, ⟨⟨v, ws1, hv, hq, hP1, hD1⟩, hz, hk⟩, st⟩ := hr H locs ls hW hP hD hS hl T hT XT
  cases hv
  rw [h0] at hz hk
  have hS1 : va_S (AA X0) s.heap T'.heap (locs ++ L2) := ⟨Nat.le_trans hS.1 (by rw [e1]; exact hz), fun q h1 h2 => by rw [e1, hk q (Nat.lt_of_lt_of_le h1 hS.1) (fun z => h2 (hb.aa q z))]; exact hS.2.1 q h1 h2, fun q hq => by
      rcases List.mem_append.mp hq with h | h
      · exact hS.2.2 q h
      · exact hb.aa _ (hL2 q h)⟩
  have h3 : (v.map (cv X)).toList ++ S.map (cv X) = (v.toList ++ S).map (cv X) := by cases v <;> simp
  obtain ⟨t2, a1, b1⟩ := kk v ws1 hq T'.heap (locs ++ L2) ls (by rw [e1]; exact Wd_F (by rw [hb.xc]; exact hb.2.2.1) hW hz hk) (by rw [e1]; exact hP1) hD1 hS1 hl hL T' rfl X'
  exact ⟨t2, st t2 (by rw [h3]; exact a1), b1⟩
theorem PcW_bl (hb : BW X0 X Y s) (B : Bd X0 mi p s m args meth c) {As : List AV} {H : Heap} (hW : Wd X 39 flT wm H) (hP : va_P Y.1 cl2 ws H) (hD : va_D (AY X) ws) : ∀ U : State, U.heap = H → s.WarmedH U.vm → PcB X Y ws As (As.map (cv X)).toArray U := by
  intro U hU hWm
  have hn := hb.nst B.2.2.2.2.2.2.2.2.2.2.2
  exact ⟨rfl, by rw [hU]; exact hP, hD, by rw [hU]; exact Wd_kp hW, (hb.sal B).trans hWm.alike, fun a2 i x h hm => va_Nw.warmM hWm (hn.1 a2 i x h hm), fun z hz => vk_R.warm hWm (hn.2 z hz)⟩
theorem GW_callI {d mc ms idx nn a : Nat} {y : MethodName} {cc : ByteArray} {maxL : Nat} {As : List AV} {Qy : Option AV → va_W → Prop} (hb : BW X0 X Y s) (B : Bd X0 mi p s m args meth c)
    (hM : MtB l X Y d y cc maxL none (rf a :: As) mc ms ws Qy) (me : meOK y cc maxL none nn) (hin : Cond.instanceMethod y ∈ lw_tbl) (hy1 : y.name = "<init>") (hlk : Cond.methodLink mi.1 idx y ∈ lw_tbl) (hd : decode mi.2.1 pc = .ok (.invokespecial idx, 3)) (hn : As.length = nn)
    (hR : d + 1 ≤ R.frames ∧ 8 + (maxL + 11) + 64 * d ≤ R.locals) (hf : ce + mc ≤ R.cells ∧ sl + ms ≤ R.slots) (hcat : catS S ≤ 8)
    (kk : ∀ (v : Option AV) (ws1 : va_W), Qy v ws1 → GW l X0 X Y mi p e R s m args below meth c (ce + mc) (sl + ms) Q wm (pc + 3) L (v.toList ++ S) ws1) : GW l X0 X Y mi p e R s m args below meth c ce sl Q wm pc L (As.reverse ++ rf a :: S) ws := by
  refine GW_call (Qy := Qy) (a := (Value.ref a :: As.map (cv X)).toArray) hb (fun H locs ls hW hP hD hS hl => ?_) kk
  have hpa := PcW_bl hb B (As := rf a :: As) hW hP hD
  rw [List.map_cons, hb.rf] at hpa
  exact va_runI (own := mi.1) (Ts := gtb) (n := nn) ⟨B.1, B.2.1, B.2.2.1, B.2.2.2.1, B.2.2.2.2.1⟩ hM ⟨callB_of nn B.2.2.2.2.1 (wsB_in me) rfl rfl rfl (B.hw me.2.1 rfl) (B.hw hlk rfl) ⟨me.2.2.2.1, me.2.2.2.2⟩ hR, hy1, B.hw hin rfl⟩ ⟨PcB_blind, hpa⟩ rfl (by rw [List.length_map]; exact hn) hl.1 (by simp [hb.rf]) (lv_room (catS_ok hcat)) hd hf
theorem GW_callV {d mc ms idx nn q0 a : Nat} {fs : List Value} {y : MethodName} {cc : ByteArray} {maxL : Nat} {ret : Option FieldType} {As : List AV} {Qy : Option AV → va_W → Prop} (hb : BW X0 X Y s) (B : Bd X0 mi p s m args meth c) (he : ws[q0]? = some (a, .inr (0, fs)))
    (hM : MtB l X Y d y cc maxL ret (rf a :: As) mc ms ws Qy) (cl : CV mi.1 idx y cc maxL ret nn) (hcls : y.cls = RJ4) (hd : decode mi.2.1 pc = .ok (.invokevirtual idx, 3)) (hn : As.length = nn)
    (hR : d + 1 ≤ R.frames ∧ 8 + (maxL + 11) + 64 * d ≤ R.locals) (hf : ce + mc ≤ R.cells ∧ sl + ms ≤ R.slots) (hcat : catS S ≤ 8)
    (kk : ∀ (v : Option AV) (ws1 : va_W), Qy v ws1 → GW l X0 X Y mi p e R s m args below meth c (ce + mc) (sl + ms) Q wm (pc + 3) L (v.toList ++ S) ws1) : GW l X0 X Y mi p e R s m args below meth c ce sl Q wm pc L (As.reverse ++ rf a :: S) ws := by
  refine GW_call (Qy := Qy) (a := (Value.ref a :: As.map (cv X)).toArray) hb (fun H locs ls hW hP hD hS hl => ?_) kk
  have hpa := PcW_bl hb B (As := rf a :: As) hW hP hD
  rw [List.map_cons, hb.rf] at hpa
  have hrc : ∃ cell : Cell, H[a]? = some cell ∧ cell.vm.isStatics = false ∧ s.vm.findClass RJ4 = some cell.cls := va_recv (hb.hK B (hb.sal B)) hP rfl he
  exact va_runV (own := mi.1) (C := y.cls) (Ts := gtb) (n := nn) ⟨B.1, B.2.1, B.2.2.1, B.2.2.2.1, B.2.2.2.2.1⟩ hM ⟨callB_of nn B.2.2.2.2.1 (wsB_in cl.1) rfl rfl rfl (B.hw cl.1.2.1 rfl) (B.hw cl.2.2.2 rfl) ⟨cl.1.2.2.2.1, cl.1.2.2.2.2⟩ hR, B.hw cl.2.1 rfl, B.hw cl.2.2.1 rfl⟩ ⟨PcB_blind, by rw [hcls]; exact hrc, hpa⟩ rfl (by rw [List.length_map]; exact hn) hl.1 (by simp [hb.rf]) (lv_room (catS_ok hcat)) hd hf
/-- a static method of the law that makes nothing, and answers a number -/
theorem GW_callS {d idx nn : Nat} {y : MethodName} {cc : ByteArray} {maxL : Nat} {ret : Option FieldType} {As : List AV} {v1 : Int32} (hb : BW X0 X Y s) (B : Bd X0 mi p s m args meth c)
    (hM : ∀ H : Heap, Wd X 39 flT wm H → Ct l (fz X0 H) d y cc maxL ret emI As 39 flT wm (some (v1, wm))) (cl : CS mi.1 idx y cc maxL ret nn) (hd : decode mi.2.1 pc = .ok (.invokestatic idx, 3)) (hn : As.length = nn)
    (hR : d + 1 ≤ R.frames ∧ 8 + (maxL + 11) + 64 * d ≤ R.locals) (hf : ce + 0 ≤ R.cells ∧ sl + 0 ≤ R.slots) (hcat : catS S ≤ 8)
    (kk : GW l X0 X Y mi p e R s m args below meth c ce sl Q wm (pc + 3) L (.inl v1 :: S) ws) : GW l X0 X Y mi p e R s m args below meth c ce sl Q wm pc L (As.reverse ++ S) ws := by
  intro H locs ls hW hP hD hS hl hL T hT XT
  obtain ⟨⟨H0, hX⟩, hXB, hC, hx0, -, hlow⟩ := id hb
  have hfX : fz X0 H = fz X H := by subst hX; rfl
  have hWz : Wd (fz X0 H) 39 flT wm H := by rw [hfX]; exact Wd_fz (Nat.le_refl 39) hW (fun h => absurd h (by decide))
  have hXz : XOK (fz X0 H) := by rw [hfX]; exact XOK_fz hXB.1 (Wd_kp hW)
  have hcv : cv (fz X0 H) = cv X := by subst hX; rw [cv_fz, cv_fz]
  have hr : va_Run p l e R s m args below meth c H locs ce sl 0 0 (F0 m pc ls ((As.reverse ++ S).map (cv X))) (S.map (cv X)) (QcW (fz X0 H) (fun v n1 fl1 w1 => n1 = 39 ∧ fl1 = flT ∧ (v, w1) = emI (v1, wm)) (As.map (cv X)).toArray) (AA (fz X0 H)) := by
    refine va_runS (own := mi.1) (Ts := gtb) (n := nn) ⟨B.1, B.2.1, B.2.2.1, B.2.2.2.1, B.2.2.2.2.1⟩ (hM H hW hXz (v1, wm) rfl) ⟨callB_of nn B.2.2.2.2.1 (wsB_in cl.1) rfl rfl rfl (B.hw cl.1.2.1 rfl) (B.hw cl.2.2 rfl) ⟨cl.1.2.2.2.1, cl.1.2.2.2.2⟩ hR, B.hw cl.2.1 rfl⟩ ⟨PcW_blind, fun U hU hWm => ?_⟩ rfl (by rw [List.length_map]; exact hn) hl.1 (by simp) (lv_room (catS_ok hcat)) hd hf
    have hn2 := B.2.2.2.2.2.2.2.2.2.2.2
    exact ⟨by rw [hcv], by rw [hU]; exact hWz, (B.2.2.2.2.2.2.2.1.trans hWm.alike), fun a2 i x h hm => va_Nw.warmM hWm (hn2.1 a2 i x h hm), fun z hz => vk_R.warm hWm (hn2.2 z hz)⟩
  obtain ⟨v0, st₀, t, T', L2, h0, X', hL2, e1, e2, ⟨⟨v, n1, fl1, w1, hv, ⟨rfl, rfl, h3⟩, hW1, -⟩, hz, hk⟩, st⟩ := hr T hT XT
  cases hv
  cases h3
  rw [hcv] at st
  rw [h0] at hz hk
  have hxcl : ∀ q, AA (fz X0 H) q → AA X0 q := fz_aa (Nat.le_trans hx0 hW.2.2.1.1)
  have hS1 : va_S (AA X0) s.heap T'.heap (locs ++ L2) := ⟨Nat.le_trans hS.1 (by rw [e1]; exact hz), fun q h1 h2 => by rw [e1, hk q (Nat.lt_of_lt_of_le h1 hS.1) (fun z => h2 (hxcl q z))]; exact hS.2.1 q h1 h2, fun q hq => by
      rcases List.mem_append.mp hq with h | h
      · exact hS.2.2 q h
      · exact hxcl _ (hL2 q h)⟩
  have hk2 : ∀ q, q < H.size → ¬ (xc X0 ≤ q ∧ q < xc X0 + 39) → T'.heap[q]? = H[q]? := fun q h1 h2 => by
    rw [e1]
    refine hk q h1 (fun z => ?_)
    rcases z with z | z
    · exact h2 z
    · have z2 : H.size ≤ q := z
      omega
  have hPa : va_P Y.1 cl2 ws T'.heap := fun k q hq => (hP k q hq).kept (hk2 q.1 (hP k q hq).lt (fun z => by
    have h5 : xb X ≤ q.1 := hD.2 k q hq
    omega))
  have hWb : Wd X 39 flT wm T'.heap := by
    rw [e1]
    have hsz := hW1.2.2.1
    refine ⟨by subst hX; exact hW1.1, hW.2.1, ⟨Nat.le_trans hW.2.2.1.1 hz, fun h => absurd h (by decide), fun h => by have := hsz.2.2 h; subst hX; exact this⟩, Nat.le_succ _, fun q hq => ?_⟩
    rw [← hW.2.2.2.2 q hq, ← e1]
    refine hk2 q (Nat.lt_of_lt_of_le (Nat.not_le.mp (fun z => hq (Or.inr z))) hW.2.2.1.1) (fun z => hq (Or.inl ?_))
    subst hX; exact z
  obtain ⟨t2, a1, b1⟩ := kk T'.heap (locs ++ L2) ls hWb hPa hD hS1 hl hL T' rfl X'
  exact ⟨t2, st t2 a1, b1⟩
end GWs
