/-! THE CLAIM OUT OF ONE WALK OF THE LAW'S BODY. Your part is whole_start (and what it stands on); all else here is the same for every law, but numbers. -/
def R_law : String := "NameThrownBackLaw"
def lw_P (b : Addr) (xs : List Int32) (args : Array Value) (s : State) : Prop := args = #[.ref b] ∧ s.IntsAt b xs ∧ xs.length ≤ 3584 ∧ (Jvm.Cond.and given_1 narrow_1).before args s = true
def lw_Q (_ : Array Value) (s : State) (o : Outcome) (t : State) : Prop := o = .returned (some (.int 1)) ∧ Framed s o t [] 600000 7302250
def lw_Z (below : List Frame) (a : Array Value) (s : State) : State → Prop := fun t => ∃ o, t.status = .running ∧ Ended t below o ∧ lw_Q a s o t
/-- the law's own end, with 1 on the stack, nothing written that was there before, its room as the claim has it -/
theorem lw_ret {p : Program} {l : Launch} {e : Env} {s : State} {m : MethodId} {below : List Frame} {meth : Method} {c : Code} {b : Nat} (hx : p.tables.exec = Jvm.exec) (hb : c.code = code) (hr : meth.sig.returnType = ret) (hlocks : meth.locks = false) {pc : Nat} {H : Heap} {ls : Array Slot} (hdg : decode code pc = .ok (.ireturn, 1)) : W p l e room_1 s m #[Value.ref b] below meth c H [] 600000 7302250 (lw_Z below #[Value.ref b] s) (F0 m pc ls [.int 1]) := by
  intro T hT X
  obtain ⟨fs, hret, hrun, hended, hW, hframe⟩ := X.leave (v := some (.int 1)) (hlocks := hlocks) (fun h => by rw [hr] at h; cases h)
  have hmeth' : T.vm.method? m = some meth := X.method'
  refine ⟨T.setFrames fs, ?_, .returned (some (.int 1)), hrun, hended, rfl, ⟨_, rfl⟩, hW, hframe⟩
  jvm_step X.here [X.here.top, hx, hb, hdg, hmeth', hr, ret, narrow_b1]
  (try refine ⟨rfl, ?_⟩); (try refine ⟨rfl, ?_⟩)
  first | (intro acts; rw [hret _ acts rfl rfl rfl]) | rw [hret _ _ rfl rfl rfl]
  exact Steps.refl _
/-- what holds at the law's entry: the machine, the code, the tables' words (any of lw_tbl by 'hts w (by decide +kernel)'), the script of L ints xs at the cell b, what the Statement gives of the start (any of its parts by flat_of_before) -/
def lw_At (p : Program) (s : State) (m : MethodId) (meth : Method) (c : Code) (b L : Nat) (xs : Nat → Int32) : Prop :=
  p.tables.exec = Jvm.exec ∧ c.code = code ∧ meth.sig.returnType = ret ∧ c.maxLocals = 4 ∧ s.vm.findClass R_law = some m.cls ∧ (∀ w ∈ lw_tbl, w.before #[Value.ref b] s = true) ∧ va_X b L xs s s.heap ∧ b < s.heap.size ∧ meth.locks = false ∧ (Jvm.Cond.and given_1 narrow_1).before #[Value.ref b] s = true
/-! the law from its entry to its end -/
def M0 : Mem := clr (w_X4_0 (clr (fun _ _ _ => 0) 4 0)) 5 0
def OwedS (Inv : Mem → Prop) : Prop := ∃ r, f_X5_text (up (cpN 32 (w_X5_0_6 M0)) 5 0 7 32) = some r ∧ Inv r.2
section LOOP
variable {l : Launch} {X : XC} {p : Program} {e : Env} {s : State} {m : MethodId} {args : Array Value} {below : List Frame} {meth : Method} {c : Code} {ce sl : Nat} {w : Mem} {Ln : Nat} {xs : Nat → Int32}
theorem i_add {a b : Nat} {y : Int32} (hy : y = nI b) (h : a + b < 2 ^ 31) : nI a + y = nI (a + b) := by
  subst hy
  refine Int32.toInt_inj.mp ?_
  rw [Int32.toInt_add, nI_toInt (by omega), nI_toInt (by omega), nI_toInt h, Int.bmod_eq_of_le (by omega) (by omega)]
  omega
theorem i_in {a n : Nat} (h : a < n) (hn : n < 2 ^ 31) : inB (nI a) n := by
  intro z
  rcases z with z | z
  · have h1 := Int32.lt_iff_toInt_lt.mp z
    rw [nI_toInt (by omega)] at h1
    have h2 : (0 : Int32).toInt = 0 := by decide
    omega
  · have h1 : (nI a).toNatClampNeg = a := by show (nI a).toInt.toNat = a; rw [nI_toInt (by omega)]; omega
    omega
theorem i_six {j : Int32} (h0 : 0 ≤ j) (h6 : j ≤ 6) : ∃ b : Nat, b ≤ 6 ∧ j = nI b := by
  have h1 := Int32.le_iff_toInt_le.mp h0
  have h2 := Int32.le_iff_toInt_le.mp h6
  have e0 : (0 : Int32).toInt = 0 := by decide
  have e6 : (6 : Int32).toInt = 6 := by decide
  refine ⟨j.toInt.toNat, by omega, Int32.toInt_inj.mp ?_⟩
  rw [nI_toInt (by omega)]; omega
theorem i_sub7 {n : Nat} (hn : n ≤ 3584) : (Int32.ofNat n - 7).toInt = (n : Int) - 7 := by
  have e1 : (Int32.ofNat n).toInt = (n : Int) := nI_toInt (by omega)
  have e7 : (7 : Int32).toInt = 7 := by decide
  rw [Int32.toInt_sub, e1, e7, Int.bmod_eq_of_le (by omega) (by omega)]
set_option maxRecDepth 100000 in
theorem L_loop {Inv : Mem → Prop} (hO : Owed Inv) (B : Bd X mi_L p s m args meth c) (hX : scr X s Ln xs) (hL : Ln ≤ 3584) (hce : ce ≤ 600000) (hsl : sl ≤ 7302250) {Q : State → Prop}
    (hfin : ∀ (i : Int32) (w2 : Mem), G l X mi_L p e room_1 s m args below meth c ce sl Q 57 flT 1587 (LL0 i) [] w2) : ∀ (k j : Nat) (w : Mem), 7 * j ≤ Ln + 7 → Ln < 7 * (j + k) → Inv w → G l X mi_L p e room_1 s m args below meth c ce sl Q 57 flT 18 (LL0 (nI (7 * j))) [] w := by
  intro k
  induction k with
  | zero =>
    intro j w h1 h2 hI
    refine G_run B flG_T (pc1 := 20) (L1 := LL0 (nI (7 * j))) (S1 := [.inr (.inr (some (41, 0))), .inl (nI (7 * j))]) (w1 := w) (P := True) [(.iload_n 3, 0, 0, 0, 0), (.aload_n 0, 0, 0, 0, 0)] (by decide +kernel) rfl trivial ?_
    refine G_slen B hX (by decide +kernel) ?_
    refine G_run B flG_T (pc1 := 24) (L1 := LL0 (nI (7 * j))) (S1 := [.inl (Int32.ofNat Ln - 7), .inl (nI (7 * j))]) (w1 := w) (P := True) [(.bipush 7, 0, 0, 7, 0), (.isub, 0, 0, 0, 0)] (by decide +kernel) rfl trivial ?_
    refine G_icmp B (k := .gt) (off := 1563) (tgt := 1587) (by decide +kernel) (by decide) (fun _ => hfin _ w) (fun h => ?_)
    refine absurd ((cnd_gt _ _).mpr (fun hle => ?_)) h
    have h3 := Int32.le_iff_toInt_le.mp hle
    rw [nI_toInt (by omega), i_sub7 hL] at h3
    omega
  | succ k ih =>
    intro j w h1 h2 hI
    refine G_run B flG_T (pc1 := 20) (L1 := LL0 (nI (7 * j))) (S1 := [.inr (.inr (some (41, 0))), .inl (nI (7 * j))]) (w1 := w) (P := True) [(.iload_n 3, 0, 0, 0, 0), (.aload_n 0, 0, 0, 0, 0)] (by decide +kernel) rfl trivial ?_
    refine G_slen B hX (by decide +kernel) ?_
    refine G_run B flG_T (pc1 := 24) (L1 := LL0 (nI (7 * j))) (S1 := [.inl (Int32.ofNat Ln - 7), .inl (nI (7 * j))]) (w1 := w) (P := True) [(.bipush 7, 0, 0, 7, 0), (.isub, 0, 0, 0, 0)] (by decide +kernel) rfl trivial ?_
    refine G_icmp B (k := .gt) (off := 1563) (tgt := 1587) (by decide +kernel) (by decide) (fun _ => hfin _ w) (fun h => ?_)
    have h4 : 7 * j + 7 ≤ Ln := by
      by_cases hle : nI (7 * j) ≤ Int32.ofNat Ln - 7
      · have h3 := Int32.le_iff_toInt_le.mp hle
        rw [nI_toInt (by omega), i_sub7 hL] at h3
        omega
      · exact absurd ((cnd_gt _ _).mpr hle) h
    have hb : ∀ q : Int32, 0 ≤ q → q ≤ 6 → inB (nI (7 * j) + q) Ln := by
      intro q hq0 hq6
      obtain ⟨b, hb1, hb2⟩ := i_six hq0 hq6
      rw [i_add hb2 (by omega)]
      exact i_in (by omega) (by omega)
    refine G_run B flG_T (pc1 := 29) (L1 := LL0 (nI (7 * j))) (S1 := [.inl (nI (7 * j)), .inr (.inr (some (41, 0)))]) (w1 := w) (P := True) [(.aload_n 0, 0, 0, 0, 0), (.iload_n 3, 0, 0, 0, 0)] (by decide +kernel) rfl trivial ?_
    refine G_sld B hX (i_in (by omega) (by omega)) (by decide +kernel) ?_
    refine G_run B flG_T (pc1 := 33) (L1 := LL0 (nI (7 * j))) (S1 := [.inl (xs (tn (nI (7 * j))) &&& 63)]) (w1 := w) (P := True) [(.bipush 63, 0, 0, 63, 0), (.iand, 0, 0, 0, 0)] (by decide +kernel) rfl trivial ?_
    refine L_sw hO B hX hb hce hsl hI (fun w2 hI2 => ?_)
    refine G_run B flG_T (pc1 := 18) (L1 := LL0 (nI (7 * j) + 7)) (S1 := []) (w1 := w2) (P := True) [(.iinc 3 7, 0, 0, 7, 0), (.goto (-1566), 0, 0, 0, 0)] (by decide +kernel) rfl trivial ?_
    rw [show nI (7 * j) + 7 = nI (7 * (j + 1)) from i_add (a := 7 * j) (b := 7) (y := 7) rfl (by omega)]
    exact ih (j + 1) w2 (by omega) (by omega) hI2
end LOOP
set_option maxRecDepth 100000 in
theorem start_open {Inv : Mem → Prop} (hO : Owed Inv) (hI0 : OwedS Inv) {p : Program} {e : Env} {s : State} {m : MethodId} {below : List Frame} {meth : Method} {c : Code} (l : Launch) {b L : Nat} {xs : Nat → Int32} (hL : L ≤ 3584) (C0 : lw_At p s m meth c b L xs) : W p l e room_1 s m #[Value.ref b] below meth c s.heap [] 0 0 (lw_Z below #[Value.ref b] s) (entryFrame m ([Value.ref b] : List Value).toArray 4) := by
  obtain ⟨hx, hb, hr, hml, hown, hts, hXs, hbl, hlocks, hgv⟩ := id C0
  obtain ⟨X, hs, hsb, hXO, hns, hAO⟩ := st_X hts hgv
  obtain ⟨r, hr0, hI⟩ := hI0
  have hxb : xb X = s.heap.size := by show X.2.2.1.heap.size = _; rw [hs]
  have B : Bd X mi_L p s m #[Value.ref b] meth c := ⟨hx, hb, hml, hown, fun w hw => hts w (List.mem_filter.mp hw).1, hr, hlocks, by rw [hs]; exact Vm.Alike.refl _, hXO, ⟨fun _ h => absurd h List.not_mem_nil, fun _ h => absurd h List.not_mem_nil, fun _ h => absurd h List.not_mem_nil⟩, by rw [hxb]; exact Nat.le_refl _, hns⟩
  have hscr : scr X s L xs := ⟨by rw [hsb]; exact hXs, by rw [hsb]; exact hbl, by rw [hsb]; show ¬ xb X ≤ b; omega⟩
  have hfin : ∀ (i : Int32) (w2 : Mem), G l X mi_L p e room_1 s m #[Value.ref b] below meth c 57 3870 (lw_Z below #[Value.ref b] s) 57 flT 1587 (LL0 i) [] w2 := by
    intro i w2
    refine G_run B flG_T (pc1 := 1588) (L1 := LL0 i) (S1 := [.inl 1]) (w1 := w2) (P := True) [(.iconst 1, 0, 0, 1, 0)] (by decide +kernel) rfl trivial ?_
    intro H locs ls hW hS hl hL2 oL oS
    exact va_forget (fun q hq => by have := hS.2.2 q hq; show s.heap.size ≤ _; rw [← hxb]; exact this) (W.widen (by decide) (by decide) (lw_ret hx hb hr hlocks (by decide +kernel)))
  have hl := lv_entry ([.ref b]) (n := 4) (Nat.le_of_ble_eq_true rfl)
  rw [lg_entry_eq]
  generalize (lg_sl ([.ref b]) ++ List.replicate (4 - (lg_sl ([.ref b])).length) Slot.unset).toArray = ls at hl ⊢
  have hG : G l X mi_L p e room_1 s m #[Value.ref b] below meth c 0 0 (lw_Z below #[Value.ref b] s) 0 (flL []) 0 [some (.inr (.inr (some (41, 0)))), none, none, none] [] (fun _ _ _ => 0) := by
    refine G_new B (idx := 7) (k := 4) (i := 0) (by decide) (by decide +kernel) (by decide) (List.mem_of_getElem? (i := 60) (by decide +kernel)) (List.mem_of_getElem? (i := 61) (by decide +kernel)) (List.mem_of_getElem? (i := 48) (by decide +kernel)) (by decide +kernel) (by decide +kernel) (Nat.le_of_ble_eq_true rfl) (Nat.le_of_ble_eq_true rfl) ?_
    refine G_run B (flG_L (l := []) (by decide +kernel)) (pc1 := 4) (L1 := [some (.inr (.inr (some (41, 0)))), none, none, none]) (S1 := [.inr (.inr (some (4, 0))), .inr (.inr (some (4, 0)))]) (w1 := clr (fun _ _ _ => 0) 4 0) (P := True) [(.dup, 0, 0, 0, 0)] (by decide +kernel) rfl trivial ?_
    refine G_callI B (As := []) (S := [.inr (.inr (some (4, 0)))]) (c_X4_0 l X hXO (clr (fun _ _ _ => 0) 4 0) hAO) me_X4_init mi_X4_init rfl lk_L_9 (by decide +kernel) rfl ⟨by decide, by decide⟩ ⟨Nat.le_of_ble_eq_true rfl, Nat.le_of_ble_eq_true rfl⟩ (Nat.le_of_ble_eq_true rfl) ?_
    rintro v n1 fl1 w1 ⟨rfl, rfl, rfl, rfl⟩
    refine G_run B (flG_L (l := [(18, 0, 3), (2, 3, 2), (18, 0, 2), (2, 2, 2), (18, 0, 1), (2, 1, 2), (18, 0, 0), (2, 0, 2), (4, 0, 6), (4, 0, 4), (0, 2, 0), (0, 2, 10), (0, 2, 9), (0, 2, 8), (0, 2, 7), (0, 2, 6), (0, 2, 1), (4, 0, 3), (0, 1, 0), (0, 1, 10), (0, 1, 9), (0, 1, 8), (0, 1, 7), (0, 1, 6), (0, 1, 1), (4, 0, 2), (0, 0, 0), (0, 0, 10), (0, 0, 9), (0, 0, 8), (0, 0, 7), (0, 0, 6), (0, 0, 1), (4, 0, 1), (1, 0, 4), (1, 0, 2), (1, 0, 0), (4, 0, 0), (3, 0, 3), (3, 0, 2), (3, 0, 1)]) (by decide +kernel)) (pc1 := 8) (L1 := [some (.inr (.inr (some (41, 0)))), some (.inr (.inr (some (4, 0)))), none, none]) (S1 := []) (w1 := w_X4_0 (clr (fun _ _ _ => 0) 4 0)) (P := True) [(.astore_n 1, 0, 0, 0, 0)] (by decide +kernel) rfl trivial ?_
    refine G_new B (idx := 10) (k := 5) (i := 0) (by decide) (by decide +kernel) (by decide) (List.mem_of_getElem? (i := 685) (by decide +kernel)) (List.mem_of_getElem? (i := 686) (by decide +kernel)) (List.mem_of_getElem? (i := 53) (by decide +kernel)) (by decide +kernel) (by decide +kernel) (Nat.le_of_ble_eq_true rfl) (Nat.le_of_ble_eq_true rfl) ?_
    refine G_run B (flG_L (l := [(18, 0, 3), (2, 3, 2), (18, 0, 2), (2, 2, 2), (18, 0, 1), (2, 1, 2), (18, 0, 0), (2, 0, 2), (4, 0, 6), (4, 0, 4), (0, 2, 0), (0, 2, 10), (0, 2, 9), (0, 2, 8), (0, 2, 7), (0, 2, 6), (0, 2, 1), (4, 0, 3), (0, 1, 0), (0, 1, 10), (0, 1, 9), (0, 1, 8), (0, 1, 7), (0, 1, 6), (0, 1, 1), (4, 0, 2), (0, 0, 0), (0, 0, 10), (0, 0, 9), (0, 0, 8), (0, 0, 7), (0, 0, 6), (0, 0, 1), (4, 0, 1), (1, 0, 4), (1, 0, 2), (1, 0, 0), (4, 0, 0), (3, 0, 3), (3, 0, 2), (3, 0, 1)]) (by decide +kernel)) (pc1 := 12) (L1 := [some (.inr (.inr (some (41, 0)))), some (.inr (.inr (some (4, 0)))), none, none]) (S1 := [.inr (.inr (some (5, 0))), .inr (.inr (some (5, 0)))]) (w1 := M0) (P := True) [(.dup, 0, 0, 0, 0)] (by decide +kernel) rfl trivial ?_
    refine G_callI B (As := []) (S := [.inr (.inr (some (5, 0)))]) (c_X5_0 l X hXO M0 r hr0) me_X5_init mi_X5_init rfl lk_L_12 (by decide +kernel) rfl ⟨by decide, by decide⟩ ⟨Nat.le_of_ble_eq_true rfl, Nat.le_of_ble_eq_true rfl⟩ (Nat.le_of_ble_eq_true rfl) ?_
    rintro v n1 fl1 w1 ⟨rfl, rfl, rfl, rfl⟩
    refine G_run B flG_T (pc1 := 18) (L1 := LL0 0) (S1 := []) (w1 := r.2) (P := True) [(.astore_n 2, 0, 0, 0, 0), (.iconst 0, 0, 0, 0, 0), (.istore_n 3, 0, 0, 0, 0)] (by decide +kernel) rfl trivial ?_
    exact L_loop (ce := 57) (sl := 3870) hO B hscr hL (by decide) (by decide) hfin (L + 1) 0 r.2 (by omega) (by omega) hI
  refine hG s.heap [] ls ⟨fun k q h => (by cases h), ⟨fun i j p q h => (by cases h), fun k q h => (by cases h)⟩, by rw [hxb]; rfl, by decide, fun q hq => by rw [hs]⟩ va_S.rf ?_ rfl (fun v hv => ?_) (fun v hv => absurd hv List.not_mem_nil)
  · show lv_has ls 4 [(0, .ref X.2.2.2.2)]
    rw [hsb]; exact hl
  · simp only [List.mem_cons, Option.some.injEq, reduceCtorEq, List.not_mem_nil, or_false] at hv
    subst hv; rfl
