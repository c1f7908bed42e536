/-! what the printed methods use -/
def FU : Nat := 1000000
def dropL : List Bool → LL → LL
  | true :: m, v :: t => v :: dropL m t
  | false :: m, _ :: t => none :: dropL m t
  | _, _ => []
theorem dropL_get : ∀ (m : List Bool) (L : LL) (j : Nat) (v : AV), (dropL m L)[j]? = some (some v) → L[j]? = some (some v) := by
  intro m
  induction m with
  | nil => intro L j v h; simp [dropL] at h
  | cons b m ih =>
    intro L j v h
    cases L with
    | nil => cases b <;> simp [dropL] at h
    | cons a t =>
      cases b <;> cases j with
      | zero => simp [dropL] at h ⊢ <;> exact h
      | succ j => simp only [dropL, List.getElem?_cons_succ] at h ⊢; exact ih t j v h
theorem dropL_len : ∀ (m : List Bool) (L : LL), m.length = L.length → (dropL m L).length = L.length := by
  intro m
  induction m with
  | nil => intro L h; cases L with
    | nil => rfl
    | cons a t => cases h
  | cons b m ih =>
    intro L h
    cases L with
    | nil => cases h
    | cons a t =>
      have h2 : m.length = t.length := by simpa using h
      cases b <;> simp [dropL, ih t h2]
section H7
variable {l : Launch} {X : XC} {mi : MI} {d : Nat} {ρ ρ' : Type} {em : ρ → Option AV × Mem} {em' : ρ' → Option AV × Mem} {n : Nat} {fl : Fl} {E : Option ρ} {pc tgt : Nat} {L : LL} {S : List AV} {w : Mem} {off : Int}
theorem GE_weak (m : List Bool) (h : GE l X mi d em n fl E pc (dropL m L) S w) (hm : m.length = L.length := by rfl) : GE l X mi d em n fl E pc L S w := by
  intro r hr p e s me args below meth c B H locs ls hW hS hl hL oL oS
  refine h r hr p e s me args below meth c B H locs ls hW hS (lv_mono hl (fun q hq => ?_)) ((dropL_len m L hm).trans hL) (fun v hv => ?_) oS
  · obtain ⟨j, v, h1, h2⟩ := (mem_lvP _ 0).mp hq
    exact (mem_lvP _ 0).mpr ⟨j, v, dropL_get m L j v h1, h2⟩
  · obtain ⟨j, hj⟩ := List.getElem?_of_mem hv
    exact oL v (List.mem_of_getElem? (dropL_get m L j v hj))
theorem GE_null0 (hd : decode mi.2.1 pc = .ok (.ifnull off, 3)) (ht : (pc : Int) + off = (tgt : Int)) (f : GE l X mi d em n fl E tgt L S w) : GE l X mi d em n fl E pc L (.inr (.inr none) :: S) w := by
  intro r hr p e s m args below meth c B H locs ls hW hS hl hL oL oS
  exact lv_ifnullN B.1 B.2.1 hd ht (f r hr p e s m args below meth c B H locs ls hW hS hl hL oL (List.forall_mem_cons.mp oS).2)
theorem GE_nonnull0 (hd : decode mi.2.1 pc = .ok (.ifnonnull off, 3)) (f : GE l X mi d em n fl E (pc + 3) L S w) : GE l X mi d em n fl E pc L (.inr (.inr none) :: S) w := by
  intro r hr p e s m args below meth c B H locs ls hW hS hl hL oL oS
  exact lv_ifnonnullN B.1 B.2.1 hd (f r hr p e s m args below meth c B H locs ls hW hS hl hL oL (List.forall_mem_cons.mp oS).2)
theorem GE_callVp {d' idx nn k i maxL : Nat} {y : MethodName} {cc : ByteArray} {ret : Option FieldType} {As : List AV} {r1 : ρ'} (hC : Ct l X d' y cc maxL ret em' (.inr (.inr (some (k, i))) :: As) n fl w (some r1)) (hk : k < 6) (cl : CV mi.1 idx y cc maxL ret nn) (hcls : y.cls = (cC k).1) (hd : decode mi.2.1 pc = .ok (.invokevirtual idx, 3)) (hn : As.length = nn) (hdd : d' < d) (hm : maxL ≤ 45) (hcat : catS S ≤ 8)
    (kk : GE l X mi d em n fl E (pc + 3) L ((em' r1).1.toList ++ S) (em' r1).2) : GE l X mi d em n fl E pc L (As.reverse ++ .inr (.inr (some (k, i))) :: S) w :=
  GE_callV (kf := fun _ => E) (f := some r1) hC hk cl hcls hd hn hdd hm hcat (fun r h => by cases h; exact kk)
theorem GE_callSp {d' idx nn maxL : Nat} {y : MethodName} {cc : ByteArray} {ret : Option FieldType} {As : List AV} {r1 : ρ'} (hC : Ct l X d' y cc maxL ret em' As n fl w (some r1)) (cl : CS mi.1 idx y cc maxL ret nn) (hd : decode mi.2.1 pc = .ok (.invokestatic idx, 3)) (hn : As.length = nn) (hdd : d' < d) (hm : maxL ≤ 45) (hcat : catS S ≤ 8)
    (kk : GE l X mi d em n fl E (pc + 3) L ((em' r1).1.toList ++ S) (em' r1).2) : GE l X mi d em n fl E pc L (As.reverse ++ S) w :=
  GE_callS (kf := fun _ => E) (f := some r1) hC cl hd hn hdd hm hcat (fun r h => by cases h; exact kk)
theorem GE_callNp {d' idx nn maxL : Nat} {y : MethodName} {host : String} {cc : ByteArray} {ret : Option FieldType} {As : List AV} {r1 : ρ'} (hC : Ct l X d' y cc maxL ret em' As n fl w (some r1)) (cl : CN mi.1 host idx y cc maxL ret nn) (hd : decode mi.2.1 pc = .ok (.invokestatic idx, 3)) (hn : As.length = nn) (hdd : d' < d) (hm : maxL ≤ 45) (hcat : catS S ≤ 8)
    (kk : GE l X mi d em n fl E (pc + 3) L ((em' r1).1.toList ++ S) (em' r1).2) : GE l X mi d em n fl E pc L (As.reverse ++ S) w :=
  GE_callN (kf := fun _ => E) (f := some r1) hC cl hd hn hdd hm hcat (fun r h => by cases h; exact kk)
end H7
theorem okAs_nil {n : Nat} : okAs n [] := fun _ h => by cases h
theorem okAs_cons {n : Nat} {a : AV} {t : List AV} (h : okV n a = true) (ht : okAs n t) : okAs n (a :: t) := List.forall_mem_cons.mpr ⟨h, ht⟩
theorem ok_coast_0 {n : Nat} (hn : 39 ≤ n) {i : Nat} (hi : i < 3) : okR n (0, i) = true := okM hn ((by decide +kernel : ∀ i, i < 3 → okR 39 (0, i) = true) i hi)
theorem ok_coast_12 {n : Nat} (hn : 39 ≤ n) {i : Nat} (hi : i < 3) : okR n (12, i) = true := okM hn ((by decide +kernel : ∀ i, i < 3 → okR 39 (12, i) = true) i hi)
theorem ok_coast_13 {n : Nat} (hn : 39 ≤ n) {i : Nat} (hi : i < 3) : okR n (13, i) = true := okM hn ((by decide +kernel : ∀ i, i < 3 → okR 39 (13, i) = true) i hi)
theorem ok_coast_14 {n : Nat} (hn : 39 ≤ n) {i : Nat} (hi : i < 3) : okR n (14, i) = true := okM hn ((by decide +kernel : ∀ i, i < 3 → okR 39 (14, i) = true) i hi)
theorem ok_coast_15 {n : Nat} (hn : 39 ≤ n) {i : Nat} (hi : i < 3) : okR n (15, i) = true := okM hn ((by decide +kernel : ∀ i, i < 3 → okR 39 (15, i) = true) i hi)
theorem ok_coast_16 {n : Nat} (hn : 39 ≤ n) {i : Nat} (hi : i < 3) : okR n (16, i) = true := okM hn ((by decide +kernel : ∀ i, i < 3 → okR 39 (16, i) = true) i hi)
theorem ok_coast_17 {n : Nat} (hn : 39 ≤ n) {i : Nat} (hi : i < 3) : okR n (17, i) = true := okM hn ((by decide +kernel : ∀ i, i < 3 → okR 39 (17, i) = true) i hi)
theorem ok_sheet_2 {n : Nat} (hn : 39 ≤ n) {i : Nat} (hi : i < 4) : okR n (2, i) = true := okM hn ((by decide +kernel : ∀ i, i < 4 → okR 39 (2, i) = true) i hi)
theorem ok_sheet_19 {n : Nat} (hn : 39 ≤ n) {i : Nat} (hi : i < 4) : okR n (19, i) = true := okM hn ((by decide +kernel : ∀ i, i < 4 → okR 39 (19, i) = true) i hi)
theorem cnd_eq (x y : Int32) : cnd .eq x y ↔ x = y := Iff.rfl
theorem cnd_ne (x y : Int32) : cnd .ne x y ↔ ¬ x = y := Iff.rfl
theorem cnd_lt (x y : Int32) : cnd .lt x y ↔ x < y := Iff.rfl
theorem cnd_le (x y : Int32) : cnd .le x y ↔ x ≤ y := Iff.rfl
theorem cnd_ge (x y : Int32) : cnd .ge x y ↔ ¬ x < y := Int32.not_lt.symm
theorem cnd_gt (x y : Int32) : cnd .gt x y ↔ ¬ x ≤ y := Int32.not_le.symm
theorem mik_X0 (cc : ByteArray) (nL : Nat) (ret : Option FieldType) : MIok (RX0, cc, nL, ret, ftp_X0.map (fun q => q.1), ctp_X0.map (fun q => q.1), clp_X0.map (fun q => q.1)) := ⟨ft_X0_ok, ct_X0_ok, cl_X0_ok⟩
theorem mik_X1 (cc : ByteArray) (nL : Nat) (ret : Option FieldType) : MIok (RX1, cc, nL, ret, ftp_X1.map (fun q => q.1), ctp_X1.map (fun q => q.1), clp_X1.map (fun q => q.1)) := ⟨ft_X1_ok, ct_X1_ok, cl_X1_ok⟩
theorem mik_X2 (cc : ByteArray) (nL : Nat) (ret : Option FieldType) : MIok (RX2, cc, nL, ret, ftp_X2.map (fun q => q.1), ctp_X2.map (fun q => q.1), clp_X2.map (fun q => q.1)) := ⟨ft_X2_ok, ct_X2_ok, cl_X2_ok⟩
theorem mik_X3 (cc : ByteArray) (nL : Nat) (ret : Option FieldType) : MIok (RX3, cc, nL, ret, ftp_X3.map (fun q => q.1), ctp_X3.map (fun q => q.1), clp_X3.map (fun q => q.1)) := ⟨ft_X3_ok, ct_X3_ok, cl_X3_ok⟩
theorem mik_X4 (cc : ByteArray) (nL : Nat) (ret : Option FieldType) : MIok (RX4, cc, nL, ret, ftp_X4.map (fun q => q.1), ctp_X4.map (fun q => q.1), clp_X4.map (fun q => q.1)) := ⟨ft_X4_ok, ct_X4_ok, cl_X4_ok⟩
theorem mik_L (cc : ByteArray) (nL : Nat) (ret : Option FieldType) : MIok (RL, cc, nL, ret, ftp_L.map (fun q => q.1), ctp_L.map (fun q => q.1), clp_L.map (fun q => q.1)) := ⟨ft_L_ok, ct_L_ok, cl_L_ok⟩
theorem mik_J13 (cc : ByteArray) (nL : Nat) (ret : Option FieldType) : MIok (RJ13, cc, nL, ret, ftp_J13.map (fun q => q.1), ctp_J13.map (fun q => q.1), clp_J13.map (fun q => q.1)) := ⟨ft_J13_ok, ct_J13_ok, cl_J13_ok⟩
/-- the law's script, as the function that its 'at' is -/
def SAT (X : XC) (q : Int32 → Int32) : Prop := ∃ (L : Nat) (xs : Nat → Int32), L ≤ 260 ∧ va_X X.2.2.2.2 L xs X.2.2.1 X.2.2.1.heap ∧ X.2.2.2.2 < xb X ∧ ¬ AA X X.2.2.2.2 ∧ ∀ k : Nat, k < 2 ^ 31 → q (nI k) = if k < L then xs k else 0
theorem mik_J6 (cc : ByteArray) (nL : Nat) (ret : Option FieldType) : MIok (RJ6, cc, nL, ret, ftp_J6.map (fun q => q.1), ctp_J6.map (fun q => q.1), clp_J6.map (fun q => q.1)) := ⟨ft_J6_ok, ct_J6_ok, cl_J6_ok⟩
def rowF (s : Int32) : Option Nat := if 0 ≤ s then (if s < 4 then some (tn s) else none) else none
theorem rowF_lt {s : Int32} {z : Nat} (h : rowF s = some z) : z < 4 := by
  unfold rowF at h
  split at h
  · split at h
    · rename_i h1 h2
      cases h
      have h3 := Int32.lt_iff_toInt_lt.mp h2
      have h4 : (4 : Int32).toInt = 4 := rfl
      show s.toInt.toNat < 4
      omega
    · cases h
  · cases h
def lkE {ρ : Type} (x : Int32) : List (Int × Option ρ) → Option ρ → Option ρ
  | [], d => d
  | (a, e) :: r, d => if x = Int32.ofInt a then e else lkE x r d
def lkAll {ρ : Type} (x : Int32) (F : Option ρ → Nat → Prop) : List (Int × Option ρ) → List Nat → Prop
  | [], [] => True
  | (a, e) :: r, t :: ts => (x = Int32.ofInt a → F e t) ∧ lkAll x F r ts
  | _, _ => False
def lkT (pc : Nat) : List (Int × Int) → List Int → List Nat → Bool
  | [], [], [] => true
  | (a, o) :: ps, b :: bs, t :: ts => (decide (a = b) && decide ((pc : Int) + o = (t : Int))) && ((decide (-2147483648 ≤ a) && decide (a < 2147483648)) && lkT pc ps bs ts)
  | _, _, _ => false
section LKs
variable {l : Launch} {X : XC} {mi : MI} {d : Nat} {ρ : Type} {em : ρ → Option AV × Mem} {n : Nat} {fl : Fl} {Ed : Option ρ} {pc dt len : Nat} {L : LL} {S : List AV} {w : Mem} {x : Int32}
theorem lkE_at {F : Option ρ → Nat → Prop} {dflt : Int} (h0 : (pc : Int) + dflt = (dt : Int)) (hd : F Ed dt) : ∀ (ps : List (Int × Int)) (es : List (Int × Option ρ)) (ts : List Nat), lkT pc ps (es.map fun q => q.1) ts = true → lkAll x F es ts → ∃ t : Nat, (pc : Int) + Op.lookupswitch.offset ps dflt x.toInt = (t : Int) ∧ F (lkE x es Ed) t := by
  intro ps
  induction ps with
  | nil =>
    intro es ts h1 h2
    cases es with
    | cons e es => cases ts <;> simp [lkT] at h1
    | nil =>
      cases ts with
      | cons t ts => simp [lkT] at h1
      | nil => exact ⟨dt, by rw [Op.lookupswitch.offset_nil]; exact h0, hd⟩
  | cons q ps ih =>
    intro es ts h1 h2
    obtain ⟨a, o⟩ := q
    cases es with
    | nil => cases ts <;> simp [lkT] at h1
    | cons e es =>
      obtain ⟨b, e⟩ := e
      cases ts with
      | nil => simp [lkT] at h1
      | cons t ts =>
        simp only [lkT, List.map_cons, Bool.and_eq_true, decide_eq_true_eq] at h1
        obtain ⟨⟨rfl, h3⟩, ⟨h4, h5⟩, h6⟩ := h1
        obtain ⟨h7, h8⟩ := h2
        have h9 := ofInt_toInt (a := a) h4 h5
        unfold lkE
        by_cases hx : x = Int32.ofInt a
        · rw [if_pos hx]
          refine ⟨t, ?_, h7 hx⟩
          rw [Op.lookupswitch.offset_cons, if_pos (by rw [hx, h9])]
          exact h3
        · rw [if_neg hx, lv_osw hx h9]
          exact ih es ts h6 h8
theorem GE_lk {dflt : Int} {ps : Array (Int × Int)} {es : List (Int × Option ρ)} (ts : List Nat) (hd : decode mi.2.1 pc = .ok (.lookupswitch dflt ps, len)) (hp : (ps.toList.zip (ps.toList.drop 1)).all (fun (a, next) => a.1 < next.1) = true) (h0 : (pc : Int) + dflt = (dt : Int)) (hb : lkT pc ps.toList (es.map fun q => q.1) ts = true)
    (hc : lkAll x (fun e t => GE l X mi d em n fl e t L S w) es ts) (hde : GE l X mi d em n fl Ed dt L S w) : GE l X mi d em n fl (lkE x es Ed) pc L (.inl x :: S) w := by
  obtain ⟨t, h1, h2⟩ := lkE_at h0 hde ps.toList es ts hb hc
  intro r hr p e s m args below meth c B H locs ls hW hS hl hL oL oS
  exact lv_lookup B.1 B.2.1 hd hp rfl h1 (h2 r hr p e s m args below meth c B H locs ls hW hS hl hL oL (List.forall_mem_cons.mp oS).2)
end LKs
theorem mik_J9 (cc : ByteArray) (nL : Nat) (ret : Option FieldType) : MIok (RJ9, cc, nL, ret, [], [], []) := ⟨fun _ h => (List.not_mem_nil h).elim, fun _ h => (List.not_mem_nil h).elim, fun _ h => (List.not_mem_nil h).elim⟩
theorem GE_swm {l : Launch} {X : XC} {mi : MI} {d : Nat} {ρ : Type} {em : ρ → Option AV × Mem} {n : Nat} {fl : Fl} {Ed : Option ρ} {pc dt len mm : Nat} {L : LL} {S : List AV} {w : Mem} {x : Int32} {dflt lo hi : Int} {offs : Array Int} {es : List (Option ρ)} (ts : List Nat) (hd : decode mi.2.1 pc = .ok (.tableswitch dflt lo hi offs, len)) (hm : es.length = mm) (hb : (decide (-2147483648 ≤ lo ∧ lo + mm ≤ 2147483648 ∧ hi + 1 = lo + mm ∧ (pc : Int) + dflt = (dt : Int)) && swT pc offs.toList ts) = true)
    (hc : swAll x (fun e t => GE l X mi d em n fl e t L S w) lo es ts) (hde : GE l X mi d em n fl Ed dt L S w) : GE l X mi d em n fl (swE x lo es Ed) pc L (.inl x :: S) w := by
  subst hm
  exact GE_sw ts hd hb hc hde
/-! calls by what they answer -/
section CALLK
variable {l : Launch} {X : XC} {mi : MI} {d : Nat} {ρ : Type} {em : ρ → Option AV × Mem} {n : Nat} {fl : Fl} {E : Option ρ} {pc : Nat} {L : LL} {S : List AV} {w : Mem}
theorem GE_callVI {d' idx nn maxL : Nat} {k i : Nat} {y : MethodName} {cc : ByteArray} {ret : Option FieldType} {As : List AV} {f : Option (Int32 × Mem)} {kf : Int32 × Mem → Option ρ} (hC : Ct l X d' y cc maxL ret emI (.inr (.inr (some (k, i))) :: As) n fl w f) (hk : k < 6) (cl : CV mi.1 idx y cc maxL ret nn) (hcls : y.cls = (cC k).1) (hd : decode mi.2.1 pc = .ok (.invokevirtual idx, 3)) (hn : As.length = nn) (hdd : d' < d) (hm : maxL ≤ 45) (hcat : catS S ≤ 8) (kk : ∀ r, f = some r → GE l X mi d em n fl (kf r) (pc + 3) L (.inl r.1 :: S) r.2) : GE l X mi d em n fl (f.bind kf) pc L (As.reverse ++ .inr (.inr (some (k, i))) :: S) w := GE_callV hC hk cl hcls hd hn hdd hm hcat kk
theorem GE_callVIp {d' idx nn maxL : Nat} {k i : Nat} {y : MethodName} {cc : ByteArray} {ret : Option FieldType} {As : List AV} {v : Int32} {w2 : Mem} (hC : Ct l X d' y cc maxL ret emI (.inr (.inr (some (k, i))) :: As) n fl w (some (v, w2))) (hk : k < 6) (cl : CV mi.1 idx y cc maxL ret nn) (hcls : y.cls = (cC k).1) (hd : decode mi.2.1 pc = .ok (.invokevirtual idx, 3)) (hn : As.length = nn) (hdd : d' < d) (hm : maxL ≤ 45) (hcat : catS S ≤ 8) (kk : GE l X mi d em n fl E (pc + 3) L (.inl v :: S) w2) : GE l X mi d em n fl E pc L (As.reverse ++ .inr (.inr (some (k, i))) :: S) w := GE_callVp hC hk cl hcls hd hn hdd hm hcat kk
theorem GE_callVL {d' idx nn maxL : Nat} {k i : Nat} {y : MethodName} {cc : ByteArray} {ret : Option FieldType} {As : List AV} {f : Option (Int64 × Mem)} {kf : Int64 × Mem → Option ρ} (hC : Ct l X d' y cc maxL ret emL (.inr (.inr (some (k, i))) :: As) n fl w f) (hk : k < 6) (cl : CV mi.1 idx y cc maxL ret nn) (hcls : y.cls = (cC k).1) (hd : decode mi.2.1 pc = .ok (.invokevirtual idx, 3)) (hn : As.length = nn) (hdd : d' < d) (hm : maxL ≤ 45) (hcat : catS S ≤ 8) (kk : ∀ r, f = some r → GE l X mi d em n fl (kf r) (pc + 3) L (.inr (.inl r.1) :: S) r.2) : GE l X mi d em n fl (f.bind kf) pc L (As.reverse ++ .inr (.inr (some (k, i))) :: S) w := GE_callV hC hk cl hcls hd hn hdd hm hcat kk
theorem GE_callVLp {d' idx nn maxL : Nat} {k i : Nat} {y : MethodName} {cc : ByteArray} {ret : Option FieldType} {As : List AV} {v : Int64} {w2 : Mem} (hC : Ct l X d' y cc maxL ret emL (.inr (.inr (some (k, i))) :: As) n fl w (some (v, w2))) (hk : k < 6) (cl : CV mi.1 idx y cc maxL ret nn) (hcls : y.cls = (cC k).1) (hd : decode mi.2.1 pc = .ok (.invokevirtual idx, 3)) (hn : As.length = nn) (hdd : d' < d) (hm : maxL ≤ 45) (hcat : catS S ≤ 8) (kk : GE l X mi d em n fl E (pc + 3) L (.inr (.inl v) :: S) w2) : GE l X mi d em n fl E pc L (As.reverse ++ .inr (.inr (some (k, i))) :: S) w := GE_callVp hC hk cl hcls hd hn hdd hm hcat kk
theorem GE_callVA {d' idx nn maxL : Nat} {k i : Nat} {y : MethodName} {cc : ByteArray} {ret : Option FieldType} {As : List AV} {f : Option (Option (Nat × Nat) × Mem)} {kf : Option (Nat × Nat) × Mem → Option ρ} (hC : Ct l X d' y cc maxL ret emA (.inr (.inr (some (k, i))) :: As) n fl w f) (hk : k < 6) (cl : CV mi.1 idx y cc maxL ret nn) (hcls : y.cls = (cC k).1) (hd : decode mi.2.1 pc = .ok (.invokevirtual idx, 3)) (hn : As.length = nn) (hdd : d' < d) (hm : maxL ≤ 45) (hcat : catS S ≤ 8) (kk : ∀ r, f = some r → GE l X mi d em n fl (kf r) (pc + 3) L (.inr (.inr r.1) :: S) r.2) : GE l X mi d em n fl (f.bind kf) pc L (As.reverse ++ .inr (.inr (some (k, i))) :: S) w := GE_callV hC hk cl hcls hd hn hdd hm hcat kk
theorem GE_callVAp {d' idx nn maxL : Nat} {k i : Nat} {y : MethodName} {cc : ByteArray} {ret : Option FieldType} {As : List AV} {v : Option (Nat × Nat)} {w2 : Mem} (hC : Ct l X d' y cc maxL ret emA (.inr (.inr (some (k, i))) :: As) n fl w (some (v, w2))) (hk : k < 6) (cl : CV mi.1 idx y cc maxL ret nn) (hcls : y.cls = (cC k).1) (hd : decode mi.2.1 pc = .ok (.invokevirtual idx, 3)) (hn : As.length = nn) (hdd : d' < d) (hm : maxL ≤ 45) (hcat : catS S ≤ 8) (kk : GE l X mi d em n fl E (pc + 3) L (.inr (.inr v) :: S) w2) : GE l X mi d em n fl E pc L (As.reverse ++ .inr (.inr (some (k, i))) :: S) w := GE_callVp hC hk cl hcls hd hn hdd hm hcat kk
theorem GE_callVV {d' idx nn maxL : Nat} {k i : Nat} {y : MethodName} {cc : ByteArray} {ret : Option FieldType} {As : List AV} {f : Option (Mem)} {kf : Mem → Option ρ} (hC : Ct l X d' y cc maxL ret emV (.inr (.inr (some (k, i))) :: As) n fl w f) (hk : k < 6) (cl : CV mi.1 idx y cc maxL ret nn) (hcls : y.cls = (cC k).1) (hd : decode mi.2.1 pc = .ok (.invokevirtual idx, 3)) (hn : As.length = nn) (hdd : d' < d) (hm : maxL ≤ 45) (hcat : catS S ≤ 8) (kk : ∀ r, f = some r → GE l X mi d em n fl (kf r) (pc + 3) L S r) : GE l X mi d em n fl (f.bind kf) pc L (As.reverse ++ .inr (.inr (some (k, i))) :: S) w := GE_callV hC hk cl hcls hd hn hdd hm hcat kk
theorem GE_callVVp {d' idx nn maxL : Nat} {k i : Nat} {y : MethodName} {cc : ByteArray} {ret : Option FieldType} {As : List AV} {w2 : Mem} (hC : Ct l X d' y cc maxL ret emV (.inr (.inr (some (k, i))) :: As) n fl w (some w2)) (hk : k < 6) (cl : CV mi.1 idx y cc maxL ret nn) (hcls : y.cls = (cC k).1) (hd : decode mi.2.1 pc = .ok (.invokevirtual idx, 3)) (hn : As.length = nn) (hdd : d' < d) (hm : maxL ≤ 45) (hcat : catS S ≤ 8) (kk : GE l X mi d em n fl E (pc + 3) L S w2) : GE l X mi d em n fl E pc L (As.reverse ++ .inr (.inr (some (k, i))) :: S) w := GE_callVp hC hk cl hcls hd hn hdd hm hcat kk
theorem GE_callSI {d' idx nn maxL : Nat} {y : MethodName} {cc : ByteArray} {ret : Option FieldType} {As : List AV} {f : Option (Int32 × Mem)} {kf : Int32 × Mem → Option ρ} (hC : Ct l X d' y cc maxL ret emI As n fl w f) (cl : CS mi.1 idx y cc maxL ret nn) (hd : decode mi.2.1 pc = .ok (.invokestatic idx, 3)) (hn : As.length = nn) (hdd : d' < d) (hm : maxL ≤ 45) (hcat : catS S ≤ 8) (kk : ∀ r, f = some r → GE l X mi d em n fl (kf r) (pc + 3) L (.inl r.1 :: S) r.2) : GE l X mi d em n fl (f.bind kf) pc L (As.reverse ++ S) w := GE_callS hC cl hd hn hdd hm hcat kk
theorem GE_callSIp {d' idx nn maxL : Nat} {y : MethodName} {cc : ByteArray} {ret : Option FieldType} {As : List AV} {v : Int32} {w2 : Mem} (hC : Ct l X d' y cc maxL ret emI As n fl w (some (v, w2))) (cl : CS mi.1 idx y cc maxL ret nn) (hd : decode mi.2.1 pc = .ok (.invokestatic idx, 3)) (hn : As.length = nn) (hdd : d' < d) (hm : maxL ≤ 45) (hcat : catS S ≤ 8) (kk : GE l X mi d em n fl E (pc + 3) L (.inl v :: S) w2) : GE l X mi d em n fl E pc L (As.reverse ++ S) w := GE_callSp hC cl hd hn hdd hm hcat kk
theorem GE_callSL {d' idx nn maxL : Nat} {y : MethodName} {cc : ByteArray} {ret : Option FieldType} {As : List AV} {f : Option (Int64 × Mem)} {kf : Int64 × Mem → Option ρ} (hC : Ct l X d' y cc maxL ret emL As n fl w f) (cl : CS mi.1 idx y cc maxL ret nn) (hd : decode mi.2.1 pc = .ok (.invokestatic idx, 3)) (hn : As.length = nn) (hdd : d' < d) (hm : maxL ≤ 45) (hcat : catS S ≤ 8) (kk : ∀ r, f = some r → GE l X mi d em n fl (kf r) (pc + 3) L (.inr (.inl r.1) :: S) r.2) : GE l X mi d em n fl (f.bind kf) pc L (As.reverse ++ S) w := GE_callS hC cl hd hn hdd hm hcat kk
theorem GE_callSLp {d' idx nn maxL : Nat} {y : MethodName} {cc : ByteArray} {ret : Option FieldType} {As : List AV} {v : Int64} {w2 : Mem} (hC : Ct l X d' y cc maxL ret emL As n fl w (some (v, w2))) (cl : CS mi.1 idx y cc maxL ret nn) (hd : decode mi.2.1 pc = .ok (.invokestatic idx, 3)) (hn : As.length = nn) (hdd : d' < d) (hm : maxL ≤ 45) (hcat : catS S ≤ 8) (kk : GE l X mi d em n fl E (pc + 3) L (.inr (.inl v) :: S) w2) : GE l X mi d em n fl E pc L (As.reverse ++ S) w := GE_callSp hC cl hd hn hdd hm hcat kk
theorem GE_callSA {d' idx nn maxL : Nat} {y : MethodName} {cc : ByteArray} {ret : Option FieldType} {As : List AV} {f : Option (Option (Nat × Nat) × Mem)} {kf : Option (Nat × Nat) × Mem → Option ρ} (hC : Ct l X d' y cc maxL ret emA As n fl w f) (cl : CS mi.1 idx y cc maxL ret nn) (hd : decode mi.2.1 pc = .ok (.invokestatic idx, 3)) (hn : As.length = nn) (hdd : d' < d) (hm : maxL ≤ 45) (hcat : catS S ≤ 8) (kk : ∀ r, f = some r → GE l X mi d em n fl (kf r) (pc + 3) L (.inr (.inr r.1) :: S) r.2) : GE l X mi d em n fl (f.bind kf) pc L (As.reverse ++ S) w := GE_callS hC cl hd hn hdd hm hcat kk
theorem GE_callSAp {d' idx nn maxL : Nat} {y : MethodName} {cc : ByteArray} {ret : Option FieldType} {As : List AV} {v : Option (Nat × Nat)} {w2 : Mem} (hC : Ct l X d' y cc maxL ret emA As n fl w (some (v, w2))) (cl : CS mi.1 idx y cc maxL ret nn) (hd : decode mi.2.1 pc = .ok (.invokestatic idx, 3)) (hn : As.length = nn) (hdd : d' < d) (hm : maxL ≤ 45) (hcat : catS S ≤ 8) (kk : GE l X mi d em n fl E (pc + 3) L (.inr (.inr v) :: S) w2) : GE l X mi d em n fl E pc L (As.reverse ++ S) w := GE_callSp hC cl hd hn hdd hm hcat kk
theorem GE_callSV {d' idx nn maxL : Nat} {y : MethodName} {cc : ByteArray} {ret : Option FieldType} {As : List AV} {f : Option (Mem)} {kf : Mem → Option ρ} (hC : Ct l X d' y cc maxL ret emV As n fl w f) (cl : CS mi.1 idx y cc maxL ret nn) (hd : decode mi.2.1 pc = .ok (.invokestatic idx, 3)) (hn : As.length = nn) (hdd : d' < d) (hm : maxL ≤ 45) (hcat : catS S ≤ 8) (kk : ∀ r, f = some r → GE l X mi d em n fl (kf r) (pc + 3) L S r) : GE l X mi d em n fl (f.bind kf) pc L (As.reverse ++ S) w := GE_callS hC cl hd hn hdd hm hcat kk
theorem GE_callSVp {d' idx nn maxL : Nat} {y : MethodName} {cc : ByteArray} {ret : Option FieldType} {As : List AV} {w2 : Mem} (hC : Ct l X d' y cc maxL ret emV As n fl w (some w2)) (cl : CS mi.1 idx y cc maxL ret nn) (hd : decode mi.2.1 pc = .ok (.invokestatic idx, 3)) (hn : As.length = nn) (hdd : d' < d) (hm : maxL ≤ 45) (hcat : catS S ≤ 8) (kk : GE l X mi d em n fl E (pc + 3) L S w2) : GE l X mi d em n fl E pc L (As.reverse ++ S) w := GE_callSp hC cl hd hn hdd hm hcat kk
theorem GE_callNI {d' idx nn maxL : Nat} {y : MethodName} {host : String} {cc : ByteArray} {ret : Option FieldType} {As : List AV} {f : Option (Int32 × Mem)} {kf : Int32 × Mem → Option ρ} (hC : Ct l X d' y cc maxL ret emI As n fl w f) (cl : CN mi.1 host idx y cc maxL ret nn) (hd : decode mi.2.1 pc = .ok (.invokestatic idx, 3)) (hn : As.length = nn) (hdd : d' < d) (hm : maxL ≤ 45) (hcat : catS S ≤ 8) (kk : ∀ r, f = some r → GE l X mi d em n fl (kf r) (pc + 3) L (.inl r.1 :: S) r.2) : GE l X mi d em n fl (f.bind kf) pc L (As.reverse ++ S) w := GE_callN hC cl hd hn hdd hm hcat kk
theorem GE_callNIp {d' idx nn maxL : Nat} {y : MethodName} {host : String} {cc : ByteArray} {ret : Option FieldType} {As : List AV} {v : Int32} {w2 : Mem} (hC : Ct l X d' y cc maxL ret emI As n fl w (some (v, w2))) (cl : CN mi.1 host idx y cc maxL ret nn) (hd : decode mi.2.1 pc = .ok (.invokestatic idx, 3)) (hn : As.length = nn) (hdd : d' < d) (hm : maxL ≤ 45) (hcat : catS S ≤ 8) (kk : GE l X mi d em n fl E (pc + 3) L (.inl v :: S) w2) : GE l X mi d em n fl E pc L (As.reverse ++ S) w := GE_callNp hC cl hd hn hdd hm hcat kk
theorem GE_callNL {d' idx nn maxL : Nat} {y : MethodName} {host : String} {cc : ByteArray} {ret : Option FieldType} {As : List AV} {f : Option (Int64 × Mem)} {kf : Int64 × Mem → Option ρ} (hC : Ct l X d' y cc maxL ret emL As n fl w f) (cl : CN mi.1 host idx y cc maxL ret nn) (hd : decode mi.2.1 pc = .ok (.invokestatic idx, 3)) (hn : As.length = nn) (hdd : d' < d) (hm : maxL ≤ 45) (hcat : catS S ≤ 8) (kk : ∀ r, f = some r → GE l X mi d em n fl (kf r) (pc + 3) L (.inr (.inl r.1) :: S) r.2) : GE l X mi d em n fl (f.bind kf) pc L (As.reverse ++ S) w := GE_callN hC cl hd hn hdd hm hcat kk
theorem GE_callNLp {d' idx nn maxL : Nat} {y : MethodName} {host : String} {cc : ByteArray} {ret : Option FieldType} {As : List AV} {v : Int64} {w2 : Mem} (hC : Ct l X d' y cc maxL ret emL As n fl w (some (v, w2))) (cl : CN mi.1 host idx y cc maxL ret nn) (hd : decode mi.2.1 pc = .ok (.invokestatic idx, 3)) (hn : As.length = nn) (hdd : d' < d) (hm : maxL ≤ 45) (hcat : catS S ≤ 8) (kk : GE l X mi d em n fl E (pc + 3) L (.inr (.inl v) :: S) w2) : GE l X mi d em n fl E pc L (As.reverse ++ S) w := GE_callNp hC cl hd hn hdd hm hcat kk
theorem GE_callNA {d' idx nn maxL : Nat} {y : MethodName} {host : String} {cc : ByteArray} {ret : Option FieldType} {As : List AV} {f : Option (Option (Nat × Nat) × Mem)} {kf : Option (Nat × Nat) × Mem → Option ρ} (hC : Ct l X d' y cc maxL ret emA As n fl w f) (cl : CN mi.1 host idx y cc maxL ret nn) (hd : decode mi.2.1 pc = .ok (.invokestatic idx, 3)) (hn : As.length = nn) (hdd : d' < d) (hm : maxL ≤ 45) (hcat : catS S ≤ 8) (kk : ∀ r, f = some r → GE l X mi d em n fl (kf r) (pc + 3) L (.inr (.inr r.1) :: S) r.2) : GE l X mi d em n fl (f.bind kf) pc L (As.reverse ++ S) w := GE_callN hC cl hd hn hdd hm hcat kk
theorem GE_callNAp {d' idx nn maxL : Nat} {y : MethodName} {host : String} {cc : ByteArray} {ret : Option FieldType} {As : List AV} {v : Option (Nat × Nat)} {w2 : Mem} (hC : Ct l X d' y cc maxL ret emA As n fl w (some (v, w2))) (cl : CN mi.1 host idx y cc maxL ret nn) (hd : decode mi.2.1 pc = .ok (.invokestatic idx, 3)) (hn : As.length = nn) (hdd : d' < d) (hm : maxL ≤ 45) (hcat : catS S ≤ 8) (kk : GE l X mi d em n fl E (pc + 3) L (.inr (.inr v) :: S) w2) : GE l X mi d em n fl E pc L (As.reverse ++ S) w := GE_callNp hC cl hd hn hdd hm hcat kk
theorem GE_callNV {d' idx nn maxL : Nat} {y : MethodName} {host : String} {cc : ByteArray} {ret : Option FieldType} {As : List AV} {f : Option (Mem)} {kf : Mem → Option ρ} (hC : Ct l X d' y cc maxL ret emV As n fl w f) (cl : CN mi.1 host idx y cc maxL ret nn) (hd : decode mi.2.1 pc = .ok (.invokestatic idx, 3)) (hn : As.length = nn) (hdd : d' < d) (hm : maxL ≤ 45) (hcat : catS S ≤ 8) (kk : ∀ r, f = some r → GE l X mi d em n fl (kf r) (pc + 3) L S r) : GE l X mi d em n fl (f.bind kf) pc L (As.reverse ++ S) w := GE_callN hC cl hd hn hdd hm hcat kk
theorem GE_callNVp {d' idx nn maxL : Nat} {y : MethodName} {host : String} {cc : ByteArray} {ret : Option FieldType} {As : List AV} {w2 : Mem} (hC : Ct l X d' y cc maxL ret emV As n fl w (some w2)) (cl : CN mi.1 host idx y cc maxL ret nn) (hd : decode mi.2.1 pc = .ok (.invokestatic idx, 3)) (hn : As.length = nn) (hdd : d' < d) (hm : maxL ≤ 45) (hcat : catS S ≤ 8) (kk : GE l X mi d em n fl E (pc + 3) L S w2) : GE l X mi d em n fl E pc L (As.reverse ++ S) w := GE_callNp hC cl hd hn hdd hm hcat kk
end CALLK
