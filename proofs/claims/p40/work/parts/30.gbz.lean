/-! private methods of the builder's super class; a call with the heap held fast -/
theorem selects_priv {y : MethodName} {s : State} {args : Array Value} {C : String} {c0 : ClassId} (hy : y.cls ≠ "java/lang/invoke/MethodHandle" ∧ y.cls ≠ "java/lang/invoke/VarHandle") (hc : s.vm.findClass C = some c0)
    (hsm : (Cond.sameMethod y.cls y.cls y.name y.desc).before args s = true) (hpriv : s.PrivateAt y) (hinst : (Cond.instanceMethod y).before args s = true) :
    (Cond.selects C y y).before args s = true := by
  obtain ⟨mk, methM, hnamed, hmethM, -, -⟩ := Cond.instanceMethod_spec hinst
  obtain ⟨cn, ck, r1, hcn, hck, hni, hf, hn1⟩ := Cond.sameMethod_found hsm
  have hfound : s.methodFound? y.cls y.name y.desc = some mk := State.methodFound?_of_named hnamed hy
  have hcls : mk.cls = cn := Option.some.inj ((findClass_of_methodNamed hnamed).symm.trans hcn)
  have hsel : selectMethod {} s.vm c0 mk = .method mk := selectMethod_private hmethM (hpriv mk methM hnamed hmethM)
  simp only [Cond.before, Cond.holds, Cond.value, hc, hfound, hnamed, hsel, hcls, hck]
  simp; exact hni
theorem priv_moved {u U : State} {y : MethodName} (hvm : u.vm.Alike U.vm) (h : u.PrivateAt y) : U.PrivateAt y := by
  intro mk meth h1 h2
  refine h mk meth ?_ ?_
  · rw [← State.methodNamed?_setVm hvm y]; exact h1
  · rw [← hvm.method? mk]; exact h2
/-- a state with another heap -/
def fz (X : XC) (H : Heap) : XC := (X.1, X.2.1, { X.2.2.1 with heap := H }, X.2.2.2)
/-- another pool -/
def rp (X : XC) (pl : Nat → Nat) : XC := (X.1, X.2.1, X.2.2.1, pl, X.2.2.2.2)
theorem cv_fz (X : XC) (H : Heap) : cv (fz X H) = cv X := by
  funext v
  rcases v with x | x | _ | q <;> rfl
theorem fz_vm (X : XC) (H : Heap) : X.2.2.1.vm.Alike (fz X H).2.2.1.vm := Vm.Alike.refl _
theorem fz_aa {X : XC} {H : Heap} (h : xb X ≤ H.size) : ∀ q, AA (fz X H) q → AA X q := by
  intro q hq
  rcases hq with h1 | h1
  · exact Or.inl h1
  · exact Or.inr (Nat.le_trans h h1)
theorem XOK_fz {X : XC} {H : Heap} (hX : XOK X) (hk : KpY X H) : XOK (fz X H) := by
  have hq : ∀ a : Nat, a < X.2.2.1.heap.size → ¬ AA X a → H[a]? = X.2.2.1.heap[a]? := fun a h1 h2 => hk.2 a h1 h2
  have ha := fz_aa hk.1
  refine ⟨hX.1.moved (fz_vm X H), ((hX.2.1.moved (fz_vm X H)).kept hq).narrow ha, ((hX.2.2.1.moved (fz_vm X H)).kept hq).narrow ha, ?_⟩
  rcases hX.2.2.2 with h | h
  · exact Or.inl (((h.moved (fz_vm X H)).kept hq).narrow ha)
  · exact Or.inr (((h.moved (fz_vm X H)).kept hq).narrow ha)
theorem XB_fz {X : XC} {Y : YC} {H : Heap} (hX : XB X Y) (hk : KpY X H) : XB (fz X H) Y := ⟨XOK_fz hX.1 hk, hX.2.1.moved (fz_vm X H), hX.2.2⟩
theorem va_T.fz {X : XC} {H : Heap} {t N : Nat} {f : Nat → Value} (hk : KpY X H) (h : va_T .byte t N f (AA X) X.2.2.1 X.2.2.1.heap) : va_T .byte t N f (AA (fz X H)) (fz X H).2.2.1 (fz X H).2.2.1.heap :=
  ((h.moved (fz_vm X H)).kept (fun a h1 h2 => hk.2 a h1 h2)).narrow (fz_aa hk.1)
/-- a row of bytes of the world, seen as an old one -/
theorem own_T {X : XC} {Y : YC} {H : Heap} {ws : va_W} {q0 a n : Nat} {f : Nat → Int32} (hX : XB X Y) (hxb : xc X + 39 ≤ xb X ∨ True) (hP : va_P Y.1 cl2 ws H) (hD : va_D (AY X) ws) (hca : ¬ (xc X ≤ a ∧ a < xc X + 39)) (he : ws[q0]? = some (a, .inl (Y.2, n, .inl f))) : va_T .byte a n (fun j => .int (f j)) (AA (fz X H)) (fz X H).2.2.1 (fz X H).2.2.1.heap := by
  have hc : H[a]? = some (arrV Y.2 n (fun j => .int (f j))) := hP q0 _ he
  refine ⟨_, hc, ?_, (fun e => by cases e), ?_, ?_, ?_, ?_⟩
  · exact (((hX.2.1.moved (fz_vm X H)).2 0 _ rfl).1 n (fun j => .int (f j)))
  · rw [arrV_size]; exact Nat.le_refl _
  · rw [arrV_size]
  · intro j hj; rw [arrV_read _ _ hj]
  · intro h
    rcases h with h | h
    · exact hca h
    · exact absurd (Array.getElem?_eq_some_iff.mp hc).1 (Nat.not_lt.mpr h)
section GBz
variable {l : Launch} {X : XC} {Y : YC} {mi : MI} {p : Program} {e : Env} {R : Room} {s : State} {m : MethodId} {args : Array Value} {below : List Frame} {meth : Method} {c : Code} {ce sl : Nat} {Q : State → Prop} {pc pc1 : Nat} {L L1 : LL} {S S1 : List AV} {ws : va_W}
/-- a private method -/
theorem GB_callP {d mc ms idx nn q0 a : Nat} {fs : List Value} {y : MethodName} {cc : ByteArray} {maxL : Nat} {ret : Option FieldType} {As : List AV} {Qy : Option AV → va_W → Prop} (B : BB X Y mi p s m args meth c) (he : ws[q0]? = some (a, .inr (0, fs)))
    (hM : MtB l X Y d y cc maxL ret (rf a :: As) mc ms ws Qy) (me : meOK y cc maxL ret nn) (hin : Cond.instanceMethod y ∈ lw_tbl) (hpr : Cond.privateMethod y ∈ lw_tbl) (hlk : Cond.methodLink mi.1 idx y ∈ lw_tbl) (hsm : Cond.sameMethod y.cls y.cls y.name y.desc ∈ lw_tbl) (hd : decode mi.2.1 pc = .ok (.invokevirtual idx, 3)) (hn : As.length = nn)
    (hR : d + 1 ≤ R.frames ∧ 8 + (maxL + 11) + 64 * d ≤ R.locals) (hf : ce + mc ≤ R.cells ∧ sl + ms ≤ R.slots) (hcat : catS S ≤ 8)
    (kk : ∀ (v : Option AV) (ws1 : va_W), Qy v ws1 → GB l X Y mi p e R s m args below meth c (ce + mc) (sl + ms) Q (pc + 3) L (v.toList ++ S) ws1) : GB l X Y mi p e R s m args below meth c ce sl Q pc L (As.reverse ++ rf a :: S) ws := by
  refine GB_call (Qy := Qy) (a := (Value.ref a :: As.map (cv X)).toArray) (fun H locs ls hP hD hS hl => ?_) kk
  have hpa := PcB_at B (As := rf a :: As) hP hD hS
  rw [List.map_cons, B.rf] at hpa
  have hrc := own_recv B hP he rfl
  have hsel : (Cond.selects RJ4 y y).before args s = true := by
    obtain ⟨cell, -, -, h3⟩ := hrc
    exact selects_priv ⟨me.2.2.2.1, me.2.2.2.2.1⟩ h3 (B.1.hw hsm rfl) (priv_moved B.1.2.2.2.2.2.2.2.1 (B.2.2.2.2 y hpr)) (B.1.hw hin rfl)
  have hcw : va_CU R s args mi.1 RJ4 y.cls idx y y cc maxL ret (wsM y cc maxL ret) (rmD d mc ms) mc ms nn := by
    refine ⟨⟨rfl, rfl, hR.1, hR.2, pay_in B.1.2.2.2.2.1 (wsB_in me), List.mem_cons_self⟩, B.1.hw me.1 rfl, B.1.hw me.2.1 rfl, ⟨me.2.2.2.1, me.2.2.2.2.1⟩, fun sig h => ?_, B.1.hw hlk rfl, B.1.hw hsm rfl, va_Decl.of (B.1.hw hin rfl) (B.1.hw me.1 rfl), hsel, B.1.hw hin rfl⟩
    have h2 := me.2.2.2.2.2
    rw [h] at h2
    exact (Option.some.inj h2).symm
  exact va_runU (own := mi.1) (C := RJ4) (owner := y.cls) (x := y) (Ts := gtb) (n := nn) ⟨B.1.1, B.1.2.1, B.1.2.2.1, B.1.2.2.2.1, B.1.2.2.2.2.1⟩ hM hcw ⟨PcB_blind, hrc, hpa⟩ rfl (by rw [List.length_map]; exact hn) hl.1 (by simp [B.rf]) (lv_room (catS_ok hcat)) hd hf
/-- a static method that makes cells and changes none -/
theorem GB_callZ {d mc ms idx nn : Nat} {y : MethodName} {cc : ByteArray} {maxL : Nat} {ret : Option FieldType} {As : List AV} {Qy : Option AV → va_W → Prop} (B : BB X Y mi p s m args meth c)
    (hM : ∀ H : Heap, va_P Y.1 cl2 ws H → va_D (AY X) ws → KpY X H → MtB l (fz X H) Y d y cc maxL ret As mc ms [] Qy) (cl : CS mi.1 idx y cc maxL ret nn) (hd : decode mi.2.1 pc = .ok (.invokestatic idx, 3)) (hn : As.length = nn)
    (hR : d + 1 ≤ R.frames ∧ 8 + (maxL + 11) + 64 * d ≤ R.locals) (hf : ce + mc ≤ R.cells ∧ sl + ms ≤ R.slots) (hcat : catS S ≤ 8)
    (kk : ∀ (v : Option AV) (ws1 : va_W), Qy v ws1 → GB l X Y mi p e R s m args below meth c (ce + mc) (sl + ms) Q (pc + 3) L (v.toList ++ S) (ws ++ ws1)) : GB l X Y mi p e R s m args below meth c ce sl Q pc L (As.reverse ++ S) ws := by
  intro H locs ls hP hD hS hl hL T hT X0
  have hkp := B.kp hS
  have hr : va_Run p l e R s m args below meth c H locs ce sl mc ms (F0 m pc ls ((As.reverse ++ S).map (cv X))) (S.map (cv X)) (QcB (fz X H) Y Qy (As.map (cv X)).toArray) (AY (fz X H)) := by
    refine va_runS (own := mi.1) (Ts := gtb) (n := nn) ⟨B.1.1, B.1.2.1, B.1.2.2.1, B.1.2.2.2.1, B.1.2.2.2.2.1⟩ (hM H hP hD hkp) ⟨callB_of nn B.1.2.2.2.2.1 (wsB_in cl.1) rfl rfl rfl (B.1.hw cl.1.2.1 rfl) (B.1.hw cl.2.2 rfl) ⟨cl.1.2.2.2.1, cl.1.2.2.2.2⟩ hR, B.1.hw cl.2.1 rfl⟩ ⟨PcB_blind, fun U hU hWm => ?_⟩ rfl (by rw [List.length_map]; exact hn) hl.1 (by simp) (lv_room (catS_ok hcat)) hd hf
    exact ⟨rfl, (fun k q hk => by simp at hk), ⟨(fun i j x z hi => by simp at hi), (fun k q hk => by simp at hk)⟩, ⟨Nat.le_of_eq (by rw [hU]; rfl), fun q _ _ => by rw [hU]; rfl⟩, (B.1.2.2.2.2.2.2.2.1.trans hWm.alike), fun a2 i x h hm => va_Nw.warmM hWm (B.1.2.2.2.2.2.2.2.2.2.2.2.1 a2 i x h hm), fun z hz => vk_R.warm hWm (B.1.2.2.2.2.2.2.2.2.2.2.2.2 z hz)⟩
  obtain ⟨v0, st₀, t, T', L2, h0, X', hL2, e1, e2, ⟨⟨v, ws1, hv, hq, hP1, hD1⟩, hz, hk⟩, st⟩ := hr T hT X0
  cases hv
  rw [cv_fz] at st
  rw [h0] at hz hk
  have hk2 : ∀ q, q < H.size → T'.heap[q]? = H[q]? := fun q h1 => by rw [e1]; exact hk q h1 (Nat.not_le.mpr h1)
  have hS1 : va_S (AY X) s.heap T'.heap (locs ++ L2) := ⟨Nat.le_trans hS.1 (by rw [e1]; exact hz), fun q h1 h2 => by rw [hk2 q (Nat.lt_of_lt_of_le h1 hS.1)]; exact hS.2.1 q h1 h2, fun q hq => by
      rcases List.mem_append.mp hq with h | h
      · exact hS.2.2 q h
      · exact Nat.le_trans hkp.1 (hL2 q h)⟩
  have hPa : va_P Y.1 cl2 (ws ++ ws1) T'.heap := va_P.app (fun k q hq => (hP k q hq).kept (hk2 q.1 (hP k q hq).lt)) (by rw [e1]; exact hP1)
  have hDa : va_D (AY X) (ws ++ ws1) := va_D.app hD ⟨hD1.1, fun k q hq => Nat.le_trans hkp.1 (hD1.2 k q hq)⟩ (fun i j x z hx hz2 hxz => by
    have h1 := (hP i x hx).lt
    have h2 : H.size ≤ z.1 := hD1.2 j z hz2
    omega)
  have h3 : (v.map (cv X)).toList ++ S.map (cv X) = (v.toList ++ S).map (cv X) := by cases v <;> simp
  obtain ⟨t2, a1, b1⟩ := kk v ws1 hq T'.heap (locs ++ L2) ls hPa hDa hS1 hl hL T' rfl X'
  exact ⟨t2, st t2 (by rw [h3]; exact a1), b1⟩
end GBz
