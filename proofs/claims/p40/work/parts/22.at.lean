/-! the law's script -/
section SCR
variable {l : Launch} {X : XC} {mi : MI} {d : Nat} {ρ : Type} {em : ρ → Option AV × Mem} {n : Nat} {fl : Fl} {E : Option ρ} {pc : Nat} {L : LL} {S : List AV} {w : Mem} {Ln : Nat} {xs : Nat → Int32}
def scrX (X : XC) (Ln : Nat) (xs : Nat → Int32) : Prop := va_X X.2.2.2.2 Ln xs X.2.2.1 X.2.2.1.heap ∧ X.2.2.2.2 < xb X ∧ ¬ AA X X.2.2.2.2
theorem scr_at {p : Program} {s : State} {m : MethodId} {args : Array Value} {meth : Method} {c : Code} {H : Heap} {locs : List Loc} (hX : scrX X Ln xs) (B : Bd X mi p s m args meth c) (hW : Wd X n fl w H) (hS : va_S (AA X) s.heap H locs) : va_X X.2.2.2.2 Ln xs s s.heap ∧ X.2.2.2.2 < s.heap.size := by
  have hxb := B.2.2.2.2.2.2.2.2.2.2.1
  exact ⟨(hX.1.moved B.2.2.2.2.2.2.2.1).kept (old_at B hW hS _ hX.2.1 hX.2.2), Nat.lt_of_lt_of_le hX.2.1 hxb⟩
theorem GE_sld (hX : scrX X Ln xs) {x : Int32} (hin : inB x Ln) (hd : decode mi.2.1 pc = .ok (.iaload, 1)) (kk : GE l X mi d em n fl E (pc + 1) L (.inl (xs (tn x)) :: S) w) : GE l X mi d em n fl E pc L (.inl x :: .inr (.inr (some (41, 0))) :: S) w := by
  intro r hr p e s m args below meth c B H locs ls hW hS hl hL oL oS
  have h := scr_at hX B hW hS
  exact va_sld B.1 B.2.1 h.1 h.2 hX.2.2 hS hin hd (kk r hr p e s m args below meth c B H locs ls hW hS hl hL oL (List.forall_mem_cons.mpr ⟨rfl, (List.forall_mem_cons.mp (List.forall_mem_cons.mp oS).2).2⟩))
theorem GE_slen (hX : scrX X Ln xs) (hd : decode mi.2.1 pc = .ok (.arraylength, 1)) (kk : GE l X mi d em n fl E (pc + 1) L (.inl (Int32.ofNat Ln) :: S) w) : GE l X mi d em n fl E pc L (.inr (.inr (some (41, 0))) :: S) w := by
  intro r hr p e s m args below meth c B H locs ls hW hS hl hL oL oS
  have h := scr_at hX B hW hS
  exact va_slen B.1 B.2.1 h.1 h.2 hX.2.2 hS hd (kk r hr p e s m args below meth c B H locs ls hW hS hl hL oL (List.forall_mem_cons.mpr ⟨rfl, (List.forall_mem_cons.mp oS).2⟩))
end SCR
abbrev mm_L_at : MI := (RL, cL_at, 2, (some .int), ftp_L.map (fun q => q.1), ctp_L.map (fun q => q.1), clp_L.map (fun q => q.1))
def f_L_at (q : Int32 → Int32) (a1 : Int32) (w : Mem) : Option (Int32 × Mem) := if a1 < 0 then none else some (q a1, w)
theorem t_L_at (l : Launch) (X : XC) {N9 : Nat} (hN : 39 ≤ N9) (q : Int32 → Int32) (a1 : Int32) (hq : SAT X q) (w : Mem) : Ct l X 0 yL_at cL_at 2 (some .int) emI [.inr (.inr (some (41, 0))), .inl a1] N9 flT w (f_L_at q a1 w) := by
  unfold f_L_at
  by_cases h0 : a1 < 0
  · rw [if_pos h0]; exact Ct_none
  obtain ⟨k, hk, rfl⟩ := nI_of h0
  rw [if_neg h0]
  obtain ⟨Ln, xs, hL, hX1, hX2, hX3, hq2⟩ := hq
  have hX : scrX X Ln xs := ⟨hX1, hX2, hX3⟩
  have e1 : some (q (nI k), w) = if nI k < Int32.ofNat Ln then some (xs k, w) else some (0, w) := by
    rw [hq2 k hk]
    show _ = if nI k < nI Ln then some (xs k, w) else some (0, w)
    by_cases h : k < Ln
    · rw [if_pos h, if_pos (nI_lt h (by omega))]
    · rw [if_neg h, if_neg (nI_nlt (by omega) hk)]
  rw [e1]
  refine Ct_of (mi := mm_L_at) (mik_L _ _ _) me_L_at rfl (okAs_cons rfl (okAs_cons rfl okAs_nil)) (Nat.le_of_ble_eq_true rfl) ?_
  refine GE_run (flG_T hN) (pc1 := 2) (L1 := [some (.inr (.inr (some (41, 0)))), some (.inl (nI k))]) (S1 := [.inr (.inr (some (41, 0))), .inl (nI k)]) (w1 := w) (P := True) [(.iload_n 1, 0, 0, 0, 0), (.aload_n 0, 0, 0, 0, 0)] (by decide +kernel) rfl trivial ?_
  refine GE_slen hX (by decide +kernel) ?_
  refine GE_icmpN (k := .ge) (off := 9) (tgt := 12) (by decide +kernel) (by decide) (cnd_ge _ _) (fun c1 => ?_) (fun c1 => ?_)
  · refine GE_run (flG_T hN) (pc1 := 13) (L1 := [some (.inr (.inr (some (41, 0)))), some (.inl (nI k))]) (S1 := [.inl 0]) (w1 := w) (P := True) [(.iconst 0, 0, 0, 0, 0)] (by decide +kernel) rfl trivial ?_
    exact GE_iret rfl (by decide +kernel)
  · have h : k < Ln := (nI_ltI hk (by omega)).mp c1
    refine GE_run (flG_T hN) (pc1 := 8) (L1 := [some (.inr (.inr (some (41, 0)))), some (.inl (nI k))]) (S1 := [.inl (nI k), .inr (.inr (some (41, 0)))]) (w1 := w) (P := True) [(.aload_n 0, 0, 0, 0, 0), (.iload_n 1, 0, 0, 0, 0)] (by decide +kernel) rfl trivial ?_
    refine GE_sld hX (nI_in h (by omega)) (by decide +kernel) ?_
    rw [show tn (nI k) = k from nI_clamp hk]
    refine GE_run (flG_T hN) (pc1 := 13) (L1 := [some (.inr (.inr (some (41, 0)))), some (.inl (nI k))]) (S1 := [.inl (xs k)]) (w1 := w) (P := True) [(.goto 4, 0, 0, 0, 0)] (by decide +kernel) rfl trivial ?_
    exact GE_iret rfl (by decide +kernel)
