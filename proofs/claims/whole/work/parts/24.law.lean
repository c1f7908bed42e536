/-! the law: its calls, one by one -/
abbrev mi_L : MI := (RL, code, 4, ret, [], [], [])
abbrev LL0 (i : Int32) : LL := [some (.inr (.inr (some (41, 0)))), some (.inr (.inr (some (4, 0)))), some (.inr (.inr (some (5, 0)))), some (.inl i)]
section LAW
variable {l : Launch} {X : XC} {mi : MI} {p : Program} {e : Env} {R : Room} {s : State} {m : MethodId} {args : Array Value} {below : List Frame} {meth : Method} {c : Code} {ce sl : Nat} {Q : State → Prop} {n : Nat} {fl : Fl} {pc : Nat} {L : LL} {S : List AV} {w : Mem} {Ln : Nat} {xs : Nat → Int32}
/-- the script stands where it stood -/
def scr (X : XC) (s : State) (Ln : Nat) (xs : Nat → Int32) : Prop := va_X X.2.2.2.2 Ln xs s s.heap ∧ X.2.2.2.2 < s.heap.size ∧ ¬ (AA X) X.2.2.2.2
theorem G_sld (B : Bd X mi p s m args meth c) (hX : scr X s Ln xs) {x : Int32} (hin : inB x Ln) (hd : decode mi.2.1 pc = .ok (.iaload, 1)) (kk : G l X mi p e R s m args below meth c ce sl Q n fl (pc + 1) L (.inl (xs (tn x)) :: S) w) : G l X mi p e R s m args below meth c ce sl Q n fl pc L (.inl x :: .inr (.inr (some (41, 0))) :: S) w := by
  intro H locs ls hW hS hl hL oL oS
  exact va_sld B.1 B.2.1 hX.1 hX.2.1 hX.2.2 hS hin hd (kk H locs ls hW hS hl hL oL (List.forall_mem_cons.mpr ⟨rfl, (List.forall_mem_cons.mp (List.forall_mem_cons.mp oS).2).2⟩))
theorem G_slen (B : Bd X mi p s m args meth c) (hX : scr X s Ln xs) (hd : decode mi.2.1 pc = .ok (.arraylength, 1)) (kk : G l X mi p e R s m args below meth c ce sl Q n fl (pc + 1) L (.inl (Int32.ofNat Ln) :: S) w) : G l X mi p e R s m args below meth c ce sl Q n fl pc L (.inr (.inr (some (41, 0))) :: S) w := by
  intro H locs ls hW hS hl hL oL oS
  exact va_slen B.1 B.2.1 hX.1 hX.2.1 hX.2.2 hS hd (kk H locs ls hW hS hl hL oL (List.forall_mem_cons.mpr ⟨rfl, (List.forall_mem_cons.mp oS).2⟩))
theorem G_swl (B : Bd X mi p s m args meth c) {x : Int32} {dflt : Int} {offs : Array Int} {len dt : Nat} (ts : List (Nat × Nat)) (hd : decode mi.2.1 pc = .ok (.tableswitch dflt 0 36 offs, len)) (h1 : offs.toList.map (fun o => (pc : Int) + o) = ts.map (fun q => (q.2 : Int))) (h2 : ts.length = 37) (hdt : (pc : Int) + dflt = (dt : Int))
    (hin : ∀ q ∈ ts, G l X mi p e R s m args below meth c ce sl Q n fl q.2 L S w) (hout : G l X mi p e R s m args below meth c ce sl Q n fl dt L S w) : G l X mi p e R s m args below meth c ce sl Q n fl pc L (.inl x :: S) w := by
  intro H locs ls hW hS hl hL oL oS
  have oS2 := (List.forall_mem_cons.mp oS).2
  by_cases ho : x.toInt < 0 ∨ 36 < x.toInt
  · exact lv_tableOut B.1 B.2.1 hd ho hdt (hout H locs ls hW hS hl hL oL oS2)
  · have hk : (x.toInt - 0).toNat < ts.length := by omega
    have h8 := congrArg (fun z => z[(x.toInt - 0).toNat]?) h1
    rw [List.getElem?_map, List.getElem?_map, List.getElem?_eq_getElem hk] at h8
    cases h9 : offs.toList[(x.toInt - 0).toNat]? with
    | none => rw [h9] at h8; cases h8
    | some o =>
      rw [h9] at h8
      exact lv_tableIn B.1 B.2.1 hd (by omega) (by omega) (by rw [← Array.getElem?_toList]; exact h9) (Option.some.inj h8) (hin _ (List.getElem_mem hk) H locs ls hW hS hl hL oL oS2)
theorem lg_cmp_self (v : Int64) : lg_cmp v v = 0 := by simp [lg_cmp]
set_option maxRecDepth 100000 in
theorem L_0 (B : Bd X mi_L p s m args meth c) (hX : scr X s Ln xs) {i : Int32} (hb : ∀ j : Int32, 0 ≤ j → j ≤ 6 → inB (i + j) Ln) (hce : ce ≤ 600000) (hsl : sl ≤ 7302250) {v : Int32} {w1 w2 : Mem} (h1 : f_X4_count (xs (tn (i + 1))) w = some (v, w1)) (h2 : f_X5_count (xs (tn (i + 1))) w1 = some (v, w2)) (kk : G l X mi_L p e room_1 s m args below meth c ce sl Q 57 flT 1581 (LL0 i) [] w2) : G l X mi_L p e room_1 s m args below meth c ce sl Q 57 flT 196 (LL0 i) [] w := by
  refine G_run B flG_T (pc1 := 201) (L1 := LL0 i) (S1 := [.inl (i + 1), .inr (.inr (some (41, 0))), .inr (.inr (some (4, 0)))]) (w1 := w) (P := True) [(.aload_n 1, 0, 0, 0, 0), (.aload_n 0, 0, 0, 0, 0), (.iload_n 3, 0, 0, 0, 0), (.iconst 1, 0, 0, 1, 0), (.iadd, 0, 0, 0, 0)] (by decide +kernel) rfl trivial ?_
  refine G_sld B hX (hb 1 (by decide) (by decide)) (by decide +kernel) ?_
  refine G_callV B (As := [.inl (xs (tn (i + 1)))]) (S := []) (k := 4) (i := 0) (by decide) (t_X4_count l X (xs (tn (i + 1))) w B.2.2.2.2.2.2.2.2.1 _ h1) me_X4_count mi_X4_count mv_X4_count rfl lk_L_13 (by decide +kernel) rfl ⟨by decide, by decide⟩ ⟨hce, hsl⟩ (Nat.le_of_ble_eq_true rfl) ?_
  rintro v1 n1 fl1 w3 ⟨rfl, rfl, hv⟩
  cases hv
  show G _ _ _ _ _ _ _ _ _ _ _ _ ce sl _ 57 flT 205 (LL0 i) [.inl v] w1
  refine G_run B flG_T (pc1 := 210) (L1 := LL0 i) (S1 := [.inl (i + 1), .inr (.inr (some (41, 0))), .inr (.inr (some (5, 0))), .inl v]) (w1 := w1) (P := True) [(.aload_n 2, 0, 0, 0, 0), (.aload_n 0, 0, 0, 0, 0), (.iload_n 3, 0, 0, 0, 0), (.iconst 1, 0, 0, 1, 0), (.iadd, 0, 0, 0, 0)] (by decide +kernel) rfl trivial ?_
  refine G_sld B hX (hb 1 (by decide) (by decide)) (by decide +kernel) ?_
  refine G_callV B (As := [.inl (xs (tn (i + 1)))]) (S := [.inl v]) (k := 5) (i := 0) (by decide) (t_X5_count l X (xs (tn (i + 1))) w1 B.2.2.2.2.2.2.2.2.1 _ h2) me_X5_count mi_X5_count mv_X5_count rfl lk_L_17 (by decide +kernel) rfl ⟨by decide, by decide⟩ ⟨hce, hsl⟩ (Nat.le_of_ble_eq_true rfl) ?_
  rintro v1 n1 fl1 w3 ⟨rfl, rfl, hv⟩
  cases hv
  show G _ _ _ _ _ _ _ _ _ _ _ _ ce sl _ 57 flT 214 (LL0 i) [.inl v, .inl v] w2
  exact G_icmp B (k := .eq) (off := 1367) (tgt := 1581) (by decide +kernel) (by decide) (fun _ => kk) (fun h => absurd rfl h)
set_option maxRecDepth 100000 in
theorem L_1 (B : Bd X mi_L p s m args meth c) (hX : scr X s Ln xs) {i : Int32} (hb : ∀ j : Int32, 0 ≤ j → j ≤ 6 → inB (i + j) Ln) (hce : ce ≤ 600000) (hsl : sl ≤ 7302250) {v : Int32} {w1 w2 : Mem} (h1 : f_X4_shore (xs (tn (i + 1))) (xs (tn (i + 2))) w = some (v, w1)) (h2 : f_X5_shore (xs (tn (i + 1))) (xs (tn (i + 2))) w1 = some (v, w2)) (kk : G l X mi_L p e room_1 s m args below meth c ce sl Q 57 flT 1581 (LL0 i) [] w2) : G l X mi_L p e room_1 s m args below meth c ce sl Q 57 flT 219 (LL0 i) [] w := by
  refine G_run B flG_T (pc1 := 224) (L1 := LL0 i) (S1 := [.inl (i + 1), .inr (.inr (some (41, 0))), .inr (.inr (some (4, 0)))]) (w1 := w) (P := True) [(.aload_n 1, 0, 0, 0, 0), (.aload_n 0, 0, 0, 0, 0), (.iload_n 3, 0, 0, 0, 0), (.iconst 1, 0, 0, 1, 0), (.iadd, 0, 0, 0, 0)] (by decide +kernel) rfl trivial ?_
  refine G_sld B hX (hb 1 (by decide) (by decide)) (by decide +kernel) ?_
  refine G_run B flG_T (pc1 := 229) (L1 := LL0 i) (S1 := [.inl (i + 2), .inr (.inr (some (41, 0))), .inl (xs (tn (i + 1))), .inr (.inr (some (4, 0)))]) (w1 := w) (P := True) [(.aload_n 0, 0, 0, 0, 0), (.iload_n 3, 0, 0, 0, 0), (.iconst 2, 0, 0, 2, 0), (.iadd, 0, 0, 0, 0)] (by decide +kernel) rfl trivial ?_
  refine G_sld B hX (hb 2 (by decide) (by decide)) (by decide +kernel) ?_
  refine G_callV B (As := [.inl (xs (tn (i + 1))), .inl (xs (tn (i + 2)))]) (S := []) (k := 4) (i := 0) (by decide) (t_X4_shore l X (xs (tn (i + 1))) (xs (tn (i + 2))) w B.2.2.2.2.2.2.2.2.1 _ h1) me_X4_shore mi_X4_shore mv_X4_shore rfl lk_L_18 (by decide +kernel) rfl ⟨by decide, by decide⟩ ⟨hce, hsl⟩ (Nat.le_of_ble_eq_true rfl) ?_
  rintro v1 n1 fl1 w3 ⟨rfl, rfl, hv⟩
  cases hv
  show G _ _ _ _ _ _ _ _ _ _ _ _ ce sl _ 57 flT 233 (LL0 i) [.inl v] w1
  refine G_run B flG_T (pc1 := 238) (L1 := LL0 i) (S1 := [.inl (i + 1), .inr (.inr (some (41, 0))), .inr (.inr (some (5, 0))), .inl v]) (w1 := w1) (P := True) [(.aload_n 2, 0, 0, 0, 0), (.aload_n 0, 0, 0, 0, 0), (.iload_n 3, 0, 0, 0, 0), (.iconst 1, 0, 0, 1, 0), (.iadd, 0, 0, 0, 0)] (by decide +kernel) rfl trivial ?_
  refine G_sld B hX (hb 1 (by decide) (by decide)) (by decide +kernel) ?_
  refine G_run B flG_T (pc1 := 243) (L1 := LL0 i) (S1 := [.inl (i + 2), .inr (.inr (some (41, 0))), .inl (xs (tn (i + 1))), .inr (.inr (some (5, 0))), .inl v]) (w1 := w1) (P := True) [(.aload_n 0, 0, 0, 0, 0), (.iload_n 3, 0, 0, 0, 0), (.iconst 2, 0, 0, 2, 0), (.iadd, 0, 0, 0, 0)] (by decide +kernel) rfl trivial ?_
  refine G_sld B hX (hb 2 (by decide) (by decide)) (by decide +kernel) ?_
  refine G_callV B (As := [.inl (xs (tn (i + 1))), .inl (xs (tn (i + 2)))]) (S := [.inl v]) (k := 5) (i := 0) (by decide) (t_X5_shore l X (xs (tn (i + 1))) (xs (tn (i + 2))) w1 B.2.2.2.2.2.2.2.2.1 _ h2) me_X5_shore mi_X5_shore mv_X5_shore rfl lk_L_22 (by decide +kernel) rfl ⟨by decide, by decide⟩ ⟨hce, hsl⟩ (Nat.le_of_ble_eq_true rfl) ?_
  rintro v1 n1 fl1 w3 ⟨rfl, rfl, hv⟩
  cases hv
  show G _ _ _ _ _ _ _ _ _ _ _ _ ce sl _ 57 flT 247 (LL0 i) [.inl v, .inl v] w2
  exact G_icmp B (k := .eq) (off := 1334) (tgt := 1581) (by decide +kernel) (by decide) (fun _ => kk) (fun h => absurd rfl h)
set_option maxRecDepth 100000 in
theorem L_2 (B : Bd X mi_L p s m args meth c) (hX : scr X s Ln xs) {i : Int32} (hb : ∀ j : Int32, 0 ≤ j → j ≤ 6 → inB (i + j) Ln) (hce : ce ≤ 600000) (hsl : sl ≤ 7302250) {v : Int32} {w1 w2 : Mem} (h1 : f_X4_feed (xs (tn (i + 1))) (xs (tn (i + 2))) (xs (tn (i + 3))) (xs (tn (i + 4))) (xs (tn (i + 5))) (xs (tn (i + 6))) w = some (v, w1)) (h2 : f_X5_feed (xs (tn (i + 1))) (xs (tn (i + 2))) (xs (tn (i + 3))) (xs (tn (i + 4))) (xs (tn (i + 5))) (xs (tn (i + 6))) w1 = some (v, w2)) (kk : G l X mi_L p e room_1 s m args below meth c ce sl Q 57 flT 1581 (LL0 i) [] w2) : G l X mi_L p e room_1 s m args below meth c ce sl Q 57 flT 252 (LL0 i) [] w := by
  refine G_run B flG_T (pc1 := 257) (L1 := LL0 i) (S1 := [.inl (i + 1), .inr (.inr (some (41, 0))), .inr (.inr (some (4, 0)))]) (w1 := w) (P := True) [(.aload_n 1, 0, 0, 0, 0), (.aload_n 0, 0, 0, 0, 0), (.iload_n 3, 0, 0, 0, 0), (.iconst 1, 0, 0, 1, 0), (.iadd, 0, 0, 0, 0)] (by decide +kernel) rfl trivial ?_
  refine G_sld B hX (hb 1 (by decide) (by decide)) (by decide +kernel) ?_
  refine G_run B flG_T (pc1 := 262) (L1 := LL0 i) (S1 := [.inl (i + 2), .inr (.inr (some (41, 0))), .inl (xs (tn (i + 1))), .inr (.inr (some (4, 0)))]) (w1 := w) (P := True) [(.aload_n 0, 0, 0, 0, 0), (.iload_n 3, 0, 0, 0, 0), (.iconst 2, 0, 0, 2, 0), (.iadd, 0, 0, 0, 0)] (by decide +kernel) rfl trivial ?_
  refine G_sld B hX (hb 2 (by decide) (by decide)) (by decide +kernel) ?_
  refine G_run B flG_T (pc1 := 267) (L1 := LL0 i) (S1 := [.inl (i + 3), .inr (.inr (some (41, 0))), .inl (xs (tn (i + 2))), .inl (xs (tn (i + 1))), .inr (.inr (some (4, 0)))]) (w1 := w) (P := True) [(.aload_n 0, 0, 0, 0, 0), (.iload_n 3, 0, 0, 0, 0), (.iconst 3, 0, 0, 3, 0), (.iadd, 0, 0, 0, 0)] (by decide +kernel) rfl trivial ?_
  refine G_sld B hX (hb 3 (by decide) (by decide)) (by decide +kernel) ?_
  refine G_run B flG_T (pc1 := 272) (L1 := LL0 i) (S1 := [.inl (i + 4), .inr (.inr (some (41, 0))), .inl (xs (tn (i + 3))), .inl (xs (tn (i + 2))), .inl (xs (tn (i + 1))), .inr (.inr (some (4, 0)))]) (w1 := w) (P := True) [(.aload_n 0, 0, 0, 0, 0), (.iload_n 3, 0, 0, 0, 0), (.iconst 4, 0, 0, 4, 0), (.iadd, 0, 0, 0, 0)] (by decide +kernel) rfl trivial ?_
  refine G_sld B hX (hb 4 (by decide) (by decide)) (by decide +kernel) ?_
  refine G_run B flG_T (pc1 := 277) (L1 := LL0 i) (S1 := [.inl (i + 5), .inr (.inr (some (41, 0))), .inl (xs (tn (i + 4))), .inl (xs (tn (i + 3))), .inl (xs (tn (i + 2))), .inl (xs (tn (i + 1))), .inr (.inr (some (4, 0)))]) (w1 := w) (P := True) [(.aload_n 0, 0, 0, 0, 0), (.iload_n 3, 0, 0, 0, 0), (.iconst 5, 0, 0, 5, 0), (.iadd, 0, 0, 0, 0)] (by decide +kernel) rfl trivial ?_
  refine G_sld B hX (hb 5 (by decide) (by decide)) (by decide +kernel) ?_
  refine G_run B flG_T (pc1 := 283) (L1 := LL0 i) (S1 := [.inl (i + 6), .inr (.inr (some (41, 0))), .inl (xs (tn (i + 5))), .inl (xs (tn (i + 4))), .inl (xs (tn (i + 3))), .inl (xs (tn (i + 2))), .inl (xs (tn (i + 1))), .inr (.inr (some (4, 0)))]) (w1 := w) (P := True) [(.aload_n 0, 0, 0, 0, 0), (.iload_n 3, 0, 0, 0, 0), (.bipush 6, 0, 0, 6, 0), (.iadd, 0, 0, 0, 0)] (by decide +kernel) rfl trivial ?_
  refine G_sld B hX (hb 6 (by decide) (by decide)) (by decide +kernel) ?_
  refine G_callV B (As := [.inl (xs (tn (i + 1))), .inl (xs (tn (i + 2))), .inl (xs (tn (i + 3))), .inl (xs (tn (i + 4))), .inl (xs (tn (i + 5))), .inl (xs (tn (i + 6)))]) (S := []) (k := 4) (i := 0) (by decide) (t_X4_feed l X (xs (tn (i + 1))) (xs (tn (i + 2))) (xs (tn (i + 3))) (xs (tn (i + 4))) (xs (tn (i + 5))) (xs (tn (i + 6))) w B.2.2.2.2.2.2.2.2.1 _ h1) me_X4_feed mi_X4_feed mv_X4_feed rfl lk_L_23 (by decide +kernel) rfl ⟨by decide, by decide⟩ ⟨hce, hsl⟩ (Nat.le_of_ble_eq_true rfl) ?_
  rintro v1 n1 fl1 w3 ⟨rfl, rfl, hv⟩
  cases hv
  show G _ _ _ _ _ _ _ _ _ _ _ _ ce sl _ 57 flT 287 (LL0 i) [.inl v] w1
  refine G_run B flG_T (pc1 := 292) (L1 := LL0 i) (S1 := [.inl (i + 1), .inr (.inr (some (41, 0))), .inr (.inr (some (5, 0))), .inl v]) (w1 := w1) (P := True) [(.aload_n 2, 0, 0, 0, 0), (.aload_n 0, 0, 0, 0, 0), (.iload_n 3, 0, 0, 0, 0), (.iconst 1, 0, 0, 1, 0), (.iadd, 0, 0, 0, 0)] (by decide +kernel) rfl trivial ?_
  refine G_sld B hX (hb 1 (by decide) (by decide)) (by decide +kernel) ?_
  refine G_run B flG_T (pc1 := 297) (L1 := LL0 i) (S1 := [.inl (i + 2), .inr (.inr (some (41, 0))), .inl (xs (tn (i + 1))), .inr (.inr (some (5, 0))), .inl v]) (w1 := w1) (P := True) [(.aload_n 0, 0, 0, 0, 0), (.iload_n 3, 0, 0, 0, 0), (.iconst 2, 0, 0, 2, 0), (.iadd, 0, 0, 0, 0)] (by decide +kernel) rfl trivial ?_
  refine G_sld B hX (hb 2 (by decide) (by decide)) (by decide +kernel) ?_
  refine G_run B flG_T (pc1 := 302) (L1 := LL0 i) (S1 := [.inl (i + 3), .inr (.inr (some (41, 0))), .inl (xs (tn (i + 2))), .inl (xs (tn (i + 1))), .inr (.inr (some (5, 0))), .inl v]) (w1 := w1) (P := True) [(.aload_n 0, 0, 0, 0, 0), (.iload_n 3, 0, 0, 0, 0), (.iconst 3, 0, 0, 3, 0), (.iadd, 0, 0, 0, 0)] (by decide +kernel) rfl trivial ?_
  refine G_sld B hX (hb 3 (by decide) (by decide)) (by decide +kernel) ?_
  refine G_run B flG_T (pc1 := 307) (L1 := LL0 i) (S1 := [.inl (i + 4), .inr (.inr (some (41, 0))), .inl (xs (tn (i + 3))), .inl (xs (tn (i + 2))), .inl (xs (tn (i + 1))), .inr (.inr (some (5, 0))), .inl v]) (w1 := w1) (P := True) [(.aload_n 0, 0, 0, 0, 0), (.iload_n 3, 0, 0, 0, 0), (.iconst 4, 0, 0, 4, 0), (.iadd, 0, 0, 0, 0)] (by decide +kernel) rfl trivial ?_
  refine G_sld B hX (hb 4 (by decide) (by decide)) (by decide +kernel) ?_
  refine G_run B flG_T (pc1 := 312) (L1 := LL0 i) (S1 := [.inl (i + 5), .inr (.inr (some (41, 0))), .inl (xs (tn (i + 4))), .inl (xs (tn (i + 3))), .inl (xs (tn (i + 2))), .inl (xs (tn (i + 1))), .inr (.inr (some (5, 0))), .inl v]) (w1 := w1) (P := True) [(.aload_n 0, 0, 0, 0, 0), (.iload_n 3, 0, 0, 0, 0), (.iconst 5, 0, 0, 5, 0), (.iadd, 0, 0, 0, 0)] (by decide +kernel) rfl trivial ?_
  refine G_sld B hX (hb 5 (by decide) (by decide)) (by decide +kernel) ?_
  refine G_run B flG_T (pc1 := 318) (L1 := LL0 i) (S1 := [.inl (i + 6), .inr (.inr (some (41, 0))), .inl (xs (tn (i + 5))), .inl (xs (tn (i + 4))), .inl (xs (tn (i + 3))), .inl (xs (tn (i + 2))), .inl (xs (tn (i + 1))), .inr (.inr (some (5, 0))), .inl v]) (w1 := w1) (P := True) [(.aload_n 0, 0, 0, 0, 0), (.iload_n 3, 0, 0, 0, 0), (.bipush 6, 0, 0, 6, 0), (.iadd, 0, 0, 0, 0)] (by decide +kernel) rfl trivial ?_
  refine G_sld B hX (hb 6 (by decide) (by decide)) (by decide +kernel) ?_
  refine G_callV B (As := [.inl (xs (tn (i + 1))), .inl (xs (tn (i + 2))), .inl (xs (tn (i + 3))), .inl (xs (tn (i + 4))), .inl (xs (tn (i + 5))), .inl (xs (tn (i + 6)))]) (S := [.inl v]) (k := 5) (i := 0) (by decide) (t_X5_feed l X (xs (tn (i + 1))) (xs (tn (i + 2))) (xs (tn (i + 3))) (xs (tn (i + 4))) (xs (tn (i + 5))) (xs (tn (i + 6))) w1 B.2.2.2.2.2.2.2.2.1 _ h2) me_X5_feed mi_X5_feed mv_X5_feed rfl lk_L_27 (by decide +kernel) rfl ⟨by decide, by decide⟩ ⟨hce, hsl⟩ (Nat.le_of_ble_eq_true rfl) ?_
  rintro v1 n1 fl1 w3 ⟨rfl, rfl, hv⟩
  cases hv
  show G _ _ _ _ _ _ _ _ _ _ _ _ ce sl _ 57 flT 322 (LL0 i) [.inl v, .inl v] w2
  exact G_icmp B (k := .eq) (off := 1259) (tgt := 1581) (by decide +kernel) (by decide) (fun _ => kk) (fun h => absurd rfl h)
set_option maxRecDepth 100000 in
theorem L_3 (B : Bd X mi_L p s m args meth c) (hX : scr X s Ln xs) {i : Int32} (hb : ∀ j : Int32, 0 ≤ j → j ≤ 6 → inB (i + j) Ln) (hce : ce ≤ 600000) (hsl : sl ≤ 7302250) {v : Int32} {w1 w2 : Mem} (h1 : f_X4_text  w = some (v, w1)) (h2 : f_X5_text  w1 = some (v, w2)) (kk : G l X mi_L p e room_1 s m args below meth c ce sl Q 57 flT 1581 (LL0 i) [] w2) : G l X mi_L p e room_1 s m args below meth c ce sl Q 57 flT 327 (LL0 i) [] w := by
  refine G_run B flG_T (pc1 := 328) (L1 := LL0 i) (S1 := [.inr (.inr (some (4, 0)))]) (w1 := w) (P := True) [(.aload_n 1, 0, 0, 0, 0)] (by decide +kernel) rfl trivial ?_
  refine G_callV B (As := []) (S := []) (k := 4) (i := 0) (by decide) (t_X4_text l X  w B.2.2.2.2.2.2.2.2.1 _ h1) me_X4_text mi_X4_text mv_X4_text rfl lk_L_28 (by decide +kernel) rfl ⟨by decide, by decide⟩ ⟨hce, hsl⟩ (Nat.le_of_ble_eq_true rfl) ?_
  rintro v1 n1 fl1 w3 ⟨rfl, rfl, hv⟩
  cases hv
  show G _ _ _ _ _ _ _ _ _ _ _ _ ce sl _ 57 flT 331 (LL0 i) [.inl v] w1
  refine G_run B flG_T (pc1 := 332) (L1 := LL0 i) (S1 := [.inr (.inr (some (5, 0))), .inl v]) (w1 := w1) (P := True) [(.aload_n 2, 0, 0, 0, 0)] (by decide +kernel) rfl trivial ?_
  refine G_callV B (As := []) (S := [.inl v]) (k := 5) (i := 0) (by decide) (t_X5_text l X  w1 B.2.2.2.2.2.2.2.2.1 _ h2) me_X5_text mi_X5_text mv_X5_text rfl lk_L_32 (by decide +kernel) rfl ⟨by decide, by decide⟩ ⟨hce, hsl⟩ (Nat.le_of_ble_eq_true rfl) ?_
  rintro v1 n1 fl1 w3 ⟨rfl, rfl, hv⟩
  cases hv
  show G _ _ _ _ _ _ _ _ _ _ _ _ ce sl _ 57 flT 335 (LL0 i) [.inl v, .inl v] w2
  exact G_icmp B (k := .eq) (off := 1246) (tgt := 1581) (by decide +kernel) (by decide) (fun _ => kk) (fun h => absurd rfl h)
set_option maxRecDepth 100000 in
theorem L_4 (B : Bd X mi_L p s m args meth c) (hX : scr X s Ln xs) {i : Int32} (hb : ∀ j : Int32, 0 ≤ j → j ≤ 6 → inB (i + j) Ln) (hce : ce ≤ 600000) (hsl : sl ≤ 7302250) {v : Int32} {w1 w2 : Mem} (h1 : f_X4_force (xs (tn (i + 1))) w = some (v, w1)) (h2 : f_X5_force (xs (tn (i + 1))) w1 = some (v, w2)) (kk : G l X mi_L p e room_1 s m args below meth c ce sl Q 57 flT 1581 (LL0 i) [] w2) : G l X mi_L p e room_1 s m args below meth c ce sl Q 57 flT 340 (LL0 i) [] w := by
  refine G_run B flG_T (pc1 := 345) (L1 := LL0 i) (S1 := [.inl (i + 1), .inr (.inr (some (41, 0))), .inr (.inr (some (4, 0)))]) (w1 := w) (P := True) [(.aload_n 1, 0, 0, 0, 0), (.aload_n 0, 0, 0, 0, 0), (.iload_n 3, 0, 0, 0, 0), (.iconst 1, 0, 0, 1, 0), (.iadd, 0, 0, 0, 0)] (by decide +kernel) rfl trivial ?_
  refine G_sld B hX (hb 1 (by decide) (by decide)) (by decide +kernel) ?_
  refine G_callV B (As := [.inl (xs (tn (i + 1)))]) (S := []) (k := 4) (i := 0) (by decide) (t_X4_force l X (xs (tn (i + 1))) w B.2.2.2.2.2.2.2.2.1 _ h1) me_X4_force mi_X4_force mv_X4_force rfl lk_L_33 (by decide +kernel) rfl ⟨by decide, by decide⟩ ⟨hce, hsl⟩ (Nat.le_of_ble_eq_true rfl) ?_
  rintro v1 n1 fl1 w3 ⟨rfl, rfl, hv⟩
  cases hv
  show G _ _ _ _ _ _ _ _ _ _ _ _ ce sl _ 57 flT 349 (LL0 i) [.inl v] w1
  refine G_run B flG_T (pc1 := 354) (L1 := LL0 i) (S1 := [.inl (i + 1), .inr (.inr (some (41, 0))), .inr (.inr (some (5, 0))), .inl v]) (w1 := w1) (P := True) [(.aload_n 2, 0, 0, 0, 0), (.aload_n 0, 0, 0, 0, 0), (.iload_n 3, 0, 0, 0, 0), (.iconst 1, 0, 0, 1, 0), (.iadd, 0, 0, 0, 0)] (by decide +kernel) rfl trivial ?_
  refine G_sld B hX (hb 1 (by decide) (by decide)) (by decide +kernel) ?_
  refine G_callV B (As := [.inl (xs (tn (i + 1)))]) (S := [.inl v]) (k := 5) (i := 0) (by decide) (t_X5_force l X (xs (tn (i + 1))) w1 B.2.2.2.2.2.2.2.2.1 _ h2) me_X5_force mi_X5_force mv_X5_force rfl lk_L_36 (by decide +kernel) rfl ⟨by decide, by decide⟩ ⟨hce, hsl⟩ (Nat.le_of_ble_eq_true rfl) ?_
  rintro v1 n1 fl1 w3 ⟨rfl, rfl, hv⟩
  cases hv
  show G _ _ _ _ _ _ _ _ _ _ _ _ ce sl _ 57 flT 358 (LL0 i) [.inl v, .inl v] w2
  exact G_icmp B (k := .eq) (off := 1223) (tgt := 1581) (by decide +kernel) (by decide) (fun _ => kk) (fun h => absurd rfl h)
set_option maxRecDepth 100000 in
theorem L_5 (B : Bd X mi_L p s m args meth c) (hX : scr X s Ln xs) {i : Int32} (hb : ∀ j : Int32, 0 ≤ j → j ≤ 6 → inB (i + j) Ln) (hce : ce ≤ 600000) (hsl : sl ≤ 7302250) {v : Int32} {w1 w2 : Mem} (h1 : f_X4_asks (xs (tn (i + 1))) (xs (tn (i + 2))) (xs (tn (i + 3))) w = some (v, w1)) (h2 : f_X5_asks (xs (tn (i + 1))) (xs (tn (i + 2))) (xs (tn (i + 3))) w1 = some (v, w2)) (kk : G l X mi_L p e room_1 s m args below meth c ce sl Q 57 flT 1581 (LL0 i) [] w2) : G l X mi_L p e room_1 s m args below meth c ce sl Q 57 flT 363 (LL0 i) [] w := by
  refine G_run B flG_T (pc1 := 368) (L1 := LL0 i) (S1 := [.inl (i + 1), .inr (.inr (some (41, 0))), .inr (.inr (some (4, 0)))]) (w1 := w) (P := True) [(.aload_n 1, 0, 0, 0, 0), (.aload_n 0, 0, 0, 0, 0), (.iload_n 3, 0, 0, 0, 0), (.iconst 1, 0, 0, 1, 0), (.iadd, 0, 0, 0, 0)] (by decide +kernel) rfl trivial ?_
  refine G_sld B hX (hb 1 (by decide) (by decide)) (by decide +kernel) ?_
  refine G_run B flG_T (pc1 := 373) (L1 := LL0 i) (S1 := [.inl (i + 2), .inr (.inr (some (41, 0))), .inl (xs (tn (i + 1))), .inr (.inr (some (4, 0)))]) (w1 := w) (P := True) [(.aload_n 0, 0, 0, 0, 0), (.iload_n 3, 0, 0, 0, 0), (.iconst 2, 0, 0, 2, 0), (.iadd, 0, 0, 0, 0)] (by decide +kernel) rfl trivial ?_
  refine G_sld B hX (hb 2 (by decide) (by decide)) (by decide +kernel) ?_
  refine G_run B flG_T (pc1 := 378) (L1 := LL0 i) (S1 := [.inl (i + 3), .inr (.inr (some (41, 0))), .inl (xs (tn (i + 2))), .inl (xs (tn (i + 1))), .inr (.inr (some (4, 0)))]) (w1 := w) (P := True) [(.aload_n 0, 0, 0, 0, 0), (.iload_n 3, 0, 0, 0, 0), (.iconst 3, 0, 0, 3, 0), (.iadd, 0, 0, 0, 0)] (by decide +kernel) rfl trivial ?_
  refine G_sld B hX (hb 3 (by decide) (by decide)) (by decide +kernel) ?_
  refine G_callV B (As := [.inl (xs (tn (i + 1))), .inl (xs (tn (i + 2))), .inl (xs (tn (i + 3)))]) (S := []) (k := 4) (i := 0) (by decide) (t_X4_asks l X (xs (tn (i + 1))) (xs (tn (i + 2))) (xs (tn (i + 3))) w B.2.2.2.2.2.2.2.2.1 _ h1) me_X4_asks mi_X4_asks mv_X4_asks rfl lk_L_37 (by decide +kernel) rfl ⟨by decide, by decide⟩ ⟨hce, hsl⟩ (Nat.le_of_ble_eq_true rfl) ?_
  rintro v1 n1 fl1 w3 ⟨rfl, rfl, hv⟩
  cases hv
  show G _ _ _ _ _ _ _ _ _ _ _ _ ce sl _ 57 flT 382 (LL0 i) [.inl v] w1
  refine G_run B flG_T (pc1 := 387) (L1 := LL0 i) (S1 := [.inl (i + 1), .inr (.inr (some (41, 0))), .inr (.inr (some (5, 0))), .inl v]) (w1 := w1) (P := True) [(.aload_n 2, 0, 0, 0, 0), (.aload_n 0, 0, 0, 0, 0), (.iload_n 3, 0, 0, 0, 0), (.iconst 1, 0, 0, 1, 0), (.iadd, 0, 0, 0, 0)] (by decide +kernel) rfl trivial ?_
  refine G_sld B hX (hb 1 (by decide) (by decide)) (by decide +kernel) ?_
  refine G_run B flG_T (pc1 := 392) (L1 := LL0 i) (S1 := [.inl (i + 2), .inr (.inr (some (41, 0))), .inl (xs (tn (i + 1))), .inr (.inr (some (5, 0))), .inl v]) (w1 := w1) (P := True) [(.aload_n 0, 0, 0, 0, 0), (.iload_n 3, 0, 0, 0, 0), (.iconst 2, 0, 0, 2, 0), (.iadd, 0, 0, 0, 0)] (by decide +kernel) rfl trivial ?_
  refine G_sld B hX (hb 2 (by decide) (by decide)) (by decide +kernel) ?_
  refine G_run B flG_T (pc1 := 397) (L1 := LL0 i) (S1 := [.inl (i + 3), .inr (.inr (some (41, 0))), .inl (xs (tn (i + 2))), .inl (xs (tn (i + 1))), .inr (.inr (some (5, 0))), .inl v]) (w1 := w1) (P := True) [(.aload_n 0, 0, 0, 0, 0), (.iload_n 3, 0, 0, 0, 0), (.iconst 3, 0, 0, 3, 0), (.iadd, 0, 0, 0, 0)] (by decide +kernel) rfl trivial ?_
  refine G_sld B hX (hb 3 (by decide) (by decide)) (by decide +kernel) ?_
  refine G_callV B (As := [.inl (xs (tn (i + 1))), .inl (xs (tn (i + 2))), .inl (xs (tn (i + 3)))]) (S := [.inl v]) (k := 5) (i := 0) (by decide) (t_X5_asks l X (xs (tn (i + 1))) (xs (tn (i + 2))) (xs (tn (i + 3))) w1 B.2.2.2.2.2.2.2.2.1 _ h2) me_X5_asks mi_X5_asks mv_X5_asks rfl lk_L_41 (by decide +kernel) rfl ⟨by decide, by decide⟩ ⟨hce, hsl⟩ (Nat.le_of_ble_eq_true rfl) ?_
  rintro v1 n1 fl1 w3 ⟨rfl, rfl, hv⟩
  cases hv
  show G _ _ _ _ _ _ _ _ _ _ _ _ ce sl _ 57 flT 401 (LL0 i) [.inl v, .inl v] w2
  exact G_icmp B (k := .eq) (off := 1180) (tgt := 1581) (by decide +kernel) (by decide) (fun _ => kk) (fun h => absurd rfl h)
set_option maxRecDepth 100000 in
theorem L_6 (B : Bd X mi_L p s m args meth c) (hX : scr X s Ln xs) {i : Int32} (hb : ∀ j : Int32, 0 ≤ j → j ≤ 6 → inB (i + j) Ln) (hce : ce ≤ 600000) (hsl : sl ≤ 7302250) {v : Int32} {w1 w2 : Mem} (h1 : f_X4_fisher (xs (tn (i + 1))) (xs (tn (i + 2))) w = some (v, w1)) (h2 : f_X5_fisher (xs (tn (i + 1))) (xs (tn (i + 2))) w1 = some (v, w2)) (kk : G l X mi_L p e room_1 s m args below meth c ce sl Q 57 flT 1581 (LL0 i) [] w2) : G l X mi_L p e room_1 s m args below meth c ce sl Q 57 flT 406 (LL0 i) [] w := by
  refine G_run B flG_T (pc1 := 411) (L1 := LL0 i) (S1 := [.inl (i + 1), .inr (.inr (some (41, 0))), .inr (.inr (some (4, 0)))]) (w1 := w) (P := True) [(.aload_n 1, 0, 0, 0, 0), (.aload_n 0, 0, 0, 0, 0), (.iload_n 3, 0, 0, 0, 0), (.iconst 1, 0, 0, 1, 0), (.iadd, 0, 0, 0, 0)] (by decide +kernel) rfl trivial ?_
  refine G_sld B hX (hb 1 (by decide) (by decide)) (by decide +kernel) ?_
  refine G_run B flG_T (pc1 := 416) (L1 := LL0 i) (S1 := [.inl (i + 2), .inr (.inr (some (41, 0))), .inl (xs (tn (i + 1))), .inr (.inr (some (4, 0)))]) (w1 := w) (P := True) [(.aload_n 0, 0, 0, 0, 0), (.iload_n 3, 0, 0, 0, 0), (.iconst 2, 0, 0, 2, 0), (.iadd, 0, 0, 0, 0)] (by decide +kernel) rfl trivial ?_
  refine G_sld B hX (hb 2 (by decide) (by decide)) (by decide +kernel) ?_
  refine G_callV B (As := [.inl (xs (tn (i + 1))), .inl (xs (tn (i + 2)))]) (S := []) (k := 4) (i := 0) (by decide) (t_X4_fisher l X (xs (tn (i + 1))) (xs (tn (i + 2))) w B.2.2.2.2.2.2.2.2.1 _ h1) me_X4_fisher mi_X4_fisher mv_X4_fisher rfl lk_L_42 (by decide +kernel) rfl ⟨by decide, by decide⟩ ⟨hce, hsl⟩ (Nat.le_of_ble_eq_true rfl) ?_
  rintro v1 n1 fl1 w3 ⟨rfl, rfl, hv⟩
  cases hv
  show G _ _ _ _ _ _ _ _ _ _ _ _ ce sl _ 57 flT 420 (LL0 i) [.inl v] w1
  refine G_run B flG_T (pc1 := 425) (L1 := LL0 i) (S1 := [.inl (i + 1), .inr (.inr (some (41, 0))), .inr (.inr (some (5, 0))), .inl v]) (w1 := w1) (P := True) [(.aload_n 2, 0, 0, 0, 0), (.aload_n 0, 0, 0, 0, 0), (.iload_n 3, 0, 0, 0, 0), (.iconst 1, 0, 0, 1, 0), (.iadd, 0, 0, 0, 0)] (by decide +kernel) rfl trivial ?_
  refine G_sld B hX (hb 1 (by decide) (by decide)) (by decide +kernel) ?_
  refine G_run B flG_T (pc1 := 430) (L1 := LL0 i) (S1 := [.inl (i + 2), .inr (.inr (some (41, 0))), .inl (xs (tn (i + 1))), .inr (.inr (some (5, 0))), .inl v]) (w1 := w1) (P := True) [(.aload_n 0, 0, 0, 0, 0), (.iload_n 3, 0, 0, 0, 0), (.iconst 2, 0, 0, 2, 0), (.iadd, 0, 0, 0, 0)] (by decide +kernel) rfl trivial ?_
  refine G_sld B hX (hb 2 (by decide) (by decide)) (by decide +kernel) ?_
  refine G_callV B (As := [.inl (xs (tn (i + 1))), .inl (xs (tn (i + 2)))]) (S := [.inl v]) (k := 5) (i := 0) (by decide) (t_X5_fisher l X (xs (tn (i + 1))) (xs (tn (i + 2))) w1 B.2.2.2.2.2.2.2.2.1 _ h2) me_X5_fisher mi_X5_fisher mv_X5_fisher rfl lk_L_45 (by decide +kernel) rfl ⟨by decide, by decide⟩ ⟨hce, hsl⟩ (Nat.le_of_ble_eq_true rfl) ?_
  rintro v1 n1 fl1 w3 ⟨rfl, rfl, hv⟩
  cases hv
  show G _ _ _ _ _ _ _ _ _ _ _ _ ce sl _ 57 flT 434 (LL0 i) [.inl v, .inl v] w2
  exact G_icmp B (k := .eq) (off := 1147) (tgt := 1581) (by decide +kernel) (by decide) (fun _ => kk) (fun h => absurd rfl h)
set_option maxRecDepth 100000 in
theorem L_7 (B : Bd X mi_L p s m args meth c) (hX : scr X s Ln xs) {i : Int32} (hb : ∀ j : Int32, 0 ≤ j → j ≤ 6 → inB (i + j) Ln) (hce : ce ≤ 600000) (hsl : sl ≤ 7302250) {v : Int32} {w1 w2 : Mem} (h1 : f_X4_put (xs (tn (i + 1))) (xs (tn (i + 2))) (xs (tn (i + 3))) w = some (v, w1)) (h2 : f_X5_put (xs (tn (i + 1))) (xs (tn (i + 2))) (xs (tn (i + 3))) w1 = some (v, w2)) (kk : G l X mi_L p e room_1 s m args below meth c ce sl Q 57 flT 1581 (LL0 i) [] w2) : G l X mi_L p e room_1 s m args below meth c ce sl Q 57 flT 439 (LL0 i) [] w := by
  refine G_run B flG_T (pc1 := 444) (L1 := LL0 i) (S1 := [.inl (i + 1), .inr (.inr (some (41, 0))), .inr (.inr (some (4, 0)))]) (w1 := w) (P := True) [(.aload_n 1, 0, 0, 0, 0), (.aload_n 0, 0, 0, 0, 0), (.iload_n 3, 0, 0, 0, 0), (.iconst 1, 0, 0, 1, 0), (.iadd, 0, 0, 0, 0)] (by decide +kernel) rfl trivial ?_
  refine G_sld B hX (hb 1 (by decide) (by decide)) (by decide +kernel) ?_
  refine G_run B flG_T (pc1 := 449) (L1 := LL0 i) (S1 := [.inl (i + 2), .inr (.inr (some (41, 0))), .inl (xs (tn (i + 1))), .inr (.inr (some (4, 0)))]) (w1 := w) (P := True) [(.aload_n 0, 0, 0, 0, 0), (.iload_n 3, 0, 0, 0, 0), (.iconst 2, 0, 0, 2, 0), (.iadd, 0, 0, 0, 0)] (by decide +kernel) rfl trivial ?_
  refine G_sld B hX (hb 2 (by decide) (by decide)) (by decide +kernel) ?_
  refine G_run B flG_T (pc1 := 454) (L1 := LL0 i) (S1 := [.inl (i + 3), .inr (.inr (some (41, 0))), .inl (xs (tn (i + 2))), .inl (xs (tn (i + 1))), .inr (.inr (some (4, 0)))]) (w1 := w) (P := True) [(.aload_n 0, 0, 0, 0, 0), (.iload_n 3, 0, 0, 0, 0), (.iconst 3, 0, 0, 3, 0), (.iadd, 0, 0, 0, 0)] (by decide +kernel) rfl trivial ?_
  refine G_sld B hX (hb 3 (by decide) (by decide)) (by decide +kernel) ?_
  refine G_callV B (As := [.inl (xs (tn (i + 1))), .inl (xs (tn (i + 2))), .inl (xs (tn (i + 3)))]) (S := []) (k := 4) (i := 0) (by decide) (t_X4_put l X (xs (tn (i + 1))) (xs (tn (i + 2))) (xs (tn (i + 3))) w B.2.2.2.2.2.2.2.2.1 _ h1) me_X4_put mi_X4_put mv_X4_put rfl lk_L_46 (by decide +kernel) rfl ⟨by decide, by decide⟩ ⟨hce, hsl⟩ (Nat.le_of_ble_eq_true rfl) ?_
  rintro v1 n1 fl1 w3 ⟨rfl, rfl, hv⟩
  cases hv
  show G _ _ _ _ _ _ _ _ _ _ _ _ ce sl _ 57 flT 458 (LL0 i) [.inl v] w1
  refine G_run B flG_T (pc1 := 463) (L1 := LL0 i) (S1 := [.inl (i + 1), .inr (.inr (some (41, 0))), .inr (.inr (some (5, 0))), .inl v]) (w1 := w1) (P := True) [(.aload_n 2, 0, 0, 0, 0), (.aload_n 0, 0, 0, 0, 0), (.iload_n 3, 0, 0, 0, 0), (.iconst 1, 0, 0, 1, 0), (.iadd, 0, 0, 0, 0)] (by decide +kernel) rfl trivial ?_
  refine G_sld B hX (hb 1 (by decide) (by decide)) (by decide +kernel) ?_
  refine G_run B flG_T (pc1 := 468) (L1 := LL0 i) (S1 := [.inl (i + 2), .inr (.inr (some (41, 0))), .inl (xs (tn (i + 1))), .inr (.inr (some (5, 0))), .inl v]) (w1 := w1) (P := True) [(.aload_n 0, 0, 0, 0, 0), (.iload_n 3, 0, 0, 0, 0), (.iconst 2, 0, 0, 2, 0), (.iadd, 0, 0, 0, 0)] (by decide +kernel) rfl trivial ?_
  refine G_sld B hX (hb 2 (by decide) (by decide)) (by decide +kernel) ?_
  refine G_run B flG_T (pc1 := 473) (L1 := LL0 i) (S1 := [.inl (i + 3), .inr (.inr (some (41, 0))), .inl (xs (tn (i + 2))), .inl (xs (tn (i + 1))), .inr (.inr (some (5, 0))), .inl v]) (w1 := w1) (P := True) [(.aload_n 0, 0, 0, 0, 0), (.iload_n 3, 0, 0, 0, 0), (.iconst 3, 0, 0, 3, 0), (.iadd, 0, 0, 0, 0)] (by decide +kernel) rfl trivial ?_
  refine G_sld B hX (hb 3 (by decide) (by decide)) (by decide +kernel) ?_
  refine G_callV B (As := [.inl (xs (tn (i + 1))), .inl (xs (tn (i + 2))), .inl (xs (tn (i + 3)))]) (S := [.inl v]) (k := 5) (i := 0) (by decide) (t_X5_put l X (xs (tn (i + 1))) (xs (tn (i + 2))) (xs (tn (i + 3))) w1 B.2.2.2.2.2.2.2.2.1 _ h2) me_X5_put mi_X5_put mv_X5_put rfl lk_L_49 (by decide +kernel) rfl ⟨by decide, by decide⟩ ⟨hce, hsl⟩ (Nat.le_of_ble_eq_true rfl) ?_
  rintro v1 n1 fl1 w3 ⟨rfl, rfl, hv⟩
  cases hv
  show G _ _ _ _ _ _ _ _ _ _ _ _ ce sl _ 57 flT 477 (LL0 i) [.inl v, .inl v] w2
  exact G_icmp B (k := .eq) (off := 1104) (tgt := 1581) (by decide +kernel) (by decide) (fun _ => kk) (fun h => absurd rfl h)
set_option maxRecDepth 100000 in
theorem L_8 (B : Bd X mi_L p s m args meth c) (hX : scr X s Ln xs) {i : Int32} (hb : ∀ j : Int32, 0 ≤ j → j ≤ 6 → inB (i + j) Ln) (hce : ce ≤ 600000) (hsl : sl ≤ 7302250) {v : Int32} {w1 w2 : Mem} (h1 : f_X4_told (xs (tn (i + 1))) (xs (tn (i + 2))) w = some (v, w1)) (h2 : f_X5_told (xs (tn (i + 1))) (xs (tn (i + 2))) w1 = some (v, w2)) (kk : G l X mi_L p e room_1 s m args below meth c ce sl Q 57 flT 1581 (LL0 i) [] w2) : G l X mi_L p e room_1 s m args below meth c ce sl Q 57 flT 482 (LL0 i) [] w := by
  refine G_run B flG_T (pc1 := 487) (L1 := LL0 i) (S1 := [.inl (i + 1), .inr (.inr (some (41, 0))), .inr (.inr (some (4, 0)))]) (w1 := w) (P := True) [(.aload_n 1, 0, 0, 0, 0), (.aload_n 0, 0, 0, 0, 0), (.iload_n 3, 0, 0, 0, 0), (.iconst 1, 0, 0, 1, 0), (.iadd, 0, 0, 0, 0)] (by decide +kernel) rfl trivial ?_
  refine G_sld B hX (hb 1 (by decide) (by decide)) (by decide +kernel) ?_
  refine G_run B flG_T (pc1 := 492) (L1 := LL0 i) (S1 := [.inl (i + 2), .inr (.inr (some (41, 0))), .inl (xs (tn (i + 1))), .inr (.inr (some (4, 0)))]) (w1 := w) (P := True) [(.aload_n 0, 0, 0, 0, 0), (.iload_n 3, 0, 0, 0, 0), (.iconst 2, 0, 0, 2, 0), (.iadd, 0, 0, 0, 0)] (by decide +kernel) rfl trivial ?_
  refine G_sld B hX (hb 2 (by decide) (by decide)) (by decide +kernel) ?_
  refine G_callV B (As := [.inl (xs (tn (i + 1))), .inl (xs (tn (i + 2)))]) (S := []) (k := 4) (i := 0) (by decide) (t_X4_told l X (xs (tn (i + 1))) (xs (tn (i + 2))) w B.2.2.2.2.2.2.2.2.1 _ h1) me_X4_told mi_X4_told mv_X4_told rfl lk_L_50 (by decide +kernel) rfl ⟨by decide, by decide⟩ ⟨hce, hsl⟩ (Nat.le_of_ble_eq_true rfl) ?_
  rintro v1 n1 fl1 w3 ⟨rfl, rfl, hv⟩
  cases hv
  show G _ _ _ _ _ _ _ _ _ _ _ _ ce sl _ 57 flT 496 (LL0 i) [.inl v] w1
  refine G_run B flG_T (pc1 := 501) (L1 := LL0 i) (S1 := [.inl (i + 1), .inr (.inr (some (41, 0))), .inr (.inr (some (5, 0))), .inl v]) (w1 := w1) (P := True) [(.aload_n 2, 0, 0, 0, 0), (.aload_n 0, 0, 0, 0, 0), (.iload_n 3, 0, 0, 0, 0), (.iconst 1, 0, 0, 1, 0), (.iadd, 0, 0, 0, 0)] (by decide +kernel) rfl trivial ?_
  refine G_sld B hX (hb 1 (by decide) (by decide)) (by decide +kernel) ?_
  refine G_run B flG_T (pc1 := 506) (L1 := LL0 i) (S1 := [.inl (i + 2), .inr (.inr (some (41, 0))), .inl (xs (tn (i + 1))), .inr (.inr (some (5, 0))), .inl v]) (w1 := w1) (P := True) [(.aload_n 0, 0, 0, 0, 0), (.iload_n 3, 0, 0, 0, 0), (.iconst 2, 0, 0, 2, 0), (.iadd, 0, 0, 0, 0)] (by decide +kernel) rfl trivial ?_
  refine G_sld B hX (hb 2 (by decide) (by decide)) (by decide +kernel) ?_
  refine G_callV B (As := [.inl (xs (tn (i + 1))), .inl (xs (tn (i + 2)))]) (S := [.inl v]) (k := 5) (i := 0) (by decide) (t_X5_told l X (xs (tn (i + 1))) (xs (tn (i + 2))) w1 B.2.2.2.2.2.2.2.2.1 _ h2) me_X5_told mi_X5_told mv_X5_told rfl lk_L_53 (by decide +kernel) rfl ⟨by decide, by decide⟩ ⟨hce, hsl⟩ (Nat.le_of_ble_eq_true rfl) ?_
  rintro v1 n1 fl1 w3 ⟨rfl, rfl, hv⟩
  cases hv
  show G _ _ _ _ _ _ _ _ _ _ _ _ ce sl _ 57 flT 510 (LL0 i) [.inl v, .inl v] w2
  exact G_icmp B (k := .eq) (off := 1071) (tgt := 1581) (by decide +kernel) (by decide) (fun _ => kk) (fun h => absurd rfl h)
set_option maxRecDepth 100000 in
theorem L_9 (B : Bd X mi_L p s m args meth c) (hX : scr X s Ln xs) {i : Int32} (hb : ∀ j : Int32, 0 ≤ j → j ≤ 6 → inB (i + j) Ln) (hce : ce ≤ 600000) (hsl : sl ≤ 7302250) {v : Int32} {w1 w2 : Mem} (h1 : f_X4_lands (xs (tn (i + 1))) (xs (tn (i + 2))) (xs (tn (i + 3))) w = some (v, w1)) (h2 : f_X5_lands (xs (tn (i + 1))) (xs (tn (i + 2))) (xs (tn (i + 3))) w1 = some (v, w2)) (kk : G l X mi_L p e room_1 s m args below meth c ce sl Q 57 flT 1581 (LL0 i) [] w2) : G l X mi_L p e room_1 s m args below meth c ce sl Q 57 flT 515 (LL0 i) [] w := by
  refine G_run B flG_T (pc1 := 520) (L1 := LL0 i) (S1 := [.inl (i + 1), .inr (.inr (some (41, 0))), .inr (.inr (some (4, 0)))]) (w1 := w) (P := True) [(.aload_n 1, 0, 0, 0, 0), (.aload_n 0, 0, 0, 0, 0), (.iload_n 3, 0, 0, 0, 0), (.iconst 1, 0, 0, 1, 0), (.iadd, 0, 0, 0, 0)] (by decide +kernel) rfl trivial ?_
  refine G_sld B hX (hb 1 (by decide) (by decide)) (by decide +kernel) ?_
  refine G_run B flG_T (pc1 := 525) (L1 := LL0 i) (S1 := [.inl (i + 2), .inr (.inr (some (41, 0))), .inl (xs (tn (i + 1))), .inr (.inr (some (4, 0)))]) (w1 := w) (P := True) [(.aload_n 0, 0, 0, 0, 0), (.iload_n 3, 0, 0, 0, 0), (.iconst 2, 0, 0, 2, 0), (.iadd, 0, 0, 0, 0)] (by decide +kernel) rfl trivial ?_
  refine G_sld B hX (hb 2 (by decide) (by decide)) (by decide +kernel) ?_
  refine G_run B flG_T (pc1 := 530) (L1 := LL0 i) (S1 := [.inl (i + 3), .inr (.inr (some (41, 0))), .inl (xs (tn (i + 2))), .inl (xs (tn (i + 1))), .inr (.inr (some (4, 0)))]) (w1 := w) (P := True) [(.aload_n 0, 0, 0, 0, 0), (.iload_n 3, 0, 0, 0, 0), (.iconst 3, 0, 0, 3, 0), (.iadd, 0, 0, 0, 0)] (by decide +kernel) rfl trivial ?_
  refine G_sld B hX (hb 3 (by decide) (by decide)) (by decide +kernel) ?_
  refine G_callV B (As := [.inl (xs (tn (i + 1))), .inl (xs (tn (i + 2))), .inl (xs (tn (i + 3)))]) (S := []) (k := 4) (i := 0) (by decide) (t_X4_lands l X (xs (tn (i + 1))) (xs (tn (i + 2))) (xs (tn (i + 3))) w B.2.2.2.2.2.2.2.2.1 _ h1) me_X4_lands mi_X4_lands mv_X4_lands rfl lk_L_54 (by decide +kernel) rfl ⟨by decide, by decide⟩ ⟨hce, hsl⟩ (Nat.le_of_ble_eq_true rfl) ?_
  rintro v1 n1 fl1 w3 ⟨rfl, rfl, hv⟩
  cases hv
  show G _ _ _ _ _ _ _ _ _ _ _ _ ce sl _ 57 flT 534 (LL0 i) [.inl v] w1
  refine G_run B flG_T (pc1 := 539) (L1 := LL0 i) (S1 := [.inl (i + 1), .inr (.inr (some (41, 0))), .inr (.inr (some (5, 0))), .inl v]) (w1 := w1) (P := True) [(.aload_n 2, 0, 0, 0, 0), (.aload_n 0, 0, 0, 0, 0), (.iload_n 3, 0, 0, 0, 0), (.iconst 1, 0, 0, 1, 0), (.iadd, 0, 0, 0, 0)] (by decide +kernel) rfl trivial ?_
  refine G_sld B hX (hb 1 (by decide) (by decide)) (by decide +kernel) ?_
  refine G_run B flG_T (pc1 := 544) (L1 := LL0 i) (S1 := [.inl (i + 2), .inr (.inr (some (41, 0))), .inl (xs (tn (i + 1))), .inr (.inr (some (5, 0))), .inl v]) (w1 := w1) (P := True) [(.aload_n 0, 0, 0, 0, 0), (.iload_n 3, 0, 0, 0, 0), (.iconst 2, 0, 0, 2, 0), (.iadd, 0, 0, 0, 0)] (by decide +kernel) rfl trivial ?_
  refine G_sld B hX (hb 2 (by decide) (by decide)) (by decide +kernel) ?_
  refine G_run B flG_T (pc1 := 549) (L1 := LL0 i) (S1 := [.inl (i + 3), .inr (.inr (some (41, 0))), .inl (xs (tn (i + 2))), .inl (xs (tn (i + 1))), .inr (.inr (some (5, 0))), .inl v]) (w1 := w1) (P := True) [(.aload_n 0, 0, 0, 0, 0), (.iload_n 3, 0, 0, 0, 0), (.iconst 3, 0, 0, 3, 0), (.iadd, 0, 0, 0, 0)] (by decide +kernel) rfl trivial ?_
  refine G_sld B hX (hb 3 (by decide) (by decide)) (by decide +kernel) ?_
  refine G_callV B (As := [.inl (xs (tn (i + 1))), .inl (xs (tn (i + 2))), .inl (xs (tn (i + 3)))]) (S := [.inl v]) (k := 5) (i := 0) (by decide) (t_X5_lands l X (xs (tn (i + 1))) (xs (tn (i + 2))) (xs (tn (i + 3))) w1 B.2.2.2.2.2.2.2.2.1 _ h2) me_X5_lands mi_X5_lands mv_X5_lands rfl lk_L_57 (by decide +kernel) rfl ⟨by decide, by decide⟩ ⟨hce, hsl⟩ (Nat.le_of_ble_eq_true rfl) ?_
  rintro v1 n1 fl1 w3 ⟨rfl, rfl, hv⟩
  cases hv
  show G _ _ _ _ _ _ _ _ _ _ _ _ ce sl _ 57 flT 553 (LL0 i) [.inl v, .inl v] w2
  exact G_icmp B (k := .eq) (off := 1028) (tgt := 1581) (by decide +kernel) (by decide) (fun _ => kk) (fun h => absurd rfl h)
set_option maxRecDepth 100000 in
theorem L_10 (B : Bd X mi_L p s m args meth c) (hX : scr X s Ln xs) {i : Int32} (hb : ∀ j : Int32, 0 ≤ j → j ≤ 6 → inB (i + j) Ln) (hce : ce ≤ 600000) (hsl : sl ≤ 7302250) {v : Int32} {w1 w2 : Mem} (h1 : f_X4_land (xs (tn (i + 1))) (xs (tn (i + 2))) w = some (v, w1)) (h2 : f_X5_land (xs (tn (i + 1))) (xs (tn (i + 2))) w1 = some (v, w2)) (kk : G l X mi_L p e room_1 s m args below meth c ce sl Q 57 flT 1581 (LL0 i) [] w2) : G l X mi_L p e room_1 s m args below meth c ce sl Q 57 flT 558 (LL0 i) [] w := by
  refine G_run B flG_T (pc1 := 563) (L1 := LL0 i) (S1 := [.inl (i + 1), .inr (.inr (some (41, 0))), .inr (.inr (some (4, 0)))]) (w1 := w) (P := True) [(.aload_n 1, 0, 0, 0, 0), (.aload_n 0, 0, 0, 0, 0), (.iload_n 3, 0, 0, 0, 0), (.iconst 1, 0, 0, 1, 0), (.iadd, 0, 0, 0, 0)] (by decide +kernel) rfl trivial ?_
  refine G_sld B hX (hb 1 (by decide) (by decide)) (by decide +kernel) ?_
  refine G_run B flG_T (pc1 := 568) (L1 := LL0 i) (S1 := [.inl (i + 2), .inr (.inr (some (41, 0))), .inl (xs (tn (i + 1))), .inr (.inr (some (4, 0)))]) (w1 := w) (P := True) [(.aload_n 0, 0, 0, 0, 0), (.iload_n 3, 0, 0, 0, 0), (.iconst 2, 0, 0, 2, 0), (.iadd, 0, 0, 0, 0)] (by decide +kernel) rfl trivial ?_
  refine G_sld B hX (hb 2 (by decide) (by decide)) (by decide +kernel) ?_
  refine G_callV B (As := [.inl (xs (tn (i + 1))), .inl (xs (tn (i + 2)))]) (S := []) (k := 4) (i := 0) (by decide) (t_X4_land l X (xs (tn (i + 1))) (xs (tn (i + 2))) w B.2.2.2.2.2.2.2.2.1 _ h1) me_X4_land mi_X4_land mv_X4_land rfl lk_L_58 (by decide +kernel) rfl ⟨by decide, by decide⟩ ⟨hce, hsl⟩ (Nat.le_of_ble_eq_true rfl) ?_
  rintro v1 n1 fl1 w3 ⟨rfl, rfl, hv⟩
  cases hv
  show G _ _ _ _ _ _ _ _ _ _ _ _ ce sl _ 57 flT 572 (LL0 i) [.inl v] w1
  refine G_run B flG_T (pc1 := 577) (L1 := LL0 i) (S1 := [.inl (i + 1), .inr (.inr (some (41, 0))), .inr (.inr (some (5, 0))), .inl v]) (w1 := w1) (P := True) [(.aload_n 2, 0, 0, 0, 0), (.aload_n 0, 0, 0, 0, 0), (.iload_n 3, 0, 0, 0, 0), (.iconst 1, 0, 0, 1, 0), (.iadd, 0, 0, 0, 0)] (by decide +kernel) rfl trivial ?_
  refine G_sld B hX (hb 1 (by decide) (by decide)) (by decide +kernel) ?_
  refine G_run B flG_T (pc1 := 582) (L1 := LL0 i) (S1 := [.inl (i + 2), .inr (.inr (some (41, 0))), .inl (xs (tn (i + 1))), .inr (.inr (some (5, 0))), .inl v]) (w1 := w1) (P := True) [(.aload_n 0, 0, 0, 0, 0), (.iload_n 3, 0, 0, 0, 0), (.iconst 2, 0, 0, 2, 0), (.iadd, 0, 0, 0, 0)] (by decide +kernel) rfl trivial ?_
  refine G_sld B hX (hb 2 (by decide) (by decide)) (by decide +kernel) ?_
  refine G_callV B (As := [.inl (xs (tn (i + 1))), .inl (xs (tn (i + 2)))]) (S := [.inl v]) (k := 5) (i := 0) (by decide) (t_X5_land l X (xs (tn (i + 1))) (xs (tn (i + 2))) w1 B.2.2.2.2.2.2.2.2.1 _ h2) me_X5_land mi_X5_land mv_X5_land rfl lk_L_61 (by decide +kernel) rfl ⟨by decide, by decide⟩ ⟨hce, hsl⟩ (Nat.le_of_ble_eq_true rfl) ?_
  rintro v1 n1 fl1 w3 ⟨rfl, rfl, hv⟩
  cases hv
  show G _ _ _ _ _ _ _ _ _ _ _ _ ce sl _ 57 flT 586 (LL0 i) [.inl v, .inl v] w2
  exact G_icmp B (k := .eq) (off := 995) (tgt := 1581) (by decide +kernel) (by decide) (fun _ => kk) (fun h => absurd rfl h)
set_option maxRecDepth 100000 in
theorem L_11 (B : Bd X mi_L p s m args meth c) (hX : scr X s Ln xs) {i : Int32} (hb : ∀ j : Int32, 0 ≤ j → j ≤ 6 → inB (i + j) Ln) (hce : ce ≤ 600000) (hsl : sl ≤ 7302250) {v : Int32} {w1 w2 : Mem} (h1 : f_X4_teach (xs (tn (i + 1))) (xs (tn (i + 2))) w = some (v, w1)) (h2 : f_X5_teach (xs (tn (i + 1))) (xs (tn (i + 2))) w1 = some (v, w2)) (kk : G l X mi_L p e room_1 s m args below meth c ce sl Q 57 flT 1581 (LL0 i) [] w2) : G l X mi_L p e room_1 s m args below meth c ce sl Q 57 flT 591 (LL0 i) [] w := by
  refine G_run B flG_T (pc1 := 596) (L1 := LL0 i) (S1 := [.inl (i + 1), .inr (.inr (some (41, 0))), .inr (.inr (some (4, 0)))]) (w1 := w) (P := True) [(.aload_n 1, 0, 0, 0, 0), (.aload_n 0, 0, 0, 0, 0), (.iload_n 3, 0, 0, 0, 0), (.iconst 1, 0, 0, 1, 0), (.iadd, 0, 0, 0, 0)] (by decide +kernel) rfl trivial ?_
  refine G_sld B hX (hb 1 (by decide) (by decide)) (by decide +kernel) ?_
  refine G_run B flG_T (pc1 := 601) (L1 := LL0 i) (S1 := [.inl (i + 2), .inr (.inr (some (41, 0))), .inl (xs (tn (i + 1))), .inr (.inr (some (4, 0)))]) (w1 := w) (P := True) [(.aload_n 0, 0, 0, 0, 0), (.iload_n 3, 0, 0, 0, 0), (.iconst 2, 0, 0, 2, 0), (.iadd, 0, 0, 0, 0)] (by decide +kernel) rfl trivial ?_
  refine G_sld B hX (hb 2 (by decide) (by decide)) (by decide +kernel) ?_
  refine G_callV B (As := [.inl (xs (tn (i + 1))), .inl (xs (tn (i + 2)))]) (S := []) (k := 4) (i := 0) (by decide) (t_X4_teach l X (xs (tn (i + 1))) (xs (tn (i + 2))) w B.2.2.2.2.2.2.2.2.1 _ h1) me_X4_teach mi_X4_teach mv_X4_teach rfl lk_L_62 (by decide +kernel) rfl ⟨by decide, by decide⟩ ⟨hce, hsl⟩ (Nat.le_of_ble_eq_true rfl) ?_
  rintro v1 n1 fl1 w3 ⟨rfl, rfl, hv⟩
  cases hv
  show G _ _ _ _ _ _ _ _ _ _ _ _ ce sl _ 57 flT 605 (LL0 i) [.inl v] w1
  refine G_run B flG_T (pc1 := 610) (L1 := LL0 i) (S1 := [.inl (i + 1), .inr (.inr (some (41, 0))), .inr (.inr (some (5, 0))), .inl v]) (w1 := w1) (P := True) [(.aload_n 2, 0, 0, 0, 0), (.aload_n 0, 0, 0, 0, 0), (.iload_n 3, 0, 0, 0, 0), (.iconst 1, 0, 0, 1, 0), (.iadd, 0, 0, 0, 0)] (by decide +kernel) rfl trivial ?_
  refine G_sld B hX (hb 1 (by decide) (by decide)) (by decide +kernel) ?_
  refine G_run B flG_T (pc1 := 615) (L1 := LL0 i) (S1 := [.inl (i + 2), .inr (.inr (some (41, 0))), .inl (xs (tn (i + 1))), .inr (.inr (some (5, 0))), .inl v]) (w1 := w1) (P := True) [(.aload_n 0, 0, 0, 0, 0), (.iload_n 3, 0, 0, 0, 0), (.iconst 2, 0, 0, 2, 0), (.iadd, 0, 0, 0, 0)] (by decide +kernel) rfl trivial ?_
  refine G_sld B hX (hb 2 (by decide) (by decide)) (by decide +kernel) ?_
  refine G_callV B (As := [.inl (xs (tn (i + 1))), .inl (xs (tn (i + 2)))]) (S := [.inl v]) (k := 5) (i := 0) (by decide) (t_X5_teach l X (xs (tn (i + 1))) (xs (tn (i + 2))) w1 B.2.2.2.2.2.2.2.2.1 _ h2) me_X5_teach mi_X5_teach mv_X5_teach rfl lk_L_65 (by decide +kernel) rfl ⟨by decide, by decide⟩ ⟨hce, hsl⟩ (Nat.le_of_ble_eq_true rfl) ?_
  rintro v1 n1 fl1 w3 ⟨rfl, rfl, hv⟩
  cases hv
  show G _ _ _ _ _ _ _ _ _ _ _ _ ce sl _ 57 flT 619 (LL0 i) [.inl v, .inl v] w2
  exact G_icmp B (k := .eq) (off := 962) (tgt := 1581) (by decide +kernel) (by decide) (fun _ => kk) (fun h => absurd rfl h)
set_option maxRecDepth 100000 in
theorem L_12 (B : Bd X mi_L p s m args meth c) (hX : scr X s Ln xs) {i : Int32} (hb : ∀ j : Int32, 0 ≤ j → j ≤ 6 → inB (i + j) Ln) (hce : ce ≤ 600000) (hsl : sl ≤ 7302250) {v : Int32} {w1 w2 : Mem} (h1 : f_X4_tide  w = some (v, w1)) (h2 : f_X5_tide  w1 = some (v, w2)) (kk : G l X mi_L p e room_1 s m args below meth c ce sl Q 57 flT 1581 (LL0 i) [] w2) : G l X mi_L p e room_1 s m args below meth c ce sl Q 57 flT 624 (LL0 i) [] w := by
  refine G_run B flG_T (pc1 := 625) (L1 := LL0 i) (S1 := [.inr (.inr (some (4, 0)))]) (w1 := w) (P := True) [(.aload_n 1, 0, 0, 0, 0)] (by decide +kernel) rfl trivial ?_
  refine G_callV B (As := []) (S := []) (k := 4) (i := 0) (by decide) (t_X4_tide l X  w B.2.2.2.2.2.2.2.2.1 _ h1) me_X4_tide mi_X4_tide mv_X4_tide rfl lk_L_66 (by decide +kernel) rfl ⟨by decide, by decide⟩ ⟨hce, hsl⟩ (Nat.le_of_ble_eq_true rfl) ?_
  rintro v1 n1 fl1 w3 ⟨rfl, rfl, hv⟩
  cases hv
  show G _ _ _ _ _ _ _ _ _ _ _ _ ce sl _ 57 flT 628 (LL0 i) [.inl v] w1
  refine G_run B flG_T (pc1 := 629) (L1 := LL0 i) (S1 := [.inr (.inr (some (5, 0))), .inl v]) (w1 := w1) (P := True) [(.aload_n 2, 0, 0, 0, 0)] (by decide +kernel) rfl trivial ?_
  refine G_callV B (As := []) (S := [.inl v]) (k := 5) (i := 0) (by decide) (t_X5_tide l X  w1 B.2.2.2.2.2.2.2.2.1 _ h2) me_X5_tide mi_X5_tide mv_X5_tide rfl lk_L_69 (by decide +kernel) rfl ⟨by decide, by decide⟩ ⟨hce, hsl⟩ (Nat.le_of_ble_eq_true rfl) ?_
  rintro v1 n1 fl1 w3 ⟨rfl, rfl, hv⟩
  cases hv
  show G _ _ _ _ _ _ _ _ _ _ _ _ ce sl _ 57 flT 632 (LL0 i) [.inl v, .inl v] w2
  exact G_icmp B (k := .eq) (off := 949) (tgt := 1581) (by decide +kernel) (by decide) (fun _ => kk) (fun h => absurd rfl h)
set_option maxRecDepth 100000 in
theorem L_13 (B : Bd X mi_L p s m args meth c) (hX : scr X s Ln xs) {i : Int32} (hb : ∀ j : Int32, 0 ≤ j → j ≤ 6 → inB (i + j) Ln) (hce : ce ≤ 600000) (hsl : sl ≤ 7302250) {v : Int32} {w1 w2 : Mem} (h1 : f_X4_talk (xs (tn (i + 1))) (xs (tn (i + 2))) w = some (v, w1)) (h2 : f_X5_talk (xs (tn (i + 1))) (xs (tn (i + 2))) w1 = some (v, w2)) (kk : G l X mi_L p e room_1 s m args below meth c ce sl Q 57 flT 1581 (LL0 i) [] w2) : G l X mi_L p e room_1 s m args below meth c ce sl Q 57 flT 637 (LL0 i) [] w := by
  refine G_run B flG_T (pc1 := 642) (L1 := LL0 i) (S1 := [.inl (i + 1), .inr (.inr (some (41, 0))), .inr (.inr (some (4, 0)))]) (w1 := w) (P := True) [(.aload_n 1, 0, 0, 0, 0), (.aload_n 0, 0, 0, 0, 0), (.iload_n 3, 0, 0, 0, 0), (.iconst 1, 0, 0, 1, 0), (.iadd, 0, 0, 0, 0)] (by decide +kernel) rfl trivial ?_
  refine G_sld B hX (hb 1 (by decide) (by decide)) (by decide +kernel) ?_
  refine G_run B flG_T (pc1 := 647) (L1 := LL0 i) (S1 := [.inl (i + 2), .inr (.inr (some (41, 0))), .inl (xs (tn (i + 1))), .inr (.inr (some (4, 0)))]) (w1 := w) (P := True) [(.aload_n 0, 0, 0, 0, 0), (.iload_n 3, 0, 0, 0, 0), (.iconst 2, 0, 0, 2, 0), (.iadd, 0, 0, 0, 0)] (by decide +kernel) rfl trivial ?_
  refine G_sld B hX (hb 2 (by decide) (by decide)) (by decide +kernel) ?_
  refine G_callV B (As := [.inl (xs (tn (i + 1))), .inl (xs (tn (i + 2)))]) (S := []) (k := 4) (i := 0) (by decide) (t_X4_talk l X (xs (tn (i + 1))) (xs (tn (i + 2))) w B.2.2.2.2.2.2.2.2.1 _ h1) me_X4_talk mi_X4_talk mv_X4_talk rfl lk_L_70 (by decide +kernel) rfl ⟨by decide, by decide⟩ ⟨hce, hsl⟩ (Nat.le_of_ble_eq_true rfl) ?_
  rintro v1 n1 fl1 w3 ⟨rfl, rfl, hv⟩
  cases hv
  show G _ _ _ _ _ _ _ _ _ _ _ _ ce sl _ 57 flT 651 (LL0 i) [.inl v] w1
  refine G_run B flG_T (pc1 := 656) (L1 := LL0 i) (S1 := [.inl (i + 1), .inr (.inr (some (41, 0))), .inr (.inr (some (5, 0))), .inl v]) (w1 := w1) (P := True) [(.aload_n 2, 0, 0, 0, 0), (.aload_n 0, 0, 0, 0, 0), (.iload_n 3, 0, 0, 0, 0), (.iconst 1, 0, 0, 1, 0), (.iadd, 0, 0, 0, 0)] (by decide +kernel) rfl trivial ?_
  refine G_sld B hX (hb 1 (by decide) (by decide)) (by decide +kernel) ?_
  refine G_run B flG_T (pc1 := 661) (L1 := LL0 i) (S1 := [.inl (i + 2), .inr (.inr (some (41, 0))), .inl (xs (tn (i + 1))), .inr (.inr (some (5, 0))), .inl v]) (w1 := w1) (P := True) [(.aload_n 0, 0, 0, 0, 0), (.iload_n 3, 0, 0, 0, 0), (.iconst 2, 0, 0, 2, 0), (.iadd, 0, 0, 0, 0)] (by decide +kernel) rfl trivial ?_
  refine G_sld B hX (hb 2 (by decide) (by decide)) (by decide +kernel) ?_
  refine G_callV B (As := [.inl (xs (tn (i + 1))), .inl (xs (tn (i + 2)))]) (S := [.inl v]) (k := 5) (i := 0) (by decide) (t_X5_talk l X (xs (tn (i + 1))) (xs (tn (i + 2))) w1 B.2.2.2.2.2.2.2.2.1 _ h2) me_X5_talk mi_X5_talk mv_X5_talk rfl lk_L_73 (by decide +kernel) rfl ⟨by decide, by decide⟩ ⟨hce, hsl⟩ (Nat.le_of_ble_eq_true rfl) ?_
  rintro v1 n1 fl1 w3 ⟨rfl, rfl, hv⟩
  cases hv
  show G _ _ _ _ _ _ _ _ _ _ _ _ ce sl _ 57 flT 665 (LL0 i) [.inl v, .inl v] w2
  exact G_icmp B (k := .eq) (off := 916) (tgt := 1581) (by decide +kernel) (by decide) (fun _ => kk) (fun h => absurd rfl h)
set_option maxRecDepth 100000 in
theorem L_14 (B : Bd X mi_L p s m args meth c) (hX : scr X s Ln xs) {i : Int32} (hb : ∀ j : Int32, 0 ≤ j → j ≤ 6 → inB (i + j) Ln) (hce : ce ≤ 600000) (hsl : sl ≤ 7302250) {v : Int32} {w1 w2 : Mem} (h1 : f_X4_season (xs (tn (i + 1))) (xs (tn (i + 2))) (xs (tn (i + 3))) w = some (v, w1)) (h2 : f_X5_season (xs (tn (i + 1))) (xs (tn (i + 2))) (xs (tn (i + 3))) w1 = some (v, w2)) (kk : G l X mi_L p e room_1 s m args below meth c ce sl Q 57 flT 1581 (LL0 i) [] w2) : G l X mi_L p e room_1 s m args below meth c ce sl Q 57 flT 670 (LL0 i) [] w := by
  refine G_run B flG_T (pc1 := 675) (L1 := LL0 i) (S1 := [.inl (i + 1), .inr (.inr (some (41, 0))), .inr (.inr (some (4, 0)))]) (w1 := w) (P := True) [(.aload_n 1, 0, 0, 0, 0), (.aload_n 0, 0, 0, 0, 0), (.iload_n 3, 0, 0, 0, 0), (.iconst 1, 0, 0, 1, 0), (.iadd, 0, 0, 0, 0)] (by decide +kernel) rfl trivial ?_
  refine G_sld B hX (hb 1 (by decide) (by decide)) (by decide +kernel) ?_
  refine G_run B flG_T (pc1 := 680) (L1 := LL0 i) (S1 := [.inl (i + 2), .inr (.inr (some (41, 0))), .inl (xs (tn (i + 1))), .inr (.inr (some (4, 0)))]) (w1 := w) (P := True) [(.aload_n 0, 0, 0, 0, 0), (.iload_n 3, 0, 0, 0, 0), (.iconst 2, 0, 0, 2, 0), (.iadd, 0, 0, 0, 0)] (by decide +kernel) rfl trivial ?_
  refine G_sld B hX (hb 2 (by decide) (by decide)) (by decide +kernel) ?_
  refine G_run B flG_T (pc1 := 685) (L1 := LL0 i) (S1 := [.inl (i + 3), .inr (.inr (some (41, 0))), .inl (xs (tn (i + 2))), .inl (xs (tn (i + 1))), .inr (.inr (some (4, 0)))]) (w1 := w) (P := True) [(.aload_n 0, 0, 0, 0, 0), (.iload_n 3, 0, 0, 0, 0), (.iconst 3, 0, 0, 3, 0), (.iadd, 0, 0, 0, 0)] (by decide +kernel) rfl trivial ?_
  refine G_sld B hX (hb 3 (by decide) (by decide)) (by decide +kernel) ?_
  refine G_callV B (As := [.inl (xs (tn (i + 1))), .inl (xs (tn (i + 2))), .inl (xs (tn (i + 3)))]) (S := []) (k := 4) (i := 0) (by decide) (t_X4_season l X (xs (tn (i + 1))) (xs (tn (i + 2))) (xs (tn (i + 3))) w B.2.2.2.2.2.2.2.2.1 _ h1) me_X4_season mi_X4_season mv_X4_season rfl lk_L_74 (by decide +kernel) rfl ⟨by decide, by decide⟩ ⟨hce, hsl⟩ (Nat.le_of_ble_eq_true rfl) ?_
  rintro v1 n1 fl1 w3 ⟨rfl, rfl, hv⟩
  cases hv
  show G _ _ _ _ _ _ _ _ _ _ _ _ ce sl _ 57 flT 689 (LL0 i) [.inl v] w1
  refine G_run B flG_T (pc1 := 694) (L1 := LL0 i) (S1 := [.inl (i + 1), .inr (.inr (some (41, 0))), .inr (.inr (some (5, 0))), .inl v]) (w1 := w1) (P := True) [(.aload_n 2, 0, 0, 0, 0), (.aload_n 0, 0, 0, 0, 0), (.iload_n 3, 0, 0, 0, 0), (.iconst 1, 0, 0, 1, 0), (.iadd, 0, 0, 0, 0)] (by decide +kernel) rfl trivial ?_
  refine G_sld B hX (hb 1 (by decide) (by decide)) (by decide +kernel) ?_
  refine G_run B flG_T (pc1 := 699) (L1 := LL0 i) (S1 := [.inl (i + 2), .inr (.inr (some (41, 0))), .inl (xs (tn (i + 1))), .inr (.inr (some (5, 0))), .inl v]) (w1 := w1) (P := True) [(.aload_n 0, 0, 0, 0, 0), (.iload_n 3, 0, 0, 0, 0), (.iconst 2, 0, 0, 2, 0), (.iadd, 0, 0, 0, 0)] (by decide +kernel) rfl trivial ?_
  refine G_sld B hX (hb 2 (by decide) (by decide)) (by decide +kernel) ?_
  refine G_run B flG_T (pc1 := 704) (L1 := LL0 i) (S1 := [.inl (i + 3), .inr (.inr (some (41, 0))), .inl (xs (tn (i + 2))), .inl (xs (tn (i + 1))), .inr (.inr (some (5, 0))), .inl v]) (w1 := w1) (P := True) [(.aload_n 0, 0, 0, 0, 0), (.iload_n 3, 0, 0, 0, 0), (.iconst 3, 0, 0, 3, 0), (.iadd, 0, 0, 0, 0)] (by decide +kernel) rfl trivial ?_
  refine G_sld B hX (hb 3 (by decide) (by decide)) (by decide +kernel) ?_
  refine G_callV B (As := [.inl (xs (tn (i + 1))), .inl (xs (tn (i + 2))), .inl (xs (tn (i + 3)))]) (S := [.inl v]) (k := 5) (i := 0) (by decide) (t_X5_season l X (xs (tn (i + 1))) (xs (tn (i + 2))) (xs (tn (i + 3))) w1 B.2.2.2.2.2.2.2.2.1 _ h2) me_X5_season mi_X5_season mv_X5_season rfl lk_L_77 (by decide +kernel) rfl ⟨by decide, by decide⟩ ⟨hce, hsl⟩ (Nat.le_of_ble_eq_true rfl) ?_
  rintro v1 n1 fl1 w3 ⟨rfl, rfl, hv⟩
  cases hv
  show G _ _ _ _ _ _ _ _ _ _ _ _ ce sl _ 57 flT 708 (LL0 i) [.inl v, .inl v] w2
  exact G_icmp B (k := .eq) (off := 873) (tgt := 1581) (by decide +kernel) (by decide) (fun _ => kk) (fun h => absurd rfl h)
set_option maxRecDepth 100000 in
theorem L_15 (B : Bd X mi_L p s m args meth c) (hX : scr X s Ln xs) {i : Int32} (hb : ∀ j : Int32, 0 ≤ j → j ≤ 6 → inB (i + j) Ln) (hce : ce ≤ 600000) (hsl : sl ≤ 7302250) {v : Int32} {w1 w2 : Mem} (h1 : f_X4_fish (xs (tn (i + 1))) (xs (tn (i + 2))) w = some (v, w1)) (h2 : f_X5_fish (xs (tn (i + 1))) (xs (tn (i + 2))) w1 = some (v, w2)) (kk : G l X mi_L p e room_1 s m args below meth c ce sl Q 57 flT 1581 (LL0 i) [] w2) : G l X mi_L p e room_1 s m args below meth c ce sl Q 57 flT 713 (LL0 i) [] w := by
  refine G_run B flG_T (pc1 := 718) (L1 := LL0 i) (S1 := [.inl (i + 1), .inr (.inr (some (41, 0))), .inr (.inr (some (4, 0)))]) (w1 := w) (P := True) [(.aload_n 1, 0, 0, 0, 0), (.aload_n 0, 0, 0, 0, 0), (.iload_n 3, 0, 0, 0, 0), (.iconst 1, 0, 0, 1, 0), (.iadd, 0, 0, 0, 0)] (by decide +kernel) rfl trivial ?_
  refine G_sld B hX (hb 1 (by decide) (by decide)) (by decide +kernel) ?_
  refine G_run B flG_T (pc1 := 723) (L1 := LL0 i) (S1 := [.inl (i + 2), .inr (.inr (some (41, 0))), .inl (xs (tn (i + 1))), .inr (.inr (some (4, 0)))]) (w1 := w) (P := True) [(.aload_n 0, 0, 0, 0, 0), (.iload_n 3, 0, 0, 0, 0), (.iconst 2, 0, 0, 2, 0), (.iadd, 0, 0, 0, 0)] (by decide +kernel) rfl trivial ?_
  refine G_sld B hX (hb 2 (by decide) (by decide)) (by decide +kernel) ?_
  refine G_callV B (As := [.inl (xs (tn (i + 1))), .inl (xs (tn (i + 2)))]) (S := []) (k := 4) (i := 0) (by decide) (t_X4_fish l X (xs (tn (i + 1))) (xs (tn (i + 2))) w B.2.2.2.2.2.2.2.2.1 _ h1) me_X4_fish mi_X4_fish mv_X4_fish rfl lk_L_78 (by decide +kernel) rfl ⟨by decide, by decide⟩ ⟨hce, hsl⟩ (Nat.le_of_ble_eq_true rfl) ?_
  rintro v1 n1 fl1 w3 ⟨rfl, rfl, hv⟩
  cases hv
  show G _ _ _ _ _ _ _ _ _ _ _ _ ce sl _ 57 flT 727 (LL0 i) [.inl v] w1
  refine G_run B flG_T (pc1 := 732) (L1 := LL0 i) (S1 := [.inl (i + 1), .inr (.inr (some (41, 0))), .inr (.inr (some (5, 0))), .inl v]) (w1 := w1) (P := True) [(.aload_n 2, 0, 0, 0, 0), (.aload_n 0, 0, 0, 0, 0), (.iload_n 3, 0, 0, 0, 0), (.iconst 1, 0, 0, 1, 0), (.iadd, 0, 0, 0, 0)] (by decide +kernel) rfl trivial ?_
  refine G_sld B hX (hb 1 (by decide) (by decide)) (by decide +kernel) ?_
  refine G_run B flG_T (pc1 := 737) (L1 := LL0 i) (S1 := [.inl (i + 2), .inr (.inr (some (41, 0))), .inl (xs (tn (i + 1))), .inr (.inr (some (5, 0))), .inl v]) (w1 := w1) (P := True) [(.aload_n 0, 0, 0, 0, 0), (.iload_n 3, 0, 0, 0, 0), (.iconst 2, 0, 0, 2, 0), (.iadd, 0, 0, 0, 0)] (by decide +kernel) rfl trivial ?_
  refine G_sld B hX (hb 2 (by decide) (by decide)) (by decide +kernel) ?_
  refine G_callV B (As := [.inl (xs (tn (i + 1))), .inl (xs (tn (i + 2)))]) (S := [.inl v]) (k := 5) (i := 0) (by decide) (t_X5_fish l X (xs (tn (i + 1))) (xs (tn (i + 2))) w1 B.2.2.2.2.2.2.2.2.1 _ h2) me_X5_fish mi_X5_fish mv_X5_fish rfl lk_L_81 (by decide +kernel) rfl ⟨by decide, by decide⟩ ⟨hce, hsl⟩ (Nat.le_of_ble_eq_true rfl) ?_
  rintro v1 n1 fl1 w3 ⟨rfl, rfl, hv⟩
  cases hv
  show G _ _ _ _ _ _ _ _ _ _ _ _ ce sl _ 57 flT 741 (LL0 i) [.inl v, .inl v] w2
  exact G_icmp B (k := .eq) (off := 840) (tgt := 1581) (by decide +kernel) (by decide) (fun _ => kk) (fun h => absurd rfl h)
set_option maxRecDepth 100000 in
theorem L_16 (B : Bd X mi_L p s m args meth c) (hX : scr X s Ln xs) {i : Int32} (hb : ∀ j : Int32, 0 ≤ j → j ≤ 6 → inB (i + j) Ln) (hce : ce ≤ 600000) (hsl : sl ≤ 7302250) {v : Int32} {w1 w2 : Mem} (h1 : f_X4_which (xs (tn (i + 1))) (xs (tn (i + 2))) w = some (v, w1)) (h2 : f_X5_which (xs (tn (i + 1))) (xs (tn (i + 2))) w1 = some (v, w2)) (kk : G l X mi_L p e room_1 s m args below meth c ce sl Q 57 flT 1581 (LL0 i) [] w2) : G l X mi_L p e room_1 s m args below meth c ce sl Q 57 flT 746 (LL0 i) [] w := by
  refine G_run B flG_T (pc1 := 751) (L1 := LL0 i) (S1 := [.inl (i + 1), .inr (.inr (some (41, 0))), .inr (.inr (some (4, 0)))]) (w1 := w) (P := True) [(.aload_n 1, 0, 0, 0, 0), (.aload_n 0, 0, 0, 0, 0), (.iload_n 3, 0, 0, 0, 0), (.iconst 1, 0, 0, 1, 0), (.iadd, 0, 0, 0, 0)] (by decide +kernel) rfl trivial ?_
  refine G_sld B hX (hb 1 (by decide) (by decide)) (by decide +kernel) ?_
  refine G_run B flG_T (pc1 := 756) (L1 := LL0 i) (S1 := [.inl (i + 2), .inr (.inr (some (41, 0))), .inl (xs (tn (i + 1))), .inr (.inr (some (4, 0)))]) (w1 := w) (P := True) [(.aload_n 0, 0, 0, 0, 0), (.iload_n 3, 0, 0, 0, 0), (.iconst 2, 0, 0, 2, 0), (.iadd, 0, 0, 0, 0)] (by decide +kernel) rfl trivial ?_
  refine G_sld B hX (hb 2 (by decide) (by decide)) (by decide +kernel) ?_
  refine G_callV B (As := [.inl (xs (tn (i + 1))), .inl (xs (tn (i + 2)))]) (S := []) (k := 4) (i := 0) (by decide) (t_X4_which l X (xs (tn (i + 1))) (xs (tn (i + 2))) w B.2.2.2.2.2.2.2.2.1 _ h1) me_X4_which mi_X4_which mv_X4_which rfl lk_L_82 (by decide +kernel) rfl ⟨by decide, by decide⟩ ⟨hce, hsl⟩ (Nat.le_of_ble_eq_true rfl) ?_
  rintro v1 n1 fl1 w3 ⟨rfl, rfl, hv⟩
  cases hv
  show G _ _ _ _ _ _ _ _ _ _ _ _ ce sl _ 57 flT 760 (LL0 i) [.inl v] w1
  refine G_run B flG_T (pc1 := 765) (L1 := LL0 i) (S1 := [.inl (i + 1), .inr (.inr (some (41, 0))), .inr (.inr (some (5, 0))), .inl v]) (w1 := w1) (P := True) [(.aload_n 2, 0, 0, 0, 0), (.aload_n 0, 0, 0, 0, 0), (.iload_n 3, 0, 0, 0, 0), (.iconst 1, 0, 0, 1, 0), (.iadd, 0, 0, 0, 0)] (by decide +kernel) rfl trivial ?_
  refine G_sld B hX (hb 1 (by decide) (by decide)) (by decide +kernel) ?_
  refine G_run B flG_T (pc1 := 770) (L1 := LL0 i) (S1 := [.inl (i + 2), .inr (.inr (some (41, 0))), .inl (xs (tn (i + 1))), .inr (.inr (some (5, 0))), .inl v]) (w1 := w1) (P := True) [(.aload_n 0, 0, 0, 0, 0), (.iload_n 3, 0, 0, 0, 0), (.iconst 2, 0, 0, 2, 0), (.iadd, 0, 0, 0, 0)] (by decide +kernel) rfl trivial ?_
  refine G_sld B hX (hb 2 (by decide) (by decide)) (by decide +kernel) ?_
  refine G_callV B (As := [.inl (xs (tn (i + 1))), .inl (xs (tn (i + 2)))]) (S := [.inl v]) (k := 5) (i := 0) (by decide) (t_X5_which l X (xs (tn (i + 1))) (xs (tn (i + 2))) w1 B.2.2.2.2.2.2.2.2.1 _ h2) me_X5_which mi_X5_which mv_X5_which rfl lk_L_85 (by decide +kernel) rfl ⟨by decide, by decide⟩ ⟨hce, hsl⟩ (Nat.le_of_ble_eq_true rfl) ?_
  rintro v1 n1 fl1 w3 ⟨rfl, rfl, hv⟩
  cases hv
  show G _ _ _ _ _ _ _ _ _ _ _ _ ce sl _ 57 flT 774 (LL0 i) [.inl v, .inl v] w2
  exact G_icmp B (k := .eq) (off := 807) (tgt := 1581) (by decide +kernel) (by decide) (fun _ => kk) (fun h => absurd rfl h)
set_option maxRecDepth 100000 in
theorem L_17 (B : Bd X mi_L p s m args meth c) (hX : scr X s Ln xs) {i : Int32} (hb : ∀ j : Int32, 0 ≤ j → j ≤ 6 → inB (i + j) Ln) (hce : ce ≤ 600000) (hsl : sl ≤ 7302250) {v : Int32} {w1 w2 : Mem} (h1 : f_X4_taught (xs (tn (i + 1))) (xs (tn (i + 2))) w = some (v, w1)) (h2 : f_X5_taught (xs (tn (i + 1))) (xs (tn (i + 2))) w1 = some (v, w2)) (kk : G l X mi_L p e room_1 s m args below meth c ce sl Q 57 flT 1581 (LL0 i) [] w2) : G l X mi_L p e room_1 s m args below meth c ce sl Q 57 flT 779 (LL0 i) [] w := by
  refine G_run B flG_T (pc1 := 784) (L1 := LL0 i) (S1 := [.inl (i + 1), .inr (.inr (some (41, 0))), .inr (.inr (some (4, 0)))]) (w1 := w) (P := True) [(.aload_n 1, 0, 0, 0, 0), (.aload_n 0, 0, 0, 0, 0), (.iload_n 3, 0, 0, 0, 0), (.iconst 1, 0, 0, 1, 0), (.iadd, 0, 0, 0, 0)] (by decide +kernel) rfl trivial ?_
  refine G_sld B hX (hb 1 (by decide) (by decide)) (by decide +kernel) ?_
  refine G_run B flG_T (pc1 := 789) (L1 := LL0 i) (S1 := [.inl (i + 2), .inr (.inr (some (41, 0))), .inl (xs (tn (i + 1))), .inr (.inr (some (4, 0)))]) (w1 := w) (P := True) [(.aload_n 0, 0, 0, 0, 0), (.iload_n 3, 0, 0, 0, 0), (.iconst 2, 0, 0, 2, 0), (.iadd, 0, 0, 0, 0)] (by decide +kernel) rfl trivial ?_
  refine G_sld B hX (hb 2 (by decide) (by decide)) (by decide +kernel) ?_
  refine G_callV B (As := [.inl (xs (tn (i + 1))), .inl (xs (tn (i + 2)))]) (S := []) (k := 4) (i := 0) (by decide) (t_X4_taught l X (xs (tn (i + 1))) (xs (tn (i + 2))) w B.2.2.2.2.2.2.2.2.1 _ h1) me_X4_taught mi_X4_taught mv_X4_taught rfl lk_L_86 (by decide +kernel) rfl ⟨by decide, by decide⟩ ⟨hce, hsl⟩ (Nat.le_of_ble_eq_true rfl) ?_
  rintro v1 n1 fl1 w3 ⟨rfl, rfl, hv⟩
  cases hv
  show G _ _ _ _ _ _ _ _ _ _ _ _ ce sl _ 57 flT 793 (LL0 i) [.inl v] w1
  refine G_run B flG_T (pc1 := 798) (L1 := LL0 i) (S1 := [.inl (i + 1), .inr (.inr (some (41, 0))), .inr (.inr (some (5, 0))), .inl v]) (w1 := w1) (P := True) [(.aload_n 2, 0, 0, 0, 0), (.aload_n 0, 0, 0, 0, 0), (.iload_n 3, 0, 0, 0, 0), (.iconst 1, 0, 0, 1, 0), (.iadd, 0, 0, 0, 0)] (by decide +kernel) rfl trivial ?_
  refine G_sld B hX (hb 1 (by decide) (by decide)) (by decide +kernel) ?_
  refine G_run B flG_T (pc1 := 803) (L1 := LL0 i) (S1 := [.inl (i + 2), .inr (.inr (some (41, 0))), .inl (xs (tn (i + 1))), .inr (.inr (some (5, 0))), .inl v]) (w1 := w1) (P := True) [(.aload_n 0, 0, 0, 0, 0), (.iload_n 3, 0, 0, 0, 0), (.iconst 2, 0, 0, 2, 0), (.iadd, 0, 0, 0, 0)] (by decide +kernel) rfl trivial ?_
  refine G_sld B hX (hb 2 (by decide) (by decide)) (by decide +kernel) ?_
  refine G_callV B (As := [.inl (xs (tn (i + 1))), .inl (xs (tn (i + 2)))]) (S := [.inl v]) (k := 5) (i := 0) (by decide) (t_X5_taught l X (xs (tn (i + 1))) (xs (tn (i + 2))) w1 B.2.2.2.2.2.2.2.2.1 _ h2) me_X5_taught mi_X5_taught mv_X5_taught rfl lk_L_89 (by decide +kernel) rfl ⟨by decide, by decide⟩ ⟨hce, hsl⟩ (Nat.le_of_ble_eq_true rfl) ?_
  rintro v1 n1 fl1 w3 ⟨rfl, rfl, hv⟩
  cases hv
  show G _ _ _ _ _ _ _ _ _ _ _ _ ce sl _ 57 flT 807 (LL0 i) [.inl v, .inl v] w2
  exact G_icmp B (k := .eq) (off := 774) (tgt := 1581) (by decide +kernel) (by decide) (fun _ => kk) (fun h => absurd rfl h)
set_option maxRecDepth 100000 in
theorem L_18 (B : Bd X mi_L p s m args meth c) (hX : scr X s Ln xs) {i : Int32} (hb : ∀ j : Int32, 0 ≤ j → j ≤ 6 → inB (i + j) Ln) (hce : ce ≤ 600000) (hsl : sl ≤ 7302250) {v : Int32} {w1 w2 : Mem} (h1 : f_X4_lessons (xs (tn (i + 1))) (xs (tn (i + 2))) (xs (tn (i + 3))) w = some (v, w1)) (h2 : f_X5_lessons (xs (tn (i + 1))) (xs (tn (i + 2))) (xs (tn (i + 3))) w1 = some (v, w2)) (kk : G l X mi_L p e room_1 s m args below meth c ce sl Q 57 flT 1581 (LL0 i) [] w2) : G l X mi_L p e room_1 s m args below meth c ce sl Q 57 flT 812 (LL0 i) [] w := by
  refine G_run B flG_T (pc1 := 817) (L1 := LL0 i) (S1 := [.inl (i + 1), .inr (.inr (some (41, 0))), .inr (.inr (some (4, 0)))]) (w1 := w) (P := True) [(.aload_n 1, 0, 0, 0, 0), (.aload_n 0, 0, 0, 0, 0), (.iload_n 3, 0, 0, 0, 0), (.iconst 1, 0, 0, 1, 0), (.iadd, 0, 0, 0, 0)] (by decide +kernel) rfl trivial ?_
  refine G_sld B hX (hb 1 (by decide) (by decide)) (by decide +kernel) ?_
  refine G_run B flG_T (pc1 := 822) (L1 := LL0 i) (S1 := [.inl (i + 2), .inr (.inr (some (41, 0))), .inl (xs (tn (i + 1))), .inr (.inr (some (4, 0)))]) (w1 := w) (P := True) [(.aload_n 0, 0, 0, 0, 0), (.iload_n 3, 0, 0, 0, 0), (.iconst 2, 0, 0, 2, 0), (.iadd, 0, 0, 0, 0)] (by decide +kernel) rfl trivial ?_
  refine G_sld B hX (hb 2 (by decide) (by decide)) (by decide +kernel) ?_
  refine G_run B flG_T (pc1 := 827) (L1 := LL0 i) (S1 := [.inl (i + 3), .inr (.inr (some (41, 0))), .inl (xs (tn (i + 2))), .inl (xs (tn (i + 1))), .inr (.inr (some (4, 0)))]) (w1 := w) (P := True) [(.aload_n 0, 0, 0, 0, 0), (.iload_n 3, 0, 0, 0, 0), (.iconst 3, 0, 0, 3, 0), (.iadd, 0, 0, 0, 0)] (by decide +kernel) rfl trivial ?_
  refine G_sld B hX (hb 3 (by decide) (by decide)) (by decide +kernel) ?_
  refine G_callV B (As := [.inl (xs (tn (i + 1))), .inl (xs (tn (i + 2))), .inl (xs (tn (i + 3)))]) (S := []) (k := 4) (i := 0) (by decide) (t_X4_lessons l X (xs (tn (i + 1))) (xs (tn (i + 2))) (xs (tn (i + 3))) w B.2.2.2.2.2.2.2.2.1 _ h1) me_X4_lessons mi_X4_lessons mv_X4_lessons rfl lk_L_90 (by decide +kernel) rfl ⟨by decide, by decide⟩ ⟨hce, hsl⟩ (Nat.le_of_ble_eq_true rfl) ?_
  rintro v1 n1 fl1 w3 ⟨rfl, rfl, hv⟩
  cases hv
  show G _ _ _ _ _ _ _ _ _ _ _ _ ce sl _ 57 flT 831 (LL0 i) [.inl v] w1
  refine G_run B flG_T (pc1 := 836) (L1 := LL0 i) (S1 := [.inl (i + 1), .inr (.inr (some (41, 0))), .inr (.inr (some (5, 0))), .inl v]) (w1 := w1) (P := True) [(.aload_n 2, 0, 0, 0, 0), (.aload_n 0, 0, 0, 0, 0), (.iload_n 3, 0, 0, 0, 0), (.iconst 1, 0, 0, 1, 0), (.iadd, 0, 0, 0, 0)] (by decide +kernel) rfl trivial ?_
  refine G_sld B hX (hb 1 (by decide) (by decide)) (by decide +kernel) ?_
  refine G_run B flG_T (pc1 := 841) (L1 := LL0 i) (S1 := [.inl (i + 2), .inr (.inr (some (41, 0))), .inl (xs (tn (i + 1))), .inr (.inr (some (5, 0))), .inl v]) (w1 := w1) (P := True) [(.aload_n 0, 0, 0, 0, 0), (.iload_n 3, 0, 0, 0, 0), (.iconst 2, 0, 0, 2, 0), (.iadd, 0, 0, 0, 0)] (by decide +kernel) rfl trivial ?_
  refine G_sld B hX (hb 2 (by decide) (by decide)) (by decide +kernel) ?_
  refine G_run B flG_T (pc1 := 846) (L1 := LL0 i) (S1 := [.inl (i + 3), .inr (.inr (some (41, 0))), .inl (xs (tn (i + 2))), .inl (xs (tn (i + 1))), .inr (.inr (some (5, 0))), .inl v]) (w1 := w1) (P := True) [(.aload_n 0, 0, 0, 0, 0), (.iload_n 3, 0, 0, 0, 0), (.iconst 3, 0, 0, 3, 0), (.iadd, 0, 0, 0, 0)] (by decide +kernel) rfl trivial ?_
  refine G_sld B hX (hb 3 (by decide) (by decide)) (by decide +kernel) ?_
  refine G_callV B (As := [.inl (xs (tn (i + 1))), .inl (xs (tn (i + 2))), .inl (xs (tn (i + 3)))]) (S := [.inl v]) (k := 5) (i := 0) (by decide) (t_X5_lessons l X (xs (tn (i + 1))) (xs (tn (i + 2))) (xs (tn (i + 3))) w1 B.2.2.2.2.2.2.2.2.1 _ h2) me_X5_lessons mi_X5_lessons mv_X5_lessons rfl lk_L_93 (by decide +kernel) rfl ⟨by decide, by decide⟩ ⟨hce, hsl⟩ (Nat.le_of_ble_eq_true rfl) ?_
  rintro v1 n1 fl1 w3 ⟨rfl, rfl, hv⟩
  cases hv
  show G _ _ _ _ _ _ _ _ _ _ _ _ ce sl _ 57 flT 850 (LL0 i) [.inl v, .inl v] w2
  exact G_icmp B (k := .eq) (off := 731) (tgt := 1581) (by decide +kernel) (by decide) (fun _ => kk) (fun h => absurd rfl h)
set_option maxRecDepth 100000 in
theorem L_19 (B : Bd X mi_L p s m args meth c) (hX : scr X s Ln xs) {i : Int32} (hb : ∀ j : Int32, 0 ≤ j → j ≤ 6 → inB (i + j) Ln) (hce : ce ≤ 600000) (hsl : sl ≤ 7302250) {v : Int32} {w1 w2 : Mem} (h1 : f_X4_when (xs (tn (i + 1))) w = some (v, w1)) (h2 : f_X5_when (xs (tn (i + 1))) w1 = some (v, w2)) (kk : G l X mi_L p e room_1 s m args below meth c ce sl Q 57 flT 1581 (LL0 i) [] w2) : G l X mi_L p e room_1 s m args below meth c ce sl Q 57 flT 855 (LL0 i) [] w := by
  refine G_run B flG_T (pc1 := 860) (L1 := LL0 i) (S1 := [.inl (i + 1), .inr (.inr (some (41, 0))), .inr (.inr (some (4, 0)))]) (w1 := w) (P := True) [(.aload_n 1, 0, 0, 0, 0), (.aload_n 0, 0, 0, 0, 0), (.iload_n 3, 0, 0, 0, 0), (.iconst 1, 0, 0, 1, 0), (.iadd, 0, 0, 0, 0)] (by decide +kernel) rfl trivial ?_
  refine G_sld B hX (hb 1 (by decide) (by decide)) (by decide +kernel) ?_
  refine G_callV B (As := [.inl (xs (tn (i + 1)))]) (S := []) (k := 4) (i := 0) (by decide) (t_X4_when l X (xs (tn (i + 1))) w B.2.2.2.2.2.2.2.2.1 _ h1) me_X4_when mi_X4_when mv_X4_when rfl lk_L_94 (by decide +kernel) rfl ⟨by decide, by decide⟩ ⟨hce, hsl⟩ (Nat.le_of_ble_eq_true rfl) ?_
  rintro v1 n1 fl1 w3 ⟨rfl, rfl, hv⟩
  cases hv
  show G _ _ _ _ _ _ _ _ _ _ _ _ ce sl _ 57 flT 864 (LL0 i) [.inl v] w1
  refine G_run B flG_T (pc1 := 869) (L1 := LL0 i) (S1 := [.inl (i + 1), .inr (.inr (some (41, 0))), .inr (.inr (some (5, 0))), .inl v]) (w1 := w1) (P := True) [(.aload_n 2, 0, 0, 0, 0), (.aload_n 0, 0, 0, 0, 0), (.iload_n 3, 0, 0, 0, 0), (.iconst 1, 0, 0, 1, 0), (.iadd, 0, 0, 0, 0)] (by decide +kernel) rfl trivial ?_
  refine G_sld B hX (hb 1 (by decide) (by decide)) (by decide +kernel) ?_
  refine G_callV B (As := [.inl (xs (tn (i + 1)))]) (S := [.inl v]) (k := 5) (i := 0) (by decide) (t_X5_when l X (xs (tn (i + 1))) w1 B.2.2.2.2.2.2.2.2.1 _ h2) me_X5_when mi_X5_when mv_X5_when rfl lk_L_97 (by decide +kernel) rfl ⟨by decide, by decide⟩ ⟨hce, hsl⟩ (Nat.le_of_ble_eq_true rfl) ?_
  rintro v1 n1 fl1 w3 ⟨rfl, rfl, hv⟩
  cases hv
  show G _ _ _ _ _ _ _ _ _ _ _ _ ce sl _ 57 flT 873 (LL0 i) [.inl v, .inl v] w2
  exact G_icmp B (k := .eq) (off := 708) (tgt := 1581) (by decide +kernel) (by decide) (fun _ => kk) (fun h => absurd rfl h)
set_option maxRecDepth 100000 in
theorem L_20 (B : Bd X mi_L p s m args meth c) (hX : scr X s Ln xs) {i : Int32} (hb : ∀ j : Int32, 0 ≤ j → j ≤ 6 → inB (i + j) Ln) (hce : ce ≤ 600000) (hsl : sl ≤ 7302250) {v : Int64} {w1 w2 : Mem} (h1 : f_X4_share (xs (tn (i + 1))) (xs (tn (i + 2))) w = some (v, w1)) (h2 : f_X5_share (xs (tn (i + 1))) (xs (tn (i + 2))) w1 = some (v, w2)) (kk : G l X mi_L p e room_1 s m args below meth c ce sl Q 57 flT 1581 (LL0 i) [] w2) : G l X mi_L p e room_1 s m args below meth c ce sl Q 57 flT 878 (LL0 i) [] w := by
  refine G_run B flG_T (pc1 := 883) (L1 := LL0 i) (S1 := [.inl (i + 1), .inr (.inr (some (41, 0))), .inr (.inr (some (4, 0)))]) (w1 := w) (P := True) [(.aload_n 1, 0, 0, 0, 0), (.aload_n 0, 0, 0, 0, 0), (.iload_n 3, 0, 0, 0, 0), (.iconst 1, 0, 0, 1, 0), (.iadd, 0, 0, 0, 0)] (by decide +kernel) rfl trivial ?_
  refine G_sld B hX (hb 1 (by decide) (by decide)) (by decide +kernel) ?_
  refine G_run B flG_T (pc1 := 888) (L1 := LL0 i) (S1 := [.inl (i + 2), .inr (.inr (some (41, 0))), .inl (xs (tn (i + 1))), .inr (.inr (some (4, 0)))]) (w1 := w) (P := True) [(.aload_n 0, 0, 0, 0, 0), (.iload_n 3, 0, 0, 0, 0), (.iconst 2, 0, 0, 2, 0), (.iadd, 0, 0, 0, 0)] (by decide +kernel) rfl trivial ?_
  refine G_sld B hX (hb 2 (by decide) (by decide)) (by decide +kernel) ?_
  refine G_callV B (As := [.inl (xs (tn (i + 1))), .inl (xs (tn (i + 2)))]) (S := []) (k := 4) (i := 0) (by decide) (t_X4_share l X (xs (tn (i + 1))) (xs (tn (i + 2))) w B.2.2.2.2.2.2.2.2.1 _ h1) me_X4_share mi_X4_share mv_X4_share rfl lk_L_98 (by decide +kernel) rfl ⟨by decide, by decide⟩ ⟨hce, hsl⟩ (Nat.le_of_ble_eq_true rfl) ?_
  rintro v1 n1 fl1 w3 ⟨rfl, rfl, hv⟩
  cases hv
  show G _ _ _ _ _ _ _ _ _ _ _ _ ce sl _ 57 flT 892 (LL0 i) [.inr (.inl v)] w1
  refine G_run B flG_T (pc1 := 897) (L1 := LL0 i) (S1 := [.inl (i + 1), .inr (.inr (some (41, 0))), .inr (.inr (some (5, 0))), .inr (.inl v)]) (w1 := w1) (P := True) [(.aload_n 2, 0, 0, 0, 0), (.aload_n 0, 0, 0, 0, 0), (.iload_n 3, 0, 0, 0, 0), (.iconst 1, 0, 0, 1, 0), (.iadd, 0, 0, 0, 0)] (by decide +kernel) rfl trivial ?_
  refine G_sld B hX (hb 1 (by decide) (by decide)) (by decide +kernel) ?_
  refine G_run B flG_T (pc1 := 902) (L1 := LL0 i) (S1 := [.inl (i + 2), .inr (.inr (some (41, 0))), .inl (xs (tn (i + 1))), .inr (.inr (some (5, 0))), .inr (.inl v)]) (w1 := w1) (P := True) [(.aload_n 0, 0, 0, 0, 0), (.iload_n 3, 0, 0, 0, 0), (.iconst 2, 0, 0, 2, 0), (.iadd, 0, 0, 0, 0)] (by decide +kernel) rfl trivial ?_
  refine G_sld B hX (hb 2 (by decide) (by decide)) (by decide +kernel) ?_
  refine G_callV B (As := [.inl (xs (tn (i + 1))), .inl (xs (tn (i + 2)))]) (S := [.inr (.inl v)]) (k := 5) (i := 0) (by decide) (t_X5_share l X (xs (tn (i + 1))) (xs (tn (i + 2))) w1 B.2.2.2.2.2.2.2.2.1 _ h2) me_X5_share mi_X5_share mv_X5_share rfl lk_L_102 (by decide +kernel) rfl ⟨by decide, by decide⟩ ⟨hce, hsl⟩ (Nat.le_of_ble_eq_true rfl) ?_
  rintro v1 n1 fl1 w3 ⟨rfl, rfl, hv⟩
  cases hv
  show G _ _ _ _ _ _ _ _ _ _ _ _ ce sl _ 57 flT 906 (LL0 i) [.inr (.inl v), .inr (.inl v)] w2
  refine G_run B flG_T (pc1 := 907) (L1 := LL0 i) (S1 := [.inl (lg_cmp v v)]) (w1 := w2) (P := True) [(.lcmp, 0, 0, 0, 0)] (by decide +kernel) rfl trivial ?_
  exact G_if B (k := .eq) (off := 674) (tgt := 1581) (by decide +kernel) (by decide) (fun _ => kk) (fun h => absurd (lg_cmp_self v) h)
set_option maxRecDepth 100000 in
theorem L_21 (B : Bd X mi_L p s m args meth c) (hX : scr X s Ln xs) {i : Int32} (hb : ∀ j : Int32, 0 ≤ j → j ≤ 6 → inB (i + j) Ln) (hce : ce ≤ 600000) (hsl : sl ≤ 7302250) {v : Int32} {w1 w2 : Mem} (h1 : f_X4_judge (xs (tn (i + 1))) (xs (tn (i + 2))) (xs (tn (i + 3))) w = some (v, w1)) (h2 : f_X5_judge (xs (tn (i + 1))) (xs (tn (i + 2))) (xs (tn (i + 3))) w1 = some (v, w2)) (kk : G l X mi_L p e room_1 s m args below meth c ce sl Q 57 flT 1581 (LL0 i) [] w2) : G l X mi_L p e room_1 s m args below meth c ce sl Q 57 flT 912 (LL0 i) [] w := by
  refine G_run B flG_T (pc1 := 917) (L1 := LL0 i) (S1 := [.inl (i + 1), .inr (.inr (some (41, 0))), .inr (.inr (some (4, 0)))]) (w1 := w) (P := True) [(.aload_n 1, 0, 0, 0, 0), (.aload_n 0, 0, 0, 0, 0), (.iload_n 3, 0, 0, 0, 0), (.iconst 1, 0, 0, 1, 0), (.iadd, 0, 0, 0, 0)] (by decide +kernel) rfl trivial ?_
  refine G_sld B hX (hb 1 (by decide) (by decide)) (by decide +kernel) ?_
  refine G_run B flG_T (pc1 := 922) (L1 := LL0 i) (S1 := [.inl (i + 2), .inr (.inr (some (41, 0))), .inl (xs (tn (i + 1))), .inr (.inr (some (4, 0)))]) (w1 := w) (P := True) [(.aload_n 0, 0, 0, 0, 0), (.iload_n 3, 0, 0, 0, 0), (.iconst 2, 0, 0, 2, 0), (.iadd, 0, 0, 0, 0)] (by decide +kernel) rfl trivial ?_
  refine G_sld B hX (hb 2 (by decide) (by decide)) (by decide +kernel) ?_
  refine G_run B flG_T (pc1 := 927) (L1 := LL0 i) (S1 := [.inl (i + 3), .inr (.inr (some (41, 0))), .inl (xs (tn (i + 2))), .inl (xs (tn (i + 1))), .inr (.inr (some (4, 0)))]) (w1 := w) (P := True) [(.aload_n 0, 0, 0, 0, 0), (.iload_n 3, 0, 0, 0, 0), (.iconst 3, 0, 0, 3, 0), (.iadd, 0, 0, 0, 0)] (by decide +kernel) rfl trivial ?_
  refine G_sld B hX (hb 3 (by decide) (by decide)) (by decide +kernel) ?_
  refine G_callV B (As := [.inl (xs (tn (i + 1))), .inl (xs (tn (i + 2))), .inl (xs (tn (i + 3)))]) (S := []) (k := 4) (i := 0) (by decide) (t_X4_judge l X (xs (tn (i + 1))) (xs (tn (i + 2))) (xs (tn (i + 3))) w B.2.2.2.2.2.2.2.2.1 _ h1) me_X4_judge mi_X4_judge mv_X4_judge rfl lk_L_103 (by decide +kernel) rfl ⟨by decide, by decide⟩ ⟨hce, hsl⟩ (Nat.le_of_ble_eq_true rfl) ?_
  rintro v1 n1 fl1 w3 ⟨rfl, rfl, hv⟩
  cases hv
  show G _ _ _ _ _ _ _ _ _ _ _ _ ce sl _ 57 flT 931 (LL0 i) [.inl v] w1
  refine G_run B flG_T (pc1 := 936) (L1 := LL0 i) (S1 := [.inl (i + 1), .inr (.inr (some (41, 0))), .inr (.inr (some (5, 0))), .inl v]) (w1 := w1) (P := True) [(.aload_n 2, 0, 0, 0, 0), (.aload_n 0, 0, 0, 0, 0), (.iload_n 3, 0, 0, 0, 0), (.iconst 1, 0, 0, 1, 0), (.iadd, 0, 0, 0, 0)] (by decide +kernel) rfl trivial ?_
  refine G_sld B hX (hb 1 (by decide) (by decide)) (by decide +kernel) ?_
  refine G_run B flG_T (pc1 := 941) (L1 := LL0 i) (S1 := [.inl (i + 2), .inr (.inr (some (41, 0))), .inl (xs (tn (i + 1))), .inr (.inr (some (5, 0))), .inl v]) (w1 := w1) (P := True) [(.aload_n 0, 0, 0, 0, 0), (.iload_n 3, 0, 0, 0, 0), (.iconst 2, 0, 0, 2, 0), (.iadd, 0, 0, 0, 0)] (by decide +kernel) rfl trivial ?_
  refine G_sld B hX (hb 2 (by decide) (by decide)) (by decide +kernel) ?_
  refine G_run B flG_T (pc1 := 946) (L1 := LL0 i) (S1 := [.inl (i + 3), .inr (.inr (some (41, 0))), .inl (xs (tn (i + 2))), .inl (xs (tn (i + 1))), .inr (.inr (some (5, 0))), .inl v]) (w1 := w1) (P := True) [(.aload_n 0, 0, 0, 0, 0), (.iload_n 3, 0, 0, 0, 0), (.iconst 3, 0, 0, 3, 0), (.iadd, 0, 0, 0, 0)] (by decide +kernel) rfl trivial ?_
  refine G_sld B hX (hb 3 (by decide) (by decide)) (by decide +kernel) ?_
  refine G_callV B (As := [.inl (xs (tn (i + 1))), .inl (xs (tn (i + 2))), .inl (xs (tn (i + 3)))]) (S := [.inl v]) (k := 5) (i := 0) (by decide) (t_X5_judge l X (xs (tn (i + 1))) (xs (tn (i + 2))) (xs (tn (i + 3))) w1 B.2.2.2.2.2.2.2.2.1 _ h2) me_X5_judge mi_X5_judge mv_X5_judge rfl lk_L_106 (by decide +kernel) rfl ⟨by decide, by decide⟩ ⟨hce, hsl⟩ (Nat.le_of_ble_eq_true rfl) ?_
  rintro v1 n1 fl1 w3 ⟨rfl, rfl, hv⟩
  cases hv
  show G _ _ _ _ _ _ _ _ _ _ _ _ ce sl _ 57 flT 950 (LL0 i) [.inl v, .inl v] w2
  exact G_icmp B (k := .eq) (off := 631) (tgt := 1581) (by decide +kernel) (by decide) (fun _ => kk) (fun h => absurd rfl h)
set_option maxRecDepth 100000 in
theorem L_22 (B : Bd X mi_L p s m args meth c) (hX : scr X s Ln xs) {i : Int32} (hb : ∀ j : Int32, 0 ≤ j → j ≤ 6 → inB (i + j) Ln) (hce : ce ≤ 600000) (hsl : sl ≤ 7302250) {v : Int32} {w1 w2 : Mem} (h1 : f_X4_kinds (xs (tn (i + 1))) (xs (tn (i + 2))) (xs (tn (i + 3))) (xs (tn (i + 4))) w = some (v, w1)) (h2 : f_X5_kinds (xs (tn (i + 1))) (xs (tn (i + 2))) (xs (tn (i + 3))) (xs (tn (i + 4))) w1 = some (v, w2)) (kk : G l X mi_L p e room_1 s m args below meth c ce sl Q 57 flT 1581 (LL0 i) [] w2) : G l X mi_L p e room_1 s m args below meth c ce sl Q 57 flT 955 (LL0 i) [] w := by
  refine G_run B flG_T (pc1 := 960) (L1 := LL0 i) (S1 := [.inl (i + 1), .inr (.inr (some (41, 0))), .inr (.inr (some (4, 0)))]) (w1 := w) (P := True) [(.aload_n 1, 0, 0, 0, 0), (.aload_n 0, 0, 0, 0, 0), (.iload_n 3, 0, 0, 0, 0), (.iconst 1, 0, 0, 1, 0), (.iadd, 0, 0, 0, 0)] (by decide +kernel) rfl trivial ?_
  refine G_sld B hX (hb 1 (by decide) (by decide)) (by decide +kernel) ?_
  refine G_run B flG_T (pc1 := 965) (L1 := LL0 i) (S1 := [.inl (i + 2), .inr (.inr (some (41, 0))), .inl (xs (tn (i + 1))), .inr (.inr (some (4, 0)))]) (w1 := w) (P := True) [(.aload_n 0, 0, 0, 0, 0), (.iload_n 3, 0, 0, 0, 0), (.iconst 2, 0, 0, 2, 0), (.iadd, 0, 0, 0, 0)] (by decide +kernel) rfl trivial ?_
  refine G_sld B hX (hb 2 (by decide) (by decide)) (by decide +kernel) ?_
  refine G_run B flG_T (pc1 := 970) (L1 := LL0 i) (S1 := [.inl (i + 3), .inr (.inr (some (41, 0))), .inl (xs (tn (i + 2))), .inl (xs (tn (i + 1))), .inr (.inr (some (4, 0)))]) (w1 := w) (P := True) [(.aload_n 0, 0, 0, 0, 0), (.iload_n 3, 0, 0, 0, 0), (.iconst 3, 0, 0, 3, 0), (.iadd, 0, 0, 0, 0)] (by decide +kernel) rfl trivial ?_
  refine G_sld B hX (hb 3 (by decide) (by decide)) (by decide +kernel) ?_
  refine G_run B flG_T (pc1 := 975) (L1 := LL0 i) (S1 := [.inl (i + 4), .inr (.inr (some (41, 0))), .inl (xs (tn (i + 3))), .inl (xs (tn (i + 2))), .inl (xs (tn (i + 1))), .inr (.inr (some (4, 0)))]) (w1 := w) (P := True) [(.aload_n 0, 0, 0, 0, 0), (.iload_n 3, 0, 0, 0, 0), (.iconst 4, 0, 0, 4, 0), (.iadd, 0, 0, 0, 0)] (by decide +kernel) rfl trivial ?_
  refine G_sld B hX (hb 4 (by decide) (by decide)) (by decide +kernel) ?_
  refine G_callV B (As := [.inl (xs (tn (i + 1))), .inl (xs (tn (i + 2))), .inl (xs (tn (i + 3))), .inl (xs (tn (i + 4)))]) (S := []) (k := 4) (i := 0) (by decide) (t_X4_kinds l X (xs (tn (i + 1))) (xs (tn (i + 2))) (xs (tn (i + 3))) (xs (tn (i + 4))) w B.2.2.2.2.2.2.2.2.1 _ h1) me_X4_kinds mi_X4_kinds mv_X4_kinds rfl lk_L_107 (by decide +kernel) rfl ⟨by decide, by decide⟩ ⟨hce, hsl⟩ (Nat.le_of_ble_eq_true rfl) ?_
  rintro v1 n1 fl1 w3 ⟨rfl, rfl, hv⟩
  cases hv
  show G _ _ _ _ _ _ _ _ _ _ _ _ ce sl _ 57 flT 979 (LL0 i) [.inl v] w1
  refine G_run B flG_T (pc1 := 984) (L1 := LL0 i) (S1 := [.inl (i + 1), .inr (.inr (some (41, 0))), .inr (.inr (some (5, 0))), .inl v]) (w1 := w1) (P := True) [(.aload_n 2, 0, 0, 0, 0), (.aload_n 0, 0, 0, 0, 0), (.iload_n 3, 0, 0, 0, 0), (.iconst 1, 0, 0, 1, 0), (.iadd, 0, 0, 0, 0)] (by decide +kernel) rfl trivial ?_
  refine G_sld B hX (hb 1 (by decide) (by decide)) (by decide +kernel) ?_
  refine G_run B flG_T (pc1 := 989) (L1 := LL0 i) (S1 := [.inl (i + 2), .inr (.inr (some (41, 0))), .inl (xs (tn (i + 1))), .inr (.inr (some (5, 0))), .inl v]) (w1 := w1) (P := True) [(.aload_n 0, 0, 0, 0, 0), (.iload_n 3, 0, 0, 0, 0), (.iconst 2, 0, 0, 2, 0), (.iadd, 0, 0, 0, 0)] (by decide +kernel) rfl trivial ?_
  refine G_sld B hX (hb 2 (by decide) (by decide)) (by decide +kernel) ?_
  refine G_run B flG_T (pc1 := 994) (L1 := LL0 i) (S1 := [.inl (i + 3), .inr (.inr (some (41, 0))), .inl (xs (tn (i + 2))), .inl (xs (tn (i + 1))), .inr (.inr (some (5, 0))), .inl v]) (w1 := w1) (P := True) [(.aload_n 0, 0, 0, 0, 0), (.iload_n 3, 0, 0, 0, 0), (.iconst 3, 0, 0, 3, 0), (.iadd, 0, 0, 0, 0)] (by decide +kernel) rfl trivial ?_
  refine G_sld B hX (hb 3 (by decide) (by decide)) (by decide +kernel) ?_
  refine G_run B flG_T (pc1 := 999) (L1 := LL0 i) (S1 := [.inl (i + 4), .inr (.inr (some (41, 0))), .inl (xs (tn (i + 3))), .inl (xs (tn (i + 2))), .inl (xs (tn (i + 1))), .inr (.inr (some (5, 0))), .inl v]) (w1 := w1) (P := True) [(.aload_n 0, 0, 0, 0, 0), (.iload_n 3, 0, 0, 0, 0), (.iconst 4, 0, 0, 4, 0), (.iadd, 0, 0, 0, 0)] (by decide +kernel) rfl trivial ?_
  refine G_sld B hX (hb 4 (by decide) (by decide)) (by decide +kernel) ?_
  refine G_callV B (As := [.inl (xs (tn (i + 1))), .inl (xs (tn (i + 2))), .inl (xs (tn (i + 3))), .inl (xs (tn (i + 4)))]) (S := [.inl v]) (k := 5) (i := 0) (by decide) (t_X5_kinds l X (xs (tn (i + 1))) (xs (tn (i + 2))) (xs (tn (i + 3))) (xs (tn (i + 4))) w1 B.2.2.2.2.2.2.2.2.1 _ h2) me_X5_kinds mi_X5_kinds mv_X5_kinds rfl lk_L_111 (by decide +kernel) rfl ⟨by decide, by decide⟩ ⟨hce, hsl⟩ (Nat.le_of_ble_eq_true rfl) ?_
  rintro v1 n1 fl1 w3 ⟨rfl, rfl, hv⟩
  cases hv
  show G _ _ _ _ _ _ _ _ _ _ _ _ ce sl _ 57 flT 1003 (LL0 i) [.inl v, .inl v] w2
  exact G_icmp B (k := .eq) (off := 578) (tgt := 1581) (by decide +kernel) (by decide) (fun _ => kk) (fun h => absurd rfl h)
set_option maxRecDepth 100000 in
theorem L_23 (B : Bd X mi_L p s m args meth c) (hX : scr X s Ln xs) {i : Int32} (hb : ∀ j : Int32, 0 ≤ j → j ≤ 6 → inB (i + j) Ln) (hce : ce ≤ 600000) (hsl : sl ≤ 7302250) {v : Int32} {w1 w2 : Mem} (h1 : f_X4_turned (xs (tn (i + 1))) (xs (tn (i + 2))) (xs (tn (i + 3))) w = some (v, w1)) (h2 : f_X5_turned (xs (tn (i + 1))) (xs (tn (i + 2))) (xs (tn (i + 3))) w1 = some (v, w2)) (kk : G l X mi_L p e room_1 s m args below meth c ce sl Q 57 flT 1581 (LL0 i) [] w2) : G l X mi_L p e room_1 s m args below meth c ce sl Q 57 flT 1008 (LL0 i) [] w := by
  refine G_run B flG_T (pc1 := 1013) (L1 := LL0 i) (S1 := [.inl (i + 1), .inr (.inr (some (41, 0))), .inr (.inr (some (4, 0)))]) (w1 := w) (P := True) [(.aload_n 1, 0, 0, 0, 0), (.aload_n 0, 0, 0, 0, 0), (.iload_n 3, 0, 0, 0, 0), (.iconst 1, 0, 0, 1, 0), (.iadd, 0, 0, 0, 0)] (by decide +kernel) rfl trivial ?_
  refine G_sld B hX (hb 1 (by decide) (by decide)) (by decide +kernel) ?_
  refine G_run B flG_T (pc1 := 1018) (L1 := LL0 i) (S1 := [.inl (i + 2), .inr (.inr (some (41, 0))), .inl (xs (tn (i + 1))), .inr (.inr (some (4, 0)))]) (w1 := w) (P := True) [(.aload_n 0, 0, 0, 0, 0), (.iload_n 3, 0, 0, 0, 0), (.iconst 2, 0, 0, 2, 0), (.iadd, 0, 0, 0, 0)] (by decide +kernel) rfl trivial ?_
  refine G_sld B hX (hb 2 (by decide) (by decide)) (by decide +kernel) ?_
  refine G_run B flG_T (pc1 := 1023) (L1 := LL0 i) (S1 := [.inl (i + 3), .inr (.inr (some (41, 0))), .inl (xs (tn (i + 2))), .inl (xs (tn (i + 1))), .inr (.inr (some (4, 0)))]) (w1 := w) (P := True) [(.aload_n 0, 0, 0, 0, 0), (.iload_n 3, 0, 0, 0, 0), (.iconst 3, 0, 0, 3, 0), (.iadd, 0, 0, 0, 0)] (by decide +kernel) rfl trivial ?_
  refine G_sld B hX (hb 3 (by decide) (by decide)) (by decide +kernel) ?_
  refine G_callV B (As := [.inl (xs (tn (i + 1))), .inl (xs (tn (i + 2))), .inl (xs (tn (i + 3)))]) (S := []) (k := 4) (i := 0) (by decide) (t_X4_turned l X (xs (tn (i + 1))) (xs (tn (i + 2))) (xs (tn (i + 3))) w B.2.2.2.2.2.2.2.2.1 _ h1) me_X4_turned mi_X4_turned mv_X4_turned rfl lk_L_112 (by decide +kernel) rfl ⟨by decide, by decide⟩ ⟨hce, hsl⟩ (Nat.le_of_ble_eq_true rfl) ?_
  rintro v1 n1 fl1 w3 ⟨rfl, rfl, hv⟩
  cases hv
  show G _ _ _ _ _ _ _ _ _ _ _ _ ce sl _ 57 flT 1027 (LL0 i) [.inl v] w1
  refine G_run B flG_T (pc1 := 1032) (L1 := LL0 i) (S1 := [.inl (i + 1), .inr (.inr (some (41, 0))), .inr (.inr (some (5, 0))), .inl v]) (w1 := w1) (P := True) [(.aload_n 2, 0, 0, 0, 0), (.aload_n 0, 0, 0, 0, 0), (.iload_n 3, 0, 0, 0, 0), (.iconst 1, 0, 0, 1, 0), (.iadd, 0, 0, 0, 0)] (by decide +kernel) rfl trivial ?_
  refine G_sld B hX (hb 1 (by decide) (by decide)) (by decide +kernel) ?_
  refine G_run B flG_T (pc1 := 1037) (L1 := LL0 i) (S1 := [.inl (i + 2), .inr (.inr (some (41, 0))), .inl (xs (tn (i + 1))), .inr (.inr (some (5, 0))), .inl v]) (w1 := w1) (P := True) [(.aload_n 0, 0, 0, 0, 0), (.iload_n 3, 0, 0, 0, 0), (.iconst 2, 0, 0, 2, 0), (.iadd, 0, 0, 0, 0)] (by decide +kernel) rfl trivial ?_
  refine G_sld B hX (hb 2 (by decide) (by decide)) (by decide +kernel) ?_
  refine G_run B flG_T (pc1 := 1042) (L1 := LL0 i) (S1 := [.inl (i + 3), .inr (.inr (some (41, 0))), .inl (xs (tn (i + 2))), .inl (xs (tn (i + 1))), .inr (.inr (some (5, 0))), .inl v]) (w1 := w1) (P := True) [(.aload_n 0, 0, 0, 0, 0), (.iload_n 3, 0, 0, 0, 0), (.iconst 3, 0, 0, 3, 0), (.iadd, 0, 0, 0, 0)] (by decide +kernel) rfl trivial ?_
  refine G_sld B hX (hb 3 (by decide) (by decide)) (by decide +kernel) ?_
  refine G_callV B (As := [.inl (xs (tn (i + 1))), .inl (xs (tn (i + 2))), .inl (xs (tn (i + 3)))]) (S := [.inl v]) (k := 5) (i := 0) (by decide) (t_X5_turned l X (xs (tn (i + 1))) (xs (tn (i + 2))) (xs (tn (i + 3))) w1 B.2.2.2.2.2.2.2.2.1 _ h2) me_X5_turned mi_X5_turned mv_X5_turned rfl lk_L_115 (by decide +kernel) rfl ⟨by decide, by decide⟩ ⟨hce, hsl⟩ (Nat.le_of_ble_eq_true rfl) ?_
  rintro v1 n1 fl1 w3 ⟨rfl, rfl, hv⟩
  cases hv
  show G _ _ _ _ _ _ _ _ _ _ _ _ ce sl _ 57 flT 1046 (LL0 i) [.inl v, .inl v] w2
  exact G_icmp B (k := .eq) (off := 535) (tgt := 1581) (by decide +kernel) (by decide) (fun _ => kk) (fun h => absurd rfl h)
set_option maxRecDepth 100000 in
theorem L_24 (B : Bd X mi_L p s m args meth c) (hX : scr X s Ln xs) {i : Int32} (hb : ∀ j : Int32, 0 ≤ j → j ≤ 6 → inB (i + j) Ln) (hce : ce ≤ 600000) (hsl : sl ≤ 7302250) {v : Int32} {w1 w2 : Mem} (h1 : f_X4_lucks (xs (tn (i + 1))) (xs (tn (i + 2))) (xs (tn (i + 3))) (xs (tn (i + 4))) w = some (v, w1)) (h2 : f_X5_lucks (xs (tn (i + 1))) (xs (tn (i + 2))) (xs (tn (i + 3))) (xs (tn (i + 4))) w1 = some (v, w2)) (kk : G l X mi_L p e room_1 s m args below meth c ce sl Q 57 flT 1581 (LL0 i) [] w2) : G l X mi_L p e room_1 s m args below meth c ce sl Q 57 flT 1051 (LL0 i) [] w := by
  refine G_run B flG_T (pc1 := 1056) (L1 := LL0 i) (S1 := [.inl (i + 1), .inr (.inr (some (41, 0))), .inr (.inr (some (4, 0)))]) (w1 := w) (P := True) [(.aload_n 1, 0, 0, 0, 0), (.aload_n 0, 0, 0, 0, 0), (.iload_n 3, 0, 0, 0, 0), (.iconst 1, 0, 0, 1, 0), (.iadd, 0, 0, 0, 0)] (by decide +kernel) rfl trivial ?_
  refine G_sld B hX (hb 1 (by decide) (by decide)) (by decide +kernel) ?_
  refine G_run B flG_T (pc1 := 1061) (L1 := LL0 i) (S1 := [.inl (i + 2), .inr (.inr (some (41, 0))), .inl (xs (tn (i + 1))), .inr (.inr (some (4, 0)))]) (w1 := w) (P := True) [(.aload_n 0, 0, 0, 0, 0), (.iload_n 3, 0, 0, 0, 0), (.iconst 2, 0, 0, 2, 0), (.iadd, 0, 0, 0, 0)] (by decide +kernel) rfl trivial ?_
  refine G_sld B hX (hb 2 (by decide) (by decide)) (by decide +kernel) ?_
  refine G_run B flG_T (pc1 := 1066) (L1 := LL0 i) (S1 := [.inl (i + 3), .inr (.inr (some (41, 0))), .inl (xs (tn (i + 2))), .inl (xs (tn (i + 1))), .inr (.inr (some (4, 0)))]) (w1 := w) (P := True) [(.aload_n 0, 0, 0, 0, 0), (.iload_n 3, 0, 0, 0, 0), (.iconst 3, 0, 0, 3, 0), (.iadd, 0, 0, 0, 0)] (by decide +kernel) rfl trivial ?_
  refine G_sld B hX (hb 3 (by decide) (by decide)) (by decide +kernel) ?_
  refine G_run B flG_T (pc1 := 1071) (L1 := LL0 i) (S1 := [.inl (i + 4), .inr (.inr (some (41, 0))), .inl (xs (tn (i + 3))), .inl (xs (tn (i + 2))), .inl (xs (tn (i + 1))), .inr (.inr (some (4, 0)))]) (w1 := w) (P := True) [(.aload_n 0, 0, 0, 0, 0), (.iload_n 3, 0, 0, 0, 0), (.iconst 4, 0, 0, 4, 0), (.iadd, 0, 0, 0, 0)] (by decide +kernel) rfl trivial ?_
  refine G_sld B hX (hb 4 (by decide) (by decide)) (by decide +kernel) ?_
  refine G_callV B (As := [.inl (xs (tn (i + 1))), .inl (xs (tn (i + 2))), .inl (xs (tn (i + 3))), .inl (xs (tn (i + 4)))]) (S := []) (k := 4) (i := 0) (by decide) (t_X4_lucks l X (xs (tn (i + 1))) (xs (tn (i + 2))) (xs (tn (i + 3))) (xs (tn (i + 4))) w B.2.2.2.2.2.2.2.2.1 _ h1) me_X4_lucks mi_X4_lucks mv_X4_lucks rfl lk_L_116 (by decide +kernel) rfl ⟨by decide, by decide⟩ ⟨hce, hsl⟩ (Nat.le_of_ble_eq_true rfl) ?_
  rintro v1 n1 fl1 w3 ⟨rfl, rfl, hv⟩
  cases hv
  show G _ _ _ _ _ _ _ _ _ _ _ _ ce sl _ 57 flT 1075 (LL0 i) [.inl v] w1
  refine G_run B flG_T (pc1 := 1080) (L1 := LL0 i) (S1 := [.inl (i + 1), .inr (.inr (some (41, 0))), .inr (.inr (some (5, 0))), .inl v]) (w1 := w1) (P := True) [(.aload_n 2, 0, 0, 0, 0), (.aload_n 0, 0, 0, 0, 0), (.iload_n 3, 0, 0, 0, 0), (.iconst 1, 0, 0, 1, 0), (.iadd, 0, 0, 0, 0)] (by decide +kernel) rfl trivial ?_
  refine G_sld B hX (hb 1 (by decide) (by decide)) (by decide +kernel) ?_
  refine G_run B flG_T (pc1 := 1085) (L1 := LL0 i) (S1 := [.inl (i + 2), .inr (.inr (some (41, 0))), .inl (xs (tn (i + 1))), .inr (.inr (some (5, 0))), .inl v]) (w1 := w1) (P := True) [(.aload_n 0, 0, 0, 0, 0), (.iload_n 3, 0, 0, 0, 0), (.iconst 2, 0, 0, 2, 0), (.iadd, 0, 0, 0, 0)] (by decide +kernel) rfl trivial ?_
  refine G_sld B hX (hb 2 (by decide) (by decide)) (by decide +kernel) ?_
  refine G_run B flG_T (pc1 := 1090) (L1 := LL0 i) (S1 := [.inl (i + 3), .inr (.inr (some (41, 0))), .inl (xs (tn (i + 2))), .inl (xs (tn (i + 1))), .inr (.inr (some (5, 0))), .inl v]) (w1 := w1) (P := True) [(.aload_n 0, 0, 0, 0, 0), (.iload_n 3, 0, 0, 0, 0), (.iconst 3, 0, 0, 3, 0), (.iadd, 0, 0, 0, 0)] (by decide +kernel) rfl trivial ?_
  refine G_sld B hX (hb 3 (by decide) (by decide)) (by decide +kernel) ?_
  refine G_run B flG_T (pc1 := 1095) (L1 := LL0 i) (S1 := [.inl (i + 4), .inr (.inr (some (41, 0))), .inl (xs (tn (i + 3))), .inl (xs (tn (i + 2))), .inl (xs (tn (i + 1))), .inr (.inr (some (5, 0))), .inl v]) (w1 := w1) (P := True) [(.aload_n 0, 0, 0, 0, 0), (.iload_n 3, 0, 0, 0, 0), (.iconst 4, 0, 0, 4, 0), (.iadd, 0, 0, 0, 0)] (by decide +kernel) rfl trivial ?_
  refine G_sld B hX (hb 4 (by decide) (by decide)) (by decide +kernel) ?_
  refine G_callV B (As := [.inl (xs (tn (i + 1))), .inl (xs (tn (i + 2))), .inl (xs (tn (i + 3))), .inl (xs (tn (i + 4)))]) (S := [.inl v]) (k := 5) (i := 0) (by decide) (t_X5_lucks l X (xs (tn (i + 1))) (xs (tn (i + 2))) (xs (tn (i + 3))) (xs (tn (i + 4))) w1 B.2.2.2.2.2.2.2.2.1 _ h2) me_X5_lucks mi_X5_lucks mv_X5_lucks rfl lk_L_119 (by decide +kernel) rfl ⟨by decide, by decide⟩ ⟨hce, hsl⟩ (Nat.le_of_ble_eq_true rfl) ?_
  rintro v1 n1 fl1 w3 ⟨rfl, rfl, hv⟩
  cases hv
  show G _ _ _ _ _ _ _ _ _ _ _ _ ce sl _ 57 flT 1099 (LL0 i) [.inl v, .inl v] w2
  exact G_icmp B (k := .eq) (off := 482) (tgt := 1581) (by decide +kernel) (by decide) (fun _ => kk) (fun h => absurd rfl h)
set_option maxRecDepth 100000 in
theorem L_25 (B : Bd X mi_L p s m args meth c) (hX : scr X s Ln xs) {i : Int32} (hb : ∀ j : Int32, 0 ≤ j → j ≤ 6 → inB (i + j) Ln) (hce : ce ≤ 600000) (hsl : sl ≤ 7302250) {v : Int32} {w1 w2 : Mem} (h1 : f_X4_whose (xs (tn (i + 1))) (xs (tn (i + 2))) w = some (v, w1)) (h2 : f_X5_whose (xs (tn (i + 1))) (xs (tn (i + 2))) w1 = some (v, w2)) (kk : G l X mi_L p e room_1 s m args below meth c ce sl Q 57 flT 1581 (LL0 i) [] w2) : G l X mi_L p e room_1 s m args below meth c ce sl Q 57 flT 1104 (LL0 i) [] w := by
  refine G_run B flG_T (pc1 := 1109) (L1 := LL0 i) (S1 := [.inl (i + 1), .inr (.inr (some (41, 0))), .inr (.inr (some (4, 0)))]) (w1 := w) (P := True) [(.aload_n 1, 0, 0, 0, 0), (.aload_n 0, 0, 0, 0, 0), (.iload_n 3, 0, 0, 0, 0), (.iconst 1, 0, 0, 1, 0), (.iadd, 0, 0, 0, 0)] (by decide +kernel) rfl trivial ?_
  refine G_sld B hX (hb 1 (by decide) (by decide)) (by decide +kernel) ?_
  refine G_run B flG_T (pc1 := 1114) (L1 := LL0 i) (S1 := [.inl (i + 2), .inr (.inr (some (41, 0))), .inl (xs (tn (i + 1))), .inr (.inr (some (4, 0)))]) (w1 := w) (P := True) [(.aload_n 0, 0, 0, 0, 0), (.iload_n 3, 0, 0, 0, 0), (.iconst 2, 0, 0, 2, 0), (.iadd, 0, 0, 0, 0)] (by decide +kernel) rfl trivial ?_
  refine G_sld B hX (hb 2 (by decide) (by decide)) (by decide +kernel) ?_
  refine G_callV B (As := [.inl (xs (tn (i + 1))), .inl (xs (tn (i + 2)))]) (S := []) (k := 4) (i := 0) (by decide) (t_X4_whose l X (xs (tn (i + 1))) (xs (tn (i + 2))) w B.2.2.2.2.2.2.2.2.1 _ h1) me_X4_whose mi_X4_whose mv_X4_whose rfl lk_L_120 (by decide +kernel) rfl ⟨by decide, by decide⟩ ⟨hce, hsl⟩ (Nat.le_of_ble_eq_true rfl) ?_
  rintro v1 n1 fl1 w3 ⟨rfl, rfl, hv⟩
  cases hv
  show G _ _ _ _ _ _ _ _ _ _ _ _ ce sl _ 57 flT 1118 (LL0 i) [.inl v] w1
  refine G_run B flG_T (pc1 := 1123) (L1 := LL0 i) (S1 := [.inl (i + 1), .inr (.inr (some (41, 0))), .inr (.inr (some (5, 0))), .inl v]) (w1 := w1) (P := True) [(.aload_n 2, 0, 0, 0, 0), (.aload_n 0, 0, 0, 0, 0), (.iload_n 3, 0, 0, 0, 0), (.iconst 1, 0, 0, 1, 0), (.iadd, 0, 0, 0, 0)] (by decide +kernel) rfl trivial ?_
  refine G_sld B hX (hb 1 (by decide) (by decide)) (by decide +kernel) ?_
  refine G_run B flG_T (pc1 := 1128) (L1 := LL0 i) (S1 := [.inl (i + 2), .inr (.inr (some (41, 0))), .inl (xs (tn (i + 1))), .inr (.inr (some (5, 0))), .inl v]) (w1 := w1) (P := True) [(.aload_n 0, 0, 0, 0, 0), (.iload_n 3, 0, 0, 0, 0), (.iconst 2, 0, 0, 2, 0), (.iadd, 0, 0, 0, 0)] (by decide +kernel) rfl trivial ?_
  refine G_sld B hX (hb 2 (by decide) (by decide)) (by decide +kernel) ?_
  refine G_callV B (As := [.inl (xs (tn (i + 1))), .inl (xs (tn (i + 2)))]) (S := [.inl v]) (k := 5) (i := 0) (by decide) (t_X5_whose l X (xs (tn (i + 1))) (xs (tn (i + 2))) w1 B.2.2.2.2.2.2.2.2.1 _ h2) me_X5_whose mi_X5_whose mv_X5_whose rfl lk_L_123 (by decide +kernel) rfl ⟨by decide, by decide⟩ ⟨hce, hsl⟩ (Nat.le_of_ble_eq_true rfl) ?_
  rintro v1 n1 fl1 w3 ⟨rfl, rfl, hv⟩
  cases hv
  show G _ _ _ _ _ _ _ _ _ _ _ _ ce sl _ 57 flT 1132 (LL0 i) [.inl v, .inl v] w2
  exact G_icmp B (k := .eq) (off := 449) (tgt := 1581) (by decide +kernel) (by decide) (fun _ => kk) (fun h => absurd rfl h)
set_option maxRecDepth 100000 in
theorem L_26 (B : Bd X mi_L p s m args meth c) (hX : scr X s Ln xs) {i : Int32} (hb : ∀ j : Int32, 0 ≤ j → j ≤ 6 → inB (i + j) Ln) (hce : ce ≤ 600000) (hsl : sl ≤ 7302250) {v : Int32} {w1 w2 : Mem} (h1 : f_X4_laws (xs (tn (i + 1))) (xs (tn (i + 2))) (xs (tn (i + 3))) w = some (v, w1)) (h2 : f_X5_laws (xs (tn (i + 1))) (xs (tn (i + 2))) (xs (tn (i + 3))) w1 = some (v, w2)) (kk : G l X mi_L p e room_1 s m args below meth c ce sl Q 57 flT 1581 (LL0 i) [] w2) : G l X mi_L p e room_1 s m args below meth c ce sl Q 57 flT 1137 (LL0 i) [] w := by
  refine G_run B flG_T (pc1 := 1142) (L1 := LL0 i) (S1 := [.inl (i + 1), .inr (.inr (some (41, 0))), .inr (.inr (some (4, 0)))]) (w1 := w) (P := True) [(.aload_n 1, 0, 0, 0, 0), (.aload_n 0, 0, 0, 0, 0), (.iload_n 3, 0, 0, 0, 0), (.iconst 1, 0, 0, 1, 0), (.iadd, 0, 0, 0, 0)] (by decide +kernel) rfl trivial ?_
  refine G_sld B hX (hb 1 (by decide) (by decide)) (by decide +kernel) ?_
  refine G_run B flG_T (pc1 := 1147) (L1 := LL0 i) (S1 := [.inl (i + 2), .inr (.inr (some (41, 0))), .inl (xs (tn (i + 1))), .inr (.inr (some (4, 0)))]) (w1 := w) (P := True) [(.aload_n 0, 0, 0, 0, 0), (.iload_n 3, 0, 0, 0, 0), (.iconst 2, 0, 0, 2, 0), (.iadd, 0, 0, 0, 0)] (by decide +kernel) rfl trivial ?_
  refine G_sld B hX (hb 2 (by decide) (by decide)) (by decide +kernel) ?_
  refine G_run B flG_T (pc1 := 1152) (L1 := LL0 i) (S1 := [.inl (i + 3), .inr (.inr (some (41, 0))), .inl (xs (tn (i + 2))), .inl (xs (tn (i + 1))), .inr (.inr (some (4, 0)))]) (w1 := w) (P := True) [(.aload_n 0, 0, 0, 0, 0), (.iload_n 3, 0, 0, 0, 0), (.iconst 3, 0, 0, 3, 0), (.iadd, 0, 0, 0, 0)] (by decide +kernel) rfl trivial ?_
  refine G_sld B hX (hb 3 (by decide) (by decide)) (by decide +kernel) ?_
  refine G_callV B (As := [.inl (xs (tn (i + 1))), .inl (xs (tn (i + 2))), .inl (xs (tn (i + 3)))]) (S := []) (k := 4) (i := 0) (by decide) (t_X4_laws l X (xs (tn (i + 1))) (xs (tn (i + 2))) (xs (tn (i + 3))) w B.2.2.2.2.2.2.2.2.1 _ h1) me_X4_laws mi_X4_laws mv_X4_laws rfl lk_L_124 (by decide +kernel) rfl ⟨by decide, by decide⟩ ⟨hce, hsl⟩ (Nat.le_of_ble_eq_true rfl) ?_
  rintro v1 n1 fl1 w3 ⟨rfl, rfl, hv⟩
  cases hv
  show G _ _ _ _ _ _ _ _ _ _ _ _ ce sl _ 57 flT 1156 (LL0 i) [.inl v] w1
  refine G_run B flG_T (pc1 := 1161) (L1 := LL0 i) (S1 := [.inl (i + 1), .inr (.inr (some (41, 0))), .inr (.inr (some (5, 0))), .inl v]) (w1 := w1) (P := True) [(.aload_n 2, 0, 0, 0, 0), (.aload_n 0, 0, 0, 0, 0), (.iload_n 3, 0, 0, 0, 0), (.iconst 1, 0, 0, 1, 0), (.iadd, 0, 0, 0, 0)] (by decide +kernel) rfl trivial ?_
  refine G_sld B hX (hb 1 (by decide) (by decide)) (by decide +kernel) ?_
  refine G_run B flG_T (pc1 := 1166) (L1 := LL0 i) (S1 := [.inl (i + 2), .inr (.inr (some (41, 0))), .inl (xs (tn (i + 1))), .inr (.inr (some (5, 0))), .inl v]) (w1 := w1) (P := True) [(.aload_n 0, 0, 0, 0, 0), (.iload_n 3, 0, 0, 0, 0), (.iconst 2, 0, 0, 2, 0), (.iadd, 0, 0, 0, 0)] (by decide +kernel) rfl trivial ?_
  refine G_sld B hX (hb 2 (by decide) (by decide)) (by decide +kernel) ?_
  refine G_run B flG_T (pc1 := 1171) (L1 := LL0 i) (S1 := [.inl (i + 3), .inr (.inr (some (41, 0))), .inl (xs (tn (i + 2))), .inl (xs (tn (i + 1))), .inr (.inr (some (5, 0))), .inl v]) (w1 := w1) (P := True) [(.aload_n 0, 0, 0, 0, 0), (.iload_n 3, 0, 0, 0, 0), (.iconst 3, 0, 0, 3, 0), (.iadd, 0, 0, 0, 0)] (by decide +kernel) rfl trivial ?_
  refine G_sld B hX (hb 3 (by decide) (by decide)) (by decide +kernel) ?_
  refine G_callV B (As := [.inl (xs (tn (i + 1))), .inl (xs (tn (i + 2))), .inl (xs (tn (i + 3)))]) (S := [.inl v]) (k := 5) (i := 0) (by decide) (t_X5_laws l X (xs (tn (i + 1))) (xs (tn (i + 2))) (xs (tn (i + 3))) w1 B.2.2.2.2.2.2.2.2.1 _ h2) me_X5_laws mi_X5_laws mv_X5_laws rfl lk_L_127 (by decide +kernel) rfl ⟨by decide, by decide⟩ ⟨hce, hsl⟩ (Nat.le_of_ble_eq_true rfl) ?_
  rintro v1 n1 fl1 w3 ⟨rfl, rfl, hv⟩
  cases hv
  show G _ _ _ _ _ _ _ _ _ _ _ _ ce sl _ 57 flT 1175 (LL0 i) [.inl v, .inl v] w2
  exact G_icmp B (k := .eq) (off := 406) (tgt := 1581) (by decide +kernel) (by decide) (fun _ => kk) (fun h => absurd rfl h)
set_option maxRecDepth 100000 in
theorem L_27 (B : Bd X mi_L p s m args meth c) (hX : scr X s Ln xs) {i : Int32} (hb : ∀ j : Int32, 0 ≤ j → j ≤ 6 → inB (i + j) Ln) (hce : ce ≤ 600000) (hsl : sl ≤ 7302250) {v : Int32} {w1 w2 : Mem} (h1 : f_X4_film (xs (tn (i + 1))) (xs (tn (i + 2))) (xs (tn (i + 3))) w = some (v, w1)) (h2 : f_X5_film (xs (tn (i + 1))) (xs (tn (i + 2))) (xs (tn (i + 3))) w1 = some (v, w2)) (kk : G l X mi_L p e room_1 s m args below meth c ce sl Q 57 flT 1581 (LL0 i) [] w2) : G l X mi_L p e room_1 s m args below meth c ce sl Q 57 flT 1180 (LL0 i) [] w := by
  refine G_run B flG_T (pc1 := 1185) (L1 := LL0 i) (S1 := [.inl (i + 1), .inr (.inr (some (41, 0))), .inr (.inr (some (4, 0)))]) (w1 := w) (P := True) [(.aload_n 1, 0, 0, 0, 0), (.aload_n 0, 0, 0, 0, 0), (.iload_n 3, 0, 0, 0, 0), (.iconst 1, 0, 0, 1, 0), (.iadd, 0, 0, 0, 0)] (by decide +kernel) rfl trivial ?_
  refine G_sld B hX (hb 1 (by decide) (by decide)) (by decide +kernel) ?_
  refine G_run B flG_T (pc1 := 1190) (L1 := LL0 i) (S1 := [.inl (i + 2), .inr (.inr (some (41, 0))), .inl (xs (tn (i + 1))), .inr (.inr (some (4, 0)))]) (w1 := w) (P := True) [(.aload_n 0, 0, 0, 0, 0), (.iload_n 3, 0, 0, 0, 0), (.iconst 2, 0, 0, 2, 0), (.iadd, 0, 0, 0, 0)] (by decide +kernel) rfl trivial ?_
  refine G_sld B hX (hb 2 (by decide) (by decide)) (by decide +kernel) ?_
  refine G_run B flG_T (pc1 := 1195) (L1 := LL0 i) (S1 := [.inl (i + 3), .inr (.inr (some (41, 0))), .inl (xs (tn (i + 2))), .inl (xs (tn (i + 1))), .inr (.inr (some (4, 0)))]) (w1 := w) (P := True) [(.aload_n 0, 0, 0, 0, 0), (.iload_n 3, 0, 0, 0, 0), (.iconst 3, 0, 0, 3, 0), (.iadd, 0, 0, 0, 0)] (by decide +kernel) rfl trivial ?_
  refine G_sld B hX (hb 3 (by decide) (by decide)) (by decide +kernel) ?_
  refine G_callV B (As := [.inl (xs (tn (i + 1))), .inl (xs (tn (i + 2))), .inl (xs (tn (i + 3)))]) (S := []) (k := 4) (i := 0) (by decide) (t_X4_film l X (xs (tn (i + 1))) (xs (tn (i + 2))) (xs (tn (i + 3))) w B.2.2.2.2.2.2.2.2.1 _ h1) me_X4_film mi_X4_film mv_X4_film rfl lk_L_128 (by decide +kernel) rfl ⟨by decide, by decide⟩ ⟨hce, hsl⟩ (Nat.le_of_ble_eq_true rfl) ?_
  rintro v1 n1 fl1 w3 ⟨rfl, rfl, hv⟩
  cases hv
  show G _ _ _ _ _ _ _ _ _ _ _ _ ce sl _ 57 flT 1199 (LL0 i) [.inl v] w1
  refine G_run B flG_T (pc1 := 1204) (L1 := LL0 i) (S1 := [.inl (i + 1), .inr (.inr (some (41, 0))), .inr (.inr (some (5, 0))), .inl v]) (w1 := w1) (P := True) [(.aload_n 2, 0, 0, 0, 0), (.aload_n 0, 0, 0, 0, 0), (.iload_n 3, 0, 0, 0, 0), (.iconst 1, 0, 0, 1, 0), (.iadd, 0, 0, 0, 0)] (by decide +kernel) rfl trivial ?_
  refine G_sld B hX (hb 1 (by decide) (by decide)) (by decide +kernel) ?_
  refine G_run B flG_T (pc1 := 1209) (L1 := LL0 i) (S1 := [.inl (i + 2), .inr (.inr (some (41, 0))), .inl (xs (tn (i + 1))), .inr (.inr (some (5, 0))), .inl v]) (w1 := w1) (P := True) [(.aload_n 0, 0, 0, 0, 0), (.iload_n 3, 0, 0, 0, 0), (.iconst 2, 0, 0, 2, 0), (.iadd, 0, 0, 0, 0)] (by decide +kernel) rfl trivial ?_
  refine G_sld B hX (hb 2 (by decide) (by decide)) (by decide +kernel) ?_
  refine G_run B flG_T (pc1 := 1214) (L1 := LL0 i) (S1 := [.inl (i + 3), .inr (.inr (some (41, 0))), .inl (xs (tn (i + 2))), .inl (xs (tn (i + 1))), .inr (.inr (some (5, 0))), .inl v]) (w1 := w1) (P := True) [(.aload_n 0, 0, 0, 0, 0), (.iload_n 3, 0, 0, 0, 0), (.iconst 3, 0, 0, 3, 0), (.iadd, 0, 0, 0, 0)] (by decide +kernel) rfl trivial ?_
  refine G_sld B hX (hb 3 (by decide) (by decide)) (by decide +kernel) ?_
  refine G_callV B (As := [.inl (xs (tn (i + 1))), .inl (xs (tn (i + 2))), .inl (xs (tn (i + 3)))]) (S := [.inl v]) (k := 5) (i := 0) (by decide) (t_X5_film l X (xs (tn (i + 1))) (xs (tn (i + 2))) (xs (tn (i + 3))) w1 B.2.2.2.2.2.2.2.2.1 _ h2) me_X5_film mi_X5_film mv_X5_film rfl lk_L_131 (by decide +kernel) rfl ⟨by decide, by decide⟩ ⟨hce, hsl⟩ (Nat.le_of_ble_eq_true rfl) ?_
  rintro v1 n1 fl1 w3 ⟨rfl, rfl, hv⟩
  cases hv
  show G _ _ _ _ _ _ _ _ _ _ _ _ ce sl _ 57 flT 1218 (LL0 i) [.inl v, .inl v] w2
  exact G_icmp B (k := .eq) (off := 363) (tgt := 1581) (by decide +kernel) (by decide) (fun _ => kk) (fun h => absurd rfl h)
set_option maxRecDepth 100000 in
theorem L_28 (B : Bd X mi_L p s m args meth c) (hX : scr X s Ln xs) {i : Int32} (hb : ∀ j : Int32, 0 ≤ j → j ≤ 6 → inB (i + j) Ln) (hce : ce ≤ 600000) (hsl : sl ≤ 7302250) {v : Int32} {w1 w2 : Mem} (h1 : f_X4_drawn (xs (tn (i + 1))) (xs (tn (i + 2))) (xs (tn (i + 3))) w = some (v, w1)) (h2 : f_X5_drawn (xs (tn (i + 1))) (xs (tn (i + 2))) (xs (tn (i + 3))) w1 = some (v, w2)) (kk : G l X mi_L p e room_1 s m args below meth c ce sl Q 57 flT 1581 (LL0 i) [] w2) : G l X mi_L p e room_1 s m args below meth c ce sl Q 57 flT 1223 (LL0 i) [] w := by
  refine G_run B flG_T (pc1 := 1228) (L1 := LL0 i) (S1 := [.inl (i + 1), .inr (.inr (some (41, 0))), .inr (.inr (some (4, 0)))]) (w1 := w) (P := True) [(.aload_n 1, 0, 0, 0, 0), (.aload_n 0, 0, 0, 0, 0), (.iload_n 3, 0, 0, 0, 0), (.iconst 1, 0, 0, 1, 0), (.iadd, 0, 0, 0, 0)] (by decide +kernel) rfl trivial ?_
  refine G_sld B hX (hb 1 (by decide) (by decide)) (by decide +kernel) ?_
  refine G_run B flG_T (pc1 := 1233) (L1 := LL0 i) (S1 := [.inl (i + 2), .inr (.inr (some (41, 0))), .inl (xs (tn (i + 1))), .inr (.inr (some (4, 0)))]) (w1 := w) (P := True) [(.aload_n 0, 0, 0, 0, 0), (.iload_n 3, 0, 0, 0, 0), (.iconst 2, 0, 0, 2, 0), (.iadd, 0, 0, 0, 0)] (by decide +kernel) rfl trivial ?_
  refine G_sld B hX (hb 2 (by decide) (by decide)) (by decide +kernel) ?_
  refine G_run B flG_T (pc1 := 1238) (L1 := LL0 i) (S1 := [.inl (i + 3), .inr (.inr (some (41, 0))), .inl (xs (tn (i + 2))), .inl (xs (tn (i + 1))), .inr (.inr (some (4, 0)))]) (w1 := w) (P := True) [(.aload_n 0, 0, 0, 0, 0), (.iload_n 3, 0, 0, 0, 0), (.iconst 3, 0, 0, 3, 0), (.iadd, 0, 0, 0, 0)] (by decide +kernel) rfl trivial ?_
  refine G_sld B hX (hb 3 (by decide) (by decide)) (by decide +kernel) ?_
  refine G_callV B (As := [.inl (xs (tn (i + 1))), .inl (xs (tn (i + 2))), .inl (xs (tn (i + 3)))]) (S := []) (k := 4) (i := 0) (by decide) (t_X4_drawn l X (xs (tn (i + 1))) (xs (tn (i + 2))) (xs (tn (i + 3))) w B.2.2.2.2.2.2.2.2.1 _ h1) me_X4_drawn mi_X4_drawn mv_X4_drawn rfl lk_L_132 (by decide +kernel) rfl ⟨by decide, by decide⟩ ⟨hce, hsl⟩ (Nat.le_of_ble_eq_true rfl) ?_
  rintro v1 n1 fl1 w3 ⟨rfl, rfl, hv⟩
  cases hv
  show G _ _ _ _ _ _ _ _ _ _ _ _ ce sl _ 57 flT 1242 (LL0 i) [.inl v] w1
  refine G_run B flG_T (pc1 := 1247) (L1 := LL0 i) (S1 := [.inl (i + 1), .inr (.inr (some (41, 0))), .inr (.inr (some (5, 0))), .inl v]) (w1 := w1) (P := True) [(.aload_n 2, 0, 0, 0, 0), (.aload_n 0, 0, 0, 0, 0), (.iload_n 3, 0, 0, 0, 0), (.iconst 1, 0, 0, 1, 0), (.iadd, 0, 0, 0, 0)] (by decide +kernel) rfl trivial ?_
  refine G_sld B hX (hb 1 (by decide) (by decide)) (by decide +kernel) ?_
  refine G_run B flG_T (pc1 := 1252) (L1 := LL0 i) (S1 := [.inl (i + 2), .inr (.inr (some (41, 0))), .inl (xs (tn (i + 1))), .inr (.inr (some (5, 0))), .inl v]) (w1 := w1) (P := True) [(.aload_n 0, 0, 0, 0, 0), (.iload_n 3, 0, 0, 0, 0), (.iconst 2, 0, 0, 2, 0), (.iadd, 0, 0, 0, 0)] (by decide +kernel) rfl trivial ?_
  refine G_sld B hX (hb 2 (by decide) (by decide)) (by decide +kernel) ?_
  refine G_run B flG_T (pc1 := 1257) (L1 := LL0 i) (S1 := [.inl (i + 3), .inr (.inr (some (41, 0))), .inl (xs (tn (i + 2))), .inl (xs (tn (i + 1))), .inr (.inr (some (5, 0))), .inl v]) (w1 := w1) (P := True) [(.aload_n 0, 0, 0, 0, 0), (.iload_n 3, 0, 0, 0, 0), (.iconst 3, 0, 0, 3, 0), (.iadd, 0, 0, 0, 0)] (by decide +kernel) rfl trivial ?_
  refine G_sld B hX (hb 3 (by decide) (by decide)) (by decide +kernel) ?_
  refine G_callV B (As := [.inl (xs (tn (i + 1))), .inl (xs (tn (i + 2))), .inl (xs (tn (i + 3)))]) (S := [.inl v]) (k := 5) (i := 0) (by decide) (t_X5_drawn l X (xs (tn (i + 1))) (xs (tn (i + 2))) (xs (tn (i + 3))) w1 B.2.2.2.2.2.2.2.2.1 _ h2) me_X5_drawn mi_X5_drawn mv_X5_drawn rfl lk_L_135 (by decide +kernel) rfl ⟨by decide, by decide⟩ ⟨hce, hsl⟩ (Nat.le_of_ble_eq_true rfl) ?_
  rintro v1 n1 fl1 w3 ⟨rfl, rfl, hv⟩
  cases hv
  show G _ _ _ _ _ _ _ _ _ _ _ _ ce sl _ 57 flT 1261 (LL0 i) [.inl v, .inl v] w2
  exact G_icmp B (k := .eq) (off := 320) (tgt := 1581) (by decide +kernel) (by decide) (fun _ => kk) (fun h => absurd rfl h)
set_option maxRecDepth 100000 in
theorem L_29 (B : Bd X mi_L p s m args meth c) (hX : scr X s Ln xs) {i : Int32} (hb : ∀ j : Int32, 0 ≤ j → j ≤ 6 → inB (i + j) Ln) (hce : ce ≤ 600000) (hsl : sl ≤ 7302250) {v : Int64} {w1 w2 : Mem} (h1 : f_X4_odds (xs (tn (i + 1))) (xs (tn (i + 2))) (xs (tn (i + 3))) (xs (tn (i + 4))) w = some (v, w1)) (h2 : f_X5_odds (xs (tn (i + 1))) (xs (tn (i + 2))) (xs (tn (i + 3))) (xs (tn (i + 4))) w1 = some (v, w2)) (kk : G l X mi_L p e room_1 s m args below meth c ce sl Q 57 flT 1581 (LL0 i) [] w2) : G l X mi_L p e room_1 s m args below meth c ce sl Q 57 flT 1266 (LL0 i) [] w := by
  refine G_run B flG_T (pc1 := 1271) (L1 := LL0 i) (S1 := [.inl (i + 1), .inr (.inr (some (41, 0))), .inr (.inr (some (4, 0)))]) (w1 := w) (P := True) [(.aload_n 1, 0, 0, 0, 0), (.aload_n 0, 0, 0, 0, 0), (.iload_n 3, 0, 0, 0, 0), (.iconst 1, 0, 0, 1, 0), (.iadd, 0, 0, 0, 0)] (by decide +kernel) rfl trivial ?_
  refine G_sld B hX (hb 1 (by decide) (by decide)) (by decide +kernel) ?_
  refine G_run B flG_T (pc1 := 1276) (L1 := LL0 i) (S1 := [.inl (i + 2), .inr (.inr (some (41, 0))), .inl (xs (tn (i + 1))), .inr (.inr (some (4, 0)))]) (w1 := w) (P := True) [(.aload_n 0, 0, 0, 0, 0), (.iload_n 3, 0, 0, 0, 0), (.iconst 2, 0, 0, 2, 0), (.iadd, 0, 0, 0, 0)] (by decide +kernel) rfl trivial ?_
  refine G_sld B hX (hb 2 (by decide) (by decide)) (by decide +kernel) ?_
  refine G_run B flG_T (pc1 := 1281) (L1 := LL0 i) (S1 := [.inl (i + 3), .inr (.inr (some (41, 0))), .inl (xs (tn (i + 2))), .inl (xs (tn (i + 1))), .inr (.inr (some (4, 0)))]) (w1 := w) (P := True) [(.aload_n 0, 0, 0, 0, 0), (.iload_n 3, 0, 0, 0, 0), (.iconst 3, 0, 0, 3, 0), (.iadd, 0, 0, 0, 0)] (by decide +kernel) rfl trivial ?_
  refine G_sld B hX (hb 3 (by decide) (by decide)) (by decide +kernel) ?_
  refine G_run B flG_T (pc1 := 1286) (L1 := LL0 i) (S1 := [.inl (i + 4), .inr (.inr (some (41, 0))), .inl (xs (tn (i + 3))), .inl (xs (tn (i + 2))), .inl (xs (tn (i + 1))), .inr (.inr (some (4, 0)))]) (w1 := w) (P := True) [(.aload_n 0, 0, 0, 0, 0), (.iload_n 3, 0, 0, 0, 0), (.iconst 4, 0, 0, 4, 0), (.iadd, 0, 0, 0, 0)] (by decide +kernel) rfl trivial ?_
  refine G_sld B hX (hb 4 (by decide) (by decide)) (by decide +kernel) ?_
  refine G_callV B (As := [.inl (xs (tn (i + 1))), .inl (xs (tn (i + 2))), .inl (xs (tn (i + 3))), .inl (xs (tn (i + 4)))]) (S := []) (k := 4) (i := 0) (by decide) (t_X4_odds l X (xs (tn (i + 1))) (xs (tn (i + 2))) (xs (tn (i + 3))) (xs (tn (i + 4))) w B.2.2.2.2.2.2.2.2.1 _ h1) me_X4_odds mi_X4_odds mv_X4_odds rfl lk_L_136 (by decide +kernel) rfl ⟨by decide, by decide⟩ ⟨hce, hsl⟩ (Nat.le_of_ble_eq_true rfl) ?_
  rintro v1 n1 fl1 w3 ⟨rfl, rfl, hv⟩
  cases hv
  show G _ _ _ _ _ _ _ _ _ _ _ _ ce sl _ 57 flT 1290 (LL0 i) [.inr (.inl v)] w1
  refine G_run B flG_T (pc1 := 1295) (L1 := LL0 i) (S1 := [.inl (i + 1), .inr (.inr (some (41, 0))), .inr (.inr (some (5, 0))), .inr (.inl v)]) (w1 := w1) (P := True) [(.aload_n 2, 0, 0, 0, 0), (.aload_n 0, 0, 0, 0, 0), (.iload_n 3, 0, 0, 0, 0), (.iconst 1, 0, 0, 1, 0), (.iadd, 0, 0, 0, 0)] (by decide +kernel) rfl trivial ?_
  refine G_sld B hX (hb 1 (by decide) (by decide)) (by decide +kernel) ?_
  refine G_run B flG_T (pc1 := 1300) (L1 := LL0 i) (S1 := [.inl (i + 2), .inr (.inr (some (41, 0))), .inl (xs (tn (i + 1))), .inr (.inr (some (5, 0))), .inr (.inl v)]) (w1 := w1) (P := True) [(.aload_n 0, 0, 0, 0, 0), (.iload_n 3, 0, 0, 0, 0), (.iconst 2, 0, 0, 2, 0), (.iadd, 0, 0, 0, 0)] (by decide +kernel) rfl trivial ?_
  refine G_sld B hX (hb 2 (by decide) (by decide)) (by decide +kernel) ?_
  refine G_run B flG_T (pc1 := 1305) (L1 := LL0 i) (S1 := [.inl (i + 3), .inr (.inr (some (41, 0))), .inl (xs (tn (i + 2))), .inl (xs (tn (i + 1))), .inr (.inr (some (5, 0))), .inr (.inl v)]) (w1 := w1) (P := True) [(.aload_n 0, 0, 0, 0, 0), (.iload_n 3, 0, 0, 0, 0), (.iconst 3, 0, 0, 3, 0), (.iadd, 0, 0, 0, 0)] (by decide +kernel) rfl trivial ?_
  refine G_sld B hX (hb 3 (by decide) (by decide)) (by decide +kernel) ?_
  refine G_run B flG_T (pc1 := 1310) (L1 := LL0 i) (S1 := [.inl (i + 4), .inr (.inr (some (41, 0))), .inl (xs (tn (i + 3))), .inl (xs (tn (i + 2))), .inl (xs (tn (i + 1))), .inr (.inr (some (5, 0))), .inr (.inl v)]) (w1 := w1) (P := True) [(.aload_n 0, 0, 0, 0, 0), (.iload_n 3, 0, 0, 0, 0), (.iconst 4, 0, 0, 4, 0), (.iadd, 0, 0, 0, 0)] (by decide +kernel) rfl trivial ?_
  refine G_sld B hX (hb 4 (by decide) (by decide)) (by decide +kernel) ?_
  refine G_callV B (As := [.inl (xs (tn (i + 1))), .inl (xs (tn (i + 2))), .inl (xs (tn (i + 3))), .inl (xs (tn (i + 4)))]) (S := [.inr (.inl v)]) (k := 5) (i := 0) (by decide) (t_X5_odds l X (xs (tn (i + 1))) (xs (tn (i + 2))) (xs (tn (i + 3))) (xs (tn (i + 4))) w1 B.2.2.2.2.2.2.2.2.1 _ h2) me_X5_odds mi_X5_odds mv_X5_odds rfl lk_L_140 (by decide +kernel) rfl ⟨by decide, by decide⟩ ⟨hce, hsl⟩ (Nat.le_of_ble_eq_true rfl) ?_
  rintro v1 n1 fl1 w3 ⟨rfl, rfl, hv⟩
  cases hv
  show G _ _ _ _ _ _ _ _ _ _ _ _ ce sl _ 57 flT 1314 (LL0 i) [.inr (.inl v), .inr (.inl v)] w2
  refine G_run B flG_T (pc1 := 1315) (L1 := LL0 i) (S1 := [.inl (lg_cmp v v)]) (w1 := w2) (P := True) [(.lcmp, 0, 0, 0, 0)] (by decide +kernel) rfl trivial ?_
  exact G_if B (k := .eq) (off := 266) (tgt := 1581) (by decide +kernel) (by decide) (fun _ => kk) (fun h => absurd (lg_cmp_self v) h)
set_option maxRecDepth 100000 in
theorem L_30 (B : Bd X mi_L p s m args meth c) (hX : scr X s Ln xs) {i : Int32} (hb : ∀ j : Int32, 0 ≤ j → j ≤ 6 → inB (i + j) Ln) (hce : ce ≤ 600000) (hsl : sl ≤ 7302250) {v : Int32} {w1 w2 : Mem} (h1 : f_X4_image  w = some (v, w1)) (h2 : f_X5_image  w1 = some (v, w2)) (kk : G l X mi_L p e room_1 s m args below meth c ce sl Q 57 flT 1581 (LL0 i) [] w2) : G l X mi_L p e room_1 s m args below meth c ce sl Q 57 flT 1320 (LL0 i) [] w := by
  refine G_run B flG_T (pc1 := 1321) (L1 := LL0 i) (S1 := [.inr (.inr (some (4, 0)))]) (w1 := w) (P := True) [(.aload_n 1, 0, 0, 0, 0)] (by decide +kernel) rfl trivial ?_
  refine G_callV B (As := []) (S := []) (k := 4) (i := 0) (by decide) (t_X4_image l X  w B.2.2.2.2.2.2.2.2.1 _ h1) me_X4_image mi_X4_image mv_X4_image rfl lk_L_141 (by decide +kernel) rfl ⟨by decide, by decide⟩ ⟨hce, hsl⟩ (Nat.le_of_ble_eq_true rfl) ?_
  rintro v1 n1 fl1 w3 ⟨rfl, rfl, hv⟩
  cases hv
  show G _ _ _ _ _ _ _ _ _ _ _ _ ce sl _ 57 flT 1324 (LL0 i) [.inl v] w1
  refine G_run B flG_T (pc1 := 1325) (L1 := LL0 i) (S1 := [.inr (.inr (some (5, 0))), .inl v]) (w1 := w1) (P := True) [(.aload_n 2, 0, 0, 0, 0)] (by decide +kernel) rfl trivial ?_
  refine G_callV B (As := []) (S := [.inl v]) (k := 5) (i := 0) (by decide) (t_X5_image l X  w1 B.2.2.2.2.2.2.2.2.1 _ h2) me_X5_image mi_X5_image mv_X5_image rfl lk_L_144 (by decide +kernel) rfl ⟨by decide, by decide⟩ ⟨hce, hsl⟩ (Nat.le_of_ble_eq_true rfl) ?_
  rintro v1 n1 fl1 w3 ⟨rfl, rfl, hv⟩
  cases hv
  show G _ _ _ _ _ _ _ _ _ _ _ _ ce sl _ 57 flT 1328 (LL0 i) [.inl v, .inl v] w2
  exact G_icmp B (k := .eq) (off := 253) (tgt := 1581) (by decide +kernel) (by decide) (fun _ => kk) (fun h => absurd rfl h)
set_option maxRecDepth 100000 in
theorem L_31 (B : Bd X mi_L p s m args meth c) (hX : scr X s Ln xs) {i : Int32} (hb : ∀ j : Int32, 0 ≤ j → j ≤ 6 → inB (i + j) Ln) (hce : ce ≤ 600000) (hsl : sl ≤ 7302250) {v : Int32} {w1 w2 : Mem} (h1 : f_X4_back  w = some (v, w1)) (h2 : f_X5_back  w1 = some (v, w2)) (kk : G l X mi_L p e room_1 s m args below meth c ce sl Q 57 flT 1581 (LL0 i) [] w2) : G l X mi_L p e room_1 s m args below meth c ce sl Q 57 flT 1333 (LL0 i) [] w := by
  refine G_run B flG_T (pc1 := 1334) (L1 := LL0 i) (S1 := [.inr (.inr (some (4, 0)))]) (w1 := w) (P := True) [(.aload_n 1, 0, 0, 0, 0)] (by decide +kernel) rfl trivial ?_
  refine G_callV B (As := []) (S := []) (k := 4) (i := 0) (by decide) (t_X4_back l X  w B.2.2.2.2.2.2.2.2.1 _ h1) me_X4_back mi_X4_back mv_X4_back rfl lk_L_145 (by decide +kernel) rfl ⟨by decide, by decide⟩ ⟨hce, hsl⟩ (Nat.le_of_ble_eq_true rfl) ?_
  rintro v1 n1 fl1 w3 ⟨rfl, rfl, hv⟩
  cases hv
  show G _ _ _ _ _ _ _ _ _ _ _ _ ce sl _ 57 flT 1337 (LL0 i) [.inl v] w1
  refine G_run B flG_T (pc1 := 1338) (L1 := LL0 i) (S1 := [.inr (.inr (some (5, 0))), .inl v]) (w1 := w1) (P := True) [(.aload_n 2, 0, 0, 0, 0)] (by decide +kernel) rfl trivial ?_
  refine G_callV B (As := []) (S := [.inl v]) (k := 5) (i := 0) (by decide) (t_X5_back l X  w1 B.2.2.2.2.2.2.2.2.1 _ h2) me_X5_back mi_X5_back mv_X5_back rfl lk_L_148 (by decide +kernel) rfl ⟨by decide, by decide⟩ ⟨hce, hsl⟩ (Nat.le_of_ble_eq_true rfl) ?_
  rintro v1 n1 fl1 w3 ⟨rfl, rfl, hv⟩
  cases hv
  show G _ _ _ _ _ _ _ _ _ _ _ _ ce sl _ 57 flT 1341 (LL0 i) [.inl v, .inl v] w2
  exact G_icmp B (k := .eq) (off := 240) (tgt := 1581) (by decide +kernel) (by decide) (fun _ => kk) (fun h => absurd rfl h)
set_option maxRecDepth 100000 in
theorem L_32 (B : Bd X mi_L p s m args meth c) (hX : scr X s Ln xs) {i : Int32} (hb : ∀ j : Int32, 0 ≤ j → j ≤ 6 → inB (i + j) Ln) (hce : ce ≤ 600000) (hsl : sl ≤ 7302250) {v : Int32} {w1 w2 : Mem} (h1 : f_X4_sheet (xs (tn (i + 1))) (xs (tn (i + 2))) (xs (tn (i + 3))) w = some (v, w1)) (h2 : f_X5_sheet (xs (tn (i + 1))) (xs (tn (i + 2))) (xs (tn (i + 3))) w1 = some (v, w2)) (kk : G l X mi_L p e room_1 s m args below meth c ce sl Q 57 flT 1581 (LL0 i) [] w2) : G l X mi_L p e room_1 s m args below meth c ce sl Q 57 flT 1346 (LL0 i) [] w := by
  refine G_run B flG_T (pc1 := 1351) (L1 := LL0 i) (S1 := [.inl (i + 1), .inr (.inr (some (41, 0))), .inr (.inr (some (4, 0)))]) (w1 := w) (P := True) [(.aload_n 1, 0, 0, 0, 0), (.aload_n 0, 0, 0, 0, 0), (.iload_n 3, 0, 0, 0, 0), (.iconst 1, 0, 0, 1, 0), (.iadd, 0, 0, 0, 0)] (by decide +kernel) rfl trivial ?_
  refine G_sld B hX (hb 1 (by decide) (by decide)) (by decide +kernel) ?_
  refine G_run B flG_T (pc1 := 1356) (L1 := LL0 i) (S1 := [.inl (i + 2), .inr (.inr (some (41, 0))), .inl (xs (tn (i + 1))), .inr (.inr (some (4, 0)))]) (w1 := w) (P := True) [(.aload_n 0, 0, 0, 0, 0), (.iload_n 3, 0, 0, 0, 0), (.iconst 2, 0, 0, 2, 0), (.iadd, 0, 0, 0, 0)] (by decide +kernel) rfl trivial ?_
  refine G_sld B hX (hb 2 (by decide) (by decide)) (by decide +kernel) ?_
  refine G_run B flG_T (pc1 := 1361) (L1 := LL0 i) (S1 := [.inl (i + 3), .inr (.inr (some (41, 0))), .inl (xs (tn (i + 2))), .inl (xs (tn (i + 1))), .inr (.inr (some (4, 0)))]) (w1 := w) (P := True) [(.aload_n 0, 0, 0, 0, 0), (.iload_n 3, 0, 0, 0, 0), (.iconst 3, 0, 0, 3, 0), (.iadd, 0, 0, 0, 0)] (by decide +kernel) rfl trivial ?_
  refine G_sld B hX (hb 3 (by decide) (by decide)) (by decide +kernel) ?_
  refine G_callV B (As := [.inl (xs (tn (i + 1))), .inl (xs (tn (i + 2))), .inl (xs (tn (i + 3)))]) (S := []) (k := 4) (i := 0) (by decide) (t_X4_sheet l X (xs (tn (i + 1))) (xs (tn (i + 2))) (xs (tn (i + 3))) w B.2.2.2.2.2.2.2.2.1 _ h1) me_X4_sheet mi_X4_sheet mv_X4_sheet rfl lk_L_149 (by decide +kernel) rfl ⟨by decide, by decide⟩ ⟨hce, hsl⟩ (Nat.le_of_ble_eq_true rfl) ?_
  rintro v1 n1 fl1 w3 ⟨rfl, rfl, hv⟩
  cases hv
  show G _ _ _ _ _ _ _ _ _ _ _ _ ce sl _ 57 flT 1365 (LL0 i) [.inl v] w1
  refine G_run B flG_T (pc1 := 1370) (L1 := LL0 i) (S1 := [.inl (i + 1), .inr (.inr (some (41, 0))), .inr (.inr (some (5, 0))), .inl v]) (w1 := w1) (P := True) [(.aload_n 2, 0, 0, 0, 0), (.aload_n 0, 0, 0, 0, 0), (.iload_n 3, 0, 0, 0, 0), (.iconst 1, 0, 0, 1, 0), (.iadd, 0, 0, 0, 0)] (by decide +kernel) rfl trivial ?_
  refine G_sld B hX (hb 1 (by decide) (by decide)) (by decide +kernel) ?_
  refine G_run B flG_T (pc1 := 1375) (L1 := LL0 i) (S1 := [.inl (i + 2), .inr (.inr (some (41, 0))), .inl (xs (tn (i + 1))), .inr (.inr (some (5, 0))), .inl v]) (w1 := w1) (P := True) [(.aload_n 0, 0, 0, 0, 0), (.iload_n 3, 0, 0, 0, 0), (.iconst 2, 0, 0, 2, 0), (.iadd, 0, 0, 0, 0)] (by decide +kernel) rfl trivial ?_
  refine G_sld B hX (hb 2 (by decide) (by decide)) (by decide +kernel) ?_
  refine G_run B flG_T (pc1 := 1380) (L1 := LL0 i) (S1 := [.inl (i + 3), .inr (.inr (some (41, 0))), .inl (xs (tn (i + 2))), .inl (xs (tn (i + 1))), .inr (.inr (some (5, 0))), .inl v]) (w1 := w1) (P := True) [(.aload_n 0, 0, 0, 0, 0), (.iload_n 3, 0, 0, 0, 0), (.iconst 3, 0, 0, 3, 0), (.iadd, 0, 0, 0, 0)] (by decide +kernel) rfl trivial ?_
  refine G_sld B hX (hb 3 (by decide) (by decide)) (by decide +kernel) ?_
  refine G_callV B (As := [.inl (xs (tn (i + 1))), .inl (xs (tn (i + 2))), .inl (xs (tn (i + 3)))]) (S := [.inl v]) (k := 5) (i := 0) (by decide) (t_X5_sheet l X (xs (tn (i + 1))) (xs (tn (i + 2))) (xs (tn (i + 3))) w1 B.2.2.2.2.2.2.2.2.1 _ h2) me_X5_sheet mi_X5_sheet mv_X5_sheet rfl lk_L_152 (by decide +kernel) rfl ⟨by decide, by decide⟩ ⟨hce, hsl⟩ (Nat.le_of_ble_eq_true rfl) ?_
  rintro v1 n1 fl1 w3 ⟨rfl, rfl, hv⟩
  cases hv
  show G _ _ _ _ _ _ _ _ _ _ _ _ ce sl _ 57 flT 1384 (LL0 i) [.inl v, .inl v] w2
  exact G_icmp B (k := .eq) (off := 197) (tgt := 1581) (by decide +kernel) (by decide) (fun _ => kk) (fun h => absurd rfl h)
set_option maxRecDepth 100000 in
theorem L_33 (B : Bd X mi_L p s m args meth c) (hX : scr X s Ln xs) {i : Int32} (hb : ∀ j : Int32, 0 ≤ j → j ≤ 6 → inB (i + j) Ln) (hce : ce ≤ 600000) (hsl : sl ≤ 7302250) {v : Int32} {w1 w2 : Mem} (h1 : f_X4_cell (xs (tn (i + 1))) (xs (tn (i + 2))) (xs (tn (i + 3))) w = some (v, w1)) (h2 : f_X5_cell (xs (tn (i + 1))) (xs (tn (i + 2))) (xs (tn (i + 3))) w1 = some (v, w2)) (kk : G l X mi_L p e room_1 s m args below meth c ce sl Q 57 flT 1581 (LL0 i) [] w2) : G l X mi_L p e room_1 s m args below meth c ce sl Q 57 flT 1389 (LL0 i) [] w := by
  refine G_run B flG_T (pc1 := 1394) (L1 := LL0 i) (S1 := [.inl (i + 1), .inr (.inr (some (41, 0))), .inr (.inr (some (4, 0)))]) (w1 := w) (P := True) [(.aload_n 1, 0, 0, 0, 0), (.aload_n 0, 0, 0, 0, 0), (.iload_n 3, 0, 0, 0, 0), (.iconst 1, 0, 0, 1, 0), (.iadd, 0, 0, 0, 0)] (by decide +kernel) rfl trivial ?_
  refine G_sld B hX (hb 1 (by decide) (by decide)) (by decide +kernel) ?_
  refine G_run B flG_T (pc1 := 1399) (L1 := LL0 i) (S1 := [.inl (i + 2), .inr (.inr (some (41, 0))), .inl (xs (tn (i + 1))), .inr (.inr (some (4, 0)))]) (w1 := w) (P := True) [(.aload_n 0, 0, 0, 0, 0), (.iload_n 3, 0, 0, 0, 0), (.iconst 2, 0, 0, 2, 0), (.iadd, 0, 0, 0, 0)] (by decide +kernel) rfl trivial ?_
  refine G_sld B hX (hb 2 (by decide) (by decide)) (by decide +kernel) ?_
  refine G_run B flG_T (pc1 := 1404) (L1 := LL0 i) (S1 := [.inl (i + 3), .inr (.inr (some (41, 0))), .inl (xs (tn (i + 2))), .inl (xs (tn (i + 1))), .inr (.inr (some (4, 0)))]) (w1 := w) (P := True) [(.aload_n 0, 0, 0, 0, 0), (.iload_n 3, 0, 0, 0, 0), (.iconst 3, 0, 0, 3, 0), (.iadd, 0, 0, 0, 0)] (by decide +kernel) rfl trivial ?_
  refine G_sld B hX (hb 3 (by decide) (by decide)) (by decide +kernel) ?_
  refine G_callV B (As := [.inl (xs (tn (i + 1))), .inl (xs (tn (i + 2))), .inl (xs (tn (i + 3)))]) (S := []) (k := 4) (i := 0) (by decide) (t_X4_cell l X (xs (tn (i + 1))) (xs (tn (i + 2))) (xs (tn (i + 3))) w B.2.2.2.2.2.2.2.2.1 _ h1) me_X4_cell mi_X4_cell mv_X4_cell rfl lk_L_153 (by decide +kernel) rfl ⟨by decide, by decide⟩ ⟨hce, hsl⟩ (Nat.le_of_ble_eq_true rfl) ?_
  rintro v1 n1 fl1 w3 ⟨rfl, rfl, hv⟩
  cases hv
  show G _ _ _ _ _ _ _ _ _ _ _ _ ce sl _ 57 flT 1408 (LL0 i) [.inl v] w1
  refine G_run B flG_T (pc1 := 1413) (L1 := LL0 i) (S1 := [.inl (i + 1), .inr (.inr (some (41, 0))), .inr (.inr (some (5, 0))), .inl v]) (w1 := w1) (P := True) [(.aload_n 2, 0, 0, 0, 0), (.aload_n 0, 0, 0, 0, 0), (.iload_n 3, 0, 0, 0, 0), (.iconst 1, 0, 0, 1, 0), (.iadd, 0, 0, 0, 0)] (by decide +kernel) rfl trivial ?_
  refine G_sld B hX (hb 1 (by decide) (by decide)) (by decide +kernel) ?_
  refine G_run B flG_T (pc1 := 1418) (L1 := LL0 i) (S1 := [.inl (i + 2), .inr (.inr (some (41, 0))), .inl (xs (tn (i + 1))), .inr (.inr (some (5, 0))), .inl v]) (w1 := w1) (P := True) [(.aload_n 0, 0, 0, 0, 0), (.iload_n 3, 0, 0, 0, 0), (.iconst 2, 0, 0, 2, 0), (.iadd, 0, 0, 0, 0)] (by decide +kernel) rfl trivial ?_
  refine G_sld B hX (hb 2 (by decide) (by decide)) (by decide +kernel) ?_
  refine G_run B flG_T (pc1 := 1423) (L1 := LL0 i) (S1 := [.inl (i + 3), .inr (.inr (some (41, 0))), .inl (xs (tn (i + 2))), .inl (xs (tn (i + 1))), .inr (.inr (some (5, 0))), .inl v]) (w1 := w1) (P := True) [(.aload_n 0, 0, 0, 0, 0), (.iload_n 3, 0, 0, 0, 0), (.iconst 3, 0, 0, 3, 0), (.iadd, 0, 0, 0, 0)] (by decide +kernel) rfl trivial ?_
  refine G_sld B hX (hb 3 (by decide) (by decide)) (by decide +kernel) ?_
  refine G_callV B (As := [.inl (xs (tn (i + 1))), .inl (xs (tn (i + 2))), .inl (xs (tn (i + 3)))]) (S := [.inl v]) (k := 5) (i := 0) (by decide) (t_X5_cell l X (xs (tn (i + 1))) (xs (tn (i + 2))) (xs (tn (i + 3))) w1 B.2.2.2.2.2.2.2.2.1 _ h2) me_X5_cell mi_X5_cell mv_X5_cell rfl lk_L_156 (by decide +kernel) rfl ⟨by decide, by decide⟩ ⟨hce, hsl⟩ (Nat.le_of_ble_eq_true rfl) ?_
  rintro v1 n1 fl1 w3 ⟨rfl, rfl, hv⟩
  cases hv
  show G _ _ _ _ _ _ _ _ _ _ _ _ ce sl _ 57 flT 1427 (LL0 i) [.inl v, .inl v] w2
  exact G_icmp B (k := .eq) (off := 154) (tgt := 1581) (by decide +kernel) (by decide) (fun _ => kk) (fun h => absurd rfl h)
set_option maxRecDepth 100000 in
theorem L_34 (B : Bd X mi_L p s m args meth c) (hX : scr X s Ln xs) {i : Int32} (hb : ∀ j : Int32, 0 ≤ j → j ≤ 6 → inB (i + j) Ln) (hce : ce ≤ 600000) (hsl : sl ≤ 7302250) {v : Int32} {w1 w2 : Mem} (h1 : f_X4_copy (xs (tn (i + 1))) (xs (tn (i + 2))) (xs (tn (i + 3))) (xs (tn (i + 4))) (xs (tn (i + 5))) w = some (v, w1)) (h2 : f_X5_copy (xs (tn (i + 1))) (xs (tn (i + 2))) (xs (tn (i + 3))) (xs (tn (i + 4))) (xs (tn (i + 5))) w1 = some (v, w2)) (kk : G l X mi_L p e room_1 s m args below meth c ce sl Q 57 flT 1581 (LL0 i) [] w2) : G l X mi_L p e room_1 s m args below meth c ce sl Q 57 flT 1432 (LL0 i) [] w := by
  refine G_run B flG_T (pc1 := 1437) (L1 := LL0 i) (S1 := [.inl (i + 1), .inr (.inr (some (41, 0))), .inr (.inr (some (4, 0)))]) (w1 := w) (P := True) [(.aload_n 1, 0, 0, 0, 0), (.aload_n 0, 0, 0, 0, 0), (.iload_n 3, 0, 0, 0, 0), (.iconst 1, 0, 0, 1, 0), (.iadd, 0, 0, 0, 0)] (by decide +kernel) rfl trivial ?_
  refine G_sld B hX (hb 1 (by decide) (by decide)) (by decide +kernel) ?_
  refine G_run B flG_T (pc1 := 1442) (L1 := LL0 i) (S1 := [.inl (i + 2), .inr (.inr (some (41, 0))), .inl (xs (tn (i + 1))), .inr (.inr (some (4, 0)))]) (w1 := w) (P := True) [(.aload_n 0, 0, 0, 0, 0), (.iload_n 3, 0, 0, 0, 0), (.iconst 2, 0, 0, 2, 0), (.iadd, 0, 0, 0, 0)] (by decide +kernel) rfl trivial ?_
  refine G_sld B hX (hb 2 (by decide) (by decide)) (by decide +kernel) ?_
  refine G_run B flG_T (pc1 := 1447) (L1 := LL0 i) (S1 := [.inl (i + 3), .inr (.inr (some (41, 0))), .inl (xs (tn (i + 2))), .inl (xs (tn (i + 1))), .inr (.inr (some (4, 0)))]) (w1 := w) (P := True) [(.aload_n 0, 0, 0, 0, 0), (.iload_n 3, 0, 0, 0, 0), (.iconst 3, 0, 0, 3, 0), (.iadd, 0, 0, 0, 0)] (by decide +kernel) rfl trivial ?_
  refine G_sld B hX (hb 3 (by decide) (by decide)) (by decide +kernel) ?_
  refine G_run B flG_T (pc1 := 1452) (L1 := LL0 i) (S1 := [.inl (i + 4), .inr (.inr (some (41, 0))), .inl (xs (tn (i + 3))), .inl (xs (tn (i + 2))), .inl (xs (tn (i + 1))), .inr (.inr (some (4, 0)))]) (w1 := w) (P := True) [(.aload_n 0, 0, 0, 0, 0), (.iload_n 3, 0, 0, 0, 0), (.iconst 4, 0, 0, 4, 0), (.iadd, 0, 0, 0, 0)] (by decide +kernel) rfl trivial ?_
  refine G_sld B hX (hb 4 (by decide) (by decide)) (by decide +kernel) ?_
  refine G_run B flG_T (pc1 := 1457) (L1 := LL0 i) (S1 := [.inl (i + 5), .inr (.inr (some (41, 0))), .inl (xs (tn (i + 4))), .inl (xs (tn (i + 3))), .inl (xs (tn (i + 2))), .inl (xs (tn (i + 1))), .inr (.inr (some (4, 0)))]) (w1 := w) (P := True) [(.aload_n 0, 0, 0, 0, 0), (.iload_n 3, 0, 0, 0, 0), (.iconst 5, 0, 0, 5, 0), (.iadd, 0, 0, 0, 0)] (by decide +kernel) rfl trivial ?_
  refine G_sld B hX (hb 5 (by decide) (by decide)) (by decide +kernel) ?_
  refine G_callV B (As := [.inl (xs (tn (i + 1))), .inl (xs (tn (i + 2))), .inl (xs (tn (i + 3))), .inl (xs (tn (i + 4))), .inl (xs (tn (i + 5)))]) (S := []) (k := 4) (i := 0) (by decide) (t_X4_copy l X (xs (tn (i + 1))) (xs (tn (i + 2))) (xs (tn (i + 3))) (xs (tn (i + 4))) (xs (tn (i + 5))) w B.2.2.2.2.2.2.2.2.1 _ h1) me_X4_copy mi_X4_copy mv_X4_copy rfl lk_L_157 (by decide +kernel) rfl ⟨by decide, by decide⟩ ⟨hce, hsl⟩ (Nat.le_of_ble_eq_true rfl) ?_
  rintro v1 n1 fl1 w3 ⟨rfl, rfl, hv⟩
  cases hv
  show G _ _ _ _ _ _ _ _ _ _ _ _ ce sl _ 57 flT 1461 (LL0 i) [.inl v] w1
  refine G_run B flG_T (pc1 := 1466) (L1 := LL0 i) (S1 := [.inl (i + 1), .inr (.inr (some (41, 0))), .inr (.inr (some (5, 0))), .inl v]) (w1 := w1) (P := True) [(.aload_n 2, 0, 0, 0, 0), (.aload_n 0, 0, 0, 0, 0), (.iload_n 3, 0, 0, 0, 0), (.iconst 1, 0, 0, 1, 0), (.iadd, 0, 0, 0, 0)] (by decide +kernel) rfl trivial ?_
  refine G_sld B hX (hb 1 (by decide) (by decide)) (by decide +kernel) ?_
  refine G_run B flG_T (pc1 := 1471) (L1 := LL0 i) (S1 := [.inl (i + 2), .inr (.inr (some (41, 0))), .inl (xs (tn (i + 1))), .inr (.inr (some (5, 0))), .inl v]) (w1 := w1) (P := True) [(.aload_n 0, 0, 0, 0, 0), (.iload_n 3, 0, 0, 0, 0), (.iconst 2, 0, 0, 2, 0), (.iadd, 0, 0, 0, 0)] (by decide +kernel) rfl trivial ?_
  refine G_sld B hX (hb 2 (by decide) (by decide)) (by decide +kernel) ?_
  refine G_run B flG_T (pc1 := 1476) (L1 := LL0 i) (S1 := [.inl (i + 3), .inr (.inr (some (41, 0))), .inl (xs (tn (i + 2))), .inl (xs (tn (i + 1))), .inr (.inr (some (5, 0))), .inl v]) (w1 := w1) (P := True) [(.aload_n 0, 0, 0, 0, 0), (.iload_n 3, 0, 0, 0, 0), (.iconst 3, 0, 0, 3, 0), (.iadd, 0, 0, 0, 0)] (by decide +kernel) rfl trivial ?_
  refine G_sld B hX (hb 3 (by decide) (by decide)) (by decide +kernel) ?_
  refine G_run B flG_T (pc1 := 1481) (L1 := LL0 i) (S1 := [.inl (i + 4), .inr (.inr (some (41, 0))), .inl (xs (tn (i + 3))), .inl (xs (tn (i + 2))), .inl (xs (tn (i + 1))), .inr (.inr (some (5, 0))), .inl v]) (w1 := w1) (P := True) [(.aload_n 0, 0, 0, 0, 0), (.iload_n 3, 0, 0, 0, 0), (.iconst 4, 0, 0, 4, 0), (.iadd, 0, 0, 0, 0)] (by decide +kernel) rfl trivial ?_
  refine G_sld B hX (hb 4 (by decide) (by decide)) (by decide +kernel) ?_
  refine G_run B flG_T (pc1 := 1486) (L1 := LL0 i) (S1 := [.inl (i + 5), .inr (.inr (some (41, 0))), .inl (xs (tn (i + 4))), .inl (xs (tn (i + 3))), .inl (xs (tn (i + 2))), .inl (xs (tn (i + 1))), .inr (.inr (some (5, 0))), .inl v]) (w1 := w1) (P := True) [(.aload_n 0, 0, 0, 0, 0), (.iload_n 3, 0, 0, 0, 0), (.iconst 5, 0, 0, 5, 0), (.iadd, 0, 0, 0, 0)] (by decide +kernel) rfl trivial ?_
  refine G_sld B hX (hb 5 (by decide) (by decide)) (by decide +kernel) ?_
  refine G_callV B (As := [.inl (xs (tn (i + 1))), .inl (xs (tn (i + 2))), .inl (xs (tn (i + 3))), .inl (xs (tn (i + 4))), .inl (xs (tn (i + 5)))]) (S := [.inl v]) (k := 5) (i := 0) (by decide) (t_X5_copy l X (xs (tn (i + 1))) (xs (tn (i + 2))) (xs (tn (i + 3))) (xs (tn (i + 4))) (xs (tn (i + 5))) w1 B.2.2.2.2.2.2.2.2.1 _ h2) me_X5_copy mi_X5_copy mv_X5_copy rfl lk_L_161 (by decide +kernel) rfl ⟨by decide, by decide⟩ ⟨hce, hsl⟩ (Nat.le_of_ble_eq_true rfl) ?_
  rintro v1 n1 fl1 w3 ⟨rfl, rfl, hv⟩
  cases hv
  show G _ _ _ _ _ _ _ _ _ _ _ _ ce sl _ 57 flT 1490 (LL0 i) [.inl v, .inl v] w2
  exact G_icmp B (k := .eq) (off := 91) (tgt := 1581) (by decide +kernel) (by decide) (fun _ => kk) (fun h => absurd rfl h)
set_option maxRecDepth 100000 in
theorem L_35 (B : Bd X mi_L p s m args meth c) (hX : scr X s Ln xs) {i : Int32} (hb : ∀ j : Int32, 0 ≤ j → j ≤ 6 → inB (i + j) Ln) (hce : ce ≤ 600000) (hsl : sl ≤ 7302250) {v : Int32} {w1 w2 : Mem} (h1 : f_X4_fishersBy (xs (tn (i + 1))) (xs (tn (i + 2))) (xs (tn (i + 3))) (xs (tn (i + 4))) w = some (v, w1)) (h2 : f_X5_fishersBy (xs (tn (i + 1))) (xs (tn (i + 2))) (xs (tn (i + 3))) (xs (tn (i + 4))) w1 = some (v, w2)) (kk : G l X mi_L p e room_1 s m args below meth c ce sl Q 57 flT 1581 (LL0 i) [] w2) : G l X mi_L p e room_1 s m args below meth c ce sl Q 57 flT 1495 (LL0 i) [] w := by
  refine G_run B flG_T (pc1 := 1500) (L1 := LL0 i) (S1 := [.inl (i + 1), .inr (.inr (some (41, 0))), .inr (.inr (some (4, 0)))]) (w1 := w) (P := True) [(.aload_n 1, 0, 0, 0, 0), (.aload_n 0, 0, 0, 0, 0), (.iload_n 3, 0, 0, 0, 0), (.iconst 1, 0, 0, 1, 0), (.iadd, 0, 0, 0, 0)] (by decide +kernel) rfl trivial ?_
  refine G_sld B hX (hb 1 (by decide) (by decide)) (by decide +kernel) ?_
  refine G_run B flG_T (pc1 := 1505) (L1 := LL0 i) (S1 := [.inl (i + 2), .inr (.inr (some (41, 0))), .inl (xs (tn (i + 1))), .inr (.inr (some (4, 0)))]) (w1 := w) (P := True) [(.aload_n 0, 0, 0, 0, 0), (.iload_n 3, 0, 0, 0, 0), (.iconst 2, 0, 0, 2, 0), (.iadd, 0, 0, 0, 0)] (by decide +kernel) rfl trivial ?_
  refine G_sld B hX (hb 2 (by decide) (by decide)) (by decide +kernel) ?_
  refine G_run B flG_T (pc1 := 1510) (L1 := LL0 i) (S1 := [.inl (i + 3), .inr (.inr (some (41, 0))), .inl (xs (tn (i + 2))), .inl (xs (tn (i + 1))), .inr (.inr (some (4, 0)))]) (w1 := w) (P := True) [(.aload_n 0, 0, 0, 0, 0), (.iload_n 3, 0, 0, 0, 0), (.iconst 3, 0, 0, 3, 0), (.iadd, 0, 0, 0, 0)] (by decide +kernel) rfl trivial ?_
  refine G_sld B hX (hb 3 (by decide) (by decide)) (by decide +kernel) ?_
  refine G_run B flG_T (pc1 := 1515) (L1 := LL0 i) (S1 := [.inl (i + 4), .inr (.inr (some (41, 0))), .inl (xs (tn (i + 3))), .inl (xs (tn (i + 2))), .inl (xs (tn (i + 1))), .inr (.inr (some (4, 0)))]) (w1 := w) (P := True) [(.aload_n 0, 0, 0, 0, 0), (.iload_n 3, 0, 0, 0, 0), (.iconst 4, 0, 0, 4, 0), (.iadd, 0, 0, 0, 0)] (by decide +kernel) rfl trivial ?_
  refine G_sld B hX (hb 4 (by decide) (by decide)) (by decide +kernel) ?_
  refine G_callV B (As := [.inl (xs (tn (i + 1))), .inl (xs (tn (i + 2))), .inl (xs (tn (i + 3))), .inl (xs (tn (i + 4)))]) (S := []) (k := 4) (i := 0) (by decide) (t_X4_fishersBy l X (xs (tn (i + 1))) (xs (tn (i + 2))) (xs (tn (i + 3))) (xs (tn (i + 4))) w B.2.2.2.2.2.2.2.2.1 _ h1) me_X4_fishersBy mi_X4_fishersBy mv_X4_fishersBy rfl lk_L_162 (by decide +kernel) rfl ⟨by decide, by decide⟩ ⟨hce, hsl⟩ (Nat.le_of_ble_eq_true rfl) ?_
  rintro v1 n1 fl1 w3 ⟨rfl, rfl, hv⟩
  cases hv
  show G _ _ _ _ _ _ _ _ _ _ _ _ ce sl _ 57 flT 1519 (LL0 i) [.inl v] w1
  refine G_run B flG_T (pc1 := 1524) (L1 := LL0 i) (S1 := [.inl (i + 1), .inr (.inr (some (41, 0))), .inr (.inr (some (5, 0))), .inl v]) (w1 := w1) (P := True) [(.aload_n 2, 0, 0, 0, 0), (.aload_n 0, 0, 0, 0, 0), (.iload_n 3, 0, 0, 0, 0), (.iconst 1, 0, 0, 1, 0), (.iadd, 0, 0, 0, 0)] (by decide +kernel) rfl trivial ?_
  refine G_sld B hX (hb 1 (by decide) (by decide)) (by decide +kernel) ?_
  refine G_run B flG_T (pc1 := 1529) (L1 := LL0 i) (S1 := [.inl (i + 2), .inr (.inr (some (41, 0))), .inl (xs (tn (i + 1))), .inr (.inr (some (5, 0))), .inl v]) (w1 := w1) (P := True) [(.aload_n 0, 0, 0, 0, 0), (.iload_n 3, 0, 0, 0, 0), (.iconst 2, 0, 0, 2, 0), (.iadd, 0, 0, 0, 0)] (by decide +kernel) rfl trivial ?_
  refine G_sld B hX (hb 2 (by decide) (by decide)) (by decide +kernel) ?_
  refine G_run B flG_T (pc1 := 1534) (L1 := LL0 i) (S1 := [.inl (i + 3), .inr (.inr (some (41, 0))), .inl (xs (tn (i + 2))), .inl (xs (tn (i + 1))), .inr (.inr (some (5, 0))), .inl v]) (w1 := w1) (P := True) [(.aload_n 0, 0, 0, 0, 0), (.iload_n 3, 0, 0, 0, 0), (.iconst 3, 0, 0, 3, 0), (.iadd, 0, 0, 0, 0)] (by decide +kernel) rfl trivial ?_
  refine G_sld B hX (hb 3 (by decide) (by decide)) (by decide +kernel) ?_
  refine G_run B flG_T (pc1 := 1539) (L1 := LL0 i) (S1 := [.inl (i + 4), .inr (.inr (some (41, 0))), .inl (xs (tn (i + 3))), .inl (xs (tn (i + 2))), .inl (xs (tn (i + 1))), .inr (.inr (some (5, 0))), .inl v]) (w1 := w1) (P := True) [(.aload_n 0, 0, 0, 0, 0), (.iload_n 3, 0, 0, 0, 0), (.iconst 4, 0, 0, 4, 0), (.iadd, 0, 0, 0, 0)] (by decide +kernel) rfl trivial ?_
  refine G_sld B hX (hb 4 (by decide) (by decide)) (by decide +kernel) ?_
  refine G_callV B (As := [.inl (xs (tn (i + 1))), .inl (xs (tn (i + 2))), .inl (xs (tn (i + 3))), .inl (xs (tn (i + 4)))]) (S := [.inl v]) (k := 5) (i := 0) (by decide) (t_X5_fishersBy l X (xs (tn (i + 1))) (xs (tn (i + 2))) (xs (tn (i + 3))) (xs (tn (i + 4))) w1 B.2.2.2.2.2.2.2.2.1 _ h2) me_X5_fishersBy mi_X5_fishersBy mv_X5_fishersBy rfl lk_L_165 (by decide +kernel) rfl ⟨by decide, by decide⟩ ⟨hce, hsl⟩ (Nat.le_of_ble_eq_true rfl) ?_
  rintro v1 n1 fl1 w3 ⟨rfl, rfl, hv⟩
  cases hv
  show G _ _ _ _ _ _ _ _ _ _ _ _ ce sl _ 57 flT 1543 (LL0 i) [.inl v, .inl v] w2
  exact G_icmp B (k := .eq) (off := 38) (tgt := 1581) (by decide +kernel) (by decide) (fun _ => kk) (fun h => absurd rfl h)
set_option maxRecDepth 100000 in
theorem L_36 (B : Bd X mi_L p s m args meth c) (hX : scr X s Ln xs) {i : Int32} (hb : ∀ j : Int32, 0 ≤ j → j ≤ 6 → inB (i + j) Ln) (hce : ce ≤ 600000) (hsl : sl ≤ 7302250) {v : Int32} {w1 w2 : Mem} (h1 : f_X4_taken (xs (tn (i + 1))) (xs (tn (i + 2))) w = some (v, w1)) (h2 : f_X5_taken (xs (tn (i + 1))) (xs (tn (i + 2))) w1 = some (v, w2)) (kk : G l X mi_L p e room_1 s m args below meth c ce sl Q 57 flT 1581 (LL0 i) [] w2) : G l X mi_L p e room_1 s m args below meth c ce sl Q 57 flT 1548 (LL0 i) [] w := by
  refine G_run B flG_T (pc1 := 1553) (L1 := LL0 i) (S1 := [.inl (i + 1), .inr (.inr (some (41, 0))), .inr (.inr (some (4, 0)))]) (w1 := w) (P := True) [(.aload_n 1, 0, 0, 0, 0), (.aload_n 0, 0, 0, 0, 0), (.iload_n 3, 0, 0, 0, 0), (.iconst 1, 0, 0, 1, 0), (.iadd, 0, 0, 0, 0)] (by decide +kernel) rfl trivial ?_
  refine G_sld B hX (hb 1 (by decide) (by decide)) (by decide +kernel) ?_
  refine G_run B flG_T (pc1 := 1558) (L1 := LL0 i) (S1 := [.inl (i + 2), .inr (.inr (some (41, 0))), .inl (xs (tn (i + 1))), .inr (.inr (some (4, 0)))]) (w1 := w) (P := True) [(.aload_n 0, 0, 0, 0, 0), (.iload_n 3, 0, 0, 0, 0), (.iconst 2, 0, 0, 2, 0), (.iadd, 0, 0, 0, 0)] (by decide +kernel) rfl trivial ?_
  refine G_sld B hX (hb 2 (by decide) (by decide)) (by decide +kernel) ?_
  refine G_callV B (As := [.inl (xs (tn (i + 1))), .inl (xs (tn (i + 2)))]) (S := []) (k := 4) (i := 0) (by decide) (t_X4_taken l X (xs (tn (i + 1))) (xs (tn (i + 2))) w B.2.2.2.2.2.2.2.2.1 _ h1) me_X4_taken mi_X4_taken mv_X4_taken rfl lk_L_166 (by decide +kernel) rfl ⟨by decide, by decide⟩ ⟨hce, hsl⟩ (Nat.le_of_ble_eq_true rfl) ?_
  rintro v1 n1 fl1 w3 ⟨rfl, rfl, hv⟩
  cases hv
  show G _ _ _ _ _ _ _ _ _ _ _ _ ce sl _ 57 flT 1562 (LL0 i) [.inl v] w1
  refine G_run B flG_T (pc1 := 1567) (L1 := LL0 i) (S1 := [.inl (i + 1), .inr (.inr (some (41, 0))), .inr (.inr (some (5, 0))), .inl v]) (w1 := w1) (P := True) [(.aload_n 2, 0, 0, 0, 0), (.aload_n 0, 0, 0, 0, 0), (.iload_n 3, 0, 0, 0, 0), (.iconst 1, 0, 0, 1, 0), (.iadd, 0, 0, 0, 0)] (by decide +kernel) rfl trivial ?_
  refine G_sld B hX (hb 1 (by decide) (by decide)) (by decide +kernel) ?_
  refine G_run B flG_T (pc1 := 1572) (L1 := LL0 i) (S1 := [.inl (i + 2), .inr (.inr (some (41, 0))), .inl (xs (tn (i + 1))), .inr (.inr (some (5, 0))), .inl v]) (w1 := w1) (P := True) [(.aload_n 0, 0, 0, 0, 0), (.iload_n 3, 0, 0, 0, 0), (.iconst 2, 0, 0, 2, 0), (.iadd, 0, 0, 0, 0)] (by decide +kernel) rfl trivial ?_
  refine G_sld B hX (hb 2 (by decide) (by decide)) (by decide +kernel) ?_
  refine G_callV B (As := [.inl (xs (tn (i + 1))), .inl (xs (tn (i + 2)))]) (S := [.inl v]) (k := 5) (i := 0) (by decide) (t_X5_taken l X (xs (tn (i + 1))) (xs (tn (i + 2))) w1 B.2.2.2.2.2.2.2.2.1 _ h2) me_X5_taken mi_X5_taken mv_X5_taken rfl lk_L_169 (by decide +kernel) rfl ⟨by decide, by decide⟩ ⟨hce, hsl⟩ (Nat.le_of_ble_eq_true rfl) ?_
  rintro v1 n1 fl1 w3 ⟨rfl, rfl, hv⟩
  cases hv
  show G _ _ _ _ _ _ _ _ _ _ _ _ ce sl _ 57 flT 1576 (LL0 i) [.inl v, .inl v] w2
  exact G_icmp B (k := .eq) (off := 5) (tgt := 1581) (by decide +kernel) (by decide) (fun _ => kk) (fun h => absurd rfl h)
/-- what the calls owe: each keeps the bond, and both sides answer alike -/
def Owed (Inv : Mem → Prop) : Prop :=
  (∀ (a1 : Int32) (w : Mem), Inv w → ∃ (v : Int32) (w1 w2 : Mem), f_X4_count a1 w = some (v, w1) ∧ f_X5_count a1 w1 = some (v, w2) ∧ Inv w2) ∧
  (∀ (a1 a2 : Int32) (w : Mem), Inv w → ∃ (v : Int32) (w1 w2 : Mem), f_X4_shore a1 a2 w = some (v, w1) ∧ f_X5_shore a1 a2 w1 = some (v, w2) ∧ Inv w2) ∧
  (∀ (a1 a2 a3 a4 a5 a6 : Int32) (w : Mem), Inv w → ∃ (v : Int32) (w1 w2 : Mem), f_X4_feed a1 a2 a3 a4 a5 a6 w = some (v, w1) ∧ f_X5_feed a1 a2 a3 a4 a5 a6 w1 = some (v, w2) ∧ Inv w2) ∧
  (∀ (w : Mem), Inv w → ∃ (v : Int32) (w1 w2 : Mem), f_X4_text  w = some (v, w1) ∧ f_X5_text  w1 = some (v, w2) ∧ Inv w2) ∧
  (∀ (a1 : Int32) (w : Mem), Inv w → ∃ (v : Int32) (w1 w2 : Mem), f_X4_force a1 w = some (v, w1) ∧ f_X5_force a1 w1 = some (v, w2) ∧ Inv w2) ∧
  (∀ (a1 a2 a3 : Int32) (w : Mem), Inv w → ∃ (v : Int32) (w1 w2 : Mem), f_X4_asks a1 a2 a3 w = some (v, w1) ∧ f_X5_asks a1 a2 a3 w1 = some (v, w2) ∧ Inv w2) ∧
  (∀ (a1 a2 : Int32) (w : Mem), Inv w → ∃ (v : Int32) (w1 w2 : Mem), f_X4_fisher a1 a2 w = some (v, w1) ∧ f_X5_fisher a1 a2 w1 = some (v, w2) ∧ Inv w2) ∧
  (∀ (a1 a2 a3 : Int32) (w : Mem), Inv w → ∃ (v : Int32) (w1 w2 : Mem), f_X4_put a1 a2 a3 w = some (v, w1) ∧ f_X5_put a1 a2 a3 w1 = some (v, w2) ∧ Inv w2) ∧
  (∀ (a1 a2 : Int32) (w : Mem), Inv w → ∃ (v : Int32) (w1 w2 : Mem), f_X4_told a1 a2 w = some (v, w1) ∧ f_X5_told a1 a2 w1 = some (v, w2) ∧ Inv w2) ∧
  (∀ (a1 a2 a3 : Int32) (w : Mem), Inv w → ∃ (v : Int32) (w1 w2 : Mem), f_X4_lands a1 a2 a3 w = some (v, w1) ∧ f_X5_lands a1 a2 a3 w1 = some (v, w2) ∧ Inv w2) ∧
  (∀ (a1 a2 : Int32) (w : Mem), Inv w → ∃ (v : Int32) (w1 w2 : Mem), f_X4_land a1 a2 w = some (v, w1) ∧ f_X5_land a1 a2 w1 = some (v, w2) ∧ Inv w2) ∧
  (∀ (a1 a2 : Int32) (w : Mem), Inv w → ∃ (v : Int32) (w1 w2 : Mem), f_X4_teach a1 a2 w = some (v, w1) ∧ f_X5_teach a1 a2 w1 = some (v, w2) ∧ Inv w2) ∧
  (∀ (w : Mem), Inv w → ∃ (v : Int32) (w1 w2 : Mem), f_X4_tide  w = some (v, w1) ∧ f_X5_tide  w1 = some (v, w2) ∧ Inv w2) ∧
  (∀ (a1 a2 : Int32) (w : Mem), Inv w → ∃ (v : Int32) (w1 w2 : Mem), f_X4_talk a1 a2 w = some (v, w1) ∧ f_X5_talk a1 a2 w1 = some (v, w2) ∧ Inv w2) ∧
  (∀ (a1 a2 a3 : Int32) (w : Mem), Inv w → ∃ (v : Int32) (w1 w2 : Mem), f_X4_season a1 a2 a3 w = some (v, w1) ∧ f_X5_season a1 a2 a3 w1 = some (v, w2) ∧ Inv w2) ∧
  (∀ (a1 a2 : Int32) (w : Mem), Inv w → ∃ (v : Int32) (w1 w2 : Mem), f_X4_fish a1 a2 w = some (v, w1) ∧ f_X5_fish a1 a2 w1 = some (v, w2) ∧ Inv w2) ∧
  (∀ (a1 a2 : Int32) (w : Mem), Inv w → ∃ (v : Int32) (w1 w2 : Mem), f_X4_which a1 a2 w = some (v, w1) ∧ f_X5_which a1 a2 w1 = some (v, w2) ∧ Inv w2) ∧
  (∀ (a1 a2 : Int32) (w : Mem), Inv w → ∃ (v : Int32) (w1 w2 : Mem), f_X4_taught a1 a2 w = some (v, w1) ∧ f_X5_taught a1 a2 w1 = some (v, w2) ∧ Inv w2) ∧
  (∀ (a1 a2 a3 : Int32) (w : Mem), Inv w → ∃ (v : Int32) (w1 w2 : Mem), f_X4_lessons a1 a2 a3 w = some (v, w1) ∧ f_X5_lessons a1 a2 a3 w1 = some (v, w2) ∧ Inv w2) ∧
  (∀ (a1 : Int32) (w : Mem), Inv w → ∃ (v : Int32) (w1 w2 : Mem), f_X4_when a1 w = some (v, w1) ∧ f_X5_when a1 w1 = some (v, w2) ∧ Inv w2) ∧
  (∀ (a1 a2 : Int32) (w : Mem), Inv w → ∃ (v : Int64) (w1 w2 : Mem), f_X4_share a1 a2 w = some (v, w1) ∧ f_X5_share a1 a2 w1 = some (v, w2) ∧ Inv w2) ∧
  (∀ (a1 a2 a3 : Int32) (w : Mem), Inv w → ∃ (v : Int32) (w1 w2 : Mem), f_X4_judge a1 a2 a3 w = some (v, w1) ∧ f_X5_judge a1 a2 a3 w1 = some (v, w2) ∧ Inv w2) ∧
  (∀ (a1 a2 a3 a4 : Int32) (w : Mem), Inv w → ∃ (v : Int32) (w1 w2 : Mem), f_X4_kinds a1 a2 a3 a4 w = some (v, w1) ∧ f_X5_kinds a1 a2 a3 a4 w1 = some (v, w2) ∧ Inv w2) ∧
  (∀ (a1 a2 a3 : Int32) (w : Mem), Inv w → ∃ (v : Int32) (w1 w2 : Mem), f_X4_turned a1 a2 a3 w = some (v, w1) ∧ f_X5_turned a1 a2 a3 w1 = some (v, w2) ∧ Inv w2) ∧
  (∀ (a1 a2 a3 a4 : Int32) (w : Mem), Inv w → ∃ (v : Int32) (w1 w2 : Mem), f_X4_lucks a1 a2 a3 a4 w = some (v, w1) ∧ f_X5_lucks a1 a2 a3 a4 w1 = some (v, w2) ∧ Inv w2) ∧
  (∀ (a1 a2 : Int32) (w : Mem), Inv w → ∃ (v : Int32) (w1 w2 : Mem), f_X4_whose a1 a2 w = some (v, w1) ∧ f_X5_whose a1 a2 w1 = some (v, w2) ∧ Inv w2) ∧
  (∀ (a1 a2 a3 : Int32) (w : Mem), Inv w → ∃ (v : Int32) (w1 w2 : Mem), f_X4_laws a1 a2 a3 w = some (v, w1) ∧ f_X5_laws a1 a2 a3 w1 = some (v, w2) ∧ Inv w2) ∧
  (∀ (a1 a2 a3 : Int32) (w : Mem), Inv w → ∃ (v : Int32) (w1 w2 : Mem), f_X4_film a1 a2 a3 w = some (v, w1) ∧ f_X5_film a1 a2 a3 w1 = some (v, w2) ∧ Inv w2) ∧
  (∀ (a1 a2 a3 : Int32) (w : Mem), Inv w → ∃ (v : Int32) (w1 w2 : Mem), f_X4_drawn a1 a2 a3 w = some (v, w1) ∧ f_X5_drawn a1 a2 a3 w1 = some (v, w2) ∧ Inv w2) ∧
  (∀ (a1 a2 a3 a4 : Int32) (w : Mem), Inv w → ∃ (v : Int64) (w1 w2 : Mem), f_X4_odds a1 a2 a3 a4 w = some (v, w1) ∧ f_X5_odds a1 a2 a3 a4 w1 = some (v, w2) ∧ Inv w2) ∧
  (∀ (w : Mem), Inv w → ∃ (v : Int32) (w1 w2 : Mem), f_X4_image  w = some (v, w1) ∧ f_X5_image  w1 = some (v, w2) ∧ Inv w2) ∧
  (∀ (w : Mem), Inv w → ∃ (v : Int32) (w1 w2 : Mem), f_X4_back  w = some (v, w1) ∧ f_X5_back  w1 = some (v, w2) ∧ Inv w2) ∧
  (∀ (a1 a2 a3 : Int32) (w : Mem), Inv w → ∃ (v : Int32) (w1 w2 : Mem), f_X4_sheet a1 a2 a3 w = some (v, w1) ∧ f_X5_sheet a1 a2 a3 w1 = some (v, w2) ∧ Inv w2) ∧
  (∀ (a1 a2 a3 : Int32) (w : Mem), Inv w → ∃ (v : Int32) (w1 w2 : Mem), f_X4_cell a1 a2 a3 w = some (v, w1) ∧ f_X5_cell a1 a2 a3 w1 = some (v, w2) ∧ Inv w2) ∧
  (∀ (a1 a2 a3 a4 a5 : Int32) (w : Mem), Inv w → ∃ (v : Int32) (w1 w2 : Mem), f_X4_copy a1 a2 a3 a4 a5 w = some (v, w1) ∧ f_X5_copy a1 a2 a3 a4 a5 w1 = some (v, w2) ∧ Inv w2) ∧
  (∀ (a1 a2 a3 a4 : Int32) (w : Mem), Inv w → ∃ (v : Int32) (w1 w2 : Mem), f_X4_fishersBy a1 a2 a3 a4 w = some (v, w1) ∧ f_X5_fishersBy a1 a2 a3 a4 w1 = some (v, w2) ∧ Inv w2) ∧
  (∀ (a1 a2 : Int32) (w : Mem), Inv w → ∃ (v : Int32) (w1 w2 : Mem), f_X4_taken a1 a2 w = some (v, w1) ∧ f_X5_taken a1 a2 w1 = some (v, w2) ∧ Inv w2)
set_option maxRecDepth 100000 in
theorem L_sw {Inv : Mem → Prop} (hO : Owed Inv) (B : Bd X mi_L p s m args meth c) (hX : scr X s Ln xs) {i : Int32} (hb : ∀ j : Int32, 0 ≤ j → j ≤ 6 → inB (i + j) Ln) (hce : ce ≤ 600000) (hsl : sl ≤ 7302250) (hI : Inv w) {x : Int32} (kk : ∀ w2, Inv w2 → G l X mi_L p e room_1 s m args below meth c ce sl Q 57 flT 1581 (LL0 i) [] w2) : G l X mi_L p e room_1 s m args below meth c ce sl Q 57 flT 33 (LL0 i) [.inl x] w := by
  refine G_swl B (dflt := 1548) (offs := #[163, 186, 219, 294, 307, 330, 373, 406, 449, 482, 525, 558, 591, 604, 637, 680, 713, 746, 779, 822, 845, 879, 922, 975, 1018, 1071, 1104, 1147, 1190, 1233, 1287, 1300, 1313, 1356, 1399, 1462, 1515]) (len := 163) (dt := 1581) [(0, 196), (1, 219), (2, 252), (3, 327), (4, 340), (5, 363), (6, 406), (7, 439), (8, 482), (9, 515), (10, 558), (11, 591), (12, 624), (13, 637), (14, 670), (15, 713), (16, 746), (17, 779), (18, 812), (19, 855), (20, 878), (21, 912), (22, 955), (23, 1008), (24, 1051), (25, 1104), (26, 1137), (27, 1180), (28, 1223), (29, 1266), (30, 1320), (31, 1333), (32, 1346), (33, 1389), (34, 1432), (35, 1495), (36, 1548)] (by decide +kernel) (by decide +kernel) rfl (by decide) ?_ (kk w hI)
  refine List.forall_mem_cons.mpr ⟨?_, List.forall_mem_cons.mpr ⟨?_, List.forall_mem_cons.mpr ⟨?_, List.forall_mem_cons.mpr ⟨?_, List.forall_mem_cons.mpr ⟨?_, List.forall_mem_cons.mpr ⟨?_, List.forall_mem_cons.mpr ⟨?_, List.forall_mem_cons.mpr ⟨?_, List.forall_mem_cons.mpr ⟨?_, List.forall_mem_cons.mpr ⟨?_, List.forall_mem_cons.mpr ⟨?_, List.forall_mem_cons.mpr ⟨?_, List.forall_mem_cons.mpr ⟨?_, List.forall_mem_cons.mpr ⟨?_, List.forall_mem_cons.mpr ⟨?_, List.forall_mem_cons.mpr ⟨?_, List.forall_mem_cons.mpr ⟨?_, List.forall_mem_cons.mpr ⟨?_, List.forall_mem_cons.mpr ⟨?_, List.forall_mem_cons.mpr ⟨?_, List.forall_mem_cons.mpr ⟨?_, List.forall_mem_cons.mpr ⟨?_, List.forall_mem_cons.mpr ⟨?_, List.forall_mem_cons.mpr ⟨?_, List.forall_mem_cons.mpr ⟨?_, List.forall_mem_cons.mpr ⟨?_, List.forall_mem_cons.mpr ⟨?_, List.forall_mem_cons.mpr ⟨?_, List.forall_mem_cons.mpr ⟨?_, List.forall_mem_cons.mpr ⟨?_, List.forall_mem_cons.mpr ⟨?_, List.forall_mem_cons.mpr ⟨?_, List.forall_mem_cons.mpr ⟨?_, List.forall_mem_cons.mpr ⟨?_, List.forall_mem_cons.mpr ⟨?_, List.forall_mem_cons.mpr ⟨?_, List.forall_mem_cons.mpr ⟨?_, fun _ h => absurd h List.not_mem_nil⟩⟩⟩⟩⟩⟩⟩⟩⟩⟩⟩⟩⟩⟩⟩⟩⟩⟩⟩⟩⟩⟩⟩⟩⟩⟩⟩⟩⟩⟩⟩⟩⟩⟩⟩⟩⟩
  · obtain ⟨v, w1, w2, h1, h2, h3⟩ := hO.1 (xs (tn (i + 1))) w hI
    exact L_0 B hX hb hce hsl h1 h2 (kk w2 h3)
  · obtain ⟨v, w1, w2, h1, h2, h3⟩ := hO.2.1 (xs (tn (i + 1))) (xs (tn (i + 2))) w hI
    exact L_1 B hX hb hce hsl h1 h2 (kk w2 h3)
  · obtain ⟨v, w1, w2, h1, h2, h3⟩ := hO.2.2.1 (xs (tn (i + 1))) (xs (tn (i + 2))) (xs (tn (i + 3))) (xs (tn (i + 4))) (xs (tn (i + 5))) (xs (tn (i + 6))) w hI
    exact L_2 B hX hb hce hsl h1 h2 (kk w2 h3)
  · obtain ⟨v, w1, w2, h1, h2, h3⟩ := hO.2.2.2.1  w hI
    exact L_3 B hX hb hce hsl h1 h2 (kk w2 h3)
  · obtain ⟨v, w1, w2, h1, h2, h3⟩ := hO.2.2.2.2.1 (xs (tn (i + 1))) w hI
    exact L_4 B hX hb hce hsl h1 h2 (kk w2 h3)
  · obtain ⟨v, w1, w2, h1, h2, h3⟩ := hO.2.2.2.2.2.1 (xs (tn (i + 1))) (xs (tn (i + 2))) (xs (tn (i + 3))) w hI
    exact L_5 B hX hb hce hsl h1 h2 (kk w2 h3)
  · obtain ⟨v, w1, w2, h1, h2, h3⟩ := hO.2.2.2.2.2.2.1 (xs (tn (i + 1))) (xs (tn (i + 2))) w hI
    exact L_6 B hX hb hce hsl h1 h2 (kk w2 h3)
  · obtain ⟨v, w1, w2, h1, h2, h3⟩ := hO.2.2.2.2.2.2.2.1 (xs (tn (i + 1))) (xs (tn (i + 2))) (xs (tn (i + 3))) w hI
    exact L_7 B hX hb hce hsl h1 h2 (kk w2 h3)
  · obtain ⟨v, w1, w2, h1, h2, h3⟩ := hO.2.2.2.2.2.2.2.2.1 (xs (tn (i + 1))) (xs (tn (i + 2))) w hI
    exact L_8 B hX hb hce hsl h1 h2 (kk w2 h3)
  · obtain ⟨v, w1, w2, h1, h2, h3⟩ := hO.2.2.2.2.2.2.2.2.2.1 (xs (tn (i + 1))) (xs (tn (i + 2))) (xs (tn (i + 3))) w hI
    exact L_9 B hX hb hce hsl h1 h2 (kk w2 h3)
  · obtain ⟨v, w1, w2, h1, h2, h3⟩ := hO.2.2.2.2.2.2.2.2.2.2.1 (xs (tn (i + 1))) (xs (tn (i + 2))) w hI
    exact L_10 B hX hb hce hsl h1 h2 (kk w2 h3)
  · obtain ⟨v, w1, w2, h1, h2, h3⟩ := hO.2.2.2.2.2.2.2.2.2.2.2.1 (xs (tn (i + 1))) (xs (tn (i + 2))) w hI
    exact L_11 B hX hb hce hsl h1 h2 (kk w2 h3)
  · obtain ⟨v, w1, w2, h1, h2, h3⟩ := hO.2.2.2.2.2.2.2.2.2.2.2.2.1  w hI
    exact L_12 B hX hb hce hsl h1 h2 (kk w2 h3)
  · obtain ⟨v, w1, w2, h1, h2, h3⟩ := hO.2.2.2.2.2.2.2.2.2.2.2.2.2.1 (xs (tn (i + 1))) (xs (tn (i + 2))) w hI
    exact L_13 B hX hb hce hsl h1 h2 (kk w2 h3)
  · obtain ⟨v, w1, w2, h1, h2, h3⟩ := hO.2.2.2.2.2.2.2.2.2.2.2.2.2.2.1 (xs (tn (i + 1))) (xs (tn (i + 2))) (xs (tn (i + 3))) w hI
    exact L_14 B hX hb hce hsl h1 h2 (kk w2 h3)
  · obtain ⟨v, w1, w2, h1, h2, h3⟩ := hO.2.2.2.2.2.2.2.2.2.2.2.2.2.2.2.1 (xs (tn (i + 1))) (xs (tn (i + 2))) w hI
    exact L_15 B hX hb hce hsl h1 h2 (kk w2 h3)
  · obtain ⟨v, w1, w2, h1, h2, h3⟩ := hO.2.2.2.2.2.2.2.2.2.2.2.2.2.2.2.2.1 (xs (tn (i + 1))) (xs (tn (i + 2))) w hI
    exact L_16 B hX hb hce hsl h1 h2 (kk w2 h3)
  · obtain ⟨v, w1, w2, h1, h2, h3⟩ := hO.2.2.2.2.2.2.2.2.2.2.2.2.2.2.2.2.2.1 (xs (tn (i + 1))) (xs (tn (i + 2))) w hI
    exact L_17 B hX hb hce hsl h1 h2 (kk w2 h3)
  · obtain ⟨v, w1, w2, h1, h2, h3⟩ := hO.2.2.2.2.2.2.2.2.2.2.2.2.2.2.2.2.2.2.1 (xs (tn (i + 1))) (xs (tn (i + 2))) (xs (tn (i + 3))) w hI
    exact L_18 B hX hb hce hsl h1 h2 (kk w2 h3)
  · obtain ⟨v, w1, w2, h1, h2, h3⟩ := hO.2.2.2.2.2.2.2.2.2.2.2.2.2.2.2.2.2.2.2.1 (xs (tn (i + 1))) w hI
    exact L_19 B hX hb hce hsl h1 h2 (kk w2 h3)
  · obtain ⟨v, w1, w2, h1, h2, h3⟩ := hO.2.2.2.2.2.2.2.2.2.2.2.2.2.2.2.2.2.2.2.2.1 (xs (tn (i + 1))) (xs (tn (i + 2))) w hI
    exact L_20 B hX hb hce hsl h1 h2 (kk w2 h3)
  · obtain ⟨v, w1, w2, h1, h2, h3⟩ := hO.2.2.2.2.2.2.2.2.2.2.2.2.2.2.2.2.2.2.2.2.2.1 (xs (tn (i + 1))) (xs (tn (i + 2))) (xs (tn (i + 3))) w hI
    exact L_21 B hX hb hce hsl h1 h2 (kk w2 h3)
  · obtain ⟨v, w1, w2, h1, h2, h3⟩ := hO.2.2.2.2.2.2.2.2.2.2.2.2.2.2.2.2.2.2.2.2.2.2.1 (xs (tn (i + 1))) (xs (tn (i + 2))) (xs (tn (i + 3))) (xs (tn (i + 4))) w hI
    exact L_22 B hX hb hce hsl h1 h2 (kk w2 h3)
  · obtain ⟨v, w1, w2, h1, h2, h3⟩ := hO.2.2.2.2.2.2.2.2.2.2.2.2.2.2.2.2.2.2.2.2.2.2.2.1 (xs (tn (i + 1))) (xs (tn (i + 2))) (xs (tn (i + 3))) w hI
    exact L_23 B hX hb hce hsl h1 h2 (kk w2 h3)
  · obtain ⟨v, w1, w2, h1, h2, h3⟩ := hO.2.2.2.2.2.2.2.2.2.2.2.2.2.2.2.2.2.2.2.2.2.2.2.2.1 (xs (tn (i + 1))) (xs (tn (i + 2))) (xs (tn (i + 3))) (xs (tn (i + 4))) w hI
    exact L_24 B hX hb hce hsl h1 h2 (kk w2 h3)
  · obtain ⟨v, w1, w2, h1, h2, h3⟩ := hO.2.2.2.2.2.2.2.2.2.2.2.2.2.2.2.2.2.2.2.2.2.2.2.2.2.1 (xs (tn (i + 1))) (xs (tn (i + 2))) w hI
    exact L_25 B hX hb hce hsl h1 h2 (kk w2 h3)
  · obtain ⟨v, w1, w2, h1, h2, h3⟩ := hO.2.2.2.2.2.2.2.2.2.2.2.2.2.2.2.2.2.2.2.2.2.2.2.2.2.2.1 (xs (tn (i + 1))) (xs (tn (i + 2))) (xs (tn (i + 3))) w hI
    exact L_26 B hX hb hce hsl h1 h2 (kk w2 h3)
  · obtain ⟨v, w1, w2, h1, h2, h3⟩ := hO.2.2.2.2.2.2.2.2.2.2.2.2.2.2.2.2.2.2.2.2.2.2.2.2.2.2.2.1 (xs (tn (i + 1))) (xs (tn (i + 2))) (xs (tn (i + 3))) w hI
    exact L_27 B hX hb hce hsl h1 h2 (kk w2 h3)
  · obtain ⟨v, w1, w2, h1, h2, h3⟩ := hO.2.2.2.2.2.2.2.2.2.2.2.2.2.2.2.2.2.2.2.2.2.2.2.2.2.2.2.2.1 (xs (tn (i + 1))) (xs (tn (i + 2))) (xs (tn (i + 3))) w hI
    exact L_28 B hX hb hce hsl h1 h2 (kk w2 h3)
  · obtain ⟨v, w1, w2, h1, h2, h3⟩ := hO.2.2.2.2.2.2.2.2.2.2.2.2.2.2.2.2.2.2.2.2.2.2.2.2.2.2.2.2.2.1 (xs (tn (i + 1))) (xs (tn (i + 2))) (xs (tn (i + 3))) (xs (tn (i + 4))) w hI
    exact L_29 B hX hb hce hsl h1 h2 (kk w2 h3)
  · obtain ⟨v, w1, w2, h1, h2, h3⟩ := hO.2.2.2.2.2.2.2.2.2.2.2.2.2.2.2.2.2.2.2.2.2.2.2.2.2.2.2.2.2.2.1  w hI
    exact L_30 B hX hb hce hsl h1 h2 (kk w2 h3)
  · obtain ⟨v, w1, w2, h1, h2, h3⟩ := hO.2.2.2.2.2.2.2.2.2.2.2.2.2.2.2.2.2.2.2.2.2.2.2.2.2.2.2.2.2.2.2.1  w hI
    exact L_31 B hX hb hce hsl h1 h2 (kk w2 h3)
  · obtain ⟨v, w1, w2, h1, h2, h3⟩ := hO.2.2.2.2.2.2.2.2.2.2.2.2.2.2.2.2.2.2.2.2.2.2.2.2.2.2.2.2.2.2.2.2.1 (xs (tn (i + 1))) (xs (tn (i + 2))) (xs (tn (i + 3))) w hI
    exact L_32 B hX hb hce hsl h1 h2 (kk w2 h3)
  · obtain ⟨v, w1, w2, h1, h2, h3⟩ := hO.2.2.2.2.2.2.2.2.2.2.2.2.2.2.2.2.2.2.2.2.2.2.2.2.2.2.2.2.2.2.2.2.2.1 (xs (tn (i + 1))) (xs (tn (i + 2))) (xs (tn (i + 3))) w hI
    exact L_33 B hX hb hce hsl h1 h2 (kk w2 h3)
  · obtain ⟨v, w1, w2, h1, h2, h3⟩ := hO.2.2.2.2.2.2.2.2.2.2.2.2.2.2.2.2.2.2.2.2.2.2.2.2.2.2.2.2.2.2.2.2.2.2.1 (xs (tn (i + 1))) (xs (tn (i + 2))) (xs (tn (i + 3))) (xs (tn (i + 4))) (xs (tn (i + 5))) w hI
    exact L_34 B hX hb hce hsl h1 h2 (kk w2 h3)
  · obtain ⟨v, w1, w2, h1, h2, h3⟩ := hO.2.2.2.2.2.2.2.2.2.2.2.2.2.2.2.2.2.2.2.2.2.2.2.2.2.2.2.2.2.2.2.2.2.2.2.1 (xs (tn (i + 1))) (xs (tn (i + 2))) (xs (tn (i + 3))) (xs (tn (i + 4))) w hI
    exact L_35 B hX hb hce hsl h1 h2 (kk w2 h3)
  · obtain ⟨v, w1, w2, h1, h2, h3⟩ := hO.2.2.2.2.2.2.2.2.2.2.2.2.2.2.2.2.2.2.2.2.2.2.2.2.2.2.2.2.2.2.2.2.2.2.2.2 (xs (tn (i + 1))) (xs (tn (i + 2))) w hI
    exact L_36 B hX hb hce hsl h1 h2 (kk w2 h3)
end LAW
