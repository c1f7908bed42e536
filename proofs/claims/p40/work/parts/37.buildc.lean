/-! build as a contract -/
noncomputable def f_bT (q : Int32 → Int32) (w : Mem) : Option (Option (Nat × Nat) × Mem) := Option.bind (f_L_text 40 41 (txq q).length (fun j => (txq q).getD j 0) w) (fun w1 => Option.bind (f_X4_text w1) (fun r2 => Option.bind (f_X4_force r2.1 r2.2) (fun r3 => f_bC q r3.2)))
noncomputable def f_b92 (q : Int32 → Int32) (w : Mem) : Option (Option (Nat × Nat) × Mem) := Option.bind (f_L_plain q w) (fun r => if r.1 = 0 then f_bT q r.2 else f_bC q r.2)
noncomputable def f_build (q : Int32 → Int32) (w : Mem) : Option (Option (Nat × Nat) × Mem) := f_bA q (f_b92 q) (w_X4_0 (clr w 4 0))
def ZB2 (X : XC) (r : Option (Nat × Nat) × Mem) (p : Program) (e : Env) (s : State) (m : MethodId) (args : Array Value) (below : List Frame) (meth : Method) (c : Code) : State → Prop := fun t => s.heap.size = xb X → ZB X r p e s m args below meth c t
theorem W_imp {p : Program} {l : Launch} {e : Env} {R : Room} {s : State} {m : MethodId} {args : Array Value} {below : List Frame} {meth : Method} {c : Code} {H : Heap} {locs : List Loc} {ce sl : Nat} {Q Q' : State → Prop} {g : JFrame} (h : ∀ t, Q t → Q' t) (kk : W p l e R s m args below meth c H locs ce sl Q g) : W p l e R s m args below meth c H locs ce sl Q' g :=
  fun T hT X => let ⟨t, a, b⟩ := kk T hT X; ⟨t, a, h t b⟩
theorem fd37 : ∀ k, k < 6 → ∀ j, j < 11 → ∀ t ∈ fdD k j, t.1 < 37 := by decide +kernel
theorem fd_lt {k j : Nat} {t : Nat × Option Nat} (h : fdD k j = some t) : t.1 < 37 := by
  by_cases hk : k < 6
  · by_cases hj : j < 11
    · exact fd37 k hk j hj t h
    · exfalso
      have h2 : ∀ k, k < 6 → (fldT.getD k []).length ≤ 11 := by decide +kernel
      unfold fdD at h
      rw [List.getD_eq_getElem?_getD, List.getElem?_eq_none (by have := h2 k hk; omega)] at h
      cases h
  · exfalso
    unfold fdD at h
    rw [List.getD_eq_getElem?_getD (l := fldT), List.getElem?_eq_none (by show 6 ≤ k; omega)] at h
    cases h
theorem ad_rp {X : XC} {pl : Nat → Nat} (h98 : pl 98 = X.2.2.2.1 98) (h99 : pl 99 = X.2.2.2.1 99) : ad (rp X pl) = ad X := by
  funext q
  show (if q = 39 then pl 99 else pl 98 + q) = if q = 39 then X.2.2.2.1 99 else X.2.2.2.1 98 + q
  rw [h98, h99]
theorem adr_rp {X : XC} {pl : Nat → Nat} (h98 : pl 98 = X.2.2.2.1 98) (h99 : pl 99 = X.2.2.2.1 99) {k : Nat} (hk : k < 37) (i : Nat) : adr (rp X pl) k i = adr X k i := by
  rw [adr_own _ hk, adr_own _ hk, ad_rp h98 h99]
theorem wl_rp {X : XC} {pl : Nat → Nat} (h97 : pl 97 = X.2.2.2.1 97) (h98 : pl 98 = X.2.2.2.1 98) (h99 : pl 99 = X.2.2.2.1 99) (n : Nat) (fl : Fl) (w : Mem) : wl (rp X pl) n fl w = wl X n fl w := by
  unfold wl
  refine List.map_congr_left (fun q _ => ?_)
  rw [ad_rp h98 h99]
  have h1 : ∀ k i, fvs (rp X pl) fl w k i = fvs X fl w k i := by
    intro k i
    unfold fvs
    refine List.map_congr_left (fun j _ => ?_)
    unfold fv
    cases hf : fdD k j with
    | none => rfl
    | some t =>
      show (if fl k i j = true then Value.ref (adr (rp X pl) t.1 (t.2.getD i)) else .null) = if fl k i j = true then Value.ref (adr X t.1 (t.2.getD i)) else .null
      rw [adr_rp h98 h99 (fd_lt hf)]
  have h2 : ent (rp X pl) fl w (al q) = ent X fl w (al q) := by
    unfold ent
    rw [h1]
    have h3 : ∀ j, adr (rp X pl) 2 j = adr X 2 j := fun j => adr_rp h98 h99 (by decide) j
    have h4 : lc (rp X pl) = lc X := h97
    simp only [h3, h4]
    rfl
  rw [h2]
theorem GX_wid {ρ : Type} {l : Launch} {X : XC} {mi : MI} {R0 : Room} {ce0 sl0 k n0 : Nat} {Z Z' : ρ → Program → Env → State → MethodId → Array Value → List Frame → Method → Code → State → Prop} {n : Nat} {fl : Fl} {E : Option ρ} {pc : Nat} {L : LL} {S : List AV} {w : Mem} (h1 : ce0 ≤ k) (h2 : sl0 ≤ n0) (hz : ∀ r p e s m args below meth c t, Z r p e s m args below meth c t → Z' r p e s m args below meth c t) (kk : GX l X mi R0 k n0 Z n fl E pc L S w) : GX l X mi R0 ce0 sl0 Z' n fl E pc L S w :=
  fun r hr p e s m args below meth c B H locs ls hW hS hl hL oL oS => W_imp (hz r p e s m args below meth c) (W.widen h1 h2 (kk r hr p e s m args below meth c B H locs ls hW hS hl hL oL oS))
/-- what build needs of the start -/
def SU (X : XC) (Y : YC) : Prop := XB X Y ∧ DG X ∧ xc X = xb X ∧ va_AO "NameThrownBack$Sheet" X.2.2.1
theorem KpY_tr {X : XC} {H H1 : Heap} (h : KpY X H) (h1 : KpY (fz X H) H1) : KpY X H1 := by
  refine ⟨Nat.le_trans h.1 h1.1, fun q hq hn => ?_⟩
  have h2 : H1[q]? = H[q]? := h1.2 q (Nat.lt_of_lt_of_le hq h.1) (fun z => hn (fz_aa h.1 q z))
  rw [h2]
  exact h.2 q hq hn
set_option maxRecDepth 100000 in
theorem bX_ok (l : Launch) {X0 : XC} {Y : YC} (hU : SU X0 Y) {ce0 sl0 : Nat} (hce : ce0 ≤ 39) (hsl : sl0 ≤ 1700) (q : Int32 → Int32) (hq : SAT X0 q) (w : Mem) : GX l X0 mm_L_build rmB ce0 sl0 (ZB2 X0) 39 flT (f_bT q w) 99 [some (.inr (.inr (some (41, 0)))), some (.inr (.inr (some (4, 0)))), none] [] w := by
  intro r hr p e s m args below meth c B H locs ls hW hS hl hL oL oS
  by_cases hz : s.heap.size = xb X0
  · refine W_imp (Q := ZB X0 r p e s m args below meth c) (fun t h _ => h) ?_
    obtain ⟨w1, h1, hr⟩ := Option.bind_eq_some_iff.mp hr
    obtain ⟨r2, h2, hr⟩ := Option.bind_eq_some_iff.mp hr
    obtain ⟨r3, h3, hr⟩ := Option.bind_eq_some_iff.mp hr
    have hk0 : KpY X0 H := Wd_kp hW
    have hb : BW X0 (fz X0 H) Y s := ⟨⟨H, rfl⟩, XB_fz hU.1 hk0, hW.2.2.1.2.2 (Nat.le_refl 39), hk0.1, DG_fz hk0 hU.2.1, fun a ha => by
      have h5 := hU.2.2.1
      rcases ha with ha | ha
      · omega
      · have h6 : xb X0 ≤ a := ha
        omega⟩
    refine bS_ok hb B (SAT_fz hq hk0) hce hsl (fun t y b v f n hn hf hn62 => ?_) H locs ls (Wd_fz (Nat.le_refl 39) hW (fun h => absurd h (by decide))) (fun k q hk => by simp at hk) ⟨(fun i j x z hi => by simp at hi), (fun k q hk => by simp at hk)⟩ hS (by rw [lvP_fz]; exact hl) hL
    intro H1 locs1 ls1 hW1 hP1 hD1 hS1 hl1 hL1
    have hk1 : KpY X0 H1 := KpY_tr hk0 (Wd_kp hW1)
    let pl : Nat → Nat := fun k => if k = 40 then t else if k = 41 then y else X0.2.2.2.1 k
    have p40 : pl 40 = t := rfl
    have p41 : pl 41 = y := rfl
    have p97 : pl 97 = X0.2.2.2.1 97 := rfl
    have p98 : pl 98 = X0.2.2.2.1 98 := rfl
    have p99 : pl 99 = X0.2.2.2.1 99 := rfl
    have pk : ∀ k, k < 40 → pl k = X0.2.2.2.1 k := fun k hk => by
      show (if k = 40 then t else if k = 41 then y else X0.2.2.2.1 k) = _
      rw [if_neg (by omega), if_neg (by omega)]
    have hG : strG (rp (fz X0 H1) pl) 40 41 (txq q).length (fun j => (txq q).getD j 0) := by
      refine strG_of (args := args) (n := (txq q).length) (g := va_cpy f (fun _ => 0) 0 0 n) B.2.2.2.2.1 (hb.hK B (hb.sal B)) B.2.2.2.2.2.2.2.1 hP1 rfl (by rw [← hn]; rfl) (fun k z hk => Nat.le_trans (hW.2.2.1.2.2 (Nat.le_refl 39)) (hD1.2 k z hk)) p40 p41 p98 (by omega) (fun j hj => ?_)
      show (if 0 ≤ j ∧ j < 0 + n then f (0 + (j - 0)) else 0) = (txq q).getD j 0
      rw [if_pos (by omega), show 0 + (j - 0) = j by omega]
      exact hf j hj
    have hXz : XOK (rp (fz X0 H1) pl) := XOK_rp (X := fz X0 H1) (XOK_fz hU.1.1 hk1) pk p97 p98
    have haa : ∀ a, AA (rp (fz X0 H1) pl) a → AA X0 a := fun a ha => by
      rw [aa_rp (X := fz X0 H1) p98] at ha
      exact fz_aa hk1.1 a ha
    have hV : BV X0 (rp (fz X0 H1) pl) s := by
      refine ⟨hXz, B.2.2.2.2.2.2.2.1, ⟨B.2.2.2.2.2.2.2.2.2.2.2.1, fun z hzz => ?_⟩, haa⟩
      have h5 := B.2.2.2.2.2.2.2.2.2.2.2.2 z hzz
      have h6 : ∀ z ∈ strA, z.2.2.2 < 40 := by decide +kernel
      show vk_R z.1 z.2.1 z.2.2.1 (pl z.2.2.2) s
      rw [pk _ (h6 z hzz)]
      exact h5
    have hwl : ∀ w, wl (rp (fz X0 H1) pl) 39 flT w = wl X0 39 flT w := fun w => wl_rp (X := fz X0 H1) p97 p98 p99 39 flT w
    have hW2 : Wd (rp (fz X0 H1) pl) 39 flT w H1 := by
      have h5 : Wd (fz X0 H1) 39 flT w H1 := Wd_fz (X := fz X0 H) (Nat.le_refl 39) hW1 (fun h => absurd h (by decide))
      refine ⟨?_, ?_, ⟨Nat.le_refl _, fun h => absurd h (by decide), h5.2.2.1.2.2⟩, Nat.le_succ _, fun a _ => rfl⟩
      · rw [hwl]; exact h5.1
      · rw [hwl, aa_rp (X := fz X0 H1) p98]; exact h5.2.1
    have key : GW l X0 (rp (fz X0 H1) pl) Y mm_L_build p e rmB s m args below meth c mcB msB (ZB X0 r p e s m args below meth c) w 225 [some (.inr (.inr (some (41, 0)))), some (.inr (.inr (some (4, 0)))), none] [.inr (.inr (some (40, 40))), .inr (.inr (some (4, 0)))] [] := by
      refine GW_xS (As := [.inr (.inr (some (4, 0))), .inr (.inr (some (40, 40)))]) (S := []) hV B (t_L_text l _ (Nat.le_refl 39) 40 41 _ _ hG w) h1 ⟨me_L_text, ms_L_text, lk_L_98⟩ (by decide +kernel) rfl ⟨Nat.le_of_ble_eq_true rfl, Nat.le_of_ble_eq_true rfl⟩ ⟨Nat.le_refl _, Nat.le_refl _⟩ (Nat.le_of_ble_eq_true rfl) ?_
      refine GW_run B (w := w00) (P := True) (pc1 := 230) (L1 := [some (.inr (.inr (some (41, 0)))), some (.inr (.inr (some (4, 0)))), none]) (S1 := [.inr (.inr (some (4, 0))), .inr (.inr (some (4, 0)))]) (w1 := w00) [(.aload_n 1, 0, 0, 0, 0), (.aload_n 1, 0, 0, 0, 0)] (by decide +kernel) (by decide +kernel) rfl ?_
      refine GW_xV (As := []) (S := [.inr (.inr (some (4, 0)))]) hV B (t_X4_text l _ (Nat.le_refl 39) w1) h2 ⟨me_X4_text, mi_X4_text, mv_X4_text, lk_L_102⟩ rfl (by decide +kernel) rfl ⟨Nat.le_of_ble_eq_true rfl, Nat.le_of_ble_eq_true rfl⟩ ⟨Nat.le_refl _, Nat.le_refl _⟩ (Nat.le_of_ble_eq_true rfl) ?_
      refine GW_xV (As := [.inl r2.1]) (S := []) hV B (t_X4_force l _ (Nat.le_refl 39) r2.1 r2.2) h3 ⟨me_X4_force, mi_X4_force, mv_X4_force, lk_L_104⟩ rfl (by decide +kernel) rfl ⟨Nat.le_of_ble_eq_true rfl, Nat.le_of_ble_eq_true rfl⟩ ⟨Nat.le_refl _, Nat.le_refl _⟩ (Nat.le_of_ble_eq_true rfl) ?_
      refine GW_run B (w := w00) (P := True) (pc1 := 237) (L1 := [some (.inr (.inr (some (41, 0)))), some (.inr (.inr (some (4, 0)))), none]) (S1 := []) (w1 := w00) [(.pop, 0, 0, 0, 0)] (by decide +kernel) (by decide +kernel) rfl ?_
      intro H2 locs2 ls2 hW3 hP3 hD3 hS3 hl3 hL3
      have hWb : Wd X0 39 flT r3.2 H2 := by
        refine ⟨?_, ⟨?_, fun k z hk => ?_⟩, ⟨Nat.le_trans hk1.1 hW3.2.2.1.1, fun h => absurd h (by decide), hW3.2.2.1.2.2⟩, Nat.le_succ _, fun a ha => ?_⟩
        · have h5 := hW3.1; rw [hwl] at h5; exact h5
        · have h5 := hW3.2.1.1; rw [hwl] at h5; exact h5
        · have h5 := hW3.2.1.2; rw [hwl] at h5; exact haa _ (h5 k z hk)
        · have h5 : H2[a]? = H1[a]? := hW3.2.2.2.2 a (fun z => ha (haa a z))
          rw [h5]
          exact hk1.2 a (Nat.not_le.mp (fun z => ha (Or.inr z))) ha
      exact f_bC_ok l X0 q hq r3.2 r hr p e s m args below meth c B H2 locs2 ls2 hWb hS3 hl3 hL3 oL oS
    have k1 := key H1 locs1 ls1 hW2 (fun k q hk => by simp at hk) ⟨(fun i j x z hi => by simp at hi), (fun k q hk => by simp at hk)⟩ hS1 hl1 hL1
    have e1 : [.inr (.inr (some (40, 40))), .inr (.inr (some (4, 0)))].map (cv (rp (fz X0 H1) pl)) = [rf t, .inr (.inr (some (4, 0)))].map (cv (fz X0 H)) := by
      show [Value.ref t, Value.ref (adr X0 4 0)] = [cv (fz X0 H) (rf t), Value.ref (adr X0 4 0)]
      rw [hb.rf]
    rw [e1] at k1
    exact k1
  · intro T hT XT
    exact ⟨_, Steps.refl _, fun h => absurd h hz⟩
set_option maxRecDepth 100000 in
theorem b92_ok (l : Launch) {X0 : XC} {Y : YC} (hU : SU X0 Y) {ce0 sl0 : Nat} (hce : ce0 ≤ 39) (hsl : sl0 ≤ 1700) (q : Int32 → Int32) (hq : SAT X0 q) (w : Mem) : GX l X0 mm_L_build rmB ce0 sl0 (ZB2 X0) 39 flT (f_b92 q w) 92 [some (.inr (.inr (some (41, 0)))), some (.inr (.inr (some (4, 0)))), none] [] w := by
  unfold f_b92
  refine GX_run (flG_T (Nat.le_refl 39)) (pc1 := 93) (L1 := [some (.inr (.inr (some (41, 0)))), some (.inr (.inr (some (4, 0)))), none]) (S1 := [.inr (.inr (some (41, 0)))]) (w1 := w) (P := True) [(.aload_n 0, 0, 0, 0, 0)] (by decide +kernel) rfl trivial ?_
  refine GX_callSI (As := [.inr (.inr (some (41, 0)))]) (S := []) (t_L_plain l X0 (Nat.le_refl 39) q hq w) ⟨me_L_plain, ms_L_plain, lk_L_63⟩ (by decide +kernel) rfl ⟨Nat.le_of_ble_eq_true rfl, Nat.le_of_ble_eq_true rfl⟩ ⟨by show ce0 ≤ 46; omega, by show sl0 ≤ 2600; omega⟩ (Nat.le_of_ble_eq_true rfl) (fun r1 _ => ?_)
  refine GX_ifN (k := .ne) (off := 141) (tgt := 237) (by decide +kernel) (by decide) (cnd_ne _ _) (fun c1 => ?_) (fun c1 => ?_)
  · exact GX_wid (Z := ZB X0) (by show ce0 ≤ 46; omega) (by show sl0 ≤ 2600; omega) (fun _ _ _ _ _ _ _ _ _ _ h _ => h) (f_bC_ok l X0 q hq r1.2)
  · exact bX_ok l hU hce hsl q hq r1.2
set_option maxRecDepth 100000 in
theorem t_L_build (l : Launch) {X0 : XC} {Y : YC} (hU : SU X0 Y) (q : Int32 → Int32) (hq : SAT X0 q) (w : Mem) (r : Option (Nat × Nat) × Mem) (hr : f_build q w = some r) : Mt l X0 60 yL_build cL_build 3 (some (.object "NameThrownBack")) [.inr (.inr (some (41, 0)))] mcB msB 0 (flL []) w (fun v n1 fl1 w1 => n1 = 39 ∧ fl1 = flT ∧ (v, w1) = emA r) := by
  refine Mt_of (mi := mm_L_build) hU.1.1 (mik_L _ _ _) me_L_build rfl (okAs_cons rfl okAs_nil) (Nat.le_of_ble_eq_true rfl) (fun p e s m args below meth c B hnm => ?_)
  intro H locs ls hW hS hl hL oL oS
  have hz : s.heap.size = xb X0 := by
    have h1 := hW.2.2.1.2.1 (by decide)
    have h2 := hS.1
    have h3 := B.2.2.2.2.2.2.2.2.2.2.1
    omega
  refine W_imp (Q := ZB2 X0 r p e s m args below meth c) (fun t h => h hz) ?_
  refine (show G l X0 mm_L_build p e rmB s m args below meth c 0 0 (ZB2 X0 r p e s m args below meth c) 0 (flL []) 0 [some (.inr (.inr (some (41, 0)))), none, none] [] w from ?_) H locs ls hW hS hl hL oL oS
  refine G_new B (idx := 18) (k := 4) (i := 0) (by decide) (by decide +kernel) (by decide) (List.mem_of_getElem? (i := 190) (by decide +kernel)) (List.mem_of_getElem? (i := 191) (by decide +kernel)) (List.mem_of_getElem? (i := 10) (by decide +kernel)) (by decide +kernel) (by decide +kernel) (Nat.le_of_ble_eq_true rfl) (Nat.le_of_ble_eq_true rfl) ?_
  refine G_run B (flG_L (l := []) (by decide +kernel)) (pc1 := 4) (L1 := [some (.inr (.inr (some (41, 0)))), none, none]) (S1 := [.inr (.inr (some (4, 0))), .inr (.inr (some (4, 0)))]) (w1 := clr w 4 0) (P := True) [(.dup, 0, 0, 0, 0)] (by decide +kernel) rfl trivial ?_
  refine G_callI B (As := []) (S := [.inr (.inr (some (4, 0)))]) (c_X4_0 l X0 hU.1.1 (clr w 4 0) hU.2.2.2) me_X4_init mi_X4_init rfl lk_L_23 (by decide +kernel) rfl ⟨Nat.le_of_ble_eq_true rfl, Nat.le_of_ble_eq_true rfl⟩ ⟨Nat.le_of_ble_eq_true rfl, Nat.le_of_ble_eq_true rfl⟩ (Nat.le_of_ble_eq_true rfl) (fun _ _ _ _ h => by rw [h.2.1]; decide) ?_
  rintro v n1 fl1 w1 ⟨rfl, rfl, rfl, rfl⟩
  refine G_flT (by decide +kernel) ?_
  exact f_bA_ok l X0 (Nat.le_refl 39) (ce0 := 39) (sl0 := 1678) (Z := ZB2 X0) ⟨Nat.le_of_ble_eq_true rfl, Nat.le_of_ble_eq_true rfl⟩ q (f_b92 q) hq (fun w2 => b92_ok l hU (Nat.le_refl _) (Nat.le_of_ble_eq_true rfl) q hq w2) (w_X4_0 (clr w 4 0)) r hr p e s m args below meth c B
