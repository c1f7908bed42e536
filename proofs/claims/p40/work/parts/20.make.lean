/-! the making of cells: what the constructors need -/
def clr (w : Mem) (k i : Nat) : Mem := fun a b c => if a = k ∧ b = i then 0 else w a b c
def flL (l : List (Nat × Nat × Nat)) : Fl := fun k i j => decide (k = 18 ∧ 4 ≤ j) || decide ((k, i, j) ∈ l)
theorem flL_up (l : List (Nat × Nat × Nat)) (k i j : Nat) : upF (flL l) k i j = flL ((k, i, j) :: l) := by
  funext a b c
  unfold upF flL
  by_cases h : a = k ∧ b = i ∧ c = j
  · obtain ⟨rfl, rfl, rfl⟩ := h
    simp
  · rw [if_neg h]
    have h2 : ((a, b, c) ∈ (k, i, j) :: l) ↔ ((a, b, c) ∈ l) := by
      rw [List.mem_cons]
      refine ⟨fun z => ?_, Or.inr⟩
      rcases z with z | z
      · exact absurd (by simpa [Prod.mk.injEq] using z) h
      · exact z
    rw [decide_eq_decide.mpr h2]
def flK (n : Nat) (l : List (Nat × Nat × Nat)) : Bool := l.all fun q => (!(okc n q.1 q.2.1) || (!(decide (q.1 < 6)) || (match fdD q.1 q.2.2 with | none => true | some t => okR n (t.1, t.2.getD q.2.1)))) && (!(decide (q.1 = 18 ∧ q.2.1 = 0 ∧ q.2.2 < 4)) || okc n 2 q.2.2)
theorem flG_L {n : Nat} {l : List (Nat × Nat × Nat)} (h : flK n l = true) : flG n (flL l) := by
  have h0 := List.all_eq_true.mp h
  refine ⟨?_, ?_⟩
  · intro k i j hok hk t ht hf
    have hm : (k, i, j) ∈ l := by
      simp only [flL, Bool.or_eq_true, decide_eq_true_eq] at hf
      rcases hf with hf | hf
      · omega
      · exact hf
    have h1 := h0 _ hm
    simp only [Bool.and_eq_true] at h1
    have h2 := h1.1
    rw [hok, ht] at h2
    simpa [hk] using h2
  · intro j hj hf
    have hm : (18, 0, j) ∈ l := by
      simp only [flL, Bool.or_eq_true, decide_eq_true_eq] at hf
      rcases hf with hf | hf
      · omega
      · exact hf
    have h1 := h0 _ hm
    simp only [Bool.and_eq_true] at h1
    simpa [hj] using h1.2
theorem ref_ty : ∀ k, k < 6 → ∀ j, j < (cC k).2.2 → fdD k j ≠ none → (tyC k j).isReference = true := by decide +kernel
theorem int_ty : ∀ k, k < 6 → ∀ j, j < (cC k).2.2 → fdD k j = none → tyC k j = .int ∨ tyC k j = .boolean := by decide +kernel
theorem ref_fits {ty : FieldType} (h : ty.isReference = true) (a : Nat) : narrow ty (.ref a) = .ref a ∧ fits ty (.ref a) = true := by
  cases ty <;> first | exact ⟨rfl, rfl⟩ | exact absurd h (by decide)
theorem ref_def {ty : FieldType} (h : ty.isReference = true) : defaultValue ty = .null := by
  cases ty <;> first | rfl | exact absurd h (by decide)
theorem fvs_def {X : XC} {fl : Fl} {w : Mem} {k i : Nat} (hk : k < 6) (hfl : ∀ j, j < (cC k).2.2 → fdD k j ≠ none → fl k i j = false) : ∀ j, j < (cC k).2.2 → defaultValue (tyC k j) = vp_V (fvs X fl (clr w k i) k i) j := by
  intro j hj
  unfold vp_V
  rw [List.getD_eq_getElem?_getD, fvs_get hj]
  show _ = fv X fl (clr w k i) k i j
  unfold fv
  by_cases hf : fdD k j = none
  · rw [hf]
    show _ = Value.int (clr w k i k i j)
    rw [show clr w k i k i j = 0 by simp [clr]]
    rcases int_ty k hk j hj hf with h | h <;> rw [h] <;> rfl
  · rw [ref_def (ref_ty k hk j hj hf)]
    obtain ⟨t, ht⟩ := Option.ne_none_iff_exists'.mp hf
    rw [ht, hfl j hj hf]
    rfl
section MAKE
variable {l : Launch} {X : XC} {mi : MI} {p : Program} {e : Env} {R : Room} {s : State} {m : MethodId} {args : Array Value} {below : List Frame} {meth : Method} {c : Code} {ce sl : Nat} {Q : State → Prop} {n : Nat} {fl fl' : Fl} {pc pc1 : Nat} {L L1 : LL} {S S1 : List AV} {w w' : Mem}
theorem ad_sz {H : Heap} (hW : Wd X n fl w H) (hn : n < 39) : H.size = ad X n := by
  have h := (hW.2.2.1.2.1 hn).2
  rw [h]; unfold ad; rw [if_neg (by omega)]
theorem Wd.push {H H1 : Heap} {k i : Nat} (hW : Wd X n fl w H) (hn : n < 39) (hal : al n = (k, i)) (hsz : H1.size = H.size + 1) (ho : ∀ q, q < H.size → H1[q]? = H[q]?) (hf : ∀ a b c, ¬ (a = k ∧ b = i) → fl' a b c = fl a b c) (hw : ∀ a b c, ¬ (a = k ∧ b = i) → w' a b c = w a b c) (hat : va_at X.1 classes (ad X n, ent X fl' w' (k, i)) H1) : Wd X (n + 1) fl' w' H1 := by
  have e1 : wl X (n + 1) fl' w' = wl X n fl w ++ [(ad X n, ent X fl' w' (k, i))] := by
    unfold wl
    rw [List.range_succ, List.map_append]
    congr 1
    · refine List.map_congr_left (fun q hq => ?_)
      have hq2 : q < n := List.mem_range.mp hq
      have hne : ¬ ((al q).1 = k ∧ (al q).2 = i) := by
        rintro ⟨h1, h2⟩
        have h3 := al_ord q (by omega)
        have h4 := al_ord n (by omega)
        rw [hal] at h4
        rw [h1, h2] at h3
        dsimp only at h4
        omega
      rw [ent_n (fun j => hf _ _ j hne) (fun j => hw _ _ j hne)]
    · rw [List.map_singleton, hal]
  have hs := ad_sz hW hn
  obtain ⟨z1, z2, z3⟩ := hW.2.2.1
  obtain ⟨z4, z5⟩ := z2 hn
  refine ⟨?_, ?_, ⟨by omega, fun h => ⟨z4, by omega⟩, fun h => by omega⟩, by omega, fun q hq => ?_⟩
  · rw [e1]
    refine (hW.1.kept (fun k2 x hx => ho _ ((hW.1 k2 x hx).lt))).app (fun k2 x hx => ?_)
    have hz : k2 < 1 := (List.getElem?_eq_some_iff.mp hx).1
    rw [show k2 = 0 by omega] at hx
    cases hx
    exact hat
  · rw [e1]
    exact hW.2.1.push hW.1 hs.symm (Or.inr (by rw [← hs]; exact z1))
  · have h9 : ¬ xb X ≤ q := fun z => hq (Or.inr z)
    rw [ho q (by omega)]; exact hW.2.2.2.2 q hq
theorem al_adr {k i : Nat} (hn : n < 39) (hal : al n = (k, i)) : adr X k i = ad X n := by
  have h1 := al_lt n (by omega)
  have h2 := al_ord n (by omega)
  rw [hal] at h1 h2
  rw [adr_own X h1, h2]
theorem al_okc {k i : Nat} (hn : n < 39) (hal : al n = (k, i)) : okc (n + 1) k i = true := by
  have h2 := al_ord n (by omega)
  rw [hal] at h2
  dsimp only at h2
  unfold okc
  rw [h2, hal]
  simp
theorem al_okV {k i : Nat} (hn : n < 39) (hal : al n = (k, i)) : okV (n + 1) (.inr (.inr (some (k, i)))) = true := by
  show okR (n + 1) (k, i) = true
  have h1 := al_lt n (by omega)
  rw [hal] at h1
  rw [okR_own h1]; exact al_okc hn hal
theorem S_push {H H1 : Heap} {locs : List Loc} (hS : va_S (AA X) s.heap H locs) (hsz : H1.size = H.size + 1) (ho : ∀ q, q < H.size → H1[q]? = H[q]?) : va_S (AA X) s.heap H1 locs := ⟨Nat.le_trans hS.1 (by omega), fun x h1 h2 => (ho x (Nat.lt_of_lt_of_le h1 hS.1)).trans (hS.2.1 x h1 h2), hS.2.2⟩
theorem clr_o {k i : Nat} : ∀ a b c, ¬ (a = k ∧ b = i) → clr w k i a b c = w a b c := fun a b c h => if_neg h
theorem G_new (B : Bd X mi p s m args meth c) {idx k i : Nat} (hk : k < 6) (hal : al n = (k, i)) (hn : n < 39) (hl : Cond.classLink mi.1 idx (cC k).1 ∈ lw_tbl) (hi : Cond.instantiable (cC k).1 (cC k).2.2 ∈ lw_tbl) (hini : Cond.initialized (cC k).1 ∈ lw_tbl) (hfl : ∀ j, j < (cC k).2.2 → fdD k j ≠ none → fl k i j = false) (hd : decode mi.2.1 pc = .ok (.new idx, 3)) (hce : ce + 1 ≤ R.cells) (hsl : sl + (cC k).2.2 ≤ R.slots)
    (kk : G l X mi p e R s m args below meth c (ce + 1) (sl + (cC k).2.2) Q (n + 1) fl (pc + 3) L (.inr (.inr (some (k, i))) :: S) (clr w k i)) : G l X mi p e R s m args below meth c ce sl Q n fl pc L S w := by
  intro H locs ls hW hS hls hL oL oS
  have hKn := B.hK.1 k _ (cC_get k hk)
  refine W.newcK B.1 B.2.1 B.2.2.2.1 (B.hw hl rfl) (B.hw hi rfl) (B.hw hini rfl) rfl hd hce hsl hKn.2.1 rfl fun H1 kC hkC e1 z1 o1 => ?_
  have hs := ad_sz hW hn
  have hW1 : Wd X (n + 1) fl (clr w k i) H1 := hW.push hn hal z1 o1 (fun _ _ _ _ => rfl) clr_o (by
    rw [ent_o hk, ← hs]
    exact ⟨_, cC_get k hk, (u_born (tyC k) B.2.2.2.2.1 (B.lay hk) hKn hkC e1 (cC_ty k hk)).to (fvs_def hk hfl)⟩)
  have h1 := kk H1 locs ls hW1 (S_push hS z1 o1) hls hL (fun u hu => okV_mono (Nat.le_succ n) (oL u hu)) (List.forall_mem_cons.mpr ⟨al_okV hn hal, fun u hu => okV_mono (Nat.le_succ n) (oS u hu)⟩)
  rw [List.map_cons] at h1
  rw [show cv X (.inr (.inr (some (k, i)))) = .ref H.size by show Value.ref (adr X k i) = _; rw [al_adr hn hal, hs]] at h1
  exact h1
theorem G_newa (B : Bd X mi p s m args meth c) {at0 : ArrayType} {k i : Nat} {x : Int32} (hk : isA k = true) (hat : newarray.typeOf at0 = .int) (hal : al n = (k, i)) (hn : n < 39) (hl : Cond.arrayClass .int ∈ lw_tbl) (hx0 : ¬ x < 0) (hx : x.toNatClampNeg = lenK k) (hb : lenK k ≤ 2000) (hd : decode mi.2.1 pc = .ok (.newarray at0, 2)) (hce : ce + 1 ≤ R.cells) (hsl : sl + lenK k ≤ R.slots)
    (kk : G l X mi p e R s m args below meth c (ce + 1) (sl + lenK k) Q (n + 1) fl (pc + 2) L (.inr (.inr (some (k, i))) :: S) (clr w k i)) : G l X mi p e R s m args below meth c ce sl Q n fl pc L (.inl x :: S) w := by
  intro H locs ls hW hS hls hL oL oS
  have hs := ad_sz hW hn
  refine va_newaK (atype := at0) B.1 B.2.1 (by rw [hat]; exact B.hw hl rfl) rfl hd rfl hx0 hx (by rw [hat]; show lenK k * 4 ≤ _; omega) hce hsl rfl fun H1 cA e1 z1 o1 hAr hNm => ?_
  rw [hat] at e1 hNm
  have hc : cA = X.2.1.1 := Option.some.inj (hNm.symm.trans (B.hK.2 0 _ rfl).2)
  subst hc
  have hW1 : Wd X (n + 1) fl (clr w k i) H1 := hW.push hn hal z1 o1 (fun _ _ _ _ => rfl) clr_o (by
    rw [ent_a hk, ← hs]
    show H1[H.size]? = some (vp_cell _ _)
    rw [e1, vp_cell_i]
    congr 2
    funext j
    rw [show clr w k i k i j = 0 by simp [clr]]
    rfl)
  have h1 := kk H1 locs ls hW1 (S_push hS z1 o1) hls hL (fun u hu => okV_mono (Nat.le_succ n) (oL u hu)) (List.forall_mem_cons.mpr ⟨al_okV hn hal, fun u hu => okV_mono (Nat.le_succ n) ((List.forall_mem_cons.mp oS).2 u hu)⟩)
  rw [List.map_cons] at h1
  rw [show cv X (.inr (.inr (some (k, i)))) = .ref H.size by show Value.ref (adr X k i) = _; rw [al_adr hn hal, hs]] at h1
  exact h1
theorem arrV_cong (cI : ClassId) (N : Nat) {f g : Nat → Value} (h : ∀ j, j < N → f j = g j) : arrV cI N f = arrV cI N g := by
  unfold arrV
  congr 1
  refine Array.ext (by simp) (fun j h1 h2 => ?_)
  simp only [Array.getElem_ofFn]
  exact h j (by simpa using h1)
theorem G_newq (B : Bd X mi p s m args meth c) {idx : Nat} {x : Int32} (hal : al n = (18, 0)) (hn : n < 39) (hl : Cond.classLink mi.1 idx "NameThrownBack$Sheet" ∈ lw_tbl) (ho : va_AO "NameThrownBack$Sheet" X.2.2.1) (hx0 : ¬ x < 0) (hx : x.toNatClampNeg = 4) (hfl : ∀ j, j < 4 → fl 18 0 j = false) (hd : decode mi.2.1 pc = .ok (.anewarray idx, 3)) (hce : ce + 1 ≤ R.cells) (hsl : sl + 4 ≤ R.slots)
    (kk : G l X mi p e R s m args below meth c (ce + 1) (sl + 4) Q (n + 1) fl (pc + 3) L (.inr (.inr (some (18, 0))) :: S) w) : G l X mi p e R s m args below meth c ce sl Q n fl pc L (.inl x :: S) w := by
  intro H locs ls hW hS hls hL oL oS
  have hs := ad_sz hW hn
  refine W.anew B.1 B.2.1 B.2.2.2.1 (B.hw hl rfl) (va_AO.use (ho.moved B.2.2.2.2.2.2.2.1)) rfl hd rfl hx0 (by rw [hx]; decide) hce (by rw [hx]; exact hsl) fun cA kA comp f1 f2 f3 f4 => ?_
  rw [hx]
  obtain ⟨kA', comp', g1, g2, g3, g4⟩ := (B.hK.2 1 _ rfl).2
  have hc : cA = X.2.1.2 := Option.some.inj (f1.symm.trans g4)
  subst hc
  generalize hH1 : H.push ({ cls := X.2.1.2, slots := Array.replicate 4 .null, vm := .none } : Cell) = H1
  have z1 : H1.size = H.size + 1 := by rw [← hH1, Array.size_push]
  have e1 : H1[H.size]? = some (arrV X.2.1.2 4 (fun _ => .null)) := by rw [← hH1, Array.getElem?_push_size, ← arrV_new]
  have o1 : ∀ q : Nat, q < H.size → H1[q]? = H[q]? := fun q hq => by rw [← hH1, Array.getElem?_push, if_neg (Nat.ne_of_lt hq)]
  have hW1 : Wd X (n + 1) fl w H1 := hW.push hn hal z1 o1 (fun _ _ _ _ => rfl) (fun _ _ _ _ => rfl) (by
    rw [ent_q, ← hs]
    show H1[H.size]? = some (vp_cell _ _)
    rw [e1, vp_cell_q]
    congr 1
    refine arrV_cong _ _ (fun j hj => ?_)
    rw [hfl j hj]; rfl)
  have h1 := kk H1 locs ls hW1 (S_push hS z1 o1) hls hL (fun u hu => okV_mono (Nat.le_succ n) (oL u hu)) (List.forall_mem_cons.mpr ⟨al_okV hn hal, fun u hu => okV_mono (Nat.le_succ n) ((List.forall_mem_cons.mp oS).2 u hu)⟩)
  rw [List.map_cons] at h1
  rw [show cv X (.inr (.inr (some (18, 0)))) = .ref H.size by show Value.ref (adr X 18 0) = _; rw [al_adr hn hal, hs]] at h1
  exact h1
theorem fvs_upF {k i j : Nat} {t : Nat × Option Nat} (hj : j < (cC k).2.2) (hfd : fdD k j = some t) : (fvs X fl w k i).set j (.ref (adr X t.1 (t.2.getD i))) = fvs X (upF fl k i j) w k i := by
  refine List.ext_getElem? (fun q => ?_)
  by_cases hq : q < (cC k).2.2
  · by_cases hqj : q = j
    · subst hqj
      rw [List.getElem?_set_self (by rw [fvs_len]; exact hq), fvs_get hq]
      unfold fv; rw [hfd, show upF fl k i q k i q = true by simp [upF]]
      rfl
    · rw [List.getElem?_set_ne (Ne.symm hqj), fvs_get hq, fvs_get hq]
      unfold fv; rw [show upF fl k i j k i q = fl k i q by simp [upF, hqj]]
  · rw [List.getElem?_eq_none (by rw [List.length_set, fvs_len]; omega), List.getElem?_eq_none (by rw [fvs_len]; omega)]
theorem G_putF (B : Bd X mi p s m args meth c) {idx k i j : Nat} {t : Nat × Option Nat} (hk : k < 6) (hj : j < (cC k).2.2) (hf : (idx, k, j) ∈ mi.2.2.2.2.1) (hfin : ((cC k).2.1 j).2.2.2 = true) (hfd : fdD k j = some t) (hin2 : meth.name = "<init>") (hdecl : (cC k).1 = mi.1) (hd : decode mi.2.1 pc = .ok (.putfield idx, 3))
    (kk : G l X mi p e R s m args below meth c ce sl Q n (upF fl k i j) (pc + 3) L S w) : G l X mi p e R s m args below meth c ce sl Q n fl pc L (.inr (.inr (some (t.1, t.2.getD i))) :: .inr (.inr (some (k, i))) :: S) w := by
  intro H locs ls hW hS0 hls hL oL oS
  have hlink : (Cond.fieldLink mi.1 idx (cC k).1 ((cC k).2.1 j).2.1 ((cC k).2.1 j).2.2.1).before args s = true := B.hw (B.2.2.2.2.2.2.2.2.2.1.1 _ hf) rfl
  have hts := B.2.2.2.2.1
  have hin := B.lay hk
  have hc := cC_get k hk
  have hap := va_apart (own := mi.1) hts hin (tyC k) (cC_ty k hk) (cC_nm k hk) B.hK hc
  have o1 := List.forall_mem_cons.mp (List.forall_mem_cons.mp oS).2
  have hok := own_ref (by omega) o1.1
  have he := (wl_get (X := X) (fl := fl) (w := w) hW.2.2.2.1 hok).trans (by rw [ent_o hk])
  obtain ⟨r, h1, cell, q1, q2, q3, q4⟩ := hW.1 _ _ he
  have hr : r = cC k := Option.some.inj (h1.symm.trans hc)
  subst hr
  obtain ⟨hS, hfc, kC, hkC, hkind⟩ := B.hK.1 k _ hc
  obtain ⟨cf, kf, fi, f, hi, hsl⟩ := hS j hj
  have hlay := hts _ (hin _ (u_in_lay hj))
  unfold u_lay at hlay
  rw [if_pos hfin] at hlay
  have hst := (u_facts hfc hkC (u_lays hts hin hj) hi).1
  have hcf : m.cls = cf := by
    obtain ⟨_, _, c', _, _, _, -, -, hf', -, -, -, hown2, -⟩ := Cond.laysFinal_spec hlay
    have e1 : c' = cf := by have := hi.symm.trans hf'; simp at this; exact this.1.symm
    rw [cC_own k hk j hj, hdecl] at hown2
    rw [← e1]; exact Option.some.inj (B.2.2.2.1.symm.trans hown2)
  have hnf := ref_fits (ref_ty k hk j hj (by rw [hfd]; exact fun z => nomatch z)) (adr X t.1 (t.2.getD i))
  have h6 := u_fits hfc hkC hkind (Or.inr hlay) hi (cC_ty k hk j hj) hnf.1 hnf.2
  refine W.putFinK B.1 B.2.1 B.2.2.2.1 hlink (by rw [cC_own k hk j hj] at hi; exact hi) hst hcf hin2 (by rw [q2]; exact h6) q1 q3 (by rw [hsl]; exact k2_hasslot (q4 j hj)) rfl rfl hd fun H' e1 e2 e3 => ?_
  rw [hsl] at e1 ⊢
  have hS1 : va_S (AA X) s.heap H' (locs ++ [⟨adr X k i, X.1.2 k j⟩]) := hS0.put e2 e3 (hW.2.1.2 _ _ he)
  refine kk H' _ ls (hW.put B.2.2.2.2.2.2.2.2.2.2.1 hS0 hS1 hok e2 (hW.1.set (e := .inr (k, (fvs X fl w k i).set j (.ref (adr X t.1 (t.2.getD i))))) hW.2.1 he ⟨_, hc, t_OB.to (V := updV (vp_V (fvs X fl w k i)) j (.ref (adr X t.1 (t.2.getD i)))) ⟨_, e1, q2, q3, t_set q4 hap hj _⟩ (fun j' _ => vp_updV_set (by rw [fvs_len]; exact hj) _ j')⟩ e3) (hW.2.1.set he) (by rw [ent_o hk]; exact congrArg (fun z => Sum.inr (k, z)) (fvs_upF hj hfd)) (fun a b c h => by unfold upF; rw [if_neg (fun z => h ⟨z.1, z.2.1⟩)]) (fun _ _ _ _ => rfl)) hS1 hls hL oL o1.2
theorem G_aast (B : Bd X mi p s m args meth c) {j : Nat} {x : Int32} (hx : vp_in x 4) (hj : x.toNatClampNeg = j) (hd : decode mi.2.1 pc = .ok (.aastore, 1))
    (kk : G l X mi p e R s m args below meth c ce sl Q n (upF fl 18 0 j) (pc + 1) L S w) : G l X mi p e R s m args below meth c ce sl Q n fl pc L (.inr (.inr (some (2, j))) :: .inl x :: .inr (.inr (some (18, 0))) :: S) w := by
  intro H locs ls hW hS hls hL oL oS
  have o0 := List.forall_mem_cons.mp oS
  have o1 := List.forall_mem_cons.mp (List.forall_mem_cons.mp o0.2).2
  have hokq := own_ref (by omega) o1.1
  have hokv := own_ref (by omega) o0.1
  have ha := (wl_get (X := X) (fl := fl) (w := w) hW.2.2.2.1 hokq).trans (by rw [ent_q])
  have hv := (wl_get (X := X) (fl := fl) (w := w) hW.2.2.2.1 hokv).trans (by rw [ent_o (by decide)])
  have hlt : x.toNatClampNeg < 4 := Nat.not_le.mp fun q => hx (Or.inr q)
  have h0 : ¬ x < 0 := fun q => hx (Or.inl q)
  obtain ⟨r', hr', cellV, g1, g2, g3, -⟩ := hW.1 _ _ hv
  have hcls := (B.hK.1 2 _ (cC_get 2 (by decide))).2
  obtain ⟨kA, comp, k1, k2, k3, -⟩ := (B.hK.2 1 _ rfl).2
  have hcomp : comp = X.1.1 2 := Option.some.inj (k3.symm.trans hcls.1)
  subst hcomp
  obtain ⟨kC, hkC, -⟩ := hcls.2
  refine W.aast B.1 B.2.1 (hW.1 _ _ ha) (fun q h => by cases h) (fun h => by cases h) k1 k2 rfl hkC ⟨h0, by show _ < (arrV _ _ _).slots.size; rw [arrV_size]; exact hlt⟩ g1 (fun q h => by rw [g3] at h; cases h) (by rw [g2]; exact hkC) (by rw [g2]; exact va_assign hcls) rfl rfl hd fun H1 e z oq => ?_
  have hS1 : va_S (AA X) s.heap H1 (locs ++ [⟨adr X 18 0, x.toNatClampNeg⟩]) := hS.put z oq (hW.2.1.2 _ _ ha)
  refine kk H1 _ ls (hW.put B.2.2.2.2.2.2.2.2.2.2.1 hS hS1 hokq z (hW.1.set (e := ent X (upF fl 18 0 j) w (18, 0)) hW.2.1 ha ?_ oq) (hW.2.1.set ha) rfl (fun a b c h => by unfold upF; rw [if_neg (fun z => h ⟨z.1, z.2.1⟩)]) (fun _ _ _ _ => rfl)) hS1 hls hL oL o1.2
  rw [ent_q]
  show H1[adr X 18 0]? = some (vp_cell _ _)
  rw [e]
  rw [vp_cell_q, vp_cell_q, arrV_store]
  refine congrArg some (arrV_cong _ _ (fun q hq => ?_))
  by_cases hqj : q = x.toNatClampNeg
  · subst hqj
    subst hj
    rw [show upF fl 18 0 x.toNatClampNeg 18 0 x.toNatClampNeg = true by simp [upF]]
    simp [updV, va_rf]
  · rw [show upF fl 18 0 j 18 0 q = fl 18 0 q by unfold upF; rw [if_neg (by omega)]]
    simp [updV, hqj]
theorem G_obj (B : Bd X mi p s m args meth c) {idx : Nat} {q : Nat × Nat} (hlk : Cond.methodLink mi.1 idx Lib.objectInit ∈ lw_tbl) (hin : Cond.instanceMethod Lib.objectInit ∈ lw_tbl) (hcd : Cond.code Lib.objectInit ⟨#[0xb1]⟩ 1 none ∈ lw_tbl) (hd : decode mi.2.1 pc = .ok (.invokespecial idx, 3)) (hfr : 1 ≤ R.frames) (hlo : 12 ≤ R.locals)
    (kk : G l X mi p e R s m args below meth c ce sl Q n fl (pc + 3) L [] w) : G l X mi p e R s m args below meth c ce sl Q n fl pc L [.inr (.inr (some q))] w := by
  intro H locs ls hW hS hls hL oL oS
  exact W.objInit B.1 B.2.1 B.2.2.2.1 (B.hw hlk rfl) (B.hw hin rfl) (B.hw hcd rfl) rfl (by rw [B.2.2.1]; exact hls.1) rfl hd hfr hlo (kk H locs ls hW hS hls hL oL (fun v hv => by cases hv))
theorem W.fl_eq {H : Heap} (hW : Wd X n fl w H) (h : wl X n fl' w = wl X n fl w) : Wd X n fl' w H := by
  unfold Wd; rw [h]; exact hW
theorem flT_wl {ll : List (Nat × Nat × Nat)} (h : ((List.range 39).all fun q => if (al q).1 < 6 then (List.range (cC (al q).1).2.2).all (fun j => (fdD (al q).1 j).isNone || decide (((al q).1, (al q).2, j) ∈ ll)) else (!(decide ((al q).1 = 18)) || (List.range 4).all (fun j => decide ((18, (al q).2, j) ∈ ll)))) = true) (w : Mem) : wl X 39 flT w = wl X 39 (flL ll) w := by
  unfold wl
  refine List.map_congr_left (fun q hq => ?_)
  have h1 := List.all_eq_true.mp h q hq
  refine congrArg (fun z => (ad X q, z)) ?_
  generalize al q = a at h1
  obtain ⟨k, i⟩ := a
  dsimp only at h1
  by_cases hk : k < 6
  · rw [if_pos hk] at h1
    rw [ent_o hk, ent_o hk]
    refine congrArg (fun z => Sum.inr (k, z)) ?_
    unfold fvs
    refine List.map_congr_left (fun j hj => ?_)
    have h2 := List.all_eq_true.mp h1 j hj
    unfold fv
    cases hfd : fdD k j with
    | none => rfl
    | some t =>
      rw [hfd] at h2
      have h3 : (k, i, j) ∈ ll := by simpa using h2
      rw [show flL ll k i j = true by simp [flL, h3]]
      rfl
  · rw [if_neg hk] at h1
    by_cases h18 : k = 18
    · subst h18
      rw [ent_q, ent_q]
      have h4 : (fun j => if flT 18 i j = true then some (adr X 2 j) else none) = (fun j => if flL ll 18 i j = true then some (adr X 2 j) else none) := by
        funext j
        have : flL ll 18 i j = true := by
          by_cases hj : j < 4
          · have h2 := List.all_eq_true.mp (by simpa using h1 : (List.range 4).all (fun j => decide ((18, i, j) ∈ ll)) = true) j (List.mem_range.mpr hj)
            simp only [flL, Bool.or_eq_true]; exact Or.inr h2
          · simp only [flL, Bool.or_eq_true, decide_eq_true_eq]; exact Or.inl ⟨trivial, by omega⟩
        rw [this]; rfl
      rw [h4]
    · unfold ent
      rw [if_neg hk, if_neg h18, if_neg hk, if_neg h18]
theorem G_flT {ll : List (Nat × Nat × Nat)} (h : ((List.range 39).all fun q => if (al q).1 < 6 then (List.range (cC (al q).1).2.2).all (fun j => (fdD (al q).1 j).isNone || decide (((al q).1, (al q).2, j) ∈ ll)) else (!(decide ((al q).1 = 18)) || (List.range 4).all (fun j => decide ((18, (al q).2, j) ∈ ll)))) = true)
    (kk : G l X mi p e R s m args below meth c ce sl Q 39 flT pc L S w) : G l X mi p e R s m args below meth c ce sl Q 39 (flL ll) pc L S w :=
  fun H locs ls hW hS hls hL oL oS => kk H locs ls (W.fl_eq hW (flT_wl h w)) hS hls hL oL oS
end MAKE
