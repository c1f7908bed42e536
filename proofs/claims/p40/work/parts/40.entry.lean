/-! the law from its entry; what is owed is plain Lean -/
theorem ref39 : ∀ q, q < 39 → ∀ j, j < 11 → ∀ t ∈ fdD (al q).1 j, ord t.1 (t.2.getD (al q).2) ≠ 39 := by decide +kernel
theorem al20 : ∀ q, q < 39 → (al q).1 ≠ 20 := by decide +kernel
theorem al39 : al 39 = (20, 0) := by decide +kernel
theorem al_c : ∀ q, q < 39 → (al q).1 < 6 → (cC (al q).1).2.2 ≤ 11 := by decide +kernel
theorem ad_rp2 {X : XC} {pl : Nat → Nat} (h98 : pl 98 = X.2.2.2.1 98) {q : Nat} (hq : q ≠ 39) : ad (rp X pl) q = ad X q := by
  show (if q = 39 then pl 99 else pl 98 + q) = if q = 39 then X.2.2.2.1 99 else X.2.2.2.1 98 + q
  rw [if_neg hq, if_neg hq, h98]
/-- the world with the row of longs made -/
theorem Wd_row {X : XC} {H H1 : Heap} {w : Mem} (hW : Wd X 39 flT w H) (z1 : H1.size = H.size + 1) (e1 : H1[H.size]? = some (arrV (lc X) 60 (fun _ => .long 0))) (o1 : ∀ q : Nat, q < H.size → H1[q]? = H[q]?) {pl : Nat → Nat} (h97 : pl 97 = X.2.2.2.1 97) (h98 : pl 98 = X.2.2.2.1 98) (h99 : pl 99 = H.size) : Wd (rp X pl) 40 flT (clr w 20 0) H1 := by
  have hsz := hW.2.2.1.2.2 (Nat.le_refl 39)
  have hxb := hW.2.2.1.1
  have hlt : ∀ q, q < 39 → ad X q = xc X + q := fun q hq => by unfold ad; rw [if_neg (by omega)]
  have h39 : ad (rp X pl) 39 = H.size := by show (if 39 = 39 then pl 99 else _) = _; rw [if_pos rfl, h99]
  have hadr : ∀ q, q < 39 → ad (rp X pl) q = ad X q := fun q hq => ad_rp2 h98 (by omega)
  refine ⟨fun k z hz => ?_, ⟨fun i j x z hx hz hxz => ?_, fun k z hz => ?_⟩, ⟨by show xb X ≤ _; omega, fun h => absurd h (by decide), fun _ => by show pl 98 + 39 ≤ _; rw [h98]; show xc X + 39 ≤ _; omega⟩, Nat.le_refl _, fun q hq => ?_⟩
  · have hk : k < 40 := by
      have := (List.getElem?_eq_some_iff.mp hz).1
      rw [wl_len] at this; exact this
    rw [wl_at hk] at hz
    cases hz
    by_cases h : k = 39
    · subst h
      rw [al39]
      show va_at _ _ (ad (rp X pl) 39, ent (rp X pl) flT (clr w 20 0) (20, 0)) H1
      rw [h39, ent_h]
      show H1[H.size]? = some (arrV (pl 97) 60 (fun j => .long (clr w 20 0 20 0 j).toInt64))
      rw [e1, h97]
      congr 2
    · have hk2 : k < 39 := by omega
      have h0 : va_at X.1 classes (ad X k, ent X flT w (al k)) H1 := (hW.1 k _ (wl_at hk2)).kept (o1 _ (hW.1 k _ (wl_at hk2)).lt)
      show va_at X.1 classes (ad (rp X pl) k, ent (rp X pl) flT (clr w 20 0) (al k)) H1
      rw [hadr k hk2]
      have hne := al20 k hk2
      have e0 : ent (rp X pl) flT (clr w 20 0) (al k) = ent (rp X pl) flT w (al k) := ent_n (fun _ => rfl) (fun j => by unfold clr; rw [if_neg (fun h => hne h.1)])
      rw [e0]
      by_cases ho : (al k).1 < 6
      · have e2 : ent (rp X pl) flT w (al k) = ent X flT w (al k) := by
          unfold ent
          rw [if_pos ho, if_pos ho]
          congr 2
          unfold fvs
          refine List.map_congr_left (fun j hj => ?_)
          have hj11 : j < 11 := Nat.lt_of_lt_of_le (List.mem_range.mp hj) (al_c k hk2 ho)
          unfold fv
          cases hf : fdD (al k).1 j with
          | none => rfl
          | some t =>
            have h3 := ref39 k hk2 j hj11 t hf
            show (if flT (al k).1 (al k).2 j = true then Value.ref (adr (rp X pl) t.1 (t.2.getD (al k).2)) else .null) = if flT (al k).1 (al k).2 j = true then Value.ref (adr X t.1 (t.2.getD (al k).2)) else .null
            rw [adr_own _ (fd_lt hf), adr_own _ (fd_lt hf), ad_rp2 h98 h3]
        rw [e2]; exact h0
      · by_cases h18 : (al k).1 = 18
        · have e3 : ent (rp X pl) flT w (al k) = .inl (X.2.1.2, 4, .inr (.inr (.inr (.inr (fun j => if flT 18 (al k).2 j = true then some (adr (rp X pl) 2 j) else none))))) := by
            unfold ent; rw [if_neg ho, if_pos h18]; rfl
          have e4 : ent X flT w (al k) = .inl (X.2.1.2, 4, .inr (.inr (.inr (.inr (fun j => if flT 18 (al k).2 j = true then some (adr X 2 j) else none))))) := by
            unfold ent; rw [if_neg ho, if_pos h18]
          rw [e4] at h0
          rw [e3]
          have h5 : H1[ad X k]? = some (arrV X.2.1.2 4 (fun j => va_rf (if flT 18 (al k).2 j = true then some (adr X 2 j) else none))) := h0
          show H1[ad X k]? = some (arrV X.2.1.2 4 (fun j => va_rf (if flT 18 (al k).2 j = true then some (adr (rp X pl) 2 j) else none)))
          rw [h5]
          congr 1
          refine arrV_cong _ _ (fun j hj => ?_)
          have h6 : ∀ j, j < 4 → ord 2 j ≠ 39 := by decide
          rw [adr_own X (show 2 < 37 by decide), adr_own (rp X pl) (show 2 < 37 by decide), ad_rp2 h98 (h6 j hj)]
        · have e5 : ent (rp X pl) flT w (al k) = ent X flT w (al k) := by
            unfold ent; rw [if_neg ho, if_neg ho, if_neg h18, if_neg h18, if_neg hne, if_neg hne]; rfl
          rw [e5]; exact h0
  · have key : ∀ (i : Nat) (x : Nat × va_E), (wl (rp X pl) 40 flT (clr w 20 0))[i]? = some x → i < 40 ∧ x.1 = if i = 39 then H.size else xc X + i := by
      intro i x hx
      have hi : i < 40 := by
        have := (List.getElem?_eq_some_iff.mp hx).1
        rw [wl_len] at this; exact this
      rw [wl_at hi] at hx
      cases hx
      refine ⟨hi, ?_⟩
      by_cases h : i = 39
      · subst h; rw [if_pos rfl]; exact h39
      · rw [if_neg h]; exact (hadr i (by omega)).trans (hlt i (by omega))
    obtain ⟨hi, ex⟩ := key i x hx
    obtain ⟨hj, ez⟩ := key j z hz
    rw [ex, ez] at hxz
    by_cases h1 : i = 39 <;> by_cases h2 : j = 39
    · omega
    · rw [if_pos h1, if_neg h2] at hxz; omega
    · rw [if_neg h1, if_pos h2] at hxz; omega
    · rw [if_neg h1, if_neg h2] at hxz; omega
  · have hk : k < 40 := by
      have := (List.getElem?_eq_some_iff.mp hz).1
      rw [wl_len] at this; exact this
    rw [wl_at hk] at hz
    cases hz
    rw [aa_rp h98]
    by_cases h : k = 39
    · subst h
      refine Or.inr ?_
      show xb X ≤ ad (rp X pl) 39
      rw [h39]; exact hxb
    · refine Or.inl ?_
      show xc X ≤ ad (rp X pl) k ∧ ad (rp X pl) k < xc X + 39
      rw [hadr k (by omega), hlt k (by omega)]
      omega
  · rw [aa_rp h98] at hq
    show H1[q]? = X.2.2.1.heap[q]?
    rw [← hW.2.2.2.2 q hq]
    exact o1 q (Nat.lt_of_lt_of_le (Nat.not_le.mp (fun z => hq (Or.inr z))) hxb)
def M00 : Mem := fun _ _ _ => 0
/-- the script, as the law's own reading of it -/
def ScrQ (q : Int32 → Int32) : Prop := ∃ (L : Nat) (xs : Nat → Int32), L ≤ 260 ∧ ∀ k : Nat, k < 2 ^ 31 → q (nI k) = if k < L then xs k else 0
/-- what is owed -/
def Debt : Prop := ∀ q : Int32 → Int32, ScrQ q → ∃ w1, f_build q M00 = some (some (4, 0), w1) ∧ ∃ w2, f_law q (clr w1 20 0) = some (1, w2)
set_option maxRecDepth 100000 in
theorem start_open (hDebt : Debt) {p : Program} {e : Env} {s : State} {m : MethodId} {below : List Frame} {meth : Method} {c : Code} (l : Launch) {b L : Nat} {xs : Nat → Int32} (hL : L ≤ 260) (C0 : lw_At p s m meth c b L xs) : W p l e room_1 s m #[Value.ref b] below meth c s.heap [] 0 0 (lw_Z below #[Value.ref b] s) (entryFrame m ([Value.ref b] : List Value).toArray 11) := by
  obtain ⟨hx, hb, hr, hml, hown, hts, hXs, hbl, hlocks, hgv⟩ := id C0
  obtain ⟨X, Y, hs, hsb, hU, hns⟩ := st_X hts hgv
  have hXO := hU.1.1
  have hxb : xb X = s.heap.size := by show X.2.2.1.heap.size = _; rw [hs]
  have hxc : xc X = xb X := hU.2.2.1
  have B : Bd X mm_L_law p s m #[Value.ref b] meth c := ⟨hx, hb, hml, hown, fun w hw => hts w (List.mem_filter.mp hw).1, hr, hlocks, by rw [hs]; exact Vm.Alike.refl _, hXO, mik_L _ _ _, by rw [hxb]; exact Nat.le_refl _, hns⟩
  let q : Int32 → Int32 := fun x => if x < 0 then 0 else if tn x < L then xs (tn x) else 0
  have hq0 : ∀ k : Nat, k < 2 ^ 31 → q (nI k) = if k < L then xs k else 0 := fun k hk => by
    show (if nI k < 0 then 0 else if tn (nI k) < L then xs (tn (nI k)) else 0) = _
    rw [if_neg (nI_pos hk), show tn (nI k) = k from nI_clamp hk]
  have hnA : ¬ AA X b := fun z => by
    rcases z with z | z
    · have := z.1; omega
    · have h9 : xb X ≤ b := z; omega
  have hSAT : SAT X q := ⟨L, xs, hL, by rw [hsb, hs]; exact hXs, by rw [hsb, hxb]; exact hbl, by rw [hsb]; exact hnA, hq0⟩
  obtain ⟨w1, hb1, w2, hl2⟩ := hDebt q ⟨L, xs, hL, hq0⟩
  have hl := lv_entry ([.ref b]) (n := 11) (Nat.le_of_ble_eq_true rfl)
  rw [lg_entry_eq]
  generalize (lg_sl ([.ref b]) ++ List.replicate (11 - (lg_sl ([.ref b])).length) Slot.unset).toArray = ls at hl ⊢
  have hG : G l X mm_L_law p e room_1 s m #[Value.ref b] below meth c 0 0 (lw_Z below #[Value.ref b] s) 0 (flL []) 0 [some (.inr (.inr (some (41, 0)))), none, none, none, none, none, none, none, none, none, none] [] M00 := by
    refine G_run B (flG_L (l := []) (by decide +kernel)) (pc1 := 1) (L1 := [some (.inr (.inr (some (41, 0)))), none, none, none, none, none, none, none, none, none, none]) (S1 := [.inr (.inr (some (41, 0)))]) (w1 := M00) (P := True) [(.aload_n 0, 0, 0, 0, 0)] (by decide +kernel) rfl trivial ?_
    refine G_callS B (As := [.inr (.inr (some (41, 0)))]) (S := []) (t_L_build l hU q hSAT M00 _ hb1) me_L_build ms_L_build lk_L_175 (by decide +kernel) rfl ⟨Nat.le_of_ble_eq_true rfl, Nat.le_of_ble_eq_true rfl⟩ ⟨Nat.le_of_ble_eq_true rfl, Nat.le_of_ble_eq_true rfl⟩ (Nat.le_of_ble_eq_true rfl) (fun _ _ _ _ _ => Nat.zero_le _) ?_
    rintro v n1 fl1 w9 ⟨rfl, rfl, h3⟩
    cases h3
    refine G_run B (flG_T (Nat.le_refl 39)) (pc1 := 7) (L1 := [some (.inr (.inr (some (41, 0)))), some (.inr (.inr (some (4, 0)))), none, none, none, none, none, none, none, none, none]) (S1 := [.inl 60]) (w1 := w1) (P := True) [(.astore_n 1, 0, 0, 0, 0), (.bipush 60, 0, 0, 60, 0)] (by decide +kernel) rfl trivial ?_
    intro H locs ls hW hS hls hL2 oL oS
    refine va_newaK (atype := .long) B.1 B.2.1 (B.hw (List.mem_of_getElem? (i := 833) (by decide +kernel)) rfl) rfl (show decode cL_law 7 = .ok (.newarray .long, 2) by decide +kernel) rfl (by decide) (show (60 : Int32).toNatClampNeg = 60 by decide) (Nat.le_of_ble_eq_true rfl) (by show 0 + mcB + 1 ≤ _; exact Nat.le_of_ble_eq_true rfl) (by show 0 + msB + 60 ≤ _; exact Nat.le_of_ble_eq_true rfl) rfl fun H1 cA e1 z1 o1 hAr hNm => ?_
    have hc : cA = lc X := Option.some.inj (hNm.symm.trans (B.hK.2 2 _ rfl).2)
    subst hc
    let pl : Nat → Nat := fun k => if k = 99 then H.size else X.2.2.2.1 k
    have p97 : pl 97 = X.2.2.2.1 97 := rfl
    have p98 : pl 98 = X.2.2.2.1 98 := rfl
    have p99 : pl 99 = H.size := rfl
    have pk : ∀ k, k < 40 → pl k = X.2.2.2.1 k := fun k hk => by show (if k = 99 then H.size else X.2.2.2.1 k) = _; rw [if_neg (by omega)]
    have hW1 : Wd (rp X pl) 40 flT (clr w1 20 0) H1 := Wd_row hW z1 e1 o1 p97 p98 p99
    have haa : AA (rp X pl) = AA X := aa_rp p98
    have hX2 : XOK (rp X pl) := XOK_rp hXO pk p97 p98
    have B2 : Bd (rp X pl) mm_L_law p s m #[Value.ref b] meth c := ⟨hx, hb, hml, hown, fun w hw => hts w (List.mem_filter.mp hw).1, hr, hlocks, B.2.2.2.2.2.2.2.1, hX2, mik_L _ _ _, B.2.2.2.2.2.2.2.2.2.2.1, ⟨hns.1, fun z hzz => by
      have h5 := hns.2 z hzz
      have h6 : ∀ z ∈ strA, z.2.2.2 < 40 := by decide +kernel
      show vk_R z.1 z.2.1 z.2.2.1 (pl z.2.2.2) s
      rw [pk _ (h6 z hzz)]
      exact h5⟩⟩
    have hq2 : SAT (rp X pl) q := by
      obtain ⟨Ln, xs2, g1, g2, g3, g4, g5⟩ := hSAT
      exact ⟨Ln, xs2, g1, g2, g3, by rw [haa]; exact g4, g5⟩
    have hS1 : va_S (AA (rp X pl)) s.heap H1 locs := by
      rw [haa]
      exact ⟨by have := hS.1; omega, fun a h1 h2 => by rw [o1 a (Nat.lt_of_lt_of_le h1 hS.1)]; exact hS.2.1 a h1 h2, hS.2.2⟩
    have key := f_law_ok l (rp X pl) (N9 := 40) (by decide) (ce0 := 0 + mcB + 1) (sl0 := 0 + msB + 60) ⟨Nat.le_of_ble_eq_true rfl, Nat.le_of_ble_eq_true rfl⟩ (show pl 98 = xb X from hxc) q hq2 (by decide +kernel) (clr w1 20 0) (1, w2) hl2 p e s m #[Value.ref b] below meth c B2 H1 locs ls hW1 hS1 hls hL2 (fun v hv => okV_mono (by decide) (oL v hv)) (List.forall_mem_cons.mpr ⟨by decide +kernel, fun v hv => absurd hv List.not_mem_nil⟩)
    have e9 : [(.inr (.inr (some (20, 0))) : AV)].map (cv (rp X pl)) = [Value.ref H.size] := by
      show [Value.ref (adr (rp X pl) 20 0)] = _
      have : adr (rp X pl) 20 0 = H.size := rfl
      rw [this]
    rw [e9] at key
    exact W_imp (fun t h => h rfl (hxb.symm) ⟨b, rfl⟩) key
  refine hG s.heap [] ls ⟨fun k q h => (by cases h), ⟨fun i j p q h => (by cases h), fun k q h => (by cases h)⟩, ⟨by rw [hxb]; exact Nat.le_refl _, fun _ => ⟨hxc.symm, by rw [hxc, hxb]; rfl⟩, fun h => absurd h (by decide)⟩, by decide, fun q hq => by rw [hs]⟩ va_S.rf ?_ rfl (fun v hv => ?_) (fun v hv => absurd hv List.not_mem_nil)
  · show lv_has ls 11 [(0, .ref X.2.2.2.2)]
    rw [hsb]; exact hl
  · simp only [List.mem_cons, Option.some.injEq, reduceCtorEq, List.not_mem_nil, or_false] at hv
    subst hv; rfl
