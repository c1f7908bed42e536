/-! the text that build makes -/
def dig (x : Nat) : List Int32 := if x < 10 then [dgO x] else [dgT x, dgO x]
theorem dig_len {x : Nat} : (dig x).length = if x < 10 then 1 else 2 := by unfold dig; split <;> rfl
def okB (f : Nat → Int32) : Prop := ∀ j, fits .byte (.int (f j)) = true
/-- the builder at b holds the text T, in a row of c bytes -/
def SBs (Y : YC) (b : Nat) (T : List Int32) (c : Nat) (ws : va_W) : Prop := ∃ (v : Nat) (f : Nat → Int32), ws = ws2 Y b v c T.length f ∧ (∀ j, j < T.length → f j = T.getD j 0) ∧ okB f
theorem fits_d : ∀ x : Nat, x < 128 → fits .byte (.int (nI x)) = true := by decide +kernel
theorem fits_O (x : Nat) : fits .byte (.int (dgO x)) = true := fits_d _ (by omega)
theorem fits_T {x : Nat} (h : x < 100) : fits .byte (.int (dgT x)) = true := fits_d _ (by omega)
theorem fits_0 : fits .byte (.int 0) = true := by decide +kernel
theorem gD_r {T B : List Int32} {j : Nat} {d : Int32} (h : T.length ≤ j) : (T ++ B).getD j d = B.getD (j - T.length) d := by
  rw [List.getD_eq_getElem?_getD, List.getElem?_append_right h, ← List.getD_eq_getElem?_getD]
theorem gD_l {T B : List Int32} {j : Nat} {d : Int32} (h : j < T.length) : (T ++ B).getD j d = T.getD j d := by
  rw [List.getD_eq_getElem?_getD, List.getElem?_append_left h, ← List.getD_eq_getElem?_getD]
theorem okB_cpy {f g : Nat → Int32} {a b n : Nat} (hf : okB f) (hg : okB g) : okB (va_cpy f g a b n) := by
  intro j
  unfold va_cpy
  split
  · exact hf _
  · exact hg _
theorem okB_upd {f : Nat → Int32} {k : Nat} {x : Int32} (hf : okB f) (hx : fits .byte (.int x) = true) : okB (upd f k x) := by
  intro j
  unfold upd
  split
  · exact hx
  · exact hf _
theorem okB_0 : okB (fun _ => 0) := fun _ => fits_0
theorem cpy_app {T B : List Int32} {f : Nat → Int32} (hf : ∀ j, j < T.length → f j = T.getD j 0) : ∀ j, j < (T ++ B).length → va_cpy (fun j => B.getD j 0) f 0 T.length B.length j = (T ++ B).getD j 0 := by
  intro j hj
  rw [List.length_append] at hj
  unfold va_cpy
  by_cases h : T.length ≤ j ∧ j < T.length + B.length
  · rw [if_pos h, gD_r h.1, Nat.zero_add]
  · rw [if_neg h, gD_l (by omega)]
    exact hf j (by omega)
theorem cpy_pre {T : List Int32} {f g : Nat → Int32} {c : Nat} (hf : ∀ j, j < T.length → f j = T.getD j 0) (hc : T.length ≤ c) : ∀ j, j < T.length → va_cpy f g 0 0 c j = T.getD j 0 := by
  intro j hj
  unfold va_cpy
  rw [if_pos (by omega)]
  rw [← hf j hj]
  congr 1
  omega
theorem upd_1 {T : List Int32} {f : Nat → Int32} {x : Int32} (hf : ∀ j, j < T.length → f j = T.getD j 0) : ∀ j, j < (T ++ [x]).length → upd f (T.length + 1 - 1) x j = (T ++ [x]).getD j 0 := by
  intro j hj
  rw [List.length_append] at hj
  have hj2 : j < T.length + 1 := hj
  unfold upd
  by_cases h : j = T.length + 1 - 1
  · rw [if_pos h, gD_r (by omega), show j - T.length = 0 by omega]
    rfl
  · rw [if_neg h, gD_l (by omega)]
    exact hf j (by omega)
theorem upd_2 {T : List Int32} {f : Nat → Int32} {x y : Int32} (hf : ∀ j, j < T.length → f j = T.getD j 0) : ∀ j, j < (T ++ [x, y]).length → upd (upd f (T.length + 2 - 1) y) (T.length + 2 - 1 - 1) x j = (T ++ [x, y]).getD j 0 := by
  intro j hj
  rw [List.length_append] at hj
  have hj2 : j < T.length + 2 := hj
  unfold upd
  by_cases h : j = T.length + 2 - 1 - 1
  · rw [if_pos h, gD_r (by omega), show j - T.length = 0 by omega]
    rfl
  · rw [if_neg h]
    by_cases h2 : j = T.length + 2 - 1
    · rw [if_pos h2, gD_r (by omega), show j - T.length = 1 by omega]
      rfl
    · rw [if_neg h2, gD_l (by omega)]
      exact hf j (by omega)
section GWt
variable {l : Launch} {X0 X : XC} {Y : YC} {mi : MI} {p : Program} {e : Env} {R : Room} {s : State} {m : MethodId} {args : Array Value} {below : List Frame} {meth : Method} {c : Code} {ce sl : Nat} {Q : State → Prop} {wm : Mem} {pc : Nat} {L : LL} {S : List AV} {ws : va_W} {b cp : Nat} {T : List Int32}
theorem GW_appS {idx i v0 : Nat} {Bt : List Int32} (hb : BW X0 X Y s) (B : Bd X0 mi p s m args meth c) (hs : SBs Y b T cp ws) (hG : strG X i v0 Bt.length (fun j => Bt.getD j 0)) (hBt : okB (fun j => Bt.getD j 0)) (hlen : T.length + Bt.length ≤ cp) (hcp : cp < 1000) (hlk : Cond.methodLink mi.1 idx yJ4_append_15ec4 ∈ lw_tbl) (hd : decode mi.2.1 pc = .ok (.invokevirtual idx, 3)) (hR : 6 ≤ R.frames ∧ 400 ≤ R.locals) (hf : ce + 0 ≤ R.cells ∧ sl + 0 ≤ R.slots) (hcat : catS S ≤ 8)
    (kk : ∀ ws1, SBs Y b (T ++ Bt) cp ws1 → GW l X0 X Y mi p e R s m args below meth c ce sl Q wm (pc + 3) L (rf b :: S) ws1) : GW l X0 X Y mi p e R s m args below meth c ce sl Q wm pc L (.inr (.inr (some (40, i))) :: rf b :: S) ws := by
  obtain ⟨v, f, rfl, hf1, hf2⟩ := hs
  refine GW_callV hb B (q0 := 0) (As := [.inr (.inr (some (40, i)))]) (S := S) rfl (b4_appS hb.2.1 (b_appS hb.2.1 hG (b_ensR hb.2.1 hlen hcp) hBt hlen hcp)) ⟨me_J4_append_15ec4, mi_J4_append_15ec4, mv_J4_append_15ec4, hlk⟩ rfl hd rfl ⟨hR.1, Nat.le_trans (Nat.le_of_ble_eq_true rfl) hR.2⟩ hf hcat (fun v9 ws9 h9 => ?_)
  obtain ⟨rfl, v1, rfl⟩ := h9
  refine kk _ ⟨v1, _, ?_, cpy_app hf1, okB_cpy hBt hf2⟩
  rw [List.length_append]
theorem GW_appG {idx i v0 N : Nat} {Bt : List Int32} (hb : BW X0 X Y s) (B : Bd X0 mi p s m args meth c) (hs : SBs Y b T cp ws) (hG : strG X i v0 Bt.length (fun j => Bt.getD j 0)) (hBt : okB (fun j => Bt.getD j 0)) (hTc : T.length ≤ cp) (hlen : cp < T.length + Bt.length) (hN : N = cp + max (T.length + Bt.length - cp) (cp + 2)) (h0 : 0 < cp) (hcp : T.length + Bt.length < 300) (hlk : Cond.methodLink mi.1 idx yJ4_append_15ec4 ∈ lw_tbl) (hd : decode mi.2.1 pc = .ok (.invokevirtual idx, 3)) (hR : 6 ≤ R.frames ∧ 400 ≤ R.locals) (hf : ce + 1 ≤ R.cells ∧ sl + N ≤ R.slots) (hcat : catS S ≤ 8)
    (kk : ∀ ws1, SBs Y b (T ++ Bt) N ws1 → GW l X0 X Y mi p e R s m args below meth c (ce + 1) (sl + N) Q wm (pc + 3) L (rf b :: S) ws1) : GW l X0 X Y mi p e R s m args below meth c ce sl Q wm pc L (.inr (.inr (some (40, i))) :: rf b :: S) ws := by
  obtain ⟨v, f, rfl, hf1, hf2⟩ := hs
  subst hN
  have hC : xc X + 39 ≤ xb X := by rw [hb.xc]; exact hb.2.2.1
  refine GW_callV hb B (q0 := 0) (As := [.inr (.inr (some (40, i)))]) (S := S) rfl (b4_appS hb.2.1 (b_appS hb.2.1 hG (b_ensG hb.2.1 hC hf2 hlen hcp h0) hBt (by omega) (by omega))) ⟨me_J4_append_15ec4, mi_J4_append_15ec4, mv_J4_append_15ec4, hlk⟩ rfl hd rfl ⟨hR.1, Nat.le_trans (Nat.le_of_ble_eq_true rfl) hR.2⟩ hf hcat (fun v9 ws9 h9 => ?_)
  obtain ⟨rfl, v1, rfl⟩ := h9
  refine kk _ ⟨v1, _, ?_, cpy_app (cpy_pre hf1 hTc), okB_cpy hBt (okB_cpy hf2 okB_0)⟩
  rw [List.length_append]
theorem GW_appI {idx x : Nat} (hb : BW X0 X Y s) (B : Bd X0 mi p s m args meth c) (hs : SBs Y b T cp ws) (hx : x < 64) (hlen : T.length + 2 ≤ cp) (hcp : cp < 1000) (hlk : Cond.methodLink mi.1 idx yJ4_append_bf812 ∈ lw_tbl) (hd : decode mi.2.1 pc = .ok (.invokevirtual idx, 3)) (hR : 6 ≤ R.frames ∧ 400 ≤ R.locals) (hf : ce + 0 ≤ R.cells ∧ sl + 0 ≤ R.slots) (hcat : catS S ≤ 8)
    (kk : ∀ ws1, SBs Y b (T ++ dig x) cp ws1 → GW l X0 X Y mi p e R s m args below meth c ce sl Q wm (pc + 3) L (rf b :: S) ws1) : GW l X0 X Y mi p e R s m args below meth c ce sl Q wm pc L (.inl (nI x) :: rf b :: S) ws := by
  obtain ⟨v, f, rfl, hf1, hf2⟩ := hs
  have hDG := hb.2.2.2.2.1
  by_cases h10 : x < 10
  · have ed : dig x = [dgO x] := if_pos h10
    refine GW_callV hb B (q0 := 0) (As := [.inl (nI x)]) (S := S) rfl (b4_appI hb.2.1 (b_appI (nd := 1) hb.2.1 (b_size1 hb.2.1 h10) (b_ensR hb.2.1 (by omega) hcp) (fun v1 => b_chars1 hb.2.1 hDG h10 (by omega) (by omega) hcp))) ⟨me_J4_append_bf812, mi_J4_append_bf812, mv_J4_append_bf812, hlk⟩ rfl hd rfl ⟨hR.1, Nat.le_trans (Nat.le_of_ble_eq_true rfl) hR.2⟩ hf hcat (fun v9 ws9 h9 => ?_)
    obtain ⟨rfl, v1, rfl⟩ := h9
    refine kk _ ⟨v1, _, ?_, by rw [ed]; exact upd_1 hf1, okB_upd hf2 (fits_O x)⟩
    rw [ed, List.length_append]; rfl
  · have ed : dig x = [dgT x, dgO x] := if_neg h10
    refine GW_callV hb B (q0 := 0) (As := [.inl (nI x)]) (S := S) rfl (b4_appI hb.2.1 (b_appI (nd := 2) hb.2.1 (b_size2 hb.2.1 hx (by omega)) (b_ensR hb.2.1 (by omega) hcp) (fun v1 => b_chars2 hb.2.1 hDG hx (by omega) (by omega) (by omega) hcp))) ⟨me_J4_append_bf812, mi_J4_append_bf812, mv_J4_append_bf812, hlk⟩ rfl hd rfl ⟨hR.1, Nat.le_trans (Nat.le_of_ble_eq_true rfl) hR.2⟩ hf hcat (fun v9 ws9 h9 => ?_)
    obtain ⟨rfl, v1, rfl⟩ := h9
    refine kk _ ⟨v1, _, ?_, by rw [ed]; exact upd_2 hf1, okB_upd (okB_upd hf2 (fits_O x)) (fits_T (by omega))⟩
    rw [ed, List.length_append]; rfl
end GWt
/-- a number cut to m -/
def cut (x : Int32) (m : Nat) : Nat := x.toBitVec.toNat &&& m
theorem cut_le (x : Int32) (m : Nat) : cut x m ≤ m := Nat.and_le_right
theorem and_cut (x : Int32) {m : Nat} (hm : m < 2 ^ 31) : x &&& nI m = nI (cut x m) := by
  apply Int32.toBitVec_inj.mp
  apply BitVec.eq_of_toNat_eq
  have h1 := cut_le x m
  have h2 : ∀ k : Nat, k < 2 ^ 31 → (nI k).toBitVec.toNat = k := by
    intro k hk
    show (BitVec.ofNat 32 k).toNat = k
    rw [BitVec.toNat_ofNat]
    exact Nat.mod_eq_of_lt (Nat.lt_of_lt_of_le hk (Nat.le_of_ble_eq_true rfl))
  rw [Int32.toBitVec_and, BitVec.toNat_and, h2 m hm, h2 (cut x m) (by omega)]
  rfl
def kq0 (q : Int32 → Int32) : Nat := cut (shrI (q 0) 3) 3
def kq1 (q : Int32 → Int32) : Nat := cut (shrI (q 0) 5) 15
def kq2 (q : Int32 → Int32) : Nat := cut (shrI (q 0) 9) 7
def kq3 (q : Int32 → Int32) : Nat := cut (shrI (q 0) 12) 7
def kq4 (q : Int32 → Int32) : Nat := cut (shrI (q 0) 15) 3
def kq5 (q : Int32 → Int32) : Nat := cut (shrI (q 0) 17) 63
def BT (i : Nat) : List Int32 := bytS.getD i []
def TX (k0 k1 k2 k3 k4 k5 : Nat) : List Int32 := BT 12 ++ dig k0 ++ BT 13 ++ dig k1 ++ BT 14 ++ dig k2 ++ BT 15 ++ dig k3 ++ BT 16 ++ dig k4 ++ BT 17 ++ dig k5 ++ BT 18
def txq (q : Int32 → Int32) : List Int32 := TX (kq0 q) (kq1 q) (kq2 q) (kq3 q) (kq4 q) (kq5 q)
theorem okB_BT : ∀ i : Nat, i < 19 → okB (fun j => (BT i).getD j 0) := by
  intro i hi j
  have h : ∀ i : Nat, i < 19 → ∀ x ∈ BT i, fits .byte (.int x) = true := by decide +kernel
  show fits .byte (.int ((BT i).getD j 0)) = true
  rw [List.getD_eq_getElem?_getD]
  cases hj : (BT i)[j]? with
  | none => exact fits_0
  | some x => exact h i hi x (List.mem_of_getElem? hj)
theorem BT_len : ∀ i : Nat, i < 19 → (BT i).length = lenS.getD i 0 := by decide +kernel
theorem strG_BT {X : XC} (hX : XOK X) {i : Nat} (hi : i < 19) : strG X i (19 + i) (BT i).length (fun j => (BT i).getD j 0) := by
  obtain ⟨h1, h2, h3, h4⟩ := hX.2.1.1 i (by omega)
  rw [BT_len i hi]
  exact ⟨by omega, by omega, (by decide +kernel : ∀ i, i < 19 → lenS.getD i 0 < 1000) i hi, h1, h2, h3, h4⟩
