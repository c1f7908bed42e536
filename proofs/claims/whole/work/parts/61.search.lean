/-! by how few lessons: the class's search finds the first number -/
theorem ld_0 (m i : Nat) (a b c d : Int32) (w : Mem) : ld (m + 1) 0 i a b c d w = f_X4_lessonsTo (ld m) i a b c w := Eq.trans rfl rfl
theorem ld_1 (m i : Nat) (a b c d : Int32) (w : Mem) : ld (m + 1) 1 i a b c d w = f_X4_lessonsFrom (ld m) i a b c d w := Eq.trans rfl rfl
theorem okK_s (wc : Mem) (N p t f d r : Nat) (K : Nat → Int32) (hr : r < 36 ^ f) : okK wc N p t (f + 1) (d * 36 ^ f + r) K = if d / 6 < N ∧ d % 6 < N ∧ d / 6 ≠ d % 6 then (okK wc N p t f r (app wc K (d / 6) (d % 6))).map (fun l => (10 * (d / 6) + d % 6 + 1) * 100 ^ f + l) else none := by
  have h0 : 0 < 36 ^ f := Nat.pow_pos (by omega)
  have e1 : (d * 36 ^ f + r) / 36 ^ f = d := by
    rw [Nat.mul_comm, Nat.mul_add_div h0, Nat.div_eq_of_lt hr, Nat.add_zero]
  have e2 : (d * 36 ^ f + r) % 36 ^ f = r := by
    rw [Nat.mul_comm, Nat.mul_add_mod, Nat.mod_eq_of_lt hr]
  conv => lhs; unfold okK
  rw [e1, e2]
/-- what a search for rows of so many lessons comes to -/
def Fnd (wc : Mem) (N p t few : Nat) (K : Nat → Int32) (c : Nat) : Prop := 0 < c ∧ ∃ num, num < 36 ^ few ∧ okK wc N p t few num K = some c ∧ ∀ x, x < num → okK wc N p t few x K = none
def Non (wc : Mem) (N p t few : Nat) (K : Nat → Int32) (d : Nat) : Prop := ∀ num, num < d → okK wc N p t few num K = none
theorem from_c {N M p t f : Nat} {CC : Nat → Nat → List Int32} {wc wr : Mem} (hB : Bo 1 N M CC wc wr) (hp : p < N) (ht : t < 16) (hf : f < 3) (ih : ∀ (md : Nat) (K : Nat → Int32), 2 * f ≤ md → 0 < f → KS N K → (∀ m, m < f → Non wc N p t m K (36 ^ m)) → ∀ w, ScC (wcp wc K) w → ∃ c w', ld md 0 1 (nI p) (nI t) (nI f) 0 w = some (nI c, w') ∧ ScC (wcp wc K) w' ∧ c < 100 ^ f ∧ ((c = 0 ∧ Non wc N p t f K (36 ^ f)) ∨ Fnd wc N p t f K c)) {a b : Nat} (ha : a < N) (hb : b < N) {md : Nat} (hmd : 2 * f + 1 ≤ md) {K : Nat → Int32} (hK : KS N K) (hno : ∀ m, m < f + 1 → Non wc N p t m K (36 ^ m)) {w : Mem} (hw : ScC (wcp wc K) w) : ∃ c w', ld md 1 1 (nI (10 * a + b)) (nI p) (nI t) (nI (f + 1)) w = some (nI c, w') ∧ ScC (wcp wc K) w' ∧ c < 100 ^ (f + 1) ∧ ((c = 0 ∧ ∀ r, r < 36 ^ f → okK wc N p t (f + 1) ((6 * a + b) * 36 ^ f + r) K = none) ∨ (0 < c ∧ ∃ r, r < 36 ^ f ∧ okK wc N p t (f + 1) ((6 * a + b) * 36 ^ f + r) K = some c ∧ ∀ x, x < r → okK wc N p t (f + 1) ((6 * a + b) * 36 ^ f + x) K = none)) := by
  obtain ⟨md, rfl⟩ : ∃ q, md = q + 1 := ⟨md - 1, by omega⟩
  have hN := hB.1.1
  have da : (6 * a + b) / 6 = a := by omega
  have db : (6 * a + b) % 6 = b := by omega
  have hblock : ∀ r, r < 36 ^ f → okK wc N p t (f + 1) ((6 * a + b) * 36 ^ f + r) K = if a ≠ b then (okK wc N p t f r (app wc K a b)).map (fun l => (10 * a + b + 1) * 100 ^ f + l) else none := by
    intro r hr
    rw [okK_s wc N p t f (6 * a + b) r K hr, da, db]
    by_cases h : a ≠ b
    · rw [if_pos ⟨ha, hb, h⟩, if_pos h]
    · rw [if_neg (fun z => h z.2.2), if_neg h]
  have hp100 : 0 < 100 ^ (f + 1) := Nat.pow_pos (by omega)
  have e10 : nI (10 * a + b) / 10 = nI a := by
    rw [show (10 : Int32) = nI 10 from rfl, pk_div (by omega) (by omega) (by omega)]; congr 1; omega
  have em10 : rmI (nI (10 * a + b)) 10 = nI b := by
    rw [show rmI (nI (10 * a + b)) 10 = nI ((10 * a + b) % 10) from pk_rem (d := 10) (by omega) (by omega) (by omega)]; congr 1; omega
  have n10 : ¬ (10 : Int32) = 0 := by decide
  have w15 : ∀ q, w 15 1 q = K q := fun q => (hw 15 1 q (by decide) (by decide)).trans (if_pos ⟨rfl, rfl⟩)
  obtain ⟨hVS, hVsub, hVc, -⟩ := VV_c hB hK ha hb
  rw [ld_1]
  unfold f_X4_lessonsFrom
  rw [if_pos n10, if_pos n10, e10, em10]
  by_cases hab : a = b
  · subst hab
    rw [if_pos rfl]
    exact ⟨0, w, rfl, hw, hp100, Or.inl ⟨rfl, fun r hr => by rw [hblock r hr, if_neg (fun z => z rfl)]⟩⟩
  · have hne : ¬ nI a = nI b := fun z => hab ((nI_eq (by omega) (by omega)).mp z)
    rw [if_neg hne]
    obtain ⟨w', c1, sc1⟩ := hVc w hw
    have w15' : ∀ q, w' 15 1 q = K q := fun q => (sc1 15 1 q (by decide) (by decide)).trans (if_pos ⟨rfl, rfl⟩)
    by_cases h1 : f = 0
    · subst h1
      have hKp : ¬ bit (K p) (nI t) = 1 := by
        intro z
        have := hno 0 (by omega) 0 (by decide)
        unfold okK at this
        rw [if_pos z] at this
        cases this
      have ok0 : ∀ r, r < 36 ^ 0 → okK wc N p t (0 + 1) ((6 * a + b) * 36 ^ 0 + r) K = if bit (app wc K a b p) (nI t) = 1 then some (10 * a + b + 1) else none := by
        intro r hr
        rw [hblock r hr, if_pos hab]
        unfold okK
        split
        · show some ((10 * a + b + 1) * 100 ^ 0 + 0) = _
          congr 1; omega
        · rfl
      rw [if_pos (show nI (0 + 1) = 1 from rfl)]
      by_cases hbp : b = p
      · subst hbp
        have e15 : atV w 15 1 (nI a) = K a := (atV_n w 1 (show a < lenK 15 by show a < 6; omega) (by decide)).trans (w15 a)
        rw [if_pos rfl, e15]
        have happ : bit (app wc K a b b) (nI t) = 1 ↔ bit (VV wc a b K) (nI t) = 1 := by
          unfold app
          rw [if_pos rfl, bit_or (hK b hb) hVS ht]
          exact ⟨fun z => z.resolve_left hKp, Or.inr⟩
        by_cases hh : bit (K a) (nI t) = 1
        · rw [if_neg (fun z => (holdsF_k ht).mp z hh)]
          unfold j_X4_lessonsFrom_53
          rw [c1, ob, if_pos (show nI (0 + 1) = 1 from rfl)]
          dsimp only
          by_cases hv : bit (VV wc a b K) (nI t) = 1
          · rw [if_neg (fun z => (holdsF_k ht).mp z hv), nI_1]
            refine ⟨10 * a + b + 1, w', rfl, sc1, by show _ < 100; omega, Or.inr ⟨by omega, 0, by decide, ?_, fun x hx => by omega⟩⟩
            rw [ok0 0 (by decide), if_pos (happ.mpr hv)]
          · rw [if_pos ((holdsF_k ht).mpr hv)]
            exact ⟨0, w', rfl, sc1, by decide, Or.inl ⟨rfl, fun r hr => by rw [ok0 r hr, if_neg (fun z => hv (happ.mp z))]⟩⟩
        · rw [if_pos ((holdsF_k ht).mpr hh)]
          exact ⟨0, w, rfl, hw, by decide, Or.inl ⟨rfl, fun r hr => by rw [ok0 r hr, if_neg (fun z => hh (hVsub t ht (happ.mp z)))]⟩⟩
      · have hnbp : ¬ nI b = nI p := fun z => hbp ((nI_eq (by omega) (by omega)).mp z)
        rw [if_neg hnbp]
        refine ⟨0, w, rfl, hw, by decide, Or.inl ⟨rfl, fun r hr => ?_⟩⟩
        rw [ok0 r hr, if_neg]
        unfold app
        rw [if_neg (fun z => hbp z.symm)]
        exact hKp
    · have hf1 : ¬ nI (f + 1) = 1 := fun z => h1 (by have := (nI_eq (a := f + 1) (b := 1) (by omega) (by omega)).mp z; omega)
      rw [if_neg hf1]
      unfold j_X4_lessonsFrom_53
      rw [c1, ob, if_neg hf1]
      dsimp only
      by_cases hv0 : VV wc a b K = 0
      · rw [if_pos hv0]
        refine ⟨0, w', rfl, sc1, hp100, Or.inl ⟨rfl, fun r hr => ?_⟩⟩
        have happ : app wc K a b = K := by
          funext q
          unfold app
          split
          · rename_i h; rw [hv0, Int32.or_zero, h]
          · rfl
        rw [hblock r hr, if_pos hab, happ, hno f (by omega) r hr]
        rfl
      · rw [if_neg hv0]
        have e15 : atV w' 15 1 (nI b) = K b := (atV_n w' 1 (show b < lenK 15 by show b < 6; omega) (by decide)).trans (w15' b)
        have s15 : ∀ (w : Mem) (v : Int32), setV w 15 1 (nI b) v = up w 15 1 b v := fun w v => setV_n w 1 v (show b < lenK 15 by show b < 6; omega) (by decide)
        have esub : nI (f + 1) - 1 = nI f := nI_pred f
        rw [e15, s15, esub]
        have hK2 := app_S hB hK ha hb
        have sc2 : ScC (wcp wc (app wc K a b)) (up w' 15 1 b (K b ||| VV wc a b K)) := by
          intro x y z h8 h12
          by_cases hx : x = 15 ∧ y = 1 ∧ z = b
          · obtain ⟨rfl, rfl, rfl⟩ := hx
            rw [up_s]
            unfold wcp app
            rw [if_pos ⟨rfl, rfl⟩, if_pos rfl]
          · rw [up_n hx, sc1 x y z h8 h12]
            unfold wcp app
            by_cases h5 : x = 15 ∧ y = 1
            · rw [if_pos h5, if_pos h5, if_neg (fun q => hx ⟨h5.1, h5.2, q⟩)]
            · rw [if_neg h5, if_neg h5]
        have hno2 : ∀ m, m < f → Non wc N p t m (app wc K a b) (36 ^ m) := by
          intro m hm num hnum
          have h := hno (m + 1) (by omega) ((6 * a + b) * 36 ^ m + num) (by
            have h6 : (6 * a + b + 1) * 36 ^ m ≤ 36 * 36 ^ m := Nat.mul_le_mul_right _ (by omega)
            rw [Nat.pow_succ]
            rw [Nat.succ_mul] at h6
            omega)
          rw [okK_s wc N p t m (6 * a + b) num K hnum, da, db, if_pos ⟨ha, hb, hab⟩] at h
          cases ho : okK wc N p t m num (app wc K a b) with
          | none => rfl
          | some l => rw [ho] at h; cases h
        obtain ⟨c, w2, d1, d2, d3, d4⟩ := ih md _ (by omega) (by omega) hK2 hno2 _ sc2
        rw [d1, ob]
        dsimp only
        have sc3 : ScC (wcp wc K) (up w2 15 1 b (K b)) := by
          intro x y z h8 h12
          by_cases hx : x = 15 ∧ y = 1 ∧ z = b
          · obtain ⟨rfl, rfl, rfl⟩ := hx
            rw [up_s]
            unfold wcp
            rw [if_pos ⟨rfl, rfl⟩]
          · rw [up_n hx, d2 x y z h8 h12]
            unfold wcp app
            by_cases h5 : x = 15 ∧ y = 1
            · rw [if_pos h5, if_pos h5, if_neg (fun q => hx ⟨h5.1, h5.2, q⟩)]
            · rw [if_neg h5, if_neg h5]
        rw [s15]
        have hc31 : c < 1000000 := by
          have : 100 ^ f ≤ 100 ^ 3 := Nat.pow_le_pow_right (by omega) (by omega)
          omega
        rcases d4 with ⟨rfl, d5⟩ | ⟨d5, num, d6, d7, d8⟩
        · rw [if_pos (show nI 0 = 0 from rfl)]
          exact ⟨0, _, rfl, sc3, hp100, Or.inl ⟨rfl, fun r hr => by rw [hblock r hr, if_pos hab, d5 r hr]; rfl⟩⟩
        · have hc0 : ¬ nI c = 0 := nI_ne0 d5 (by omega)
          rw [if_neg hc0]
          have fin : okK wc N p t (f + 1) ((6 * a + b) * 36 ^ f + num) K = some ((10 * a + b + 1) * 100 ^ f + c) := by
            rw [hblock num d6, if_pos hab, d7]; rfl
          have hlt := okK_lt hN _ _ _ _ fin
          have rest : 0 < (10 * a + b + 1) * 100 ^ f + c ∧ ∃ r, r < 36 ^ f ∧ okK wc N p t (f + 1) ((6 * a + b) * 36 ^ f + r) K = some ((10 * a + b + 1) * 100 ^ f + c) ∧ ∀ x, x < r → okK wc N p t (f + 1) ((6 * a + b) * 36 ^ f + x) K = none :=
            ⟨by omega, num, d6, fin, fun x hx => by rw [hblock x (by omega), if_pos hab, d8 x hx]; rfl⟩
          by_cases hf2 : f = 1
          · subst hf2
            rw [if_pos (show nI (1 + 1) = 2 from rfl), nI_1, show (100 : Int32) = nI 100 from rfl, nI_mul, nI_add]
            exact ⟨_, _, rfl, sc3, hlt, Or.inr rest⟩
          · have hf3 : f = 2 := by omega
            subst hf3
            rw [if_neg (show ¬ nI (2 + 1) = 2 by decide), nI_1, show (10000 : Int32) = nI 10000 from rfl, nI_mul, nI_add]
            exact ⟨_, _, rfl, sc3, hlt, Or.inr rest⟩
theorem to_c {N M p t : Nat} {CC : Nat → Nat → List Int32} {wc wr : Mem} (hB : Bo 1 N M CC wc wr) (hp : p < N) (ht : t < 16) : ∀ (f : Nat), f ≤ 3 → ∀ (md : Nat) (K : Nat → Int32), 2 * f ≤ md → 0 < f → KS N K → (∀ m, m < f → Non wc N p t m K (36 ^ m)) → ∀ w, ScC (wcp wc K) w → ∃ c w', ld md 0 1 (nI p) (nI t) (nI f) 0 w = some (nI c, w') ∧ ScC (wcp wc K) w' ∧ c < 100 ^ f ∧ ((c = 0 ∧ Non wc N p t f K (36 ^ f)) ∨ Fnd wc N p t f K c) := by
  have hN := hB.1.1
  intro f
  induction f with
  | zero => intro _ md K _ h; omega
  | succ f ih =>
    intro hf3 md K hmd _ hK hno w hw
    obtain ⟨md, rfl⟩ : ∃ q, md = q + 1 := ⟨md - 1, by omega⟩
    have hfrom := fun {a b : Nat} (ha : a < N) (hb : b < N) {w : Mem} (hw : ScC (wcp wc K) w) => from_c hB hp ht (f := f) (by omega) (ih (by omega)) ha hb (md := md) (by omega) hK hno hw
    have w02 : ∀ w, ScC (wcp wc K) w → w 0 1 2 = nI N := fun w h => (h 0 1 2 (by decide) (by decide)).trans ((if_neg (by omega)).trans hB.1.2.1)
    have h36 : 0 < 36 ^ f := Nat.pow_pos (by omega)
    -- the inner loop
    have inner : ∀ (kk : Mem → Option (Int32 × Mem)) (a : Nat), a < N → ∀ (r b n : Nat) (w : Mem), b + r = N → r < n → ScC (wcp wc K) w → Non wc N p t (f + 1) K ((6 * a + b) * 36 ^ f) → (∃ c w', h_X4_lessonsTo_31 (ld md) 1 (nI p) (nI t) (nI (f + 1)) (nI a) kk n (nI b) w = some (nI c, w') ∧ ScC (wcp wc K) w' ∧ c < 100 ^ (f + 1) ∧ Fnd wc N p t (f + 1) K c) ∨ (∃ w', h_X4_lessonsTo_31 (ld md) 1 (nI p) (nI t) (nI (f + 1)) (nI a) kk n (nI b) w = kk w' ∧ ScC (wcp wc K) w' ∧ Non wc N p t (f + 1) K ((6 * a + N) * 36 ^ f)) := by
      intro kk a ha r
      induction r with
      | zero =>
        intro b n w hb hn hw hnon
        obtain ⟨n, rfl⟩ : ∃ q, n = q + 1 := ⟨n - 1, by omega⟩
        have e : b = N := by omega
        subst e
        refine Or.inr ⟨w, ?_, hw, hnon⟩
        unfold h_X4_lessonsTo_31
        rw [w02 w hw, if_neg (nI_nlt (by omega) (by omega))]
      | succ r ihr =>
        intro b n w hb hn hw hnon
        obtain ⟨n, rfl⟩ : ∃ q, n = q + 1 := ⟨n - 1, by omega⟩
        obtain ⟨c, w', c1, c2, c3, c4⟩ := hfrom ha (show b < N by omega) hw
        have hc31 : c < 2 ^ 31 := by
          have : 100 ^ (f + 1) ≤ 100 ^ 3 := Nat.pow_le_pow_right (by omega) (by omega)
          omega
        have ex : 10 * nI a + nI b = nI (10 * a + b) := by rw [show (10 : Int32) = nI 10 from rfl, nI_mul, nI_add]
        have hblk : (6 * a + (b + 1)) * 36 ^ f = (6 * a + b) * 36 ^ f + 36 ^ f := by rw [← Nat.add_assoc, Nat.succ_mul]
        unfold h_X4_lessonsTo_31
        rw [w02 w hw, if_pos (nI_lt (by omega) (by omega)), ex, c1, ob, nI_1]
        dsimp only
        rcases c4 with ⟨rfl, c5⟩ | ⟨c5, q, c6, c7, c8⟩
        · rw [if_pos (show nI 0 ≤ 0 by decide)]
          refine ihr (b + 1) n w' (by omega) (by omega) c2 (fun num hnum => ?_)
          by_cases h : num < (6 * a + b) * 36 ^ f
          · exact hnon num h
          · have := c5 (num - (6 * a + b) * 36 ^ f) (by omega)
            rw [show (6 * a + b) * 36 ^ f + (num - (6 * a + b) * 36 ^ f) = num by omega] at this
            exact this
        · rw [if_neg (nI_nle c5 hc31)]
          refine Or.inl ⟨c, w', rfl, c2, c3, c5, (6 * a + b) * 36 ^ f + q, ?_, c7, fun x hx => ?_⟩
          · have h6 : (6 * a + b + 1) * 36 ^ f ≤ 36 * 36 ^ f := Nat.mul_le_mul_right _ (by omega)
            rw [Nat.pow_succ]
            rw [Nat.succ_mul] at h6
            omega
          · by_cases h : x < (6 * a + b) * 36 ^ f
            · exact hnon x h
            · have := c8 (x - (6 * a + b) * 36 ^ f) (by omega)
              rw [show (6 * a + b) * 36 ^ f + (x - (6 * a + b) * 36 ^ f) = x by omega] at this
              exact this
    -- digits that are no fisher's
    have skip : ∀ d e, Non wc N p t (f + 1) K (d * 36 ^ f) → d ≤ e → (∀ x, d ≤ x → x < e → ¬ (x / 6 < N ∧ x % 6 < N)) → Non wc N p t (f + 1) K (e * 36 ^ f) := by
      intro d e hd hde hx num hnum
      by_cases h : num < d * 36 ^ f
      · exact hd num h
      · have h1 : num / 36 ^ f < e := Nat.div_lt_of_lt_mul (by rw [Nat.mul_comm]; exact hnum)
        have h2 : d ≤ num / 36 ^ f := (Nat.le_div_iff_mul_le h36).mpr (by omega)
        have h3 := hx (num / 36 ^ f) h2 h1
        have h4 : num = num / 36 ^ f * 36 ^ f + num % 36 ^ f := by
          have := Nat.div_add_mod num (36 ^ f)
          rw [Nat.mul_comm] at this
          exact this.symm
        rw [h4, okK_s wc N p t f _ _ K (Nat.mod_lt _ h36), if_neg (fun z => h3 ⟨z.1, z.2.1⟩)]
    have outer : ∀ (r a n : Nat) (w : Mem), a + r = N → r < n → ScC (wcp wc K) w → Non wc N p t (f + 1) K (6 * a * 36 ^ f) → ∃ c w', h_X4_lessonsTo_19 (ld md) 1 (nI p) (nI t) (nI (f + 1)) (fun w8 => some (0, w8)) n (nI a) w = some (nI c, w') ∧ ScC (wcp wc K) w' ∧ c < 100 ^ (f + 1) ∧ ((c = 0 ∧ Non wc N p t (f + 1) K (36 ^ (f + 1))) ∨ Fnd wc N p t (f + 1) K c) := by
      intro r
      induction r with
      | zero =>
        intro a n w ha hn hw hnon
        obtain ⟨n, rfl⟩ : ∃ q, n = q + 1 := ⟨n - 1, by omega⟩
        have e : a = N := by omega
        subst e
        refine ⟨0, w, ?_, hw, Nat.pow_pos (by omega), Or.inl ⟨rfl, ?_⟩⟩
        · unfold h_X4_lessonsTo_19
          rw [w02 w hw, if_neg (nI_nlt (by omega) (by omega))]
          rfl
        · have := skip (6 * a) 36 hnon (by omega) (fun x h1 h2 => by omega)
          rw [Nat.pow_succ, Nat.mul_comm]
          exact this
      | succ r ihr =>
        intro a n w ha hn hw hnon
        obtain ⟨n, rfl⟩ : ∃ q, n = q + 1 := ⟨n - 1, by omega⟩
        unfold h_X4_lessonsTo_19
        rw [w02 w hw, if_pos (nI_lt (by omega) (by omega)), nI_1]
        rcases inner (fun w7 => h_X4_lessonsTo_19 (ld md) 1 (nI p) (nI t) (nI (f + 1)) (fun w8 => some (0, w8)) n (nI (a + 1)) w7) a (by omega) N 0 FU w (by omega) (by show N < 1000000; omega) hw hnon with ⟨c, w', c1, c2, c3, c4⟩ | ⟨w', c1, c2, c3⟩
        · rw [show nI 0 = 0 from rfl] at c1
          exact ⟨c, w', c1, c2, c3, Or.inr c4⟩
        · rw [show nI 0 = 0 from rfl] at c1
          rw [c1]
          exact ihr (a + 1) n w' (by omega) (by omega) c2 (skip (6 * a + N) (6 * (a + 1)) c3 (by omega) (fun x h1 h2 => by omega))
    rw [ld_0]
    unfold f_X4_lessonsTo
    rw [if_neg (show ¬ nI (f + 1) < 1 from nI_nlt (b := 1) (by omega) (by omega)), if_pos (show nI (f + 1) ≤ 3 from nI_le (b := 3) (by omega) (by omega))]
    have := outer N 0 FU w (by omega) (by show N < 1000000; omega) hw (fun num h => by omega)
    rw [show nI 0 = 0 from rfl] at this
    exact this
