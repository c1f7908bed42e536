/-! what the law asks of each; its end -/
def QS (q : Int32 → Int32) (N : Nat) (st : St) : Prop := (∀ w, f_L_sea q w = some (nI (sS st), w)) ∧ (∀ w, f_L_tide q w = some (nI (sT st), w)) ∧ ∀ p, p < N → ∀ w, f_L_known q (nI p) w = some (nI (sK st p), w) ∧ f_L_kept q (nI p) w = some (nI (sE st p), w) ∧ f_L_luck q (nI p) w = some (nI (sL st p), w)
theorem j153 {q : Int32 → Int32} {N t p th : Nat} {κ μ : Nat → Nat} {C : Nat → List Int32} {st : St} {w : Mem} (k : Int32 → Mem → Option (Int32 × Mem)) (x3 x6 s : Int32) (hO : OkS N κ μ st) (hC : CoL 0 N κ μ t st w) (hT : TXq q t C w) (hp : p < N) (hth : th < 16) : ∃ w', j_L_law_153 q k x3 x6 (nI p) (nI th) s s w = k (nI (th + 5)) w' ∧ KC w w' := by
  obtain ⟨u, w1, l1, l2, l3, l4⟩ := lessons_K hO hC hT hp hth
  have e5 : nI th + 5 = nI (th + 5) := nI_add th 5
  unfold j_L_law_153
  rw [if_pos rfl, l1, Option.bind_some]
  dsimp only
  by_cases h : u ≤ 0
  · rw [if_pos h, e5]
    exact ⟨w1, rfl, l2⟩
  · rw [if_neg h]
    obtain ⟨w2, m1, m2⟩ := when_K hO (hC.kc l2) (hT.kc l2) hth (l4 h)
    rw [m1, Option.bind_some]
    dsimp only
    rw [if_pos rfl, e5]
    exact ⟨w2, rfl, l2.tr m2⟩
theorem law109 {q : Int32 → Int32} {N t p : Nat} {κ μ : Nat → Nat} {C : Nat → List Int32} {st : St} (k : Mem → Option (Int32 × Mem)) (x3 x6 : Int32) (hS : QS q N st) (hO : OkS N κ μ st) (hp : p < N) : ∀ (m j fuel : Nat) (w : Mem), j + m = 4 → m < fuel → CoL 0 N κ μ t st w → TXq q t C w → ∃ w', h_L_law_109 q x3 x6 (nI p) k fuel (nI (5 * j)) w = k w' ∧ KC w w' := by
  have b3 := (hO.2.2.2.2 p hp).2.2.1
  intro m
  induction m with
  | zero =>
    intro j fuel w hj hf hC hT
    obtain ⟨fuel, rfl⟩ : ∃ m, fuel = m + 1 := ⟨fuel - 1, by omega⟩
    refine ⟨w, ?_, .rf⟩
    unfold h_L_law_109
    rw [if_neg (show ¬ nI (5 * j) < 16 from nI_nlt (a := 5 * j) (b := 16) (by omega) (by omega))]
  | succ m ih =>
    intro j fuel w hj hf hC hT
    obtain ⟨fuel, rfl⟩ : ∃ m, fuel = m + 1 := ⟨fuel - 1, by omega⟩
    have hth : 5 * j < 16 := by omega
    obtain ⟨u, w1, l1, l2, l3, l4⟩ := lessons_K hO hC hT hp hth
    have fin : ∀ s : Int32, s = (if (sK st p).testBit (5 * j) = true then 1 else 0) → ∃ w', j_L_law_133 q (h_L_law_109 q x3 x6 (nI p) k fuel) x3 x6 (nI p) (nI (5 * j)) s w1 = k w' ∧ KC w w' := by
      intro s hs
      obtain ⟨w2, m1, m2⟩ := j153 (th := 5 * j) (h_L_law_109 q x3 x6 (nI p) k fuel) x3 x6 s hO (hC.kc l2) (hT.kc l2) hp hth
      obtain ⟨w3, n1, n2⟩ := ih (j + 1) fuel w2 (by omega) (by omega) ((hC.kc l2).kc m2) ((hT.kc l2).kc m2)
      refine ⟨w3, ?_, (l2.tr m2).tr n2⟩
      rw [← n1, show 5 * (j + 1) = 5 * j + 5 by omega, ← m1]
      unfold j_L_law_133
      rw [(hS.2.2 p hp w1).1, Option.bind_some]
      dsimp only
      have hm := Nat.mod_lt (sK st p / 2 ^ (5 * j)) (show 0 < 2 by omega)
      have e : (shrI (nI (sK st p)) (nI (5 * j))) &&& 1 = nI (sK st p / 2 ^ (5 * j) % 2) := bit_N (by omega) (by omega)
      have e1 : nI (sK st p / 2 ^ (5 * j) % 2) = 1 ↔ (sK st p).testBit (5 * j) = true := (nI_eq (a := sK st p / 2 ^ (5 * j) % 2) (b := 1) (by omega) (by omega)).trans tbN_of.symm
      rw [e]
      by_cases hb : (sK st p).testBit (5 * j) = true
      · rw [if_pos (e1.mpr hb), hs, if_pos hb]
      · rw [if_neg (fun z => hb (e1.mp z)), hs, if_neg hb]
    unfold h_L_law_109
    rw [if_pos (show nI (5 * j) < 16 from nI_lt (a := 5 * j) (b := 16) (by omega) (by omega)), l1, Option.bind_some]
    dsimp only
    by_cases h : u = 0
    · rw [if_pos h]; exact fin 1 (by rw [if_pos (l3.mp h)])
    · rw [if_neg h]; exact fin 0 (by rw [if_neg (fun z => h (l3.mpr z))])
theorem law50 {q : Int32 → Int32} {N t : Nat} {κ μ : Nat → Nat} {C : Nat → List Int32} {st : St} (k : Mem → Option (Int32 × Mem)) (x6 : Int32) (hS : QS q N st) (hO : OkS N κ μ st) : ∀ (m p fuel : Nat) (w : Mem), p + m = N → m < fuel → CoL 0 N κ μ t st w → TXq q t C w → ∃ w', h_L_law_50 q (nI N) x6 k fuel (nI p) w = k w' ∧ KC w w' := by
  have hN := hO.2.1
  intro m
  induction m with
  | zero =>
    intro p fuel w hp hf hC hT
    obtain ⟨fuel, rfl⟩ : ∃ m, fuel = m + 1 := ⟨fuel - 1, by omega⟩
    refine ⟨w, ?_, .rf⟩
    unfold h_L_law_50
    rw [if_neg (nI_nlt (by omega) (by omega))]
  | succ m ih =>
    intro p fuel w hpm hf hC hT
    obtain ⟨fuel, rfl⟩ : ∃ m, fuel = m + 1 := ⟨fuel - 1, by omega⟩
    have hp : p < N := by omega
    obtain ⟨b1, b2, b3, b4, b5⟩ := hO.2.2.2.2 p hp
    have hlb := lucks_b q 0 hO hp
    obtain ⟨v, w1, l1, l2, l3, l4⟩ := which_c hO hC hT hp
    have hC1 := hC.sc l2
    have hT1 := hT.sc l2
    obtain ⟨w2, m1, m2⟩ := lands_1 hO hC1 hT1 hp (show 0 < 16 by omega)
    have hC2 := hC1.sc m2
    have hT2 := hT1.sc m2
    obtain ⟨v3, w3, n1, n2, n3, n4⟩ := which_c hO hC2 hT2 hp
    have fin : ∀ w9, KC w w9 → ∃ w', j_L_law_106 q (h_L_law_50 q (nI N) x6 k fuel) (nI N) x6 (nI p) w9 = k w' ∧ KC w w' := by
      intro w9 h9
      obtain ⟨w4, o1, o2⟩ := law109 (fun w25 => h_L_law_50 q (nI N) x6 k fuel (nI p + 1) w25) (nI N) x6 hS hO hp 4 0 FU w9 (by omega) (by show _ < 1000000; omega) (hC.kc h9) (hT.kc h9)
      obtain ⟨w5, u1, u2⟩ := ih (p + 1) fuel w4 (by omega) (by omega) ((hC.kc h9).kc o2) ((hT.kc h9).kc o2)
      refine ⟨w5, ?_, (h9.tr o2).tr u2⟩
      unfold j_L_law_106
      refine Eq.trans o1 ?_
      show h_L_law_50 q (nI N) x6 k fuel (nI p + 1) w4 = _
      rw [nI_1]
      exact u1
    have f1 := fin w2 (l2.kc.tr m2.kc)
    unfold h_L_law_50
    rw [if_pos (nI_lt hp (by omega)), l1, Option.bind_some]
    dsimp only
    rw [show f_X4_lands (nI p) 0 1 w1 = _ from m1, Option.bind_some]
    dsimp only
    rw [(hS.2.2 p hp w2).2.2, Option.bind_some]
    dsimp only
    have esum : iI (lucksN q κ μ st p 0) + nI (sL st p) = iI (lucksN q κ μ st p 0 + (sL st p : Int)) := by rw [iI_n, iI, iI, ← Int32.ofInt_add]
    rw [esum]
    by_cases hlt : nI v < iI (lucksN q κ μ st p 0 + (sL st p : Int))
    · rw [if_pos hlt, (hS.2.2 p hp w2).2.1, Option.bind_some]
      dsimp only
      rw [iI_n, iI_lt (by omega) (by omega)] at hlt
      have e1 : nI (sE st p) &&& 1 = nI (sE st p % 2) := by rw [show (1 : Int32) = nI 1 from rfl, nI_and, Nat.and_one_is_mod]
      have hm := Nat.mod_lt (sE st p) (show 0 < 2 by omega)
      have e2 : nI (sE st p % 2) = 0 ↔ sE st p % 2 = 0 := nI_eq (a := sE st p % 2) (b := 0) (by omega) (by omega)
      rw [e1]
      by_cases hk : sE st p % 2 = 0
      · have hnb : ¬ (sE st p).testBit 0 = true := by rw [tbN_of, Nat.pow_zero, Nat.div_one]; omega
        rw [if_pos (e2.mpr hk), n1, Option.bind_some]
        dsimp only
        have h1 := l4 hnb
        have h3 := n4 hnb
        have h99 : 99 ≤ v3 := by
          unfold lL hld at h1 h3
          omega
        rw [if_neg (show ¬ nI v3 < 99 from nI_nlt (a := v3) (b := 99) h99 (by omega))]
        exact fin w3 ((l2.kc.tr m2.kc).tr n2.kc)
      · rw [if_neg (fun z => hk (e2.mp z))]
        exact f1
    · rw [if_neg hlt]
      exact f1
