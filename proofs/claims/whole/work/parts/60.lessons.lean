/-! by how few lessons: what is known, as a row of sets -/
def wcp (wc : Mem) (K : Nat → Int32) : Mem := fun a b c => if a = 15 ∧ b = 1 then K c else wc a b c
def wrp (N : Nat) (wr : Mem) (K : Nat → Int32) : Mem := fun a b c => if a = 22 ∧ b = 0 ∧ c < 3 * N ∧ c % 3 = 0 then K (c / 3) else wr a b c
/-- what is learned of a lesson -/
noncomputable def VV (wc : Mem) (a b : Nat) (K : Nat → Int32) : Int32 := ((f_X0_learns 1 (nI a) (nI b) (wcp wc K)).map (fun z => z.1)).getD 0
noncomputable def app (wc : Mem) (K : Nat → Int32) (a b : Nat) : Nat → Int32 := fun q => if q = b then K b ||| VV wc a b K else K q
/-- a number's lessons: what is written of them, if one knows the name then -/
noncomputable def okK (wc : Mem) (N p t : Nat) : Nat → Nat → (Nat → Int32) → Option Nat
  | 0, _, K => if bit (K p) (nI t) = 1 then some 0 else none
  | m + 1, num, K => if num / 36 ^ m / 6 < N ∧ num / 36 ^ m % 6 < N ∧ num / 36 ^ m / 6 ≠ num / 36 ^ m % 6 then (okK wc N p t m (num % 36 ^ m) (app wc K (num / 36 ^ m / 6) (num / 36 ^ m % 6))).map (fun l => (10 * (num / 36 ^ m / 6) + num / 36 ^ m % 6 + 1) * 100 ^ m + l) else none
def KS (N : Nat) (K : Nat → Int32) : Prop := ∀ q, q < N → S16 (K q)
theorem Bo.pat {N M : Nat} {CC : Nat → Nat → List Int32} {wc wr : Mem} (h : Bo 1 N M CC wc wr) {K : Nat → Int32} (hK : KS N K) : Bo 1 N M CC (wcp wc K) (wrp N wr K) := by
  obtain ⟨⟨h1, h2, h3, h4, h5, h6, h7, h8⟩, hT, hL⟩ := h
  refine ⟨⟨h1, h2, h3, h4, h5, h6, h7, fun p hp => ?_⟩, hT, hL⟩
  obtain ⟨k1, k2, k3, k4, k5, k6, k7, k8, k9⟩ := h8 p hp
  have e15 : wcp wc K 15 1 p = K p := if_pos ⟨rfl, rfl⟩
  have e0 : wrp N wr K 22 0 (3 * p) = K p := by
    unfold wrp
    rw [if_pos ⟨rfl, rfl, by omega, by omega⟩, show 3 * p / 3 = p by omega]
  have e1 : wrp N wr K 22 0 (3 * p + 1) = wr 22 0 (3 * p + 1) := if_neg (by omega)
  have e2 : wrp N wr K 22 0 (3 * p + 2) = wr 22 0 (3 * p + 2) := if_neg (by omega)
  rw [e15, e0, e1, e2]
  exact ⟨k1, k2, rfl, k4, k5, hK p hp, k7, k8, k9⟩
theorem Bo.qr {i N M : Nat} {CC : Nat → Nat → List Int32} {wc wr wr' : Mem} (h : Bo i N M CC wc wr) (hr : QR wr wr') : Bo i N M CC wc wr' :=
  ⟨h.1.of (fun _ => rfl) (fun _ _ _ => rfl) (fun c h => hr.1 c (by omega)) hr.2.1 (fun c => hr.2.2 20 0 c (by omega)) (fun c => hr.2.2 21 0 c (by omega)),
   h.2.1.of rfl (fun _ => rfl) (fun _ => rfl) (hr.1 10 (by omega)) (fun c => hr.2.2 24 0 c (by omega)) (fun c => hr.2.2 25 0 c (by omega)),
   h.2.2.of (hr.1 11 (by omega))⟩
theorem bit_shl {t s : Nat} (ht : t < 16) (hs : s < 16) : bit (shlI 1 (nI t)) (nI s) = 1 ↔ t = s := by
  have h1 : 2 ^ t ≤ 2 ^ 15 := Nat.pow_le_pow_right (by omega) (by omega)
  rw [nI_shl (by omega), bit_tb (by omega) (by omega), Nat.testBit_two_pow, decide_eq_true_eq]
theorem ls_sub {x : Int32} {s : Nat} (hs : s < 16) : ∀ (k t : Nat) (l f : Int32), t + k = 16 → S16 f → bit (lsG x k (nI t) l f) (nI s) = 1 → bit f (nI s) = 1 ∨ bit x (nI s) = 1 := by
  intro k
  induction k with
  | zero => intro t l f _ _ h; exact Or.inl h
  | succ k ih =>
    intro t l f ht hf h
    unfold lsG at h
    split at h
    · split at h
      · rename_i hb
        rw [nI_1] at h
        rcases ih (t + 1) _ _ (by omega) (hf.or (.bit (by omega))) h with h2 | h2
        · rcases (bit_or hf (.bit (by omega)) hs).mp h2 with h3 | h3
          · exact Or.inl h3
          · have := (bit_shl (by omega) hs).mp h3
            subst this
            exact Or.inr hb
        · exact Or.inr h2
      · rw [nI_1] at h
        exact ih (t + 1) _ _ (by omega) hf h
    · exact Or.inl h
theorem least_sub {x m : Int32} {s : Nat} (hs : s < 16) (h : bit (leastF x m) (nI s) = 1) : bit x (nI s) = 1 := by
  rcases ls_sub hs 16 0 m 0 rfl .zero h with h | h
  · exact absurd h (bit0 (by omega))
  · exact h
theorem and_sub {x y : Int32} (hx : S16 x) {s : Nat} (hs : s < 16) (h : bit (x &&& y) (nI s) = 1) : bit x (nI s) = 1 := by
  obtain ⟨n, hn, rfl⟩ := hx
  obtain ⟨m, -, rfl⟩ := nI_all y
  rw [nI_and] at h
  have hle : n &&& m ≤ n := Nat.and_le_left
  rw [bit_tb (by omega) (by omega), Nat.testBit_and, Bool.and_eq_true] at h
  exact (bit_tb (by omega) (by omega)).mpr h.1
/-- the lesson, on the class's side and on the reference's -/
theorem VV_c {N M a b : Nat} {CC : Nat → Nat → List Int32} {wc wr : Mem} (hB : Bo 1 N M CC wc wr) {K : Nat → Int32} (hK : KS N K) (ha : a < N) (hb : b < N) : S16 (VV wc a b K) ∧ (∀ s, s < 16 → bit (VV wc a b K) (nI s) = 1 → bit (K a) (nI s) = 1) ∧ (∀ w, ScC (wcp wc K) w → ∃ w', f_X0_learns 1 (nI a) (nI b) w = some (VV wc a b K, w') ∧ ScC (wcp wc K) w') ∧ (∀ w, QR (wrp N wr K) w → ∃ w', f_X5_lessonOf (nI a) (nI b) w = some (VV wc a b K, w') ∧ QR (wrp N wr (app wc K a b)) w' ∧ ThS w w' ∧ (∀ c, 31 ≤ c → w' 5 0 c = w 5 0 c)) := by
  have hP := hB.pat hK
  obtain ⟨T, w1, w2, hT, c1, ⟨w3, e3, -⟩, -, -, -⟩ := learns_both hP ha hb
  have e0 : ∀ q, q < N → wrp N wr K 22 0 (3 * q) = K q := fun q hq => by
    have := hB.1.1
    unfold wrp
    rw [if_pos ⟨rfl, rfl, by omega, by omega⟩, show 3 * q / 3 = q by omega]
  rw [e0 a ha, e0 b hb] at c1
  have hV : VV wc a b K = leastF (K a &&& (K b ^^^ (-1))) (nI T) := by
    unfold VV
    rw [c1]; rfl
  refine ⟨by rw [hV]; exact leastF_r _ _, fun s hs h => ?_, fun w hw => ?_, fun w hw => ?_⟩
  · rw [hV] at h
    exact and_sub (hK a ha) hs (least_sub hs h)
  · obtain ⟨T2, x1, x2, hT2, d1, ⟨x3, f3, -⟩, -, sc, -⟩ := learns_both (hP.sc hw .rf) ha hb
    rw [e0 a ha, e0 b hb] at d1
    have : T2 = T := by
      rw [e3] at f3
      exact ((nI_eq (by omega) (by omega)).mp (congrArg (fun z => z.1) (Option.some.inj f3))).symm
    subst this
    exact ⟨x1, by rw [hV]; exact d1, hw.tr sc⟩
  · have hB2 := hP.qr hw
    have ew : ∀ q, q < N → w 22 0 (3 * q) = K q := fun q hq => (hw.2.1 _ (by have := hB.1.1; omega)).trans (e0 q hq)
    obtain ⟨T2, x1, x2, hT2, d1, -, d2, -, sr⟩ := learns_both hB2 ha hb
    rw [ew a ha, ew b hb] at d1 d2
    have hVV : leastF (K a &&& (K b ^^^ (-1))) (nI T2) = VV wc a b K := by
      rw [hV]
      rw [c1] at d1
      exact (congrArg (fun z => z.1) (Option.some.inj d1)).symm
    rw [hVV] at d2
    refine ⟨_, d2, ⟨fun c hc => ?_, fun c hc => ?_, fun x y z ha => ?_⟩, (sr.th.tr ThR.rf.up2).s, fun c hc => ?_⟩
    · rw [up_k (by decide), sr 5 0 c (by decide) (by decide), hw.1 c hc]
      unfold wrp
      rw [if_neg (by omega), if_neg (by omega)]
    · by_cases hx : c = 3 * b
      · subst hx
        rw [up_s, sr 22 0 _ (by decide) (by decide), ew b hb]
        unfold wrp app
        rw [if_pos ⟨rfl, rfl, by omega, by omega⟩, show 3 * b / 3 = b by omega, if_pos rfl]
      · rw [up_j hx, sr 22 0 c (by decide) (by decide), hw.2.1 c hc]
        unfold wrp app
        by_cases h5 : 22 = 22 ∧ 0 = 0 ∧ c < 3 * N ∧ c % 3 = 0
        · rw [if_pos h5, if_pos h5, if_neg (by omega)]
        · rw [if_neg h5, if_neg h5]
    · rw [up_k (by omega), sr x y z (by omega) (by omega), hw.2.2 x y z ha]
      unfold wrp
      rw [if_neg (by omega), if_neg (by omega)]
    · rw [up_k (by decide), sr 5 0 c (by decide) (by decide)]
theorem app_S {N M a b : Nat} {CC : Nat → Nat → List Int32} {wc wr : Mem} (hB : Bo 1 N M CC wc wr) {K : Nat → Int32} (hK : KS N K) (ha : a < N) (hb : b < N) : KS N (app wc K a b) := by
  intro q hq
  unfold app
  split
  · exact (hK b hb).or (VV_c hB hK ha hb).1
  · exact hK q hq
theorem okK_lt {wc : Mem} {N p t : Nat} (hN : N ≤ 6) : ∀ (m num : Nat) (K : Nat → Int32) (l : Nat), okK wc N p t m num K = some l → l < 100 ^ m := by
  intro m
  induction m with
  | zero =>
    intro num K l h
    unfold okK at h
    split at h
    · rw [← Option.some.inj h]; decide
    · cases h
  | succ m ih =>
    intro num K l h
    unfold okK at h
    split at h
    · rename_i hv
      rcases ho : okK wc N p t m (num % 36 ^ m) (app wc K (num / 36 ^ m / 6) (num / 36 ^ m % 6)) with _ | l2
      · rw [ho] at h; cases h
      · rw [ho] at h
        have h2 := ih _ _ _ ho
        have h3 : (10 * (num / 36 ^ m / 6) + num / 36 ^ m % 6 + 1) * 100 ^ m + l2 = l := Option.some.inj h
        rw [Nat.pow_succ]
        have h4 : (10 * (num / 36 ^ m / 6) + num / 36 ^ m % 6 + 1) ≤ 99 := by omega
        have h5 := Nat.mul_le_mul_right (100 ^ m) h4
        omega
    · cases h
