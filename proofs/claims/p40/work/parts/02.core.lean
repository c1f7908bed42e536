/-! THE WORLD: cells by kind and number, in the order in which they are made. Kinds 0 .. 4: Coast, Reader, Sheet, Texts, the class (5 is 4 again, and has no cell); 6 .. 19 their arrays; 20 the law's row of longs (its numbers are ints here); 40 texts of the pool, 41 the script. -/
abbrev AV : Type := Int32 ⊕ (Int64 ⊕ Option (Nat × Nat))
abbrev Mem : Type := Nat → Nat → Nat → Int32
abbrev Fl : Type := Nat → Nat → Nat → Bool
def flT : Fl := fun _ _ _ => true
def ordT : List (Nat × Nat) := [(9, 7), (5, 0), (31, 2), (1, 0), (0, 0), (1000, 0), (2, 0), (3, 0), (4, 0), (6, 0), (7, 0), (8, 0), (10, 7), (11, 7), (12, 7), (13, 7), (14, 7), (15, 7), (30, 0), (32, 2), (39, 0)]
def ord (k i : Nat) : Nat := (ordT.getD k (1000, 0)).1 + (ordT.getD k (1000, 0)).2 * i
def alT : List (Nat × Nat) := [(4, 0), (3, 0), (6, 0), (7, 0), (8, 0), (1, 0), (9, 0), (10, 0), (11, 0), (0, 0), (12, 0), (13, 0), (14, 0), (15, 0), (16, 0), (17, 0), (0, 1), (12, 1), (13, 1), (14, 1), (15, 1), (16, 1), (17, 1), (0, 2), (12, 2), (13, 2), (14, 2), (15, 2), (16, 2), (17, 2), (18, 0), (2, 0), (19, 0), (2, 1), (19, 1), (2, 2), (19, 2), (2, 3), (19, 3), (20, 0)]
def al (q : Nat) : Nat × Nat := alT.getD q (99, 0)
theorem al_ord : ∀ q, q < 40 → ord (al q).1 (al q).2 = q := by decide +kernel
theorem al_lt : ∀ q, q < 40 → (al q).1 < 37 := by decide +kernel
/-- a cell of the claim's own that stands when n cells are made -/
def okc (n k i : Nat) : Bool := decide (ord k i < n) && decide (al (ord k i) = (k, i))
def okR (n : Nat) (q : Nat × Nat) : Bool := match q.1 with
  | 40 => decide (q.2 < 50)
  | 41 => decide (q.2 = 0)
  | k => okc n k q.2
def okV (n : Nat) (v : AV) : Bool := match v with
  | .inr (.inr (some q)) => okR n q
  | _ => true
/-- what a world stands on: where the classes are, the two array classes, the law's start, the pool's texts, the script -/
abbrev XC : Type := va_G × (ClassId × ClassId) × State × (Nat → Nat) × Nat
def xb (X : XC) : Nat := X.2.2.1.heap.size
/-- where the class's cells begin, where the law's row lies, the class of rows of longs -/
def xc (X : XC) : Nat := X.2.2.2.1 98
def hb (X : XC) : Nat := X.2.2.2.1 99
def lc (X : XC) : ClassId := X.2.2.2.1 97
def ad (X : XC) (q : Nat) : Nat := if q = 39 then hb X else xc X + q
def adr (X : XC) (k i : Nat) : Nat := match k with
  | 40 => X.2.2.2.1 i
  | 41 => X.2.2.2.2
  | k => ad X (ord k i)
def cv (X : XC) (v : AV) : Value := match v with
  | .inl x => .int x
  | .inr (.inl x) => .long x
  | .inr (.inr none) => .null
  | .inr (.inr (some q)) => .ref (adr X q.1 q.2)
/-- the fields of a kind: none an int, else the kind that it points to, and which one (none: the same number) -/
def fldT : List (List (Option (Nat × Option Nat))) := [
  [some (3, some 0), some (12, none), none, none, none, none, some (13, none), some (14, none), some (15, none), some (16, none), some (17, none)],
  [some (9, none), none, some (10, none), none, some (11, none), none, none, none, none],
  [none, none, some (19, none)],
  [none, some (6, none), some (7, none), some (8, none)],
  [some (3, some 0), some (1, some 0), some (0, some 0), some (0, some 1), some (0, some 2), none, some (18, none)],
  [some (3, some 0), some (1, some 0), some (0, some 0), some (0, some 1), some (0, some 2), none, some (18, none)]]
def lenT : List Nat := [0, 0, 0, 0, 0, 0, 960, 18, 40, 160, 160, 3, 6, 6, 6, 6, 6, 6, 4, 40, 60]
def fdD (k j : Nat) : Option (Nat × Option Nat) := (fldT.getD k []).getD j none
def lenK (k : Nat) : Nat := lenT.getD k 0
theorem fld_len : ∀ k, k < 6 → (fldT.getD k []).length = (cC k).2.2 := by decide +kernel
def fv (X : XC) (fl : Fl) (w : Mem) (k i j : Nat) : Value := match fdD k j with
  | none => .int (w k i j)
  | some t => if fl k i j = true then .ref (adr X t.1 (t.2.getD i)) else .null
def fvs (X : XC) (fl : Fl) (w : Mem) (k i : Nat) : List Value := (List.range (cC k).2.2).map (fv X fl w k i)
def isO (k : Nat) : Bool := decide (k < 6)
def isA (k : Nat) : Bool := decide (6 ≤ k) && (decide (k < 37) && (decide (k ≠ 18) && decide (k ≠ 20)))
def ent (X : XC) (fl : Fl) (w : Mem) (q : Nat × Nat) : va_E :=
  if q.1 < 6 then .inr (q.1, fvs X fl w q.1 q.2)
  else if q.1 = 18 then .inl (X.2.1.2, 4, .inr (.inr (.inr (.inr (fun j => if fl 18 q.2 j = true then some (adr X 2 j) else none)))))
  else if q.1 = 20 then .inl (lc X, 60, .inr (.inl (fun j => (w 20 q.2 j).toInt64)))
  else .inl (X.2.1.1, lenK q.1, .inl (w q.1 q.2))
def wl (X : XC) (n : Nat) (fl : Fl) (w : Mem) : va_W := (List.range n).map fun q => (ad X q, ent X fl w (al q))
abbrev tysL (X : XC) : List (ClassId × FieldType) := [(X.2.1.1, .int), (X.2.1.2, .object "NameThrownBack$Sheet"), (lc X, .long)]
abbrev AA (X : XC) : Nat → Prop := fun q => (xc X ≤ q ∧ q < xc X + 39) ∨ xb X ≤ q
def up (w : Mem) (k i j : Nat) (v : Int32) : Mem := fun a b c => if a = k ∧ b = i ∧ c = j then v else w a b c
def upF (fl : Fl) (k i j : Nat) : Fl := fun a b c => if a = k ∧ b = i ∧ c = j then true else fl a b c
theorem up_s (w : Mem) (k i j : Nat) (v : Int32) : up w k i j v k i j = v := by simp [up]
theorem up_n {w : Mem} {k i j : Nat} {v : Int32} {a b c : Nat} (h : ¬ (a = k ∧ b = i ∧ c = j)) : up w k i j v a b c = w a b c := by simp [up, h]
theorem okc_spec {n k i : Nat} (h : okc n k i = true) : ord k i < n ∧ al (ord k i) = (k, i) := by
  simp only [okc, Bool.and_eq_true, decide_eq_true_eq] at h; exact h
theorem okc_lt {n k i : Nat} (hn : n ≤ 40) (h : okc n k i = true) : k < 37 := by
  obtain ⟨h1, h2⟩ := okc_spec h
  have h3 := al_lt (ord k i) (by omega)
  rw [h2] at h3; exact h3
theorem adr_own (X : XC) {k : Nat} (h : k < 37) (i : Nat) : adr X k i = ad X (ord k i) := by
  unfold adr
  split
  · omega
  · omega
  · rfl
theorem okR_own {n k i : Nat} (h : k < 37) : okR n (k, i) = okc n k i := by
  unfold okR
  split
  · rename_i h2; exact absurd h (by omega)
  · rename_i h2; exact absurd h (by omega)
  · rfl
theorem wl_len (X : XC) (n : Nat) (fl : Fl) (w : Mem) : (wl X n fl w).length = n := by simp [wl]
theorem wl_get {X : XC} {n : Nat} {fl : Fl} {w : Mem} {k i : Nat} (hn : n ≤ 40) (h : okc n k i = true) : (wl X n fl w)[ord k i]? = some (adr X k i, ent X fl w (k, i)) := by
  obtain ⟨h1, h2⟩ := okc_spec h
  rw [adr_own X (okc_lt hn h)]
  simp [wl, h1, h2]
theorem wl_at {X : XC} {n q : Nat} {fl : Fl} {w : Mem} (h : q < n) : (wl X n fl w)[q]? = some (ad X q, ent X fl w (al q)) := by simp [wl, h]
theorem fvs_get {X : XC} {fl : Fl} {w : Mem} {k i j : Nat} (h : j < (cC k).2.2) : (fvs X fl w k i)[j]? = some (fv X fl w k i j) := by simp [fvs, h]
theorem ent_o {X : XC} {fl : Fl} {w : Mem} {k i : Nat} (h : k < 6) : ent X fl w (k, i) = .inr (k, fvs X fl w k i) := by unfold ent; rw [if_pos h]
theorem isA_spec {k : Nat} (h : isA k = true) : 6 ≤ k ∧ k < 37 ∧ k ≠ 18 := by
  simp only [isA, Bool.and_eq_true, decide_eq_true_eq] at h; exact ⟨h.1, h.2.1, h.2.2.1⟩
theorem isA_20 {k : Nat} (h : isA k = true) : k ≠ 20 := by
  simp only [isA, Bool.and_eq_true, decide_eq_true_eq] at h; exact h.2.2.2
theorem ent_a {X : XC} {fl : Fl} {w : Mem} {k i : Nat} (h : isA k = true) : ent X fl w (k, i) = .inl (X.2.1.1, lenK k, .inl (w k i)) := by
  obtain ⟨h1, -, h3⟩ := isA_spec h
  have h4 := isA_20 h; unfold ent; rw [if_neg (by show ¬ k < 6; omega), if_neg h3, if_neg h4]
theorem ent_q {X : XC} {fl : Fl} {w : Mem} {i : Nat} : ent X fl w (18, i) = .inl (X.2.1.2, 4, .inr (.inr (.inr (.inr (fun j => if fl 18 i j = true then some (adr X 2 j) else none))))) := by
  unfold ent; rw [if_neg (show ¬ (18 : Nat) < 6 by decide), if_pos rfl]
theorem ent_h {X : XC} {fl : Fl} {w : Mem} {i : Nat} : ent X fl w (20, i) = .inl (lc X, 60, .inr (.inl (fun j => (w 20 i j).toInt64))) := by
  unfold ent; rw [if_neg (show ¬ (20 : Nat) < 6 by decide), if_neg (show ¬ (20 : Nat) = 18 by decide), if_pos rfl]
/-- another cell's entry, where only one cell is otherwise -/
theorem ent_n {X : XC} {fl fl' : Fl} {w w' : Mem} {q : Nat × Nat} (hf : ∀ j, fl' q.1 q.2 j = fl q.1 q.2 j) (hw : ∀ j, w' q.1 q.2 j = w q.1 q.2 j) : ent X fl' w' q = ent X fl w q := by
  obtain ⟨k, i⟩ := q
  unfold ent
  have e1 : fvs X fl' w' k i = fvs X fl w k i := by
    unfold fvs; refine List.map_congr_left (fun j _ => ?_); unfold fv; rw [show fl' k i j = fl k i j from hf j, show w' k i j = w k i j from hw j]
  have e2 : w' k i = w k i := funext hw
  dsimp only
  split
  · rw [e1]
  · split
    · rename_i h; subst h
      have e3 : (fun j => if fl' 18 i j = true then some (adr X 2 j) else none) = (fun j => if fl 18 i j = true then some (adr X 2 j) else none) := by
        funext j; rw [show fl' 18 i j = fl 18 i j from hf j]
      rw [e3]
    · split
      · rename_i h; subst h
        rw [e2]
      · rw [e2]
theorem wl_set {X : XC} {n : Nat} {fl fl' : Fl} {w w' : Mem} {k i : Nat} {e : va_E} (hn : n ≤ 40) (h : okc n k i = true) (he : e = ent X fl' w' (k, i)) (hf : ∀ a b c, ¬ (a = k ∧ b = i) → fl' a b c = fl a b c) (hw : ∀ a b c, ¬ (a = k ∧ b = i) → w' a b c = w a b c) :
    (wl X n fl w).set (ord k i) (adr X k i, e) = wl X n fl' w' := by
  obtain ⟨h1, h2⟩ := okc_spec h
  refine List.ext_getElem? (fun q => ?_)
  by_cases hq : q < n
  · by_cases hqo : q = ord k i
    · subst hqo
      rw [List.getElem?_set_self (by rw [wl_len]; exact h1), wl_get hn h, he]
    · rw [List.getElem?_set_ne (Ne.symm hqo), wl_at hq, wl_at hq]
      have hne : ¬ ((al q).1 = k ∧ (al q).2 = i) := by
        rintro ⟨e1, e2⟩
        exact hqo (by rw [← al_ord q (by omega), e1, e2])
      rw [ent_n (fun j => hf _ _ j hne) (fun j => hw _ _ j hne)]
  · rw [List.getElem?_eq_none (by rw [List.length_set, wl_len]; omega), List.getElem?_eq_none (by rw [wl_len]; omega)]
/-- the pool's texts: entry, text, number; their lengths, their bytes -/
def strT : List (Nat × String × Nat) := [(95, "lets", 0), (101, "lucks", 1), (103, "takes", 2), (105, "or", 3), (107, "and", 4), (109, "not", 5), (111, "thing", 6), (113, "known", 7), (115, "kept", 8), (117, "tide", 9), (119, "luck", 10), (121, "more", 11)]
def strL : List (Nat × String × Nat) := [(70, "lets thing*", 12), (82, "-known+tide;lucks ", 13), (84, "-(kept<", 14), (86, ")*", 15), (88, ";takes ", 16), (90, "+(luck<", 17), (92, ");", 18)]
def lenS : List Nat := [4, 5, 5, 2, 3, 3, 5, 5, 4, 4, 4, 4, 11, 18, 7, 2, 7, 7, 2]
def bytS : List (List Int32) := [[108, 101, 116, 115], [108, 117, 99, 107, 115], [116, 97, 107, 101, 115], [111, 114], [97, 110, 100], [110, 111, 116], [116, 104, 105, 110, 103], [107, 110, 111, 119, 110], [107, 101, 112, 116], [116, 105, 100, 101], [108, 117, 99, 107], [109, 111, 114, 101], [108, 101, 116, 115, 32, 116, 104, 105, 110, 103, 42], [45, 107, 110, 111, 119, 110, 43, 116, 105, 100, 101, 59, 108, 117, 99, 107, 115, 32], [45, 40, 107, 101, 112, 116, 60], [41, 42], [59, 116, 97, 107, 101, 115, 32], [43, 40, 108, 117, 99, 107, 60], [41, 59]]
def strOK (X : XC) : Prop := vk_S 19 lenS bytS (fun i => X.2.2.2.1 i) (fun i => X.2.2.2.1 (19 + i)) (AA X) X.2.2.1 X.2.2.1.heap ∧ va_Z "java/lang/String" "COMPACT_STRINGS" "Z" (.int 1) (AA X) X.2.2.1 X.2.2.1.heap ∧
  (va_Z "jdk/internal/util/Preconditions" "SIOOBE_FORMATTER" "Ljava/util/function/BiFunction;" .null (AA X) X.2.2.1 X.2.2.1.heap ∨ va_Z "jdk/internal/util/Preconditions" "SIOOBE_FORMATTER" "Ljava/util/function/BiFunction;" (.ref (X.2.2.2.1 38)) (AA X) X.2.2.1 X.2.2.1.heap)
/-- what is fixed: the classes and the texts are known at the law's start -/
def XOK (X : XC) : Prop := va_K X.1 classes (tysL X) X.2.2.1 ∧ strOK X
/-- how large the heap is -/
def SZ (X : XC) (n z : Nat) : Prop := xb X ≤ z ∧ (n < 39 → xb X = xc X ∧ z = xc X + n) ∧ (39 ≤ n → xc X + 39 ≤ z)
/-- the heap holds the world -/
def Wd (X : XC) (n : Nat) (fl : Fl) (w : Mem) (H : Heap) : Prop := va_P X.1 classes (wl X n fl w) H ∧ va_D (AA X) (wl X n fl w) ∧ SZ X n H.size ∧ n ≤ 40 ∧ ∀ q, ¬ AA X q → H[q]? = X.2.2.1.heap[q]?
