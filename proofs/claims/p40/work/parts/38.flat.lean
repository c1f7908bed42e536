/-! the law's start: the world that stands there -/
theorem ins_ok : ∀ ci, ci < 6 → Cond.instantiable (cC ci).1 (cC ci).2.2 ∈ lw_tbl := fun ci h => match ci, h with
  | 0, _ => List.mem_of_getElem? (i := 257) (by decide +kernel)
  | 1, _ => List.mem_of_getElem? (i := 220) (by decide +kernel)
  | 2, _ => List.mem_of_getElem? (i := 307) (by decide +kernel)
  | 3, _ => List.mem_of_getElem? (i := 199) (by decide +kernel)
  | 4, _ => List.mem_of_getElem? (i := 191) (by decide +kernel)
  | 5, _ => List.mem_of_getElem? (i := 191) (by decide +kernel)
  | n + 6, h => absurd h (by omega)
def tmS (i : Nat) : Term := Term.string (strA.getD i ("", 0, "", 0)).1 (strA.getD i ("", 0, "", 0)).2.1
abbrev gvC : Cond := Jvm.Cond.and given_1 narrow_1
theorem mem_p {c : Cond} {k : Nat} (h : (flatC gvC)[k]? = some c) : c ∈ flatC gvC := List.mem_of_getElem? h
def pex : List Nat := [318, 333, 350, 368, 384, 402, 421, 443, 466, 489, 513, 538, 215, 230, 253, 266, 275, 290, 306]
def pco : List Nat := [319, 334, 351, 369, 385, 403, 422, 444, 467, 490, 514, 539, 216, 231, 254, 267, 276, 291, 307]
def par : List Nat := [320, 335, 352, 370, 386, 404, 423, 445, 468, 491, 515, 540, 217, 232, 255, 268, 277, 292, 308]
def ple : List Nat := [321, 336, 353, 371, 387, 405, 424, 446, 469, 492, 516, 541, 218, 233, 256, 269, 278, 293, 309]
def pel : List Nat := [322, 337, 354, 372, 388, 406, 425, 447, 470, 493, 517, 542, 219, 234, 257, 270, 279, 294, 310]
def pne : List (List Nat) := [[0, 349, 366, 381, 398, 416, 437, 459, 481, 504, 528, 553, 326, 327, 328, 329, 330, 331, 332], [349, 0, 367, 382, 399, 417, 438, 460, 482, 505, 529, 554, 342, 343, 344, 345, 346, 347, 348], [366, 367, 0, 383, 400, 418, 439, 461, 483, 506, 530, 555, 359, 360, 361, 362, 363, 364, 365], [381, 382, 383, 0, 401, 419, 440, 462, 484, 507, 531, 556, 374, 375, 376, 377, 378, 379, 380], [398, 399, 400, 401, 0, 420, 441, 463, 485, 508, 532, 557, 391, 392, 393, 394, 395, 396, 397], [416, 417, 418, 419, 420, 0, 442, 464, 486, 509, 533, 558, 409, 410, 411, 412, 413, 414, 415], [437, 438, 439, 440, 441, 442, 0, 465, 487, 510, 534, 559, 430, 431, 432, 433, 434, 435, 436], [459, 460, 461, 462, 463, 464, 465, 0, 488, 511, 535, 560, 452, 453, 454, 455, 456, 457, 458], [481, 482, 483, 484, 485, 486, 487, 488, 0, 512, 536, 561, 474, 475, 476, 477, 478, 479, 480], [504, 505, 506, 507, 508, 509, 510, 511, 512, 0, 537, 562, 497, 498, 499, 500, 501, 502, 503], [528, 529, 530, 531, 532, 533, 534, 535, 536, 537, 0, 563, 521, 522, 523, 524, 525, 526, 527], [553, 554, 555, 556, 557, 558, 559, 560, 561, 562, 563, 0, 546, 547, 548, 549, 550, 551, 552], [326, 342, 359, 374, 391, 409, 430, 452, 474, 497, 521, 546, 0, 252, 264, 272, 286, 301, 312], [327, 343, 360, 375, 392, 410, 431, 453, 475, 498, 522, 547, 252, 0, 265, 273, 287, 302, 313], [328, 344, 361, 376, 393, 411, 432, 454, 476, 499, 523, 548, 264, 265, 0, 274, 288, 303, 314], [329, 345, 362, 377, 394, 412, 433, 455, 477, 500, 524, 549, 272, 273, 274, 0, 289, 304, 315], [330, 346, 363, 378, 395, 413, 434, 456, 478, 501, 525, 550, 286, 287, 288, 289, 0, 305, 316], [331, 347, 364, 379, 396, 414, 435, 457, 479, 502, 526, 551, 301, 302, 303, 304, 305, 0, 317], [332, 348, 365, 380, 397, 415, 436, 458, 480, 503, 527, 552, 312, 313, 314, 315, 316, 317, 0]]
theorem tm_ex0 : ∀ i, i < 19 → (flatC gvC)[pex.getD i 0]? = some (Cond.exactly (tmS i) "java/lang/String") := by decide +kernel
theorem tm_ex (i : Nat) (h : i < 19) : Cond.exactly (tmS i) "java/lang/String" ∈ flatC gvC := mem_p (tm_ex0 i h)
theorem tm_co0 : ∀ i, i < 19 → (flatC gvC)[pco.getD i 0]? = some (Cond.eq (.field (tmS i) "java/lang/String" "coder" "B") (.int 0)) := by decide +kernel
theorem tm_co (i : Nat) (h : i < 19) : Cond.eq (.field (tmS i) "java/lang/String" "coder" "B") (.int 0) ∈ flatC gvC := mem_p (tm_co0 i h)
theorem tm_ar0 : ∀ i, i < 19 → (flatC gvC)[par.getD i 0]? = some (Cond.arrayOf (.field (tmS i) "java/lang/String" "value" "[B") .byte) := by decide +kernel
theorem tm_ar (i : Nat) (h : i < 19) : Cond.arrayOf (.field (tmS i) "java/lang/String" "value" "[B") .byte ∈ flatC gvC := mem_p (tm_ar0 i h)
theorem tm_le0 : ∀ i, i < 19 → (flatC gvC)[ple.getD i 0]? = some (Cond.eq (.length (.field (tmS i) "java/lang/String" "value" "[B")) (.int (Int32.ofNat (lenS.getD i 0)))) := by decide +kernel
theorem tm_le (i : Nat) (h : i < 19) : Cond.eq (.length (.field (tmS i) "java/lang/String" "value" "[B")) (.int (Int32.ofNat (lenS.getD i 0))) ∈ flatC gvC := mem_p (tm_le0 i h)
theorem tm_el0 : ∀ i, i < 19 → ∀ j, j < lenS.getD i 0 → (flatC gvC)[pel.getD i 0 + j]? = some (Cond.eq (.elem (.field (tmS i) "java/lang/String" "value" "[B") (.int (Int32.ofNat j))) (.int ((bytS.getD i []).getD j 0))) := by decide +kernel
theorem tm_el (i : Nat) (h : i < 19) (j : Nat) (hj : j < lenS.getD i 0) : Cond.eq (.elem (.field (tmS i) "java/lang/String" "value" "[B") (.int (Int32.ofNat j))) (.int ((bytS.getD i []).getD j 0)) ∈ flatC gvC := mem_p (tm_el0 i h j hj)
theorem tm_ne0 : ∀ i, i < 19 → ∀ j, j < 19 → i ≠ j → (flatC gvC)[(pne.getD i []).getD j 0]? = some (Cond.not (Cond.eq (tmS i) (tmS j))) ∨ (flatC gvC)[(pne.getD i []).getD j 0]? = some (Cond.not (Cond.eq (tmS j) (tmS i))) := by decide +kernel
theorem tm_ne (i : Nat) (hi : i < 19) (j : Nat) (hj : j < 19) (h : i ≠ j) : Cond.not (Cond.eq (tmS i) (tmS j)) ∈ flatC gvC ∨ Cond.not (Cond.eq (tmS j) (tmS i)) ∈ flatC gvC := (tm_ne0 i hi j hj h).imp mem_p mem_p
theorem dg_O0 : ∀ j, j < 100 → (flatC gvC)[12 + j]? = some (Cond.eq (.elem (.static "java/lang/Integer" "DigitOnes" "[B") (.int (Int32.ofNat j))) (.int (dgO j))) := by decide +kernel
theorem dg_O (j : Nat) (h : j < 100) : Cond.eq (.elem (.static "java/lang/Integer" "DigitOnes" "[B") (.int (Int32.ofNat j))) (.int (dgO j)) ∈ flatC gvC := mem_p (dg_O0 j h)
theorem dg_T0 : ∀ j, j < 100 → (flatC gvC)[115 + j]? = some (Cond.eq (.elem (.static "java/lang/Integer" "DigitTens" "[B") (.int (Int32.ofNat j))) (.int (dgT j))) := by decide +kernel
theorem dg_T (j : Nat) (h : j < 100) : Cond.eq (.elem (.static "java/lang/Integer" "DigitTens" "[B") (.int (Int32.ofNat j))) (.int (dgT j)) ∈ flatC gvC := mem_p (dg_T0 j h)
