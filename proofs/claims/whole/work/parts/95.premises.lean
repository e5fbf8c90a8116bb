/-! At the law's entry: what the tables and the premises say. -/
def nrL : List Cond := flatC (Jvm.Cond.and given_1 narrow_1)
theorem nr_p (ws : List Cond) (ps : List Nat) (hp : ws = ps.filterMap (fun i => nrL[i]?)) : ∀ w ∈ ws, w ∈ nrL := by
  intro w hw
  rw [hp] at hw
  obtain ⟨i, -, hi⟩ := List.mem_filterMap.mp hw
  exact List.mem_of_getElem? hi
theorem tl_p (ws : List Cond) (ps : List Nat) (hp : ws = ps.filterMap (fun i => tables_1[i]?)) : ∀ w ∈ ws, w ∈ lw_tbl := by
  intro w hw
  rw [hp] at hw
  obtain ⟨i, -, hi⟩ := List.mem_filterMap.mp hw
  exact List.mem_append_right _ (List.mem_of_getElem? hi)
def stm (i : Nat) : Term := .string (strOwn i) (strIx i)
def stv (i : Nat) : Term := .field (stm i) "java/lang/String" "value" "[B"
def rmT : Term := .static "MailChain$Row" "REMAINDERS" "[I"
theorem nr_ex : ∀ i, i < 9 → Cond.exactly (stm i) "java/lang/String" ∈ nrL := fun i hi => nr_p ((List.range 9).map (fun i => Cond.exactly (stm i) "java/lang/String")) [299, 308, 317, 329, 343, 366, 491, 592, 620] (by decide +kernel) _ (List.mem_map.mpr ⟨i, List.mem_range.mpr hi, rfl⟩)
theorem nr_co : ∀ i, i < 9 → Cond.eq (.field (stm i) "java/lang/String" "coder" "B") (.int 0) ∈ nrL := fun i hi => nr_p ((List.range 9).map (fun i => Cond.eq (.field (stm i) "java/lang/String" "coder" "B") (.int 0))) [300, 309, 318, 330, 344, 367, 492, 593, 621] (by decide +kernel) _ (List.mem_map.mpr ⟨i, List.mem_range.mpr hi, rfl⟩)
theorem nr_ar : ∀ i, i < 9 → Cond.arrayOf (stv i) .byte ∈ nrL := fun i hi => nr_p ((List.range 9).map (fun i => Cond.arrayOf (stv i) .byte)) [301, 310, 319, 331, 345, 368, 493, 594, 622] (by decide +kernel) _ (List.mem_map.mpr ⟨i, List.mem_range.mpr hi, rfl⟩)
theorem nr_le : ∀ i, i < 9 → Cond.eq (.length (stv i)) (.int (Int32.ofNat (strLen.getD i 0))) ∈ nrL := fun i hi => nr_p ((List.range 9).map (fun i => Cond.eq (.length (stv i)) (.int (Int32.ofNat (strLen.getD i 0))))) [302, 311, 320, 332, 346, 369, 494, 595, 623] (by decide +kernel) _ (List.mem_map.mpr ⟨i, List.mem_range.mpr hi, rfl⟩)
theorem nr_el : ∀ i, i < 9 → ∀ j, j < strLen.getD i 0 → Cond.eq (.elem (stv i) (.int (Int32.ofNat j))) (.int ((strByt.getD i []).getD j 0)) ∈ nrL := fun i hi j hj => nr_p ((List.range 9).flatMap (fun i => (List.range (strLen.getD i 0)).map (fun j => Cond.eq (.elem (stv i) (.int (Int32.ofNat j))) (.int ((strByt.getD i []).getD j 0))))) [303, 304, 305, 306, 307, 312, 313, 314, 315, 321, 322, 323, 324, 325, 326, 333, 334, 335, 336, 337, 338, 339, 347, 348, 349, 350, 351, 352, 353, 354, 355, 356, 357, 358, 359, 360, 361, 370, 371, 372, 373, 495, 496, 497, 498, 499, 500, 501, 502, 503, 504, 505, 506, 507, 508, 509, 510, 511, 512, 513, 514, 515, 516, 517, 518, 519, 520, 521, 522, 523, 524, 525, 526, 527, 528, 529, 530, 531, 532, 533, 534, 535, 536, 537, 538, 539, 540, 541, 542, 543, 544, 545, 546, 547, 548, 549, 550, 551, 552, 553, 554, 555, 556, 557, 558, 559, 560, 561, 562, 563, 564, 565, 566, 567, 568, 569, 570, 571, 572, 573, 574, 575, 576, 577, 578, 579, 580, 596, 597, 598, 599, 600, 601, 602, 603, 604, 605, 606, 607, 624, 625, 626, 627, 628, 629] (by decide +kernel) _ (List.mem_flatMap.mpr ⟨i, List.mem_range.mpr hi, List.mem_map.mpr ⟨j, List.mem_range.mpr hj, rfl⟩⟩)
def prL : List (Nat × Nat) := [(0, 1), (0, 2), (0, 3), (0, 4), (0, 5), (0, 6), (0, 7), (0, 8), (1, 2), (1, 3), (1, 4), (1, 5), (1, 6), (1, 7), (1, 8), (2, 3), (2, 4), (2, 5), (2, 6), (2, 7), (2, 8), (3, 4), (3, 5), (3, 6), (3, 7), (3, 8), (4, 5), (4, 6), (4, 7), (4, 8), (5, 6), (5, 7), (5, 8), (6, 7), (6, 8), (7, 8)]
theorem nr_ne : ∀ q ∈ prL, Cond.not (Cond.eq (stm q.1) (stm q.2)) ∈ nrL := fun q hq => nr_p (prL.map (fun q => Cond.not (Cond.eq (stm q.1) (stm q.2)))) [316, 327, 340, 362, 374, 581, 608, 630, 328, 341, 363, 375, 582, 609, 631, 342, 364, 376, 583, 610, 632, 365, 377, 584, 611, 633, 378, 585, 612, 634, 586, 613, 635, 619, 641, 642] (by decide +kernel) _ (List.mem_map.mpr ⟨q, hq, rfl⟩)
theorem prL_all : ∀ i, i < 9 → ∀ j, j < 9 → i ≠ j → (i, j) ∈ prL ∨ (j, i) ∈ prL := by
  have h : (List.range 9).all (fun i => (List.range 9).all (fun j => decide (i = j) || (decide ((i, j) ∈ prL) || decide ((j, i) ∈ prL)))) = true := by decide +kernel
  intro i hi j hj hn
  have h2 := List.all_eq_true.mp (List.all_eq_true.mp h i (List.mem_range.mpr hi)) j (List.mem_range.mpr hj)
  simp only [Bool.or_eq_true, decide_eq_true_eq] at h2
  rcases h2 with q | q
  · exact absurd q hn
  · exact q
theorem nr_eq : ∀ i, i < 4 → Cond.eq (stm i) (stm (9 + i)) ∈ nrL := fun i hi => nr_p ((List.range 4).map (fun i => Cond.eq (stm i) (stm (9 + i)))) [652, 675, 701, 729] (by decide +kernel) _ (List.mem_map.mpr ⟨i, List.mem_range.mpr hi, rfl⟩)
theorem nr_rm : ∀ j, j < 16 → Cond.eq (.elem rmT (.int (Int32.ofNat j))) (.int (remL.getD j 0)) ∈ nrL := fun j hj => nr_p ((List.range 16).map (fun j => Cond.eq (.elem rmT (.int (Int32.ofNat j))) (.int (remL.getD j 0)))) [7, 8, 9, 10, 11, 12, 13, 14, 15, 16, 17, 18, 19, 20, 21, 22] (by decide +kernel) _ (List.mem_map.mpr ⟨j, List.mem_range.mpr hj, rfl⟩)
def nr7 : List Cond := [Cond.arrayOf rmT .int, Cond.eq (.length rmT) (.int 16), Cond.eq (.static "java/lang/String" "COMPACT_STRINGS" "Z") (.int 1), Cond.isRef (.static "java/lang/Throwable" "UNASSIGNED_STACK" "[Ljava/lang/StackTraceElement;"), Cond.isRef (.static "java/lang/Throwable" "SUPPRESSED_SENTINEL" "Ljava/util/List;"), Cond.isRef (.static "jdk/internal/util/Preconditions" "SIOOBE_FORMATTER" "Ljava/util/function/BiFunction;")]
theorem nr_7 : ∀ w ∈ nr7, w ∈ nrL := nr_p nr7 [5, 6, 23, 28, 29, 24] (by decide +kernel)
theorem nr_nc : ∀ q ∈ neL, Cond.not (.castable (exN q.1) (exN q.2)) ∈ nrL := fun q hq => nr_p (neL.map (fun q => Cond.not (.castable (exN q.1) (exN q.2)))) [246, 248, 279, 294, 296, 295, 247] (by decide +kernel) _ (List.mem_map.mpr ⟨q, hq, rfl⟩)
theorem tl_sr : ∀ i, i < 13 → Cond.stringRef (strOwn i) (strIx i) (strTx i) ∈ lw_tbl := fun i hi => tl_p ((List.range 13).map (fun i => Cond.stringRef (strOwn i) (strIx i) (strTx i))) [389, 455, 456, 458, 502, 535, 923, 1029, 1035, 1182, 1189, 1190, 1191] (by decide +kernel) _ (List.mem_map.mpr ⟨i, List.mem_range.mpr hi, rfl⟩)
theorem tl_nf : ∀ q ∈ nestF, Cond.fieldLinkNest q.1 q.2.1 q.2.2.1 q.2.2.2.1 q.2.2.2.2.1 q.2.2.2.2.2 ∈ lw_tbl := fun q hq => tl_p (nestF.map (fun q => Cond.fieldLinkNest q.1 q.2.1 q.2.2.1 q.2.2.2.1 q.2.2.2.2.1 q.2.2.2.2.2)) [48, 49, 50, 51, 52, 53, 54, 55, 56, 79, 80, 81, 83, 84, 85, 87, 88, 89, 91, 92, 93, 95, 96, 97, 99, 100, 101, 103, 104, 106, 107, 109, 132, 134, 136, 137] (by decide +kernel) _ (List.mem_map.mpr ⟨q, hq, rfl⟩)
theorem tl_nm : ∀ q ∈ nestM, Cond.methodLinkNest q.1 q.2.1 q.2.2.1 q.2.2.2 ∈ lw_tbl := fun q hq => tl_p (nestM.map (fun q => Cond.methodLinkNest q.1 q.2.1 q.2.2.1 q.2.2.2)) [191, 550] (by decide +kernel) _ (List.mem_map.mpr ⟨q, hq, rfl⟩)
theorem tl_ca : ∀ k, 1 ≤ k → k ≤ 4 → Cond.castable (exN k) (exN k) ∈ lw_tbl := fun k h1 h2 => tl_p ((List.range 4).map (fun k => Cond.castable (exN (k + 1)) (exN (k + 1)))) [599, 1065, 1119, 1104] (by decide +kernel) _ (List.mem_map.mpr ⟨k - 1, List.mem_range.mpr (by omega), by rw [show k - 1 + 1 = k by omega]⟩)
theorem tl_de : ∀ q ∈ chainL, Cond.declares ⟨q, "<init>", "()V"⟩ ∈ lw_tbl := fun q hq => tl_p (chainL.map (fun q => Cond.declares ⟨q, "<init>", "()V"⟩)) [600, 602, 604] (by decide +kernel) _ (List.mem_map.mpr ⟨q, hq, rfl⟩)
def tl9 : List Cond := [Cond.laysStatic "MailChain$Row" "REMAINDERS" "[I", Cond.initialized "MailChain$Row", Cond.laysStatic "java/lang/String" "COMPACT_STRINGS" "Z", Cond.initialized "java/lang/String", Cond.laysStatic "java/lang/Throwable" "UNASSIGNED_STACK" "[Ljava/lang/StackTraceElement;", Cond.laysStatic "java/lang/Throwable" "SUPPRESSED_SENTINEL" "Ljava/util/List;", Cond.initialized "java/lang/Throwable", Cond.laysStatic "jdk/internal/util/Preconditions" "SIOOBE_FORMATTER" "Ljava/util/function/BiFunction;", Cond.initialized "jdk/internal/util/Preconditions", Cond.arrayOver (.object "MailChain$Entry")]
theorem tl_9 : ∀ w ∈ tl9, w ∈ lw_tbl := tl_p tl9 [375, 2, 408, 21, 624, 626, 12, 424, 23, 70] (by decide +kernel)
