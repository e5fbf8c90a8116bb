/-- the reference's words -/
def WoI (M : zM) : Prop := Ab M (413 + 3) (txt 0) ∧ Ab M (413 + 4) ((txt 1).drop 1) ∧ Ab M (413 + 5) ((txt 2).drop 1) ∧ Ab M (413 + 6) ((txt 3).drop 1)
theorem WoI.only {F S : List Nat} {M M' : zM} (h : WoI M) (ho : OnlyR F S M M') (h3 : 413 + 3 ∉ S) (h4 : 413 + 4 ∉ S) (h5 : 413 + 5 ∉ S) (h6 : 413 + 6 ∉ S) : WoI M' := by
  have f : ∀ {k : Nat} {bs : List UInt8}, Ab M k bs → k ∉ S → k ≠ 413 → Ab M' k bs := fun ha hk hk2 => ⟨ha.1, fun i hi => by rw [ho.1 _ hk hk2]; exact ha.2 i hi⟩
  exact ⟨f h.1 h3 (by decide), f h.2.1 h4 (by decide), f h.2.2.1 h5 (by decide), f h.2.2.2 h6 (by decide)⟩
theorem txd : txt 1 = 32 :: (txt 1).drop 1 ∧ txt 2 = 32 :: (txt 2).drop 1 ∧ txt 3 = 32 :: (txt 3).drop 1 ∧ ((txt 1).drop 1).length = 3 ∧ ((txt 2).drop 1).length = 5 ∧ ((txt 3).drop 1).length = 6 := by decide +kernel
theorem s_writePart {M : zM} {k n L : Nat} {T : List UInt8} {post : zM → Prop} (hW : WoI M) (h31 : M.1 413 31 = ii n) (h32 : M.1 413 32 = ii L) (hT : Cw M 35 (413 + 26) T) (hL1 : 40 ≤ L) (hL : L ≤ 4000) (hn : n ≤ 999) (h8 : n = 0 ∧ T = [] ∨ (n - 1) * L < T.length ∧ T.length ≤ n * L) (hk1 : 1 ≤ k) (hk2 : k ≤ n) (kk : ∀ M', OnlyR [59] [413 + 37] M M' → Cw M' 59 (413 + 37) (partB n k T L) → post M') : Wp_Mo_writePart 413 (ii k) M post := by
  obtain ⟨t0, t1, t2, t3⟩ := txl
  obtain ⟨x1, x2, x3, y1, y2, y3⟩ := txd
  have l3 : ln (413 + 3) = 5 := by decide +kernel
  have l4 : ln (413 + 4) = 3 := by decide +kernel
  have l5 : ln (413 + 5) = 5 := by decide +kernel
  have l6 : ln (413 + 6) = 6 := by decide +kernel
  have l26 : ln (413 + 26) = 56000 := by decide +kernel
  obtain ⟨p1, p2, p3⟩ := piece_len hk1 hk2 h8
  have hT2 := hT.2.1
  have hkL : k * L ≤ 999 * 4000 := Nat.mul_le_mul (by omega) hL
  have hkL1 : (k - 1) * L ≤ 999 * 4000 := Nat.mul_le_mul (by omega) hL
  have hkk : k * L = (k - 1) * L + L := by
    obtain ⟨j, rfl⟩ : ∃ j, k = j + 1 := ⟨k - 1, by omega⟩
    rw [Nat.add_sub_cancel, Nat.succ_mul]
  have d1 := decs_len k
  have d2 := decs_len n
  have d3 := decs_len (piece T L k).length
  have d4 := decs_len (u32 (crc (piece T L k)))
  unfold Wp_Mo_writePart
  intro K35 K139 h35 h139
  rintro x1' rfl
  have e4 : (ii (k : Int) - 1) * M.1 413 32 = ii (((k - 1) * L : Nat) : Int) := by
    rw [h32, show (1 : Int32) = ii 1 from rfl, ii_sub, ii_mul, show ((k : Int) - 1) = ((k - 1 : Nat) : Int) by omega]
    congr 1
  have main : K35 (ii (((k - 1) * L : Nat) : Int)) (ii (((piece T L k).length : Nat) : Int)) M := by
    refine h35 _ _ _ ?_
    rintro M1 rfl
    have o1 : OnlyR [59] [413 + 37] M (zI M 413 59 0) := OnlyR.rf.fld (by simp)
    have R1 : Cw (zI M 413 59 0) 59 (413 + 37) [] := ⟨by rw [zI_g, if_pos ⟨rfl, rfl⟩]; rfl, by simp, fun i hi => absurd hi (by simp)⟩
    have wk : ∀ {M'}, OnlyR [59] [413 + 37] M M' → WoI M' := fun ho => hW.only ho (by decide) (by decide) (by decide) (by decide)
    refine s_putWord R1 (wk o1).1 (by rw [l3, t0]) (by decide) (by decide) (by simp; omega) (fun M2 o2 R2 => ?_)
    rw [ll_of_ii (by omega) (by omega)]
    refine s_Mo_putDecimal (by omega) R2 (by simp; omega) (fun M3 o3 R3 => ?_)
    refine s_putChar R3 (by simp; omega) (fun M4 o4 R4 => ?_)
    have O4 := ((o1.trans o2).trans o3).trans o4
    refine s_putWord R4 (wk O4).2.1 (by rw [l4, y1]) (by decide) (by decide) (by simp; omega) (fun M5 o5 R5 => ?_)
    have O5 := O4.trans o5
    rw [O5.2.1 31 (by decide), h31, ll_of_ii (by omega) (by omega)]
    refine s_Mo_putDecimal (by omega) R5 (by simp; omega) (fun M6 o6 R6 => ?_)
    refine s_putChar R6 (by simp; omega) (fun M7 o7 R7 => ?_)
    have O7 := (O5.trans o6).trans o7
    refine s_putWord R7 (wk O7).2.2.1 (by rw [l5, y2]) (by decide) (by decide) (by simp; omega) (fun M8 o8 R8 => ?_)
    rw [ll_of_ii (by omega) (by omega)]
    refine s_Mo_putDecimal (by omega) R8 (by simp; omega) (fun M9 o9 R9 => ?_)
    refine s_putChar R9 (by simp; omega) (fun M10 o10 R10 => ?_)
    have O10 := ((O7.trans o8).trans o9).trans o10
    refine s_putWord R10 (wk O10).2.2.2 (by rw [l6, y3]) (by decide) (by decide) (by simp; omega) (fun M11 o11 R11 => ?_)
    have O11 := O10.trans o11
    have pc : ∀ {M'}, OnlyR [59] [413 + 37] M M' → ∀ (i : Nat) (hi : i < (piece T L k).length), M'.1 (413 + 26) ((k - 1) * L + i) = sb (piece T L k)[i] := fun ho i hi => by
      rw [ho.1 (413 + 26) (by decide) (by decide), hT.2.2 _ (by omega)]
      congr 1
      simp only [piece, cut, List.getElem_drop, List.getElem_take]
    refine s_sumOf (bs := piece T L k) (by omega) (pc O11) ?_
    rw [u32_ll]
    refine s_Mo_putDecimal (u32_lt _) R11 (by simp; omega) (fun M12 o12 R12 => ?_)
    refine s_putChar R12 (by simp; omega) (fun M13 o13 R13 => ?_)
    have O13 := (O11.trans o12).trans o13
    have e10 : b8 (10 : Int32) = 10 := rfl
    have e32 : b8 (32 : Int32) = 32 := rfl
    rw [e10, e32] at R13
    suffices H : ∀ (m i : Nat) (M1 : zM) (o : List UInt8), i + m = (piece T L k).length → OnlyR [59] [413 + 37] M M1 → Cw M1 59 (413 + 37) o → o ++ (piece T L k).drop i = partB n k T L → K139 (ii (((k - 1) * L : Nat) : Int)) (ii (((piece T L k).length : Nat) : Int)) (ii (i : Int)) M1 by
      refine H (piece T L k).length 0 M13 _ (by omega) O13 R13 ?_
      unfold partB
      rw [x1, x2, x3]
      simp
    have hpl : (partB n k T L).length ≤ 4100 := by
      unfold partB
      simp
      omega
    intro m
    induction m with
    | zero =>
      intro i M1 o hi ho hR he
      have ei : i = (piece T L k).length := by omega
      rw [List.drop_eq_nil_of_le (by omega), List.append_nil] at he
      rw [he] at hR
      refine h139 _ _ _ _ ⟨fun _ => kk M1 ho hR, fun c => absurd (by rw [ii_le (by omega) (by omega) (by omega) (by omega)]; omega) c⟩
    | succ m ih =>
      intro i M1 o hi ho hR he
      have hi2 : i < (piece T L k).length := by omega
      have hol := congrArg List.length he
      simp only [List.length_append, List.length_drop] at hol
      refine h139 _ _ _ _ ⟨fun c => ?_, fun _ => ⟨?_, ?_⟩⟩
      · rw [ii_le (by omega) (by omega) (by omega) (by omega)] at c
        omega
      · rw [ii_add]
        exact ii_in (by omega) (by omega) (by omega)
      · rw [ii_add, ii_nat (by omega) (by omega), show ((((k - 1) * L : Nat) : Int) + i).toNat = (k - 1) * L + i by omega, pc ho i hi2]
        refine s_putChar hR (by omega) (fun M2 o2 R2 => ?_)
        rintro x rfl
        rw [show (1 : Int32) = ii 1 from rfl, ii_add]
        refine ih (i + 1) M2 _ (by omega) (ho.trans o2) R2 ?_
        rw [← he, b8_sb, List.drop_eq_getElem_cons hi2]
        simp
  rw [e4, h32, hT.1, ii_sub, ii_le (by omega) (by omega) (by omega) (by omega)]
  refine ⟨fun c => ?_, fun c => ?_⟩
  · have el : (piece T L k).length = L := by omega
    rw [el] at main
    exact main
  · rw [show ((T.length : Int) - (((k - 1) * L : Nat) : Int)) = (((piece T L k).length : Nat) : Int) by omega]
    exact main
