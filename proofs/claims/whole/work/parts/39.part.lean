/-! The parts of a mail. -/
def u32 (x : Int32) : Nat := x.toBitVec.toNat
theorem u32_lt (x : Int32) : u32 x ≤ 4294967295 := by
  have := x.toBitVec.isLt
  unfold u32
  omega
theorem u32_ll (x : Int32) : (x.toInt64 &&& 4294967295) = ll (u32 x : Int) := by
  apply Int64.toBitVec_inj.mp
  show BitVec.signExtend 64 x.toBitVec &&& 4294967295#64 = BitVec.ofInt 64 (x.toBitVec.toNat : Int)
  have hx := x.toBitVec.isLt
  generalize x.toBitVec = y at hx ⊢
  apply BitVec.eq_of_getLsbD_eq
  intro i hi
  rw [BitVec.getLsbD_and, BitVec.getLsbD_signExtend]
  have e1 : (4294967295#64).getLsbD i = decide (i < 32) := by
    rw [show (4294967295#64) = BitVec.ofNat 64 (2 ^ 32 - 1) from rfl, BitVec.getLsbD_ofNat, Nat.testBit_two_pow_sub_one]
    simp [hi]
  have e2 : (BitVec.ofInt 64 (y.toNat : Int)).getLsbD i = y.getLsbD i := by
    rw [show BitVec.ofInt 64 (y.toNat : Int) = BitVec.ofNat 64 y.toNat from rfl, BitVec.getLsbD_ofNat]
    simp [hi, BitVec.getLsbD]
  rw [e1, e2]
  by_cases h : i < 32
  · simp [h, hi]
  · simp [h]
    rw [BitVec.getLsbD_of_ge _ _ (by omega)]
def piece (T : List UInt8) (L k : Nat) : List UInt8 := cut T ((k - 1) * L) (min (k * L) T.length)
def partB (n k : Nat) (T : List UInt8) (L : Nat) : List UInt8 := txt 0 ++ decs k ++ txt 1 ++ decs n ++ txt 2 ++ decs (piece T L k).length ++ txt 3 ++ decs (u32 (crc (piece T L k))) ++ [10] ++ piece T L k
/-- MailChain's mail at place a -/
def MaI (M : zM) (a : Nat) (S T : List UInt8) (L n : Nat) : Prop := Rw M (a + 1) S ∧ Rw M (a + 3) T ∧ M.1 a 2 = ii n ∧ M.1 a 3 = ii L ∧ 40 ≤ L ∧ L ≤ 4000 ∧ n ≤ 999 ∧ (n = 0 ∧ T = [] ∨ (n - 1) * L < T.length ∧ T.length ≤ n * L) ∧ ∀ i, i < n → M.1 (a + 5) i = crc (piece T L (i + 1))
theorem MaI.only {S' : List Nat} {M M' : zM} {a : Nat} {S T : List UInt8} {L n : Nat} (h : MaI M a S T L n) (ho : Only S' M M') (hd : ∀ j, j ≤ 5 → a + j ∉ S') : MaI M' a S T L n := by
  obtain ⟨h1, h2, h3, h4, h5, h6, h7, h8, h9⟩ := h
  exact ⟨h1.only ho (hd 1 (by omega)) (hd 2 (by omega)), h2.only ho (hd 3 (by omega)) (hd 4 (by omega)), by rw [ho.1 a (hd 0 (by omega))]; exact h3, by rw [ho.1 a (hd 0 (by omega))]; exact h4, h5, h6, h7, h8, fun i hi => by rw [ho.1 _ (hd 5 (by omega))]; exact h9 i hi⟩
theorem piece_len {T : List UInt8} {L n k : Nat} (hk1 : 1 ≤ k) (hk2 : k ≤ n) (h8 : n = 0 ∧ T = [] ∨ (n - 1) * L < T.length ∧ T.length ≤ n * L) : (k - 1) * L ≤ min (k * L) T.length ∧ min (k * L) T.length - (k - 1) * L ≤ L ∧ (piece T L k).length = min (k * L) T.length - (k - 1) * L := by
  obtain ⟨j, rfl⟩ : ∃ j, k = j + 1 := ⟨k - 1, by omega⟩
  rcases h8 with ⟨h, -⟩ | ⟨h1, h2⟩
  · omega
  · have h3 : j * L ≤ (n - 1) * L := Nat.mul_le_mul_right _ (by omega)
    have h4 : (j + 1) * L = j * L + L := Nat.succ_mul j L
    have h5 : (piece T L (j + 1)).length = min (min ((j + 1) * L) T.length) T.length - (j + 1 - 1) * L := cut_len _ _ _
    rw [Nat.add_sub_cancel] at h5 ⊢
    refine ⟨by omega, by omega, by omega⟩
theorem txl : (txt 0).length = 5 ∧ (txt 1).length = 4 ∧ (txt 2).length = 6 ∧ (txt 3).length = 7 := by decide +kernel
theorem s_Ma_write {M : zM} {a r k n L : Nat} {S T : List UInt8} {post : zM → Prop} (h : MaI M a S T L n) (hk1 : 1 ≤ k) (hk2 : k ≤ n) (hln : ln (a + 5) = 999) (hr : ln (r + 1) = 50000) (hd : ∀ j, j ≤ 5 → a + j ≠ r ∧ a + j ≠ r + 1) (kk : ∀ M', Only [r, r + 1] M M' → Rw M' r (partB n k T L) → post M') : Wp_Ma_write a (ii k) r M post := by
  have keep : ∀ {M'}, Only [r, r + 1] M M' → MaI M' a S T L n := fun ho => h.only ho (fun j hj => by simpa using hd j hj)
  obtain ⟨t0, t1, t2, t3⟩ := txl
  obtain ⟨p1, p2, p3⟩ := piece_len hk1 hk2 h.2.2.2.2.2.2.2.1
  have hL := h.2.2.2.2.2.1
  have hn := h.2.2.2.2.2.2.1
  have hT := h.2.1.len
  have hkL : k * L ≤ 999 * 4000 := Nat.mul_le_mul (by omega) hL
  have hkL1 : (k - 1) * L ≤ 999 * 4000 := Nat.mul_le_mul (by omega) hL
  have d1 := decs_len k
  have d2 := decs_len n
  have d3 := decs_len (piece T L k).length
  have d4 := decs_len (u32 (crc (piece T L k)))
  unfold Wp_Ma_write
  refine s_wipe (fun M1 o1 _ R1 => ?_)
  have o1' : Only [r, r + 1] M M1 := o1.mono (by simp)
  have I1 := keep o1'
  unfold Wp_Ma_has
  rw [I1.2.2.1, show (1 : Int32) = ii 1 from rfl, ii_lt (by omega) (by omega) (by omega) (by omega), ii_lt (by omega) (by omega) (by omega) (by omega)]
  refine ⟨fun c => by omega, fun _ => ⟨fun c => by omega, fun _ => ⟨fun _ => ?_, fun c => absurd c (by decide)⟩⟩⟩
  rintro x4 rfl
  unfold Wp_Ma_pieceEnd
  have e4 : (ii (k : Int) - ii 1) * M1.1 a 3 = ii (((k - 1) * L : Nat) : Int) := by
    rw [I1.2.2.2.1, ii_sub, ii_mul, show ((k : Int) - 1) = ((k - 1 : Nat) : Int) by omega]
    congr 1
  have e6 : (if M1.1 (a + 3) 1 < ii (k : Int) * M1.1 a 3 then M1.1 (a + 3) 1 else ii (k : Int) * M1.1 a 3) = ii ((min (k * L) T.length : Nat) : Int) := by
    rw [I1.2.2.2.1, I1.2.1.1, ii_mul, show ((k : Int) * L) = ((k * L : Nat) : Int) by simp]
    have hlt := ii_lt (a := (T.length : Int)) (b := ((k * L : Nat) : Int)) (by omega) (by omega) (by omega) (by omega)
    by_cases c : (T.length : Int) < ((k * L : Nat) : Int)
    · rw [if_pos (hlt.mpr c)]
      congr 1
      omega
    · rw [if_neg (fun q => c (hlt.mp q))]
      congr 1
      omega
  rw [e4, e6]
  refine s_putText (by decide) R1 (by simp; omega) (fun M2 o2 R2 => ?_)
  rw [ll_of_ii (by omega) (by omega)]
  refine s_putDecimal (by omega) R2 (by simp; omega) (fun M3 o3 R3 => ?_)
  refine s_putText (by decide) R3 (by simp; omega) (fun M4 o4 R4 => ?_)
  have O4 := ((o1'.trans o2).trans o3).trans o4
  rw [(keep O4).2.2.1, ll_of_ii (by omega) (by omega)]
  refine s_putDecimal (by omega) R4 (by simp; omega) (fun M5 o5 R5 => ?_)
  refine s_putText (by decide) R5 (by simp; omega) (fun M6 o6 R6 => ?_)
  rw [ii_sub, show (((min (k * L) T.length : Nat) : Int) - (((k - 1) * L : Nat) : Int)) = (((piece T L k).length : Nat) : Int) by omega, ll_of_ii (by omega) (by omega)]
  refine s_putDecimal (by omega) R6 (by simp; omega) (fun M7 o7 R7 => ?_)
  refine s_putText (by decide) R7 (by simp; omega) (fun M8 o8 R8 => ?_)
  have O8 := (((O4.trans o5).trans o6).trans o7).trans o8
  rw [ii_sub, show ((k : Int) - 1) = ((k - 1 : Nat) : Int) by omega]
  refine ⟨ii_in (by omega) (by omega) (by omega), ?_⟩
  rw [ii_nat (by omega) (by omega), Int.toNat_natCast, (keep O8).2.2.2.2.2.2.2.2 (k - 1) (by omega), show k - 1 + 1 = k by omega, u32_ll]
  refine s_putDecimal (u32_lt _) R8 (by simp; omega) (fun M9 o9 R9 => ?_)
  refine s_put R9 (by simp; omega) (fun M10 o10 R10 => ?_)
  have O10 := (O8.trans o9).trans o10
  refine s_putRange R10 (keep O10).2.1 p1 (by omega) (by simp; omega) (fun M11 o11 R11 => kk M11 (O10.trans o11) ?_)
  have e10 : b8 (10 : Int32) = 10 := rfl
  rw [e10] at R11
  unfold partB
  simpa [piece] using R11
