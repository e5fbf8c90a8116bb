/-! The checksum: four steps of one bit are one look into the table. -/
def bst (x : BitVec 32) : BitVec 32 := if x.msb then (x <<< 1) ^^^ 79764919#32 else x <<< 1
theorem bst_xor (a b : BitVec 32) : bst (a ^^^ b) = bst a ^^^ bst b := by
  unfold bst
  rw [BitVec.msb_xor, BitVec.shiftLeft_xor_distrib]
  cases a.msb <;> cases b.msb <;> simp [BitVec.xor_assoc]
  · rw [BitVec.xor_comm (79764919#32)]
  · rw [← BitVec.xor_assoc (79764919#32), BitVec.xor_comm (79764919#32) (b <<< 1), BitVec.xor_assoc, BitVec.xor_self]
    simp
theorem bst_lo {x : BitVec 32} (h : x.toNat < 2147483648) : bst x = x <<< 1 := by
  unfold bst
  rw [if_neg]
  rw [BitVec.msb_eq_decide]
  simp
  exact h
theorem bst4_lo {x : BitVec 32} (h : x.toNat < 268435456) : bst (bst (bst (bst x))) = x <<< 4 := by
  have e1 : (x <<< 1).toNat = x.toNat * 2 := by rw [BitVec.toNat_shiftLeft, Nat.shiftLeft_eq, Nat.mod_eq_of_lt (by omega)]
  have e2 : (x <<< 2).toNat = x.toNat * 4 := by rw [BitVec.toNat_shiftLeft, Nat.shiftLeft_eq, Nat.mod_eq_of_lt (by omega)]
  have e3 : (x <<< 3).toNat = x.toNat * 8 := by rw [BitVec.toNat_shiftLeft, Nat.shiftLeft_eq, Nat.mod_eq_of_lt (by omega)]
  rw [bst_lo (x := x) (by omega), bst_lo (x := x <<< 1) (by omega), ← BitVec.shiftLeft_add, bst_lo (x := x <<< (1 + 1)) (by show (x <<< 2).toNat < _; omega), ← BitVec.shiftLeft_add, bst_lo (x := x <<< (1 + 1 + 1)) (by show (x <<< 3).toNat < _; omega), ← BitVec.shiftLeft_add]
theorem bst4_hi : ∀ h : Fin 16, bst (bst (bst (bst (BitVec.ofNat 32 h.val <<< 28)))) = (remL.getD h.val 0).toBitVec := by decide +kernel
theorem bv_split (x : BitVec 32) : x = (BitVec.ofNat 32 (x.toNat / 268435456) <<< 28) ^^^ BitVec.ofNat 32 (x.toNat % 268435456) := by
  apply BitVec.eq_of_getLsbD_eq
  intro i hi
  have hx := x.isLt
  rw [BitVec.getLsbD_xor, BitVec.getLsbD_shiftLeft, BitVec.getLsbD_ofNat, BitVec.getLsbD_ofNat]
  rw [show (268435456 : Nat) = 2 ^ 28 from rfl, Nat.testBit_mod_two_pow, Nat.testBit_div_two_pow]
  show x.toNat.testBit i = _
  by_cases h : i < 28
  · simp [h, hi]
  · simp [h, hi]
    have e : 28 + (i - 28) = i := by omega
    have e2 : i - 28 + 28 = i := by omega
    simp [e, e2]
    omega
theorem bst4 (x : BitVec 32) : bst (bst (bst (bst x))) = (x <<< 4) ^^^ (remL.getD (x.toNat / 268435456) 0).toBitVec := by
  have hx := x.isLt
  have hq : x.toNat / 268435456 < 16 := by omega
  have hlo : (BitVec.ofNat 32 (x.toNat % 268435456)).toNat < 268435456 := by
    rw [BitVec.toNat_ofNat]
    omega
  have e : x <<< 4 = (BitVec.ofNat 32 (x.toNat % 268435456)) <<< 4 := by
    apply BitVec.eq_of_toNat_eq
    rw [BitVec.toNat_shiftLeft, BitVec.toNat_shiftLeft, BitVec.toNat_ofNat, Nat.shiftLeft_eq, Nat.shiftLeft_eq]
    omega
  have h1 : bst (bst (bst (bst x))) = bst (bst (bst (bst ((BitVec.ofNat 32 (x.toNat / 268435456) <<< 28) ^^^ BitVec.ofNat 32 (x.toNat % 268435456))))) := congrArg (fun y => bst (bst (bst (bst y)))) (bv_split x)
  rw [h1, bst_xor, bst_xor, bst_xor, bst_xor, bst4_hi ⟨_, hq⟩, bst4_lo hlo, e, BitVec.xor_comm]
/-- a step of one bit -/
def st1 (x : Int32) : Int32 := if 0 ≤ x then x <<< (1 &&& 31) else (x <<< (1 &&& 31)) ^^^ 79764919
/-- a look into the table -/
def dv1 (x : Int32) : Int32 := (x <<< (4 &&& 31)) ^^^ (remL.getD ((x.toUInt32 >>> (((28 : Int32)).toUInt32 &&& Int32.toUInt32 31)).toInt32).toNatClampNeg 0)
def dv (s v : Int32) : Int32 := dv1 (dv1 (s ^^^ (v <<< (24 &&& 31))))
theorem ii_sft (x : Int32) {b : Nat} (h : b ≤ 31) : (x <<< ii (b : Int)).toBitVec = x.toBitVec <<< b := by
  rw [Int32.toBitVec_shiftLeft, BitVec.shiftLeft_eq', ii_sm h]
theorem st1_bv (x : Int32) : (st1 x).toBitVec = bst x.toBitVec := by
  unfold st1 bst
  have hm : (0 ≤ x) ↔ ¬ x.toBitVec.msb = true := by
    rw [Int32.le_iff_toInt_le, BitVec.msb_eq_toInt]
    show (0 : Int) ≤ x.toBitVec.toInt ↔ _
    simp
  rw [show ((1 : Int32) &&& 31) = ii ((1 : Nat) : Int) from rfl]
  by_cases h : 0 ≤ x
  · rw [if_pos h, if_neg (hm.mp h), ii_sft x (by decide)]
  · rw [if_neg h, if_pos (by simpa using mt hm.mpr h)]
    show (x <<< ii ((1 : Nat) : Int)).toBitVec ^^^ _ = _
    rw [ii_sft x (by decide)]
    rfl
theorem top4 (x : Int32) : ((x.toUInt32 >>> (((28 : Int32)).toUInt32 &&& Int32.toUInt32 31)).toInt32) = ii ((x.toBitVec.toNat / 268435456 : Nat) : Int) := by
  have h := ii_ushr (a := x.toInt) (b := 28) (by decide)
  rw [ii_of] at h
  rw [show (28 : Int32) = ii ((28 : Nat) : Int) from rfl, h]
  congr 1
  have e : x.toInt % 4294967296 = (x.toBitVec.toNat : Int) := by
    show x.toBitVec.toInt % 4294967296 = _
    rw [BitVec.toInt_eq_toNat_cond]
    have := x.toBitVec.isLt
    split <;> omega
  rw [e]
  rfl
theorem top4_in (x : Int32) : vp_in ((x.toUInt32 >>> (((28 : Int32)).toUInt32 &&& Int32.toUInt32 31)).toInt32) 16 := by
  have := x.toBitVec.isLt
  rw [top4]
  exact ii_in (by omega) (by omega) (by omega)
theorem step4 (x : Int32) : st1 (st1 (st1 (st1 x))) = dv1 x := by
  apply ii_ext
  have := x.toBitVec.isLt
  rw [st1_bv, st1_bv, st1_bv, st1_bv, bst4]
  unfold dv1
  rw [top4, ii_nat (by omega) (by omega), Int.toNat_natCast, show ((4 : Int32) &&& 31) = ii ((4 : Nat) : Int) from rfl]
  show _ = (x <<< ii ((4 : Nat) : Int)).toBitVec ^^^ _
  rw [ii_sft x (by decide)]
section CRC
variable {M : zM} {r : Nat} {bs : List UInt8}
theorem s_divide {s v : Int32} {post : Int32 → zM → Prop} (k : post (dv s v) M) : Wp_Ro_divide s v M post := by
  unfold Wp_Ro_divide
  rintro x1 rfl
  refine ⟨top4_in _, ?_⟩
  rintro x2 rfl
  exact ⟨top4_in _, k⟩
theorem s_step {s v : Int32} {post : Int32 → zM → Prop} (k : post (dv s v) M) : Wp_Mo_step s v M post := by
  unfold Wp_Mo_step
  intro K hK
  rintro x1 rfl
  have key : ∀ (n : Nat) (y : Int32), n < 8 → K (st1 y) (ii ((n + 1 : Nat) : Int)) M → K y (ii (n : Int)) M := by
    intro n y hn hk
    refine hK _ _ _ ⟨fun q => ?_, fun _ => ?_⟩
    · rw [show (8 : Int32) = ii 8 from rfl, ii_le (by omega) (by omega) (by omega) (by omega)] at q
      omega
    · unfold st1 at hk
      refine ⟨fun q => ?_, fun q => ?_⟩
      · rintro x2 rfl x3 rfl
        rw [if_pos q] at hk
        rw [show (1 : Int32) = ii 1 from rfl, ii_add]
        exact hk
      · rintro x2 rfl x3 rfl
        rw [if_neg q] at hk
        rw [show (ii (n : Int) + 1) = ii ((n + 1 : Nat) : Int) by rw [show (1 : Int32) = ii 1 from rfl, ii_add]; rfl]
        exact hk
  have fin : K (dv s v) (ii ((8 : Nat) : Int)) M := hK _ _ _ ⟨fun _ => k, fun q => absurd (by decide) q⟩
  unfold dv at fin
  rw [← step4, ← step4] at fin
  exact key 0 _ (by decide) (key 1 _ (by decide) (key 2 _ (by decide) (key 3 _ (by decide) (key 4 _ (by decide) (key 5 _ (by decide) (key 6 _ (by decide) (key 7 _ (by decide) fin)))))))
end CRC
/-- the length's bytes, the lowest first -/
def crcN : Nat → Int32 → Nat → Int32
  | 0, s, _ => s
  | f + 1, s, n => if n = 0 then s else crcN f (dv s (ii n)) (n / 256)
def crc (bs : List UInt8) : Int32 := crcN 5 (bs.foldl (fun s b => dv s (ii b.toNat)) 0) bs.length ^^^ (-1)
theorem dv_mask (s : Int32) (n : Nat) : dv s (ii n &&& 255) = dv s (ii n) := by
  unfold dv
  refine congrArg (fun y => dv1 (dv1 (s ^^^ y))) ?_
  have h := ii_mask (n : Int) 8 (by decide)
  rw [show (2 ^ 8 - 1 : Int) = 255 from rfl] at h
  rw [show (255 : Int32) = ii 255 from rfl, h, show ((24 : Int32) &&& 31) = ii ((24 : Nat) : Int) from rfl, ii_shl _ (by decide), ii_shl _ (by decide)]
  apply ii_mod_eq
  rw [show ((2 : Int) ^ 8) = 256 from rfl, show ((2 : Int) ^ 24) = 16777216 from rfl]
  omega
section CRC2
variable {M : zM} {r : Nat} {bs : List UInt8}
theorem s_sum {st e : Nat} {post : Int32 → zM → Prop} (h : Rw M r bs) (hse : st ≤ e) (he : e ≤ bs.length) (k : post (crc (cut bs st e)) M) : Wp_Ro_sum r (ii st) (ii e) M post := by
  have hl := h.len
  have hlen : (cut bs st e).length = e - st := by rw [cut_len]; omega
  unfold Wp_Ro_sum
  intro K K2 hK hK2
  have fin : ∀ (f n : Nat) (s : Int32), n < 256 ^ f → n ≤ 70000 → post (crcN (f + 1) s n ^^^ (-1)) M → K2 s (ii n) M := by
    intro f
    induction f with
    | zero =>
      intro n s h1 h2 h3
      have e0 : n = 0 := by simp at h1; omega
      subst e0
      refine hK2 _ _ _ ⟨fun _ => h3, fun q => absurd (by decide) q⟩
    | succ f ih =>
      intro n s h1 h2 h3
      refine hK2 _ _ _ ⟨fun q => ?_, fun q => ?_⟩
      · rw [show (0 : Int32) = ii 0 from rfl, ii_le (by omega) (by omega) (by omega) (by omega)] at q
        have e0 : n = 0 := by omega
        subst e0
        exact h3
      · rw [show (0 : Int32) = ii 0 from rfl, ii_le (by omega) (by omega) (by omega) (by omega)] at q
        refine s_divide ?_
        rintro x rfl
        rw [show (8 : Int32) = ii ((8 : Nat) : Int) from rfl, ii_ushr (by decide), show ((n : Int) % 4294967296 / 2 ^ 8) = ((n / 256 : Nat) : Int) by omega]
        refine ih _ _ ?_ (by omega) ?_
        · rw [Nat.pow_succ] at h1
          exact Nat.div_lt_of_lt_mul (by rw [Nat.mul_comm]; exact h1)
        · unfold crcN at h3
          rw [if_neg (by omega)] at h3
          exact h3
  suffices H : ∀ d i, i + d = e → st ≤ i → K ((cut bs st i).foldl (fun s b => dv s (ii b.toNat)) 0) (ii i) M by
    have := H (e - st) st (by omega) (Nat.le_refl _)
    have e0 : cut bs st st = [] := by
      apply List.eq_nil_of_length_eq_zero
      rw [cut_len]
      omega
    rw [e0] at this
    exact this
  intro d
  induction d with
  | zero =>
    intro i hi hst
    refine hK _ _ _ ⟨fun _ => ?_, fun q => absurd (by rw [ii_le (by omega) (by omega) (by omega) (by omega)]; omega) q⟩
    rintro x rfl
    have ei : i = e := by omega
    subst ei
    rw [ii_sub, show ((i : Int) - st) = ((i - st : Nat) : Int) by omega]
    refine fin 4 _ _ (by omega) (by omega) ?_
    unfold crc at k
    rw [hlen] at k
    exact k
  | succ d ih =>
    intro i hi hst
    refine hK _ _ _ ⟨fun q => ?_, fun _ => ?_⟩
    · rw [ii_le (by omega) (by omega) (by omega) (by omega)] at q
      omega
    · refine s_at h (by omega) (by omega) (s_divide ?_)
      rintro x rfl
      rw [show (1 : Int32) = ii 1 from rfl, ii_add]
      have hi2 : i < bs.length := by omega
      have := ih (i + 1) (by omega) (by omega)
      have e1 : cut bs st (i + 1) = cut bs st i ++ [bs[i]] := by
        unfold cut
        rw [← List.take_append_getElem hi2, List.drop_append_of_le_length (by rw [List.length_take]; omega)]
      rw [e1, List.foldl_append] at this
      rw [gt_in hi2]
      exact this
theorem s_sumOf {k b : Nat} {post : Int32 → zM → Prop} (hk : b + bs.length ≤ ln k) (h : ∀ (i : Nat) (hi : i < bs.length), M.1 k (b + i) = sb bs[i]) (kk : post (crc bs) M) : Wp_Mo_sumOf k (ii b) (ii bs.length) M post := by
  have hl := ln_small k
  unfold Wp_Mo_sumOf
  intro K K2 hK hK2
  have fin : ∀ (f n : Nat) (s : Int32), n < 256 ^ f → n ≤ 70000 → post (crcN (f + 1) s n ^^^ (-1)) M → K2 s (ii n) M := by
    intro f
    induction f with
    | zero =>
      intro n s h1 h2 h3
      have e0 : n = 0 := by simp at h1; omega
      subst e0
      refine hK2 _ _ _ ⟨fun _ => h3, fun q => absurd (by decide) q⟩
    | succ f ih =>
      intro n s h1 h2 h3
      refine hK2 _ _ _ ⟨fun q => ?_, fun q => ?_⟩
      · rw [show (0 : Int32) = ii 0 from rfl, ii_le (by omega) (by omega) (by omega) (by omega)] at q
        have e0 : n = 0 := by omega
        subst e0
        exact h3
      · rw [show (0 : Int32) = ii 0 from rfl, ii_le (by omega) (by omega) (by omega) (by omega)] at q
        refine s_step ?_
        rw [dv_mask]
        rintro x rfl
        rw [show ((8 : Int32) &&& 31) = ii ((8 : Nat) : Int) from rfl, ii_shr (by decide) (by omega) (by omega), show ((n : Int) / 2 ^ 8) = ((n / 256 : Nat) : Int) by omega]
        refine ih _ _ ?_ (by omega) ?_
        · rw [Nat.pow_succ] at h1
          exact Nat.div_lt_of_lt_mul (by rw [Nat.mul_comm]; exact h1)
        · unfold crcN at h3
          rw [if_neg (by omega)] at h3
          exact h3
  suffices H : ∀ d i, i + d = bs.length → K ((bs.take i).foldl (fun s b => dv s (ii b.toNat)) 0) (ii i) M from H bs.length 0 (by omega)
  intro d
  induction d with
  | zero =>
    intro i hi
    have ei : i = bs.length := by omega
    subst ei
    refine hK _ _ _ ⟨fun _ => ?_, fun q => absurd (by rw [ii_le (by omega) (by omega) (by omega) (by omega)]; omega) q⟩
    refine fin 4 _ _ (by omega) (by omega) ?_
    unfold crc at kk
    rw [List.take_length]
    exact kk
  | succ d ih =>
    intro i hi
    have hi2 : i < bs.length := by omega
    refine hK _ _ _ ⟨fun q => ?_, fun _ => ⟨?_, ?_⟩⟩
    · rw [ii_le (by omega) (by omega) (by omega) (by omega)] at q
      omega
    · rw [ii_add]
      exact ii_in (by omega) (by omega) (by omega)
    · rw [ii_add, ii_nat (by omega) (by omega), show ((b : Int) + i).toNat = b + i by omega, h i hi2, show (255 : Int32) = ii 255 from rfl, sb_and]
      refine s_step ?_
      rintro x rfl
      rw [show (1 : Int32) = ii 1 from rfl, ii_add]
      have := ih (i + 1) (by omega)
      rw [← List.take_append_getElem hi2, List.foldl_append] at this
      exact this
end CRC2
