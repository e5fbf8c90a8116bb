section MDEC
variable {M : zM} {bs : List UInt8}
theorem s_putChar {v : Int32} {post : zM → Prop} (h : Cw M 59 (413 + 37) bs) (hr : bs.length < 9000) (k : ∀ M', OnlyR [59] [413 + 37] M M' → Cw M' 59 (413 + 37) (bs ++ [b8 v]) → post M') : Wp_Mo_putChar 413 v M post := by
  have hln : ln (413 + 37) = 9000 := by decide +kernel
  unfold Wp_Mo_putChar
  rw [h.1]
  refine ⟨ii_in (by omega) (by omega) (by omega), ?_⟩
  rintro M1 rfl M2 e
  rw [ii_nat (by omega) (by omega), Int.toNat_natCast, nar_b8', zI_o (by decide), h.1] at e
  have hp := h.put (b := b8 v) (M' := M2) (by decide) (by omega) (by
    rw [e, show (1 : Int32) = ii 1 from rfl, ii_add]
    rfl)
  exact k M2 hp.2 hp.1
theorem s_putWord {a : Nat} {ws : List UInt8} {post : zM → Prop} (h : Cw M 59 (413 + 37) bs) (hw : Ab M a ws) (hl : ln a = ws.length) (d : a ≠ 413 + 37) (d2 : a ≠ 413) (hr : bs.length + ws.length ≤ 9000) (k : ∀ M', OnlyR [59] [413 + 37] M M' → Cw M' 59 (413 + 37) (bs ++ ws) → post M') : Wp_Mo_putWord 413 a M post := by
  unfold Wp_Mo_putWord
  intro K hK
  suffices H : ∀ (m i : Nat) (M1 : zM), i + m = ws.length → OnlyR [59] [413 + 37] M M1 → Cw M1 59 (413 + 37) (bs ++ ws.take i) → K (ii (i : Int)) M1 from H ws.length 0 M (by omega) OnlyR.rf (by simpa using h)
  intro m
  induction m with
  | zero =>
    intro i M1 hi ho hR
    have ei : i = ws.length := by omega
    subst ei
    rw [List.take_length] at hR
    refine hK _ _ ⟨fun _ => k M1 ho hR, fun c => absurd (by rw [ii_ofNat, hl, ii_le (by omega) (by omega) (by omega) (by omega)]; omega) c⟩
  | succ m ih =>
    intro i M1 hi ho hR
    have hi2 : i < ws.length := by omega
    refine hK _ _ ⟨fun c => ?_, fun _ => ⟨ii_in (by omega) (by omega) (by omega), ?_⟩⟩
    · rw [ii_ofNat, hl, ii_le (by omega) (by omega) (by omega) (by omega)] at c
      omega
    · rw [ii_nat (by omega) (by omega), Int.toNat_natCast, ho.1 a (by simpa using d) d2, hw.2 i hi2]
      refine s_putChar hR (by rw [List.length_append, List.length_take]; omega) (fun M2 o2 R2 => ?_)
      rintro x rfl
      rw [show (1 : Int32) = ii 1 from rfl, ii_add]
      rw [b8_sb, List.append_assoc, List.take_append_getElem hi2] at R2
      exact ih (i + 1) M2 (by omega) (ho.trans o2) R2
theorem s_Mo_putDecimal {v : Nat} {post : zM → Prop} (hv : v ≤ 4294967295) (h : Cw M 59 (413 + 37) bs) (hroom : bs.length + (decs v).length ≤ 9000) (k : ∀ M', OnlyR [59] [413 + 37] M M' → Cw M' 59 (413 + 37) (bs ++ decs v) → post M') : Wp_Mo_putDecimal 413 (ll v) M post := by
  have hln : ln (413 + 37) = 9000 := by decide +kernel
  unfold Wp_Mo_putDecimal
  intro K5 K34 h5 h34
  have put : ∀ (d : Nat) (o : List UInt8) (M1 : zM) (P : zM → Prop), d < 10 → Cw M1 59 (413 + 37) o → o.length < 9000 → (∀ M2, OnlyR [59] [413 + 37] M1 M2 → Cw M2 59 (413 + 37) (o ++ [UInt8.ofNat (48 + d)]) → P M2) → (vp_in (M1.1 413 59) (ln (413 + 37)) ∧ (∀ M2 : zM, M2 = zI M1 (413 + 37) ((M1.1 413 59)).toNatClampNeg (vp_nar .byte (((48 + ii ((d : Nat) : Int))).toInt8.toInt32)) → (∀ M3 : zM, M3 = zI M2 413 59 ((M2.1 413 59) + 1) → P M3))) := by
    intro d o M1 P hd hR ho hk
    rw [hR.1]
    refine ⟨ii_in (by omega) (by omega) (by omega), ?_⟩
    rintro M2 rfl M3 e
    rw [ii_nat (by omega) (by omega), Int.toNat_natCast, nar_b8', zI_o (by decide), hR.1, show (48 : Int32) = ii 48 from rfl, ii_add, show ((48 : Int) + ((d : Nat) : Int)) = ((48 + d : Nat) : Int) by omega, b8_nat] at e
    have hp := hR.put (b := UInt8.ofNat (48 + d)) (M' := M3) (by decide) (by omega) (by
      rw [e, show (1 : Int32) = ii 1 from rfl, ii_add]
      rfl)
    exact hk M3 hp.2 hp.1
  have out : ∀ (j : Nat) (o : List UInt8) (M1 : zM), j ≤ 9 → OnlyR [59] [413 + 37] M M1 → Cw M1 59 (413 + 37) o → o ++ dgs v j = bs ++ decs v → K34 (ll ((10 ^ j : Nat) : Int)) M1 := by
    intro j
    induction j with
    | zero =>
      intro o M1 hj ho hR he
      have hol := congrArg List.length he
      simp only [List.length_append, dgs_len] at hol
      have hd := dig_ll hv hj
      refine h34 _ _ ⟨fun c => ?_, fun _ => ⟨by decide, ?_⟩⟩
      · rw [lg_cmp_le] at c
        exact absurd c (by decide)
      · rw [hd]
        refine put _ o M1 (fun M3 => ∀ y4 : Int64, y4 = (ll ((10 ^ 0 : Nat) : Int) / 10) → K34 y4 M3) (by omega) hR (by omega) (fun M2 o2 R2 => ?_)
        rintro y rfl
        refine h34 _ _ ⟨fun _ => ?_, fun c => absurd (by decide) c⟩
        have he' : o ++ [UInt8.ofNat (48 + v / 10 ^ 0 % 10)] = bs ++ decs v := by rw [← he]; simp [dgs]
        rw [he'] at R2
        exact k M2 (ho.trans o2) R2
    | succ j ih =>
      intro o M1 hj ho hR he
      have h10 := ten_le hj
      have hp : 0 < 10 ^ (j + 1) := Nat.pow_pos (by decide)
      have hol := congrArg List.length he
      simp only [List.length_append, dgs_len] at hol
      have hd := dig_ll hv hj
      refine h34 _ _ ⟨fun c => ?_, fun _ => ⟨?_, ?_⟩⟩
      · rw [lg_cmp_le, show (0 : Int64) = ll 0 from rfl, ll_le (by omega) (by omega) (by omega) (by omega)] at c
        omega
      · rw [show (0 : Int64) = ll 0 from rfl, ll_eq (by omega) (by omega) (by omega) (by omega)]
        omega
      · rw [hd]
        refine put _ o M1 (fun M3 => ∀ y4 : Int64, y4 = (ll ((10 ^ (j + 1) : Nat) : Int) / 10) → K34 y4 M3) (Nat.mod_lt _ (by decide)) hR (by omega) (fun M2 o2 R2 => ?_)
        rintro y rfl
        have e10 : ll ((10 ^ (j + 1) : Nat) : Int) / 10 = ll ((10 ^ j : Nat) : Int) := by
          rw [show (10 : Int64) = ll 10 from rfl, ll_div (by omega) (by omega) (by decide) (by decide)]
          congr 1
          rw [Nat.pow_succ]
          omega
        rw [e10]
        refine ih _ M2 (by omega) (ho.trans o2) R2 ?_
        rw [← he]
        simp [dgs]
  suffices H : ∀ (f j : Nat), j + f = 9 → lgF 9 v = j + lgF f (v / 10 ^ j) → K5 (ll ((10 ^ j : Nat) : Int)) M from H 9 0 rfl (by simp)
  have hcmp : ∀ j : Nat, j ≤ 9 → ((0 < lg_cmp (ll ((10 ^ j : Nat) : Int)) (ll (v : Int) / 10)) ↔ v / 10 ^ j < 10) := by
    intro j hj
    have h10 := ten_le hj
    have hp : 0 < 10 ^ j := Nat.pow_pos (by decide)
    rw [lg_cmp_gt, show (10 : Int64) = ll 10 from rfl, ll_div (by omega) (by omega) (by decide) (by decide), ll_lt (by omega) (by omega) (by omega) (by omega), Nat.div_lt_iff_lt_mul hp]
    generalize 10 ^ j = z
    omega
  intro f
  induction f with
  | zero =>
    intro j hj hl
    have ej : j = 9 := by omega
    subst ej
    have c9 : v / 10 ^ 9 < 10 := by omega
    refine h5 _ _ ⟨fun _ => out 9 bs M (by omega) OnlyR.rf h ?_, fun c => absurd ((hcmp 9 (by omega)).mpr c9) c⟩
    have hl' : lgF 9 v = 9 := hl
    unfold decs
    rw [hl']
  | succ f ih =>
    intro j hj hl
    have h10 := ten_le (show j ≤ 9 by omega)
    have hdd : v / 10 ^ (j + 1) = v / 10 ^ j / 10 := by rw [Nat.pow_succ, ← Nat.div_div_eq_div_mul]
    have hc := hcmp j (by omega)
    refine h5 _ _ ?_
    rw [hc]
    generalize v / 10 ^ j = z at hl hdd ⊢
    have hl2 : lgF (f + 1) z = if z < 10 then 0 else lgF f (z / 10) + 1 := rfl
    rw [hl2] at hl
    refine ⟨fun c => ?_, fun c => ?_⟩
    · rw [if_pos c] at hl
      refine out j bs M (by omega) OnlyR.rf h ?_
      unfold decs
      rw [hl]
      rfl
    · rw [if_neg c] at hl
      rintro y rfl
      rw [show (10 : Int64) = ll 10 from rfl, ll_mul, show (((10 ^ j : Nat) : Int) * 10) = ((10 ^ (j + 1) : Nat) : Int) by rw [Nat.pow_succ]; omega]
      refine ih (j + 1) (by omega) ?_
      rw [hl, hdd]
      omega
end MDEC
