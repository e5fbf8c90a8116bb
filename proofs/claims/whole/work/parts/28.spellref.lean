section MSPW
variable {M : zM} {bs out : List UInt8}
/-- the reference lays a letter -/
theorem s_lay {v : Int32} {post : zM → Prop} (h : Cw M 29 (413 + 24) out) (hr : out.length < 56000) (k : ∀ M', OnlyR [29] [413 + 24] M M' → Cw M' 29 (413 + 24) (out ++ [b8 v]) → post M') : Wp_Mo_lay 413 v M post := by
  have hln : ln (413 + 24) = 56000 := by decide +kernel
  unfold Wp_Mo_lay
  rw [h.1]
  refine ⟨ii_in (by omega) (by omega) (by omega), ?_⟩
  rintro M1 rfl M2 e
  rw [ii_nat (by omega) (by omega), Int.toNat_natCast, nar_b8', zI_o (by decide), h.1] at e
  have hp := h.put (b := b8 v) (M' := M2) (by decide) (by omega) (by
    rw [e, show (1 : Int32) = ii 1 from rfl, ii_add]
    rfl)
  exact k M2 hp.2 hp.1
theorem s_six {n : Nat} {post : zM → Prop} (h : Cw M 29 (413 + 24) out) (hn : n ≤ 63) (hr : out.length < 56000) (k : ∀ M', OnlyR [29] [413 + 24] M M' → Cw M' 29 (413 + 24) (out ++ [let6 n]) → post M') : Wp_Mo_six 413 (ii n) M post := by
  unfold Wp_Mo_six
  rw [show (0 : Int32) = ii 0 from rfl, ii_eq (by omega) (by omega) (by omega) (by omega)]
  refine ⟨fun q => s_lay h hr (fun M' o R => k M' o ?_), fun q => s_lay h hr (fun M' o R => k M' o ?_)⟩
  · rw [show (32 : Int32) = ii 32 from rfl, ii_add, show ((32 : Int) + n) = ((32 + n : Nat) : Int) by omega, b8_nat] at R
    unfold let6
    rw [if_neg (by omega)]
    exact R
  · rw [show (96 : Int32) = ii ((96 : Nat) : Int) from rfl, b8_nat] at R
    unfold let6
    rw [if_pos (by omega)]
    exact R
theorem m_or {a b k : Nat} (j : Nat) (hk : k ≤ 31) (hj : j ≤ 31) (hj2 : (2 : Int) ^ j - 1 = ((2 ^ j - 1 : Nat) : Int)) (h : b < 2 ^ k) : ((ii (a : Int) &&& ii ((2 : Int) ^ j - 1)) <<< ii (k : Int)) ||| ii (b : Int) = ii ((a % 2 ^ j * 2 ^ k + b : Nat) : Int) := by
  rw [ii_mask _ _ hj, ii_shl _ hk]
  have e : ((a : Int) % 2 ^ j * 2 ^ k) = ((a % 2 ^ j * 2 ^ k : Nat) : Int) := by
    rw [Int.natCast_mul, Int.natCast_emod]
    simp
  rw [e, ii_or_add h]
theorem s_spellRow {a : Nat} {post : zM → Prop} (ha : Ab M a bs) (d : a ≠ 413 + 24) (d2 : a ≠ 413) (hroom : (spell bs).length ≤ 56000) (hbeg : ∀ (i : Nat) (h : i < 15), M.1 (413 + 2) i = sb ((txt 4).getD i 0)) (k : ∀ M', OnlyR [29] [413 + 24] M M' → Cw M' 29 (413 + 24) (spell bs) → post M') : Wp_Mo_spellRow 413 a (ii bs.length) M post := by
  have hla := ln_small a
  have hle := ha.1
  have hb2 : ln (413 + 2) = 15 := by decide +kernel
  have hl2 : (spell bs).length = (txt 4).length + (lines bs).length + 2 + (txt 5).length := by simp [spell]; omega
  have t4 : (txt 4).length = 15 := by decide +kernel
  have t5 : (txt 5).length = 4 := by decide +kernel
  have keep : ∀ {M'}, OnlyR [29] [413 + 24] M M' → Ab M' a bs := fun ho => ⟨ha.1, fun i hi => by rw [ho.1 a (by simpa using d) d2]; exact ha.2 i hi⟩
  unfold Wp_Mo_spellRow
  intro K7 K31 K52 K66 K110 K137 h7 h31 h52 h66 h110 h137
  have lines_ : ∀ (m i : Nat) (o : List UInt8) (M2 : zM), bs.length - i ≤ m → OnlyR [29] [413 + 24] M M2 → Cw M2 29 (413 + 24) o → o ++ lines (bs.drop i) = txt 4 ++ lines bs → i ≤ bs.length + 45 → K31 (ii (i : Int)) M2 := by
    intro m
    induction m with
    | zero =>
      intro i o M3 hm ho hR he hi
      rw [List.drop_eq_nil_of_le (by omega), lines_nil, List.append_nil] at he
      have hol : o.length = 15 + (lines bs).length := by rw [he, List.length_append, t4]
      refine h31 _ _ ⟨fun _ => ?_, fun q => ?_⟩
      · refine s_lay hR (by omega) (fun N1 p1 q1 => s_lay q1 (by simp; omega) (fun N2 p2 q2 => s_lay q2 (by simp; omega) (fun N3 p3 q3 => s_lay q3 (by simp; omega) (fun N4 p4 q4 => s_lay q4 (by simp; omega) (fun N5 p5 q5 => s_lay q5 (by simp; omega) (fun N6 p6 q6 => ?_))))))
        refine k N6 ((((((ho.trans p1).trans p2).trans p3).trans p4).trans p5).trans p6) ?_
        rw [he] at q6
        have e5 : txt 5 = [b8 101, b8 110, b8 100, b8 10] := by decide +kernel
        unfold spell
        rw [e5, show ([96, 10] : List UInt8) = [b8 96, b8 10] by decide +kernel]
        simpa using q6
      · rw [ii_le (by omega) (by omega) (by omega) (by omega)] at q
        omega
    | succ m ih =>
      intro i o M3 hm ho hR he hi
      by_cases hin : bs.length ≤ i
      · exact ih i o M3 (by omega) ho hR he hi
      · have hne : bs.drop i ≠ [] := fun c => by
          have := congrArg List.length c
          rw [List.length_drop] at this
          simp at this
          omega
        rw [lines_ne hne, List.drop_drop] at he
        have ecut : (bs.drop i).take 45 = cut bs i (i + min (bs.length - i) 45) := by
          unfold cut
          rw [List.drop_take]
          by_cases h45 : bs.length - i ≤ 45
          · rw [Nat.min_eq_left h45, List.take_of_length_le (by rw [List.length_drop]; omega), List.take_of_length_le (by rw [List.length_drop]; omega)]
          · rw [Nat.min_eq_right (by omega), Nat.add_sub_cancel_left]
        rw [ecut] at he
        have goal : ∀ n : Nat, n = min (bs.length - i) 45 → K52 (ii (i : Int)) (ii (n : Int)) M3 := by
          intro n hn
          rw [← hn] at he
          have hcl : (cut bs i (i + n)).length = n := by rw [cut_len]; omega
          have hol := congrArg List.length he
          simp only [List.length_append, line_len, hcl] at hol
          refine h52 _ _ _ ?_
          refine s_lay hR (by omega) (fun N1 p1 q1 => ?_)
          rw [show (32 : Int32) = ii 32 from rfl, ii_add, show ((32 : Int) + n) = ((32 + n : Nat) : Int) by omega, b8_nat, show UInt8.ofNat (32 + n) = let6 n by unfold let6; rw [if_neg (by omega)]] at q1
          suffices H : ∀ (m2 j : Nat) (o2 : List UInt8) (M4 : zM), n - j ≤ m2 → j % 3 = 0 → OnlyR [29] [413 + 24] M M4 → Cw M4 29 (413 + 24) o2 → o2 ++ quads (cut bs (i + j) (i + n)) = (o ++ [let6 n]) ++ quads (cut bs i (i + n)) → j ≤ n + 2 → K66 (ii (i : Int)) (ii (n : Int)) (ii (j : Int)) M4 by
            exact H n 0 _ N1 (by omega) rfl (ho.trans p1) q1 (by simp) (by omega)
          intro m2
          induction m2 with
          | zero =>
            intro j o2 M4 hm2 hj3 ho4 hR4 he4 hj
            rw [cut_nil bs (by omega)] at he4
            simp only [quads, List.append_nil] at he4
            have hol2 : o2.length = o.length + 1 + (n + 2) / 3 * 4 := by
              rw [he4, List.length_append, quads_len, hcl]
              simp
            refine h66 _ _ _ _ ⟨fun _ => ?_, fun q => ?_⟩
            · refine s_lay hR4 (by omega) (fun N2 p2 q2 => ?_)
              rintro x rfl
              rw [show (45 : Int32) = ii 45 from rfl, ii_add, show ((i : Int) + 45) = ((i + 45 : Nat) : Int) by omega]
              refine ih (i + 45) _ N2 (by omega) (ho4.trans p2) q2 ?_ (by omega)
              rw [← he, he4, show b8 (10 : Int32) = 10 from rfl]
              simp [line, hcl]
            · rw [ii_le (by omega) (by omega) (by omega) (by omega)] at q
              omega
          | succ m2 ih2 =>
            intro j o2 M4 hm2 hj3 ho4 hR4 he4 hj
            by_cases hjn : n ≤ j
            · exact ih2 j o2 M4 (by omega) hj3 ho4 hR4 he4 hj
            · have hst := quads_step (bs := bs) (s := i + j) (e := i + n) (by omega) (by omega) (by omega)
              have hol2 : o2.length + (n - j + 2) / 3 * 4 = o.length + 1 + (n + 2) / 3 * 4 := by
                have := congrArg List.length he4
                rw [List.length_append, List.length_append, quads_len, quads_len, cut_len, hcl] at this
                simp at this
                omega
              have ha4 := keep ho4
              have val : ∀ q : Nat, q < bs.length → M4.1 a q &&& 255 = ii (((bs.getD q 0).toNat : Nat) : Int) := fun q hq => by
                rw [ha4.2 q hq, show (255 : Int32) = ii 255 from rfl, sb_and, List.getD_eq_getElem?_getD, List.getElem?_eq_getElem hq]
                rfl
              have z0 : ∀ q, bs.length ≤ q → bs.getD q 0 = 0 := fun q hq => by rw [List.getD_eq_getElem?_getD, List.getElem?_eq_none hq]; rfl
              refine h66 _ _ _ _ ⟨fun q => ?_, fun _ => ?_⟩
              · rw [ii_le (by omega) (by omega) (by omega) (by omega)] at q
                omega
              · rw [ii_add]
                refine ⟨ii_in (by omega) (by omega) (by omega), ?_⟩
                rintro x rfl
                rw [ii_nat (by omega) (by omega), show ((i : Int) + j).toNat = i + j by omega, val _ (by omega)]
                have hA := UInt8.toNat_lt (bs.getD (i + j) 0)
                have hB := UInt8.toNat_lt (bs.getD (i + j + 1) 0)
                have hC := UInt8.toNat_lt (bs.getD (i + j + 2) 0)
                have last : K137 (ii (i : Int)) (ii (n : Int)) (ii (j : Int)) (ii (((bs.getD (i + j) 0).toNat : Nat) : Int)) (ii (((bs.getD (i + j + 1) 0).toNat : Nat) : Int)) (ii (((bs.getD (i + j + 2) 0).toNat : Nat) : Int)) M4 := by
                  refine h137 _ _ _ _ _ _ _ ?_
                  generalize bs.getD (i + j) 0 = A at hA hst
                  generalize bs.getD (i + j + 1) 0 = B' at hB hst
                  generalize bs.getD (i + j + 2) 0 = C' at hC hst
                  have sh : ∀ (x : UInt8) (s : Nat), s ≤ 31 → ii ((x.toNat : Nat) : Int) >>> ii (s : Int) = ii ((x.toNat / 2 ^ s : Nat) : Int) := fun x s hs => by
                    have := UInt8.toNat_lt x
                    rw [ii_shr hs (by omega) (by omega), Int.natCast_ediv]
                    simp
                  rw [show ((2 : Int32) &&& 31) = ii ((2 : Nat) : Int) from rfl, show ((4 : Int32) &&& 31) = ii ((4 : Nat) : Int) from rfl, show ((6 : Int32) &&& 31) = ii ((6 : Nat) : Int) from rfl, sh A 2 (by decide), sh B' 4 (by decide), sh C' 6 (by decide), show (3 : Int32) = ii ((2 : Int) ^ 2 - 1) from rfl, show (15 : Int32) = ii ((2 : Int) ^ 4 - 1) from rfl, show (63 : Int32) = ii ((2 : Int) ^ 6 - 1) from rfl, m_or 2 (by decide) (by decide) rfl (by omega), m_or 4 (by decide) (by decide) rfl (by omega), ii_mask _ 6 (by decide), show ((C'.toNat : Int) % 2 ^ 6) = ((C'.toNat % 64 : Nat) : Int) by rw [Int.natCast_emod]; rfl]
                  refine s_six hR4 (by omega) (by omega) (fun N1 p1 q1 => s_six q1 (by omega) (by simp; omega) (fun N2 p2 q2 => s_six q2 (by omega) (by simp; omega) (fun N3 p3 q3 => s_six q3 (by omega) (by simp; omega) (fun N4 p4 q4 => ?_))))
                  rintro x rfl
                  rw [show ii ((2 : Int) ^ 2 - 1) = ii 3 from rfl, ii_add, show ((j : Int) + 3) = ((j + 3 : Nat) : Int) by omega]
                  refine ih2 (j + 3) _ N4 (by omega) (by omega) ((((ho4.trans p1).trans p2).trans p3).trans p4) q4 ?_ (by omega)
                  rw [hst] at he4
                  rw [← he4, ← Nat.add_assoc]
                  simp [quad]
                have mid : K110 (ii (i : Int)) (ii (n : Int)) (ii (j : Int)) (ii (((bs.getD (i + j) 0).toNat : Nat) : Int)) (ii (((bs.getD (i + j + 1) 0).toNat : Nat) : Int)) M4 := by
                  refine h110 _ _ _ _ _ _ ?_
                  rw [show (2 : Int32) = ii 2 from rfl, ii_add, ii_le (by omega) (by omega) (by omega) (by omega)]
                  refine ⟨fun q => ?_, fun q => ?_⟩
                  · rw [z0 (i + j + 2) (by omega)] at last
                    exact last
                  · rw [ii_add, ii_add]
                    refine ⟨ii_in (by omega) (by omega) (by omega), ?_⟩
                    rw [ii_nat (by omega) (by omega), show ((i : Int) + j + 2).toNat = i + j + 2 by omega, val _ (by omega)]
                    exact last
                rw [show (1 : Int32) = ii 1 from rfl, ii_add, ii_le (by omega) (by omega) (by omega) (by omega)]
                refine ⟨fun q => ?_, fun q => ?_⟩
                · rw [z0 (i + j + 1) (by omega)] at mid
                  exact mid
                · rw [ii_add]
                  refine ⟨ii_in (by omega) (by omega) (by omega), ?_⟩
                  rw [ii_nat (by omega) (by omega), show ((i : Int) + j + 1).toNat = i + j + 1 by omega, val _ (by omega)]
                  exact mid
        refine h31 _ _ ⟨fun q => ?_, fun _ => ?_⟩
        · rw [ii_le (by omega) (by omega) (by omega) (by omega)] at q
          omega
        · rw [ii_sub, show (45 : Int32) = ii ((45 : Nat) : Int) from rfl, ii_le (by omega) (by omega) (by omega) (by omega)]
          refine ⟨fun q => goal 45 (by omega), fun q => ?_⟩
          have := goal (bs.length - i) (by omega)
          rw [show ((bs.length - i : Nat) : Int) = (bs.length : Int) - i by omega] at this
          exact this
  rintro M1 rfl
  have e29 : (zI M 413 29 0).1 413 29 = 0 := by rw [zI_g, if_pos ⟨rfl, rfl⟩]
  suffices H : ∀ (m i : Nat) (M2 : zM), i + m = 15 → OnlyR [29] [413 + 24] M M2 → Cw M2 29 (413 + 24) ((txt 4).take i) → K7 (ii (i : Int)) M2 by
    exact H 15 0 _ rfl (OnlyR.rf.fld (by simp)) ⟨e29, by simp, fun i hi => absurd hi (by simp)⟩
  intro m
  induction m with
  | zero =>
    intro i M2 hi ho hR
    have ei : i = 15 := by omega
    subst ei
    refine h7 _ _ ⟨fun _ => ?_, fun q => absurd (by decide) q⟩
    rw [List.take_of_length_le (by omega)] at hR
    exact lines_ bs.length 0 _ M2 (by omega) ho hR (by simp) (by omega)
  | succ m ih =>
    intro i M2 hi ho hR
    have hi4 : i < (txt 4).length := by omega
    refine h7 _ _ ⟨fun q => ?_, fun _ => ⟨?_, ?_⟩⟩
    · rw [show (15 : Int32) = ii 15 from rfl, ii_le (by omega) (by omega) (by omega) (by omega)] at q
      omega
    · exact ii_in (by omega) (by omega) (by omega)
    · rw [ii_nat (by omega) (by omega), Int.toNat_natCast, ho.1 (413 + 2) (by decide) (by decide), hbeg i (by omega)]
      refine s_lay hR (by rw [List.length_take]; omega) (fun N1 p1 q1 => ?_)
      rintro x rfl
      rw [show (1 : Int32) = ii 1 from rfl, ii_add, show ((i : Int) + 1) = ((i + 1 : Nat) : Int) by omega]
      refine ih (i + 1) N1 (by omega) (ho.trans p1) ?_
      rw [b8_sb, List.getD_eq_getElem?_getD, List.getElem?_eq_getElem hi4, Option.getD_some, List.take_append_getElem hi4] at q1
      exact q1
end MSPW
