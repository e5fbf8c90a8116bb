/-! part: both sides. -/
theorem partB_len {n k L : Nat} {T : List UInt8} (hk1 : 1 ≤ k) (hk2 : k ≤ n) (hL : L ≤ 4000) (h8 : n = 0 ∧ T = [] ∨ (n - 1) * L < T.length ∧ T.length ≤ n * L) : (partB n k T L).length ≤ 4100 := by
  obtain ⟨t0, t1, t2, t3⟩ := txl
  obtain ⟨p1, p2, p3⟩ := piece_len hk1 hk2 h8
  have d1 := decs_len k
  have d2 := decs_len n
  have d3 := decs_len (piece T L k).length
  have d4 := decs_len (u32 (crc (piece T L k)))
  unfold partB
  simp
  omega
theorem s_Ma_has {M : zM} {a L n : Nat} {S T : List UInt8} {k : Int} {post : Int32 → zM → Prop} (h : MaI M a S T L n) (h1 : -2147483648 ≤ k) (h2 : k ≤ 2147483647) (kk : post (if 1 ≤ k ∧ k ≤ n then 1 else 0) M) : Wp_Ma_has a (ii k) M post := by
  have hn := h.2.2.2.2.2.2.1
  unfold Wp_Ma_has
  rw [h.2.2.1, show (1 : Int32) = ii 1 from rfl, ii_lt h1 h2 (by decide) (by decide), ii_lt (by omega) (by omega) h1 h2]
  refine ⟨fun c => ?_, fun c => ⟨fun c2 => ?_, fun c2 => ?_⟩⟩
  · rw [if_neg (by omega)] at kk; exact kk
  · rw [if_neg (by omega)] at kk; exact kk
  · rw [if_pos (by omega)] at kk; exact kk
theorem s_Mc_part {M : zM} {k i : Int} {S T : List UInt8} {L n : Nat} {post : Option Value → zM → Prop} {postT : Nat → zM → Prop} (h : MaI M (0 + 386) S T L n) (h1 : -2147483648 ≤ k) (h2 : k ≤ 2147483647) (h3 : -2147483648 ≤ i) (h4 : i ≤ 2147483647)
    (kT : ∀ M', Only [0 + 411, 0 + 411 + 1] M M' → ¬ (1 ≤ k ∧ k ≤ n ∧ -1 ≤ i ∧ i < (partB n k.toNat T L).length) → postT 4 M')
    (kk : ∀ M', Only [0 + 411, 0 + 411 + 1] M M' → (1 ≤ k ∧ k ≤ n ∧ -1 ≤ i ∧ i < (partB n k.toNat T L).length) → post (some (.int (ii (if i = -1 then ((partB n k.toNat T L).length : Int) else gt (partB n k.toNat T L) i)))) M') : Wp_Mc_part 0 (ii k) (ii i) M post postT := by
  unfold Wp_Mc_part
  refine s_Ma_has h h1 h2 ?_
  by_cases hk : 1 ≤ k ∧ k ≤ n
  · rw [if_pos hk]
    obtain ⟨m, rfl⟩ := Int.eq_ofNat_of_zero_le (show 0 ≤ k by omega)
    rw [Int.toNat_natCast] at kT kk
    refine ⟨fun _ => ?_, fun c => absurd c (by decide)⟩
    have hpl := partB_len (T := T) (show 1 ≤ m by omega) (show m ≤ n by omega) h.2.2.2.2.2.1 h.2.2.2.2.2.2.2.1
    refine s_Ma_write h (by omega) (by omega) (by decide +kernel) (by decide +kernel) (fun j hj => by omega) (fun M1 o1 R1 => ?_)
    rw [show (-1 : Int32) = ii (-1) from rfl, ii_eq h3 h4 (by decide) (by decide)]
    refine ⟨fun c => s_has R1 h3 h4 ?_, fun c => ?_⟩
    · by_cases hi : 0 ≤ i ∧ i < (partB n m T L).length
      · rw [if_pos hi]
        refine ⟨fun _ => s_at R1 h3 h4 ?_, fun c => absurd c (by decide)⟩
        have := kk M1 o1 ⟨by omega, by omega, by omega, by omega⟩
        rw [if_neg c] at this
        exact this
      · rw [if_neg hi]
        exact ⟨fun c => absurd rfl c, fun _ => kT M1 o1 (by omega)⟩
    · have := kk M1 o1 ⟨by omega, by omega, by omega, by omega⟩
      rw [if_pos c] at this
      rw [R1.1]
      exact this
  · rw [if_neg hk]
    exact ⟨fun c => absurd rfl c, fun _ => kT M Only.rf (by omega)⟩
/-- the reference's mail -/
def MmI (M : zM) (S T : List UInt8) (L n : Nat) : Prop := Cw M 33 (413 + 25) S ∧ Cw M 35 (413 + 26) T ∧ M.1 413 31 = ii n ∧ (0 < n → M.1 413 32 = ii L ∧ 40 ≤ L ∧ L ≤ 4000) ∧ n ≤ 999 ∧ (n = 0 ∧ T = [] ∨ (n - 1) * L < T.length ∧ T.length ≤ n * L)
theorem MmI.only {F S' : List Nat} {M M' : zM} {S T : List UInt8} {L n : Nat} (h : MmI M S T L n) (ho : OnlyR F S' M M') (hF : ∀ j, j ∈ F → j ≠ 31 ∧ j ≠ 32 ∧ j ≠ 33 ∧ j ≠ 35) (hS : 413 + 25 ∉ S' ∧ 413 + 26 ∉ S') : MmI M' S T L n := by
  obtain ⟨a1, a2, a3, a4, a5, a6⟩ := h
  exact ⟨a1.only ho (fun c => (hF _ c).2.2.1 rfl) hS.1 (by decide), a2.only ho (fun c => (hF _ c).2.2.2 rfl) hS.2 (by decide), by rw [ho.2.1 31 (fun c => (hF _ c).1 rfl)]; exact a3, fun hn => by rw [ho.2.1 32 (fun c => (hF _ c).2.1 rfl)]; exact a4 hn, a5, a6⟩
theorem s_Mo_part {M : zM} {k i : Int} {S T : List UInt8} {L n : Nat} {post : Int32 → zM → Prop} (hW : WoI M) (h : MmI M S T L n) (h1 : -2147483648 ≤ k) (h2 : k ≤ 2147483647) (h3 : -2147483648 ≤ i) (h4 : i ≤ 2147483647)
    (kT : ∀ M', OnlyR [6, 59] [413 + 37] M M' → M'.1 413 6 = 1 → ¬ (1 ≤ k ∧ k ≤ n ∧ -1 ≤ i ∧ i < (partB n k.toNat T L).length) → post 0 M')
    (kk : ∀ M', OnlyR [6, 59] [413 + 37] M M' → M'.1 413 6 = 0 → (1 ≤ k ∧ k ≤ n ∧ -1 ≤ i ∧ i < (partB n k.toNat T L).length) → post (ii (if i = -1 then ((partB n k.toNat T L).length : Int) else gt (partB n k.toNat T L) i)) M') : Wp_Mo_part 413 (ii k) (ii i) M post := by
  have hn := h.2.2.2.2.1
  unfold Wp_Mo_part
  intro K24 K55 h24 h55
  have bad : ¬ (1 ≤ k ∧ k ≤ n ∧ -1 ≤ i ∧ i < (partB n k.toNat T L).length) → K24 1 413 M := by
    intro hb
    refine h24 _ _ _ ⟨by decide, by decide +kernel, ?_⟩
    rintro M1 rfl
    have e6 : (zI M 413 6 1).1 413 6 = 1 := by rw [zI_g, if_pos ⟨rfl, rfl⟩]
    rw [e6]
    exact ⟨fun c => absurd c (by decide), fun _ => kT _ (OnlyR.rf.fld (by simp)) e6 hb⟩
  rw [h.2.2.1, show (-1 : Int32) = ii (-1) from rfl, show (1 : Int32) = ii 1 from rfl, ii_lt h1 h2 (by decide) (by decide), ii_lt (by omega) (by omega) h1 h2, ii_le (by decide) (by decide) h3 h4]
  refine ⟨fun c => bad (by omega), fun c => ⟨fun c2 => bad (by omega), fun c2 => ⟨fun c3 => ?_, fun c3 => bad (by omega)⟩⟩⟩
  obtain ⟨m, rfl⟩ := Int.eq_ofNat_of_zero_le (show 0 ≤ k by omega)
  rw [Int.toNat_natCast] at kT kk
  obtain ⟨q1, q2, q3⟩ := h.2.2.2.1 (by omega)
  have hpl := partB_len (T := T) (show 1 ≤ m by omega) (show m ≤ n by omega) q3 h.2.2.2.2.2
  refine h24 _ _ _ ⟨by decide, by decide +kernel, ?_⟩
  rintro M1 rfl
  have e6 : (zI M 413 6 0).1 413 6 = 0 := by rw [zI_g, if_pos ⟨rfl, rfl⟩]
  have o1 : OnlyR [6] [] M (zI M 413 6 0) := OnlyR.rf.fld (by simp)
  have I1 := h.only o1 (by decide) (by decide)
  rw [e6]
  refine ⟨fun _ => ?_, fun c => absurd (by decide) c⟩
  refine s_writePart (hW.only o1 (by decide) (by decide) (by decide) (by decide)) I1.2.2.1 (I1.2.2.2.1 (by omega)).1 I1.2.1 q2 q3 hn h.2.2.2.2.2 (by omega) (by omega) (fun M2 o2 R2 => ?_)
  have o12 : OnlyR [6, 59] [413 + 37] M M2 := (o1.mono (by simp) (by simp)).trans (o2.mono (by simp) (by simp))
  rw [R2.1, ii_lt h3 h4 (by omega) (by omega)]
  refine ⟨fun c => h55 _ _ _ ⟨by decide, by decide +kernel, ?_⟩, fun c => h55 _ _ _ ⟨by decide, by decide +kernel, ?_⟩⟩
  · rintro M3 rfl
    have e63 : (zI M2 413 6 0).1 413 6 = 0 := by rw [zI_g, if_pos ⟨rfl, rfl⟩]
    have R3 := R2.only (OnlyR.rf.fld (F := [6]) (S := []) (v := 0) (j := 6) (by simp)) (by decide) (by decide) (by decide)
    have fin := kk _ (o12.fld (j := 6) (v := 0) (by simp)) e63 ⟨by omega, by omega, by omega, c⟩
    rw [e63]
    refine ⟨fun _ => ?_, fun c => absurd (by decide) c⟩
    rw [show (0 : Int32) = ii 0 from rfl, ii_le (by decide) (by decide) h3 h4]
    refine ⟨fun c4 => ?_, fun c4 => ?_⟩
    · obtain ⟨j, rfl⟩ := Int.eq_ofNat_of_zero_le c4
      have hl37 : ln (413 + 37) = 9000 := by decide +kernel
      refine ⟨ii_in (by omega) (by omega) (by omega), ?_⟩
      rw [if_neg (by omega), gt_in (show j < (partB n m T L).length by omega)] at fin
      rw [ii_nat (by omega) (by omega), Int.toNat_natCast, show ii 0 = (0 : Int32) from rfl, R3.2.2 j (by omega), show (255 : Int32) = ii 255 from rfl, sb_and]
      exact fin
    · rw [if_pos (by omega)] at fin
      rw [show ii 0 = (0 : Int32) from rfl, R3.1]
      exact fin
  · rintro M3 rfl
    have e63 : (zI M2 413 6 1).1 413 6 = 1 := by rw [zI_g, if_pos ⟨rfl, rfl⟩]
    rw [e63]
    exact ⟨fun c => absurd c (by decide), fun _ => kT _ (o12.fld (by simp)) e63 (by omega)⟩
