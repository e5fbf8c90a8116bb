/-! MailChain's reader of codes. -/
def wdC (g nx w c gs : Nat) : Nat × Nat × Nat := if 2 ^ w < nx ∧ w < g then (w + 1, 0, gs + (c + 7) / 8 * w) else (w, c, gs)
theorem wd_wid {g gs : Nat} {e : Enc} (h : 8 * gs + e.c * e.w = 24 + lenE e.E) : (wdC g (257 + e.D.length) e.w e.c gs).1 = (wid g e).w ∧ (wdC g (257 + e.D.length) e.w e.c gs).2.1 = (wid g e).c ∧ 8 * (wdC g (257 + e.D.length) e.w e.c gs).2.2 + (wid g e).c * (wid g e).w = 24 + lenE (wid g e).E := by
  unfold wdC wid
  by_cases q : 2 ^ e.w < 257 + e.D.length ∧ e.w < g
  · rw [if_pos q, if_pos q]
    refine ⟨rfl, rfl, ?_⟩
    show 8 * (gs + (e.c + 7) / 8 * e.w) + 0 * (e.w + 1) = 24 + lenE (e.E ++ pads e)
    rw [lenE_app, lenE_pads, Nat.mul_add, Nat.zero_mul]
    have h1 : 8 * ((e.c + 7) / 8 * e.w) = (e.c + (8 - e.c % 8) % 8) * e.w := by
      rw [← Nat.mul_assoc]
      congr 1
      omega
    rw [h1, Nat.add_mul]
    omega
  · rw [if_neg q, if_neg q]
    exact ⟨rfl, rfl, h⟩
theorem div_mod_bits (X k w : Nat) (h : k + w ≤ 24) : X % 16777216 / 2 ^ k % 2 ^ w = X / 2 ^ k % 2 ^ w := by
  have e : (16777216 : Nat) = 2 ^ k * 2 ^ (24 - k) := by
    rw [← Nat.pow_add, show k + (24 - k) = 24 by omega]
  rw [e, Nat.mod_mul_right_div_self]
  have e2 : 2 ^ (24 - k) = 2 ^ w * 2 ^ (24 - k - w) := by
    rw [← Nat.pow_add]
    congr 1
    omega
  rw [e2, Nat.mod_mul_right_mod]
theorem three_rd {r : List UInt8} {pos w : Nat} (h9 : 9 ≤ w) (h16 : w ≤ 16) (h : pos + w ≤ 8 * r.length) : ((r.getD (pos / 8) 0).toNat + 256 * (r.getD (pos / 8 + 1) 0).toNat + 65536 * (r.getD (pos / 8 + 2) 0).toNat) / 2 ^ (pos % 8) % 2 ^ w = rdC r pos w := by
  have h1 : pos / 8 + 1 < r.length := by omega
  have hd := numB_drop r (pos / 8) (by omega)
  have el : r.drop (pos / 8) = r[pos / 8] :: r[pos / 8 + 1] :: r.drop (pos / 8 + 2) := by
    rw [List.drop_eq_getElem_cons (by omega), List.drop_eq_getElem_cons (by omega)]
  unfold rdC
  have e2 : 2 ^ pos = 2 ^ (8 * (pos / 8)) * 2 ^ (pos % 8) := by
    rw [← Nat.pow_add]
    congr 1
    omega
  rw [e2, ← Nat.div_div_eq_div_mul, ← hd, el, ← div_mod_bits (numB (r[pos / 8] :: r[pos / 8 + 1] :: r.drop (pos / 8 + 2))) (pos % 8) w (by omega), getD_in (by omega), getD_in h1]
  have hb0 := UInt8.toNat_lt r[pos / 8]
  have hb1 := UInt8.toNat_lt r[pos / 8 + 1]
  congr 2
  show _ = (r[pos / 8].toNat + 256 * (r[pos / 8 + 1].toNat + 256 * numB (r.drop (pos / 8 + 2)))) % 16777216
  by_cases c : pos / 8 + 2 < r.length
  · rw [List.drop_eq_getElem_cons c, getD_in c]
    have hb2 := UInt8.toNat_lt r[pos / 8 + 2]
    show _ = (r[pos / 8].toNat + 256 * (r[pos / 8 + 1].toNat + 256 * (r[pos / 8 + 2].toNat + 256 * numB (r.drop (pos / 8 + 2 + 1))))) % 16777216
    omega
  · rw [List.drop_eq_nil_of_le (by omega)]
    have : r.getD (pos / 8 + 2) 0 = 0 := by rw [List.getD_eq_getElem?_getD, List.getElem?_eq_none (by omega)]; rfl
    rw [this]
    show _ = (r[pos / 8].toNat + 256 * (r[pos / 8 + 1].toNat + 256 * 0)) % 16777216
    have z : (0 : UInt8).toNat = 0 := rfl
    omega
theorem one_shl {w : Nat} (h : w ≤ 16) : (1 : Int32) <<< (ii (w : Int) &&& 31) = ii ((2 ^ w : Nat) : Int) := by
  rw [show (31 : Int32) = ii 31 from rfl, ii_and31 (by omega) (by omega), show (1 : Int32) = ii 1 from rfl, ii_shl _ (by omega)]
  congr 1
  simp
theorem p16 {w : Nat} (h : w ≤ 16) : 2 ^ w ≤ 65536 := pow_le' (b := 16) h
section EXP
variable {M : zM} {q a r : Nat} {rs : List UInt8}
theorem s_Ex_changeWidth {w c gs w' : Nat} {post : zM → Prop} (f4 : M.1 q 4 = ii w) (f5 : M.1 q 5 = ii c) (f6 : M.1 q 6 = ii gs) (hc : c ≤ 300000) (k : ∀ M', OnlyF q [4, 5, 6] [] M M' → M'.1 q 4 = ii w' → M'.1 q 5 = ii ((0 : Nat) : Int) → M'.1 q 6 = ii ((gs + (c + 7) / 8 * w : Nat) : Int) → post M') : Wp_Ex_changeWidth q (ii w') M post := by
  unfold Wp_Ex_changeWidth
  rintro M1 h1 M2 h2 M3 h3
  rw [f4, f5, f6, show (7 : Int32) = ii 7 from rfl, show (8 : Int32) = ii 8 from rfl, ii_add, ii_div (by omega) (by omega) (by omega) (by omega), ii_mul, ii_add] at h1
  refine k M3 ?_ ?_ ?_ ?_
  · rw [h3, h2, h1]
    exact ((OnlyF.rf.fld (by simp)).fld (by simp)).fld (by simp)
  · rw [h3, zI_g, if_pos ⟨rfl, rfl⟩]
  · rw [h3, zI_g, if_neg (by simp), h2, zI_g, if_pos ⟨rfl, rfl⟩]
    rfl
  · rw [h3, zI_g, if_neg (by simp), h2, zI_g, if_neg (by simp), h1, zI_g, if_pos ⟨rfl, rfl⟩]
    congr 1
theorem s_readCode {g nx w c gs : Nat} {post : Int32 → zM → Prop} (ha : Rw M a rs) (hqa : q ≠ a) (hqa1 : q ≠ a + 1) (hrs : rs.length ≤ 36000) (f2 : M.1 q 2 = ii g) (f3 : M.1 q 3 = ii nx) (f4 : M.1 q 4 = ii w) (f5 : M.1 q 5 = ii c) (f6 : M.1 q 6 = ii gs) (h9 : 9 ≤ w) (hwg : w ≤ g) (hg : g ≤ 16) (hnx : nx ≤ 70000) (hpos : 8 * gs + c * w ≤ 300000)
    (kC : ∀ (M' : zM) (w' c' gs' : Nat), (w', c', gs') = wdC g nx w c gs → OnlyF q [4, 5, 6] [] M M' → M'.1 q 4 = ii w' → M'.1 q 5 = ii ((c' + 1 : Nat) : Int) → M'.1 q 6 = ii gs' → 9 ≤ w' → w' ≤ g → 8 * gs' + c' * w' ≤ 8 * gs + c * w + 112 → 8 * gs + c * w ≤ 8 * gs' + c' * w' → 8 * gs' + c' * w' + w' ≤ 8 * rs.length → post (ii (rdC rs (8 * gs' + c' * w') w' : Nat)) M')
    (kN : ∀ (M' : zM) (w' c' gs' : Nat), (w', c', gs') = wdC g nx w c gs → OnlyF q [4, 5, 6] [] M M' → 8 * gs + c * w ≤ 8 * gs' + c' * w' → ¬ 8 * gs' + c' * w' + w' ≤ 8 * rs.length → 9 ≤ w' → post (-1) M') : Wp_Ex_readCode q a M post := by
  have hcb : c * 9 ≤ c * w := Nat.mul_le_mul_left _ h9
  unfold Wp_Ex_readCode
  intro K hK
  have main : ∀ (M1 : zM) (w' c' gs' : Nat), (w', c', gs') = wdC g nx w c gs → OnlyF q [4, 5, 6] [] M M1 → M1.1 q 4 = ii w' → M1.1 q 5 = ii c' → M1.1 q 6 = ii gs' → 9 ≤ w' → w' ≤ g → 8 * gs' + c' * w' ≤ 8 * gs + c * w + 112 → 8 * gs + c * w ≤ 8 * gs' + c' * w' → K M1 := by
    intro M1 w' c' gs' hw o1 e4 e5 e6 h9' hg' hle hge
    have A1 : Rw M1 a rs := ⟨by rw [o1.1 a (by simp) (fun z => hqa z.symm)]; exact ha.1, ha.2.1, fun i hi => by rw [o1.1 (a + 1) (by simp) (fun z => hqa1 z.symm)]; exact ha.2.2 i hi⟩
    refine hK _ ?_
    rintro x rfl
    have ex : (8 : Int32) * M1.1 q 6 + M1.1 q 5 * M1.1 q 4 = ii ((8 * gs' + c' * w' : Nat) : Int) := by
      rw [e4, e5, e6, show (8 : Int32) = ii 8 from rfl, ii_mul, ii_mul, ii_add]
      congr 1
    rw [ex]
    generalize hP : 8 * gs' + c' * w' = pos at *
    rw [e4, A1.1, show (8 : Int32) = ii 8 from rfl, ii_mul, ii_add, ii_le (by omega) (by omega) (by omega) (by omega)]
    refine ⟨fun z => ?_, fun z => kN M1 w' c' gs' hw o1 (by omega) (by omega) h9'⟩
    have hin : pos + w' ≤ 8 * rs.length := by omega
    rintro M3 h3
    rw [e5, show (1 : Int32) = ii 1 from rfl, ii_add, show ((c' : Int) + 1) = ((c' + 1 : Nat) : Int) by omega] at h3
    rintro y rfl
    have ey : ii (pos : Int) >>> (3 &&& 31) = ii ((pos / 8 : Nat) : Int) := by
      rw [show ((3 : Int32) &&& 31) = ii ((3 : Nat) : Int) from rfl, ii_shr (by omega) (by omega) (by omega)]
      congr 1
    rw [ey]
    have A3 : Rw M3 a rs := by
      rw [h3]
      exact ⟨by rw [zI_o (fun z => hqa z.symm)]; exact A1.1, A1.2.1, fun i hi => by rw [zI_o (fun z => hqa1 z.symm)]; exact A1.2.2 i hi⟩
    have o3 : OnlyF q [4, 5, 6] [] M M3 := by
      rw [h3]
      exact o1.fld (by simp)
    have g4 : M3.1 q 4 = ii w' := by rw [h3, zI_g, if_neg (by simp)]; exact e4
    have g5 : M3.1 q 5 = ii ((c' + 1 : Nat) : Int) := by rw [h3, zI_g, if_pos ⟨rfl, rfl⟩]
    have g6 : M3.1 q 6 = ii gs' := by rw [h3, zI_g, if_neg (by simp)]; exact e6
    refine s_at A3 (by omega) (by omega) ?_
    rw [show (1 : Int32) = ii 1 from rfl, ii_add, show (((pos / 8 : Nat) : Int) + 1) = ((pos / 8 + 1 : Nat) : Int) by omega]
    refine s_at A3 (by omega) (by omega) ?_
    rw [show (2 : Int32) = ii 2 from rfl, ii_add, show (((pos / 8 : Nat) : Int) + 2) = ((pos / 8 + 2 : Nat) : Int) by omega]
    refine s_at A3 (by omega) (by omega) ?_
    rintro z rfl
    have hg2 := gt_rng rs ((pos / 8 + 2 : Nat) : Int)
    have b0 := UInt8.toNat_lt (rs.getD (pos / 8) 0)
    have b1 := UInt8.toNat_lt (rs.getD (pos / 8 + 1) 0)
    have b2 := UInt8.toNat_lt (rs.getD (pos / 8 + 2) 0)
    have t0 : gt rs ((pos / 8 : Nat) : Int) = (((rs.getD (pos / 8) 0).toNat : Nat) : Int) := by rw [gt_in (show pos / 8 < rs.length by omega), getD_in (by omega)]
    have t1 : gt rs ((pos / 8 + 1 : Nat) : Int) = (((rs.getD (pos / 8 + 1) 0).toNat : Nat) : Int) := by rw [gt_in (show pos / 8 + 1 < rs.length by omega), getD_in (by omega)]
    rw [mx0 _ hg2.1 hg2.2, gtD, t0, t1]
    have e3 : (ii (((rs.getD (pos / 8) 0).toNat : Nat) : Int) ||| (ii (((rs.getD (pos / 8 + 1) 0).toNat : Nat) : Int) <<< (8 &&& 31))) ||| (ii (((rs.getD (pos / 8 + 2) 0).toNat : Nat) : Int) <<< (16 &&& 31)) = ii (((rs.getD (pos / 8) 0).toNat + 256 * (rs.getD (pos / 8 + 1) 0).toNat + 65536 * (rs.getD (pos / 8 + 2) 0).toNat : Nat) : Int) := by
      have x1 := ii_or_add (a := (rs.getD (pos / 8 + 1) 0).toNat) (b := (rs.getD (pos / 8) 0).toNat) (k := 8) (by omega)
      have x2 := ii_or_add (a := (rs.getD (pos / 8 + 2) 0).toNat) (b := (rs.getD (pos / 8 + 1) 0).toNat * 2 ^ 8 + (rs.getD (pos / 8) 0).toNat) (k := 16) (by omega)
      rw [show ((8 : Int32) &&& 31) = ii ((8 : Nat) : Int) from rfl, ii_shl _ (by omega), show ((16 : Int32) &&& 31) = ii ((16 : Nat) : Int) from rfl, ii_shl _ (by omega)]
      have c1 : ((((rs.getD (pos / 8 + 1) 0).toNat : Nat) : Int) * 2 ^ 8) = (((rs.getD (pos / 8 + 1) 0).toNat * 2 ^ 8 : Nat) : Int) := by omega
      have c2 : ((((rs.getD (pos / 8 + 2) 0).toNat : Nat) : Int) * 2 ^ 16) = (((rs.getD (pos / 8 + 2) 0).toNat * 2 ^ 16 : Nat) : Int) := by omega
      rw [c1, c2, ii_or_nat, Nat.or_comm, ← ii_or_nat, x1, ii_or_nat, Nat.or_comm, ← ii_or_nat, x2]
      congr 2
      omega
    have esh : ii (pos : Int) &&& 7 = ii ((pos % 8 : Nat) : Int) := by
      have := ii_mask (pos : Int) 3 (by decide)
      rw [show (2 ^ 3 - 1 : Int) = 7 from rfl] at this
      rw [show (7 : Int32) = ii 7 from rfl, this]
      congr 1
    have hw16 := p16 (w := w') (by omega)
    have emk : (ii 1 <<< (M3.1 q 4 &&& 31)) - ii 1 = ii (2 ^ w' - 1 : Int) := by
      rw [g4, show ii 1 = (1 : Int32) from rfl, one_shl (by omega), show (1 : Int32) = ii 1 from rfl, ii_sub]
      congr 1
    rw [show (ii 8 &&& 31 : Int32) = (8 &&& 31) from rfl, e3, esh, ii_ushr (by omega), emk, ii_mask _ _ (by omega)]
    have fin := kC M3 w' c' gs' hw o3 g4 g5 g6 h9' hg' (by omega) (by omega) (by omega)
    rw [hP, ← three_rd h9' (by omega) hin] at fin
    have ec : ((((rs.getD (pos / 8) 0).toNat + 256 * (rs.getD (pos / 8 + 1) 0).toNat + 65536 * (rs.getD (pos / 8 + 2) 0).toNat : Nat) : Int) % 4294967296 / 2 ^ (pos % 8)) % 2 ^ w' = ((((rs.getD (pos / 8) 0).toNat + 256 * (rs.getD (pos / 8 + 1) 0).toNat + 65536 * (rs.getD (pos / 8 + 2) 0).toNat) / 2 ^ (pos % 8) % 2 ^ w' : Nat) : Int) := by
      rw [Int.natCast_emod, Int.natCast_ediv]
      congr 2
      all_goals first | omega | simp
    rw [ec]
    exact fin
  have hcmp : (ii (nx : Int) ≤ ii ((2 ^ w : Nat) : Int)) ↔ nx ≤ 2 ^ w := by
    have := p16 (w := w) (by omega)
    generalize 2 ^ w = pw at *
    rw [ii_le (by omega) (by omega) (by omega) (by omega)]
    omega
  rw [f2, f3, f4, one_shl (by omega), hcmp, ii_le (by omega) (by omega) (by omega) (by omega)]
  have no : ¬ (2 ^ w < nx ∧ w < g) → K M := fun hn => main M w c gs (by unfold wdC; rw [if_neg hn]) OnlyF.rf f4 f5 f6 h9 hwg (by omega) (by omega)
  refine ⟨fun z => no (by omega), fun z => ⟨fun z2 => no (by omega), fun z2 => ?_⟩⟩
  rw [show (1 : Int32) = ii 1 from rfl, ii_add, show ((w : Int) + 1) = ((w + 1 : Nat) : Int) by omega]
  refine s_Ex_changeWidth f4 f5 f6 (by omega) (fun M1 o1 e4 e5 e6 => ?_)
  have h1 : 8 * ((c + 7) / 8 * w) = (c + (8 - c % 8) % 8) * w := by
    rw [← Nat.mul_assoc]
    congr 1
    omega
  have h2 : (8 - c % 8) % 8 * w ≤ 7 * 16 := Nat.mul_le_mul (by omega) (by omega)
  rw [Nat.add_mul] at h1
  refine main M1 (w + 1) 0 (gs + (c + 7) / 8 * w) (by unfold wdC; rw [if_pos (by omega)]) o1 e4 e5 e6 (by omega) (by omega) ?_ ?_
  · rw [Nat.zero_mul, Nat.mul_add]
    omega
  · rw [Nat.zero_mul, Nat.mul_add]
    omega
end EXP
