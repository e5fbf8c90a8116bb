/-! The reference's compressor. -/
def MoI (M : zM) (pre : List UInt8) (g : Nat) (e : Enc) : Prop := M.1 413 53 = ii ((257 + e.D.length : Nat) : Int) ∧ M.1 413 54 = ii e.w ∧ M.1 413 55 = ii e.c ∧ Bm M pre (numE e.E) (lenE e.E) ∧ Dict (M.1 (413 + 33)) (M.1 (413 + 34)) (M.1 (413 + 35)) 0 e.D ∧ EncOk g e ∧ ∀ s, 257 + e.D.length ≤ s → s ≤ 65536 → M.1 (413 + 33) s = 0
section MC
variable {M : zM} {g : Nat} {pre : List UInt8} {e : Enc}
theorem MoI.upd {M' : zM} {e' : Enc} (h : MoI M pre g e) (ho : OnlyR [27, 54, 55, 56, 57] [413 + 23] M M') (hD : e'.D = e.D) (h5 : M'.1 413 54 = ii e'.w) (h6 : M'.1 413 55 = ii e'.c) (hB : Bm M' pre (numE e'.E) (lenE e'.E)) (hok : EncOk g e') : MoI M' pre g e' := by
  refine ⟨by rw [ho.2.1 53 (by decide), hD]; exact h.1, h5, h6, hB, ?_, hok, ?_⟩
  · rw [ho.1 (413 + 33) (by decide) (by decide), ho.1 (413 + 34) (by decide) (by decide), ho.1 (413 + 35) (by decide) (by decide), hD]
    exact h.2.2.2.2.1
  · rw [ho.1 (413 + 33) (by decide) (by decide), hD]
    exact h.2.2.2.2.2.2
theorem m_put1 {code : Nat} {post : zM → Prop} (h : MoI M pre g e) (hc : code < 2 ^ e.w) (hroom : pre.length + lenE (put1 e code).E / 8 ≤ 40000) (k : ∀ M', OnlyR [27, 54, 55, 56, 57] [413 + 23] M M' → MoI M' pre g (put1 e code) → post M') : Wp_Mo_putBits 413 (ii code) (M.1 413 54) M (fun M3 => ∀ M4 : zM, M4 = zI M3 413 55 ((M3.1 413 55) + 1) → post M4) := by
  obtain ⟨a1, a2, a3, a4, a5, a6, a7⟩ := h.2.2.2.2.2.1
  have hlen : lenE (put1 e code).E = lenE e.E + e.w := lenE_snoc _ _ _
  have hnum : numE (put1 e code).E = numE e.E + code * 2 ^ lenE e.E := numE_snoc _ _ _
  rw [h.2.1]
  refine s_Mo_putBits (by omega) hc h.2.2.2.1 (by rw [← hlen]; exact hroom) (fun M3 o3 hB => ?_)
  rintro M4 rfl
  have o4 : OnlyR [27, 54, 55, 56, 57] [413 + 23] M (zI M3 413 55 ((M3.1 413 55) + 1)) := (o3.mono (by simp) (by simp)).fld (by simp)
  refine k _ o4 (h.upd o4 rfl ?_ ?_ ?_ ⟨a1, a2, a3, by show e.c + 1 ≤ _; rw [hlen]; omega, a5, a6, a7⟩)
  · rw [zI_g, if_neg (by simp), o3.2.1 54 (by decide)]
    exact h.2.1
  · rw [zI_g, if_pos ⟨rfl, rfl⟩, o3.2.1 55 (by decide), h.2.2.1, show (1 : Int32) = ii 1 from rfl, ii_add]
    rfl
  · rw [hnum, hlen]
    exact ⟨hB.1.only (OnlyR.rf.fld (F := [55]) (S := []) (by simp)) (by decide) (by decide) (by decide), by rw [zI_g, if_neg (by simp)]; exact hB.2.1, by rw [zI_g, if_neg (by simp)]; exact hB.2.2.1, hB.2.2.2⟩
theorem rem8 {c : Nat} (h : c ≤ 600000) : (ii (c : Int) - ii (c : Int) / 8 * 8) = ii ((c % 8 : Nat) : Int) := by
  rw [show (8 : Int32) = ii 8 from rfl, ii_div (by omega) (by omega) (by decide) (by decide), ii_mul, ii_sub]
  congr 1
  omega
theorem s_Mo_fill {post : zM → Prop} {w' : Nat} (h : MoI M pre g e) (hroom : pre.length + lenE (chg e w').E / 8 ≤ 40000)
    (k : ∀ M', OnlyR [27, 54, 55, 56, 57] [413 + 23] M M' → M'.1 413 54 = ii e.w → M'.1 413 55 = ii ((0 : Nat) : Int) → Bm M' pre (numE (chg e w').E) (lenE (chg e w').E) → post M') : Wp_Mo_fill 413 M post := by
  have hok := h.2.2.2.2.2.1
  have hcl := hok.2.2.2.1
  have hl0 : lenE (chg e w').E = lenE e.E + (8 - e.c % 8) % 8 * e.w := by
    show lenE (e.E ++ pads e) = _
    rw [lenE_app, lenE_pads]
  have hlr : ∀ i, i ≤ (8 - e.c % 8) % 8 → lenE (padI e i).E ≤ lenE (chg e w').E := fun i hi => by
    show lenE (e.E ++ List.replicate i (0, e.w)) ≤ _
    rw [lenE_app, lenE_rep, hl0]
    have := Nat.mul_le_mul_right e.w hi
    omega
  have hcb : e.c ≤ 400000 := by omega
  unfold Wp_Mo_fill
  intro K hK
  suffices H : ∀ (m i : Nat) (M1 : zM), i + m = (8 - e.c % 8) % 8 → OnlyR [27, 54, 55, 56, 57] [413 + 23] M M1 → MoI M1 pre g (padI e i) → K M1 by
    refine H ((8 - e.c % 8) % 8) 0 M (by omega) OnlyR.rf ?_
    have : padI e 0 = e := by
      show ((e.D, e.w, e.c + 0, e.E ++ List.replicate 0 (0, e.w)) : Enc) = e
      simp
    rw [this]
    exact h
  intro m
  induction m with
  | zero =>
    intro i M1 hi ho hS
    have ei : i = (8 - e.c % 8) % 8 := by omega
    have hc1 : M1.1 413 55 = ii ((e.c + i : Nat) : Int) := hS.2.2.1
    refine hK _ ⟨fun _ => ?_, fun c => ?_⟩
    · rintro M2 rfl
      have eE : (padI e i).E = (chg e w').E := by
        show e.E ++ List.replicate i (0, e.w) = e.E ++ pads e
        rw [ei]
        rfl
      have hB := hS.2.2.2.1
      rw [eE] at hB
      refine k _ (ho.fld (by simp)) ?_ ?_ ⟨hB.1.only (OnlyR.rf.fld (F := [55]) (S := []) (by simp)) (by decide) (by decide) (by decide), by rw [zI_g, if_neg (by simp)]; exact hB.2.1, by rw [zI_g, if_neg (by simp)]; exact hB.2.2.1, hB.2.2.2⟩
      · rw [zI_g, if_neg (by simp)]
        exact hS.2.1
      · rw [zI_g, if_pos ⟨rfl, rfl⟩]
        rfl
    · rw [hc1, rem8 (by omega), show (0 : Int32) = ii 0 from rfl, ii_eq (by omega) (by omega) (by omega) (by omega)] at c
      omega
  | succ m ih =>
    intro i M1 hi ho hS
    have hc1 : M1.1 413 55 = ii ((e.c + i : Nat) : Int) := hS.2.2.1
    refine hK _ ⟨fun c => ?_, fun _ => ?_⟩
    · rw [hc1, rem8 (by omega), show (0 : Int32) = ii 0 from rfl, ii_eq (by omega) (by omega) (by omega) (by omega)] at c
      omega
    · rw [show (0 : Int32) = ii ((0 : Nat) : Int) from rfl]
      refine m_put1 hS (Nat.two_pow_pos _) ?_ (fun M2 o2 S2 => ?_)
      · rw [padI_succ]
        have := hlr (i + 1) (by omega)
        omega
      · rw [padI_succ] at S2
        exact ih (i + 1) M2 (by omega) (ho.trans o2) S2
theorem s_Mo_putCode {code : Nat} {post : zM → Prop} (h : MoI M pre g e) (hc : code < 257 + e.D.length) (hroom : pre.length + lenE (emit g e code).E / 8 ≤ 40000) (k : ∀ M', OnlyR [27, 54, 55, 56, 57] [413 + 23] M M' → MoI M' pre g (emit g e code) → post M') : Wp_Mo_putCode 413 (ii code) (ii g) M post := by
  obtain ⟨a1, a2, a3, a4, a5, a6, a7⟩ := h.2.2.2.2.2.1
  have hg16 : (2 : Nat) ^ g ≤ 65536 := pow_le' (b := 16) (by omega)
  have hfit := emit_fit h.2.2.2.2.2.1 code
  unfold Wp_Mo_putCode
  intro K K2 hK hK2
  have sh : ∀ (w : Nat), w ≤ 16 → (1 : Int32) <<< (ii (w : Int) &&& 31) = ii ((2 ^ w : Nat) : Int) := fun w hw => by
    rw [show (31 : Int32) = ii 31 from rfl, ii_and31 (by omega) (by omega), show (1 : Int32) = ii 1 from rfl, ii_shl _ (by omega)]
    simp
  have plain : ∀ (e1 : Enc) (M1 : zM), OnlyR [27, 54, 55, 56, 57] [413 + 23] M M1 → MoI M1 pre g e1 → e1 = wid g e → ¬ (2 ^ e1.w < 257 + e1.D.length ∧ e1.w < g) → K M1 := by
    intro e1 M1 ho hS he hn
    obtain ⟨b1, b2, b3, b4, b5, b6, b7⟩ := hS.2.2.2.2.2.1
    have hw16 : (2 : Nat) ^ e1.w ≤ 65536 := pow_le' (b := 16) (by omega)
    have hD1 : e1.D = e.D := by rw [he]; exact wid_D g e
    have ep : emit g e code = put1 e1 code := by rw [he]; rfl
    rw [ep] at hroom k hfit
    have fin : K2 M1 := hK2 _ (m_put1 hS (Nat.lt_of_lt_of_le hc hfit) hroom (fun M2 o2 S2 => k M2 (ho.trans o2) S2))
    refine hK _ ⟨fun _ => fin, fun c => ⟨fun _ => fin, fun c2 => ?_⟩⟩
    rw [hS.1, hS.2.1, sh _ (by omega), ii_le (by omega) (by omega) (by omega) (by omega)] at c
    rw [hS.2.1, ii_le (by omega) (by omega) (by omega) (by omega)] at c2
    exact absurd ⟨by omega, by omega⟩ hn
  by_cases hy : 2 ^ e.w < 257 + e.D.length ∧ e.w < g
  · have ew : wid g e = chg e (e.w + 1) := by unfold wid; rw [if_pos hy]
    have hl : lenE (chg e (e.w + 1)).E ≤ lenE (emit g e code).E := by
      show _ ≤ lenE (put1 (wid g e) code).E
      rw [ew]
      exact lenE_pre (List.prefix_append _ _)
    have hw16 : (2 : Nat) ^ e.w ≤ 65536 := pow_le' (b := 16) (by omega)
    refine hK _ ⟨fun c => ?_, fun _ => ⟨fun c => ?_, fun _ => ?_⟩⟩
    · rw [h.1, h.2.1, sh _ (by omega), ii_le (by omega) (by omega) (by omega) (by omega)] at c
      omega
    · rw [h.2.1, ii_le (by omega) (by omega) (by omega) (by omega)] at c
      omega
    · refine s_Mo_fill (w' := e.w + 1) h (by omega) (fun M1 o1 f4 f5 hB => ?_)
      rintro M2 rfl
      have hok1 : EncOk g (chg e (e.w + 1)) := ⟨by show 9 ≤ e.w + 1; omega, by show e.w + 1 ≤ g; omega, a3, Nat.zero_le _, a5, Nat.le_trans a6 (pow_le' (by show e.w + 1 ≤ e.w + 1 + 1; omega)), a7⟩
      have o2 : OnlyR [27, 54, 55, 56, 57] [413 + 23] M (zI M1 413 54 ((M1.1 413 54) + 1)) := o1.fld (by simp)
      refine plain (chg e (e.w + 1)) _ o2 (h.upd o2 rfl ?_ ?_ ⟨hB.1.only (OnlyR.rf.fld (F := [54]) (S := []) (by simp)) (by decide) (by decide) (by decide), by rw [zI_g, if_neg (by simp)]; exact hB.2.1, by rw [zI_g, if_neg (by simp)]; exact hB.2.2.1, hB.2.2.2⟩ hok1) ew.symm ?_
      · rw [zI_g, if_pos ⟨rfl, rfl⟩, f4, show (1 : Int32) = ii 1 from rfl, ii_add]
        rfl
      · rw [zI_g, if_neg (by simp)]
        exact f5
      · intro c
        have c1 : 2 ^ (e.w + 1) < 257 + e.D.length := c.1
        omega
  · exact plain e M OnlyR.rf h (by unfold wid; rw [if_neg hy]) hy
end MC
