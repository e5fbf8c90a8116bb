/-! add, link, clear: the reference. -/
/-- the links of the reference's first tree -/
def LkI (M : zM) (T : Tre) (G : Nat) : Prop := M.1 413 22 = ii G ∧ ∀ (i : Nat) (hi : i < T.length), T[i].kind = 1 → ∃ g : Nat, g ≤ G ∧ M.1 (413 + 18) i = ii g
theorem LkI.same {M M' : zM} {T : Tre} {G : Nat} (h : LkI M T G) (hl : T.length ≤ 40) (h1 : M'.1 413 22 = M.1 413 22) (h2 : ∀ i, i < 40 → M'.1 (413 + 18) i = M.1 (413 + 18) i) : LkI M' T G := ⟨by rw [h1]; exact h.1, fun i hi hk => by rw [h2 i (by omega)]; exact h.2 i hi hk⟩
/-- what an entering may change -/
def aIn (k j : Nat) : Prop := tIn 0 k j ∨ (k = 413 ∧ (j = 6 ∨ j = 7 ∨ j = 22 ∨ j = 24)) ∨ k = 413 + 21
theorem McAddR.bad {T T' : Tre} {tp : List UInt8} {kd n m o g tm : Int} {v : Nat} (h : McAddR T tp kd n m o g tm v T') (hb : ¬ ((1 ≤ n ∧ n ≤ 60 ∧ n ≤ tp.length) ∧ fldOk kd m o g tm ∧ bodyOk kd.toNat (tp.drop n.toNat) ∧ pathOk [] (tp.take n.toNat) = true ∧ parentOk T (tp.take n.toNat))) : v = 2 ∧ T' = T := by
  rcases h with h | ⟨h1, h | ⟨h2, h3, h4, h5⟩⟩
  · exact ⟨h.1, h.2.2⟩
  · exact ⟨h.1, h.2.2⟩
  · rcases h3 with h3 | h3 | h3 | h3
    · exact ⟨h3.1, h4 (by omega)⟩
    all_goals exact absurd ⟨h1, h2.1, h2.2, h3.2.1⟩ hb
theorem McAddR.good {T T' : Tre} {tp : List UInt8} {kd n m o g tm : Int} {v : Nat} (h : McAddR T tp kd n m o g tm v T') (h1 : 1 ≤ n ∧ n ≤ 60 ∧ n ≤ tp.length) (h2 : fldOk kd m o g tm) (h3 : bodyOk kd.toNat (tp.drop n.toNat)) : InsR T (tp.take n.toNat) (if kd.toNat = 1 then (tp.drop n.toNat).length else 0) v ∧ (v ≠ 0 → T' = T) ∧ (v = 0 → T' = ins (newEn (tp.take n.toNat) kd m o g tm (tp.drop n.toNat) T.length) T) := by
  rcases h with h | ⟨-, h | h⟩
  · exact absurd h1 h.2.1
  · exact absurd ⟨h2, h3⟩ h.2.1
  · exact h.2
def refThr (v : Nat) : Int := (v : Int) - 1
theorem z0c : ((0 : Int32)).toNatClampNeg = 0 := by decide
theorem s_isNumber {M : zM} {x : Int} {post : Int32 → zM → Prop} (h : R32 x) (k1 : 0 ≤ x → post 1 M) (k0 : ¬ 0 ≤ x → post 0 M) : Wp_Mo_isNumber (ii x) M post := by
  unfold R32 at h
  unfold Wp_Mo_isNumber
  rw [ii_nneg h.1 h.2]
  exact ⟨fun q => k0 (by omega), fun q => k1 (by omega)⟩
theorem LkI.insd {M M' : zM} {T : Tre} {x : En} {G G' : Nat} (h : LkI M T G) (hG : G ≤ G') (h22 : M'.1 413 22 = ii G') (hlo : ∀ j, j < plc x.path T → M'.1 (413 + 18) (41 * 0 + j) = M.1 (413 + 18) (41 * 0 + j)) (hhi : ∀ j, plc x.path T ≤ j → j < T.length → M'.1 (413 + 18) (41 * 0 + j + 1) = M.1 (413 + 18) (41 * 0 + j)) (hx : x.kind = 1 → ∃ g : Nat, g ≤ G' ∧ M'.1 (413 + 18) (41 * 0 + plc x.path T) = ii g) : LkI M' (ins x T) G' := by
  have hp := plc_le x.path T
  refine ⟨h22, fun i hi hk => ?_⟩
  have hg := ins_get x T i
  rw [List.getElem?_eq_getElem hi] at hg
  rw [ins_len] at hi
  by_cases c : i < plc x.path T
  · rw [if_pos c, List.getElem?_eq_getElem (by omega)] at hg
    rw [Option.some.inj hg] at hk
    obtain ⟨g, g1, g2⟩ := h.2 i (by omega) hk
    have := hlo i c
    rw [show 41 * 0 + i = i by omega] at this
    exact ⟨g, by omega, by rw [this]; exact g2⟩
  · rw [if_neg c] at hg
    by_cases c2 : i = plc x.path T
    · rw [if_pos c2] at hg
      rw [Option.some.inj hg] at hk
      obtain ⟨g, g1, g2⟩ := hx hk
      rw [show 41 * 0 + plc x.path T = i by omega] at g2
      exact ⟨g, g1, g2⟩
    · rw [if_neg c2, List.getElem?_eq_getElem (by omega)] at hg
      rw [Option.some.inj hg] at hk
      obtain ⟨g, g1, g2⟩ := h.2 (i - 1) (by omega) hk
      have := hhi (i - 1) (by omega) (by omega)
      rw [show 41 * 0 + (i - 1) + 1 = i by omega, show 41 * 0 + (i - 1) = i - 1 by omega] at this
      exact ⟨g, by omega, by rw [this]; exact g2⟩
theorem s_look' {M : zM} {a b n : Nat} {cs : List UInt8} {post : zM → Prop} (hn : cs.length = n) (k : Wp_Mo_look 413 a (ii b) (ii cs.length) M post) : Wp_Mo_look 413 a (ii b) (ii n) M post := by
  rw [← hn]
  exact k
theorem s_Mo_added {M : zM} {T T' : Tre} {tp : List UInt8} {kd n m o g tm : Int} {v G : Nat} {post : Int32 → zM → Prop} (hI : RtI M 0 T) (hL : LkI M T G) (hG : G ≤ 1000000) (hV : TOk T) (hR : Cw M 7 (413 + 7) tp) (r0 : R32 n) (r1 : R32 kd) (r2 : R32 m) (r3 : R32 o) (r4 : R32 g) (r5 : R32 tm) (hA : McAddR T tp kd n m o g tm v T')
    (kT : ∀ M', v ≠ 0 → FrC aIn M M' → M'.1 413 6 = ii (refThr v) → RtI M' 0 T' → LkI M' T' G → post 0 M')
    (kk : ∀ M', v = 0 → FrC aIn M M' → M'.1 413 6 = 0 → RtI M' 0 T' → LkI M' T' (G + 1) → post (ii T'.length) M') : Wp_Mo_added 413 (ii kd) (ii n) (ii m) (ii o) (ii g) (ii tm) M post := by
  obtain ⟨l8, l9, l10, l11, l12, l13, l14, l15, l16, l17, l18, l19, l20, l21⟩ := l_ref
  have l7 : ln (413 + 7) = 8000 := by decide +kernel
  have htl : tp.length ≤ 8000 := by have := hR.2.1; omega
  have hl40 := hI.2.1
  have hK2 : ∀ e ∈ T, e.kind ≤ 2 := fun e he => (hV.2.2.1 e he).2.2.2.1
  unfold Wp_Mo_added
  intro K68 K116 K182 K290 h68 h116 h182 h290
  have lo : ∀ {M1 M2 : zM}, FrC (fun k j => (k = 413 ∧ (j = 24 ∨ j = 6)) ∨ k = 413 + 21) M1 M2 → RtI M1 0 T → RtI M2 0 T := fun f hI => hI.frC f (fun k j q => by unfold tIn; omega)
  have loL : ∀ {M1 M2 : zM}, FrC (fun k j => (k = 413 ∧ (j = 24 ∨ j = 6)) ∨ k = 413 + 21) M1 M2 → LkI M1 T G → LkI M2 T G := fun f hL => hL.same hl40 (f.1 _ _ (by omega)) (fun i hi => f.1 _ _ (by omega))
  have up : ∀ {M1 M2 : zM}, FrC (fun k j => (k = 413 ∧ (j = 24 ∨ j = 6)) ∨ k = 413 + 21) M1 M2 → FrC aIn M1 M2 := fun f => f.mono (fun k j q => by unfold aIn; omega)
  have thr : ∀ (M1 : zM) (x w : Int32), v ≠ 0 → w = ii (refThr v) → FrC (fun k j => (k = 413 ∧ (j = 24 ∨ j = 6)) ∨ k = 413 + 21) M M1 → K182 x w 413 M1 := by
    intro M1 x w hv hw f1
    have hle : v ≤ 4 ∧ T' = T := by
      by_cases c : (1 ≤ n ∧ n ≤ 60 ∧ n ≤ tp.length) ∧ fldOk kd m o g tm ∧ bodyOk kd.toNat (tp.drop n.toNat) ∧ pathOk [] (tp.take n.toNat) = true ∧ parentOk T (tp.take n.toNat)
      · have := hA.good c.1 c.2.1 c.2.2.1
        exact ⟨this.1.le, this.2.1 hv⟩
      · have := hA.bad c
        exact ⟨by omega, this.2⟩
    have hlo : 2 ≤ v := by
      rcases hA with h | ⟨-, h | h⟩
      · omega
      · omega
      · rcases h.2.1 with h | h | h | h <;> omega
    refine h182 _ _ _ _ ⟨by decide, by decide +kernel, ?_⟩
    rintro M2 rfl
    have e6 : (zI M1 413 6 w).1 413 6 = ii (refThr v) := by rw [zI_g, if_pos ⟨rfl, rfl⟩, hw]
    have f2 : FrC (fun k j => (k = 413 ∧ (j = 24 ∨ j = 6)) ∨ k = 413 + 21) M (zI M1 413 6 w) := f1.zI (Or.inl ⟨rfl, Or.inr rfl⟩)
    rw [e6]
    refine ⟨fun z => ?_, fun _ => kT _ hv (up f2) e6 (by rw [hle.2]; exact lo f2 hI) (by rw [hle.2]; exact loL f2 hL)⟩
    unfold refThr at z
    rw [show (0 : Int32) = ii 0 from rfl, ii_le (by omega) (by omega) (by omega) (by omega)] at z
    omega
  have bad116 : ∀ M1, ¬ ((1 ≤ n ∧ n ≤ 60 ∧ n ≤ tp.length) ∧ fldOk kd m o g tm ∧ bodyOk kd.toNat (tp.drop n.toNat) ∧ pathOk [] (tp.take n.toNat) = true ∧ parentOk T (tp.take n.toNat)) → FrC (fun k j => (k = 413 ∧ (j = 24 ∨ j = 6)) ∨ k = 413 + 21) M M1 → K116 0 M1 := by
    intro M1 hb f1
    have hv2 := (hA.bad hb).1
    refine h116 _ _ ?_
    rintro x rfl
    exact ⟨fun z => absurd rfl z, fun _ => thr M1 _ _ (by omega) (by rw [hv2]; rfl) f1⟩
  have bad68 : ¬ ((1 ≤ n ∧ n ≤ 60 ∧ n ≤ tp.length) ∧ fldOk kd m o g tm ∧ bodyOk kd.toNat (tp.drop n.toNat) ∧ pathOk [] (tp.take n.toNat) = true ∧ parentOk T (tp.take n.toNat)) → K68 0 M := fun hb => h68 _ _ ⟨fun _ => bad116 M hb FrC.rf, fun z => absurd rfl z⟩
  have r0' := r0
  have r1' := r1
  have r2' := r2
  unfold R32 at r0' r1' r2'
  rw [hR.1, ii_nneg r1'.1 r1'.2, ii_nneg r2'.1 r2'.2, show (2 : Int32) = ii 2 from rfl, show (60 : Int32) = ii 60 from rfl, show (4095 : Int32) = ii 4095 from rfl, show (1 : Int32) = ii 1 from rfl, ii_lt (by decide) (by decide) r1'.1 r1'.2, ii_lt r0'.1 r0'.2 (by decide) (by decide), ii_lt (by decide) (by decide) r0'.1 r0'.2, ii_lt (by omega) (by omega) r0'.1 r0'.2, ii_lt (by decide) (by decide) r2'.1 r2'.2]
  unfold fldOk at *
  refine ⟨fun q => bad68 (by omega), fun q1 => ⟨fun q => bad68 (by omega), fun q2 => ⟨fun q => bad68 (by omega), fun q3 => ⟨fun q => bad68 (by omega), fun q4 => ⟨fun q => bad68 (by omega), fun q5 => ⟨fun q => bad68 (by omega), fun q6 => ⟨fun q => bad68 (by omega), fun q7 => s_isNumber r3 (fun q8 => ⟨fun z => absurd z (by decide), fun _ => s_isNumber r4 (fun q9 => ⟨fun z => absurd z (by decide), fun _ => s_isNumber r5 (fun q10 => ⟨fun z => absurd z (by decide), fun _ => ?_⟩) (fun q => ⟨fun _ => bad68 (by omega), fun z => absurd rfl z⟩)⟩) (fun q => ⟨fun _ => bad68 (by omega), fun z => absurd rfl z⟩)⟩) (fun q => ⟨fun _ => bad68 (by omega), fun z => absurd rfl z⟩)⟩⟩⟩⟩⟩⟩⟩
  obtain ⟨n, rfl⟩ := Int.eq_ofNat_of_zero_le (show 0 ≤ n by omega)
  obtain ⟨kd, rfl⟩ := Int.eq_ofNat_of_zero_le (show 0 ≤ kd by omega)
  have hn : n ≤ tp.length := by omega
  have hA1 : 1 ≤ (n : Int) ∧ (n : Int) ≤ 60 ∧ (n : Int) ≤ tp.length := by omega
  have hF : fldOk (kd : Int) m o g tm := by unfold fldOk; omega
  have hgood := fun hb => hA.good hA1 hF hb
  rw [Int.toNat_natCast, Int.toNat_natCast] at bad116 hgood
  have htk : (tp.take n).length = n := by rw [List.length_take]; omega
  have hdr : (tp.drop n).length = tp.length - n := List.length_drop
  refine h68 _ _ ⟨fun z => absurd z (by decide), fun _ => ?_⟩
  show Wp_Mo_look 413 (413 + 7) (ii ((0 : Nat) : Int)) (ii (n : Int)) M _
  refine s_look' htk ?_
  · refine s_look (by rw [htk]; omega) (fun i hi => ?_) (by decide) (by decide) (fun M1 o1 P1 => ?_)
    · rw [Nat.zero_add, List.getElem_take]
      exact hR.2.2 i (by rw [htk] at hi; omega)
    rw [List.take_of_length_le (by omega)] at P1
    have f1 : FrC (fun k j => (k = 413 ∧ (j = 24 ∨ j = 6)) ∨ k = 413 + 21) M M1 := o1.frC.mono (fun k j q => by
      have : (k = 413 ∧ j = 24) ∨ (k = 413 + 21 ∧ k ≠ 413) := by simpa using q
      omega)
    have R1 : Cw M1 7 (413 + 7) tp := hR.only o1 (by decide) (by decide) (by decide)
    refine s_mayBe R1 (by omega) hn (fun hb => ⟨fun z => absurd z (by decide), fun _ => ?_⟩) (fun hb => ⟨fun _ => bad116 M1 (fun z => hb z.2.2.1) f1, fun z => absurd rfl z⟩)
    refine s_Mo_isPath P1 ?_
    by_cases hp : pathOk [] (tp.take n) = true
    · rw [if_pos hp]
      refine ⟨fun z => absurd z (by decide), fun _ => ?_⟩
      show Wp_Mo_hasParent 413 (ii ((0 : Nat) : Int)) M1 _
      · refine s_Mo_hasParent (by omega) P1 (lo f1 hI) hV.2.1 hK2 (fun hpa => ⟨fun z => absurd z (by decide), fun _ => ?_⟩) (fun hpa => ⟨fun _ => bad116 M1 (fun z => hpa z.2.2.2.2) f1, fun z => absurd rfl z⟩)
        obtain ⟨hins, hT1, hT2⟩ := hgood hb
        have hI1 := lo f1 hI
        have hL1 := loL f1 hL
        refine h116 _ _ ?_
        rintro x rfl
        rw [R1.1, ii_sub, show ((tp.length : Int) - (n : Int)) = ((tp.length - n : Nat) : Int) by omega]
        refine ⟨fun _ => ?_, fun z => absurd z (by decide)⟩
        show Wp_Mo_find 413 (ii ((0 : Nat) : Int)) (ii (n : Int)) M1 _
        · refine s_find (by omega) P1 hI1 (by omega) (fun hfree => ⟨fun _ => ⟨by unfold vp_in; rw [l8]; decide, ?_⟩, fun z => absurd (by decide) z⟩) (fun j hj hje => ⟨fun z => ?_, fun _ => ?_⟩)
          · rw [List.take_of_length_le (by omega)] at hfree
            rw [z0c, hI1.1, show (40 : Int32) = ii 40 from rfl, ii_eq (by omega) (by omega) (by omega) (by omega)]
            have full : (40 ≤ T.length ∨ 6000 < conts T + (if kd = 1 then tp.length - n else 0)) → v = 4 := by
              intro hfl
              rw [hdr] at hins
              rcases hins with z | z | z | z
              · exact absurd ⟨hp, hpa⟩ z.2
              · obtain ⟨e, e1, e2⟩ := z.2.2
                exact absurd e2 (hfree e e1)
              · exact z.1
              · omega
            have okv : T.length < 40 → conts T + (if kd = 1 then tp.length - n else 0) ≤ 6000 → v = 0 := by
              intro h1 h2
              rw [hdr] at hins
              rcases hins with z | z | z | z
              · exact absurd ⟨hp, hpa⟩ z.2
              · obtain ⟨e, e1, e2⟩ := z.2.2
                exact absurd e2 (hfree e e1)
              · omega
              · exact z.1
            have main : T.length < 40 → conts T + (if kd = 1 then tp.length - n else 0) ≤ 6000 → K182 (ii ((tp.length - n : Nat) : Int)) 0 413 M1 := by
              intro hT40 hcc
              have hv0 := okv hT40 hcc
              have eT := hT2 hv0
              refine h182 _ _ _ _ ⟨by decide, by decide +kernel, ?_⟩
              rintro M19 hM19
              have e6 : M19.1 413 6 = 0 := by rw [hM19, zI_g, if_pos ⟨rfl, rfl⟩]
              have f19 : FrC (fun k j => (k = 413 ∧ (j = 24 ∨ j = 6)) ∨ k = 413 + 21) M M19 := by rw [hM19]; exact f1.zI (Or.inl ⟨rfl, Or.inr rfl⟩)
              have P19 : Cw M19 24 (413 + 21) (tp.take n) := by rw [hM19]; exact P1.only (OnlyR.rf.fld (F := [6]) (S := []) (by simp)) (by decide) (by decide) (by decide)
              have I19 := lo f19 hI
              have L19 := loL f19 hL
              have R19 : Cw M19 7 (413 + 7) tp := hR.frC f19 (by omega) (fun i hi => by omega)
              rw [e6]
              refine ⟨fun _ => ?_, fun z => absurd (by decide) z⟩
              show Wp_Mo_enter 413 (ii ((0 : Nat) : Int)) M19 _
              refine s_Mo_enter (by omega) P19 I19 hV.2.1 hfree hT40 (fun M20 f20 n20 lo20 hi20 s20 p20 => ?_)
              have hple := plc_le (tp.take n) T
              obtain ⟨e, he⟩ : ∃ e, e = 41 * 0 + plc (tp.take n) T := ⟨_, rfl⟩
              rw [← he] at s20 p20 ⊢
              obtain ⟨-, -, -, us, u1, u2, u3, u4⟩ := I19
              have hcT := hI.2.2.1
              have hus : us ≤ 8400 := by omega
              have ee : (ii (e : Int)).toNatClampNeg = e := by rw [ii_nat (by omega) (by omega), Int.toNat_natCast]
              rw [ee, z0c]
              refine ⟨ii_in (by omega) (by omega) (by omega), ?_⟩
              rintro M22 h22
              refine ⟨ii_in (by omega) (by omega) (by omega), ?_⟩
              rintro M23 h23
              refine ⟨ii_in (by omega) (by omega) (by omega), ?_⟩
              rintro M24 h24
              refine ⟨ii_in (by omega) (by omega) (by omega), ?_⟩
              rintro M25 h25
              refine ⟨ii_in (by omega) (by omega) (by omega), ?_⟩
              rintro M26 h26
              refine ⟨by unfold vp_in; rw [l19]; decide, ii_in (by omega) (by omega) (by omega), ?_⟩
              rintro M27 h27
              refine ⟨ii_in (by omega) (by omega) (by omega), ?_⟩
              rintro M28 h28 M29 h29
              refine ⟨ii_in (by omega) (by omega) (by omega), ?_⟩
              rintro M30 h30
              have k26 : ∀ k j, ¬ (413 + 11 ≤ k ∧ k ≤ 413 + 15 ∧ j = e) → M26.1 k j = M20.1 k j := fun k j q => by
                rw [h26, zI_g, if_neg (by omega), h25, zI_g, if_neg (by omega), h24, zI_g, if_neg (by omega), h23, zI_g, if_neg (by omega), h22, zI_g, if_neg (by omega)]
              have u26 : M26.1 (413 + 19) 0 = ii us := by rw [k26 _ _ (by omega), f20.1 _ _ (by unfold nIn; omega)]; exact u1
              rw [u26] at h27
              have g28 : M28.1 413 22 = ii G := by rw [h28, zI_o (by omega), h27, zI_o (by omega), k26 _ _ (by omega), f20.1 _ _ (by unfold nIn; omega)]; exact L19.1
              rw [g28, show (1 : Int32) = ii 1 from rfl, ii_add, show ((G : Int) + 1) = ((G + 1 : Nat) : Int) by omega] at h29
              have g29 : M29.1 413 22 = ii ((G + 1 : Nat) : Int) := by rw [h29, zI_g, if_pos ⟨rfl, rfl⟩]
              rw [g29] at h30
              have k30 : ∀ k j, ¬ (413 + 11 ≤ k ∧ k ≤ 413 + 18 ∧ j = e) → ¬ (k = 413 ∧ j = 22) → M30.1 k j = M20.1 k j := fun k j q q2 => by
                rw [h30, zI_g, if_neg (by omega), h29, zI_g, if_neg (by omega), h28, zI_g, if_neg (by omega), h27, zI_g, if_neg (by omega)]
                exact k26 k j (by omega)
              have v22 : M30.1 413 22 = ii ((G + 1 : Nat) : Int) := by rw [h30, zI_o (by omega)]; exact g29
              have v18 : M30.1 (413 + 18) e = ii ((G + 1 : Nat) : Int) := by rw [h30, zI_g, if_pos ⟨rfl, rfl⟩]
              have v17 : M30.1 (413 + 17) e = ii ((tp.length - n : Nat) : Int) := by rw [h30, zI_o (by omega), h29, zI_o (by omega), h28, zI_g, if_pos ⟨rfl, rfl⟩]
              have v16 : M30.1 (413 + 16) e = ii us := by rw [h30, zI_o (by omega), h29, zI_o (by omega), h28, zI_o (by omega), h27, zI_g, if_pos ⟨rfl, rfl⟩]
              have v15 : M30.1 (413 + 15) e = ii tm := by rw [h30, zI_o (by omega), h29, zI_o (by omega), h28, zI_o (by omega), h27, zI_o (by omega), h26, zI_g, if_pos ⟨rfl, rfl⟩]
              have v14 : M30.1 (413 + 14) e = ii g := by rw [h30, zI_o (by omega), h29, zI_o (by omega), h28, zI_o (by omega), h27, zI_o (by omega), h26, zI_o (by omega), h25, zI_g, if_pos ⟨rfl, rfl⟩]
              have v13 : M30.1 (413 + 13) e = ii o := by rw [h30, zI_o (by omega), h29, zI_o (by omega), h28, zI_o (by omega), h27, zI_o (by omega), h26, zI_o (by omega), h25, zI_o (by omega), h24, zI_g, if_pos ⟨rfl, rfl⟩]
              have v12 : M30.1 (413 + 12) e = ii m := by rw [h30, zI_o (by omega), h29, zI_o (by omega), h28, zI_o (by omega), h27, zI_o (by omega), h26, zI_o (by omega), h25, zI_o (by omega), h24, zI_o (by omega), h23, zI_g, if_pos ⟨rfl, rfl⟩]
              have v11 : M30.1 (413 + 11) e = ii (kd : Int) := by rw [h30, zI_o (by omega), h29, zI_o (by omega), h28, zI_o (by omega), h27, zI_o (by omega), h26, zI_o (by omega), h25, zI_o (by omega), h24, zI_o (by omega), h23, zI_o (by omega), h22, zI_g, if_pos ⟨rfl, rfl⟩]
              have s30 : M30.2 = M20.2 := by rw [h30, h29, h28, h27, h26, h25, h24, h23, h22]; rfl
              have hrest : tp.length - n ≤ (if kd = 1 then tp.length - n else 0) + 60 := by
                by_cases c1 : kd = 1
                · rw [if_pos c1]; omega
                · rw [if_neg c1]
                  by_cases c0 : kd = 0
                  · have := hb.1 c0
                    rw [this] at hdr
                    simp only [List.length_nil] at hdr
                    omega
                  · have := (hb.2 (by omega)).2.1
                    omega
              suffices H : ∀ (mm i : Nat) (M1 : zM), i + mm = tp.length - n → (∀ k j, ¬ (k = 413 + 19 ∧ j = 0) → ¬ (k = 413 + 20 ∧ us ≤ j ∧ j < us + (tp.length - n)) → M1.1 k j = M30.1 k j) → M1.2 = M30.2 → M1.1 (413 + 19) 0 = ii ((us + i : Nat) : Int) → (∀ (q : Nat) (hq : n + q < tp.length), q < i → M1.1 (413 + 20) (us + q) = sb tp[n + q]) → K290 (ii ((tp.length - n : Nat) : Int)) (ii i) M1 from
                H _ 0 M30 (Nat.zero_add _) (fun _ _ _ _ => rfl) rfl (by rw [k30 _ _ (by omega) (by omega), f20.1 _ _ (by unfold nIn; omega)]; exact u1) (fun q _ hq => absurd hq (by omega))
              intro mm
              induction mm with
              | zero =>
                intro i M1 hi k1 z1 us1 c1
                have hi' : i = tp.length - n := by omega
                have kk1 : ∀ k j, ¬ (413 + 11 ≤ k ∧ k ≤ 413 + 18 ∧ j = e) → ¬ (k = 413 ∧ j = 22) → ¬ (k = 413 + 19 ∧ j = 0) → ¬ (k = 413 + 20 ∧ us ≤ j ∧ j < us + (tp.length - n)) → M1.1 k j = M20.1 k j := fun k j a b c d => by rw [k1 k j c d]; exact k30 k j a b
                refine h290 _ _ _ ⟨fun _ => ⟨by unfold vp_in; rw [l8]; decide, ?_⟩, fun z => absurd (by rw [ii_le (by omega) (by omega) (by omega) (by omega)]; omega) z⟩
                have xk : (newEn (tp.take n) (kd : Int) m o g tm (tp.drop n) T.length).kind = kd := rfl
                have xb : (newEn (tp.take n) (kd : Int) m o g tm (tp.drop n) T.length).body = tp.drop n := rfl
                have xp : (newEn (tp.take n) (kd : Int) m o g tm (tp.drop n) T.length).path = tp.take n := rfl
                have xf : (newEn (tp.take n) (kd : Int) m o g tm (tp.drop n) T.length).fam = T.length := rfl
                have hmore : (if (newEn (tp.take n) (kd : Int) m o g tm (tp.drop n) T.length).kind = 1 then (newEn (tp.take n) (kd : Int) m o g tm (tp.drop n) T.length).body.length else 0) = (if kd = 1 then tp.length - n else 0) := by rw [xk, xb, hdr]
                have hcont : ∀ q, q < us → M1.1 (413 + 20) (20000 * 0 + q) = M19.1 (413 + 20) (20000 * 0 + q) := fun q hq => by rw [kk1 _ _ (by omega) (by omega) (by omega) (by omega), f20.1 _ _ (by unfold nIn; omega)]
                have elo : ∀ j, j < plc (tp.take n) T → eqE M1 (41 * 0 + j) M19 (41 * 0 + j) := fun j hj => ⟨fun a a1 a2 => by rw [kk1 _ _ (by omega) (by omega) (by omega) (by omega)]; exact (lo20 j hj).1 a a1 a2, fun q hq => by rw [kk1 _ _ (by omega) (by omega) (by omega) (by omega)]; exact (lo20 j hj).2 q hq⟩
                have ehi : ∀ j, plc (tp.take n) T ≤ j → j < T.length → eqE M1 (41 * 0 + j + 1) M19 (41 * 0 + j) := fun j hj hj2 => ⟨fun a a1 a2 => by rw [kk1 _ _ (by omega) (by omega) (by omega) (by omega)]; exact (hi20 j hj hj2).1 a a1 a2, fun q hq => by rw [kk1 _ _ (by omega) (by omega) (by omega) (by omega)]; exact (hi20 j hj hj2).2 q hq⟩
                have n1 : M1.1 (413 + 8) 0 = ii ((T.length + 1 : Nat) : Int) := by rw [kk1 _ _ (by omega) (by omega) (by omega) (by omega)]; exact n20
                have val : M1.1 (413 + 8) ((0 : Int32)).toNatClampNeg = ii T'.length := by rw [z0c, n1, eT, ins_len]
                rw [val]
                have rnd : ∀ (a : Nat) (w : Int32), 11 ≤ a → a ≤ 18 → M30.1 (413 + a) e = w → M1.1 (413 + a) e = w := fun a w a1 a2 q => by rw [k1 _ _ (by omega) (by omega)]; exact q
                refine kk M1 hv0 ?_ ?_ ?_ ?_
                · refine ⟨fun k j q => ?_, by rw [z1, s30, f20.2]; exact f19.2⟩
                  unfold aIn tIn at q
                  rw [kk1 _ _ (by omega) (by omega) (by omega) (by omega), f20.1 _ _ (by unfold nIn; omega), f19.1 _ _ (by omega)]
                · rw [kk1 _ _ (by omega) (by omega) (by omega) (by omega), f20.1 _ _ (by unfold nIn; omega)]
                  exact e6
                · rw [eT]
                  refine RtI.insd (M := M19) (us := us) (us' := us + i) u4 hT40 (by rw [hmore]; exact hcc) n1 us1 (by rw [hmore]; omega) (fun j hj hj2 => ⟨(u3 j hj).moved (elo j hj2) (by omega) hcont, (elo j hj2).1 18 (by omega) (by omega)⟩) (fun j hj hj2 => ⟨(u3 j hj).moved (ehi j hj2 hj) (by omega) hcont, (ehi j hj2 hj).1 18 (by omega) (by omega)⟩) ?_ (fun hk1 j hj hj1 => ?_)
                  · rw [xp, ← he]
                    refine ⟨?_, by rw [xp, htk]; omega, fun q hq => ?_, ?_, ?_, ?_, ?_, ?_, ?_, us, rnd 16 _ (by omega) (by omega) v16, by rw [xb, hdr]; omega, fun q hq => ?_⟩
                    · rw [kk1 _ _ (by omega) (by omega) (by omega) (by omega), s20]; rfl
                    · rw [kk1 _ _ (by omega) (by omega) (by omega) (by omega)]
                      exact p20 q hq
                    · rw [rnd 11 _ (by omega) (by omega) v11]; rfl
                    · rw [rnd 12 _ (by omega) (by omega) v12]; congr 1; show m = ((m.toNat : Nat) : Int); omega
                    · rw [rnd 13 _ (by omega) (by omega) v13]; congr 1; show o = ((o.toNat : Nat) : Int); omega
                    · rw [rnd 14 _ (by omega) (by omega) v14]; congr 1; show g = ((g.toNat : Nat) : Int); omega
                    · rw [rnd 15 _ (by omega) (by omega) v15]; congr 1; show tm = ((tm.toNat : Nat) : Int); omega
                    · rw [rnd 17 _ (by omega) (by omega) v17, xb, hdr]
                    · have hq' : q < tp.length - n := by rw [← hdr]; exact hq
                      rw [show 20000 * 0 + us + q = us + q by omega, c1 q (by omega) (by omega)]
                      have hq2 : q < (tp.drop n).length := hq
                      have e9 : (tp.drop n)[q]'hq2 = tp[n + q] := List.getElem_drop
                      exact congrArg sb e9.symm
                  · obtain ⟨g', g1, g2⟩ := L19.2 j hj hj1
                    rw [xp, ← he, rnd 18 _ (by omega) (by omega) v18, show 41 * 0 + j = j by omega, g2, xf, ii_eq (by omega) (by omega) (by omega) (by omega)]
                    have := hV.2.2.2.2.2.1 _ (List.getElem_mem hj)
                    omega
                · rw [eT]
                  refine L19.insd (by omega) (by rw [k1 _ _ (by omega) (by omega)]; exact v22) (fun j hj => (elo j hj).1 18 (by omega) (by omega)) (fun j hj hj2 => (ehi j hj hj2).1 18 (by omega) (by omega)) (fun _ => ⟨G + 1, Nat.le_refl _, ?_⟩)
                  rw [xp, ← he]
                  exact rnd 18 _ (by omega) (by omega) v18
              | succ mm ih =>
                intro i M1 hi k1 z1 us1 c1
                refine h290 _ _ _ ⟨fun z => ?_, fun _ => ⟨by unfold vp_in; rw [l19]; decide, ?_⟩⟩
                · rw [ii_le (by omega) (by omega) (by omega) (by omega)] at z
                  omega
                · rw [ii_add, z0c, us1]
                  refine ⟨ii_in (by omega) (by omega) (by omega), ii_in (by omega) (by omega) (by omega), ?_⟩
                  have t1 : M1.1 (413 + 7) (n + i) = sb (tp[n + i]'(by omega)) := by
                    rw [k1 _ _ (by omega) (by omega), k30 _ _ (by omega) (by omega), f20.1 _ _ (by unfold nIn; omega)]
                    exact R19.2.2 (n + i) (by omega)
                  rw [ii_nat (by omega) (by omega), ii_nat (by omega) (by omega), Int.toNat_natCast, show ((n : Int) + (i : Int)).toNat = n + i by omega, t1, nar_b8, b8_sb]
                  rintro M31 h31
                  refine ⟨by unfold vp_in; rw [l19]; decide, by unfold vp_in; rw [l19]; decide, ?_⟩
                  rintro M32 h32 x rfl
                  have u31 : M31.1 (413 + 19) 0 = ii ((us + i : Nat) : Int) := by rw [h31, zI_o (by omega)]; exact us1
                  rw [u31, show (1 : Int32) = ii 1 from rfl, ii_add, show (((us + i : Nat) : Int) + 1) = ((us + (i + 1) : Nat) : Int) by omega] at h32
                  rw [show (1 : Int32) = ii 1 from rfl, ii_add]
                  refine ih (i + 1) M32 (by omega) (fun k j a b => ?_) (by rw [h32, h31]; exact z1) (by rw [h32, zI_g, if_pos ⟨rfl, rfl⟩]) (fun q hq hq2 => ?_)
                  · rw [h32, zI_g, if_neg (by omega), h31, zI_g, if_neg (by omega)]
                    exact k1 k j a b
                  · rw [h32, zI_o (by omega), h31, zI_g]
                    by_cases c : q = i
                    · subst c
                      rw [if_pos ⟨rfl, rfl⟩]
                    · rw [if_neg (by omega)]
                      exact c1 q hq (by omega)
            refine ⟨fun z => thr M1 _ _ (by have := full (Or.inl (by omega)); omega) (by rw [full (Or.inl (by omega))]; rfl) f1, fun z => ⟨fun z2 => main (by omega) ?_, fun z2 => ?_⟩⟩
            · have := hI.2.2.1
              rw [if_neg (fun y => z2 (by rw [y]; rfl))]
              omega
            · have hk1 : kd = 1 := by
                rw [show (1 : Int32) = ii 1 from rfl, ii_eq (by omega) (by omega) (by omega) (by omega)] at z2
                omega
              show Wp_Mo_bytesOf 413 (ii ((0 : Nat) : Int)) M1 _
              refine s_bytesOf (by omega) hI1 hK2 ?_
              have hcT := hI.2.2.1
              rw [ii_add, show (6000 : Int32) = ii 6000 from rfl, ii_le (by omega) (by omega) (by omega) (by omega)]
              refine ⟨fun z3 => main (by omega) (by rw [if_pos hk1]; omega), fun z3 => ?_⟩
              have hf := full (Or.inr (by rw [if_pos hk1]; omega))
              exact thr M1 _ _ (by omega) (by rw [hf]; rfl) f1
          · rw [show (0 : Int32) = ii 0 from rfl, ii_lt (by omega) (by omega) (by omega) (by omega)] at z
            omega
          · have hv3 : v = 3 := by
              rw [List.take_of_length_le (by omega)] at hje
              rcases hins with z | z | z | z
              · exact absurd ⟨hp, hpa⟩ z.2
              · exact z.1
              · exact absurd hje (z.2.2.1 _ (List.getElem_mem hj))
              · exact absurd hje (z.2.2.1 _ (List.getElem_mem hj))
            exact thr M1 _ _ (by omega) (by rw [hv3]; rfl) f1
    · rw [if_neg hp]
      exact ⟨fun _ => bad116 M1 (fun z => hp z.2.2.2.1) f1, fun z => absurd rfl z⟩

theorem s_Mo_add {M : zM} {T T' : Tre} {tp : List UInt8} {kd n m o g tm : Int} {v G : Nat} {post : Int32 → zM → Prop} (hI : RtI M 0 T) (hL : LkI M T G) (hG : G ≤ 1000000) (hV : TOk T) (hR : Cw M 7 (413 + 7) tp) (r0 : R32 n) (r1 : R32 kd) (r2 : R32 m) (r3 : R32 o) (r4 : R32 g) (r5 : R32 tm) (hA : McAddR T tp kd n m o g tm v T')
    (kT : ∀ M', v ≠ 0 → FrC aIn M M' → M'.1 413 6 = ii (refThr v) → Cw M' 7 (413 + 7) [] → RtI M' 0 T' → LkI M' T' G → post 0 M')
    (kk : ∀ M', v = 0 → FrC aIn M M' → M'.1 413 6 = 0 → Cw M' 7 (413 + 7) [] → RtI M' 0 T' → LkI M' T' (G + 1) → post (ii T'.length) M') : Wp_Mo_add 413 (ii kd) (ii n) (ii m) (ii o) (ii g) (ii tm) M post := by
  have tail : ∀ {M1 : zM} {G' : Nat}, FrC aIn M M1 → RtI M1 0 T' → LkI M1 T' G' → FrC aIn M (zI M1 413 7 0) ∧ (zI M1 413 7 0).1 413 6 = M1.1 413 6 ∧ Cw (zI M1 413 7 0) 7 (413 + 7) [] ∧ RtI (zI M1 413 7 0) 0 T' ∧ LkI (zI M1 413 7 0) T' G' := by
    intro M1 G' f1 I1 L1
    refine ⟨f1.zI (Or.inr (Or.inl ⟨rfl, Or.inr (Or.inl rfl)⟩)), by rw [zI_g, if_neg (by decide)], ⟨by rw [zI_g, if_pos ⟨rfl, rfl⟩]; rfl, by simp, fun i hi => absurd hi (by simp)⟩, I1.same (fun k j q => by unfold tIn at q; rw [zI_o (by omega)]), L1.same I1.2.1 (by rw [zI_g, if_neg (by decide)]) (fun i hi => by rw [zI_o (by decide)])⟩
  unfold Wp_Mo_add
  refine s_Mo_added hI hL hG hV hR r0 r1 r2 r3 r4 r5 hA (fun M1 hv f1 e6 I1 L1 => ?_) (fun M1 hv f1 e6 I1 L1 => ?_)
  · rintro M3 rfl
    obtain ⟨t1, t2, t3, t4, t5⟩ := tail f1 I1 L1
    exact kT _ hv t1 (t2.trans e6) t3 t4 t5
  · rintro M3 rfl
    obtain ⟨t1, t2, t3, t4, t5⟩ := tail f1 I1 L1
    exact kk _ hv t1 (t2.trans e6) t3 t4 t5
theorem s_Mo_clear {M : zM} {T : Tre} {G : Nat} {post : Int32 → zM → Prop} (hI : RtI M 0 T) (hL : LkI M T G) (kk : ∀ M', FrC (fun k j => (k = 413 ∧ j = 6) ∨ (k = 413 + 8 ∧ j = 0) ∨ (k = 413 + 19 ∧ j = 0)) M M' → M'.1 413 6 = 0 → RtI M' 0 [] → LkI M' [] G → post (ii T.length) M') : Wp_Mo_clear 413 M post := by
  obtain ⟨l8, l9, l10, l11, l12, l13, l14, l15, l16, l17, l18, l19, l20, l21⟩ := l_ref
  unfold Wp_Mo_clear
  rw [z0c]
  rintro M1 h1
  refine ⟨by unfold vp_in; rw [l8]; decide, ?_⟩
  rintro x rfl
  refine ⟨by unfold vp_in; rw [l8]; decide, ?_⟩
  rintro M3 h3
  refine ⟨by unfold vp_in; rw [l19]; decide, ?_⟩
  rintro M4 h4
  have n1 : M1.1 (413 + 8) 0 = ii T.length := by rw [h1, zI_o (by decide)]; exact hI.1
  rw [n1]
  refine kk M4 ?_ ?_ ⟨?_, by decide, by decide, 0, ?_, by decide, fun i hi => absurd hi (by simp), fun i j hi => absurd hi (by simp)⟩ ⟨?_, fun i hi => absurd hi (by simp)⟩
  · rw [h4, h3, h1]
    exact ((FrC.rf.zI (Or.inl ⟨rfl, rfl⟩)).zI (Or.inr (Or.inl ⟨rfl, rfl⟩))).zI (Or.inr (Or.inr ⟨rfl, rfl⟩))
  · rw [h4, zI_o (by decide), h3, zI_o (by decide), h1, zI_g, if_pos ⟨rfl, rfl⟩]
  · rw [h4, zI_o (by decide), h3, zI_g, if_pos ⟨rfl, rfl⟩]
    rfl
  · rw [h4, zI_g, if_pos ⟨rfl, rfl⟩]
    rfl
  · rw [h4, zI_o (by decide), h3, zI_o (by decide), h1, zI_g, if_neg (by decide)]
    exact hL.1
