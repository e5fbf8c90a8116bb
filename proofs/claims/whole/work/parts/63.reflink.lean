/-! link: the reference. -/
theorem RtI.same40 {M M' : zM} {u : Nat} {T : Tre} (h : RtI M u T) (hs : ∀ k j, tIn u k j → ¬ eIn (41 * u + 40) k j → M'.1 k j = M.1 k j) : RtI M' u T := by
  obtain ⟨a1, a2, a3, us, b1, b2, b3, b4⟩ := h
  refine ⟨by rw [hs _ _ (Or.inl ⟨rfl, rfl⟩) (by unfold eIn; omega)]; exact a1, a2, a3, us, by rw [hs _ _ (Or.inr (Or.inr (Or.inr (Or.inl ⟨rfl, rfl⟩)))) (by unfold eIn; omega)]; exact b1, b2, fun i hi => (b3 i hi).same (fun a h1 h2 => hs _ _ (Or.inr (Or.inr (Or.inl (by omega)))) (by unfold eIn; omega)) (fun k hk => hs _ _ (Or.inr (Or.inl (by omega))) (by unfold eIn; omega)) (fun k hk => hs _ _ (Or.inr (Or.inr (Or.inr (Or.inr (by omega))))) (by unfold eIn; omega)), fun i j hi hj k1 k2 => ?_⟩
  rw [hs _ _ (Or.inr (Or.inr (Or.inl (by omega)))) (by unfold eIn; omega), hs _ _ (Or.inr (Or.inr (Or.inl (by omega)))) (by unfold eIn; omega)]
  exact b4 i j hi hj k1 k2
theorem McLinkR.t {T T' : Tre} {tp : List UInt8} {i : Int} {v : Nat} (h : McLinkR T tp i v T') (hv : v ≠ 0) : T' = T ∧ v ≤ 4 := by
  rcases h with h | h | ⟨h1, h2, h | ⟨n, hn, h3, h4, h5, h6⟩ | ⟨n, hn, h3, h4, h5, h6, h7⟩⟩
  · exact ⟨h.2.2, by omega⟩
  · exact ⟨h.2.2.2, by omega⟩
  · exact ⟨h.2.2, by omega⟩
  · exact ⟨h6, by omega⟩
  · exact ⟨h6 hv, h5.le⟩
theorem McLinkR.out {T T' : Tre} {tp : List UInt8} {i : Int} {v : Nat} (h : McLinkR T tp i v T') (hi : ¬ (0 ≤ i ∧ i < T.length)) : v = 1 := by
  rcases h with h | h | h
  · exact h.1
  · exact absurd h.2.1 hi
  · exact absurd h.1 hi
theorem McLinkR.no {T T' : Tre} {tp : List UInt8} {n : Nat} {v : Nat} (h : McLinkR T tp (n : Int) v T') (hn : n < T.length) (hb : ¬ (T[n].kind = 1 ∧ tp.length ≤ 60 ∧ pathOk [] tp = true ∧ parentOk T tp)) : v = 2 := by
  rcases h with h | h | ⟨h1, h2, h | ⟨n', hn', h3, h4, h5, h6⟩ | ⟨n', hn', h3, h4, h5, h6, h7⟩⟩
  · exact absurd ⟨by omega, by omega⟩ h.2.1
  · exact h.1
  · exact absurd ⟨by omega, by omega⟩ h.2.1
  · exact h5
  · have : n' = n := by omega
    subst this
    rcases h5 with z | z | z | z
    · exact z.1
    all_goals exact absurd ⟨h4, h2, z.2.1⟩ hb
theorem McLinkR.yes {T T' : Tre} {tp : List UInt8} {n : Nat} {v : Nat} (h : McLinkR T tp (n : Int) v T') (hn : n < T.length) (h1 : T[n].kind = 1) (h2 : tp.length ≤ 60) : InsR T tp T[n].body.length v ∧ (v ≠ 0 → T' = T) ∧ (v = 0 → T' = ins (lnkEn tp T[n]) T) := by
  rcases h with h | h | ⟨-, -, h | ⟨n', hn', h3, h4, h5, h6⟩ | ⟨n', hn', h3, h4, h5, h6, h7⟩⟩
  · exact absurd ⟨by omega, by omega⟩ h.2.1
  · exact absurd h.2.2.1 (by omega)
  · exact absurd ⟨by omega, by omega⟩ h.2.1
  · have : n' = n := by omega
    subst this
    exact absurd h1 h4
  · have : n' = n := by omega
    subst this
    exact ⟨h5, h6, h7⟩
theorem s_Mo_linkedNow {M : zM} {T T' : Tre} {tp : List UInt8} {i : Int} {v G : Nat} {post : Int32 → zM → Prop} (hI : RtI M 0 T) (hL : LkI M T G) (hV : TOk T) (hR : Cw M 7 (413 + 7) tp) (r0 : R32 i) (hA : McLinkR T tp i v T')
    (kT : ∀ M', v ≠ 0 → FrC aIn M M' → M'.1 413 6 = ii v → RtI M' 0 T' → LkI M' T' G → post 0 M')
    (kk : ∀ M', v = 0 → FrC aIn M M' → M'.1 413 6 = 0 → RtI M' 0 T' → LkI M' T' G → post (ii T'.length) M') : Wp_Mo_linkedNow 413 (ii i) M post := by
  obtain ⟨l8, l9, l10, l11, l12, l13, l14, l15, l16, l17, l18, l19, l20, l21⟩ := l_ref
  have l7 : ln (413 + 7) = 8000 := by decide +kernel
  have htl : tp.length ≤ 8000 := by have := hR.2.1; omega
  have hl40 := hI.2.1
  have hcT := hI.2.2.1
  have hK2 : ∀ e ∈ T, e.kind ≤ 2 := fun e he => (hV.2.2.1 e he).2.2.2.1
  unfold R32 at r0
  unfold Wp_Mo_linkedNow
  intro K19 K33 K76 K156 h19 h33 h76 h156
  have lo : ∀ {M1 M2 : zM}, FrC (fun k j => (k = 413 ∧ (j = 24 ∨ j = 6)) ∨ k = 413 + 21) M1 M2 → RtI M1 0 T → RtI M2 0 T := fun f hI => hI.frC f (fun k j q => by unfold tIn; omega)
  have loL : ∀ {M1 M2 : zM}, FrC (fun k j => (k = 413 ∧ (j = 24 ∨ j = 6)) ∨ k = 413 + 21) M1 M2 → LkI M1 T G → LkI M2 T G := fun f hL => hL.same hl40 (f.1 _ _ (by omega)) (fun i hi => f.1 _ _ (by omega))
  have up : ∀ {M1 M2 : zM}, FrC (fun k j => (k = 413 ∧ (j = 24 ∨ j = 6)) ∨ k = 413 + 21) M1 M2 → FrC aIn M1 M2 := fun f => f.mono (fun k j q => by unfold aIn; omega)
  have thr : ∀ (M1 : zM) (x w : Int32), v ≠ 0 → w = ii v → FrC (fun k j => (k = 413 ∧ (j = 24 ∨ j = 6)) ∨ k = 413 + 21) M M1 → K156 x w 413 M1 := by
    intro M1 x w hv hw f1
    have hle := hA.t hv
    refine h156 _ _ _ _ ⟨by decide, by decide +kernel, ?_⟩
    rintro M2 rfl
    have e6 : (zI M1 413 6 w).1 413 6 = ii v := by rw [zI_g, if_pos ⟨rfl, rfl⟩, hw]
    have f2 : FrC (fun k j => (k = 413 ∧ (j = 24 ∨ j = 6)) ∨ k = 413 + 21) M (zI M1 413 6 w) := f1.zI (Or.inl ⟨rfl, Or.inr rfl⟩)
    rw [e6]
    refine ⟨fun z => ?_, fun _ => kT _ hv (up f2) e6 (by rw [hle.1]; exact lo f2 hI) (by rw [hle.1]; exact loL f2 hL)⟩
    rw [show (0 : Int32) = ii 0 from rfl, ii_le (by omega) (by omega) (by omega) (by omega)] at z
    omega
  -- what the path is like
  have look : ∀ (w x : Int32), (∀ M1, FrC (fun k j => (k = 413 ∧ (j = 24 ∨ j = 6)) ∨ k = 413 + 21) M M1 → Cw M1 24 (413 + 21) (tp.take 60) → (∀ b : Int32, (b = 0 ∧ ¬ (tp.length ≤ 60 ∧ pathOk [] tp = true ∧ parentOk T tp)) ∨ (b = 1 ∧ (tp.length ≤ 60 ∧ pathOk [] tp = true ∧ parentOk T tp)) → K76 w x b M1)) → K33 w x M := by
    intro w x hk
    refine h33 _ _ _ ?_
    rw [hR.1]
    show Wp_Mo_look 413 (413 + 7) (ii ((0 : Nat) : Int)) (ii tp.length) M _
    refine s_look (by omega) (fun i hi => by rw [Nat.zero_add]; exact hR.2.2 i hi) (by decide) (by decide) (fun M1 o1 P1 => ?_)
    have f1 : FrC (fun k j => (k = 413 ∧ (j = 24 ∨ j = 6)) ∨ k = 413 + 21) M M1 := o1.frC.mono (fun k j q => by
      have : (k = 413 ∧ j = 24) ∨ (k = 413 + 21 ∧ k ≠ 413) := by simpa using q
      omega)
    have R1 : Cw M1 7 (413 + 7) tp := hR.only o1 (by decide) (by decide) (by decide)
    have hk := hk M1 f1 P1
    rw [R1.1, show (60 : Int32) = ii 60 from rfl, ii_lt (by omega) (by omega) (by omega) (by omega)]
    refine ⟨fun z => hk 0 (Or.inl ⟨rfl, fun y => by omega⟩), fun z => ?_⟩
    rw [List.take_of_length_le (by omega)] at P1
    refine s_Mo_isPath P1 ?_
    by_cases hp : pathOk [] tp = true
    · rw [if_pos hp]
      refine ⟨fun z => absurd z (by decide), fun _ => ?_⟩
      show Wp_Mo_hasParent 413 (ii ((0 : Nat) : Int)) M1 _
      refine s_Mo_hasParent (by omega) P1 (lo f1 hI) hV.2.1 hK2 (fun hpa => ⟨fun z => absurd z (by decide), fun _ => hk 1 (Or.inr ⟨rfl, by omega, hp, hpa⟩)⟩) (fun hpa => ⟨fun _ => hk 0 (Or.inl ⟨rfl, fun y => hpa y.2.2⟩), fun z => absurd rfl z⟩)
    · rw [if_neg hp]
      exact ⟨fun _ => hk 0 (Or.inl ⟨rfl, fun y => hp y.2.1⟩), fun z => absurd rfl z⟩
  have out : ¬ (0 ≤ i ∧ i < T.length) → K19 0 M := by
    intro hi
    have hv := hA.out hi
    refine h19 _ _ ⟨fun _ => look 0 0 (fun M1 f1 P1 b hb => ?_), fun z => absurd rfl z⟩
    refine h76 _ _ _ _ ⟨fun z => absurd rfl z, fun _ => thr M1 _ _ (by omega) (by rw [hv]; rfl) f1⟩
  rw [ii_nneg r0.1 r0.2, z0c, hI.1, ii_le (by omega) (by omega) r0.1 r0.2]
  refine ⟨fun q => out (by omega), fun q => ⟨by unfold vp_in; rw [l8]; decide, fun q2 => out (by omega), fun q2 => ?_⟩⟩
  obtain ⟨n, rfl⟩ := Int.eq_ofNat_of_zero_le (show 0 ≤ i by omega)
  have hn : n < T.length := by omega
  refine h19 _ _ ⟨fun z => absurd z (by decide), fun _ => ?_⟩
  unfold Wp_Mo_at
  have ea : (41 : Int32) * 0 + ii (n : Int) = ii ((41 * 0 + n : Nat) : Int) := ei_at 0 n
  rw [ea]
  refine look _ _ (fun M1 f1 P1 b hb => ?_)
  have hI1 := lo f1 hI
  have hL1 := loL f1 hL
  obtain ⟨-, -, -, us, u1, u2, u3, u4⟩ := hI1
  have hkn := hK2 _ (List.getElem_mem hn)
  have een : (ii ((41 * 0 + n : Nat) : Int)).toNatClampNeg = 41 * 0 + n := by rw [ii_nat (by omega) (by omega), Int.toNat_natCast]
  refine h76 _ _ _ _ ⟨fun _ => ⟨ii_in (by omega) (by omega) (by omega), ?_⟩, fun z => absurd z (by decide)⟩
  rw [een, (u3 n hn).2.2.2.1, show (1 : Int32) = ii 1 from rfl, ii_eq (by omega) (by omega) (by omega) (by omega)]
  have no : ¬ (T[n].kind = 1 ∧ tp.length ≤ 60 ∧ pathOk [] tp = true ∧ parentOk T tp) → ∀ x : Int32, K156 x 2 413 M1 := fun hb x => by
    have hv := hA.no hn hb
    exact thr M1 _ _ (by omega) (by rw [hv]; rfl) f1
  refine ⟨fun z => no (fun y => z (by omega)) _, fun z => ⟨fun z2 => ?_, fun z2 => no (fun y => ?_) _⟩⟩
  rotate_left
  · rcases hb with hb | hb
    · exact hb.2 y.2
    · rw [hb.1] at z2
      exact absurd z2 (by decide)
  have hgood : tp.length ≤ 60 ∧ pathOk [] tp = true ∧ parentOk T tp := by
    rcases hb with hb | hb
    · exact absurd hb.1 z2
    · exact hb.2
  obtain ⟨hp60, hp, hpa⟩ := hgood
  rw [List.take_of_length_le (by omega)] at P1
  obtain ⟨hins, hT1, hT2⟩ := hA.yes hn (by omega) hp60
  have hI1 := lo f1 hI
  rw [P1.1]
  show Wp_Mo_find 413 (ii ((0 : Nat) : Int)) (ii tp.length) M1 _
  refine s_find (by omega) P1 hI1 (by omega) (fun hfree => ⟨fun _ => ⟨by unfold vp_in; rw [l8]; decide, ?_⟩, fun z => absurd (by decide) z⟩) (fun j hj hje => ⟨fun z => ?_, fun _ => ?_⟩)
  · rw [List.take_of_length_le (by omega)] at hfree
    rw [z0c, hI1.1, show (40 : Int32) = ii 40 from rfl, ii_eq (by omega) (by omega) (by omega) (by omega)]
    have full : (40 ≤ T.length ∨ 6000 < conts T + T[n].body.length) → v = 4 := by
      intro hfl
      rcases hins with z | z | z | z
      · exact absurd ⟨hp, hpa⟩ z.2
      · obtain ⟨e, e1, e2⟩ := z.2.2
        exact absurd e2 (hfree e e1)
      · exact z.1
      · omega
    have okv : T.length < 40 → conts T + T[n].body.length ≤ 6000 → v = 0 := by
      intro h1 h2
      rcases hins with z | z | z | z
      · exact absurd ⟨hp, hpa⟩ z.2
      · obtain ⟨e, e1, e2⟩ := z.2.2
        exact absurd e2 (hfree e e1)
      · omega
      · exact z.1
    refine ⟨fun z => thr M1 _ _ (by have := full (Or.inl (by omega)); omega) (by rw [full (Or.inl (by omega))]; rfl) f1, fun z => ?_⟩
    show Wp_Mo_bytesOf 413 (ii ((0 : Nat) : Int)) M1 _
    refine s_bytesOf (by omega) hI1 hK2 ⟨ii_in (by omega) (by omega) (by omega), ?_⟩
    have hbn := conts_mem T _ (List.getElem_mem hn) (by omega)
    rw [(u3 n hn).2.2.2.2.2.2.2.2.1, ii_add, show (6000 : Int32) = ii 6000 from rfl, ii_le (by omega) (by omega) (by omega) (by omega)]
    refine ⟨fun z3 => ?_, fun z3 => ?_⟩
    rotate_left
    · have hf := full (Or.inr (by omega))
      exact thr M1 _ _ (by omega) (by rw [hf]; rfl) f1
    have hT40 : T.length < 40 := by omega
    have hv0 := okv hT40 (by omega)
    have eT := hT2 hv0
    refine h156 _ _ _ _ ⟨by decide, by decide +kernel, ?_⟩
    rintro M12 h12
    have e6 : M12.1 413 6 = 0 := by rw [h12, zI_g, if_pos ⟨rfl, rfl⟩]
    have f12 : FrC (fun k j => (k = 413 ∧ (j = 24 ∨ j = 6)) ∨ k = 413 + 21) M M12 := by rw [h12]; exact f1.zI (Or.inl ⟨rfl, Or.inr rfl⟩)
    have P12 : Cw M12 24 (413 + 21) tp := by rw [h12]; exact P1.only (OnlyR.rf.fld (F := [6]) (S := []) (by simp)) (by decide) (by decide) (by decide)
    have I12 := lo f12 hI
    have L12 := loL f12 hL
    clear u1 u2 u3 u4 hI1 hL1
    rw [e6]
    refine ⟨fun _ => ?_, fun z => absurd (by decide) z⟩
    show Wp_Mo_copyEntry 413 (ii ((40 : Nat) : Int)) (ii ((41 * 0 + n : Nat) : Int)) M12 _
    refine s_copyEntry (by omega) (by omega) (by omega) (fun M13 f13 g13 => ?_)
    have I13 : RtI M13 0 T := I12.same40 (fun k j _ q => f13.1 k j q)
    have L13 : LkI M13 T G := L12.same hl40 (f13.1 _ _ (by unfold eIn; omega)) (fun j hj => f13.1 _ _ (by unfold eIn; omega))
    have P13 : Cw M13 24 (413 + 21) tp := P12.frC f13 (by unfold eIn; omega) (fun j hj => by unfold eIn; omega)
    show Wp_Mo_enter 413 (ii ((0 : Nat) : Int)) M13 _
    refine s_Mo_enter (by omega) P13 I13 hV.2.1 hfree hT40 (fun M14 f14 n14 lo14 hi14 s14 p14 => ?_)
    have hple := plc_le tp T
    obtain ⟨e, he⟩ : ∃ e, e = 41 * 0 + plc tp T := ⟨_, rfl⟩
    rw [← he] at s14 p14 ⊢
    obtain ⟨-, -, -, us, u1, u2, u3, u4⟩ := I13
    have ee : (ii (e : Int)).toNatClampNeg = e := by rw [ii_nat (by omega) (by omega), Int.toNat_natCast]
    rintro x rfl
    have p24 : M14.1 413 24 = ii tp.length := by rw [f14.1 _ _ (by unfold nIn; omega)]; exact P13.1
    rw [p24]
    show Wp_Mo_copyAttributes 413 (ii (e : Int)) (ii ((40 : Nat) : Int)) M14 _
    refine s_copyAttributes (by omega) (by omega) (fun M17 f17 g17 => ⟨ii_in (by omega) (by omega) (by omega), ?_⟩)
    rw [ee]
    rintro M18 h18
    refine ⟨by unfold vp_in; rw [l8]; decide, ?_⟩
    have k18 : ∀ k j, ¬ (413 + 10 ≤ k ∧ k ≤ 413 + 18 ∧ j = e) → M18.1 k j = M14.1 k j := fun k j q => by rw [h18, zI_g, if_neg (by omega)]; exact f17.1 _ _ (by omega)
    have src : ∀ a, 11 ≤ a → a ≤ 18 → M18.1 (413 + a) e = M12.1 (413 + a) (41 * 0 + n) := fun a a1 a2 => by
      rw [h18, zI_g, if_neg (by omega), g17 a a1 a2, f14.1 _ _ (by unfold nIn; omega)]
      exact g13.1 a (by omega) a2
    have xk : (lnkEn tp T[n]).kind = T[n].kind := rfl
    have xb : (lnkEn tp T[n]).body = T[n].body := rfl
    have xp : (lnkEn tp T[n]).path = tp := rfl
    have xf : (lnkEn tp T[n]).fam = T[n].fam := rfl
    have hmore : (if (lnkEn tp T[n]).kind = 1 then (lnkEn tp T[n]).body.length else 0) = T[n].body.length := by rw [xk, xb, if_pos (by omega)]
    have hcont : ∀ q, q < us → M18.1 (413 + 20) (20000 * 0 + q) = M13.1 (413 + 20) (20000 * 0 + q) := fun q hq => by rw [k18 _ _ (by omega), f14.1 _ _ (by unfold nIn; omega)]
    have elo : ∀ j, j < plc tp T → eqE M18 (41 * 0 + j) M13 (41 * 0 + j) := fun j hj => ⟨fun a a1 a2 => by rw [k18 _ _ (by omega)]; exact (lo14 j hj).1 a a1 a2, fun q hq => by rw [k18 _ _ (by omega)]; exact (lo14 j hj).2 q hq⟩
    have ehi : ∀ j, plc tp T ≤ j → j < T.length → eqE M18 (41 * 0 + j + 1) M13 (41 * 0 + j) := fun j hj hj2 => ⟨fun a a1 a2 => by rw [k18 _ _ (by omega)]; exact (hi14 j hj hj2).1 a a1 a2, fun q hq => by rw [k18 _ _ (by omega)]; exact (hi14 j hj hj2).2 q hq⟩
    have n18 : M18.1 (413 + 8) 0 = ii ((T.length + 1 : Nat) : Int) := by rw [k18 _ _ (by omega)]; exact n14
    have val : M18.1 (413 + 8) ((0 : Int32)).toNatClampNeg = ii T'.length := by rw [z0c, n18, eT, ins_len]
    rw [val]
    have lk13 : M13.1 (413 + 18) (41 * 0 + n) = M12.1 (413 + 18) (41 * 0 + n) := f13.1 _ _ (by unfold eIn; omega)
    refine kk M18 hv0 ?_ ?_ ?_ ?_
    · refine ⟨fun k j q => ?_, ?_⟩
      · unfold aIn tIn at q
        rw [k18 _ _ (by omega), f14.1 _ _ (by unfold nIn; omega), f13.1 _ _ (by unfold eIn; omega), f12.1 _ _ (by omega)]
      · rw [h18]
        show M17.2 = _
        rw [f17.2, f14.2, f13.2]
        exact f12.2
    · rw [k18 _ _ (by omega), f14.1 _ _ (by unfold nIn; omega), f13.1 _ _ (by unfold eIn; omega)]
      exact e6
    · rw [eT]
      refine RtI.insd (M := M13) (us := us) (us' := us) u4 hT40 (by rw [hmore]; omega) n18 (by rw [k18 _ _ (by omega), f14.1 _ _ (by unfold nIn; omega)]; exact u1) (by rw [hmore]; omega) (fun j hj hj2 => ⟨(u3 j hj).moved (elo j hj2) (by omega) hcont, (elo j hj2).1 18 (by omega) (by omega)⟩) (fun j hj hj2 => ⟨(u3 j hj).moved (ehi j hj2 hj) (by omega) hcont, (ehi j hj2 hj).1 18 (by omega) (by omega)⟩) ?_ (fun hk1 j hj hj1 => ?_)
      · rw [xp, ← he]
        obtain ⟨-, -, -, -, us2, w1, w2, w3, w4⟩ := And.intro trivial I12
        have eus : us2 = us := by
          have q1 : M13.1 (413 + 19) 0 = M12.1 (413 + 19) 0 := f13.1 _ _ (by unfold eIn; omega)
          rw [u1, w1, ii_eq (by omega) (by omega) (by omega) (by omega)] at q1
          omega
        subst eus
        obtain ⟨c1, c2, c3, c4, c5, c6, c7, c8, c9, fr, d1, d2, d3⟩ := w3 n hn
        refine ⟨?_, by rw [xp]; omega, fun q hq => ?_, by rw [src 11 (by omega) (by omega)]; exact c4, by rw [src 12 (by omega) (by omega)]; exact c5, by rw [src 13 (by omega) (by omega)]; exact c6, by rw [src 14 (by omega) (by omega)]; exact c7, by rw [src 15 (by omega) (by omega)]; exact c8, by rw [src 17 (by omega) (by omega)]; exact c9, fr, by rw [src 16 (by omega) (by omega)]; exact d1, d2, fun q hq => ?_⟩
        · rw [h18, zI_g, if_pos ⟨rfl, rfl⟩]; rfl
        · rw [k18 _ _ (by omega)]
          exact p14 q hq
        · have hq2 : q < T[n].body.length := hq
          rw [Nat.add_assoc, hcont (fr + q) (by omega), f13.1 _ _ (by unfold eIn; omega), ← Nat.add_assoc]
          exact d3 q hq2
      · rw [xp, ← he, src 18 (by omega) (by omega), ← lk13, xf]
        exact u4 n j hn hj (by omega) hj1
    · rw [eT]
      refine L13.insd (Nat.le_refl _) (by rw [k18 _ _ (by omega), f14.1 _ _ (by unfold nIn; omega)]; exact L13.1) (fun j hj => (elo j hj).1 18 (by omega) (by omega)) (fun j hj hj2 => (ehi j hj hj2).1 18 (by omega) (by omega)) (fun _ => ?_)
      rw [xp, ← he, src 18 (by omega) (by omega)]
      have := L12.2 n hn (by omega)
      rw [show 41 * 0 + n = n by omega]
      exact this
  · rw [show (0 : Int32) = ii 0 from rfl, ii_lt (by omega) (by omega) (by omega) (by omega)] at z
    omega
  · have hv3 : v = 3 := by
      rw [List.take_of_length_le (by omega)] at hje
      rcases hins with z | z | z | z
      · exact absurd ⟨hp, hpa⟩ z.2
      · exact z.1
      · exact absurd hje (z.2.2.1 _ (List.getElem_mem hj))
      · exact absurd hje (z.2.2.1 _ (List.getElem_mem hj))
    exact thr M1 _ _ (by omega) (by rw [hv3]; rfl) f1
theorem s_Mo_link {M : zM} {T T' : Tre} {tp : List UInt8} {i : Int} {v G : Nat} {post : Int32 → zM → Prop} (hI : RtI M 0 T) (hL : LkI M T G) (hV : TOk T) (hR : Cw M 7 (413 + 7) tp) (r0 : R32 i) (hA : McLinkR T tp i v T')
    (kT : ∀ M', v ≠ 0 → FrC aIn M M' → M'.1 413 6 = ii v → Cw M' 7 (413 + 7) [] → RtI M' 0 T' → LkI M' T' G → post 0 M')
    (kk : ∀ M', v = 0 → FrC aIn M M' → M'.1 413 6 = 0 → Cw M' 7 (413 + 7) [] → RtI M' 0 T' → LkI M' T' G → post (ii T'.length) M') : Wp_Mo_link 413 (ii i) M post := by
  have tail : ∀ {M1 : zM} {G' : Nat}, FrC aIn M M1 → RtI M1 0 T' → LkI M1 T' G' → FrC aIn M (zI M1 413 7 0) ∧ (zI M1 413 7 0).1 413 6 = M1.1 413 6 ∧ Cw (zI M1 413 7 0) 7 (413 + 7) [] ∧ RtI (zI M1 413 7 0) 0 T' ∧ LkI (zI M1 413 7 0) T' G' := by
    intro M1 G' f1 I1 L1
    refine ⟨f1.zI (Or.inr (Or.inl ⟨rfl, Or.inr (Or.inl rfl)⟩)), by rw [zI_g, if_neg (by decide)], ⟨by rw [zI_g, if_pos ⟨rfl, rfl⟩]; rfl, by simp, fun i hi => absurd hi (by simp)⟩, I1.same (fun k j q => by unfold tIn at q; rw [zI_o (by omega)]), L1.same I1.2.1 (by rw [zI_g, if_neg (by decide)]) (fun i hi => by rw [zI_o (by decide)])⟩
  unfold Wp_Mo_link
  refine s_Mo_linkedNow hI hL hV hR r0 hA (fun M1 hv f1 e6 I1 L1 => ?_) (fun M1 hv f1 e6 I1 L1 => ?_)
  · rintro M3 rfl
    obtain ⟨t1, t2, t3, t4, t5⟩ := tail f1 I1 L1
    exact kT _ hv t1 (t2.trans e6) t3 t4 t5
  · rintro M3 rfl
    obtain ⟨t1, t2, t3, t4, t5⟩ := tail f1 I1 L1
    exact kk _ hv t1 (t2.trans e6) t3 t4 t5
