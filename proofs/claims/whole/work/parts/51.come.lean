/-! A part comes into the reference's box. -/
theorem mdec_rng (bs : List UInt8) (b : UInt8) (h : Nat) : -1 ≤ (mdec bs b h).1 ∧ (mdec bs b h).1 ≤ 100000000000 ∧ (mdec bs b h).2 ≤ h + 12 := by
  have hl := run_len 11 (bs.drop h)
  have hd := dval_lt (run 11 (bs.drop h)) 0 (run_dg 11 (bs.drop h))
  have hp : (10 : Nat) ^ (run 11 (bs.drop h)).length ≤ 10 ^ 11 := Nat.pow_le_pow_right (by decide) hl
  have hp2 : (10 : Nat) ^ 11 = 100000000000 := by decide
  rw [hp2] at hp
  unfold mdec
  refine ⟨?_, ?_, ?_⟩
  · show (-1 : Int) ≤ (if _ then _ else _)
    split <;> omega
  · show (if _ then _ else _ : Int) ≤ _
    split <;> omega
  · show h + _ + 1 ≤ _
    omega
theorem s_Mo_come {M : zM} {of c of' : Nat} {B B' : Bx} {bs : List UInt8} {post : Int32 → zM → Prop} (hW : WoI M) (hR : Cw M 59 (413 + 37) bs) (h : BmI M of B) (hok : BxOk of B) (hT : TakeR of B bs c of' B')
    (kk : ∀ M' : zM, OnlyQ [37, 38, 43, 61] [413 + 27, 413 + 28, 413 + 29, 413 + 30] M M' → BmI M' of' B' → post (ii c) M') : Wp_Mo_come 413 M post := by
  have l37' : ln (413 + 37) = 9000 := by decide +kernel
  have hbl : bs.length ≤ 9000 := by have := hR.2.1; omega
  have l27 : ln (413 + 27) = 1000 := by decide +kernel
  have l37 : ln (413 + 37) = 9000 := by decide +kernel
  obtain ⟨x1, x2, x3, y1, y2, y3⟩ := txd
  obtain ⟨t0, t1, t2, t3⟩ := txl
  have hB1 : ∀ {M'}, OnlyR [61] [] M M' → BmI M' of B := fun o => h.onlyR o (by decide) (by decide) (by decide) (by decide)
  have hR1 : ∀ {M'}, OnlyR [61] [] M M' → Cw M' 59 (413 + 37) bs := fun o => hR.only o (by decide) (by decide) (by decide)
  have hW1 : ∀ {M'}, OnlyR [61] [] M M' → WoI M' := fun o => hW.only o (by decide) (by decide) (by decide) (by decide)
  have mOQ : ∀ {M'}, OnlyR [61] [] M M' → OnlyQ [37, 38, 43, 61] [413 + 27, 413 + 28, 413 + 29, 413 + 30] M M' := fun o => o.q.mono (by simp) (by simp)
  have bad : ¬ moOk bs → ∀ M', OnlyR [61] [] M M' → post 1 M' := by
    intro hn M' o
    have hpl : ¬ plOk bs := fun q => hn (pl_mo q)
    rcases hT with ⟨hc, -, r1, r2⟩ | ⟨-, hp, -⟩ | ⟨-, hp, -⟩ | ⟨-, hp, -⟩ | ⟨-, hp, -⟩ | ⟨-, hp, -⟩
    · have := kk M' (mOQ o) (by rw [r1, r2]; exact hB1 o)
      rw [hc] at this
      exact this
    all_goals exact absurd hp hpl
  unfold Wp_Mo_come
  intro K30 K57 K74 K103 K120 K149 K166 K248 K271 h30 h57 h74 h103 h120 h149 h166 h248 h271
  have b166 : ∀ v2 v4 v6 w0 M', post 1 M' → K166 0 v2 v4 v6 w0 M' := fun v2 v4 v6 w0 M' p => h166 _ _ _ _ _ _ ⟨fun _ => p, fun q => absurd rfl q⟩
  have b149 : ∀ v2 v4 v6 M', post 1 M' → K149 v2 v4 v6 0 M' := fun v2 v4 v6 M' p => h149 _ _ _ _ _ ⟨fun _ => b166 _ _ _ _ _ p, fun q => absurd rfl q⟩
  have b120 : ∀ v2 v4 w0 M', post 1 M' → K120 0 v2 v4 w0 M' := fun v2 v4 w0 M' p => h120 _ _ _ _ _ ⟨fun _ => b149 _ _ _ _ p, fun q => absurd rfl q⟩
  have b103 : ∀ v2 v4 M', post 1 M' → K103 v2 v4 0 M' := fun v2 v4 M' p => h103 _ _ _ _ ⟨fun _ => b120 _ _ _ _ p, fun q => absurd rfl q⟩
  have b74 : ∀ v2 w0 M', post 1 M' → K74 0 v2 w0 M' := fun v2 w0 M' p => h74 _ _ _ _ ⟨fun _ => b103 _ _ _ p, fun q => absurd rfl q⟩
  have b57 : ∀ v2 M', post 1 M' → K57 v2 0 M' := fun v2 M' p => h57 _ _ _ ⟨fun _ => b74 _ _ _ p, fun q => absurd rfl q⟩
  have b30 : ∀ w0 M', post 1 M' → K30 0 w0 M' := fun w0 M' p => h30 _ _ _ ⟨fun _ => b57 _ _ p, fun q => absurd rfl q⟩
  have rA : -1 ≤ (moA bs).1 ∧ (moA bs).1 ≤ 100000000000 ∧ (moA bs).2 ≤ 5 + 12 := mdec_rng bs 32 5
  have rB : -1 ≤ (moB bs).1 ∧ (moB bs).1 ≤ 100000000000 ∧ (moB bs).2 ≤ (moA bs).2 + 3 + 12 := mdec_rng bs 32 ((moA bs).2 + 3)
  have rC : -1 ≤ (moC bs).1 ∧ (moC bs).1 ≤ 100000000000 ∧ (moC bs).2 ≤ (moB bs).2 + 5 + 12 := mdec_rng bs 32 ((moB bs).2 + 5)
  have rD : -1 ≤ (moD bs).1 ∧ (moD bs).1 ≤ 100000000000 ∧ (moD bs).2 ≤ (moC bs).2 + 6 + 12 := mdec_rng bs 10 ((moC bs).2 + 6)
  have neg0 : ∀ {z : Int}, -1 ≤ z → z ≤ 100000000000 → (lg_cmp (ll z) 0 < 0 ↔ z < 0) := by
    intro z z1 z2
    rw [lg_cmp_lt, show (0 : Int64) = ll 0 from rfl, ll_lt (by omega) (by omega) (by omega) (by omega)]
  rintro M1 rfl
  have o1 : OnlyR [61] [] M (zI M 413 61 0) := OnlyR.rf.fld (by simp)
  have e61 : (zI M 413 61 0).1 413 61 = ii ((0 : Nat) : Int) := by rw [zI_g, if_pos ⟨rfl, rfl⟩]; rfl
  generalize zI M 413 61 0 = M1 at o1 e61
  refine s_Mo_word (hR1 o1) (hW1 o1).1 (by rw [t0]; decide +kernel) (by omega) (by decide) e61 (by omega) (fun M2 o2 w0 f2 => ⟨fun q => absurd q (by decide), fun _ => ?_⟩) (fun M2 o2 nw => ⟨fun _ => b30 _ _ (bad (fun q => nw q.1) M2 (o1.trans o2)), fun q => absurd rfl q⟩)
  have o2' := o1.trans o2
  rw [show (32 : Int32) = sb 32 from by decide]
  rw [t0, Nat.zero_add] at f2
  refine s_Mo_decimal (hR1 o2') f2 (by omega) (by decide) (fun M3 o3 f3 => ?_)
  have o3' := o2'.trans o3
  have f3' : M3.1 413 61 = ii (((moA bs).2 : Nat) : Int) := f3
  show K30 1 (ll (moA bs).1) M3
  refine h30 _ _ _ ⟨fun q => absurd q (by decide), fun _ => ?_⟩
  rw [neg0 rA.1 rA.2.1]
  refine ⟨fun q => b57 _ _ (bad (fun z => by have := z.2.1; omega) M3 o3'), fun pA => ?_⟩
  refine s_Mo_word (hR1 o3') (hW1 o3').2.1 (by rw [y1]; decide +kernel) (by omega) (by decide) f3' (by omega) (fun M4 o4 w1 f4 => ⟨fun q => absurd q (by decide), fun _ => ?_⟩) (fun M4 o4 nw => ⟨fun _ => b57 _ _ (bad (fun q => nw q.2.2.1) M4 (o3'.trans o4)), fun q => absurd rfl q⟩)
  have o4' := o3'.trans o4
  rw [y1] at f4
  refine h57 _ _ _ ⟨fun q => absurd q (by decide), fun _ => ?_⟩
  rw [show (32 : Int32) = sb 32 from by decide]
  refine s_Mo_decimal (hR1 o4') f4 (by omega) (by decide) (fun M5 o5 f5 => ?_)
  have o5' := o4'.trans o5
  have f5' : M5.1 413 61 = ii (((moB bs).2 : Nat) : Int) := f5
  show K74 1 (ll (moA bs).1) (ll (moB bs).1) M5
  refine h74 _ _ _ _ ⟨fun q => absurd q (by decide), fun _ => ?_⟩
  rw [neg0 rB.1 rB.2.1]
  refine ⟨fun q => b103 _ _ _ (bad (fun z => by have := z.2.2.2.1; omega) M5 o5'), fun pB => ?_⟩
  refine s_Mo_word (hR1 o5') (hW1 o5').2.2.1 (by rw [y2]; decide +kernel) (by omega) (by decide) f5' (by omega) (fun M6 o6 w2 f6 => ⟨fun q => absurd q (by decide), fun _ => ?_⟩) (fun M6 o6 nw => ⟨fun _ => b103 _ _ _ (bad (fun q => nw q.2.2.2.2.1) M6 (o5'.trans o6)), fun q => absurd rfl q⟩)
  have o6' := o5'.trans o6
  rw [y2] at f6
  refine h103 _ _ _ _ ⟨fun q => absurd q (by decide), fun _ => ?_⟩
  rw [show (32 : Int32) = sb 32 from by decide]
  refine s_Mo_decimal (hR1 o6') f6 (by omega) (by decide) (fun M7 o7 f7 => ?_)
  have o7' := o6'.trans o7
  have f7' : M7.1 413 61 = ii (((moC bs).2 : Nat) : Int) := f7
  show K120 1 (ll (moA bs).1) (ll (moB bs).1) (ll (moC bs).1) M7
  refine h120 _ _ _ _ _ ⟨fun q => absurd q (by decide), fun _ => ?_⟩
  rw [neg0 rC.1 rC.2.1]
  refine ⟨fun q => b149 _ _ _ _ (bad (fun z => by have := z.2.2.2.2.2.1; omega) M7 o7'), fun pC => ?_⟩
  refine s_Mo_word (hR1 o7') (hW1 o7').2.2.2 (by rw [y3]; decide +kernel) (by omega) (by decide) f7' (by omega) (fun M8 o8 w3 f8 => ⟨fun q => absurd q (by decide), fun _ => ?_⟩) (fun M8 o8 nw => ⟨fun _ => b149 _ _ _ _ (bad (fun q => nw q.2.2.2.2.2.2.1) M8 (o7'.trans o8)), fun q => absurd rfl q⟩)
  have o8' := o7'.trans o8
  rw [y3] at f8
  refine h149 _ _ _ _ _ ⟨fun q => absurd q (by decide), fun _ => ?_⟩
  rw [show (10 : Int32) = sb 10 from by decide]
  refine s_Mo_decimal (hR1 o8') f8 (by omega) (by decide) (fun M9 o9 f9 => ?_)
  have o9' := o8'.trans o9
  have f9' : M9.1 413 61 = ii (((moD bs).2 : Nat) : Int) := f9
  show K166 1 (ll (moA bs).1) (ll (moB bs).1) (ll (moC bs).1) (ll (moD bs).1) M9
  clear h30 h57 h74 h103 h120 h149 b30 b57 b74 b103 b120 b149 b166
  have bad9 : ¬ moOk bs → post 1 M9 := fun q => bad q M9 o9'
  refine h166 _ _ _ _ _ _ ⟨fun q => absurd q (by decide), fun _ => ?_⟩
  rw [neg0 rD.1 rD.2.1, lg_cmp_gt, lg_cmp_gt, lg_cmp_lt, lg_cmp_gt, lg_cmp_lt, lg_cmp_le, show (4294967295 : Int64) = ll 4294967295 from rfl, show (48000 : Int64) = ll 48000 from rfl, show (999 : Int64) = ll 999 from rfl, show (1 : Int64) = ll 1 from rfl, ll_lt (by omega) (by omega) (by omega) (by omega), ll_lt (by omega) (by omega) (by omega) (by omega), ll_lt (by omega) (by omega) (by omega) (by omega), ll_lt (by omega) (by omega) (by omega) (by omega), ll_lt (by omega) (by omega) (by omega) (by omega), ll_le (by omega) (by omega) (by omega) (by omega)]
  refine ⟨fun q => bad9 (fun z => by have := z.2.2.2.2.2.2.2.1; omega), fun d0 => ⟨fun q => bad9 (fun z => by have := z.2.2.2.2.2.2.2.2.1; omega), fun d1 => ⟨fun q => bad9 (fun z => by have := z.2.2.2.2.2.2.2.2.2.1; omega), fun c1 => ⟨fun q => bad9 (fun z => by have := z.2.2.2.2.2.2.2.2.2.2.1; omega), fun n1 => ⟨fun q => bad9 (fun z => by have := z.2.2.2.2.2.2.2.2.2.2.2.1; omega), fun n2 => ⟨fun q => bad9 (fun z => by have := z.2.2.2.2.2.2.2.2.2.2.2.2.1; omega), fun k1 => ⟨fun kn => ?_, fun q => bad9 (fun z => q z.2.2.2.2.2.2.2.2.2.2.2.2.2)⟩⟩⟩⟩⟩⟩⟩
  have hmo : moOk bs := ⟨by rw [t0]; rw [t0] at w0; exact w0, by omega, w1, by omega, w2, by omega, w3, by omega, by omega, by omega, by omega, by omega, by omega, kn⟩
  obtain ⟨hp, eK, eN, eS, eC⟩ := mo_pl hmo
  have pD := mdec_pos bs 10 ((moC bs).2 + 6)
  have pD' : 1 ≤ (moD bs).2 := pD
  have eK1 : (plK bs).1 = (moA bs).1 := by rw [eK]
  have eN1 : (plN bs).1 = (moB bs).1 := by rw [eN]
  have eS1 : (plS bs).1 = (moC bs).1 := by rw [eS]
  have eC1 : (plC bs).1 = (moD bs).1 := by rw [eC]
  have eC2 : (plC bs).2 + 1 = (moD bs).2 := by rw [eC]; show (moD bs).2 - 1 + 1 = _; omega
  unfold TakeR at hT
  rw [eK1, eN1, eS1, eC1, eC2] at hT
  clear bad bad9 f2 f3 f3' f4 f5 f5' f6 f7 f7' f8 f9
  have I9 := hB1 o9'
  have hle := hok.len.1
  have hof := hok.2.2
  obtain ⟨kn', hkn⟩ := Int.eq_ofNat_of_zero_le (show 0 ≤ (moA bs).1 by omega)
  obtain ⟨nn, hnn⟩ := Int.eq_ofNat_of_zero_le (show 0 ≤ (moB bs).1 by omega)
  have main : ¬ (B ≠ [] ∧ (moB bs).1 ≠ of) → K248 (ll (moA bs).1) (ll (moB bs).1) (ll (moC bs).1) (ll (moD bs).1) M9 := by
    intro hn
    refine h248 _ _ _ _ _ ?_
    rintro x rfl
    rw [ll_to32, hkn]
    have has : (bxLook kn' B ≠ none → post 3 M9) := by
      intro q
      rw [← Int.toNat_natCast kn', ← hkn] at q
      rcases hT with ⟨-, hp', -⟩ | ⟨-, -, hp', -⟩ | ⟨hc, -, -, -, r1, r2⟩ | ⟨-, -, -, hp', -⟩ | ⟨-, -, -, hp', -⟩ | ⟨-, -, -, hp', -⟩
      · exact absurd hp hp'
      · exact absurd hp' hn
      · have := kk M9 (mOQ o9') (by rw [r1, r2]; exact I9)
        rw [hc] at this
        exact this
      all_goals exact absurd hp' q
    have next : bxLook kn' B = none → K271 (ll (moB bs).1) (ll (moC bs).1) (ll (moD bs).1) (ii (kn' : Int)) M9 := by
      intro hl
      refine h271 _ _ _ _ _ ?_
      have hl' : bxLook (moA bs).1.toNat B = none := by rw [hkn, Int.toNat_natCast]; exact hl
      rw [(hR1 o9').1, f9', ii_sub, ll_of_ii (by omega) (by omega), lg_cmp_eq, ll_eq (by omega) (by omega) (by omega) (by omega)]
      refine ⟨fun c2 => ?_, fun c2 => ?_⟩
      · rw [ll_to32, ← c2, show ((bs.length : Int) - ((moD bs).2 : Nat)) = ((bs.length - (moD bs).2 : Nat) : Int) by omega]
        have hdl : (bs.drop (moD bs).2).length = bs.length - (moD bs).2 := List.length_drop
        rw [← hdl]
        refine s_sumOf (by rw [hdl, l37]; omega) (fun i hi => by rw [(hR1 o9').2.2 _ (by rw [hdl] at hi; omega), List.getElem_drop]) ?_
        have hu := u32_lt (crc (bs.drop (moD bs).2))
        rw [u32_ll, lg_cmp_eq, ll_eq (by omega) (by omega) (by omega) (by omega)]
        refine ⟨fun c3 => ?_, fun c3 => ?_⟩
        · rcases hT with ⟨-, hp', -⟩ | ⟨-, -, hp', -⟩ | ⟨-, -, -, hp', -⟩ | ⟨-, -, -, -, hp', -⟩ | ⟨-, -, -, -, -, hp', -⟩ | ⟨hc, -, -, -, -, -, r1, r2⟩
          · exact absurd hp hp'
          · exact absurd hp' hn
          · exact absurd hl' hp'
          · exact absurd c2 hp'
          · exact absurd c3 hp'
          · have hT' : TakeR of B bs c of' B' := by
              unfold TakeR
              rw [eK1, eN1, eS1, eC1, eC2]
              exact Or.inr (Or.inr (Or.inr (Or.inr (Or.inr ⟨hc, hp, hn, hl', c2, c3, r1, r2⟩))))
            have hok' := (hT'.ok hok).1
            have e1 : (moA bs).1.toNat = kn' := by rw [hkn]; rfl
            have e2 : of' = nn := by rw [r1, hnn]; rfl
            rw [r2, e1, e2] at hok'
            rw [ll_to32, hnn, hdl, f9']
            refine s_Mo_keep I9 hok' hl (hR1 o9').2 (by omega) (by decide) (fun M10 o10 I10 => ?_)
            have := kk M10 ((mOQ o9').trans (o10.mono (by simp) (by simp))) (by rw [r2, e1, e2]; exact I10)
            rw [hc] at this
            exact this
        · rcases hT with ⟨-, hp', -⟩ | ⟨-, -, hp', -⟩ | ⟨-, -, -, hp', -⟩ | ⟨-, -, -, -, hp', -⟩ | ⟨hc, -, -, -, -, -, r1, r2⟩ | ⟨-, -, -, -, -, hp', -⟩
          · exact absurd hp hp'
          · exact absurd hp' hn
          · exact absurd hl' hp'
          · exact absurd c2 hp'
          · have := kk M9 (mOQ o9') (by rw [r1, r2]; exact I9)
            rw [hc] at this
            exact this
          · exact absurd hp' c3
      · rcases hT with ⟨-, hp', -⟩ | ⟨-, -, hp', -⟩ | ⟨-, -, -, hp', -⟩ | ⟨hc, -, -, -, -, r1, r2⟩ | ⟨-, -, -, -, hp', -⟩ | ⟨-, -, -, -, hp', -⟩
        · exact absurd hp hp'
        · exact absurd hp' hn
        · exact absurd hl' hp'
        · have := kk M9 (mOQ o9') (by rw [r1, r2]; exact I9)
          rw [hc] at this
          exact this
        · exact absurd hp' c2
        · exact absurd hp' c2
    rw [I9.1, show (0 : Int32) = ii 0 from rfl, ii_le (by omega) (by omega) (by omega) (by omega)]
    refine ⟨fun q => next (by rw [List.eq_nil_of_length_eq_zero (show B.length = 0 by omega)]; rfl), fun q => ⟨ii_in (by omega) (by omega) (by omega), ?_⟩⟩
    rw [ii_nat (by omega) (by omega), Int.toNat_natCast, I9.2.2.2.1 kn' (by omega)]
    cases hl : bxLook kn' B with
    | none => exact ⟨fun _ => next hl, fun q => absurd rfl q⟩
    | some p => exact ⟨fun q => absurd (show (1 : Int32) = 0 from q) (by decide), fun _ => has (by rw [hl]; exact fun q => by cases q)⟩
  rw [I9.1, show (0 : Int32) = ii 0 from rfl, ii_le (by omega) (by omega) (by omega) (by omega)]
  refine ⟨fun q => main (fun z => z.1 (List.eq_nil_of_length_eq_zero (by omega))), fun q => ?_⟩
  have hB : B ≠ [] := fun z => q (by rw [z]; simp)
  rw [show ii 0 = (0 : Int32) from rfl, I9.2.1 hB, ll_of_ii (by omega) (by omega), lg_cmp_eq, ll_eq (by omega) (by omega) (by omega) (by omega)]
  refine ⟨fun q2 => main (fun z => z.2 q2.symm), fun q2 => ?_⟩
  have hbad : B ≠ [] ∧ (moB bs).1 ≠ of := ⟨hB, fun z => q2 z.symm⟩
  rcases hT with ⟨-, hp', -⟩ | ⟨hc, -, -, r1, r2⟩ | ⟨-, -, hp', -⟩ | ⟨-, -, hp', -⟩ | ⟨-, -, hp', -⟩ | ⟨-, -, hp', -⟩
  · exact absurd hp hp'
  · have := kk M9 (mOQ o9') (by rw [r1, r2]; exact I9)
    rw [hc] at this
    exact this
  all_goals exact absurd hbad hp'
