/-! unpack: the reference's side. -/
theorem s_areSame {M : zM} {a b : Nat} {xs ys : List UInt8} {post : Int32 → zM → Prop} (hx : Ab M a xs) (hy : Ab M b ys) (k : post (if xs = ys then 1 else 0) M) : Wp_Mo_areSame a (ii xs.length) b (ii ys.length) M post := by
  have lx := ln_small a
  have ly := ln_small b
  have hxl := hx.1
  have hyl := hy.1
  unfold Wp_Mo_areSame
  intro K hK
  have bad : xs ≠ ys → ∀ i : Int32, K 0 i M := fun hn i => by
    rw [if_neg hn] at k
    exact hK _ _ _ ⟨fun _ => ⟨rfl, k⟩, fun _ => ⟨fun _ => ⟨rfl, k⟩, fun z => absurd rfl z⟩⟩
  rw [ii_eq (by omega) (by omega) (by omega) (by omega)]
  refine ⟨fun z => bad (fun q => z (by rw [q])) _, fun z => ?_⟩
  have hle : xs.length = ys.length := by omega
  suffices H : ∀ (m i : Nat), i + m = xs.length → (∀ (j : Nat) (h1 : j < xs.length) (h2 : j < ys.length), j < i → xs[j] = ys[j]) → K 1 (ii i) M from H _ 0 (Nat.zero_add _) (fun j _ _ hj => absurd hj (by omega))
  intro m
  induction m with
  | zero =>
    intro i hi hs
    have e : xs = ys := List.ext_getElem hle (fun j h1 h2 => hs j h1 h2 (by omega))
    rw [if_pos e] at k
    exact hK _ _ _ ⟨fun _ => ⟨rfl, k⟩, fun y => absurd (by rw [ii_le (by omega) (by omega) (by omega) (by omega)]; omega) y⟩
  | succ m ih =>
    intro i hi hs
    have h1 : i < xs.length := by omega
    have h2 : i < ys.length := by omega
    refine hK _ _ _ ⟨fun y => ?_, fun _ => ⟨fun y => absurd y (by decide), fun _ => ⟨ii_in (by omega) (by omega) (by omega), ii_in (by omega) (by omega) (by omega), ?_⟩⟩⟩
    · rw [ii_le (by omega) (by omega) (by omega) (by omega)] at y
      omega
    · rw [ii_nat (by omega) (by omega), Int.toNat_natCast, hx.2 i h1, hy.2 i h2, sb_iff]
      refine ⟨fun y => ?_, fun y => ?_⟩
      · rintro x rfl
        refine bad (fun q => y ?_) _
        simp only [q]
      · rintro x rfl
        rw [show (1 : Int32) = ii 1 from rfl, ii_add]
        refine ih (i + 1) (by omega) (fun j x1 x2 hj => ?_)
        by_cases c : j = i
        · subst c; exact y
        · exact hs j x1 x2 (by omega)
def unF : List Nat := [24, 25, 27, 29, 45, 47, 53, 54, 55, 56, 57, 58]
def unS : List Nat := [413 + 21, 413 + 22, 413 + 23, 413 + 24, 413 + 31, 413 + 32, 413 + 33, 413 + 34, 413 + 35, 413 + 36]
def unIn (k j : Nat) : Prop := (k = 413 ∧ j ∈ unF) ∨ k ∈ unS ∨ tIn 2 k j
theorem OnlyR.un {F S : List Nat} {M M' : zM} (h : OnlyR F S M M') (hF : ∀ j, j ∈ F → j ∈ unF) (hS : ∀ k, k ∈ S → k ∈ unS) : FrC unIn M M' := h.frC.mono (fun k j q => by
  rcases q with q | q
  · exact Or.inl ⟨q.1, hF j q.2⟩
  · exact Or.inr (Or.inl (hS k q.1)))
theorem BmI.frC {P : Nat → Nat → Prop} {M M' : zM} {of : Nat} {B : Bx} (h : BmI M of B) (ho : FrC P M M') (h1 : ¬ P 413 37) (h2 : ¬ P 413 38) (h3 : ¬ P 413 43) (h4 : ∀ k j, 413 + 27 ≤ k → k ≤ 413 + 30 → ¬ P k j) : BmI M' of B := by
  obtain ⟨a1, a2, a3, a4, a5⟩ := h
  refine ⟨by rw [ho.1 _ _ h2]; exact a1, fun q => by rw [ho.1 _ _ h1]; exact a2 q, by rw [ho.2]; exact a3, fun k hk => by rw [ho.1 _ _ (h4 _ _ (by omega) (by omega))]; exact a4 k hk, fun ht => ⟨(a5 ht).1.frC ho h3 (fun i _ => h4 _ _ (by omega) (by omega)), fun k p hp => ?_⟩⟩
  rw [ho.1 _ _ (h4 _ _ (by omega) (by omega)), ho.1 _ _ (h4 _ _ (by omega) (by omega))]
  exact (a5 ht).2 k p hp
theorem un_not {j : Nat} : (¬ unIn 413 37) ∧ (¬ unIn 413 38) ∧ (¬ unIn 413 43) ∧ (∀ k j, 413 + 27 ≤ k → k ≤ 413 + 30 → ¬ unIn k j) := by
  refine ⟨?_, ?_, ?_, fun k j h1 h2 => ?_⟩
  · unfold unIn unF unS tIn; simp
  · unfold unIn unF unS tIn; simp
  · unfold unIn unF unS tIn; simp
  · unfold unIn unF unS tIn
    simp
    omega
theorem s_Mo_unpacked {M : zM} {of c : Nat} {B : Bx} {T : Tre} {post : Int32 → zM → Prop} (hB : BmI M of B) (hok : BxOk of B) (hbeg : ∀ (i : Nat) (h : i < 15), M.1 (413 + 2) i = sb ((txt 4).getD i 0)) (htr : Ab M (413 + 1) trName) (hU : UnR of B c T)
    (k1 : ∀ M', c ≠ 0 → FrC unIn M M' → post (ii c) M')
    (k0 : ∀ M', c = 0 → TOk T → FrC unIn M M' → RtI M' 2 T → post 0 M') : Wp_Mo_unpacked 413 M post := by
  have l27 : ln (413 + 27) = 1000 := by decide +kernel
  have l28 : ln (413 + 28) = 1000 := by decide +kernel
  have l29 : ln (413 + 29) = 1000 := by decide +kernel
  have l30 : ln (413 + 30) = 70000 := by decide +kernel
  have l31 : ln (413 + 31) = 56000 := by decide +kernel
  have l32 : ln (413 + 32) = 56000 := by decide +kernel
  have hlen := hok.len
  have hof := hok.2.2
  have nots := un_not (j := 0)
  have keepB : ∀ {M'}, FrC unIn M M' → BmI M' of B := fun f => hB.frC f nots.1 nots.2.1 nots.2.2.1 nots.2.2.2
  have tell : ∀ {M' : zM} (x : Nat), c = x → x ≠ 0 → FrC unIn M M' → post (ii x) M' := by
    intro M' x hx hx0 f
    have := k1 M' (by omega) f
    rw [hx] at this
    exact this
  unfold Wp_Mo_unpacked
  intro K15 K40 K68 K78 K199 h15 h40 h68 h78 h199
  have six : ¬ (B ≠ [] ∧ B.length = of) → K40 0 M := by
    intro hn
    refine h40 _ _ ⟨fun z => absurd rfl z, fun _ => tell 6 ?_ (by omega) FrC.rf⟩
    rcases hU with q | q
    · exact q.1
    · exact absurd q.1 hn
  rw [hB.1, show (0 : Int32) = ii 0 from rfl, ii_le (by omega) (by omega) (by omega) (by omega)]
  refine ⟨fun z => h15 _ _ _ ⟨fun _ => six (fun q => q.1 (List.eq_nil_of_length_eq_zero (by omega))), fun _ => ⟨fun _ => six (fun q => q.1 (List.eq_nil_of_length_eq_zero (by omega))), fun y => absurd rfl y⟩⟩, fun z => ?_⟩
  have hBne : B ≠ [] := fun q => z (by rw [q]; simp)
  -- all the parts
  have all1 : (B ≠ [] ∧ B.length = of) → K40 1 M → True := fun _ _ => trivial
  suffices HA : (B ≠ [] ∧ B.length = of) → K40 1 M by
    suffices H : ∀ (m i : Nat), i + m = of → (∀ k, 1 ≤ k → k ≤ i → bxLook k B ≠ none) → K15 1 (ii ((i + 1 : Nat) : Int)) M from H of 0 (Nat.zero_add _) (fun k h1 h2 => by omega)
    intro m
    induction m with
    | zero =>
      intro i hi hh
      have ei : i = of := by omega
      subst ei
      refine h15 _ _ _ ⟨fun _ => HA ⟨hBne, hlen.2.2.mpr hh⟩, fun y => absurd (by rw [hB.2.1 hBne, ii_lt (by omega) (by omega) (by omega) (by omega)]; omega) y⟩
    | succ m ih =>
      intro i hi hh
      refine h15 _ _ _ ⟨fun y => ?_, fun _ => ⟨fun y => absurd y (by decide), fun _ => ⟨ii_in (by omega) (by omega) (by omega), ?_⟩⟩⟩
      · rw [hB.2.1 hBne, ii_lt (by omega) (by omega) (by omega) (by omega)] at y
        omega
      · rw [ii_nat (by omega) (by omega), Int.toNat_natCast, hB.2.2.2.1 (i + 1) (by omega)]
        rintro x rfl y rfl
        rw [show (1 : Int32) = ii 1 from rfl, ii_add, show (((i + 1 : Nat) : Int) + 1) = ((i + 1 + 1 : Nat) : Int) by omega]
        cases hl : bxLook (i + 1) B with
        | some p =>
          refine ih (i + 1) (by omega) (fun k h1 h2 => ?_)
          by_cases c1 : k = i + 1
          · rw [c1, hl]; exact fun q => by cases q
          · exact hh k h1 (by omega)
        | none =>
          have hn : ¬ (B ≠ [] ∧ B.length = of) := fun q => hlen.2.2.mp q.2 (i + 1) (by omega) (by omega) hl
          exact h15 _ _ _ ⟨fun _ => six hn, fun _ => ⟨fun _ => six hn, fun y => absurd rfl y⟩⟩
  clear six all1
  intro hwh
  refine h40 _ _ ⟨fun _ => ?_, fun y => absurd y (by decide)⟩
  rw [hB.2.2.1, lg_cmp_le, show (48000 : Int64) = ll 48000 from rfl, ll_le (by omega) (by omega) (by omega) (by omega)]
  refine ⟨fun hs => ?_, fun hb => tell 7 ?_ (by omega) FrC.rf⟩
  rotate_left
  · rcases hU with q | ⟨-, q | q⟩
    · exact absurd hwh q.2
    · exact q.1
    · omega
  have hsm : (bxAll B).length ≤ 48000 := by omega
  obtain ⟨hC, hP⟩ := hB.2.2.2.2 hsm
  rintro M1 h1
  have o1 : OnlyR [47] [413 + 32] M M1 := by rw [h1]; exact OnlyR.rf.fld (by simp)
  have R1 : Cw M1 47 (413 + 32) [] := ⟨by rw [h1, zI_g, if_pos ⟨rfl, rfl⟩]; rfl, by simp, fun i hi => absurd hi (by simp)⟩
  -- the text is joined
  suffices HJ : ∀ M2, OnlyR [47] [413 + 32] M M2 → Cw M2 47 (413 + 32) (bxJ B of) → Wp_Mo_unspell 413 M2 (fun M4 => (Wp_Mo_spellRow 413 (413 + 31) (M4.1 413 45) M4 (fun M5 => (Wp_Mo_areSame (413 + 24) (M5.1 413 29) (413 + 32) (M5.1 413 47) M5 (fun x7 M6 => ((¬ x7 = 0 → (((M6.1 413 45) < 3 → (K199 0 M6)) ∧ (¬ (M6.1 413 45) < 3 → (vp_in (2 : Int32) (ln (413 + 31)) ∧ (K199 (((M6.1 (413 + 31) ((2 : Int32)).toNatClampNeg) &&& 255) - 128) M6))))) ∧ (x7 = 0 → (post 7 M6)))))))) by
    suffices H : ∀ (m i : Nat) (M2 : zM), i + m = of → OnlyR [47] [413 + 32] M M2 → Cw M2 47 (413 + 32) (bxJ B i) → K68 (ii ((i + 1 : Nat) : Int)) M2 from H of 0 M1 (Nat.zero_add _) o1 R1
    intro m
    induction m with
    | zero =>
      intro i M2 hi o2 R2
      have ei : i = of := by omega
      have e37 : M2.1 413 37 = ii of := by rw [o2.2.1 37 (by decide)]; exact hB.2.1 hBne
      rw [ei] at R2
      exact h68 _ _ ⟨fun _ => HJ M2 o2 R2, fun y => absurd (by rw [e37, ii_lt (by omega) (by omega) (by omega) (by omega)]; omega) y⟩
    | succ m ih =>
      intro i M2 hi o2 R2
      have e37 : M2.1 413 37 = ii of := by rw [o2.2.1 37 (by decide)]; exact hB.2.1 hBne
      refine h68 _ _ ⟨fun y => ?_, fun _ => ?_⟩
      · rw [e37, ii_lt (by omega) (by omega) (by omega) (by omega)] at y
        omega
      · obtain ⟨p, hp⟩ : ∃ p, bxLook (i + 1) B = some p := by
          cases hc : bxLook (i + 1) B with
          | none => exact absurd hc (hlen.2.2.mp hwh.2 (i + 1) (by omega) (by omega))
          | some p => exact ⟨p, rfl⟩
        obtain ⟨c1, c2⟩ := bxCut (i + 1) p B hp
        obtain ⟨s1, s2⟩ := hP (i + 1) p hp
        have hjl := bxJ_len B (i + 1) hok.1
        have ej : bxJ B (i + 1) = bxJ B i ++ p := by
          show bxJ B i ++ (bxLook (i + 1) B).getD [] = _
          rw [hp]
          rfl
        rw [ej, List.length_append] at hjl
        have e28 : ∀ {M3}, OnlyR [47] [413 + 32] M M3 → M3.1 (413 + 28) (i + 1) = ii p.length := fun o => by rw [o.1 (413 + 28) (by decide) (by decide)]; exact s1
        have e29 : ∀ {M3}, OnlyR [47] [413 + 32] M M3 → M3.1 (413 + 29) (i + 1) = ii (bxOff (i + 1) B) := fun o => by rw [o.1 (413 + 29) (by decide) (by decide)]; exact s2
        suffices H2 : ∀ (mm j : Nat) (M3 : zM), j + mm = p.length → OnlyR [47] [413 + 32] M M3 → Cw M3 47 (413 + 32) (bxJ B i ++ p.take j) → K78 (ii ((i + 1 : Nat) : Int)) (ii j) M3 from H2 _ 0 M2 (Nat.zero_add _) o2 (by simpa using R2)
        intro mm
        induction mm with
        | zero =>
          intro j M3 hj o3 R3
          rw [List.take_of_length_le (by omega)] at R3
          refine h78 _ _ _ ⟨ii_in (by omega) (by omega) (by omega), ?_⟩
          rw [ii_nat (by omega) (by omega), Int.toNat_natCast, e28 o3]
          refine ⟨fun _ => ?_, fun y => absurd (by rw [ii_le (by omega) (by omega) (by omega) (by omega)]; omega) y⟩
          rintro x rfl
          rw [show (1 : Int32) = ii 1 from rfl, ii_add, show (((i + 1 : Nat) : Int) + 1) = ((i + 1 + 1 : Nat) : Int) by omega]
          exact ih (i + 1) M3 (by omega) o3 (by rw [ej]; exact R3)
        | succ mm ih2 =>
          intro j M3 hj o3 R3
          have hjp : j < p.length := by omega
          have hl3 : (bxJ B i ++ p.take j).length = (bxJ B i).length + j := by rw [List.length_append, List.length_take]; omega
          refine h78 _ _ _ ⟨ii_in (by omega) (by omega) (by omega), ?_⟩
          rw [ii_nat (by omega) (by omega), Int.toNat_natCast, e28 o3, e29 o3]
          refine ⟨fun y => ?_, fun _ => ⟨ii_in (by omega) (by omega) (by omega), ?_⟩⟩
          · rw [ii_le (by omega) (by omega) (by omega) (by omega)] at y
            omega
          · rw [ii_add, R3.1, hl3]
            refine ⟨ii_in (by omega) (by omega) (by omega), ii_in (by omega) (by omega) (by omega), ?_⟩
            have hb : M3.1 (413 + 30) (bxOff (i + 1) B + j) = sb p[j] := by
              rw [o3.1 (413 + 30) (by decide) (by decide), hC.2.2 (bxOff (i + 1) B + j) (by omega)]
              congr 1
              have e9 : p[j]? = (bxAll B)[bxOff (i + 1) B + j]? := by
                rw [← c2]
                unfold cut
                rw [List.getElem?_drop, List.getElem?_take_of_lt (by omega)]
              rw [List.getElem?_eq_getElem hjp, List.getElem?_eq_getElem (by omega)] at e9
              exact (Option.some.inj e9).symm
            rw [ii_nat (by omega) (by omega), ii_nat (by omega) (by omega), Int.toNat_natCast, show ((bxOff (i + 1) B : Int) + (j : Int)).toNat = bxOff (i + 1) B + j by omega, hb, nar_b8, b8_sb]
            rintro M4 rfl M5 h5 x rfl
            rw [zI_o (by decide), R3.1, hl3, show (1 : Int32) = ii 1 from rfl, ii_add] at h5
            have hpp := R3.put (b := p[j]) (M' := M5) (by decide) (by omega) (by rw [h5, hl3]; rfl)
            rw [show (1 : Int32) = ii 1 from rfl, ii_add]
            refine ih2 (j + 1) M5 (by omega) (o3.trans hpp.2) ?_
            rw [← List.take_append_getElem hjp, ← List.append_assoc]
            exact hpp.1
  intro M2 o2 R2
  have htxl : (bxJ B of).length ≤ 48000 := by have := bxJ_len B of hok.1; omega
  have f2 : FrC unIn M M2 := o2.un (by decide) (by decide)
  generalize hTX : bxJ B of = tx at *
  refine s_unspell R2 htxl (fun M3 out o3 R3 hol36 hrd => ?_)
  have f3 : FrC unIn M M3 := f2.trans (o3.un (by decide) (by decide))
  rw [R3.1]
  have hsl := spell_len out
  refine s_spellRow R3.2 (by decide) (by decide) (by omega) (fun i hi => by rw [o3.1 (413 + 2) (by decide) (by decide), o2.1 (413 + 2) (by decide) (by decide)]; exact hbeg i hi) (fun M4 o4 R4 => ?_)
  have f4 : FrC unIn M M4 := f3.trans (o4.un (by decide) (by decide))
  have T4 : Cw M4 47 (413 + 32) tx := (R2.only o3 (by decide) (by decide) (by decide)).only o4 (by decide) (by decide) (by decide)
  have Q4 : Cw M4 45 (413 + 31) out := R3.only o4 (by decide) (by decide) (by decide)
  rw [R4.1, T4.1]
  refine s_areSame R4.2 T4.2 ?_
  by_cases hsame : spell out = tx
  rotate_left
  · rw [if_neg hsame]
    refine ⟨fun q => absurd rfl q, fun _ => tell 7 ?_ (by omega) f4⟩
    rcases hU with q | ⟨-, q | ⟨-, r, hr, -⟩⟩
    · exact absurd hwh q.2
    · exact q.1
    · rw [hTX] at hr
      exact absurd (by rw [hrd r hr, hr]) hsame
  rw [if_pos hsame]
  refine ⟨fun _ => ?_, fun q => absurd q (by decide)⟩
  have eight : ¬ (out.length ≤ 30000 ∧ ∃ g p, 9 ≤ g ∧ g ≤ 16 ∧ p.length ≤ 16000 ∧ out = press g p) → c = 8 := by
    intro hn
    rcases hU with q | ⟨-, q | ⟨-, r, hr, q | ⟨q1, g, p, q2, q3, q4, q5, -⟩⟩⟩
    · exact absurd hwh q.2
    · rcases q.2 with q | q
      · omega
      · exact absurd ⟨out, by rw [hTX, hsame]⟩ q
    · exact q.1
    · rw [hTX] at hr
      rw [← hrd r hr] at q1 q5
      exact absurd ⟨q1, g, p, q2, q3, q4, q5⟩ hn
  have low : ∀ g p, 9 ≤ g → g ≤ 16 → p.length ≤ 16000 → out = press g p → out.length ≤ 30000 → ∃ g' p', 9 ≤ g' ∧ g' ≤ 16 ∧ p'.length ≤ 16000 ∧ out = press g' p' ∧ ((c = 9 ∧ ¬ ∃ T0, TOk T0 ∧ smallT T0 ∧ NFT T0 ∧ p' = arc T0) ∨ (c = 0 ∧ TOk T ∧ smallT T ∧ NFT T ∧ p' = arc T)) := by
    intro g p g1 g2 g3 g4 g5
    rcases hU with q | ⟨-, q | ⟨-, r, hr, q | ⟨q1, g', p', q2, q3, q4, q5, q6⟩⟩⟩
    · exact absurd hwh q.2
    · rcases q.2 with q | q
      · omega
      · exact absurd ⟨out, by rw [hTX, hsame]⟩ q
    · rw [hTX] at hr
      rw [← hrd r hr] at q
      exact absurd ⟨g5, g, p, g1, g2, g3, g4⟩ q.2
    · rw [hTX] at hr
      rw [← hrd r hr] at q5
      exact ⟨g', p', q2, q3, q4, q5, q6⟩
  have head : ∀ (g : Nat) (p : List UInt8), 9 ≤ g → g ≤ 16 → out = press g p → ∃ h : 2 < out.length, (out[2]'h).toNat = 128 + g := by
    intro g p h1 h2 h3
    have hl3 : 3 ≤ out.length := by rw [h3, press_len]; omega
    have e2 : out[2]? = some (UInt8.ofNat (128 + g)) := by rw [h3]; rfl
    rw [List.getElem?_eq_getElem (by omega)] at e2
    refine ⟨by omega, ?_⟩
    rw [Option.some.inj e2, UInt8.toNat_ofNat']
    omega
  have z2c : ((2 : Int32)).toNatClampNeg = 2 := by decide
  have ev2 : ∀ h : 2 < out.length, ((M4.1 (413 + 31) ((2 : Int32)).toNatClampNeg) &&& (255 : Int32)) - (128 : Int32) = ii ((((out[2]'h).toNat : Nat) : Int) - 128) := fun h => by
    rw [z2c, Q4.2.2 2 h, show (255 : Int32) = ii 255 from rfl, sb_and, show (128 : Int32) = ii 128 from rfl, ii_sub]
  -- the rest
  have rest : ∀ w : Int, -200 ≤ w → w ≤ 200 → (∀ g p, 9 ≤ g → g ≤ 16 → out = press g p → w = g) → (9 ≤ w → 3 ≤ out.length) → K199 (ii w) M4 := by
    intro w w1 w2 hwg hw3
    refine h199 _ _ ?_
    rw [Q4.1, show (30000 : Int32) = ii 30000 from rfl, show (9 : Int32) = ii 9 from rfl, show (16 : Int32) = ii 16 from rfl, ii_lt (by omega) (by omega) (by omega) (by omega), ii_lt (by omega) (by omega) (by omega) (by omega), ii_lt (by omega) (by omega) (by omega) (by omega)]
    refine ⟨fun y => tell 8 (eight (fun q => by omega)) (by omega) f4, fun y => ⟨fun y2 => tell 8 (eight (fun q => ?_)) (by omega) f4, fun y2 => ⟨fun y3 => tell 8 (eight (fun q => ?_)) (by omega) f4, fun y3 => ?_⟩⟩⟩
    · obtain ⟨-, g, p, g1, g2, g3, g4⟩ := q
      have := hwg g p g1 g2 g4
      omega
    · obtain ⟨-, g, p, g1, g2, g3, g4⟩ := q
      have := hwg g p g1 g2 g4
      omega
    obtain ⟨g, rfl⟩ := Int.eq_ofNat_of_zero_le (show 0 ≤ w by omega)
    have hg1 : 9 ≤ g := by omega
    have hg2 : g ≤ 16 := by omega
    have hol : out.length ≤ 30000 := by omega
    refine s_Mo_expand Q4 hol (hw3 (by omega)) hg1 hg2 (fun M5 pl v5 o5 R5 hpl hv5 hex => ?_)
    have f5 : FrC unIn M M5 := f4.trans (o5.un (by decide) (by decide))
    have Q5 : Cw M5 45 (413 + 31) out := Q4.only o5 (by decide) (by decide) (by decide)
    have no8 : ∀ M', FrC unIn M M' → (∀ p, p.length ≤ 16000 → out = press g p → False) → post 8 M' := fun M' f hn => tell 8 (eight (fun q => by
      obtain ⟨-, g', p, g1, g2, g3, g4⟩ := q
      have hgg := hwg g' p g1 g2 g4
      have : g' = g := by omega
      subst this
      exact hn p g3 g4)) (by omega) f
    rcases hv5 with hv5 | hv5
    · rw [hv5]
      refine ⟨fun q => absurd rfl q, fun _ => no8 M5 f5 (fun p q1 q2 => ?_)⟩
      have := (hex p q2 q1).1
      rw [hv5] at this
      exact absurd this (by decide)
    rw [hv5]
    refine ⟨fun _ => ?_, fun q => absurd q (by decide)⟩
    have heb := enc_bound (g := g) (bs := pl) hg1 hg2 hpl
    rw [R5.1]
    refine s_compressRow R5.2 hg1 hg2 (by omega) (by decide) (fun M6 o6 R6 => ?_)
    have f6 : FrC unIn M M6 := f5.trans (o6.un (by decide) (by decide))
    have Q6 : Cw M6 45 (413 + 31) out := Q5.only o6 (by decide) (by decide) (by decide)
    have P6 : Cw M6 47 (413 + 32) pl := R5.only o6 (by decide) (by decide) (by decide)
    rw [R6.1, Q6.1]
    refine s_areSame R6.2 Q6.2 ?_
    by_cases hsame2 : press g pl = out
    rotate_left
    · rw [if_neg hsame2]
      refine ⟨fun q => absurd rfl q, fun _ => no8 M6 f6 (fun p q1 q2 => ?_)⟩
      exact hsame2 (by rw [(hex p q2 q1).2, q2])
    rw [if_pos hsame2]
    refine ⟨fun _ => ?_, fun q => absurd q (by decide)⟩
    obtain ⟨g', p', x1, x2, x3, x4, x5⟩ := low g pl hg1 hg2 hpl hsame2.symm hol
    have hgg := hwg g' p' x1 x2 x4
    have hg' : g' = g := by omega
    subst hg'
    have hpp : pl = p' := (hex p' x4 x3).2
    rw [← hpp] at x5
    refine s_readTree P6 hpl (fun M7 v7 f67 hv7 hg7 => ?_)
    have f7 : FrC unIn M M7 := f6.trans (f67.mono (fun k j q => by
      unfold rtIn at q
      rcases q with q | q | q
      · exact Or.inr (Or.inr q)
      · exact Or.inl ⟨q.1, by rw [q.2]; decide⟩
      · exact Or.inr (Or.inl (by rw [q]; decide))))
    have mk9 : (∀ T0, TOk T0 → smallT T0 → NFT T0 → pl = arc T0 → False) → c = 9 := by
      intro hn
      rcases x5 with x5 | x5
      · exact x5.1
      · exact (hn T x5.2.1 x5.2.2.1 x5.2.2.2.1 x5.2.2.2.2).elim
    clear eight low hU no8
    rcases hv7 with hv7 | ⟨hv7, T', t1, t2, t3⟩
    · rw [hv7]
      refine ⟨fun q => absurd rfl q, fun _ => tell 9 (mk9 (fun T0 a1 a2 a3 a4 => ?_)) (by omega) f7⟩
      have := (hg7 T0 a1 a2 a3 a4).1
      rw [hv7] at this
      exact absurd this (by decide)
    rw [hv7]
    refine ⟨fun _ => ?_, fun q => absurd q (by decide)⟩
    have P7 : Cw M7 47 (413 + 32) pl := P6.frC f67 (by unfold rtIn tIn; omega) (fun i hi => by unfold rtIn tIn; omega)
    have tr7 : Ab M7 (413 + 1) trName := ⟨htr.1, fun i hi => by rw [f7.1 _ _ (by unfold unIn unS tIn; simp)]; exact htr.2 i hi⟩
    -- the archive of what was read
    have arch : ∀ Tx, TOk Tx → RtI M7 2 Tx → (∀ M8, OnlyR [25] [413 + 22] M7 M8 → Cw M8 25 (413 + 22) (arc Tx) → (if arc Tx = pl then post 0 M8 else post 9 M8)) → Wp_Mo_archiveOf 413 2 M7 (fun M15 => (Wp_Mo_areSame (413 + 22) (M15.1 413 25) (413 + 32) (M15.1 413 47) M15 (fun x17 M16 => ((x17 = 0 → (post 9 M16)) ∧ (¬ x17 = 0 → (post 0 M16)))))) := by
      intro Tx y1 y2 y3
      show Wp_Mo_archiveOf 413 (ii ((2 : Nat) : Int)) M7 _
      refine s_archiveOf (by omega) y2 y1 tr7 (fun M8 o8 R8 => ?_)
      have P8 : Cw M8 47 (413 + 32) pl := P7.only o8 (by decide) (by decide) (by decide)
      rw [R8.1, P8.1]
      refine s_areSame R8.2 P8.2 ?_
      have y4 := y3 M8 o8 R8
      by_cases hq : arc Tx = pl
      · rw [if_pos hq] at y4 ⊢
        exact ⟨fun q => absurd q (by decide), fun _ => y4⟩
      · rw [if_neg hq] at y4 ⊢
        exact ⟨fun _ => y4, fun q => absurd rfl q⟩
    rcases x5 with x5 | x5
    · refine arch T' t1 t3 (fun M8 o8 R8 => ?_)
      have hq : ¬ arc T' = pl := fun hq => by
        obtain ⟨n1, n2, n3, n4⟩ := nrm_good t1 t2
        exact x5.2 ⟨nrm T', n1, n2, n3, by rw [n4]; exact hq.symm⟩
      rw [if_neg hq]
      exact tell 9 x5.1 (by omega) (f7.trans (o8.un (by decide) (by decide)))
    · have hRT := (hg7 T x5.2.1 x5.2.2.1 x5.2.2.2.1 x5.2.2.2.2).2
      refine arch T x5.2.1 hRT (fun M8 o8 R8 => ?_)
      rw [if_pos x5.2.2.2.2.symm]
      exact k0 M8 x5.1 x5.2.1 (f7.trans (o8.un (by decide) (by decide))) (hRT.onlyQ o8.q (by decide))
  rw [Q4.1, show (3 : Int32) = ii 3 from rfl, ii_lt (by omega) (by omega) (by omega) (by omega)]
  refine ⟨fun y => rest 0 (by omega) (by omega) (fun g p h1 h2 h3 => ?_) (fun q => by omega), fun y => ⟨by unfold vp_in; rw [l31]; decide, ?_⟩⟩
  · obtain ⟨q1, q2⟩ := head g p h1 h2 h3
    omega
  · have h2l : 2 < out.length := by omega
    have hb2 := UInt8.toNat_lt out[2]
    rw [ev2 h2l]
    refine rest _ (by omega) (by omega) (fun g p h1 h2 h3 => ?_) (fun _ => by omega)
    obtain ⟨q1, q2⟩ := head g p h1 h2 h3
    omega
