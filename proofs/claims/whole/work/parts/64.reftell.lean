/-! about and byteOf: the reference. -/
theorem s_Mo_about {M : zM} {T0 T1 : Tre} {tree what i : Int} {post : Int32 → zM → Prop} (h0 : RtI M 0 T0) (hV0 : TOk T0) (h1 : RtI M 1 T1) (hV1 : TOk T1) (r0 : R32 tree) (r1 : R32 what) (r2 : R32 i)
    (k1 : ∀ M', OnlyR [6] [] M M' → M'.1 413 6 = 1 → ¬ (tree = 0 ∨ tree = 1) → post 0 M')
    (k2 : ∀ M', OnlyR [6] [] M M' → M'.1 413 6 = 2 → (tree = 0 ∨ tree = 1) → ¬ (what = 0 ∨ (1 ≤ what ∧ what ≤ 9 ∧ 0 ≤ i ∧ i < (if tree = 0 then T0 else T1).length)) → post 0 M')
    (k0 : ∀ M', OnlyR [6] [] M M' → M'.1 413 6 = 0 → (tree = 0 ∨ tree = 1) → what = 0 → post (ii (if tree = 0 then T0 else T1).length) M')
    (kk : ∀ M', OnlyR [6] [] M M' → M'.1 413 6 = 0 → (tree = 0 ∨ tree = 1) → 1 ≤ what → what ≤ 9 → ∀ (n : Nat) (hn : n < (if tree = 0 then T0 else T1).length), i = n → post (ii (tellE (if tree = 0 then T0 else T1) (if tree = 0 then T0 else T1)[n] what.toNat : Nat)) M') : Wp_Mo_about 413 (ii tree) (ii what) (ii i) M post := by
  obtain ⟨l8, l9, l10, l11, l12, l13, l14, l15, l16, l17, l18, l19, l20, l21⟩ := l_ref
  unfold R32 at *
  unfold Wp_Mo_about
  intro K14 K54 K76 K101 h14 h54 h76 h101
  have bad : ∀ (w : Int32), 0 < w → (∀ M', OnlyR [6] [] M M' → M'.1 413 6 = w → post 0 M') → K76 w 413 M := by
    intro w hw hk
    refine h76 _ _ _ ⟨by decide, by decide +kernel, ?_⟩
    rintro M1 rfl
    have e6 : (zI M 413 6 w).1 413 6 = w := by rw [zI_g, if_pos ⟨rfl, rfl⟩]
    rw [e6]
    exact ⟨fun z => absurd hw (Int32.not_lt.mpr z), fun _ => hk _ (OnlyR.rf.fld (by simp)) e6⟩
  rw [show (0 : Int32) = ii 0 from rfl, show (1 : Int32) = ii 1 from rfl, ii_eq r0.1 r0.2 (by decide) (by decide), ii_eq r0.1 r0.2 (by decide) (by decide)]
  have main : ∀ (u : Nat) (T : Tre), u ≤ 1 → tree = u → RtI M u T → TOk T → (tree = 0 ∨ tree = 1) → (if tree = 0 then T0 else T1) = T → K14 (ii 1) M := by
    intro u T hu hut hI hV ht eT
    subst hut
    rw [eT] at k2 k0 kk
    have hl := hI.2.1
    have hK2 : ∀ e ∈ T, e.kind ≤ 2 := fun e he => (hV.2.2.1 e he).2.2.2.1
    have no : ¬ (what = 0 ∨ (1 ≤ what ∧ what ≤ 9 ∧ 0 ≤ i ∧ i < T.length)) → K54 (ii 1) 0 M := fun q => h54 _ _ _ ⟨fun _ => ⟨fun z => absurd rfl z, fun _ => bad 2 (by decide) (fun M' o e => k2 M' o e ht q)⟩, fun z => absurd z (by decide)⟩
    have eu : (ii (u : Int)).toNatClampNeg = u := by rw [ii_nat (by omega) (by omega), Int.toNat_natCast]
    have yes : (what = 0 ∨ (1 ≤ what ∧ what ≤ 9 ∧ 0 ≤ i ∧ i < T.length)) → K54 (ii 1) 1 M := by
      intro q
      refine h54 _ _ _ ⟨fun _ => ⟨fun _ => ?_, fun z => absurd z (by decide)⟩, fun z => absurd z (by decide)⟩
      refine h76 _ _ _ ⟨by decide, by decide +kernel, ?_⟩
      rintro M1 hM1
      have e6 : M1.1 413 6 = 0 := by rw [hM1, zI_g, if_pos ⟨rfl, rfl⟩]
      have o1 : OnlyR [6] [] M M1 := by rw [hM1]; exact OnlyR.rf.fld (by simp)
      have I1 : RtI M1 u T := hI.onlyQ o1.q (by simp)
      rw [e6]
      refine ⟨fun _ => ?_, fun z => absurd (by decide) z⟩
      rw [show (0 : Int32) = ii 0 from rfl, ii_eq r1.1 r1.2 (by decide) (by decide)]
      obtain ⟨a1, a2, a3, us, b1, b2, b3, b4⟩ := I1
      have I1 : RtI M1 u T := ⟨a1, a2, a3, us, b1, b2, b3, b4⟩
      have ew : ∀ (n : Nat), n ≤ 9 → (ii what = ii (n : Int) ↔ what = n) := fun n hn => by
        rw [ii_eq r1.1 r1.2 (by omega) (by omega)]
      refine ⟨fun z => ?_, fun z => ?_⟩
      · obtain ⟨n, rfl⟩ := Int.eq_ofNat_of_zero_le (show 0 ≤ i by omega)
        have hn : n < T.length := by omega
        obtain ⟨w, rfl⟩ := Int.eq_ofNat_of_zero_le (show 0 ≤ what by omega)
        have fin := kk M1 o1 e6 ht (by omega) (by omega) n hn rfl
        rw [Int.toNat_natCast] at fin
        unfold Wp_Mo_at
        rw [ei_at]
        obtain ⟨c1, c2, c3, c4, c5, c6, c7, c8, c9, -⟩ := b3 n hn
        have een : (ii ((41 * u + n : Nat) : Int)).toNatClampNeg = 41 * u + n := by rw [ii_nat (by omega) (by omega), Int.toNat_natCast]
        refine h101 _ _ ?_
        rw [een, c1, c4, c5, c6, c7, c8, c9]
        refine ⟨fun y => absurd (show (w : Int) = 0 from (ew 0 (by omega)).mp y) z, fun y => ⟨ii_in (by omega) (by omega) (by omega), ?_⟩, fun y => ⟨ii_in (by omega) (by omega) (by omega), ?_⟩, fun y => ⟨ii_in (by omega) (by omega) (by omega), ?_⟩, fun y => ⟨ii_in (by omega) (by omega) (by omega), ?_⟩, fun y => ⟨ii_in (by omega) (by omega) (by omega), ?_⟩, fun y => ⟨ii_in (by omega) (by omega) (by omega), ?_⟩, fun y => ⟨ii_in (by omega) (by omega) (by omega), ?_⟩, fun y => ?_, fun y0 y1 y2 y3 y4 y5 y6 y7 y8 => ?_⟩
        · have := (ew 1 (by omega)).mp y
          have : w = 1 := by omega
          subst this
          exact fin
        · have := (ew 2 (by omega)).mp y
          have : w = 2 := by omega
          subst this
          exact fin
        · have := (ew 3 (by omega)).mp y
          have : w = 3 := by omega
          subst this
          exact fin
        · have := (ew 4 (by omega)).mp y
          have : w = 4 := by omega
          subst this
          exact fin
        · have := (ew 5 (by omega)).mp y
          have : w = 5 := by omega
          subst this
          exact fin
        · have := (ew 6 (by omega)).mp y
          have : w = 6 := by omega
          subst this
          exact fin
        · have := (ew 7 (by omega)).mp y
          have : w = 7 := by omega
          subst this
          exact fin
        · have := (ew 8 (by omega)).mp y
          have : w = 8 := by omega
          subst this
          exact s_firstOf (by omega) I1 hK2 hV.2.2.2.2.2 hn fin
        · have nine : w = 1 ∨ w = 2 ∨ w = 3 ∨ w = 4 ∨ w = 5 ∨ w = 6 ∨ w = 7 ∨ w = 8 ∨ w = 9 := by omega
          rcases nine with y | y | y | y | y | y | y | y | y
          · exact absurd ((ew 1 (by omega)).mpr (by omega)) y1
          · exact absurd ((ew 2 (by omega)).mpr (by omega)) y2
          · exact absurd ((ew 3 (by omega)).mpr (by omega)) y3
          · exact absurd ((ew 4 (by omega)).mpr (by omega)) y4
          · exact absurd ((ew 5 (by omega)).mpr (by omega)) y5
          · exact absurd ((ew 6 (by omega)).mpr (by omega)) y6
          · exact absurd ((ew 7 (by omega)).mpr (by omega)) y7
          · exact absurd ((ew 8 (by omega)).mpr (by omega)) y8
          · subst y
            exact s_Mo_linksOf (by omega) I1 hK2 hV.2.2.2.2.2 hn fin
      · have fin := k0 M1 o1 e6 ht z
        subst z
        refine h101 _ _ ⟨fun _ => ⟨ii_in (by omega) (by omega) (by omega), ?_⟩, fun y => absurd ((ew 1 (by omega)).mp y) (by decide), fun y => absurd ((ew 2 (by omega)).mp y) (by decide), fun y => absurd ((ew 3 (by omega)).mp y) (by decide), fun y => absurd ((ew 4 (by omega)).mp y) (by decide), fun y => absurd ((ew 5 (by omega)).mp y) (by decide), fun y => absurd ((ew 6 (by omega)).mp y) (by decide), fun y => absurd ((ew 7 (by omega)).mp y) (by decide), fun y => absurd ((ew 8 (by omega)).mp y) (by decide), fun y => absurd rfl y⟩
        rw [eu, a1]
        exact fin
    refine h14 _ _ ⟨fun z => absurd z (by decide), fun _ => ?_⟩
    rw [ii_nneg r1.1 r1.2, ii_nneg r2.1 r2.2, show (9 : Int32) = ii 9 from rfl, show (0 : Int32) = ii 0 from rfl, ii_lt (by decide) (by decide) r1.1 r1.2, ii_eq r1.1 r1.2 (by decide) (by decide), eu, hI.1, ii_le (by omega) (by omega) r2.1 r2.2]
    exact ⟨fun q => no (by omega), fun q1 => ⟨fun q => no (by omega), fun q2 => ⟨fun q => yes (Or.inl q), fun q3 => ⟨fun q => no (by omega), fun q4 => ⟨ii_in (by omega) (by omega) (by omega), fun q => no (by omega), fun q5 => yes (Or.inr (by omega))⟩⟩⟩⟩⟩
  refine ⟨fun q => main 0 T0 (by omega) (by omega) h0 hV0 (Or.inl q) (if_pos q), fun q => ⟨fun q2 => ?_, fun q2 => main 1 T1 (by omega) (by omega) h1 hV1 (Or.inr q2) (if_neg q)⟩⟩
  refine h14 _ _ ⟨fun _ => h54 _ _ _ ⟨fun z => absurd rfl z, fun _ => bad 1 (by decide) (fun M' o e => k1 M' o e (by omega))⟩, fun z => absurd rfl z⟩
theorem s_Mo_byteOf {M : zM} {T0 T1 : Tre} {tree i b : Int} {post : Int32 → zM → Prop} (h0 : RtI M 0 T0) (hV0 : TOk T0) (h1 : RtI M 1 T1) (hV1 : TOk T1) (r0 : R32 tree) (r1 : R32 i) (r2 : R32 b)
    (k1 : ∀ M', OnlyR [6] [] M M' → M'.1 413 6 = 1 → ¬ (tree = 0 ∨ tree = 1) → post 0 M')
    (k2 : ∀ M', OnlyR [6] [] M M' → M'.1 413 6 = 2 → (tree = 0 ∨ tree = 1) → ¬ (∃ (n m : Nat) (hn : n < (if tree = 0 then T0 else T1).length), i = n ∧ b = m ∧ m < ((if tree = 0 then T0 else T1)[n].path ++ (if tree = 0 then T0 else T1)[n].body).length) → post 0 M')
    (kk : ∀ M', OnlyR [6] [] M M' → M'.1 413 6 = 0 → (tree = 0 ∨ tree = 1) → ∀ (n m : Nat) (hn : n < (if tree = 0 then T0 else T1).length), i = n → b = m → ∀ (hm : m < ((if tree = 0 then T0 else T1)[n].path ++ (if tree = 0 then T0 else T1)[n].body).length), post (ii ((((if tree = 0 then T0 else T1)[n].path ++ (if tree = 0 then T0 else T1)[n].body)[m]).toNat : Nat)) M') : Wp_Mo_byteOf 413 (ii tree) (ii i) (ii b) M post := by
  obtain ⟨l8, l9, l10, l11, l12, l13, l14, l15, l16, l17, l18, l19, l20, l21⟩ := l_ref
  unfold R32 at *
  unfold Wp_Mo_byteOf
  intro K14 K69 K91 h14 h69 h91
  have bad : ∀ (w : Int32), 0 < w → (∀ M', OnlyR [6] [] M M' → M'.1 413 6 = w → post 0 M') → K91 w 413 M := by
    intro w hw hk
    refine h91 _ _ _ ⟨by decide, by decide +kernel, ?_⟩
    rintro M1 rfl
    have e6 : (zI M 413 6 w).1 413 6 = w := by rw [zI_g, if_pos ⟨rfl, rfl⟩]
    rw [e6]
    exact ⟨fun z => absurd hw (Int32.not_lt.mpr z), fun _ => hk _ (OnlyR.rf.fld (by simp)) e6⟩
  rw [show (0 : Int32) = ii 0 from rfl, show (1 : Int32) = ii 1 from rfl, ii_eq r0.1 r0.2 (by decide) (by decide), ii_eq r0.1 r0.2 (by decide) (by decide)]
  have main : ∀ (u : Nat) (T : Tre), u ≤ 1 → tree = u → RtI M u T → TOk T → (tree = 0 ∨ tree = 1) → (if tree = 0 then T0 else T1) = T → K14 (ii 1) M := by
    intro u T hu hut hI hV ht eT
    subst hut
    rw [eT] at k2 kk
    have hl := hI.2.1
    have hcT := hI.2.2.1
    have no : ¬ (∃ (n m : Nat) (hn : n < T.length), i = n ∧ b = m ∧ m < (T[n].path ++ T[n].body).length) → K69 (ii 1) 0 M := fun q => h69 _ _ _ ⟨fun _ => ⟨fun z => absurd rfl z, fun _ => bad 2 (by decide) (fun M' o e => k2 M' o e ht q)⟩, fun z => absurd z (by decide)⟩
    have eu : (ii (u : Int)).toNatClampNeg = u := by rw [ii_nat (by omega) (by omega), Int.toNat_natCast]
    refine h14 _ _ ⟨fun z => absurd z (by decide), fun _ => ?_⟩
    rw [ii_nneg r1.1 r1.2, ii_nneg r2.1 r2.2, eu, hI.1, ii_le (by omega) (by omega) r1.1 r1.2]
    refine ⟨fun q => no (by rintro ⟨n, m, hn, x1, x2, x3⟩; omega), fun q1 => ⟨ii_in (by omega) (by omega) (by omega), fun q => no (by rintro ⟨n, m, hn, x1, x2, x3⟩; omega), fun q2 => ⟨fun q => no (by rintro ⟨n, m, hn, x1, x2, x3⟩; omega), fun q3 => ?_⟩⟩⟩
    obtain ⟨n, rfl⟩ := Int.eq_ofNat_of_zero_le (show 0 ≤ i by omega)
    have hn : n < T.length := by omega
    obtain ⟨m, rfl⟩ := Int.eq_ofNat_of_zero_le (show 0 ≤ b by omega)
    have een : (ii ((41 * u + n : Nat) : Int)).toNatClampNeg = 41 * u + n := by rw [ii_nat (by omega) (by omega), Int.toNat_natCast]
    obtain ⟨a1, a2, a3, us, b1, b2, b3, b4⟩ := hI
    obtain ⟨c1, c2, c3, c4, c5, c6, c7, c8, c9, fr, d1, d2, d3⟩ := b3 n hn
    unfold Wp_Mo_at
    rw [ei_at]
    refine ⟨ii_in (by omega) (by omega) (by omega), ii_in (by omega) (by omega) (by omega), ?_⟩
    rw [een, c1, c9, ii_add, ii_le (by omega) (by omega) (by omega) (by omega)]
    refine ⟨fun q => no ?_, fun q => ?_⟩
    · rintro ⟨n', m', hn', x1, x2, x3⟩
      have : n' = n := by omega
      subst this
      rw [List.length_append] at x3
      omega
    · have hm : m < (T[n].path ++ T[n].body).length := by rw [List.length_append]; omega
      refine h69 _ _ _ ⟨fun _ => ⟨fun _ => ?_, fun z => absurd z (by decide)⟩, fun z => absurd z (by decide)⟩
      refine h91 _ _ _ ⟨by decide, by decide +kernel, ?_⟩
      rintro M1 hM1
      have e6 : M1.1 413 6 = 0 := by rw [hM1, zI_g, if_pos ⟨rfl, rfl⟩]
      have o1 : OnlyR [6] [] M M1 := by rw [hM1]; exact OnlyR.rf.fld (by simp)
      have fin := kk M1 o1 e6 ht n m hn rfl rfl hm
      rw [e6]
      refine ⟨fun _ => ?_, fun z => absurd (by decide) z⟩
      unfold Wp_Mo_at
      rw [ei_at]
      refine ⟨ii_in (by omega) (by omega) (by omega), ?_⟩
      rintro x rfl
      rw [een, o1.1 (413 + 10) (by simp) (by decide), o1.1 (413 + 16) (by simp) (by decide), o1.1 (413 + 20) (by simp) (by decide), o1.1 (413 + 9) (by simp) (by decide), c1, d1, ii_le (by omega) (by omega) (by omega) (by omega)]
      refine ⟨fun q4 => ⟨ii_in (by omega) (by omega) (by omega), ?_⟩, fun q4 => ?_⟩
      · have e2 : ((20000 : Int32) * ii (u : Int) + ii (fr : Int)) + ii (m : Int) - ii (T[n].path.length : Int) = ii ((20000 * u + fr + (m - T[n].path.length) : Nat) : Int) := by
          rw [show (20000 : Int32) = ii 20000 from rfl, ii_mul, ii_add, ii_add, ii_sub]
          congr 1
          omega
        rw [e2]
        refine ⟨ii_in (by omega) (by omega) (by omega), ?_⟩
        rw [ii_nat (by omega) (by omega), Int.toNat_natCast, d3 _ (by rw [List.length_append] at hm; omega), show (255 : Int32) = ii 255 from rfl, sb_and]
        rw [List.getElem_append_right (by omega)] at fin
        exact fin
      · rw [sixty]
        refine ⟨ii_in (by omega) (by omega) (by omega), ?_⟩
        rw [ii_nat (by omega) (by omega), Int.toNat_natCast, c3 m (by omega), show (255 : Int32) = ii 255 from rfl, sb_and]
        rw [List.getElem_append_left (show m < T[n].path.length by omega)] at fin
        exact fin
  refine ⟨fun q => main 0 T0 (by omega) (by omega) h0 hV0 (Or.inl q) (if_pos q), fun q => ⟨fun q2 => ?_, fun q2 => main 1 T1 (by omega) (by omega) h1 hV1 (Or.inr q2) (if_neg q)⟩⟩
  refine h14 _ _ ⟨fun _ => h69 _ _ _ ⟨fun z => absurd rfl z, fun _ => bad 1 (by decide) (fun M' o e => k1 M' o e (by omega))⟩, fun z => absurd rfl z⟩
