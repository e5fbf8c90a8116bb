/-! The reference's trees: an entry comes in. -/
section RT3
variable {M : zM} {u : Nat} {T : Tre} {p : List UInt8}
theorem s_copyAttributes {to e : Nat} {post : zM → Prop} (hto : to < 123) (he : e < 123) (k : ∀ M', FrC (fun k j => 413 + 11 ≤ k ∧ k ≤ 413 + 18 ∧ j = to) M M' → (∀ a, 11 ≤ a → a ≤ 18 → M'.1 (413 + a) to = M.1 (413 + a) e) → post M') : Wp_Mo_copyAttributes 413 (ii to) (ii e) M post := by
  obtain ⟨l8, l9, l10, l11, l12, l13, l14, l15, l16, l17, l18, l19, l20, l21⟩ := l_ref
  have et : (ii (to : Int)).toNatClampNeg = to := by rw [ii_nat (by omega) (by omega), Int.toNat_natCast]
  have ee : (ii (e : Int)).toNatClampNeg = e := by rw [ii_nat (by omega) (by omega), Int.toNat_natCast]
  unfold Wp_Mo_copyAttributes
  rw [et, ee]
  refine ⟨ii_in (by omega) (by omega) (by omega), ii_in (by omega) (by omega) (by omega), ?_⟩
  rintro M1 h1
  have t1 : ∀ a, a ≠ 11 → M1.1 (413 + a) = M.1 (413 + a) := fun a n1 => by rw [h1, zI_o (by omega)]
  have g1 : M1.1 (413 + 11) to = M.1 (413 + 11) e := by rw [h1, zI_g, if_pos ⟨rfl, rfl⟩]
  refine ⟨ii_in (by omega) (by omega) (by omega), ii_in (by omega) (by omega) (by omega), ?_⟩
  rintro M2 h2
  have t2 : ∀ a, a ≠ 11 → a ≠ 12 → M2.1 (413 + a) = M.1 (413 + a) := fun a n1 n2 => by rw [h2, zI_o (by omega), t1 a n1]
  have g2 : M2.1 (413 + 12) to = M.1 (413 + 12) e := by rw [h2, zI_g, if_pos ⟨rfl, rfl⟩, t1 12 (by omega)]
  refine ⟨ii_in (by omega) (by omega) (by omega), ii_in (by omega) (by omega) (by omega), ?_⟩
  rintro M3 h3
  have t3 : ∀ a, a ≠ 11 → a ≠ 12 → a ≠ 13 → M3.1 (413 + a) = M.1 (413 + a) := fun a n1 n2 n3 => by rw [h3, zI_o (by omega), t2 a n1 n2]
  have g3 : M3.1 (413 + 13) to = M.1 (413 + 13) e := by rw [h3, zI_g, if_pos ⟨rfl, rfl⟩, t2 13 (by omega) (by omega)]
  refine ⟨ii_in (by omega) (by omega) (by omega), ii_in (by omega) (by omega) (by omega), ?_⟩
  rintro M4 h4
  have t4 : ∀ a, a ≠ 11 → a ≠ 12 → a ≠ 13 → a ≠ 14 → M4.1 (413 + a) = M.1 (413 + a) := fun a n1 n2 n3 n4 => by rw [h4, zI_o (by omega), t3 a n1 n2 n3]
  have g4 : M4.1 (413 + 14) to = M.1 (413 + 14) e := by rw [h4, zI_g, if_pos ⟨rfl, rfl⟩, t3 14 (by omega) (by omega) (by omega)]
  refine ⟨ii_in (by omega) (by omega) (by omega), ii_in (by omega) (by omega) (by omega), ?_⟩
  rintro M5 h5
  have t5 : ∀ a, a ≠ 11 → a ≠ 12 → a ≠ 13 → a ≠ 14 → a ≠ 15 → M5.1 (413 + a) = M.1 (413 + a) := fun a n1 n2 n3 n4 n5 => by rw [h5, zI_o (by omega), t4 a n1 n2 n3 n4]
  have g5 : M5.1 (413 + 15) to = M.1 (413 + 15) e := by rw [h5, zI_g, if_pos ⟨rfl, rfl⟩, t4 15 (by omega) (by omega) (by omega) (by omega)]
  refine ⟨ii_in (by omega) (by omega) (by omega), ii_in (by omega) (by omega) (by omega), ?_⟩
  rintro M6 h6
  have t6 : ∀ a, a ≠ 11 → a ≠ 12 → a ≠ 13 → a ≠ 14 → a ≠ 15 → a ≠ 16 → M6.1 (413 + a) = M.1 (413 + a) := fun a n1 n2 n3 n4 n5 n6 => by rw [h6, zI_o (by omega), t5 a n1 n2 n3 n4 n5]
  have g6 : M6.1 (413 + 16) to = M.1 (413 + 16) e := by rw [h6, zI_g, if_pos ⟨rfl, rfl⟩, t5 16 (by omega) (by omega) (by omega) (by omega) (by omega)]
  refine ⟨ii_in (by omega) (by omega) (by omega), ii_in (by omega) (by omega) (by omega), ?_⟩
  rintro M7 h7
  have t7 : ∀ a, a ≠ 11 → a ≠ 12 → a ≠ 13 → a ≠ 14 → a ≠ 15 → a ≠ 16 → a ≠ 17 → M7.1 (413 + a) = M.1 (413 + a) := fun a n1 n2 n3 n4 n5 n6 n7 => by rw [h7, zI_o (by omega), t6 a n1 n2 n3 n4 n5 n6]
  have g7 : M7.1 (413 + 17) to = M.1 (413 + 17) e := by rw [h7, zI_g, if_pos ⟨rfl, rfl⟩, t6 17 (by omega) (by omega) (by omega) (by omega) (by omega) (by omega)]
  refine ⟨ii_in (by omega) (by omega) (by omega), ii_in (by omega) (by omega) (by omega), ?_⟩
  rintro M8 h8
  have t8 : ∀ a, a ≠ 11 → a ≠ 12 → a ≠ 13 → a ≠ 14 → a ≠ 15 → a ≠ 16 → a ≠ 17 → a ≠ 18 → M8.1 (413 + a) = M.1 (413 + a) := fun a n1 n2 n3 n4 n5 n6 n7 n8 => by rw [h8, zI_o (by omega), t7 a n1 n2 n3 n4 n5 n6 n7]
  have g8 : M8.1 (413 + 18) to = M.1 (413 + 18) e := by rw [h8, zI_g, if_pos ⟨rfl, rfl⟩, t7 18 (by omega) (by omega) (by omega) (by omega) (by omega) (by omega) (by omega)]
  have fr : FrC (fun k j => 413 + 11 ≤ k ∧ k ≤ 413 + 18 ∧ j = to) M M8 := by
    rw [h8, h7, h6, h5, h4, h3, h2, h1]
    exact (((((((FrC.rf.zI (by omega)).zI (by omega)).zI (by omega)).zI (by omega)).zI (by omega)).zI (by omega)).zI (by omega)).zI (by omega)
  refine k M8 fr (fun a a1 a2 => ?_)
  by_cases c1 : a = 11
  · subst c1
    rw [h8, zI_o (by omega)]; rw [h7, zI_o (by omega)]; rw [h6, zI_o (by omega)]; rw [h5, zI_o (by omega)]; rw [h4, zI_o (by omega)]; rw [h3, zI_o (by omega)]; rw [h2, zI_o (by omega)]; exact g1
  by_cases c2 : a = 12
  · subst c2
    rw [h8, zI_o (by omega)]; rw [h7, zI_o (by omega)]; rw [h6, zI_o (by omega)]; rw [h5, zI_o (by omega)]; rw [h4, zI_o (by omega)]; rw [h3, zI_o (by omega)]; exact g2
  by_cases c3 : a = 13
  · subst c3
    rw [h8, zI_o (by omega)]; rw [h7, zI_o (by omega)]; rw [h6, zI_o (by omega)]; rw [h5, zI_o (by omega)]; rw [h4, zI_o (by omega)]; exact g3
  by_cases c4 : a = 14
  · subst c4
    rw [h8, zI_o (by omega)]; rw [h7, zI_o (by omega)]; rw [h6, zI_o (by omega)]; rw [h5, zI_o (by omega)]; exact g4
  by_cases c5 : a = 15
  · subst c5
    rw [h8, zI_o (by omega)]; rw [h7, zI_o (by omega)]; rw [h6, zI_o (by omega)]; exact g5
  by_cases c6 : a = 16
  · subst c6
    rw [h8, zI_o (by omega)]; rw [h7, zI_o (by omega)]; exact g6
  by_cases c7 : a = 17
  · subst c7
    rw [h8, zI_o (by omega)]; exact g7
  by_cases c8 : a = 18
  · subst c8
    exact g8
  omega
/-- entry e' is what entry e was -/
def eqE (M' : zM) (e' : Nat) (M : zM) (e : Nat) : Prop := (∀ a, 10 ≤ a → a ≤ 18 → M'.1 (413 + a) e' = M.1 (413 + a) e) ∧ (∀ k, k < 60 → M'.1 (413 + 9) (60 * e' + k) = M.1 (413 + 9) (60 * e + k) ∨ M'.1 (413 + 9) (60 * e' + k) = vp_nar .byte (M.1 (413 + 9) (60 * e + k)))
def eIn (to k j : Nat) : Prop := (413 + 10 ≤ k ∧ k ≤ 413 + 18 ∧ j = to) ∨ (k = 413 + 9 ∧ 60 * to ≤ j ∧ j < 60 * to + 60)
theorem s_copyEntry {to e : Nat} {post : zM → Prop} (hto : to < 123) (he : e < 123) (hne : to ≠ e) (k : ∀ M', FrC (eIn to) M M' → eqE M' to M e → post M') : Wp_Mo_copyEntry 413 (ii to) (ii e) M post := by
  obtain ⟨l8, l9, l10, l11, l12, l13, l14, l15, l16, l17, l18, l19, l20, l21⟩ := l_ref
  have et : (ii (to : Int)).toNatClampNeg = to := by rw [ii_nat (by omega) (by omega), Int.toNat_natCast]
  have ee : (ii (e : Int)).toNatClampNeg = e := by rw [ii_nat (by omega) (by omega), Int.toNat_natCast]
  unfold Wp_Mo_copyEntry
  intro K hK
  rw [et, ee]
  refine ⟨ii_in (by omega) (by omega) (by omega), ii_in (by omega) (by omega) (by omega), ?_⟩
  rintro M1 h1
  have f1 : FrC (eIn to) M M1 := by
    rw [h1]
    exact FrC.rf.zI (Or.inl (by omega))
  have g1 : M1.1 (413 + 10) to = M.1 (413 + 10) e := by rw [h1, zI_g, if_pos ⟨rfl, rfl⟩]
  have t1 : ∀ a, 11 ≤ a → a ≤ 18 → M1.1 (413 + a) = M.1 (413 + a) := fun a a1 a2 => by rw [h1, zI_o (by omega)]
  have p1 : M1.1 (413 + 9) = M.1 (413 + 9) := by rw [h1, zI_o (by omega)]
  suffices H : ∀ (m i : Nat) (M2 : zM), i + m = 60 → FrC (eIn to) M M2 → M2.1 (413 + 10) to = M.1 (413 + 10) e → (∀ a, 11 ≤ a → a ≤ 18 → M2.1 (413 + a) = M.1 (413 + a)) → (∀ j, j < i → M2.1 (413 + 9) (60 * to + j) = vp_nar .byte (M.1 (413 + 9) (60 * e + j))) → K (ii i) M2 from H 60 0 M1 rfl f1 g1 t1 (fun j hj => absurd hj (by omega))
  intro m
  induction m with
  | zero =>
    intro i M2 hi f2 g2 t2 p2
    refine hK _ _ ⟨fun _ => ?_, fun z => absurd (by rw [show (60 : Int32) = ii 60 from rfl, ii_le (by omega) (by omega) (by omega) (by omega)]; omega) z⟩
    have hC : Wp_Mo_copyAttributes 413 (ii to) (ii e) M2 post := s_copyAttributes hto he (fun M3 f3 g3 => k M3 (f2.trans (f3.mono (fun k j q => Or.inl (by omega)))) ⟨fun a a1 a2 => ?_, fun j hj => Or.inr ?_⟩)
    · unfold Wp_Mo_copyAttributes at hC
      exact hC
    · by_cases c : a = 10
      · subst c
        rw [f3.1 _ _ (by omega)]
        exact g2
      · rw [g3 a (by omega) a2, t2 a (by omega) a2]
    · rw [f3.1 _ _ (by omega)]
      exact p2 j (by omega)
  | succ m ih =>
    intro i M2 hi f2 g2 t2 p2
    refine hK _ _ ⟨fun z => ?_, fun _ => ?_⟩
    · rw [show (60 : Int32) = ii 60 from rfl, ii_le (by omega) (by omega) (by omega) (by omega)] at z
      omega
    · rw [sixty, sixty]
      refine ⟨ii_in (by omega) (by omega) (by omega), ii_in (by omega) (by omega) (by omega), ?_⟩
      rw [ii_nat (by omega) (by omega), ii_nat (by omega) (by omega), Int.toNat_natCast, Int.toNat_natCast, f2.1 (413 + 9) (60 * e + i) (by unfold eIn; omega)]
      rintro M3 rfl x rfl
      rw [show (1 : Int32) = ii 1 from rfl, ii_add]
      refine ih (i + 1) _ (by omega) (f2.zI (Or.inr (by omega))) (by rw [zI_o (by omega)]; exact g2) (fun a a1 a2 => by rw [zI_o (by omega)]; exact t2 a a1 a2) (fun j hj => ?_)
      rw [zI_g]
      by_cases c : j = i
      · subst c
        rw [if_pos ⟨rfl, rfl⟩]
      · rw [if_neg (fun z => c (by omega))]
        exact p2 j (by omega)
theorem plc_char (key : List UInt8) : ∀ (T : Tre) (i : Nat), i ≤ T.length → (∀ (j : Nat) (hj : j < T.length), j < i → cmpB T[j].path key < 0) → (∀ hi : i < T.length, ¬ cmpB T[i].path key < 0) → plc key T = i
  | [], i, h, _, _ => by
    have : i = 0 := by simpa using h
    rw [this]
    rfl
  | e :: t, 0, _, _, h3 => by
    have h3' : ¬ cmpB e.path key < 0 := h3 (by simp)
    show (if cmpB e.path key < 0 then plc key t + 1 else 0) = 0
    rw [if_neg h3']
  | e :: t, i + 1, h, h2, h3 => by
    have h2' : cmpB e.path key < 0 := h2 0 (by simp) (by omega)
    show (if cmpB e.path key < 0 then plc key t + 1 else 0) = i + 1
    rw [if_pos h2', plc_char key t i (by simpa using h) (fun j hj hji => h2 (j + 1) (by simpa using hj) (by omega)) (fun hi => h3 (by simpa using hi))]
/-- the cells of the entries up to the nth of tree u, and its count -/
def nIn (u n k j : Nat) : Prop := (k = 413 + 8 ∧ j = u) ∨ (413 + 10 ≤ k ∧ k ≤ 413 + 18 ∧ 41 * u ≤ j ∧ j ≤ 41 * u + n) ∨ (k = 413 + 9 ∧ 60 * (41 * u) ≤ j ∧ j < 60 * (41 * u + n) + 60)
theorem s_Mo_enter {post : Int32 → zM → Prop} (hu : u ≤ 2) (h : Cw M 24 (413 + 21) p) (hI : RtI M u T) (hS : Srt T) (hfree : ∀ e ∈ T, e.path ≠ p) (hl40 : T.length < 40)
    (k : ∀ M', FrC (nIn u T.length) M M' → M'.1 (413 + 8) u = ii ((T.length + 1 : Nat) : Int) → (∀ j, j < plc p T → eqE M' (41 * u + j) M (41 * u + j)) → (∀ j, plc p T ≤ j → j < T.length → eqE M' (41 * u + j + 1) M (41 * u + j)) → M'.1 (413 + 10) (41 * u + plc p T) = ii p.length → (∀ (i : Nat) (hi : i < p.length), M'.1 (413 + 9) (60 * (41 * u + plc p T) + i) = sb p[i]) → post (ii ((41 * u + plc p T : Nat) : Int)) M') : Wp_Mo_enter 413 (ii u) M post := by
  obtain ⟨l8, l9, l10, l11, l12, l13, l14, l15, l16, l17, l18, l19, l20, l21⟩ := l_ref
  have hpl : p.length ≤ 60 := by have := h.2.1; omega
  have hple := plc_le p T
  have eu : (ii (u : Int)).toNatClampNeg = u := by rw [ii_nat (by omega) (by omega), Int.toNat_natCast]
  obtain ⟨a1, a2, a3, us, b1, b2, b3, b4⟩ := hI
  unfold Wp_Mo_enter
  intro K7 K51 K80 h7 h51 h80
  rw [eu]
  refine ⟨ii_in (by omega) (by omega) (by omega), ?_⟩
  rintro x rfl
  rw [a1]
  suffices H : ∀ (i : Nat) (M1 : zM), i ≤ T.length → FrC (nIn u T.length) M M1 → M1.1 (413 + 8) = M.1 (413 + 8) → (∀ j, j < i → eqE M1 (41 * u + j) M (41 * u + j) ∧ (∀ q, q < 60 → M1.1 (413 + 9) (60 * (41 * u + j) + q) = M.1 (413 + 9) (60 * (41 * u + j) + q))) → (∀ j, i ≤ j → j < T.length → eqE M1 (41 * u + j + 1) M (41 * u + j)) → (∀ (j : Nat) (hj : j < T.length), i ≤ j → 0 < cmpB T[j].path p) → K7 (ii i) M1 from
    H T.length M (Nat.le_refl _) FrC.rf rfl (fun j hj => ⟨⟨fun a _ _ => rfl, fun q _ => Or.inl rfl⟩, fun q _ => rfl⟩) (fun j h1 h2 => by omega) (fun j hj h1 => by omega)
  have done : ∀ (i : Nat) (M1 : zM), i ≤ T.length → FrC (nIn u T.length) M M1 → M1.1 (413 + 8) = M.1 (413 + 8) → (∀ j, j < i → eqE M1 (41 * u + j) M (41 * u + j)) → (∀ j, i ≤ j → j < T.length → eqE M1 (41 * u + j + 1) M (41 * u + j)) → plc p T = i → K51 (ii i) M1 := by
    intro i M1 hi f1 c1 e1 e2 hpi
    rw [hpi] at k
    refine h51 _ _ ?_
    rw [eu]
    refine ⟨ii_in (by omega) (by omega) (by omega), ii_in (by omega) (by omega) (by omega), ?_⟩
    rintro M2 h2
    rw [c1, a1, show (1 : Int32) = ii 1 from rfl, ii_add] at h2
    unfold Wp_Mo_at
    rw [ei_at]
    refine ⟨ii_in (by omega) (by omega) (by omega), ?_⟩
    rintro M3 h3
    have hp2 : M2.1 413 24 = ii p.length := by rw [h2, zI_o (by omega), f1.1 _ _ (by unfold nIn; omega)]; exact h.1
    rw [ii_nat (by omega) (by omega), Int.toNat_natCast, hp2] at h3
    have f3 : FrC (nIn u T.length) M M3 := by
      rw [h3, h2]
      exact (f1.zI (Or.inl ⟨rfl, rfl⟩)).zI (Or.inr (Or.inl (by omega)))
    have q3 : ∀ kk j, ¬ (kk = 413 + 8 ∧ j = u) → ¬ (kk = 413 + 10 ∧ j = 41 * u + i) → M3.1 kk j = M1.1 kk j := fun kk j z1 z2 => by rw [h3, zI_g, if_neg z2, h2, zI_g, if_neg z1]
    have n3 : M3.1 (413 + 8) u = ii ((T.length + 1 : Nat) : Int) := by rw [h3, zI_o (by omega), h2, zI_g, if_pos ⟨rfl, rfl⟩]; rfl
    have s3 : M3.1 (413 + 10) (41 * u + i) = ii p.length := by rw [h3, zI_g, if_pos ⟨rfl, rfl⟩]
    suffices H2 : ∀ (m j : Nat) (M4 : zM), j + m = p.length → FrC (nIn u T.length) M M4 → (∀ kk q, ¬ (kk = 413 + 9 ∧ 60 * (41 * u + i) ≤ q ∧ q < 60 * (41 * u + i) + 60) → M4.1 kk q = M3.1 kk q) → (∀ (q : Nat) (hq : q < p.length), q < j → M4.1 (413 + 9) (60 * (41 * u + i) + q) = sb p[q]) → K80 (ii ((41 * u + i : Nat) : Int)) (ii j) M4 from H2 p.length 0 M3 (by omega) f3 (fun _ _ _ => rfl) (fun q _ hq => absurd hq (by omega))
    intro m
    induction m with
    | zero =>
      intro j M4 hj f4 o4 v4
      have p4 : M4.1 413 24 = ii p.length := by rw [f4.1 _ _ (by unfold nIn; omega)]; exact h.1
      refine h80 _ _ _ ⟨fun _ => ?_, fun z => absurd (by rw [p4, ii_le (by omega) (by omega) (by omega) (by omega)]; omega) z⟩
      refine k M4 f4 (by rw [o4 _ _ (by omega)]; exact n3) (fun r hr => ⟨fun a x1 x2 => ?_, fun q hq => ?_⟩) (fun r hr1 hr2 => ⟨fun a x1 x2 => ?_, fun q hq => ?_⟩) (by rw [o4 _ _ (by omega)]; exact s3) (fun q hq => v4 q hq (by omega))
      · rw [o4 _ _ (by omega), q3 _ _ (by omega) (by omega)]
        exact (e1 r hr).1 a x1 x2
      · rw [o4 _ _ (by omega), q3 _ _ (by omega) (by omega)]
        exact (e1 r hr).2 q hq
      · rw [o4 _ _ (by omega), q3 _ _ (by omega) (by omega)]
        exact (e2 r hr1 hr2).1 a x1 x2
      · rw [o4 _ _ (by omega), q3 _ _ (by omega) (by omega)]
        exact (e2 r hr1 hr2).2 q hq
    | succ m ih =>
      intro j M4 hj f4 o4 v4
      have p4 : M4.1 413 24 = ii p.length := by rw [f4.1 _ _ (by unfold nIn; omega)]; exact h.1
      have pj : M4.1 (413 + 21) j = sb (p[j]'(by omega)) := by rw [f4.1 _ _ (by unfold nIn; omega)]; exact h.2.2 j (by omega)
      refine h80 _ _ _ ⟨fun z => ?_, fun _ => ?_⟩
      · rw [p4, ii_le (by omega) (by omega) (by omega) (by omega)] at z
        omega
      · rw [sixty]
        refine ⟨ii_in (by omega) (by omega) (by omega), ii_in (by omega) (by omega) (by omega), ?_⟩
        rw [ii_nat (by omega) (by omega), ii_nat (by omega) (by omega), Int.toNat_natCast, Int.toNat_natCast, pj, nar_b8, b8_sb]
        rintro M5 rfl x rfl
        rw [show (1 : Int32) = ii 1 from rfl, ii_add]
        refine ih (j + 1) _ (by omega) (f4.zI (Or.inr (Or.inr (by omega)))) (fun kk q hq => ?_) (fun q hq hq2 => ?_)
        · rw [zI_g, if_neg (by omega)]
          exact o4 kk q hq
        · rw [zI_g]
          by_cases c : q = j
          · subst c
            rw [if_pos ⟨rfl, rfl⟩]
          · rw [if_neg (by omega)]
            exact v4 q hq (by omega)
  intro i
  induction i with
  | zero =>
    intro M1 hi f1 c1 e1 e2 hgt
    refine h7 _ _ ⟨fun _ => done 0 M1 (by omega) f1 c1 (fun j hj => absurd hj (by omega)) e2 (plc_char p T 0 (by omega) (fun j _ hj => absurd hj (by omega)) (fun h0 q => by have := hgt 0 h0 (by omega); omega)), fun z => absurd (by decide) z⟩
  | succ i ih =>
    intro M1 hi f1 c1 e1 e2 hgt
    have hin : i < T.length := by omega
    refine h7 _ _ ⟨fun z => ?_, fun _ => ?_⟩
    · rw [show (0 : Int32) = ii 0 from rfl, ii_le (by omega) (by omega) (by omega) (by omega)] at z
      omega
    · have hp1 : Cw M1 24 (413 + 21) p := h.frC f1 (by unfold nIn; omega) (fun q hq => by unfold nIn; omega)
      unfold Wp_Mo_at
      show Wp_Mo_compare 413 (41 * ii (u : Int) + (ii ((i + 1 : Nat) : Int) - 1)) (M1.1 413 24) M1 _
      have es : 41 * ii (u : Int) + (ii ((i + 1 : Nat) : Int) - 1) = ii ((41 * u + i : Nat) : Int) := by
        rw [show (1 : Int32) = ii 1 from rfl, ii_sub, show (((i + 1 : Nat) : Int) - 1) = (i : Int) by omega, ei_at]
      rw [es, hp1.1]
      obtain ⟨d1, d2, d3, -⟩ := b3 i hin
      have ei := e1 i (by omega)
      refine s_compare (n := p.length) (by omega) hp1 (by rw [ei.1.1 10 (by omega) (by omega)]; exact d1) d2 (fun q hq => by rw [ei.2 q (by omega)]; exact d3 q hq) (Nat.le_refl _) ?_
      rw [List.take_length]
      have hc := cmpB_rng T[i].path p
      have hnz : cmpB T[i].path p ≠ 0 := fun z => hfree _ (List.getElem_mem hin) ((cmpB_zero _ _).mp z)
      rw [show (0 : Int32) = ii 0 from rfl, ii_le (by omega) (by omega) (by omega) (by omega)]
      refine ⟨fun z => ?_, fun z => ?_⟩
      · refine done (i + 1) M1 hi f1 c1 (fun j hj => (e1 j hj).1) e2 (plc_char p T (i + 1) hi (fun j hj hji => ?_) (fun h0 q => by have := hgt (i + 1) h0 (by omega); omega))
        have hlt : cmpB T[i].path p < 0 := by omega
        by_cases c : j = i
        · subst c; exact hlt
        · exact cmpB_trans _ _ _ (List.pairwise_iff_getElem.mp hS j i hj hin (by omega)) hlt
      · show Wp_Mo_copyEntry 413 (41 * ii (u : Int) + ii ((i + 1 : Nat) : Int)) (ii ((41 * u + i : Nat) : Int)) M1 _
        rw [ei_at]
        refine s_copyEntry (by omega) (by omega) (by omega) (fun M2 f2 g2 => ?_)
        rintro x rfl
        rw [show (-1 : Int32) = ii (-1) from rfl, ii_add, show (((i + 1 : Nat) : Int) + -1) = (i : Int) by omega]
        have ne : ∀ kk j, j < 123 → 413 + 10 ≤ kk → kk ≤ 413 + 18 → j ≠ 41 * u + (i + 1) → M2.1 kk j = M1.1 kk j := fun kk j _ _ _ z => f2.1 _ _ (by unfold eIn; omega)
        refine ih M2 (by omega) (f1.trans (f2.mono (fun kk j q => by unfold eIn at q; unfold nIn; omega))) ?_ (fun j hj => ?_) (fun j h1 h2 => ?_) (fun j hj h1 => ?_)
        · funext q
          rw [f2.1 _ _ (by unfold eIn; omega), c1]
        · have ej := e1 j (by omega)
          exact ⟨⟨fun a x1 x2 => by rw [f2.1 _ _ (by unfold eIn; omega)]; exact ej.1.1 a x1 x2, fun q hq => Or.inl (by rw [f2.1 _ _ (by unfold eIn; omega)]; exact ej.2 q hq)⟩, fun q hq => by rw [f2.1 _ _ (by unfold eIn; omega)]; exact ej.2 q hq⟩
        · by_cases c : j = i
          · subst c
            refine ⟨fun a x1 x2 => ?_, fun q hq => ?_⟩
            · rw [show 41 * u + j + 1 = 41 * u + (j + 1) by omega, g2.1 a x1 x2]
              exact ei.1.1 a x1 x2
            · have := g2.2 q hq
              rw [ei.2 q hq] at this
              rw [show 41 * u + j + 1 = 41 * u + (j + 1) by omega]
              exact this
          · have ej := e2 j (by omega) h2
            exact ⟨fun a x1 x2 => by rw [f2.1 _ _ (by unfold eIn; omega)]; exact ej.1 a x1 x2, fun q hq => by rw [f2.1 _ _ (by unfold eIn; omega)]; exact ej.2 q hq⟩
        · by_cases c : j = i
          · subst c; omega
          · exact hgt j hj (by omega)
theorem RnI.moved {M' : zM} {e e' us us' : Nat} {x : En} (h : RnI M u e x us) (he : eqE M' e' M e) (hle : us ≤ us') (h3 : ∀ k, k < us → M'.1 (413 + 20) (20000 * u + k) = M.1 (413 + 20) (20000 * u + k)) : RnI M' u e' x us' := by
  obtain ⟨a1, a2, a3, a4, a5, a6, a7, a8, a9, fr, b1, b2, b3⟩ := h
  refine ⟨by rw [he.1 10 (by omega) (by omega)]; exact a1, a2, fun k hk => ?_, by rw [he.1 11 (by omega) (by omega)]; exact a4, by rw [he.1 12 (by omega) (by omega)]; exact a5, by rw [he.1 13 (by omega) (by omega)]; exact a6, by rw [he.1 14 (by omega) (by omega)]; exact a7, by rw [he.1 15 (by omega) (by omega)]; exact a8, by rw [he.1 17 (by omega) (by omega)]; exact a9, fr, by rw [he.1 16 (by omega) (by omega)]; exact b1, by omega, fun k hk => ?_⟩
  · rcases he.2 k (by omega) with q | q
    · rw [q]; exact a3 k hk
    · rw [q, a3 k hk, nar_b8, b8_sb]
  · rw [Nat.add_assoc, h3 (fr + k) (by omega), ← Nat.add_assoc]
    exact b3 k hk
theorem RtI.insd {M M' : zM} {u us us' : Nat} {T : Tre} {x : En} (hpat : ∀ (i j : Nat) (hi : i < T.length) (hj : j < T.length), T[i].kind = 1 → T[j].kind = 1 → (M.1 (413 + 18) (41 * u + i) = M.1 (413 + 18) (41 * u + j) ↔ T[i].fam = T[j].fam)) (hlen : T.length < 40) (hc : conts T + (if x.kind = 1 then x.body.length else 0) ≤ 6000) (h1 : M'.1 (413 + 8) u = ii ((T.length + 1 : Nat) : Int)) (h2 : M'.1 (413 + 19) u = ii us') (hus : us' ≤ conts T + (if x.kind = 1 then x.body.length else 0) + 60 * (T.length + 1))
    (hlo : ∀ (j : Nat) (hj : j < T.length), j < plc x.path T → RnI M' u (41 * u + j) T[j] us' ∧ M'.1 (413 + 18) (41 * u + j) = M.1 (413 + 18) (41 * u + j)) (hhi : ∀ (j : Nat) (hj : j < T.length), plc x.path T ≤ j → RnI M' u (41 * u + j + 1) T[j] us' ∧ M'.1 (413 + 18) (41 * u + j + 1) = M.1 (413 + 18) (41 * u + j)) (hx : RnI M' u (41 * u + plc x.path T) x us')
    (hnew : x.kind = 1 → ∀ (j : Nat) (hj : j < T.length), T[j].kind = 1 → (M'.1 (413 + 18) (41 * u + plc x.path T) = M.1 (413 + 18) (41 * u + j) ↔ x.fam = T[j].fam)) : RtI M' u (ins x T) := by
  have hp := plc_le x.path T
  have key : ∀ (i : Nat) (hi : i < (ins x T).length), (i = plc x.path T ∧ (ins x T)[i] = x) ∨ (∃ (j : Nat) (hj : j < T.length), (ins x T)[i] = T[j] ∧ M'.1 (413 + 18) (41 * u + i) = M.1 (413 + 18) (41 * u + j) ∧ RnI M' u (41 * u + i) T[j] us') := by
    intro i hi
    have hg := ins_get x T i
    rw [List.getElem?_eq_getElem hi] at hg
    rw [ins_len] at hi
    by_cases c : i < plc x.path T
    · rw [if_pos c, List.getElem?_eq_getElem (by omega)] at hg
      exact Or.inr ⟨i, by omega, Option.some.inj hg, (hlo i (by omega) c).2, (hlo i (by omega) c).1⟩
    · rw [if_neg c] at hg
      by_cases c2 : i = plc x.path T
      · rw [if_pos c2] at hg
        exact Or.inl ⟨c2, Option.some.inj hg⟩
      · rw [if_neg c2, List.getElem?_eq_getElem (by omega)] at hg
        have hh := hhi (i - 1) (by omega) (by omega)
        rw [show 41 * u + (i - 1) + 1 = 41 * u + i by omega] at hh
        exact Or.inr ⟨i - 1, by omega, Option.some.inj hg, hh.2, hh.1⟩
  refine ⟨by rw [ins_len]; exact h1, by rw [ins_len]; omega, by rw [conts_ins]; exact hc, us', h2, by rw [conts_ins, ins_len]; exact hus, fun i hi => ?_, fun i j hi hj ki kj => ?_⟩
  · rcases key i hi with ⟨q1, q2⟩ | ⟨j, hj, q1, q2, q3⟩
    · rw [q2, q1]; exact hx
    · rw [q1]; exact q3
  · rcases key i hi with ⟨q1, q2⟩ | ⟨i', hi', q1, q2, q3⟩
    · rcases key j hj with ⟨r1, r2⟩ | ⟨j', hj', r1, r2, r3⟩
      · rw [q2, r2, q1, r1]
        exact ⟨fun _ => rfl, fun _ => rfl⟩
      · rw [r1] at kj ⊢
        rw [q2] at ki ⊢
        rw [r2, q1]
        exact hnew ki j' hj' kj
    · rcases key j hj with ⟨r1, r2⟩ | ⟨j', hj', r1, r2, r3⟩
      · rw [q1] at ki ⊢
        rw [r2] at kj ⊢
        rw [q2, r1]
        have := hnew kj i' hi' ki
        exact ⟨fun z => (this.mp z.symm).symm, fun z => (this.mpr z.symm).symm⟩
      · rw [q1] at ki ⊢
        rw [r1] at kj ⊢
        rw [q2, r2]
        exact hpat i' j' hi' hj' ki kj
end RT3
