/-! unpack of the reference: the tree that was read becomes the tree that came. -/
def FrQ (P : Nat → Nat → Prop) (M M' : zM) : Prop := (∀ k j, ¬ P k j → M'.1 k j = M.1 k j) ∧ (∀ k, k ≠ 413 → M'.2.1 k = M.2.1 k) ∧ M'.2.2 = M.2.2
theorem FrC.q {P : Nat → Nat → Prop} {M M' : zM} (h : FrC P M M') : FrQ P M M' := ⟨h.1, fun k _ => by rw [h.2], by rw [h.2]⟩
theorem FrQ.rf {P : Nat → Nat → Prop} {M : zM} : FrQ P M M := ⟨fun _ _ _ => rfl, fun _ _ => rfl, rfl⟩
theorem FrQ.trans {P : Nat → Nat → Prop} {M M' M'' : zM} (h : FrQ P M M') (h' : FrQ P M' M'') : FrQ P M M'' := ⟨fun k j q => (h'.1 k j q).trans (h.1 k j q), fun k q => (h'.2.1 k q).trans (h.2.1 k q), h'.2.2.trans h.2.2⟩
theorem FrQ.mono {P Q : Nat → Nat → Prop} {M M' : zM} (h : FrQ P M M') (hq : ∀ k j, P k j → Q k j) : FrQ Q M M' := ⟨fun k j q => h.1 k j (fun z => q (hq k j z)), h.2⟩
theorem OnlyQ.frQ {F S : List Nat} {M M' : zM} (h : OnlyQ F S M M') : FrQ (fun k j => (k = 413 ∧ j ∈ F) ∨ k ∈ S) M M' := ⟨fun k j q => by
  by_cases c : k = 413
  · subst c
    exact h.2.1 j (fun z => q (Or.inl ⟨rfl, z⟩))
  · rw [h.1 k (fun z => q (Or.inr z)) c], h.2.2.1, h.2.2.2⟩
def upIn (k j : Nat) : Prop := unIn k j ∨ (k = 413 ∧ j = 6)
def upIn1 (k j : Nat) : Prop := upIn k j ∨ tIn 1 k j ∨ (k = 413 ∧ (j = 38 ∨ j = 43)) ∨ k = 413 + 27
theorem RnI.moved2 {M M' : zM} {e e' us : Nat} {x : En} (h : RnI M 2 e x us) (he : eqE M' e' M e) (h3 : ∀ k, k < us → M'.1 (413 + 20) (20000 + k) = vp_nar .byte (M.1 (413 + 20) (40000 + k))) : RnI M' 1 e' x us := by
  obtain ⟨a1, a2, a3, a4, a5, a6, a7, a8, a9, fr, b1, b2, b3⟩ := h
  refine ⟨by rw [he.1 10 (by omega) (by omega)]; exact a1, a2, fun k hk => ?_, by rw [he.1 11 (by omega) (by omega)]; exact a4, by rw [he.1 12 (by omega) (by omega)]; exact a5, by rw [he.1 13 (by omega) (by omega)]; exact a6, by rw [he.1 14 (by omega) (by omega)]; exact a7, by rw [he.1 15 (by omega) (by omega)]; exact a8, by rw [he.1 17 (by omega) (by omega)]; exact a9, fr, by rw [he.1 16 (by omega) (by omega)]; exact b1, by omega, fun k hk => ?_⟩
  · rcases he.2 k (by omega) with q | q
    · rw [q]; exact a3 k hk
    · rw [q, a3 k hk, nar_b8, b8_sb]
  · have := b3 k hk
    rw [show 20000 * 2 + fr + k = 40000 + (fr + k) by omega] at this
    rw [show 20000 * 1 + fr + k = 20000 + (fr + k) by omega, h3 (fr + k) (by omega), this, nar_b8, b8_sb]
theorem eqE.frC {P : Nat → Nat → Prop} {M0 M M' : zM} {e e' : Nat} (h : eqE M e' M0 e) (ho : FrC P M M') (h1 : ∀ a, 10 ≤ a → a ≤ 18 → ¬ P (413 + a) e') (h2 : ∀ k, k < 60 → ¬ P (413 + 9) (60 * e' + k)) : eqE M' e' M0 e := ⟨fun a q1 q2 => by rw [ho.1 _ _ (h1 a q1 q2)]; exact h.1 a q1 q2, fun k hk => by rw [ho.1 _ _ (h2 k hk)]; exact h.2 k hk⟩
theorem eqE.of {P : Nat → Nat → Prop} {M0 M M' : zM} {e e' : Nat} (h : eqE M' e' M e) (ho : FrC P M0 M) (h1 : ∀ a, 10 ≤ a → a ≤ 18 → ¬ P (413 + a) e) (h2 : ∀ k, k < 60 → ¬ P (413 + 9) (60 * e + k)) : eqE M' e' M0 e := ⟨fun a q1 q2 => by rw [← ho.1 _ _ (h1 a q1 q2)]; exact h.1 a q1 q2, fun k hk => by rw [← ho.1 _ _ (h2 k hk)]; exact h.2 k hk⟩
theorem s_Mo_unpack {M : zM} {of c : Nat} {B : Bx} {T : Tre} {post : Int32 → zM → Prop} (hB : BmI M of B) (hok : BxOk of B) (hbeg : ∀ (i : Nat) (h : i < 15), M.1 (413 + 2) i = sb ((txt 4).getD i 0)) (htr : Ab M (413 + 1) trName) (hU : UnR of B c T)
    (k1 : ∀ M', c ≠ 0 → FrC upIn M M' → M'.1 413 6 = 0 → post (ii c) M')
    (k0 : ∀ M', c = 0 → TOk T → FrQ upIn1 M M' → M'.1 413 6 = 0 → RtI M' 1 T → BmI M' 0 [] → post 0 M') : Wp_Mo_unpack 413 M post := by
  obtain ⟨l8, l9, l10, l11, l12, l13, l14, l15, l16, l17, l18, l19, l20, l21⟩ := l_ref
  have z2c : ((2 : Int32)).toNatClampNeg = 2 := by decide
  have z1c : ((1 : Int32)).toNatClampNeg = 1 := by decide
  unfold Wp_Mo_unpack
  rw [z2c, z1c]
  intro K40 K72 h40 h72
  rintro M1 h1
  have f1 : FrC (fun k j => k = 413 ∧ j = 6) M M1 := by rw [h1]; exact FrC.rf.zI ⟨rfl, rfl⟩
  have e1 : M1.1 413 6 = 0 := by rw [h1, zI_g, if_pos ⟨rfl, rfl⟩]
  have u1 : FrC upIn M M1 := f1.mono (fun k j q => Or.inr q)
  have six : ∀ {M' : zM}, FrC unIn M1 M' → M'.1 413 6 = 0 := fun f => by
    rw [f.1 413 6 (by unfold unIn unF unS tIn; simp)]
    exact e1
  refine s_Mo_unpacked (hB.frC f1 (by omega) (by omega) (by omega) (fun k j _ _ => by omega)) hok (fun i hi => by rw [f1.1 _ _ (by omega)]; exact hbeg i hi) ⟨htr.1, fun i hi => by rw [f1.1 _ _ (by omega)]; exact htr.2 i hi⟩ hU (fun M2 hc0 f2 => ?_) (fun M2 hc0 hT f2 I2 => ?_)
  · have hne : ¬ (ii (c : Int)) = 0 := by
      have hcl : c ≤ 9 := by
        rcases hU with q | ⟨-, q | ⟨-, r, -, q | ⟨-, g, p, -, -, -, -, q | q⟩⟩⟩ <;> omega
      rw [show (0 : Int32) = ii 0 from rfl, ii_eq (by omega) (by omega) (by omega) (by omega)]
      omega
    exact ⟨fun _ => k1 M2 hc0 (u1.trans (f2.mono (fun k j q => Or.inl q))) (six f2), fun q => absurd q hne⟩
  refine ⟨fun q => absurd rfl q, fun _ => ⟨by unfold vp_in; rw [l8]; decide, by unfold vp_in; rw [l8]; decide, ?_⟩⟩
  rintro M4 h4
  refine ⟨by unfold vp_in; rw [l19]; decide, by unfold vp_in; rw [l19]; decide, ?_⟩
  rintro M5 h5
  obtain ⟨i1, i2, i3, us, b1, b2, b3, b4⟩ := I2
  have g5 : M5.1 (413 + 8) 1 = ii T.length := by rw [h5, zI_o (by decide), h4, zI_g, if_pos ⟨rfl, rfl⟩]; exact i1
  have g6 : M5.1 (413 + 19) 1 = ii us := by rw [h5, zI_g, if_pos ⟨rfl, rfl⟩, h4, zI_o (by decide)]; exact b1
  have f5 : FrC (tIn 1) M2 M5 := by
    rw [h5, h4]
    exact (FrC.rf.zI (Or.inl ⟨rfl, rfl⟩)).zI (Or.inr (Or.inr (Or.inr (Or.inl ⟨rfl, rfl⟩))))
  have two : ∀ {M' : zM} {k j : Nat}, FrC (tIn 1) M2 M' → tIn 2 k j → M'.1 k j = M2.1 k j := fun f q => f.1 _ _ (by unfold tIn at q ⊢; omega)
  have hus : us ≤ 8400 := by omega
  -- the contents
  have cont : ∀ (m i : Nat) (M6 : zM), i + m = us → FrC (tIn 1) M2 M6 → M6.1 (413 + 8) 1 = ii T.length → M6.1 (413 + 19) 1 = ii us → (∀ j, j < T.length → eqE M6 (41 + j) M2 (82 + j)) → (∀ k, k < i → M6.1 (413 + 20) (20000 + k) = vp_nar .byte (M2.1 (413 + 20) (40000 + k))) → K72 0 (ii i) M6 := by
    intro m
    induction m with
    | zero =>
      intro i M6 hi f6 c8 c19 he hc
      have e19 : M6.1 (413 + 19) 2 = ii us := by rw [two f6 (by unfold tIn; omega)]; exact b1
      refine h72 _ _ _ ?_
      rw [e19]
      refine ⟨by unfold vp_in; rw [l19]; decide, fun _ => ?_, fun y => absurd (by rw [ii_le (by omega) (by omega) (by omega) (by omega)]; omega) y⟩
      have I6 : RtI M6 1 T := ⟨c8, i2, i3, us, c19, b2, fun i hi' => RnI.moved2 (b3 i hi') (he i hi') (fun k hk => hc k (by omega)), fun i j hi' hj' q1 q2 => by
        have a1 := (he i hi').1 18 (by omega) (by omega)
        have a2 := (he j hj').1 18 (by omega) (by omega)
        rw [show 41 * 1 + i = 41 + i by omega, show 41 * 1 + j = 41 + j by omega, a1, a2]
        exact b4 i j hi' hj' q1 q2⟩
      have u6 : FrC upIn1 M M6 := ((u1.trans (f2.mono (fun k j q => Or.inl q))).mono (fun k j q => Or.inl q)).trans (f6.mono (fun k j q => Or.inr (Or.inl q)))
      have e6 : M6.1 413 6 = 0 := by rw [f6.1 413 6 (by unfold tIn; omega)]; exact six f2
      refine s_Mo_emptyBox (fun M7 o7 B7 => k0 M7 hc0 ?_ ?_ ?_ (I6.onlyQ o7 (by decide)) B7)
      · exact hT
      · refine u6.q.trans (o7.frQ.mono (fun k j q => ?_))
        rcases q with q | q
        · exact Or.inr (Or.inr (Or.inl ⟨q.1, by have := q.2; simpa using this⟩))
        · exact Or.inr (Or.inr (Or.inr (by simpa using q)))
      · rw [o7.2.1 6 (by decide)]
        exact e6
    | succ m ih =>
      intro i M6 hi f6 c8 c19 he hc
      have e19 : M6.1 (413 + 19) 2 = ii us := by rw [two f6 (by unfold tIn; omega)]; exact b1
      refine h72 _ _ _ ?_
      rw [e19, show (40000 : Int32) = ii 40000 from rfl, show (20000 : Int32) = ii 20000 from rfl, ii_add, ii_add]
      refine ⟨by unfold vp_in; rw [l19]; decide, fun y => ?_, fun _ => ⟨ii_in (by omega) (by omega) (by omega), ii_in (by omega) (by omega) (by omega), ?_⟩⟩
      · rw [ii_le (by omega) (by omega) (by omega) (by omega)] at y
        omega
      · rw [ii_nat (by omega) (by omega), ii_nat (by omega) (by omega), show ((40000 : Int) + (i : Int)).toNat = 40000 + i by omega, show ((20000 : Int) + (i : Int)).toNat = 20000 + i by omega, two f6 (show tIn 2 (413 + 20) (40000 + i) by unfold tIn; omega)]
        rintro M7 h7 x rfl
        have f7 : FrC (fun k j => k = 413 + 20 ∧ j = 20000 + i) M6 M7 := by rw [h7]; exact FrC.rf.zI ⟨rfl, rfl⟩
        rw [show (1 : Int32) = ii 1 from rfl, ii_add]
        refine ih (i + 1) M7 (by omega) (f6.trans (f7.mono (fun k j q => by unfold tIn; omega))) (by rw [f7.1 _ _ (by omega)]; exact c8) (by rw [f7.1 _ _ (by omega)]; exact c19) (fun j hj => (he j hj).frC f7 (fun a _ _ => by omega) (fun k _ => by omega)) (fun k hk => ?_)
        by_cases ck : k = i
        · rw [ck, h7, zI_g, if_pos ⟨rfl, rfl⟩]
        · rw [f7.1 _ _ (by omega)]
          exact hc k (by omega)
  -- the entries
  suffices H : ∀ (m i : Nat) (M6 : zM), i + m = T.length → FrC (tIn 1) M2 M6 → M6.1 (413 + 8) 1 = ii T.length → M6.1 (413 + 19) 1 = ii us → (∀ j, j < i → eqE M6 (41 + j) M2 (82 + j)) → K40 0 (ii i) M6 from H T.length 0 M5 (Nat.zero_add _) f5 g5 g6 (fun j hj => absurd hj (by omega))
  intro m
  induction m with
  | zero =>
    intro i M6 hi f6 c8 c19 he
    have e8 : M6.1 (413 + 8) 2 = ii T.length := by rw [two f6 (by unfold tIn; omega)]; exact i1
    refine h40 _ _ _ ?_
    rw [e8]
    refine ⟨by unfold vp_in; rw [l8]; decide, fun _ => cont us 0 M6 (Nat.zero_add _) f6 c8 c19 (fun j hj => he j (by omega)) (fun k hk => absurd hk (by omega)), fun y => absurd (by rw [ii_le (by omega) (by omega) (by omega) (by omega)]; omega) y⟩
  | succ m ih =>
    intro i M6 hi f6 c8 c19 he
    have e8 : M6.1 (413 + 8) 2 = ii T.length := by rw [two f6 (by unfold tIn; omega)]; exact i1
    refine h40 _ _ _ ?_
    rw [e8]
    refine ⟨by unfold vp_in; rw [l8]; decide, fun y => ?_, fun _ => ?_⟩
    · rw [ii_le (by omega) (by omega) (by omega) (by omega)] at y
      omega
    · unfold Wp_Mo_at
      show Wp_Mo_copyEntry 413 ((41 : Int32) * ii ((1 : Nat) : Int) + ii (i : Int)) ((41 : Int32) * ii ((2 : Nat) : Int) + ii (i : Int)) M6 _
      rw [ei_at, ei_at]
      refine s_copyEntry (by omega) (by omega) (by omega) (fun M7 f7 q7 => ?_)
      rintro x rfl
      rw [show (1 : Int32) = ii 1 from rfl, ii_add]
      refine ih (i + 1) M7 (by omega) (f6.trans (f7.mono (fun k j q => by unfold eIn at q; unfold tIn; omega))) (by rw [f7.1 _ _ (by unfold eIn; omega)]; exact c8) (by rw [f7.1 _ _ (by unfold eIn; omega)]; exact c19) (fun j hj => ?_)
      by_cases cj : j = i
      · subst cj
        exact q7.of f6 (fun a _ _ => by unfold tIn; omega) (fun k _ => by unfold tIn; omega)
      · exact (he j (by omega)).frC f7 (fun a _ _ => by unfold eIn; omega) (fun k _ => by unfold eIn; omega)
