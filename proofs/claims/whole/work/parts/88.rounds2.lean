/-! The law's rounds: the trees, the archive, what is told. -/
section RND2
variable {M : zM} {G : Nat} {Z1 : Int32 → zM → Prop} {Z : Int32 → Int32 → zM → Prop}
theorem McAddR.code {T T' : Tre} {tp : List UInt8} {kd n m o g tm : Int} {v : Nat} (h : McAddR T tp kd n m o g tm v T') : v = 0 ∨ ((v = 2 ∨ v = 3 ∨ v = 4) ∧ T' = T) := by
  rcases h with h | ⟨-, h | ⟨-, h2, h3, -⟩⟩
  · exact Or.inr ⟨Or.inl h.1, h.2.2⟩
  · exact Or.inr ⟨Or.inl h.1, h.2.2⟩
  · rcases h2 with q | q | q | q
    · exact Or.inr ⟨Or.inl q.1, h3 (by omega)⟩
    · exact Or.inr ⟨Or.inr (Or.inl q.1), h3 (by omega)⟩
    · exact Or.inr ⟨Or.inr (Or.inr q.1), h3 (by omega)⟩
    · exact Or.inl q.1
theorem aIn_q {M M' : zM} (h : FrC aIn M M') : FrQ qM M M' := h.q.mono (fun k j q => by
  unfold aIn at q
  unfold qM pS pM pT
  rcases q with q | q | q
  · exact Or.inr (Or.inl (Or.inl q))
  · rcases q with ⟨q1, q2 | q2 | q2 | q2⟩
    · exact Or.inl (Or.inl ⟨q1, by omega⟩)
    · exact Or.inr (Or.inr (Or.inl ⟨q1, q2⟩))
    · exact Or.inr (Or.inl (Or.inr ⟨q1, q2⟩))
    · exact Or.inl (Or.inl ⟨q1, by omega⟩)
  · exact Or.inl (Or.inr (Or.inl (by omega))))
theorem FrA.eq {M M' : zM} (h : FrA M M') {k : Nat} (hk : 130 ≤ k) : Eqk M M' k := h.1 k (by omega) (by omega) (by omega) (by omega)
section ADD
variable {tp : List UInt8} {T Y : Tre} {S X : List UInt8} {L n of g : Nat} {B : Bx}
theorem IC.add {M1 : zM} {T' : Tre} {tp' : List UInt8} (hC : IC M tp T Y S X L n of B) (F : FrA M M1) (I1 : TrI M1 (0 + 3) T') (R1 : Rw M1 (0 + 1) tp') (h5 : FrI M1 T') : IC M1 tp' T' Y S X L n of B := ⟨R1, I1, h5, hC.2.2.2.1.sm (fun k _ _ => F.eq (by omega)), hC.2.2.2.2.1.sm (fun k _ _ => F.eq (by omega)), hC.2.2.2.2.2.sm F.2.1 (fun k _ _ => F.eq (by omega))⟩
end ADD
theorem r_add {a1 a2 a3 a4 a5 a6 : Int32} (hG : G ≤ 1000000) (h : IV M G) (k1 : ∀ x M1, Wp_Mo_add 413 a1 a2 a3 a4 a5 a6 M1 (fun y M2 => Z x y M2) → Z1 x M1) (k2 : ∀ x y M2, M2.1 413 6 = x → (x = 0 → M2.2.1 451 0 = y.toInt64) → IV M2 (G + 1) → Z x y M2) : Wp_La_add 0 a1 a2 a3 a4 a5 a6 451 M Z1 := by
  obtain ⟨kd, r1, rfl⟩ := ii_ex a1
  obtain ⟨N, r0, rfl⟩ := ii_ex a2
  obtain ⟨mm, r2, rfl⟩ := ii_ex a3
  obtain ⟨oo, r3, rfl⟩ := ii_ex a4
  obtain ⟨gg, r4, rfl⟩ := ii_ex a5
  obtain ⟨tm, r5, rfl⟩ := ii_ex a6
  obtain ⟨tp, T, Y, S, X, L, n, of, B, hT, hY, hB, hC, g, hg, hM⟩ := h
  have h5 : M.1 0 5 = 0 ∨ M.1 0 5 = 1 := hC.2.2.1.imp id (fun q => q.1)
  unfold Wp_La_add
  refine s_Mc_add hC.2.1 hT hC.1 h5 r0 r1 r2 r3 r4 r5 (fun M1 v T' hA hT' hv F I1 R1 e0 => ?_) (fun M1 T' hA hT' F I1 R1 e5 => ⟨_, rfl, r_out (fun M3 e3 v3 => k1 _ _ ?_)⟩)
  · have hcd := hA.code
    have hTT : T' = T := hcd.elim (fun q => absurd q hv) (fun q => q.2)
    have hC1 : IC M1 [] T' Y S X L n of B := hC.add F I1 R1 (by rw [hTT]; exact hC.2.2.1.sm (by rw [e0]) (fun k _ _ => F.eq (by omega)))
    have hM1 := hM.sm (fun k h1 h2 => F.eq (k := k) (by omega))
    have fin : ∀ x : Int32, ii (refThr v) = x → x ≠ 0 → Z1 x M1 := fun x ex hx => by
      refine k1 _ _ (s_Mo_add hM1.2.1.1 hM1.2.1.2 (by omega) hT hM1.1 r0 r1 r2 r3 r4 r5 hA (fun M2 z f e R I2 L2 => ?_) (fun M2 z f e R I2 L2 => absurd z hv))
      have m := hM1.m (aIn_q f) (by rw [f.2]) R ⟨I2, L2⟩
      exact k2 _ _ _ (e.trans ex) (fun z => absurd z hx) (IV.mk hT' hY hB hC1 m.2 (by omega) m.1)
    rcases hcd with q | ⟨rfl | rfl | rfl, -⟩
    · exact absurd q hv
    · exact Or.inl ⟨rfl, fin _ rfl (by decide)⟩
    · exact Or.inr (Or.inl ⟨rfl, fin _ rfl (by decide)⟩)
    · exact Or.inr (Or.inr ⟨rfl, fin _ rfl (by decide)⟩)
  · have hC1 : IC M1 [] T' Y S X L n of B := hC.add F I1 R1 (Or.inl e5)
    have hC3 := hC1.sm (fun k hk => e3 k (by omega))
    have hM3 := hM.sm (fun k h1 h2 => (F.eq (k := k) (by omega)).trans (e3 k (by omega)))
    refine s_Mo_add hM3.2.1.1 hM3.2.1.2 (by omega) hT hM3.1 r0 r1 r2 r3 r4 r5 hA (fun M2 z f e R I2 L2 => absurd rfl z) (fun M2 z f e R I2 L2 => ?_)
    have m := hM3.m (aIn_q f) (by rw [f.2]) R ⟨I2, L2⟩
    exact k2 _ _ _ e (fun _ => by rw [(m.2 451 (by omega)).2.1]; exact v3) (IV.mk hT' hY hB hC3 m.2 (by omega) m.1)
theorem r_link {a1 : Int32} (h : IV M G) (k1 : ∀ x M1, Wp_Mo_link 413 a1 M1 (fun y M2 => Z x y M2) → Z1 x M1) (k2 : ∀ x y M2, M2.1 413 6 = x → (x = 0 → M2.2.1 451 0 = y.toInt64) → IV M2 (G + 1) → Z x y M2) : Wp_La_link 0 a1 451 M Z1 := by
  obtain ⟨i, r0, rfl⟩ := ii_ex a1
  obtain ⟨tp, T, Y, S, X, L, n, of, B, hT, hY, hB, hC, g, hg, hM⟩ := h
  have h5 : M.1 0 5 = 0 ∨ M.1 0 5 = 1 := hC.2.2.1.imp id (fun q => q.1)
  unfold Wp_La_link
  refine s_Mc_link hC.2.1 hT hC.1 h5 r0 (fun M1 v T' hA hT' hv F I1 R1 e0 => ?_) (fun M1 T' hA hT' F I1 R1 e5 => ⟨_, rfl, r_out (fun M3 e3 v3 => k1 _ _ ?_)⟩)
  · have hcd := hA.t hv
    have hTT : T' = T := hcd.1
    have hC1 : IC M1 [] T' Y S X L n of B := hC.add F I1 R1 (by rw [hTT]; exact hC.2.2.1.sm (by rw [e0]) (fun k _ _ => F.eq (by omega)))
    have hM1 := hM.sm (fun k h1 h2 => F.eq (k := k) (by omega))
    have fin : ∀ x : Int32, ii (v : Int) = x → x ≠ 0 → Z1 x M1 := fun x ex hx => by
      refine k1 _ _ (s_Mo_link hM1.2.1.1 hM1.2.1.2 hT hM1.1 r0 hA (fun M2 z f e R I2 L2 => ?_) (fun M2 z f e R I2 L2 => absurd z hv))
      have m := hM1.m (aIn_q f) (by rw [f.2]) R ⟨I2, L2⟩
      exact k2 _ _ _ (e.trans ex) (fun z => absurd z hx) (IV.mk hT' hY hB hC1 m.2 (by omega) m.1)
    have hv4 : v = 1 ∨ v = 2 ∨ v = 3 ∨ v = 4 := by have := hcd.2; omega
    rcases hv4 with rfl | rfl | rfl | rfl
    · exact Or.inl ⟨rfl, fin _ rfl (by decide)⟩
    · exact Or.inr (Or.inl ⟨rfl, fin _ rfl (by decide)⟩)
    · exact Or.inr (Or.inr (Or.inl ⟨rfl, fin _ rfl (by decide)⟩))
    · exact Or.inr (Or.inr (Or.inr ⟨rfl, fin _ rfl (by decide)⟩))
  · have hC1 : IC M1 [] T' Y S X L n of B := hC.add F I1 R1 (Or.inl e5)
    have hC3 := hC1.sm (fun k hk => e3 k (by omega))
    have hM3 := hM.sm (fun k h1 h2 => (F.eq (k := k) (by omega)).trans (e3 k (by omega)))
    refine s_Mo_link hM3.2.1.1 hM3.2.1.2 hT hM3.1 r0 hA (fun M2 z f e R I2 L2 => absurd rfl z) (fun M2 z f e R I2 L2 => ?_)
    have m := hM3.m (aIn_q f) (by rw [f.2]) R ⟨I2, L2⟩
    exact k2 _ _ _ e (fun _ => by rw [(m.2 451 (by omega)).2.1]; exact v3) (IV.mk hT' hY hB hC3 m.2 (by omega) m.1)
theorem r_clear (h : IV M G) (k1 : ∀ x M1, Wp_Mo_clear 413 M1 (fun y M2 => Z x y M2) → Z1 x M1) (k2 : ∀ x M2, IV M2 (G + 1) → Z x x M2) : Wp_Mc_clear 0 M Z1 := by
  obtain ⟨tp, T, Y, S, X, L, n, of, B, hT, hY, hB, hC, g, hg, hM⟩ := h
  refine s_Mc_clear hC.2.1 (fun M1 F e12 I1 e5 => k1 _ _ ?_)
  have hR1 : Rw M1 (0 + 1) tp := ⟨by rw [e12 (0 + 1) (Or.inl rfl)]; exact hC.1.1, hC.1.2.1, fun i hi => by rw [e12 (0 + 1 + 1) (Or.inr rfl)]; exact hC.1.2.2 i hi⟩
  have hC1 : IC M1 tp [] Y S X L n of B := hC.add F I1 hR1 (Or.inl e5)
  have hM1 := hM.sm (fun k h1 h2 => F.eq (k := k) (by omega))
  refine s_Mo_clear hM1.2.1.1 hM1.2.1.2 (fun M2 f e I2 L2 => ?_)
  have f' : FrQ qM M1 M2 := f.q.mono (fun k j q => by
    rcases q with q | q | q
    · exact Or.inl (Or.inl ⟨q.1, Or.inl q.2⟩)
    · exact Or.inr (Or.inl (Or.inl (Or.inl q)))
    · exact Or.inr (Or.inl (Or.inl (Or.inr (Or.inr (Or.inr (Or.inl q)))))))
  have n1 : ¬ ((413 = 413 ∧ 7 = 6) ∨ (413 = 413 + 8 ∧ 7 = 0) ∨ (413 = 413 + 19 ∧ 7 = 0)) := by decide
  have R2 : Cw M2 7 (413 + 7) tp := hM1.1.frC f n1 (fun i _ q => by
    rcases q with q | q | q
    · exact absurd q.1 (by decide)
    · exact absurd q.1 (by decide)
    · exact absurd q.1 (by decide))
  have m := hM1.m f' (by rw [f.2]) R2 ⟨I2, L2⟩
  exact k2 _ _ (IV.mk TOk.nil hY hB hC1 m.2 (by omega) m.1)
section FRX
variable {tp : List UInt8} {T Y : Tre} {S X : List UInt8} {L n of g : Nat} {B : Bx}
theorem FrX.eq {l : List Nat} {M M' : zM} (h : FrX l M M') {k : Nat} (h0 : k ≠ 0) (hk : k ∉ l) : Eqk M M' k := h.1 k h0 hk
theorem IC.x {M1 : zM} (hC : IC M tp T Y S X L n of B) (F : FrX [0 + 384, 0 + 384 + 1] M M1) (h5 : FrI M1 T) : IC M1 tp T Y S X L n of B := ⟨hC.1.sm (F.eq (by decide) (by decide)) (F.eq (by decide) (by decide)), hC.2.1.sm3 (fun k _ _ => F.eq (by omega) (by simp; omega)), h5, hC.2.2.2.1.sm (fun k _ _ => F.eq (by omega) (by simp; omega)), hC.2.2.2.2.1.sm (fun k _ _ => F.eq (by omega) (by simp; omega)), hC.2.2.2.2.2.sm F.2 (fun k _ _ => F.eq (by omega) (by simp; omega))⟩
end FRX
theorem r_stage {a b : Int32} (h : IV M G) (k1 : ∀ x M1, Wp_Mo_stage 413 a b M1 (fun y M2 => Z x y M2) → Z1 x M1) (k2 : ∀ x y M2, M2.1 413 6 = x → (x = 0 → M2.2.1 451 0 = y.toInt64) → IV M2 (G + 1) → Z x y M2) : Wp_La_stage 0 a b 451 M Z1 := by
  obtain ⟨N, r1, rfl⟩ := ii_ex a
  obtain ⟨I, r2, rfl⟩ := ii_ex b
  obtain ⟨tp, T, Y, S, X, L, n, of, B, hT, hY, hB, hC, g, hg, hM⟩ := h
  have qq : ∀ {M1 M2 : zM}, OnlyR [6, 25] [413 + 22] M1 M2 → FrQ pS M1 M2 := fun o => o.qq (by unfold pS; simp) (by unfold pS; simp)
  unfold Wp_La_stage
  refine s_Mc_stage hC.2.1 hT hC.2.2.1 hC.2.2.2.1 r1 r2 (fun q => ⟨rfl, k1 _ _ ?_⟩) (fun M1 A q hA F h5 => ⟨_, rfl, r_out (fun M3 e3 v3 => k1 _ _ ?_)⟩)
  · obtain ⟨A, hA⟩ : ∃ A, ArcR T A := by
      by_cases q : smallT T
      · exact ⟨_, Or.inl ⟨q, rfl⟩⟩
      · exact ⟨_, Or.inr ⟨q, rfl⟩⟩
    refine s_Mo_stage hM.2.1.1 hT hM.2.2.2.2.2.2.2 hM.2.2.2.1 hA r1 r2 (fun M2 z o e => ?_) (fun M2 z o e => absurd z q)
    have m := hM.s (qq o) (by rw [o.2.2])
    exact k2 _ _ _ e (fun z => absurd z (by decide)) (IV.mk hT hY hB hC m.2 (by omega) m.1)
  · have hC3 := (hC.x F h5).sm (fun k hk => e3 k (by omega))
    have hM3 := hM.sm (fun k h1 h2 => (F.eq (k := k) (by omega) (by simp; omega)).trans (e3 k (by omega)))
    refine s_Mo_stage hM3.2.1.1 hT hM3.2.2.2.2.2.2.2 hM3.2.2.2.1 hA r1 r2 (fun M2 z o e => absurd q z) (fun M2 z o e => ?_)
    have m := hM3.s (qq o) (by rw [o.2.2])
    exact k2 _ _ _ e (fun _ => by rw [(m.2 451 (by omega)).2.1]; exact v3) (IV.mk hT hY hB hC3 m.2 (by omega) m.1)
theorem r_pack {a b : Int32} (h : IV M G) (k1 : ∀ x M1, Wp_Mo_pack 413 a b M1 (fun y M2 => Z x y M2) → Z1 x M1) (k2 : ∀ x y M2, M2.1 413 6 = x → (x = 0 → M2.2.1 451 0 = y.toInt64) → IV M2 (G + 1) → Z x y M2) : Wp_La_pack 0 a b 451 M Z1 := by
  obtain ⟨w, r1, rfl⟩ := ii_ex a
  obtain ⟨LL, r2, rfl⟩ := ii_ex b
  obtain ⟨tp, T, Y, S, X, L, n, of, B, hT, hY, hB, hC, g, hg, hM⟩ := h
  unfold Wp_La_pack
  refine s_Mc_pack hC.2.1 hT hC.2.2.1 r1 r2 (fun q => ⟨rfl, k1 _ _ ?_⟩) (fun M1 q q1 F h5 => ⟨_, rfl, r_out (fun M3 e3 v3 => k1 _ _ ?_)⟩) (fun M1 q q1 q2 F h5 => ⟨_, rfl, r_out (fun M3 e3 v3 => k1 _ _ ?_)⟩) (fun M1 q q1 q2 F h5 I1 => ⟨_, rfl, r_out (fun M3 e3 v3 => k1 _ _ ?_)⟩)
  · refine s_Mo_pack hM.2.1.1 hT hM.2.2.2.2.2.2.2 hM.2.2.2.2.2.2.1 r1 r2 (fun M2 z o e => ?_) (fun M2 z z1 o e => absurd z q) (fun M2 z z1 z2 o e => absurd z q) (fun M2 z z1 z2 o e I2 => absurd z q)
    have m := hM.s (o.qq (by unfold pS; simp) (by simp)) (by rw [o.2.2])
    exact k2 _ _ _ e (fun z => absurd z (by decide)) (IV.mk hT hY hB hC m.2 (by omega) m.1)
  · have hC3 := (hC.x F h5).sm (fun k hk => e3 k (by omega))
    have hM3 := hM.sm (fun k h1 h2 => (F.eq (k := k) (by omega) (by simp; omega)).trans (e3 k (by omega)))
    refine s_Mo_pack hM3.2.1.1 hT hM3.2.2.2.2.2.2.2 hM3.2.2.2.2.2.2.1 r1 r2 (fun M2 z o e => absurd q z) (fun M2 z z1 o e => ?_) (fun M2 z z1 z2 o e => absurd z1 q1) (fun M2 z z1 z2 o e I2 => absurd z1 q1)
    have m := hM3.s (o.qq (by unfold pS; simp) (by simp)) (by rw [o.2.2])
    exact k2 _ _ _ e (fun _ => by rw [(m.2 451 (by omega)).2.1]; exact v3) (IV.mk hT hY hB hC3 m.2 (by omega) m.1)
  · have hC1 : IC M1 tp T Y S X L n of B := ⟨hC.1.sm (F.eq (by decide) (by decide)) (F.eq (by decide) (by decide)), hC.2.1.sm3 (fun k _ _ => F.eq (by omega) (by simp; omega)), h5, hC.2.2.2.1.sm (fun k _ _ => F.eq (by omega) (by simp; omega)), hC.2.2.2.2.1.sm (fun k _ _ => F.eq (by omega) (by simp; omega)), hC.2.2.2.2.2.sm F.2 (fun k _ _ => F.eq (by omega) (by simp; omega))⟩
    have hC3 := hC1.sm (fun k hk => e3 k (by omega))
    have hM3 := hM.sm (fun k h1 h2 => (F.eq (k := k) (by omega) (by simp; omega)).trans (e3 k (by omega)))
    refine s_Mo_pack hM3.2.1.1 hT hM3.2.2.2.2.2.2.2 hM3.2.2.2.2.2.2.1 r1 r2 (fun M2 z o e => absurd q z) (fun M2 z z1 o e => absurd q1 z1) (fun M2 z z1 z2 o e => ?_) (fun M2 z z1 z2 o e I2 => absurd q2 (by omega))
    have m := hM3.s (o.qq (by unfold pS; simp) (by unfold pS; simp)) (by rw [o.2.2])
    exact k2 _ _ _ e (fun _ => by rw [(m.2 451 (by omega)).2.1]; exact v3) (IV.mk hT hY hB hC3 m.2 (by omega) m.1)
  · have hC1 : IC M1 tp T Y _ _ _ _ of B := ⟨hC.1.sm (F.eq (by decide) (by decide)) (F.eq (by decide) (by decide)), hC.2.1.sm3 (fun k _ _ => F.eq (by omega) (by simp; omega)), h5, I1, hC.2.2.2.2.1.sm (fun k _ _ => F.eq (by omega) (by simp; omega)), hC.2.2.2.2.2.sm F.2 (fun k _ _ => F.eq (by omega) (by simp; omega))⟩
    have hC3 := hC1.sm (fun k hk => e3 k (by omega))
    have hM3 := hM.sm (fun k h1 h2 => (F.eq (k := k) (by omega) (by simp; omega)).trans (e3 k (by omega)))
    refine s_Mo_pack hM3.2.1.1 hT hM3.2.2.2.2.2.2.2 hM3.2.2.2.2.2.2.1 r1 r2 (fun M2 z o e => absurd q z) (fun M2 z z1 o e => absurd q1 z1) (fun M2 z z1 z2 o e => absurd q2 (by omega)) (fun M2 z z1 z2 o e I2 => ?_)
    have m := hM3.l (o.qq (by unfold qL pS pL; simp) (by unfold qL pS pL; simp)) (by rw [o.2.2]) I2
    exact k2 _ _ _ e (fun _ => by rw [(m.2 451 (by omega)).2.1]; exact v3) (IV.mk hT hY hB hC3 m.2 (by omega) m.1)
theorem r_about {a b c : Int32} (h : IV M G) (k1 : ∀ x M1, Wp_Mo_about 413 a b c M1 (fun y M2 => Z x y M2) → Z1 x M1) (k2 : ∀ x y M2, M2.1 413 6 = x → (x = 0 → M2.2.1 451 0 = y.toInt64) → IV M2 (G + 1) → Z x y M2) : Wp_La_about 0 a b c 451 M Z1 := by
  obtain ⟨tr, r0, rfl⟩ := ii_ex a
  obtain ⟨wh, r1, rfl⟩ := ii_ex b
  obtain ⟨i, r2, rfl⟩ := ii_ex c
  obtain ⟨tp, T, Y, S, X, L, n, of, B, hT, hY, hB, hC, g, hg, hM⟩ := h
  have qq : ∀ {M1 M2 : zM}, OnlyR [6] [] M1 M2 → FrQ pS M1 M2 := fun o => o.qq (by unfold pS; simp) (by simp)
  obtain ⟨y, d, Td, y1, y2, y3, y4, y5⟩ := hC.2.2.2.2.2
  have hyT : isT y := by unfold isT; omega
  unfold Wp_La_about
  refine s_Mc_about hC.2.1 hT y1 hyT y4 hY r0 r1 r2 (fun q => Or.inl ⟨rfl, k1 _ _ ?_⟩) (fun q q1 => Or.inr ⟨rfl, k1 _ _ ?_⟩) (fun q q1 => ⟨_, rfl, r_out (fun M3 e3 v3 => k1 _ _ ?_)⟩) (fun q q1 q2 N hN q3 => ⟨_, rfl, r_out (fun M3 e3 v3 => k1 _ _ ?_)⟩)
  · refine s_Mo_about hM.2.1.1 hT hM.2.2.1 hY r0 r1 r2 (fun M2 o e z => ?_) (fun M2 o e z z1 => absurd z q) (fun M2 o e z z1 => absurd z q) (fun M2 o e z z1 z2 N hN z3 => absurd z q)
    have m := hM.s (qq o) (by rw [o.2.2])
    exact k2 _ _ _ e (fun z => absurd z (by decide)) (IV.mk hT hY hB hC m.2 (by omega) m.1)
  · refine s_Mo_about hM.2.1.1 hT hM.2.2.1 hY r0 r1 r2 (fun M2 o e z => absurd q z) (fun M2 o e z z1 => ?_) (fun M2 o e z z1 => absurd (Or.inl z1) q1) (fun M2 o e z z1 z2 N hN z3 => absurd (Or.inr ⟨z1, z2, by omega, by omega⟩) q1)
    have m := hM.s (qq o) (by rw [o.2.2])
    exact k2 _ _ _ e (fun z => absurd z (by decide)) (IV.mk hT hY hB hC m.2 (by omega) m.1)
  · have hC3 := hC.sm (fun k hk => e3 k (by omega))
    have hM3 := hM.sm (fun k h1 h2 => e3 k (by omega))
    refine s_Mo_about hM3.2.1.1 hT hM3.2.2.1 hY r0 r1 r2 (fun M2 o e z => absurd q z) (fun M2 o e z z1 => absurd (Or.inl q1) z1) (fun M2 o e z z1 => ?_) (fun M2 o e z z1 z2 N hN z3 => absurd q1 (by omega))
    have m := hM3.s (qq o) (by rw [o.2.2])
    exact k2 _ _ _ e (fun _ => by rw [(m.2 451 (by omega)).2.1]; exact v3) (IV.mk hT hY hB hC3 m.2 (by omega) m.1)
  · have hC3 := hC.sm (fun k hk => e3 k (by omega))
    have hM3 := hM.sm (fun k h1 h2 => e3 k (by omega))
    refine s_Mo_about hM3.2.1.1 hT hM3.2.2.1 hY r0 r1 r2 (fun M2 o e z => absurd q z) (fun M2 o e z z1 => absurd (Or.inr ⟨q1, q2, by omega, by omega⟩) z1) (fun M2 o e z z1 => absurd z1 (by omega)) (fun M2 o e z z1 z2 N' hN' z3 => ?_)
    have hNN : N' = N := by omega
    subst hNN
    have m := hM3.s (qq o) (by rw [o.2.2])
    exact k2 _ _ _ e (fun _ => by rw [(m.2 451 (by omega)).2.1]; exact v3) (IV.mk hT hY hB hC3 m.2 (by omega) m.1)
theorem r_byteOf {a b c : Int32} (h : IV M G) (k1 : ∀ x M1, Wp_Mo_byteOf 413 a b c M1 (fun y M2 => Z x y M2) → Z1 x M1) (k2 : ∀ x y M2, M2.1 413 6 = x → (x = 0 → M2.2.1 451 0 = y.toInt64) → IV M2 (G + 1) → Z x y M2) : Wp_La_byteOf 0 a b c 451 M Z1 := by
  obtain ⟨tr, r0, rfl⟩ := ii_ex a
  obtain ⟨i, r1, rfl⟩ := ii_ex b
  obtain ⟨bb, r2, rfl⟩ := ii_ex c
  obtain ⟨tp, T, Y, S, X, L, n, of, B, hT, hY, hB, hC, g, hg, hM⟩ := h
  have qq : ∀ {M1 M2 : zM}, OnlyR [6] [] M1 M2 → FrQ pS M1 M2 := fun o => o.qq (by unfold pS; simp) (by simp)
  obtain ⟨y, d, Td, y1, y2, y3, y4, y5⟩ := hC.2.2.2.2.2
  have hyT : isT y := by unfold isT; omega
  unfold Wp_La_byteOf
  refine s_Mc_byteOf hC.2.1 hT y1 hyT y4 hY r0 r1 r2 (fun q => Or.inl ⟨rfl, k1 _ _ ?_⟩) (fun q q1 => Or.inr ⟨rfl, k1 _ _ ?_⟩) (fun q N m hN q1 q2 hm => ⟨_, rfl, r_out (fun M3 e3 v3 => k1 _ _ ?_)⟩)
  · refine s_Mo_byteOf hM.2.1.1 hT hM.2.2.1 hY r0 r1 r2 (fun M2 o e z => ?_) (fun M2 o e z z1 => absurd z q) (fun M2 o e z N m hN z1 z2 hm => absurd z q)
    have m := hM.s (qq o) (by rw [o.2.2])
    exact k2 _ _ _ e (fun z => absurd z (by decide)) (IV.mk hT hY hB hC m.2 (by omega) m.1)
  · refine s_Mo_byteOf hM.2.1.1 hT hM.2.2.1 hY r0 r1 r2 (fun M2 o e z => absurd q z) (fun M2 o e z z1 => ?_) (fun M2 o e z N m hN z1 z2 hm => absurd ⟨N, m, hN, z1, z2, hm⟩ q1)
    have m := hM.s (qq o) (by rw [o.2.2])
    exact k2 _ _ _ e (fun z => absurd z (by decide)) (IV.mk hT hY hB hC m.2 (by omega) m.1)
  · have hC3 := hC.sm (fun k hk => e3 k (by omega))
    have hM3 := hM.sm (fun k h1 h2 => e3 k (by omega))
    refine s_Mo_byteOf hM3.2.1.1 hT hM3.2.2.1 hY r0 r1 r2 (fun M2 o e z => absurd q z) (fun M2 o e z z1 => absurd ⟨N, m, hN, q1, q2, hm⟩ z1) (fun M2 o e z N' m' hN' z1 z2 hm' => ?_)
    have hNN : N' = N := by omega
    have hmm : m' = m := by omega
    subst hNN hmm
    have m := hM3.s (qq o) (by rw [o.2.2])
    exact k2 _ _ _ e (fun _ => by rw [(m.2 451 (by omega)).2.1]; exact v3) (IV.mk hT hY hB hC3 m.2 (by omega) m.1)
theorem r_unpack (h : IV M G) (k1 : ∀ x M1, Wp_Mo_unpack 413 M1 (fun y M2 => Z x y M2) → Z1 x M1) (k2 : ∀ x M2, IV M2 (G + 1) → Z x x M2) : Wp_Mc_unpack 0 M Z1 := by
  obtain ⟨tp, T, Y, S, X, L, n, of, B, hT, hY, hB, hC, g, hg, hM⟩ := h
  obtain ⟨y, d, Td, y1, y2, y3, y4, y5⟩ := hC.2.2.2.2.2
  obtain ⟨c, T2, hU⟩ := UnR.ex of B
  refine s_Mc_unpack hC.2.2.2.2.1 hB y1 y2 y3 y4 y5 hU (fun M1 Td' hc F e0 e2 B1 I1 D1 => k1 _ _ ?_) (fun M1 hc hT2 F e0 e2 e3 B1 I1 D1 => k1 _ _ ?_)
  · have hC1 : IC M1 tp T Y S X L n of B := ⟨hC.1.sm (F _ (by omega)) (F _ (by omega)), hC.2.1.sm3 (fun k _ _ => F k (by omega)), hC.2.2.1.sm (by rw [e0]) (fun k _ _ => F k (by omega)), hC.2.2.2.1.sm (fun k _ _ => F k (by omega)), B1, ⟨y, d, Td', by rw [e2]; exact y1, by rw [e2]; exact y2, y3, I1, D1⟩⟩
    have hM1 := hM.sm (fun k h1 h2 => F k (by omega))
    refine s_Mo_unpack hM1.2.2.2.2.1 hB hM1.2.2.2.2.2.2.1 hM1.2.2.2.2.2.2.2 hU (fun M2 z f e => ?_) (fun M2 z _ f e I2 B2 => absurd z hc)
    have m := hM1.s (f.q.mono (fun k j q => by
      unfold upIn unIn unF unS at q
      simp only [List.mem_cons, List.not_mem_nil, or_false] at q
      unfold pS
      rcases q with (q | q | q) | q
      · exact Or.inl ⟨q.1, by omega⟩
      · omega
      · exact Or.inr (Or.inr (Or.inr q))
      · exact Or.inl ⟨q.1, by omega⟩)) (by rw [f.2])
    exact k2 _ _ (IV.mk hT hY hB hC1 m.2 (by omega) m.1)
  · have hC1 : IC M1 tp T T2 S X L n 0 [] := ⟨hC.1.sm (F _ (by omega)) (F _ (by omega)), hC.2.1.sm3 (fun k _ _ => F k (by omega)), hC.2.2.1.sm (by rw [e0]) (fun k _ _ => F k (by omega)), hC.2.2.2.1.sm (fun k _ _ => F k (by omega)), B1, ⟨d, y, Y, e2, e3, by omega, I1, D1⟩⟩
    have hM1 := hM.sm (fun k h1 h2 => F k (by omega))
    refine s_Mo_unpack hM1.2.2.2.2.1 hB hM1.2.2.2.2.2.2.1 hM1.2.2.2.2.2.2.2 hU (fun M2 z f e => absurd hc z) (fun M2 z _ f e I2 B2 => ?_)
    have m := hM1.y (f.mono (fun k j q => by
      unfold upIn1 upIn unIn unF unS at q
      simp only [List.mem_cons, List.not_mem_nil, or_false] at q
      unfold qY pS pB
      rcases q with ((q | q | q) | q) | q | q | q
      · exact Or.inl (Or.inl ⟨q.1, by omega⟩)
      · omega
      · exact Or.inl (Or.inr (Or.inr (Or.inr q)))
      · exact Or.inl (Or.inl ⟨q.1, by omega⟩)
      · exact Or.inr (Or.inl q)
      · omega
      · omega)) I2 B2
    exact k2 _ _ (IV.mk hT hT2 (BxOk.nil 0 (by omega)) hC1 m.2 (by omega) m.1)
end RND2
