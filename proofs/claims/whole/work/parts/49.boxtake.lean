/-! A part comes into MailChain's box. -/
/-- what a box tells of a row, and what is in it then -/
def TakeR (of : Nat) (B : Bx) (bs : List UInt8) (c : Nat) (of' : Nat) (B' : Bx) : Prop :=
  (c = 1 ∧ ¬ plOk bs ∧ of' = of ∧ B' = B) ∨
  (c = 2 ∧ plOk bs ∧ (B ≠ [] ∧ (plN bs).1 ≠ of) ∧ of' = of ∧ B' = B) ∨
  (c = 3 ∧ plOk bs ∧ ¬ (B ≠ [] ∧ (plN bs).1 ≠ of) ∧ bxLook (plK bs).1.toNat B ≠ none ∧ of' = of ∧ B' = B) ∨
  (c = 4 ∧ plOk bs ∧ ¬ (B ≠ [] ∧ (plN bs).1 ≠ of) ∧ bxLook (plK bs).1.toNat B = none ∧ (bs.length : Int) - ((plC bs).2 + 1 : Nat) ≠ (plS bs).1 ∧ of' = of ∧ B' = B) ∨
  (c = 5 ∧ plOk bs ∧ ¬ (B ≠ [] ∧ (plN bs).1 ≠ of) ∧ bxLook (plK bs).1.toNat B = none ∧ (bs.length : Int) - ((plC bs).2 + 1 : Nat) = (plS bs).1 ∧ (u32 (crc (bs.drop ((plC bs).2 + 1))) : Int) ≠ (plC bs).1 ∧ of' = of ∧ B' = B) ∨
  (c = 0 ∧ plOk bs ∧ ¬ (B ≠ [] ∧ (plN bs).1 ≠ of) ∧ bxLook (plK bs).1.toNat B = none ∧ (bs.length : Int) - ((plC bs).2 + 1 : Nat) = (plS bs).1 ∧ (u32 (crc (bs.drop ((plC bs).2 + 1))) : Int) = (plC bs).1 ∧ of' = (plN bs).1.toNat ∧ B' = B ++ [((plK bs).1.toNat, bs.drop ((plC bs).2 + 1))])
theorem pl_rng (bs : List UInt8) (h : plOk bs) : 1 ≤ (plK bs).1 ∧ (plK bs).1 ≤ (plN bs).1 ∧ (plN bs).1 ≤ 999 ∧ 0 ≤ (plS bs).1 ∧ (plS bs).1 ≤ 48000 ∧ 0 ≤ (plC bs).1 ∧ (plC bs).1 ≤ 4294967295 ∧ (plC bs).2 ≤ 100 := by
  obtain ⟨t0, t1, t2, t3⟩ := txl
  have rK := pnum_rng bs (txt 0) 999 0
  have rN := pnum_rng bs (txt 1) 999 (plK bs).2
  have rS := pnum_rng bs (txt 2) 48000 (plN bs).2
  have rC := pnum_rng bs (txt 3) 4294967295 (plS bs).2
  rw [show pnum bs (txt 0) 999 0 = plK bs from rfl] at rK
  rw [show pnum bs (txt 1) 999 (plK bs).2 = plN bs from rfl] at rN
  rw [show pnum bs (txt 2) 48000 (plN bs).2 = plS bs from rfl] at rS
  rw [show pnum bs (txt 3) 4294967295 (plS bs).2 = plC bs from rfl] at rC
  obtain ⟨h1, h2, h3, h4, h5⟩ := h
  refine ⟨by omega, by omega, by omega, by omega, by omega, by omega, by omega, by omega⟩
theorem TakeR.ok {of of' c : Nat} {B B' : Bx} {bs : List UInt8} (h : TakeR of B bs c of' B') (hb : BxOk of B) : BxOk of' B' ∧ c ≤ 5 := by
  rcases h with ⟨hc, -, rfl, rfl⟩ | ⟨hc, -, -, rfl, rfl⟩ | ⟨hc, -, -, -, rfl, rfl⟩ | ⟨hc, -, -, -, -, rfl, rfl⟩ | ⟨hc, -, -, -, -, -, rfl, rfl⟩ | ⟨hc, hp, hn, hl, hs, -, rfl, rfl⟩
  · exact ⟨hb, by omega⟩
  · exact ⟨hb, by omega⟩
  · exact ⟨hb, by omega⟩
  · exact ⟨hb, by omega⟩
  · exact ⟨hb, by omega⟩
  · obtain ⟨r1, r2, r3, r4, r5, r6, r7, r8⟩ := pl_rng bs hp
    refine ⟨?_, by omega⟩
    have hB : BxOk (plN bs).1.toNat B := by
      by_cases e : B = []
      · rw [e]
        exact BxOk.nil _ (by omega)
      · have : (plN bs).1 = of := Classical.byContradiction (fun q => hn ⟨e, q⟩)
        rw [this]
        exact hb
    exact hB.snoc hl (by omega) (by omega) (by rw [List.length_drop]; omega)
theorem s_Bo_take {M : zM} {a r of : Nat} {B : Bx} {bs : List UInt8} {post : Int32 → zM → Prop} (hl2 : ln (a + 1 + 1) = 48000) (hl3 : ln (a + 3) = 1000) (hl4 : ln (a + 4) = 1000) (h : BoI M a of B) (hok : BxOk of B) (hR : Rw M r bs) (hr : ∀ j, j ≤ 5 → a + j ≠ r ∧ a + j ≠ r + 1)
    (kk : ∀ (M' : zM) (c of' : Nat) (B' : Bx), Frm [a, a + 1, a + 2, a + 3, a + 4, a + 5] M M' → TakeR of B bs c of' B' → BoI M' a of' B' → post (ii c) M') : Wp_Bo_take a r M post := by
  have hbl := hR.len
  have r5 := hr 5 (by omega)
  unfold Wp_Bo_take
  intro K hK
  refine s_Pl_read hR (fun q => r5.1 q.symm) (fun q => r5.2 q.symm) (fun M1 v oP f0 f1 f2 f3 f4 v1 v0 => ?_)
  have oF : Frm [a, a + 1, a + 2, a + 3, a + 4, a + 5] M M1 := oP.frm.mono (by simp)
  have I1 := h.frm oP.frm (fun j hj => by simp; omega)
  have R1 : Rw M1 r bs := hR.onlyP oP (fun q => r5.1 q.symm) (fun q => r5.2 q.symm)
  by_cases hp : plOk bs
  · have ev := v1 hp
    obtain ⟨p1, p2, p3, p4, p5, p6, p7, p8⟩ := pl_rng bs hp
    refine ⟨fun _ => ?_, fun c => absurd (ev.symm.trans c) (by decide)⟩
    have main : ¬ (B ≠ [] ∧ (plN bs).1 ≠ of) → K M1 := by
      intro hn
      obtain ⟨kn, hkn⟩ := Int.eq_ofNat_of_zero_le (show 0 ≤ (plK bs).1 by omega)
      obtain ⟨nn, hnn⟩ := Int.eq_ofNat_of_zero_le (show 0 ≤ (plN bs).1 by omega)
      refine hK _ ?_
      rw [f0, hkn]
      refine ⟨ii_in (by omega) (by omega) (by omega), ?_⟩
      rw [ii_nat (by omega) (by omega), Int.toNat_natCast, I1.2.2.2.1 kn (by omega), R1.1, f4, f2]
      refine ⟨fun c => ⟨fun c2 => ?_, fun c2 => ?_⟩, fun c => ?_⟩
      · have hl : bxLook (plK bs).1.toNat B = none := by
          rw [hkn, Int.toNat_natCast]
          cases hq : bxLook kn B with
          | none => rfl
          | some p =>
            rw [hq] at c
            have c' : ii (p.length : Int) = -1 := c
            have hm := hok.2.1 _ (bxLook_mem kn p B hq)
            have hm2 : p.length ≤ 60000 := hm.2.2
            rw [show (-1 : Int32) = ii (-1) from rfl, ii_eq (by omega) (by omega) (by omega) (by omega)] at c'
            omega
        rw [ii_sub, ii_eq (by omega) (by omega) (by omega) (by omega)] at c2
        refine s_sum R1 (by omega) (Nat.le_refl _) ?_
        rw [cut_end, u32_ll, f3, lg_cmp_eq]
        have hu := u32_lt (crc (bs.drop ((plC bs).2 + 1)))
        rw [ll_eq (by omega) (by omega) (by omega) (by omega)]
        refine ⟨fun c3 => ?_, fun c3 => kk M1 5 of B oF (Or.inr (Or.inr (Or.inr (Or.inr (Or.inl ⟨rfl, hp, hn, hl, c2, c3, rfl, rfl⟩))))) I1⟩
        have hT : TakeR of B bs 0 (plN bs).1.toNat (B ++ [((plK bs).1.toNat, bs.drop ((plC bs).2 + 1))]) := Or.inr (Or.inr (Or.inr (Or.inr (Or.inr ⟨rfl, hp, hn, hl, c2, c3, rfl, rfl⟩))))
        rw [f0, hkn, f1, hnn, f4]
        have hok' := (hT.ok hok).1
        have e1 : (plK bs).1.toNat = kn := by rw [hkn]; rfl
        have e2 : (plN bs).1.toNat = nn := by rw [hnn]; rfl
        rw [e1] at hl
        rw [e1, e2] at hT hok'
        refine s_Bo_keep hl2 hl3 hl4 I1 hok' hl R1 (by omega) (fun j hj => hr j (by omega)) (fun M2 o2 I2 => ?_)
        exact kk M2 0 nn _ (oF.trans (o2.frm.mono (by simp))) hT I2
      · have hl : bxLook (plK bs).1.toNat B = none := by
          rw [hkn, Int.toNat_natCast]
          cases hq : bxLook kn B with
          | none => rfl
          | some p =>
            rw [hq] at c
            have c' : ii (p.length : Int) = -1 := c
            have hm := hok.2.1 _ (bxLook_mem kn p B hq)
            have hm2 : p.length ≤ 60000 := hm.2.2
            rw [show (-1 : Int32) = ii (-1) from rfl, ii_eq (by omega) (by omega) (by omega) (by omega)] at c'
            omega
        rw [ii_sub, ii_eq (by omega) (by omega) (by omega) (by omega)] at c2
        exact kk M1 4 of B oF (Or.inr (Or.inr (Or.inr (Or.inl ⟨rfl, hp, hn, hl, c2, rfl, rfl⟩)))) I1
      · refine kk M1 3 of B oF (Or.inr (Or.inr (Or.inl ⟨rfl, hp, hn, fun q => c ?_, rfl, rfl⟩))) I1
        rw [hkn, Int.toNat_natCast] at q
        rw [q]
    have hle := hok.len.1
    have hof := hok.2.2
    rw [I1.1, show (0 : Int32) = ii 0 from rfl, ii_le (by omega) (by omega) (by omega) (by omega)]
    refine ⟨fun c => main (fun q => q.1 (List.eq_nil_of_length_eq_zero (by omega))), fun c => ?_⟩
    have hB : B ≠ [] := fun q => c (by rw [q]; simp)
    rw [f1, I1.2.1 hB, ii_eq (by omega) (by omega) (by omega) (by omega)]
    exact ⟨fun c2 => main (fun q => q.2 c2), fun c2 => kk M1 2 of B oF (Or.inr (Or.inl ⟨rfl, hp, ⟨hB, c2⟩, rfl, rfl⟩)) I1⟩
  · have ev := v0 hp
    exact ⟨fun c => absurd ev c, fun _ => kk M1 1 of B oF (Or.inl ⟨rfl, hp, rfl, rfl⟩) I1⟩
theorem s_Mc_receive {M : zM} {of : Nat} {B : Bx} {tp : List UInt8} {post : Int32 → zM → Prop} (hR : Rw M (0 + 1) tp) (h : BoI M (0 + 392) of B) (hok : BxOk of B)
    (kk : ∀ (M' : zM) (c of' : Nat) (B' : Bx), Frm [0 + 1, 0 + 392, 0 + 392 + 1, 0 + 392 + 2, 0 + 392 + 3, 0 + 392 + 4, 0 + 392 + 5] M M' → TakeR of B tp c of' B' → BoI M' (0 + 392) of' B' → Rw M' (0 + 1) [] → post (ii c) M') : Wp_Mc_receive 0 M post := by
  unfold Wp_Mc_receive
  refine s_Bo_take (by decide +kernel) (by decide +kernel) (by decide +kernel) h hok hR (by decide) (fun M1 c of' B' o1 hT I1 => s_wipe (fun M2 o2 _ R2 => ?_))
  exact kk M2 c of' B' ((o1.mono (by simp)).trans (o2.frm.mono (by simp))) hT (I1.frm o2.frm (by decide)) R2
theorem BoI.nil {M M' : zM} {a : Nat} (h1 : Rw M' (a + 1) []) (h2 : ∀ i, i < 1000 → M'.1 (a + 4) i = -1) (h5 : M'.1 a 5 = 0) (h6 : M'.1 a 6 = 0) : BoI M' a 0 [] := by
  refine ⟨h6, fun q => absurd rfl q, h5, fun k hk => h2 k hk, fun k p hp => (by cases hp), [], h1, fun _ => rfl⟩
theorem s_Bo_wipe' {M : zM} {a : Nat} {post : zM → Prop} (hl4 : ln (a + 4) = 1000) (k : ∀ M', Only [a, a + 1, a + 4] M M' → BoI M' a 0 [] → post M') : Wp_Bo_wipe a M post :=
  s_Bo_wipe (fun M' o R s _ f5 f6 => k M' o (BoI.nil (M := M) R (fun i hi => s i (by rw [hl4]; exact hi)) f5 f6))
theorem s_Mc_empty {M : zM} {of : Nat} {B : Bx} {post : Int32 → zM → Prop} (h : BoI M (0 + 392) of B) (kk : ∀ M', Only [0 + 392, 0 + 392 + 1, 0 + 392 + 4] M M' → BoI M' (0 + 392) 0 [] → post (ii B.length) M') : Wp_Mc_empty 0 M post := by
  unfold Wp_Mc_empty
  rintro x rfl
  rw [h.1]
  exact s_Bo_wipe' (by decide +kernel) (fun M' o I => kk M' o I)
