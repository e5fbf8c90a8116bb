/-! pack and stage: both sides. -/
/-- only these places, and whole numbers of the chain itself, have changed -/
def FrX (S : List Nat) (M M' : zM) : Prop := (∀ k, k ≠ 0 → k ∉ S → M'.1 k = M.1 k ∧ M'.2.1 k = M.2.1 k ∧ M'.2.2 k = M.2.2 k) ∧ M'.2.2 0 = M.2.2 0
theorem FrX.rf {S : List Nat} {M : zM} : FrX S M M := ⟨fun _ _ _ => ⟨rfl, rfl, rfl⟩, rfl⟩
theorem FrX.trans {S : List Nat} {M M' M'' : zM} (h : FrX S M M') (h' : FrX S M' M'') : FrX S M M'' := ⟨fun k a b => ⟨(h'.1 k a b).1.trans (h.1 k a b).1, (h'.1 k a b).2.1.trans (h.1 k a b).2.1, (h'.1 k a b).2.2.trans (h.1 k a b).2.2⟩, h'.2.trans h.2⟩
theorem FrX.mono {S S' : List Nat} {M M' : zM} (h : FrX S M M') (hs : ∀ k, k ∈ S → k ∈ S') : FrX S' M M' := ⟨fun k a b => h.1 k a (fun q => b (hs k q)), h.2⟩
theorem Frm.x {S : List Nat} {M M' : zM} (h : Frm S M M') (h0 : 0 ∉ S) : FrX S M M' := ⟨fun k _ b => h k b, (h 0 h0).2.2⟩
theorem Only.x {S : List Nat} {M M' : zM} (h : Only S M M') : FrX S M M' := ⟨fun k _ b => h.frm k b, by rw [h.2]⟩
theorem OnlyF.x {F S : List Nat} {M M' : zM} (h : OnlyF 0 F S M M') : FrX S M M' := ⟨fun k a b => ⟨h.1 k b a, by rw [h.2.2], by rw [h.2.2]⟩, by rw [h.2.2]⟩
theorem Rw.frX {S : List Nat} {M M' : zM} {r : Nat} {bs : List UInt8} (h : Rw M r bs) (ho : FrX S M M') (h0 : r ≠ 0) (h1 : r ∉ S) (h2 : r + 1 ∉ S) : Rw M' r bs := ⟨by rw [(ho.1 r h0 h1).1]; exact h.1, h.2.1, fun i hi => by rw [(ho.1 _ (by omega) h2).1]; exact h.2.2 i hi⟩
theorem TrI.frX {S : List Nat} {M M' : zM} {t : Nat} {T : Tre} (h : TrI M t T) (ho : FrX S M M') (h0 : 0 < t) (hs : ∀ k, k ∈ S → k < t ∨ t + 127 ≤ k) : TrI M' t T :=
  h.same (fun k h1 h2 => ⟨(ho.1 k (by omega) (fun q => by have := hs k q; omega)).1, (ho.1 k (by omega) (fun q => by have := hs k q; omega)).2.2⟩)
theorem MaI.frX {S' : List Nat} {M M' : zM} {a : Nat} {S T : List UInt8} {L n : Nat} (h : MaI M a S T L n) (ho : FrX S' M M') (h0 : 0 < a) (hd : ∀ j, j ≤ 5 → a + j ∉ S') : MaI M' a S T L n := by
  obtain ⟨h1, h2, h3, h4, h5, h6, h7, h8, h9⟩ := h
  exact ⟨h1.frX ho (by omega) (hd 1 (by omega)) (hd 2 (by omega)), h2.frX ho (by omega) (hd 3 (by omega)) (hd 4 (by omega)), by rw [(ho.1 a (by omega) (hd 0 (by omega))).1]; exact h3, by rw [(ho.1 a (by omega) (hd 0 (by omega))).1]; exact h4, h5, h6, h7, h8, fun i hi => by rw [(ho.1 _ (by omega) (hd 5 (by omega))).1]; exact h9 i hi⟩
theorem BoI.frX {S : List Nat} {M M' : zM} {a of : Nat} {B : Bx} (h : BoI M a of B) (ho : FrX S M M') (h0 : 0 < a) (hd : ∀ j, j ≤ 4 → a + j ∉ S) : BoI M' a of B := by
  refine h.frm (S := 0 :: S) (fun k hk => ho.1 k (fun q => hk (by rw [q]; exact List.mem_cons_self)) (fun q => hk (List.mem_cons_of_mem _ q))) (fun j hj q => ?_)
  rcases List.mem_cons.mp q with q | q
  · omega
  · exact hd j hj q
/-- whether the archive is fresh -/
def FrI (M : zM) (T : Tre) : Prop := M.1 0 5 = 0 ∨ (M.1 0 5 = 1 ∧ ∃ A, ArcR T A ∧ Rw M (0 + 384) A)
theorem FrI.frX {S : List Nat} {M M' : zM} {T : Tre} (h : FrI M T) (ho : FrX S M M') (h5 : M'.1 0 5 = M.1 0 5) (h1 : 0 + 384 ∉ S) (h2 : 0 + 384 + 1 ∉ S) : FrI M' T := by
  rcases h with h | ⟨h, A, hA, hR⟩
  · exact Or.inl (h5.trans h)
  · exact Or.inr ⟨h5.trans h, A, hA, hR.frX ho (by decide) h1 h2⟩
theorem s_refresh {M : zM} {T : Tre} {post : zM → Prop} (h : TrI M (0 + 3) T) (hV : TOk T) (hF : FrI M T) (k : ∀ M' A, FrX [0 + 384, 0 + 384 + 1] M M' → ArcR T A → Rw M' (0 + 384) A → M'.1 0 5 = 1 → post M') : Wp_Mc_refreshArchive 0 M post := by
  unfold Wp_Mc_refreshArchive
  refine ⟨fun q => ?_, fun q => ?_⟩
  · rcases hF with hF | ⟨hF, A, hA, hR⟩
    · exact absurd hF q
    · exact k M A FrX.rf hA hR hF
  · refine s_Ar_write (Or.inl rfl) h hV (by decide +kernel) (by omega) (fun M1 A o1 hA R1 => ?_)
    rintro M2 rfl
    have o2 : OnlyF 0 [5] [] M1 (zI M1 0 5 1) := OnlyF.rf.fld (by simp)
    exact k _ A (o1.x.trans (o2.x.mono (by simp))) hA (R1.frX o2.x (by decide) (by simp) (by simp)) (by rw [zI_g, if_pos ⟨rfl, rfl⟩])
def packOk (w L : Int) : Prop := 9 ≤ w ∧ w ≤ 16 ∧ 40 ≤ L ∧ L ≤ 4000
theorem arc_sizes {T : Tre} (hV : TOk T) {g : Nat} (h1 : 9 ≤ g) (h2 : g ≤ 16) : (arc T).length ≤ 16000 ∧ 3 + (lenE (enc g (arc T)) + 7) / 8 ≤ 26000 ∧ (press g (arc T)).length ≤ 26000 ∧ (spell (press g (arc T))).length ≤ 36000 := by
  have ha := (arc_len hV).1
  have e := enc_bound (g := g) (bs := arc T) h1 h2 (by omega)
  have s2 := spell_len (press g (arc T))
  have p := press_len (g := g) (bs := arc T)
  refine ⟨by omega, by omega, by omega, by omega⟩
theorem s_Mc_pack {M : zM} {T : Tre} {w L : Int} {post : Option Value → zM → Prop} {postT : Nat → zM → Prop} (h : TrI M (0 + 3) T) (hV : TOk T) (hF : FrI M T) (r1 : R32 w) (r2 : R32 L)
    (kT : ¬ packOk w L → postT 1 M)
    (k1 : ∀ M', packOk w L → ¬ smallT T → FrX [0 + 384, 0 + 384 + 1] M M' → FrI M' T → post (some (.int (-1))) M')
    (k2 : ∀ M', packOk w L → smallT T → 999 * L.toNat < (spell (press w.toNat (arc T))).length → FrX [0 + 384, 0 + 384 + 1, 0 + 398, 0 + 398 + 1, 0 + 398 + 2, 0 + 398 + 3, 0 + 407, 0 + 407 + 1, 0 + 409, 0 + 409 + 1] M M' → FrI M' T → post (some (.int (-2))) M')
    (kk : ∀ M', packOk w L → smallT T → (spell (press w.toNat (arc T))).length ≤ 999 * L.toNat → FrX [0 + 384, 0 + 384 + 1, 0 + 386, 0 + 386 + 1, 0 + 386 + 2, 0 + 386 + 3, 0 + 386 + 4, 0 + 386 + 5, 0 + 398, 0 + 398 + 1, 0 + 398 + 2, 0 + 398 + 3, 0 + 407, 0 + 407 + 1, 0 + 409, 0 + 409 + 1] M M' → FrI M' T → MaI M' (0 + 386) (press w.toNat (arc T)) (spell (press w.toNat (arc T))) L.toNat (nParts (spell (press w.toNat (arc T))).length L.toNat) → post (some (.int (ii (nParts (spell (press w.toNat (arc T))).length L.toNat : Nat)))) M') : Wp_Mc_pack 0 (ii w) (ii L) M post postT := by
  have l408 : ln (0 + 407 + 1) = 36000 := by decide +kernel
  have l410 : ln (0 + 409 + 1) = 48000 := by decide +kernel
  have l388 : ln (0 + 386 + 1 + 1) = 26000 := by decide +kernel
  have l390 : ln (0 + 386 + 3 + 1) = 36000 := by decide +kernel
  unfold R32 at *
  unfold packOk at *
  unfold Wp_Mc_pack
  refine s_isWidth r1.1 r1.2 ?_
  by_cases hw : 9 ≤ w ∧ w ≤ 16
  · rw [if_pos hw]
    refine ⟨fun z => absurd z (by decide), fun _ => ?_⟩
    rw [show (40 : Int32) = ii 40 from rfl, show (4000 : Int32) = ii 4000 from rfl, ii_lt r2.1 r2.2 (by decide) (by decide), ii_le r2.1 r2.2 (by decide) (by decide)]
    refine ⟨fun q => kT (by omega), fun q => ⟨fun q2 => ?_, fun q2 => kT (by omega)⟩⟩
    obtain ⟨g, rfl⟩ := Int.eq_ofNat_of_zero_le (show 0 ≤ w by omega)
    obtain ⟨n, rfl⟩ := Int.eq_ofNat_of_zero_le (show 0 ≤ L by omega)
    rw [Int.toNat_natCast, Int.toNat_natCast] at *
    obtain ⟨z1, z2, z3, z4⟩ := arc_sizes hV (g := g) (by omega) (by omega)
    have hpk : 9 ≤ (g : Int) ∧ (g : Int) ≤ 16 ∧ 40 ≤ (n : Int) ∧ (n : Int) ≤ 4000 := by omega
    refine s_refresh h hV hF (fun M1 A o1 hA R1 e1 => ?_)
    have hAl := R1.len
    rw [R1.1, show (0 : Int32) = ii 0 from rfl, ii_eq (by omega) (by omega) (by omega) (by omega)]
    have hF1 : FrI M1 T := Or.inr ⟨e1, A, hA, R1⟩
    rcases hA with ⟨hs, rfl⟩ | ⟨hs, rfl⟩
    · refine ⟨fun _ => ?_, fun z => ?_⟩
      · refine s_squeeze R1 (by omega) (by omega) z1 (by decide +kernel) (by decide +kernel) (by decide +kernel) (by omega) (by decide) (by decide) (by decide) (by decide) (by decide) (fun M2 o2 R2 => ?_)
        refine s_write R2 (by decide) (by decide) (by decide) (by omega) (fun M3 o3 R3 => ?_)
        have x2 : FrX [0 + 384, 0 + 384 + 1, 0 + 398, 0 + 398 + 1, 0 + 398 + 2, 0 + 398 + 3, 0 + 407, 0 + 407 + 1, 0 + 409, 0 + 409 + 1] M M3 := (o1.mono (by simp)).trans ((o2.x.mono (by simp)).trans (o3.x.mono (by simp)))
        have x2F : FrI M3 T := (hF1.frX o2.x (by rw [o2.1 0 (by decide)]) (by decide) (by decide)).frX o3.x (by rw [o3.1 0 (by decide)]) (by decide) (by decide)
        rw [R3.1, show (999 : Int32) = ii 999 from rfl, ii_mul, ii_le (by omega) (by omega) (by omega) (by omega)]
        refine ⟨fun q4 => ?_, fun q4 => k2 M3 hpk hs (by omega) x2 x2F⟩
        have R23 : Rw M3 (0 + 407) (press g (arc T)) := R2.only o3 (by decide) (by decide)
        refine s_Ma_keep R23 R3 (by omega) (by omega) (by omega) (by omega) (by omega) (by decide +kernel) (by decide) (by decide) (fun M4 o4 I4 => ?_)
        rw [I4.2.2.1]
        exact kk M4 hpk hs (by omega) ((x2.mono (by simp)).trans (o4.x.mono (by simp))) (x2F.frX o4.x (by rw [o4.1 0 (by decide)]) (by decide) (by decide)) I4
      · have := (arc_len hV).2
        omega
    · exact ⟨fun z => absurd rfl z, fun _ => k1 M1 hpk hs o1 hF1⟩
  · rw [if_neg hw]
    exact ⟨fun _ => kT (by omega), fun z => absurd rfl z⟩
theorem nParts_gt {t L : Nat} (hL : 1 ≤ L) : 999 < nParts t L ↔ 999 * L < t := by
  unfold nParts
  rw [show (999 < (t + L - 1) / L) = (1000 ≤ (t + L - 1) / L) from rfl, Nat.le_div_iff_mul_le (by omega)]
  omega
theorem nParts_ok {t L : Nat} (hL : 1 ≤ L) (h0 : 0 < t) : (nParts t L - 1) * L < t ∧ t ≤ nParts t L * L ∧ 1 ≤ nParts t L := by
  unfold nParts
  have h1 : 1 ≤ (t + L - 1) / L := (Nat.le_div_iff_mul_le (by omega)).mpr (by omega)
  have h2 := Nat.div_add_mod (t + L - 1) L
  have h3 := Nat.mod_lt (t + L - 1) (show L > 0 by omega)
  generalize hq : (t + L - 1) / L = q at *
  obtain ⟨j, rfl⟩ : ∃ j, q = j + 1 := ⟨q - 1, by omega⟩
  rw [Nat.mul_comm] at h2
  rw [Nat.add_sub_cancel]
  have h4 : (j + 1) * L = j * L + L := Nat.succ_mul j L
  refine ⟨by omega, by omega, by omega⟩
theorem s_Mo_pack {M : zM} {T : Tre} {w L : Int} {post : Int32 → zM → Prop} (h : RtI M 0 T) (hV : TOk T) (htr : Ab M (413 + 1) trName) (hbeg : ∀ (i : Nat) (h : i < 15), M.1 (413 + 2) i = sb ((txt 4).getD i 0)) (r1 : R32 w) (r2 : R32 L)
    (kT : ∀ M', ¬ packOk w L → OnlyR [6] [] M M' → M'.1 413 6 = 1 → post 0 M')
    (k1 : ∀ M', packOk w L → ¬ smallT T → OnlyR [6] [] M M' → M'.1 413 6 = 0 → post (-1) M')
    (k2 : ∀ M', packOk w L → smallT T → 999 * L.toNat < (spell (press w.toNat (arc T))).length → OnlyR [6, 25, 27, 29, 53, 54, 55, 56, 57] [413 + 22, 413 + 23, 413 + 24, 413 + 33, 413 + 34, 413 + 35] M M' → M'.1 413 6 = 0 → post (-2) M')
    (kk : ∀ M', packOk w L → smallT T → (spell (press w.toNat (arc T))).length ≤ 999 * L.toNat → OnlyR [6, 25, 27, 29, 31, 32, 33, 35, 53, 54, 55, 56, 57] [413 + 22, 413 + 23, 413 + 24, 413 + 25, 413 + 26, 413 + 33, 413 + 34, 413 + 35] M M' → M'.1 413 6 = 0 → MmI M' (press w.toNat (arc T)) (spell (press w.toNat (arc T))) L.toNat (nParts (spell (press w.toNat (arc T))).length L.toNat) → post (ii (nParts (spell (press w.toNat (arc T))).length L.toNat : Nat)) M') : Wp_Mo_pack 413 (ii w) (ii L) M post := by
  have l23 : ln (413 + 23) = 40000 := by decide +kernel
  have l24 : ln (413 + 24) = 56000 := by decide +kernel
  have l25 : ln (413 + 25) = 40000 := by decide +kernel
  have l26 : ln (413 + 26) = 56000 := by decide +kernel
  unfold R32 at *
  unfold packOk at *
  unfold Wp_Mo_pack
  intro K31 K125 K165 h31 h125 h165
  have bad : ¬ (9 ≤ w ∧ w ≤ 16 ∧ 40 ≤ L ∧ L ≤ 4000) → K31 1 413 M := by
    intro hb
    refine h31 _ _ _ ⟨by decide, by decide +kernel, ?_⟩
    rintro M1 rfl
    have e6 : (zI M 413 6 1).1 413 6 = 1 := by rw [zI_g, if_pos ⟨rfl, rfl⟩]
    rw [e6]
    exact ⟨fun z => absurd z (by decide), fun _ => kT _ hb (OnlyR.rf.fld (by simp)) e6⟩
  rw [show (9 : Int32) = ii 9 from rfl, show (16 : Int32) = ii 16 from rfl, show (40 : Int32) = ii 40 from rfl, show (4000 : Int32) = ii 4000 from rfl, ii_lt r1.1 r1.2 (by decide) (by decide), ii_lt (by decide) (by decide) r1.1 r1.2, ii_lt r2.1 r2.2 (by decide) (by decide), ii_le r2.1 r2.2 (by decide) (by decide)]
  refine ⟨fun q => bad (by omega), fun q1 => ⟨fun q => bad (by omega), fun q2 => ⟨fun q => bad (by omega), fun q3 => ⟨fun q4 => ?_, fun q => bad (by omega)⟩⟩⟩⟩
  obtain ⟨g, rfl⟩ := Int.eq_ofNat_of_zero_le (show 0 ≤ w by omega)
  obtain ⟨n, rfl⟩ := Int.eq_ofNat_of_zero_le (show 0 ≤ L by omega)
  rw [Int.toNat_natCast, Int.toNat_natCast] at *
  obtain ⟨z1, z2, z3, z4⟩ := arc_sizes hV (g := g) (by omega) (by omega)
  have hpk : 9 ≤ (g : Int) ∧ (g : Int) ≤ 16 ∧ 40 ≤ (n : Int) ∧ (n : Int) ≤ 4000 := by omega
  refine h31 _ _ _ ⟨by decide, by decide +kernel, ?_⟩
  rintro M1 hM1
  have e6 : M1.1 413 6 = 0 := by rw [hM1, zI_g, if_pos ⟨rfl, rfl⟩]
  have o1 : OnlyR [6] [] M M1 := by rw [hM1]; exact OnlyR.rf.fld (by simp)
  have I1 : RtI M1 0 T := h.onlyQ o1.q (by simp)
  rw [e6]
  refine ⟨fun _ => ?_, fun z => absurd (by decide) z⟩
  show Wp_Mo_isLarge 413 (ii ((0 : Nat) : Int)) M1 _
  refine s_isLarge (by omega) I1 hV.2.2.1 (fun hs => ⟨fun _ => ?_, fun z => absurd rfl z⟩) (fun hs => ⟨fun z => absurd z (by decide), fun _ => k1 M1 hpk hs o1 e6⟩)
  show Wp_Mo_archiveOf 413 (ii ((0 : Nat) : Int)) M1 _
  refine s_archiveOf (by omega) I1 hV (htr.onlyR o1 (by simp) (by decide)) (fun M2 o2 R2 => ?_)
  rw [R2.1]
  refine s_compressRow R2.2 (by omega) (by omega) (by omega) (by decide) (fun M3 o3 R3 => ?_)
  rw [R3.1]
  refine s_spellRow R3.2 (by decide) (by decide) (by omega) (fun i hi => by rw [o3.1 (413 + 2) (by decide) (by decide), o2.1 (413 + 2) (by decide) (by decide), o1.1 (413 + 2) (by decide) (by decide)]; exact hbeg i hi) (fun M4 o4 R4 => ?_)
  have R34 : Cw M4 27 (413 + 23) (press g (arc T)) := R3.only o4 (by decide) (by decide) (by decide)
  have o14 : OnlyR [6, 25, 27, 29, 53, 54, 55, 56, 57] [413 + 22, 413 + 23, 413 + 24, 413 + 33, 413 + 34, 413 + 35] M M4 := (o1.mono (by simp) (by simp)).trans ((o2.mono (by simp) (by simp)).trans ((o3.mono (by simp) (by simp)).trans (o4.mono (by simp) (by simp))))
  have e64 : M4.1 413 6 = 0 := by rw [o4.2.1 6 (by decide), o3.2.1 6 (by decide), o2.2.1 6 (by decide)]; exact e6
  refine ⟨fun z => ?_, ?_⟩
  · rw [show (0 : Int32) = ii 0 from rfl, ii_eq (by omega) (by omega) (by omega) (by omega)] at z
    omega
  generalize hS : press g (arc T) = S at *
  generalize hX : spell S = X at *
  have hX0 : 0 < X.length := by
    rw [← hX]
    unfold spell
    simp only [List.length_append, List.length_cons, List.length_nil]
    omega
  have hnp := nParts_ok (L := n) (by omega) hX0
  have hng := nParts_gt (t := X.length) (L := n) (by omega)
  rintro x rfl
  have ex : (M4.1 413 29 + ii (n : Int) - 1) / ii (n : Int) = ii ((nParts X.length n : Nat) : Int) := by
    rw [R4.1, ii_add, show (1 : Int32) = ii 1 from rfl, ii_sub, ii_div (by omega) (by omega) (by omega) (by omega)]
    unfold nParts
    rw [Int.natCast_ediv]
    congr 2
    omega
  have hnb : nParts X.length n ≤ 36000 + 4000 := by
    unfold nParts
    exact Nat.le_trans (Nat.div_le_self _ _) (by omega)
  rw [ex, show (999 : Int32) = ii 999 from rfl, ii_le (by omega) (by omega) (by omega) (by omega)]
  refine ⟨fun q => ?_, fun q => k2 M4 hpk hs (by omega) o14 e64⟩
  rintro M8 h8 M9 h9 M10 h10
  have g10 : ∀ j, M10.1 413 j = if j = 33 then ii S.length else if j = 32 then ii (n : Int) else if j = 31 then ii ((nParts X.length n : Nat) : Int) else M4.1 413 j := by
    intro j
    have e27 : M9.1 413 27 = ii S.length := by rw [h9, zI_g, if_neg (by decide), h8, zI_g, if_neg (by decide)]; exact R34.1
    rw [h10, zI_g]
    by_cases c1 : j = 33
    · rw [if_pos ⟨rfl, c1⟩, if_pos c1, e27]
    · rw [if_neg (fun z => c1 z.2), if_neg c1, h9, zI_g]
      by_cases c2 : j = 32
      · rw [if_pos ⟨rfl, c2⟩, if_pos c2]
      · rw [if_neg (fun z => c2 z.2), if_neg c2, h8, zI_g]
        by_cases c3 : j = 31
        · rw [if_pos ⟨rfl, c3⟩, if_pos c3]
        · rw [if_neg (fun z => c3 z.2), if_neg c3]
  have o10 : OnlyR [31, 32, 33, 35] [413 + 25, 413 + 26] M4 M10 := by
    rw [h10, h9, h8]
    exact ((OnlyR.rf.fld (by simp)).fld (by simp)).fld (by simp)
  suffices H : ∀ (m i : Nat) (M5 : zM), i + m = S.length → OnlyR [35] [413 + 25] M10 M5 → (∀ (j : Nat) (hj : j < S.length), j < i → M5.1 (413 + 25) j = sb S[j]) → K125 (ii ((nParts X.length n : Nat) : Int)) (ii i) M5 from H _ 0 M10 (Nat.zero_add _) OnlyR.rf (fun j _ hj => absurd hj (by omega))
  intro m
  induction m with
  | zero =>
    intro i M5 hi o5 c5
    have e27 : M5.1 413 27 = ii S.length := by rw [o5.2.1 27 (by decide), o10.2.1 27 (by decide)]; exact R34.1
    have e29 : M5.1 413 29 = ii X.length := by rw [o5.2.1 29 (by decide), o10.2.1 29 (by decide)]; exact R4.1
    refine h125 _ _ _ ⟨fun _ => ?_, fun z => absurd (by rw [e27, ii_le (by omega) (by omega) (by omega) (by omega)]; omega) z⟩
    rintro M11 h11
    rw [e29] at h11
    have o11 : OnlyR [35] [413 + 25, 413 + 26] M10 M11 := by
      rw [h11]
      exact (o5.mono (by simp) (by simp)).fld (by simp)
    have e35 : M11.1 413 35 = ii X.length := by rw [h11, zI_g, if_pos ⟨rfl, rfl⟩]
    suffices H2 : ∀ (m i : Nat) (M6 : zM), i + m = X.length → OnlyR [] [413 + 26] M11 M6 → (∀ (j : Nat) (hj : j < X.length), j < i → M6.1 (413 + 26) j = sb X[j]) → K165 (ii ((nParts X.length n : Nat) : Int)) (ii i) M6 from H2 _ 0 M11 (Nat.zero_add _) OnlyR.rf (fun j _ hj => absurd hj (by omega))
    intro m
    induction m with
    | zero =>
      intro i' M6 hi' o6 c6
      have e29' : M6.1 413 29 = ii X.length := by rw [o6.2.1 29 (by simp), h11, zI_g, if_neg (by decide)]; exact e29
      refine h165 _ _ _ ⟨fun _ => ?_, fun z => absurd (by rw [e29', ii_le (by omega) (by omega) (by omega) (by omega)]; omega) z⟩
      have oo : OnlyR [6, 25, 27, 29, 31, 32, 33, 35, 53, 54, 55, 56, 57] [413 + 22, 413 + 23, 413 + 24, 413 + 25, 413 + 26, 413 + 33, 413 + 34, 413 + 35] M M6 := (o14.mono (by simp) (by simp)).trans ((o10.mono (by simp) (by simp)).trans ((o11.mono (by simp) (by simp)).trans (o6.mono (by simp) (by simp))))
      have q : ∀ j, j ≠ 35 → M6.1 413 j = M10.1 413 j := fun j hj => by rw [o6.2.1 j (by simp), o11.2.1 j (by simpa using hj)]
      refine kk M6 hpk hs (by omega) oo (by rw [q 6 (by decide), g10, if_neg (by decide), if_neg (by decide), if_neg (by decide)]; exact e64) ⟨⟨?_, by omega, fun j hj => ?_⟩, ⟨?_, by omega, fun j hj => c6 j hj (by omega)⟩, ?_, fun _ => ⟨?_, by omega, by omega⟩, by omega, Or.inr ⟨hnp.1, hnp.2.1⟩⟩
      · rw [q 33 (by decide), g10, if_pos rfl]
      · rw [o6.1 (413 + 25) (by decide) (by decide), h11, zI_o (by decide)]
        exact c5 j hj (by omega)
      · rw [o6.2.1 35 (by simp)]; exact e35
      · rw [q 31 (by decide), g10, if_neg (by decide), if_neg (by decide), if_pos rfl]
      · rw [q 32 (by decide), g10, if_neg (by decide), if_pos rfl]
    | succ m ih2 =>
      intro i' M6 hi' o6 c6
      have e29' : M6.1 413 29 = ii X.length := by rw [o6.2.1 29 (by simp), h11, zI_g, if_neg (by decide)]; exact e29
      refine h165 _ _ _ ⟨fun z => ?_, fun _ => ⟨ii_in (by omega) (by omega) (by omega), ii_in (by omega) (by omega) (by omega), ?_⟩⟩
      · rw [e29', ii_le (by omega) (by omega) (by omega) (by omega)] at z
        omega
      · have hv : M6.1 (413 + 24) i' = sb (X[i']'(by omega)) := by
          rw [o6.1 (413 + 24) (by decide) (by decide), o11.1 (413 + 24) (by decide) (by decide), o10.1 (413 + 24) (by decide) (by decide)]
          exact R4.2.2 i' (by omega)
        rw [ii_nat (by omega) (by omega), Int.toNat_natCast, hv, nar_b8, b8_sb]
        rintro M7 rfl x rfl
        rw [show (1 : Int32) = ii 1 from rfl, ii_add]
        refine ih2 (i' + 1) _ (by omega) (o6.arr (by simp) (by decide)) (fun j hj hji => ?_)
        rw [zI_g]
        by_cases c : j = i'
        · subst c
          rw [if_pos ⟨rfl, rfl⟩]
        · rw [if_neg (fun z => c z.2)]
          exact c6 j hj (by omega)
  | succ m ih =>
    intro i M5 hi o5 c5
    have e27 : M5.1 413 27 = ii S.length := by rw [o5.2.1 27 (by decide), o10.2.1 27 (by decide)]; exact R34.1
    refine h125 _ _ _ ⟨fun z => ?_, fun _ => ⟨ii_in (by omega) (by omega) (by omega), ii_in (by omega) (by omega) (by omega), ?_⟩⟩
    · rw [e27, ii_le (by omega) (by omega) (by omega) (by omega)] at z
      omega
    · have hv : M5.1 (413 + 23) i = sb (S[i]'(by omega)) := by
        rw [o5.1 (413 + 23) (by decide) (by decide), o10.1 (413 + 23) (by decide) (by decide)]
        exact R34.2.2 i (by omega)
      rw [ii_nat (by omega) (by omega), Int.toNat_natCast, hv, nar_b8, b8_sb]
      rintro M7 rfl x rfl
      rw [show (1 : Int32) = ii 1 from rfl, ii_add]
      refine ih (i + 1) _ (by omega) (o5.arr (by simp) (by decide)) (fun j hj hji => ?_)
      rw [zI_g]
      by_cases c : j = i
      · subst c
        rw [if_pos ⟨rfl, rfl⟩]
      · rw [if_neg (fun z => c z.2)]
        exact c5 j hj (by omega)
/-- what a stage tells -/
def stV (A S X : List UInt8) (what i : Int) : Int := gt (if what = 0 then A else if what = 1 then S else X) i
theorem s_Mc_stage {M : zM} {T : Tre} {S X : List UInt8} {L n : Nat} {what i : Int} {post : Option Value → zM → Prop} {postT : Nat → zM → Prop} (h : TrI M (0 + 3) T) (hV : TOk T) (hF : FrI M T) (hM : MaI M (0 + 386) S X L n) (r1 : R32 what) (r2 : R32 i)
    (kT : ¬ (0 ≤ what ∧ what ≤ 2) → postT 1 M)
    (kk : ∀ M' A, (0 ≤ what ∧ what ≤ 2) → ArcR T A → FrX [0 + 384, 0 + 384 + 1] M M' → FrI M' T → post (some (.int (ii (stV A S X what i)))) M') : Wp_Mc_stage 0 (ii what) (ii i) M post postT := by
  have ex : ∃ A, ArcR T A := by
    by_cases c : smallT T
    · exact ⟨_, Or.inl ⟨c, rfl⟩⟩
    · exact ⟨_, Or.inr ⟨c, rfl⟩⟩
  obtain ⟨A0, hA0⟩ := ex
  unfold R32 at *
  unfold Wp_Mc_stage
  rw [show (0 : Int32) = ii 0 from rfl, show (1 : Int32) = ii 1 from rfl, show (2 : Int32) = ii 2 from rfl, ii_eq r1.1 r1.2 (by decide) (by decide), ii_eq r1.1 r1.2 (by decide) (by decide), ii_eq r1.1 r1.2 (by decide) (by decide)]
  refine ⟨fun q => s_refresh h hV hF (fun M1 A o1 hA R1 e1 => s_at R1 r2.1 r2.2 ?_), fun q => s_at hM.1 r2.1 r2.2 ?_, fun q => s_at hM.2.1 r2.1 r2.2 ?_, fun q0 q1 q2 => kT (by omega)⟩
  · have := kk M1 A (by omega) hA o1 (Or.inr ⟨e1, A, hA, R1⟩)
    unfold stV at this
    rw [if_pos q] at this
    exact this
  · have := kk M A0 (by omega) hA0 FrX.rf hF
    unfold stV at this
    rw [if_neg (by omega), if_pos q] at this
    exact this
  · have := kk M A0 (by omega) hA0 FrX.rf hF
    unfold stV at this
    rw [if_neg (by omega), if_neg (by omega)] at this
    exact this
theorem s_Mo_stage {M : zM} {T : Tre} {A S X : List UInt8} {L n : Nat} {what i : Int} {post : Int32 → zM → Prop} (h : RtI M 0 T) (hV : TOk T) (htr : Ab M (413 + 1) trName) (hM : MmI M S X L n) (hA : ArcR T A) (r1 : R32 what) (r2 : R32 i)
    (kT : ∀ M', ¬ (0 ≤ what ∧ what ≤ 2) → OnlyR [6, 25] [413 + 22] M M' → M'.1 413 6 = 1 → post 0 M')
    (kk : ∀ M', (0 ≤ what ∧ what ≤ 2) → OnlyR [6, 25] [413 + 22] M M' → M'.1 413 6 = 0 → post (ii (stV A S X what i)) M') : Wp_Mo_stage 413 (ii what) (ii i) M post := by
  have l22 : ln (413 + 22) = 24000 := by decide +kernel
  have l25 : ln (413 + 25) = 40000 := by decide +kernel
  have l26 : ln (413 + 26) = 56000 := by decide +kernel
  unfold R32 at *
  unfold Wp_Mo_stage
  intro K15 h15
  have bad : ¬ (0 ≤ what ∧ what ≤ 2) → K15 1 413 M := by
    intro hb
    refine h15 _ _ _ ⟨by decide, by decide +kernel, ?_⟩
    rintro M1 rfl
    have e6 : (zI M 413 6 1).1 413 6 = 1 := by rw [zI_g, if_pos ⟨rfl, rfl⟩]
    rw [e6]
    exact ⟨fun _ => ⟨fun z => absurd z (by decide), fun _ => kT _ hb (OnlyR.rf.fld (by simp)) e6⟩, fun z => absurd (by decide) z⟩
  rw [ii_nneg r1.1 r1.2, show (2 : Int32) = ii 2 from rfl, ii_le r1.1 r1.2 (by decide) (by decide)]
  refine ⟨fun q => bad (by omega), fun q1 => ⟨fun q2 => ?_, fun q => bad (by omega)⟩⟩
  refine h15 _ _ _ ⟨by decide, by decide +kernel, ?_⟩
  rintro M1 hM1
  have e6 : M1.1 413 6 = 0 := by rw [hM1, zI_g, if_pos ⟨rfl, rfl⟩]
  have o1 : OnlyR [6] [] M M1 := by rw [hM1]; exact OnlyR.rf.fld (by simp)
  have o1' : OnlyR [6, 25] [413 + 22] M M1 := o1.mono (by simp) (by simp)
  have I1 : RtI M1 0 T := h.onlyQ o1.q (by simp)
  have m1 := hM.only o1 (by decide) (by decide)
  have row : ∀ (f k : Nat) (bs : List UInt8) (M2 : zM), Cw M2 f k bs → OnlyR [6, 25] [413 + 22] M M2 → M2.1 413 6 = 0 → bs.length ≤ 70000 → (if what = 0 then A else if what = 1 then S else X) = bs → 0 ≤ i → ((M2.1 413 f ≤ ii i → post (-1) M2) ∧ (¬ M2.1 413 f ≤ ii i → (vp_in (ii i) (ln k) ∧ post ((M2.1 k (ii i).toNatClampNeg) &&& 255) M2))) := by
    intro f k bs M2 hC o2 e2 hl hb hi
    have fin := kk M2 ⟨by omega, by omega⟩ o2 e2
    unfold stV at fin
    rw [hb] at fin
    have hbl := hC.2.1
    rw [hC.1, ii_le (by omega) (by omega) r2.1 r2.2]
    refine ⟨fun z => ?_, fun z => ⟨ii_in (by omega) (by omega) (by omega), ?_⟩⟩
    · rw [gt_out (Or.inr z)] at fin
      exact fin
    · obtain ⟨j, rfl⟩ := Int.eq_ofNat_of_zero_le hi
      rw [gt_in (show j < bs.length by omega)] at fin
      rw [ii_nat (by omega) (by omega), Int.toNat_natCast, hC.2.2 j (by omega), show (255 : Int32) = ii 255 from rfl, sb_and]
      exact fin
  have hSl : S.length ≤ 40000 := by have := hM.1.2.1; omega
  have hXl : X.length ≤ 56000 := by have := hM.2.1.2.1; omega
  have neg : ∀ M2, i < 0 → OnlyR [6, 25] [413 + 22] M M2 → M2.1 413 6 = 0 → post (-1) M2 := by
    intro M2 hi o2 e2
    have fin := kk M2 ⟨by omega, by omega⟩ o2 e2
    unfold stV at fin
    rw [gt_out (Or.inl hi)] at fin
    exact fin
  rw [e6, show (0 : Int32) = ii 0 from rfl, ii_le (by decide) (by decide) r2.1 r2.2, show (1 : Int32) = ii 1 from rfl, ii_eq r1.1 r1.2 (by decide) (by decide), ii_eq r1.1 r1.2 (by decide) (by decide)]
  refine ⟨fun z => absurd z (by decide), fun _ => ⟨fun hi => ⟨fun c0 => ⟨fun c1 => row 35 (413 + 26) X M1 m1.2.1 o1' e6 (by omega) (by rw [if_neg c0, if_neg c1]) hi, fun c1 => row 33 (413 + 25) S M1 m1.1 o1' e6 (by omega) (by rw [if_neg c0, if_pos c1]) hi⟩, fun c0 => ?_⟩, fun hi => ⟨fun _ => neg M1 (by omega) o1' e6, fun z => absurd (by decide) z⟩⟩⟩
  show Wp_Mo_isLarge 413 (ii ((0 : Nat) : Int)) M1 _
  refine s_isLarge (by omega) I1 hV.2.2.1 (fun hs => ⟨fun _ => ?_, fun z => absurd rfl z⟩) (fun hs => ⟨fun z => absurd z (by decide), fun _ => ?_⟩)
  · show Wp_Mo_archiveOf 413 (ii ((0 : Nat) : Int)) M1 _
    refine s_archiveOf (by omega) I1 hV (htr.onlyR o1 (by simp) (by decide)) (fun M2 o2 R2 => ?_)
    have hal := (arc_len hV).1
    have hAe : A = arc T := by
      rcases hA with hA | hA
      · exact hA.2
      · exact absurd hs hA.1
    exact row 25 (413 + 22) (arc T) M2 R2 (o1'.trans (o2.mono (by simp) (by simp))) (by rw [o2.2.1 6 (by decide)]; exact e6) (by omega) (by rw [if_pos c0, hAe]) hi
  · have hAe : A = [] := by
      rcases hA with hA | hA
      · exact absurd hA.1 hs
      · exact hA.2
    have fin := kk M1 ⟨by omega, by omega⟩ o1' e6
    unfold stV at fin
    rw [if_pos c0, hAe, gt_out (Or.inr (by simpa using hi))] at fin
    exact fin
