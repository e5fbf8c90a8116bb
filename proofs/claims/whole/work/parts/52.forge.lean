/-! receive, pass, empty, forge. -/
theorem s_Mo_empty {M : zM} {of : Nat} {B : Bx} {post : Int32 → zM → Prop} (h : BmI M of B) (kk : ∀ M', OnlyQ [6, 38, 43] [413 + 27] M M' → M'.1 413 6 = 0 → BmI M' 0 [] → post (ii B.length) M') : Wp_Mo_empty 413 M post := by
  unfold Wp_Mo_empty
  rintro M1 rfl x rfl
  have o1 : OnlyR [6] [] M (zI M 413 6 0) := OnlyR.rf.fld (by simp)
  have e6 : (zI M 413 6 0).1 413 6 = 0 := by rw [zI_g, if_pos ⟨rfl, rfl⟩]
  rw [(h.onlyR o1 (by decide) (by decide) (by decide) (by decide)).1]
  exact s_Mo_emptyBox (fun M' o I => kk M' ((o1.q.mono (by simp) (by simp)).trans (o.mono (by simp) (by simp))) (by rw [o.2.1 6 (by decide)]; exact e6) I)
theorem s_Mo_receive {M : zM} {of c of' : Nat} {B B' : Bx} {tp : List UInt8} {post : Int32 → zM → Prop} (hW : WoI M) (hR : Cw M 7 (413 + 7) tp) (h : BmI M of B) (hok : BxOk of B) (hT : TakeR of B tp c of' B')
    (kk : ∀ M' : zM, OnlyQ [6, 7, 37, 38, 43, 59, 61] [413 + 27, 413 + 28, 413 + 29, 413 + 30, 413 + 37] M M' → M'.1 413 6 = 0 → Cw M' 7 (413 + 7) [] → BmI M' of' B' → post (ii c) M') : Wp_Mo_receive 413 M post := by
  have l7 : ln (413 + 7) = 8000 := by decide +kernel
  have l37 : ln (413 + 37) = 9000 := by decide +kernel
  have htl : tp.length ≤ 8000 := by have := hR.2.1; omega
  unfold Wp_Mo_receive
  intro K hK
  rintro M1 rfl M2 hM2
  have g7 : (zI M 413 6 0).1 413 7 = ii tp.length := by rw [zI_g, if_neg (by decide)]; exact hR.1
  rw [g7] at hM2
  have o2 : OnlyR [6, 59] [413 + 37] M M2 := by
    rw [hM2]
    exact (OnlyR.rf.fld (by simp)).fld (by simp)
  have e6 : M2.1 413 6 = 0 := by rw [hM2, zI_g, if_neg (by decide), zI_g, if_pos ⟨rfl, rfl⟩]
  have e59 : M2.1 413 59 = ii tp.length := by rw [hM2, zI_g, if_pos ⟨rfl, rfl⟩]
  suffices H : ∀ (m i : Nat) (M1 : zM), i + m = tp.length → OnlyR [6, 59] [413 + 37] M M1 → M1.1 413 6 = 0 → M1.1 413 59 = ii tp.length → (∀ (j : Nat) (hj : j < tp.length), j < i → M1.1 (413 + 37) j = sb tp[j]) → K (ii i) M1 from H _ 0 M2 (Nat.zero_add _) o2 e6 e59 (fun j _ hj => absurd hj (by omega))
  intro m
  induction m with
  | zero =>
    intro i M1 hi o1 e6 e59 hv
    have R1 := hR.only o1 (by decide) (by decide) (by decide)
    refine hK _ _ ⟨fun _ => ?_, fun q => absurd (by rw [R1.1, ii_le (by omega) (by omega) (by omega) (by omega)]; omega) q⟩
    rintro M3 rfl
    have o3 : OnlyR [6, 7, 59] [413 + 37] M (zI M1 413 7 0) := (o1.mono (by simp) (by simp)).fld (by simp)
    have f6 : (zI M1 413 7 0).1 413 6 = 0 := by rw [zI_g, if_neg (by decide)]; exact e6
    have f7 : (zI M1 413 7 0).1 413 7 = 0 := by rw [zI_g, if_pos ⟨rfl, rfl⟩]
    have C3 : Cw (zI M1 413 7 0) 59 (413 + 37) tp := ⟨by rw [zI_g, if_neg (by decide)]; exact e59, by omega, fun j hj => by rw [zI_o (by decide)]; exact hv j hj (by omega)⟩
    generalize zI M1 413 7 0 = M3 at o3 f6 f7 C3
    refine s_Mo_come (hW.only o3 (by decide) (by decide) (by decide) (by decide)) C3 (h.onlyR o3 (by decide) (by decide) (by decide) (by decide)) hok hT (fun M4 o4 I4 => ?_)
    refine kk M4 ((o3.q.mono (by simp) (by simp)).trans (o4.mono (by simp) (by simp))) (by rw [o4.2.1 6 (by decide)]; exact f6) ⟨by rw [o4.2.1 7 (by decide), f7]; rfl, by simp, fun i hi => absurd hi (by simp)⟩ I4
  | succ m ih =>
    intro i M1 hi o1 e6 e59 hv
    have R1 := hR.only o1 (by decide) (by decide) (by decide)
    refine hK _ _ ⟨fun q => ?_, fun _ => ⟨ii_in (by omega) (by omega) (by omega), ii_in (by omega) (by omega) (by omega), ?_⟩⟩
    · rw [R1.1, ii_le (by omega) (by omega) (by omega) (by omega)] at q
      omega
    · rintro M6 rfl x rfl
      rw [show (1 : Int32) = ii 1 from rfl, ii_add, ii_nat (by omega) (by omega), Int.toNat_natCast, R1.2.2 i (by omega), nar_b8, b8_sb]
      refine ih (i + 1) _ (by omega) (o1.arr (by simp) (by decide)) (by rw [zI_o (by decide)]; exact e6) (by rw [zI_o (by decide)]; exact e59) (fun j hj hj2 => ?_)
      rw [zI_g]
      by_cases q : j = i
      · subst q
        rw [if_pos ⟨rfl, rfl⟩]
      · rw [if_neg (fun z => q z.2)]
        exact hv j hj (by omega)
def passB (n k : Nat) (T : List UInt8) (L i : Nat) (x : Int) : List UInt8 := (partB n k T L).set i ((partB n k T L).getD i 0 ^^^ b8 (ii x))
theorem s_Mc_pass {M : zM} {k i x : Int} {S T : List UInt8} {L n of : Nat} {B : Bx} {post : Option Value → zM → Prop} {postT : Nat → zM → Prop} (h : MaI M (0 + 386) S T L n) (hB : BoI M (0 + 392) of B) (hok : BxOk of B) (h1 : -2147483648 ≤ k) (h2 : k ≤ 2147483647) (h3 : -2147483648 ≤ i) (h4 : i ≤ 2147483647) (h5 : -2147483648 ≤ x) (h6 : x ≤ 2147483647)
    (k4 : ∀ M', Only [0 + 411, 0 + 411 + 1] M M' → ¬ (1 ≤ k ∧ k ≤ n ∧ 0 ≤ i ∧ i < (partB n k.toNat T L).length) → postT 4 M')
    (k1 : ∀ M', Only [0 + 411, 0 + 411 + 1] M M' → (1 ≤ k ∧ k ≤ n ∧ 0 ≤ i ∧ i < (partB n k.toNat T L).length) → ¬ (0 ≤ x ∧ x ≤ 255) → postT 1 M')
    (kk : ∀ (M' : zM) (c of' : Nat) (B' : Bx), Frm [0 + 411, 0 + 411 + 1, 0 + 392, 0 + 392 + 1, 0 + 392 + 2, 0 + 392 + 3, 0 + 392 + 4, 0 + 392 + 5] M M' → (1 ≤ k ∧ k ≤ n ∧ 0 ≤ i ∧ i < (partB n k.toNat T L).length) → (0 ≤ x ∧ x ≤ 255) → TakeR of B (passB n k.toNat T L i.toNat x) c of' B' → BoI M' (0 + 392) of' B' → post (some (.int (ii c))) M') : Wp_Mc_pass 0 (ii k) (ii i) (ii x) M post postT := by
  unfold Wp_Mc_pass
  refine s_Ma_has h h1 h2 ?_
  by_cases hk : 1 ≤ k ∧ k ≤ n
  · rw [if_pos hk]
    obtain ⟨m, rfl⟩ := Int.eq_ofNat_of_zero_le (show 0 ≤ k by omega)
    rw [Int.toNat_natCast] at k4 k1 kk
    refine ⟨fun _ => ?_, fun c => absurd c (by decide)⟩
    refine s_Ma_write h (by omega) (by omega) (by decide +kernel) (by decide +kernel) (fun j hj => by omega) (fun M1 o1 R1 => ?_)
    refine s_has R1 h3 h4 ?_
    by_cases hi : 0 ≤ i ∧ i < (partB n m T L).length
    · rw [if_pos hi]
      refine ⟨fun _ => ?_, fun c => absurd c (by decide)⟩
      rw [ii_nneg h5 h6, show (255 : Int32) = ii 255 from rfl, ii_le h5 h6 (by decide) (by decide)]
      have hc : 1 ≤ (m : Int) ∧ (m : Int) ≤ n ∧ 0 ≤ i ∧ i < (partB n m T L).length := ⟨hk.1, hk.2, hi.1, hi.2⟩
      refine ⟨fun c => k1 M1 o1 hc (by omega), fun c => ⟨fun c2 => ?_, fun c2 => k1 M1 o1 hc (by omega)⟩⟩
      obtain ⟨j, rfl⟩ := Int.eq_ofNat_of_zero_le hi.1
      have hj : j < (partB n m T L).length := by omega
      refine s_turn R1 hj (fun M2 o2 R2 => ?_)
      have I2 : BoI M2 (0 + 392) of B := (hB.frm o1.frm (by decide)).frm o2.frm (by decide)
      refine s_Bo_take (by decide +kernel) (by decide +kernel) (by decide +kernel) I2 hok R2 (by decide) (fun M3 c of' B' o3 hT I3 => ?_)
      refine kk M3 c of' B' ((o1.frm.mono (by simp)).trans ((o2.frm.mono (by simp)).trans (o3.mono (by simp)))) hc (by omega) ?_ I3
      rw [Int.toNat_natCast]
      unfold passB
      rw [show (partB n m T L).getD j 0 = (partB n m T L)[j] by simp [hj]]
      exact hT
    · rw [if_neg hi]
      exact ⟨fun c => absurd rfl c, fun _ => k4 M1 o1 (by omega)⟩
  · rw [if_neg hk]
    exact ⟨fun c => absurd rfl c, fun _ => k4 M Only.rf (by omega)⟩
theorem s_Mo_pass {M : zM} {k i x : Int} {S T : List UInt8} {L n of : Nat} {B : Bx} {post : Int32 → zM → Prop} (hW : WoI M) (h : MmI M S T L n) (hB : BmI M of B) (hok : BxOk of B) (h1 : -2147483648 ≤ k) (h2 : k ≤ 2147483647) (h3 : -2147483648 ≤ i) (h4 : i ≤ 2147483647) (h5 : -2147483648 ≤ x) (h6 : x ≤ 2147483647)
    (k1 : ∀ M', OnlyR [6, 59] [413 + 37] M M' → M'.1 413 6 = 1 → ¬ (1 ≤ k ∧ k ≤ n ∧ 0 ≤ i ∧ i < (partB n k.toNat T L).length) → post 0 M')
    (k2 : ∀ M', OnlyR [6, 59] [413 + 37] M M' → M'.1 413 6 = 2 → (1 ≤ k ∧ k ≤ n ∧ 0 ≤ i ∧ i < (partB n k.toNat T L).length) → ¬ (0 ≤ x ∧ x ≤ 255) → post 0 M')
    (kk : (1 ≤ k ∧ k ≤ n ∧ 0 ≤ i ∧ i < (partB n k.toNat T L).length) → (0 ≤ x ∧ x ≤ 255) → ∃ (c of' : Nat) (B' : Bx), TakeR of B (passB n k.toNat T L i.toNat x) c of' B' ∧ ∀ M' : zM, OnlyQ [6, 37, 38, 43, 59, 61] [413 + 27, 413 + 28, 413 + 29, 413 + 30, 413 + 37] M M' → M'.1 413 6 = 0 → BmI M' of' B' → post (ii c) M') : Wp_Mo_pass 413 (ii k) (ii i) (ii x) M post := by
  have hn := h.2.2.2.2.1
  have l37 : ln (413 + 37) = 9000 := by decide +kernel
  unfold Wp_Mo_pass
  intro K19 K69 h19 h69
  have bad : ¬ (1 ≤ k ∧ k ≤ n ∧ 0 ≤ i ∧ i < (partB n k.toNat T L).length) → K19 1 413 M := by
    intro hb
    refine h19 _ _ _ ⟨by decide, by decide +kernel, ?_⟩
    rintro M1 rfl
    have e6 : (zI M 413 6 1).1 413 6 = 1 := by rw [zI_g, if_pos ⟨rfl, rfl⟩]
    rw [e6]
    exact ⟨fun c => absurd c (by decide), fun _ => k1 _ (OnlyR.rf.fld (by simp)) e6 hb⟩
  rw [h.2.2.1, show (1 : Int32) = ii 1 from rfl, ii_lt h1 h2 (by decide) (by decide), ii_le h1 h2 (by omega) (by omega)]
  refine ⟨fun c => bad (by omega), fun c => ⟨fun c2 => ?_, fun c2 => bad (by omega)⟩⟩
  obtain ⟨m, rfl⟩ := Int.eq_ofNat_of_zero_le (show 0 ≤ k by omega)
  rw [Int.toNat_natCast] at k1 k2 kk
  obtain ⟨q1, q2, q3⟩ := h.2.2.2.1 (by omega)
  have hpl := partB_len (T := T) (show 1 ≤ m by omega) (show m ≤ n by omega) q3 h.2.2.2.2.2
  refine h19 _ _ _ ⟨by decide, by decide +kernel, ?_⟩
  rintro M1 rfl
  have e6 : (zI M 413 6 0).1 413 6 = 0 := by rw [zI_g, if_pos ⟨rfl, rfl⟩]
  have o1 : OnlyR [6] [] M (zI M 413 6 0) := OnlyR.rf.fld (by simp)
  have I1 := h.only o1 (by decide) (by decide)
  rw [e6]
  refine ⟨fun _ => ?_, fun c => absurd (by decide) c⟩
  refine s_writePart (hW.only o1 (by decide) (by decide) (by decide) (by decide)) I1.2.2.1 (I1.2.2.2.1 (by omega)).1 I1.2.1 q2 q3 hn h.2.2.2.2.2 (by omega) (by omega) (fun M2 o2 R2 => ?_)
  have o12 : OnlyR [6, 59] [413 + 37] M M2 := (o1.mono (by simp) (by simp)).trans (o2.mono (by simp) (by simp))
  rw [ii_nneg h3 h4, R2.1, ii_lt h3 h4 (by omega) (by omega), ii_nneg h5 h6, show (255 : Int32) = ii 255 from rfl, ii_le h5 h6 (by decide) (by decide)]
  have fail1 : ¬ (1 ≤ (m : Int) ∧ (m : Int) ≤ n ∧ 0 ≤ i ∧ i < (partB n m T L).length) → K69 (ii 1) 413 M2 := by
    intro hb
    refine h69 _ _ _ ⟨by decide, by decide +kernel, ?_⟩
    rintro M3 rfl
    have e63 : (zI M2 413 6 (ii 1)).1 413 6 = 1 := by rw [zI_g, if_pos ⟨rfl, rfl⟩]; rfl
    rw [e63]
    exact ⟨fun c => absurd c (by decide), fun _ => k1 _ (o12.fld (by simp)) e63 hb⟩
  have fail2 : (1 ≤ (m : Int) ∧ (m : Int) ≤ n ∧ 0 ≤ i ∧ i < (partB n m T L).length) → ¬ (0 ≤ x ∧ x ≤ 255) → K69 2 413 M2 := by
    intro hc hb
    refine h69 _ _ _ ⟨by decide, by decide +kernel, ?_⟩
    rintro M3 rfl
    have e63 : (zI M2 413 6 2).1 413 6 = 2 := by rw [zI_g, if_pos ⟨rfl, rfl⟩]
    rw [e63]
    exact ⟨fun c => absurd c (by decide), fun _ => k2 _ (o12.fld (by simp)) e63 hc hb⟩
  refine ⟨fun c3 => fail1 (by omega), fun c3 => ⟨fun c4 => ?_, fun c4 => fail1 (by omega)⟩⟩
  have hc : 1 ≤ (m : Int) ∧ (m : Int) ≤ n ∧ 0 ≤ i ∧ i < (partB n m T L).length := ⟨by omega, by omega, by omega, c4⟩
  refine ⟨fun c5 => fail2 hc (by omega), fun c5 => ⟨fun c6 => ?_, fun c6 => fail2 hc (by omega)⟩⟩
  obtain ⟨cc, of', B', hT, kf⟩ := kk hc (by omega)
  obtain ⟨j, rfl⟩ := Int.eq_ofNat_of_zero_le hc.2.2.1
  rw [Int.toNat_natCast] at hT
  have hj : j < (partB n m T L).length := by omega
  refine h69 _ _ _ ⟨by decide, by decide +kernel, ?_⟩
  rintro M3 rfl
  have e63 : (zI M2 413 6 0).1 413 6 = 0 := by rw [zI_g, if_pos ⟨rfl, rfl⟩]
  have o3 : OnlyR [6, 59] [413 + 37] M (zI M2 413 6 0) := o12.fld (by simp)
  have R3 : Cw (zI M2 413 6 0) 59 (413 + 37) (partB n m T L) := R2.only (OnlyR.rf.fld (F := [6]) (S := []) (v := 0) (j := 6) (by simp)) (by decide) (by decide) (by decide)
  generalize zI M2 413 6 0 = M3 at e63 o3 R3
  rw [e63]
  refine ⟨fun _ => ⟨ii_in (by omega) (by omega) (by omega), ii_in (by omega) (by omega) (by omega), ?_⟩, fun c => absurd (by decide) c⟩
  rw [ii_nat (by omega) (by omega), Int.toNat_natCast, R3.2.2 j hj, nar_b8', b8_xor, b8_sb]
  rintro M4 rfl
  have o4 : OnlyR [6, 59] [413 + 37] M (zI M3 (413 + 37) j (sb ((partB n m T L)[j] ^^^ b8 (ii x)))) := o3.arr (by simp) (by decide)
  have e64 : (zI M3 (413 + 37) j (sb ((partB n m T L)[j] ^^^ b8 (ii x)))).1 413 6 = 0 := by rw [zI_o (by decide)]; exact e63
  have R4 : Cw (zI M3 (413 + 37) j (sb ((partB n m T L)[j] ^^^ b8 (ii x)))) 59 (413 + 37) (passB n m T L j x) := by
    unfold passB
    rw [show (partB n m T L).getD j 0 = (partB n m T L)[j] by simp [hj]]
    refine ⟨by rw [zI_o (by decide), R3.1, List.length_set], by rw [List.length_set]; exact R3.2.1, fun a ha => ?_⟩
    rw [List.length_set] at ha
    rw [zI_g, List.getElem_set]
    by_cases q : j = a
    · rw [if_pos ⟨rfl, q.symm⟩, if_pos q]
    · rw [if_neg (fun z => q z.2.symm), if_neg q]
      exact R3.2.2 a ha
  generalize zI M3 (413 + 37) j (sb ((partB n m T L)[j] ^^^ b8 (ii x))) = M4 at o4 e64 R4
  refine s_Mo_come (hW.only o4 (by decide) (by decide) (by decide) (by decide)) R4 (hB.onlyR o4 (by decide) (by decide) (by decide) (by decide)) hok hT (fun M5 o5 I5 => ?_)
  exact kf M5 ((o4.q.mono (by simp) (by simp)).trans (o5.mono (by simp) (by simp))) (by rw [o5.2.1 6 (by decide)]; exact e64) I5
theorem spell_len (bs : List UInt8) : (spell bs).length ≤ 21 + 62 * ((bs.length + 44) / 45) := by
  have h := lines_len bs
  have h4 : (txt 4).length = 15 := by decide +kernel
  have h5 : (txt 5).length = 4 := by decide +kernel
  unfold spell
  simp only [List.length_append, List.length_cons, List.length_nil, h4, h5]
  omega
def forgeT (what w : Int) (tp : List UInt8) : List UInt8 := if what = 2 then tp else if what = 1 then spell tp else spell (press w.toNat tp)
def forgeOk (what w : Int) : Prop := what = 1 ∨ what = 2 ∨ (what = 0 ∧ 9 ≤ w ∧ w ≤ 16)
theorem tape_sizes {tp : List UInt8} (h : tp.length ≤ 8000) {g : Nat} (h1 : 9 ≤ g) (h2 : g ≤ 16) : (spell tp).length ≤ 12000 ∧ 3 + (lenE (enc g tp) + 7) / 8 ≤ 15000 ∧ (spell (press g tp)).length ≤ 24000 := by
  have e := enc_bound (g := g) (bs := tp) h1 h2 (by omega)
  have s1 := spell_len tp
  have s2 := spell_len (press g tp)
  have p := press_len (g := g) (bs := tp)
  refine ⟨by omega, by omega, by omega⟩
theorem s_isWidth {M : zM} {w : Int} {post : Int32 → zM → Prop} (h1 : -2147483648 ≤ w) (h2 : w ≤ 2147483647) (k : post (if 9 ≤ w ∧ w ≤ 16 then 1 else 0) M) : Wp_Mc_isWidth (ii w) M post := by
  unfold Wp_Mc_isWidth
  rw [show (9 : Int32) = ii 9 from rfl, show (16 : Int32) = ii 16 from rfl, ii_lt h1 h2 (by decide) (by decide), ii_lt (by decide) (by decide) h1 h2]
  refine ⟨fun q => ?_, fun q => ⟨fun q2 => ?_, fun q2 => ?_⟩⟩
  · rw [if_neg (by omega)] at k; exact k
  · rw [if_neg (by omega)] at k; exact k
  · rw [if_pos (by omega)] at k; exact k
theorem s_Mc_textOfTape {M : zM} {what w : Int} {tp : List UInt8} {post : Nat → zM → Prop} (hR : Rw M (0 + 1) tp) (hs : forgeOk what w) (h1 : -2147483648 ≤ what) (h2 : what ≤ 2147483647)
    (k : ∀ r M', (r = 0 + 1 ∨ r = 0 + 409) → Only [0 + 398, 0 + 398 + 1, 0 + 398 + 2, 0 + 398 + 3, 0 + 407, 0 + 407 + 1, 0 + 409, 0 + 409 + 1] M M' → Rw M' r (forgeT what w tp) → post r M') : Wp_Mc_textOfTape 0 (ii what) (ii w) M post := by
  have l2' : ln (0 + 1 + 1) = 8000 := by decide +kernel
  have htl : tp.length ≤ 8000 := by have := hR.2.1; omega
  have l408 : ln (0 + 407 + 1) = 36000 := by decide +kernel
  have l410 : ln (0 + 409 + 1) = 48000 := by decide +kernel
  unfold Wp_Mc_textOfTape
  rw [show (1 : Int32) = ii 1 from rfl, show (2 : Int32) = ii 2 from rfl, ii_eq h1 h2 (by decide) (by decide), ii_eq h1 h2 (by decide) (by decide)]
  refine ⟨fun q2 => ⟨fun q1 => ?_, fun q1 => ?_⟩, fun q2 => ?_⟩
  · have hw : what = 0 ∧ 9 ≤ w ∧ w ≤ 16 := by rcases hs with q | q | q; exact absurd q q1; exact absurd q q2; exact q
    obtain ⟨g, rfl⟩ := Int.eq_ofNat_of_zero_le (show 0 ≤ w by omega)
    obtain ⟨z1, z2, z3⟩ := tape_sizes htl (g := g) (by omega) (by omega)
    refine s_squeeze hR (by omega) (by omega) (by omega) (by decide +kernel) (by decide +kernel) (by decide +kernel) (by omega) (by decide) (by decide) (by decide) (by decide) (by decide) (fun M1 o1 R1 => ?_)
    refine s_write R1 (by decide) (by decide) (by decide) (by omega) (fun M2 o2 R2 => ?_)
    refine k _ M2 (Or.inr rfl) ((o1.mono (by simp)).trans (o2.mono (by simp))) ?_
    unfold forgeT
    rw [if_neg q2, if_neg q1, Int.toNat_natCast]
    exact R2
  · obtain ⟨z1, z2, z3⟩ := tape_sizes htl (g := 9) (by omega) (by omega)
    refine s_write hR (by decide) (by decide) (by decide) (by omega) (fun M2 o2 R2 => ?_)
    refine k _ M2 (Or.inr rfl) (o2.mono (by simp)) ?_
    unfold forgeT
    rw [if_neg q2, if_pos q1]
    exact R2
  · refine k _ M (Or.inl rfl) Only.rf ?_
    unfold forgeT
    rw [if_pos q2]
    exact hR
theorem forgeT_len {what w : Int} {tp : List UInt8} (hs : forgeOk what w) (htl : tp.length ≤ 8000) : (forgeT what w tp).length ≤ 24000 := by
  unfold forgeT
  by_cases q2 : what = 2
  · rw [if_pos q2]; omega
  · rw [if_neg q2]
    by_cases q1 : what = 1
    · rw [if_pos q1]
      obtain ⟨z1, z2, z3⟩ := tape_sizes htl (g := 9) (by omega) (by omega)
      omega
    · rw [if_neg q1]
      have hw : what = 0 ∧ 9 ≤ w ∧ w ≤ 16 := by rcases hs with q | q | q; exact absurd q q1; exact absurd q q2; exact q
      obtain ⟨z1, z2, z3⟩ := tape_sizes htl (g := w.toNat) (by omega) (by omega)
      exact z3
theorem BxOk.one {p : List UInt8} (h : p.length ≤ 60000) : BxOk 1 ([] ++ [(1, p)]) := (BxOk.nil 1 (by omega)).snoc rfl (by omega) (by omega) h
theorem s_Mc_forge {M : zM} {what w : Int} {tp : List UInt8} {post : Option Value → zM → Prop} {postT : Nat → zM → Prop} (hR : Rw M (0 + 1) tp) (h1 : -2147483648 ≤ what) (h2 : what ≤ 2147483647) (h3 : -2147483648 ≤ w) (h4 : w ≤ 2147483647)
    (kT : ∀ M', Only [0 + 1] M M' → ¬ forgeOk what w → Rw M' (0 + 1) [] → postT 1 M')
    (kk : ∀ M', Only [0 + 1, 0 + 392, 0 + 392 + 1, 0 + 392 + 2, 0 + 392 + 3, 0 + 392 + 4, 0 + 398, 0 + 398 + 1, 0 + 398 + 2, 0 + 398 + 3, 0 + 407, 0 + 407 + 1, 0 + 409, 0 + 409 + 1] M M' → forgeOk what w → Rw M' (0 + 1) [] → BoI M' (0 + 392) 1 [(1, forgeT what w tp)] → post none M') : Wp_Mc_forge 0 (ii what) (ii w) M post postT := by
  have l2' : ln (0 + 1 + 1) = 8000 := by decide +kernel
  have htl : tp.length ≤ 8000 := by have := hR.2.1; omega
  unfold Wp_Mc_forge
  intro K26 K54 h26 h54
  have good : forgeOk what w → K26 1 M := by
    intro hs
    refine h26 _ _ ⟨fun q => absurd q (by decide), fun _ => ?_⟩
    refine s_Bo_wipe' (by decide +kernel) (fun M1 o1 I1 => ?_)
    refine s_Mc_textOfTape (hR.only o1 (by decide) (by decide)) hs h1 h2 (fun r M2 hr o2 R2 => ?_)
    have I2 := I1.frm o2.frm (by decide)
    have e0 : (0 : Int32) = ii ((0 : Nat) : Int) := rfl
    have e1 : (1 : Int32) = ii ((1 : Nat) : Int) := rfl
    have hd : (forgeT what w tp).drop 0 = forgeT what w tp := rfl
    have hok : BxOk 1 ([] ++ [(1, (forgeT what w tp).drop 0)]) := BxOk.one (by rw [hd]; have := forgeT_len hs htl; omega)
    refine ⟨by rcases hr with e | e <;> subst e <;> decide, by rcases hr with e | e <;> subst e <;> decide +kernel, ?_⟩
    have hkeep : Wp_Bo_keep (0 + 392) (ii ((1 : Nat) : Int)) (ii ((1 : Nat) : Int)) r (ii ((0 : Nat) : Int)) M2 (fun M6 => K54 1 M6) := by
      refine s_Bo_keep (by decide +kernel) (by decide +kernel) (by decide +kernel) I2 hok rfl R2 (by omega) (by rcases hr with e | e <;> subst e <;> decide) (fun M3 o3 I3 => ?_)
      refine h54 _ _ (s_wipe (fun M4 o4 _ R4 => ⟨fun _ => ?_, fun q => absurd q (by decide)⟩))
      exact kk M4 ((o1.mono (by simp)).trans ((o2.mono (by simp)).trans ((o3.mono (by simp)).trans (o4.mono (by simp))))) hs R4 (I3.frm o4.frm (by decide))
    exact hkeep
  have bad : ¬ forgeOk what w → K26 0 M := by
    intro hs
    refine h26 _ _ ⟨fun _ => h54 _ _ (s_wipe (fun M1 o1 _ R1 => ⟨fun q => absurd rfl q, fun _ => kT M1 o1 hs R1⟩)), fun q => absurd rfl q⟩
  rw [show (0 : Int32) = ii 0 from rfl, show (2 : Int32) = ii 2 from rfl, show (1 : Int32) = ii 1 from rfl, ii_eq h1 h2 (by decide) (by decide), ii_eq h1 h2 (by decide) (by decide), ii_eq h1 h2 (by decide) (by decide)]
  refine ⟨fun q => good (Or.inl q), fun q => ⟨fun q2 => good (Or.inr (Or.inl q2)), fun q2 => ⟨fun q0 => bad (fun z => by rcases z with z | z | z; exact q z; exact q2 z; exact q0 z.1), fun q0 => s_isWidth h3 h4 ?_⟩⟩⟩
  by_cases hw : 9 ≤ w ∧ w ≤ 16
  · rw [if_pos hw]
    exact ⟨fun z => absurd z (by decide), fun _ => good (Or.inr (Or.inr ⟨q0, hw⟩))⟩
  · rw [if_neg hw]
    exact ⟨fun _ => bad (fun z => by rcases z with z | z | z; exact q z; exact q2 z; exact hw z.2), fun z => absurd rfl z⟩
theorem s_Mo_forge {M : zM} {what w : Int} {tp : List UInt8} {post : zM → Prop} (hbeg : ∀ (i : Nat) (h : i < 15), M.1 (413 + 2) i = sb ((txt 4).getD i 0)) (hR : Cw M 7 (413 + 7) tp) (h1 : -2147483648 ≤ what) (h2 : what ≤ 2147483647) (h3 : -2147483648 ≤ w) (h4 : w ≤ 2147483647)
    (kT : ∀ M', OnlyR [6, 7] [] M M' → M'.1 413 6 = 1 → ¬ forgeOk what w → Cw M' 7 (413 + 7) [] → post M')
    (kk : ∀ M', OnlyQ [6, 7, 27, 29, 37, 38, 43, 53, 54, 55, 56, 57] [413 + 23, 413 + 24, 413 + 27, 413 + 28, 413 + 29, 413 + 30, 413 + 33, 413 + 34, 413 + 35] M M' → M'.1 413 6 = 0 → forgeOk what w → Cw M' 7 (413 + 7) [] → BmI M' 1 [(1, forgeT what w tp)] → post M') : Wp_Mo_forge 413 (ii what) (ii w) M post := by
  have l2' : ln (413 + 7) = 8000 := by decide +kernel
  have htl : tp.length ≤ 8000 := by have := hR.2.1; omega
  unfold Wp_Mo_forge
  intro K31 h31
  have bad : ¬ forgeOk what w → K31 1 413 M := by
    intro hs
    refine h31 _ _ _ ⟨by decide, by decide +kernel, ?_⟩
    rintro M1 rfl
    have e6 : (zI M 413 6 1).1 413 6 = 1 := by rw [zI_g, if_pos ⟨rfl, rfl⟩]
    rw [e6]
    refine ⟨fun _ => ?_, fun q => absurd q (by decide)⟩
    rintro M2 rfl
    refine kT _ ((OnlyR.rf.fld (by simp)).fld (by simp)) (by rw [zI_g, if_neg (by decide)]; exact e6) hs ⟨by rw [zI_g, if_pos ⟨rfl, rfl⟩]; rfl, by simp, fun i hi => absurd hi (by simp)⟩
  have good : forgeOk what w → K31 0 413 M := by
    intro hs
    refine h31 _ _ _ ⟨by decide, by decide +kernel, ?_⟩
    rintro M1 rfl
    have e6 : (zI M 413 6 0).1 413 6 = 0 := by rw [zI_g, if_pos ⟨rfl, rfl⟩]
    have o1 : OnlyR [6] [] M (zI M 413 6 0) := OnlyR.rf.fld (by simp)
    generalize zI M 413 6 0 = M1 at e6 o1
    rw [e6]
    refine ⟨fun q => absurd rfl q, fun _ => s_Mo_emptyBox (fun M2 o2 I2 => ?_)⟩
    have R2 : Cw M2 7 (413 + 7) tp := (hR.only o1 (by decide) (by decide) (by decide)).onlyQ o2 (by decide) (by decide) (by decide)
    have b2 : ∀ (i : Nat) (h : i < 15), M2.1 (413 + 2) i = sb ((txt 4).getD i 0) := fun i hi => by rw [o2.1 (413 + 2) (by decide) (by decide), o1.1 (413 + 2) (by decide) (by decide)]; exact hbeg i hi
    have f6 : M2.1 413 6 = 0 := by rw [o2.2.1 6 (by decide)]; exact e6
    have oo2 : OnlyQ [6, 7, 27, 29, 37, 38, 43, 53, 54, 55, 56, 57] [413 + 23, 413 + 24, 413 + 27, 413 + 28, 413 + 29, 413 + 30, 413 + 33, 413 + 34, 413 + 35] M M2 := (o1.q.mono (by simp) (by simp)).trans (o2.mono (by simp) (by simp))
    have hok : ∀ {p : List UInt8}, p = forgeT what w tp → BxOk 1 ([] ++ [(1, p.drop 0)]) := fun e => BxOk.one (by rw [e]; have := forgeT_len hs htl; show (forgeT what w tp).length ≤ 60000; omega)
    have last : ∀ (M3 : zM) (r : Nat) (p : List UInt8), p = forgeT what w tp → OnlyQ [6, 7, 27, 29, 37, 38, 43, 53, 54, 55, 56, 57] [413 + 23, 413 + 24, 413 + 27, 413 + 28, 413 + 29, 413 + 30, 413 + 33, 413 + 34, 413 + 35] M M3 → M3.1 413 6 = 0 → BmI M3 0 [] → Ab M3 r p → r ∉ [413, 413 + 27, 413 + 28, 413 + 29, 413 + 30] → Wp_Mo_keep 413 1 1 r 0 (ii p.length) M3 (fun M6 => ∀ M7 : zM, M7 = zI M6 413 7 0 → post M7) := by
      intro M3 r p hp o3 g6 I3 A3 hr
      have hk : Wp_Mo_keep 413 (ii ((1 : Nat) : Int)) (ii ((1 : Nat) : Int)) r (ii ((0 : Nat) : Int)) (ii ((p.length - 0 : Nat) : Int)) M3 (fun M6 => ∀ M7 : zM, M7 = zI M6 413 7 0 → post M7) := by
        refine s_Mo_keep I3 (hok hp) rfl A3 (by omega) hr (fun M4 o4 I4 => ?_)
        rintro M5 rfl
        refine kk _ ((o3.trans (o4.mono (by simp) (by simp))).fld (by simp)) (by rw [zI_g, if_neg (by decide), o4.2.1 6 (by decide)]; exact g6) hs ⟨by rw [zI_g, if_pos ⟨rfl, rfl⟩]; rfl, by simp, fun i hi => absurd hi (by simp)⟩ ?_
        have := I4.onlyR (OnlyR.rf.fld (M' := M4) (F := [7]) (S := []) (v := 0) (j := 7) (by simp)) (by decide) (by decide) (by decide) (by decide)
        rw [← hp]
        exact this
      exact hk
    rw [show (1 : Int32) = ii 1 from rfl, show (2 : Int32) = ii 2 from rfl, ii_eq h1 h2 (by decide) (by decide), ii_eq h1 h2 (by decide) (by decide)]
    refine ⟨fun q2 => ⟨fun q1 => ?_, fun q1 => ?_⟩, fun q2 => ?_⟩
    · have hw : what = 0 ∧ 9 ≤ w ∧ w ≤ 16 := by rcases hs with q | q | q; exact absurd q q1; exact absurd q q2; exact q
      obtain ⟨g, rfl⟩ := Int.eq_ofNat_of_zero_le (show 0 ≤ w by omega)
      obtain ⟨z1, z2, z3⟩ := tape_sizes htl (g := g) (by omega) (by omega)
      rw [R2.1]
      refine s_compressRow R2.2 (by omega) (by omega) (by omega) (by decide) (fun M3 o3 R3 => ?_)
      rw [R3.1]
      refine s_spellRow R3.2 (by decide) (by decide) (by omega) (fun i hi => by rw [o3.1 (413 + 2) (by decide) (by decide)]; exact b2 i hi) (fun M4 o4 R4 => ?_)
      rw [R4.1]
      have e : spell (press g tp) = forgeT (what) (g : Int) tp := by
        unfold forgeT
        rw [if_neg q2, if_neg q1, Int.toNat_natCast]
      exact last M4 _ _ e (oo2.trans ((o3.q.mono (by simp) (by simp)).trans (o4.q.mono (by simp) (by simp)))) (by rw [o4.2.1 6 (by decide), o3.2.1 6 (by decide)]; exact f6) ((I2.onlyR o3 (by decide) (by decide) (by decide) (by decide)).onlyR o4 (by decide) (by decide) (by decide) (by decide)) R4.2 (by decide)
    · obtain ⟨z1, z2, z3⟩ := tape_sizes htl (g := 9) (by omega) (by omega)
      rw [R2.1]
      refine s_spellRow R2.2 (by decide) (by decide) (by omega) b2 (fun M4 o4 R4 => ?_)
      rw [R4.1]
      have e : spell tp = forgeT what w tp := by
        unfold forgeT
        rw [if_neg q2, if_pos q1]
      exact last M4 _ _ e (oo2.trans (o4.q.mono (by simp) (by simp))) (by rw [o4.2.1 6 (by decide)]; exact f6) (I2.onlyR o4 (by decide) (by decide) (by decide) (by decide)) R4.2 (by decide)
    · rw [R2.1]
      have e : tp = forgeT what w tp := by
        unfold forgeT
        rw [if_pos q2]
      exact last M2 _ _ e oo2 f6 I2 R2.2 (by decide)
  rw [ii_nneg h1 h2, show (0 : Int32) = ii 0 from rfl, show (2 : Int32) = ii 2 from rfl, show (1 : Int32) = ii 1 from rfl, ii_lt (by decide) (by decide) h1 h2, ii_eq h1 h2 (by decide) (by decide), show (9 : Int32) = ii 9 from rfl, ii_lt h3 h4 (by decide) (by decide), show (16 : Int32) = ii 16 from rfl, ii_le h3 h4 (by decide) (by decide)]
  refine ⟨fun q => bad (fun z => by rcases z with z | z | z <;> omega), fun q => ⟨fun q2 => bad (fun z => by rcases z with z | z | z <;> omega), fun q2 => ⟨fun q0 => good ?_, fun q0 => ⟨fun q3 => bad (fun z => by rcases z with z | z | z <;> omega), fun q3 => ⟨fun q4 => good (Or.inr (Or.inr ⟨q0, by omega, q4⟩)), fun q4 => bad (fun z => by rcases z with z | z | z <;> omega)⟩⟩⟩⟩⟩
  unfold forgeOk
  omega
