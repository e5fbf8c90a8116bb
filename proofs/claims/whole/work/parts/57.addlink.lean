/-! Links, and what the chain itself does with its tree. -/
theorem s_becomeLinkOf {M : zM} {d e : Nat} {post : zM → Prop} (hne : d ≠ e) (k : ∀ M', Only [d] M M' → (∀ j, 1 ≤ j → j ≤ 8 → M'.1 d j = M.1 e j) → post M') : Wp_En_becomeLinkOf d e M post := by
  unfold Wp_En_becomeLinkOf
  rintro M1 h1 M2 h2 M3 h3 M4 h4 M5 h5 M6 h6 M7 h7 M8 h8
  have s1 : M1.1 e = M.1 e := by rw [h1, zI_o (fun q => hne q.symm)]
  have s2 : M2.1 e = M.1 e := by rw [h2, zI_o (fun q => hne q.symm), s1]
  have s3 : M3.1 e = M.1 e := by rw [h3, zI_o (fun q => hne q.symm), s2]
  have s4 : M4.1 e = M.1 e := by rw [h4, zI_o (fun q => hne q.symm), s3]
  have s5 : M5.1 e = M.1 e := by rw [h5, zI_o (fun q => hne q.symm), s4]
  have s6 : M6.1 e = M.1 e := by rw [h6, zI_o (fun q => hne q.symm), s5]
  have s7 : M7.1 e = M.1 e := by rw [h7, zI_o (fun q => hne q.symm), s6]
  rw [s1] at h2
  rw [s2] at h3
  rw [s3] at h4
  rw [s4] at h5
  rw [s5] at h6
  rw [s6] at h7
  rw [s7] at h8
  refine k M8 ?_ (fun j j1 j8 => ?_)
  · rw [h8, h7, h6, h5, h4, h3, h2, h1]
    exact (((((((Only.rf.zI (by simp)).zI (by simp)).zI (by simp)).zI (by simp)).zI (by simp)).zI (by simp)).zI (by simp)).zI (by simp)
  · rw [h8, zI_g]
    by_cases c8 : j = 8
    · rw [if_pos ⟨rfl, c8⟩, c8]
    rw [if_neg (fun z => c8 z.2), h7, zI_g]
    by_cases c7 : j = 7
    · rw [if_pos ⟨rfl, c7⟩, c7]
    rw [if_neg (fun z => c7 z.2), h6, zI_g]
    by_cases c6 : j = 6
    · rw [if_pos ⟨rfl, c6⟩, c6]
    rw [if_neg (fun z => c6 z.2), h5, zI_g]
    by_cases c5 : j = 5
    · rw [if_pos ⟨rfl, c5⟩, c5]
    rw [if_neg (fun z => c5 z.2), h4, zI_g]
    by_cases c4 : j = 4
    · rw [if_pos ⟨rfl, c4⟩, c4]
    rw [if_neg (fun z => c4 z.2), h3, zI_g]
    by_cases c3 : j = 3
    · rw [if_pos ⟨rfl, c3⟩, c3]
    rw [if_neg (fun z => c3 z.2), h2, zI_g]
    by_cases c2 : j = 2
    · rw [if_pos ⟨rfl, c2⟩, c2]
    rw [if_neg (fun z => c2 z.2), h1, zI_g]
    have c1 : j = 1 := by omega
    rw [if_pos ⟨rfl, c1⟩, c1]
def lnkEn (p : List UInt8) (f : En) : En := (p, f.2.1, f.body, f.fam)
/-- what is told of a link, and the tree then -/
def LnkR (T : Tre) (p : List UInt8) (i : Int) (v : Nat) (T' : Tre) : Prop :=
  (v = 1 ∧ ¬ (0 ≤ i ∧ i < T.length) ∧ T' = T) ∨
  (∃ (n : Nat) (h : n < T.length), i = n ∧ T[n].kind ≠ 1 ∧ v = 2 ∧ T' = T) ∨
  (∃ (n : Nat) (h : n < T.length), i = n ∧ T[n].kind = 1 ∧ InsR T p T[n].body.length v ∧ (v ≠ 0 → T' = T) ∧ (v = 0 → T' = ins (lnkEn p T[n]) T))
theorem s_enterLink {M : zM} {t : Nat} {T : Tre} {p : List UInt8} {i : Int} {post : Int32 → zM → Prop} (hT : isT t) (h : TrI M t T) (hV : TOk T) (hR : Rw M (M.2.2 (t + 1) T.length + 1) p) (r1 : -2147483648 ≤ i) (r2 : i ≤ 2147483647)
    (kk : ∀ (M' : zM) (v : Nat) (T' : Tre), LnkR T p i v T' → FrT t M M' → TrI M' t T' → TOk T' → post (ii v) M') : Wp_Tr_enterLink t (ii i) M post := by
  have hl := h.2.2.2.1
  have f := hT.facts
  have ed := ent_at hT h.1 (show T.length < 41 by omega)
  have hpl : p.length ≤ 60 := by have := hR.2.1; omega
  obtain ⟨bd, b1, b2, b3⟩ := h.2.2.2.2.2
  unfold Wp_Tr_enterLink
  refine s_Tr_has h r1 r2 ?_
  by_cases hi : 0 ≤ i ∧ i < T.length
  · rw [if_pos hi]
    obtain ⟨n, rfl⟩ := Int.eq_ofNat_of_zero_le hi.1
    have hn : n < T.length := by omega
    have ei := ent_at hT h.1 (show n < 41 by omega)
    have hE := b3 n hn
    have hK := (hV.2.2.1 _ (List.getElem_mem hn))
    refine ⟨fun _ => ⟨ii_in (by omega) (by omega) (by omega), ?_⟩, fun z => absurd z (by decide)⟩
    rw [ii_nat (by omega) (by omega), Int.toNat_natCast]
    rintro r rfl
    refine ⟨ei.1, ei.2.1, ?_⟩
    rw [hE.2.1, show (1 : Int32) = ii 1 from rfl, ii_eq (by omega) (by have := hK.2.2.2.1; omega) (by omega) (by omega)]
    refine ⟨fun hk => ?_, fun hk => kk M 2 T (Or.inr (Or.inl ⟨n, hn, rfl, fun z => hk (by omega), rfl, rfl⟩)) FrT.rf h hV⟩
    refine s_Tr_draft hT h ⟨ed.1, ed.2.1, ii_in (by omega) (by omega) (by omega), ?_⟩
    rintro r rfl
    refine ⟨ei.1, ei.2.1, ?_⟩
    have dn : ∀ j, j < T.length → M.2.2 (t + 1) j ≠ M.2.2 (t + 1) T.length := fun j hj q => by
      have := h.1.2 j T.length (by omega) (by omega) q
      omega
    generalize hdd : M.2.2 (t + 1) T.length = d at *
    refine s_becomeLinkOf (fun q => dn n hn q.symm) (fun M9 o9 g9 => ?_)
    have dn3 : ∀ j, j < T.length → ∀ u, u ≤ 2 → M.2.2 (t + 1) j + u ≠ d := fun j hj u hu q => by
      obtain ⟨c, hc, ec⟩ := h.1.1 j (by omega)
      obtain ⟨c', hc', ec'⟩ := h.1.1 T.length (by omega)
      rw [hdd] at ec'
      have hne := dn j hj
      omega
    have er : M9.2.2 = M.2.2 := by rw [o9.2]
    have E9 : ∀ (j : Nat) (hj : j < T.length), EnI M9 (M.2.2 (t + 1) j) T[j] bd := fun j hj => (b3 j hj).same (o9.1 _ (by simpa using dn j hj)) (o9.1 _ (by simpa using dn3 j hj 1 (by omega))) (o9.1 _ (by simpa using dn3 j hj 2 (by omega)))
    have I9 : TrI M9 t T := by
      refine ⟨h.1.same (by rw [er]), by rw [o9.1 t (by simp; omega)]; exact h.2.1, by rw [o9.1 t (by simp; omega)]; exact h.2.2.1, hl, h.2.2.2.2.1, bd, b1.only o9 (by simp; omega) (by simp; omega), b2, fun j hj => ?_⟩
      rw [er]
      exact E9 j hj
    have F9 : FrT t M M9 := o9.frT (fun k hk => by have : k = d := (by simpa using hk); omega)
    have R9 : Rw M9 (d + 1) p := hR.only o9 (by simp) (by simp <;> omega)
    have hbl : T[n].body.length ≤ 6000 := by have := conts_mem T _ (List.getElem_mem hn) (by omega); have := hV.2.2.2.1; omega
    obtain ⟨a1, a2, a3, a4, a5, a6, a7, a8, st, c1, c2, c3⟩ := hE
    refine s_insertDraft (p := p) (kd := T[n].kind) (sz := T[n].body.length) hT I9 hV (by rw [er, hdd]; exact R9) (by rw [er, hdd, g9 1 (by omega) (by omega), a2]) (by have := hK.2.2.2.1; omega) (by rw [er, hdd, g9 7 (by omega) (by omega), a7]) (by omega) (fun v hv hv0 => ?_) (fun M10 hv F10 k10 n2 n3 r10 s10 => ?_)
    · rw [if_pos (by omega)] at hv
      exact kk M9 v T (Or.inr (Or.inr ⟨n, hn, rfl, by omega, hv, fun _ => rfl, fun z => absurd z hv0⟩)) F9 I9 hV
    · have hz := hv.z
      rw [if_pos (by omega)] at hz hv n3
      have xk : (lnkEn p T[n]).kind = T[n].kind := rfl
      have xb : (lnkEn p T[n]).body = T[n].body := rfl
      have xp : (lnkEn p T[n]).path = p := rfl
      have hmore : (if (lnkEn p T[n]).kind = 1 then (lnkEn p T[n]).body.length else 0) = T[n].body.length := by rw [xk, xb, if_pos (by omega)]
      refine kk M10 0 _ (Or.inr (Or.inr ⟨n, hn, rfl, by omega, hv, fun z => absurd rfl z, fun _ => rfl⟩)) (F9.trans F10) ?_ ?_
      · refine TrI.ins (bd := bd) h.1 hz.2.2.1 n2 (by rw [hmore]; exact n3) (by rw [hmore]; exact hz.2.2.2) ?_ ?_ (by rw [hmore]; omega) ?_ ?_
        · intro j
          rw [s10, er]
          rfl
        · have B9 := b1.only o9 (by simp; omega) (by simp; omega)
          exact ⟨by rw [k10 _ (by omega)]; exact B9.1, b1.2.1, fun i hi => by rw [k10 _ (by omega)]; exact B9.2.2 i hi⟩
        · rw [hdd]
          have hE : EnI M9 d (lnkEn p T[n]) bd := ⟨R9, by rw [g9 1 (by omega) (by omega)]; exact a2, by rw [g9 2 (by omega) (by omega)]; exact a3, by rw [g9 3 (by omega) (by omega)]; exact a4, by rw [g9 4 (by omega) (by omega)]; exact a5, by rw [g9 5 (by omega) (by omega)]; exact a6, by rw [g9 7 (by omega) (by omega)]; exact a7, by rw [g9 8 (by omega) (by omega)]; exact a8, st, by rw [g9 6 (by omega) (by omega)]; exact c1, c2, c3⟩
          exact hE.same (k10 _ (by omega)) (k10 _ (by omega)) (k10 _ (by omega))
        · intro j hj
          obtain ⟨c, hc, ec⟩ := h.1.1 j (by omega)
          exact (E9 j hj).same (k10 _ (by omega)) (k10 _ (by omega)) (k10 _ (by omega))
      · refine hV.ins ⟨by rw [xp]; exact pathOk_ne hz.1.1, by rw [xp]; exact hpl, by rw [xp]; exact hz.1.1, hK.2.2.2.1, hK.2.2.2.2.1, hK.2.2.2.2.2.1, hK.2.2.2.2.2.2.1, hK.2.2.2.2.2.2.2.1, hK.2.2.2.2.2.2.2.2.1, hK.2.2.2.2.2.2.2.2.2⟩ hz.1.2 hz.2.1 hz.2.2.1 (by rw [hmore]; exact hz.2.2.2) (Or.inr ⟨_, List.getElem_mem hn, rfl, ⟨by omega, rfl, rfl⟩⟩)
  · rw [if_neg hi]
    exact ⟨fun z => absurd rfl z, fun _ => kk M 1 T (Or.inl ⟨rfl, hi, rfl⟩) FrT.rf h hV⟩
theorem s_Tr_wipe {M : zM} {t : Nat} {T : Tre} {post : zM → Prop} (h : TrI M t T) (k : ∀ M', FrT t M M' → TrI M' t [] → post M') : Wp_Tr_wipe t M post := by
  unfold Wp_Tr_wipe
  refine s_wipe (fun M1 o1 _ R1 => ?_)
  rintro M2 hM2 M3 hM3
  have oA : Only [t] M1 M3 := by rw [hM3, hM2]; exact (Only.rf.zI (by simp)).zI (by simp)
  refine k M3 ((o1.frT (fun k hk => by have : k = t + 125 := (by simpa using hk); omega)).trans (oA.frT (fun k hk => by have : k = t := (by simpa using hk); omega))) ⟨h.1.same (by rw [oA.2, o1.2]), ?_, ?_, by decide, by decide, [], R1.only oA (by simp) (by simp <;> omega), by simp, fun j hj => absurd hj (by simp)⟩
  · rw [hM3, zI_g, if_neg (by simp), hM2, zI_g, if_pos ⟨rfl, rfl⟩]
    rfl
  · rw [hM3, zI_g, if_pos ⟨rfl, rfl⟩]
    rfl
def addThr (v : Nat) : Nat := match v with | 1 => 4 | 2 => 1 | 3 => 3 | _ => 2
theorem s_afterEntering {M : zM} {v : Nat} {T : Tre} {post : Option Value → zM → Prop} {postT : Nat → zM → Prop} (hv : v ≤ 4) (h : M.1 (0 + 3) 2 = ii T.length)
    (kT : ∀ M', v ≠ 0 → Only [0 + 1] M M' → Rw M' (0 + 1) [] → postT (addThr v) M')
    (kk : ∀ M', v = 0 → OnlyF 0 [5] [0 + 1] M M' → Rw M' (0 + 1) [] → M'.1 0 5 = 0 → post (some (.int (ii T.length))) M') : Wp_Mc_afterEntering 0 (ii v) M post postT := by
  unfold Wp_Mc_afterEntering
  refine s_wipe (fun M1 o1 _ R1 => ?_)
  rw [show (1 : Int32) = ii 1 from rfl, show (2 : Int32) = ii 2 from rfl, show (3 : Int32) = ii 3 from rfl, show (4 : Int32) = ii 4 from rfl, ii_eq (by omega) (by omega) (by omega) (by omega), ii_eq (by omega) (by omega) (by omega) (by omega), ii_eq (by omega) (by omega) (by omega) (by omega), ii_eq (by omega) (by omega) (by omega) (by omega)]
  have e4 : v = 4 ∨ v = 3 ∨ v = 2 ∨ v = 1 ∨ v = 0 := by omega
  refine ⟨fun q1 => ⟨fun q2 => ⟨fun q3 => ⟨fun q4 => ?_, fun q4 => ?_⟩, fun q3 => ?_⟩, fun q2 => ?_⟩, fun q1 => ?_⟩
  · rintro M2 rfl
    have hv0 : v = 0 := by omega
    rw [zI_o (by decide), o1.1 (0 + 3) (by decide), h]
    refine kk _ hv0 ?_ (R1.only (S := [0]) (Only.rf.zI (by simp)) (by decide) (by decide)) (by rw [zI_g, if_pos ⟨rfl, rfl⟩])
    exact (o1.toF (by decide)).fld (by simp)
  · have : v = 4 := by omega
    subst this
    exact kT M1 (by omega) o1 R1
  · have : v = 3 := by omega
    subst this
    exact kT M1 (by omega) o1 R1
  · have : v = 2 := by omega
    subst this
    exact kT M1 (by omega) o1 R1
  · have : v = 1 := by omega
    subst this
    exact kT M1 (by omega) o1 R1
/-- what add tells -/
def McAddR (T : Tre) (tp : List UInt8) (kd n m o g tm : Int) (v : Nat) (T' : Tre) : Prop :=
  (v = 2 ∧ ¬ (1 ≤ n ∧ n ≤ 60 ∧ n ≤ tp.length) ∧ T' = T) ∨ ((1 ≤ n ∧ n ≤ 60 ∧ n ≤ tp.length) ∧ AddR T (tp.take n.toNat) kd m o g tm (tp.drop n.toNat) v T')
/-- only this tree, the tape, and whether the archive is fresh, have changed -/
def FrA (M M' : zM) : Prop := (∀ k, k ≠ 0 → k ≠ 1 → k ≠ 2 → (k < 3 ∨ 130 ≤ k) → M'.1 k = M.1 k ∧ M'.2.1 k = M.2.1 k ∧ M'.2.2 k = M.2.2 k) ∧ M'.2.2 0 = M.2.2 0 ∧ M'.2.1 0 = M.2.1 0
theorem FrA.rf {M : zM} : FrA M M := ⟨fun _ _ _ _ _ => ⟨rfl, rfl, rfl⟩, rfl, rfl⟩
theorem FrA.trans {M M' M'' : zM} (h : FrA M M') (h' : FrA M' M'') : FrA M M'' := ⟨fun k a b c d => ⟨(h'.1 k a b c d).1.trans (h.1 k a b c d).1, (h'.1 k a b c d).2.1.trans (h.1 k a b c d).2.1, (h'.1 k a b c d).2.2.trans (h.1 k a b c d).2.2⟩, h'.2.1.trans h.2.1, h'.2.2.trans h.2.2⟩
theorem FrT.frA {M M' : zM} (h : FrT (0 + 3) M M') : FrA M M' := ⟨fun k a b c d => h k (by omega), (h 0 (by omega)).2.2, (h 0 (by omega)).2.1⟩
theorem Only.frA {M M' : zM} (h : Only [0 + 1] M M') : FrA M M' := ⟨fun k a b c d => ⟨h.1 k (by simp; omega), by rw [h.2], by rw [h.2]⟩, by rw [h.2], by rw [h.2]⟩
theorem OnlyF.frA {M M' : zM} (h : OnlyF 0 [5] [0 + 1] M M') : FrA M M' := ⟨fun k a b c d => ⟨h.1 k (by simp; omega) a, by rw [h.2.2], by rw [h.2.2]⟩, by rw [h.2.2], by rw [h.2.2]⟩
theorem InsR.ne {T : Tre} {p : List UInt8} {m v : Nat} (h : InsR T p m v) : v ≤ 4 := h.le
theorem AddR.le {T T' : Tre} {p b : List UInt8} {kd m o g tm : Int} {v : Nat} (h : AddR T p kd m o g tm b v T') : v ≤ 4 := by
  rcases h with h | h
  · omega
  · exact h.2.1.le
theorem AddR.nz {T T' : Tre} {p b : List UInt8} {kd m o g tm : Int} {v : Nat} (h : AddR T p kd m o g tm b v T') (hv : v ≠ 0) : T' = T := by
  rcases h with h | h
  · exact h.2.2
  · exact h.2.2.1 hv
theorem after_all {M : zM} {v : Nat} {T T' : Tre} {post : Option Value → zM → Prop} {postT : Nat → zM → Prop} (hv : v ≤ 4) (h : TrI M (0 + 3) T') (hV : TOk T') (h5 : M.1 0 5 = 0 ∨ M.1 0 5 = 1)
    (kT : ∀ M', v ≠ 0 → FrA M M' → TrI M' (0 + 3) T' → Rw M' (0 + 1) [] → M'.1 0 = M.1 0 → postT (addThr v) M')
    (kk : ∀ M', v = 0 → FrA M M' → TrI M' (0 + 3) T' → Rw M' (0 + 1) [] → M'.1 0 5 = 0 → post (some (.int (ii T'.length))) M') : Wp_Mc_afterEntering 0 (ii v) M (fun vv M1 => ∃ x2 : Int32, vv = some (.int x2) ∧ (post (some (.int x2)) M1)) postT := by
  refine s_afterEntering hv h.2.1 (fun M' hv o R => kT M' hv o.frA (h.frm o.frm (by decide)) R (o.1 0 (by decide))) (fun M' hv o R e5 => ⟨_, rfl, kk M' hv o.frA (h.same (fun k h1 h2 => ⟨o.1 k (by simp; omega) (by omega), by rw [o.2.2]⟩)) R e5⟩)
theorem s_Mc_add {M : zM} {T : Tre} {tp : List UInt8} {kd n m o g tm : Int} {post : Option Value → zM → Prop} {postT : Nat → zM → Prop} (h : TrI M (0 + 3) T) (hV : TOk T) (hR : Rw M (0 + 1) tp) (h5 : M.1 0 5 = 0 ∨ M.1 0 5 = 1) (r0 : R32 n) (r1 : R32 kd) (r2 : R32 m) (r3 : R32 o) (r4 : R32 g) (r5 : R32 tm)
    (kT : ∀ (M' : zM) (v : Nat) (T' : Tre), McAddR T tp kd n m o g tm v T' → TOk T' → v ≠ 0 → FrA M M' → TrI M' (0 + 3) T' → Rw M' (0 + 1) [] → M'.1 0 = M.1 0 → postT (addThr v) M')
    (kk : ∀ (M' : zM) (T' : Tre), McAddR T tp kd n m o g tm 0 T' → TOk T' → FrA M M' → TrI M' (0 + 3) T' → Rw M' (0 + 1) [] → M'.1 0 5 = 0 → post (some (.int (ii T'.length))) M') : Wp_Mc_add 0 (ii kd) (ii n) (ii m) (ii o) (ii g) (ii tm) M post postT := by
  have l2' : ln (0 + 1 + 1) = 8000 := by decide +kernel
  have htl : tp.length ≤ 8000 := by have := hR.2.1; omega
  have hl := h.2.2.2.1
  have hT : isT (0 + 3) := Or.inl rfl
  have bad : ¬ (1 ≤ n ∧ n ≤ 60 ∧ n ≤ tp.length) → Wp_Mc_afterEntering 0 2 M (fun vv M1 => ∃ x2 : Int32, vv = some (.int x2) ∧ (post (some (.int x2)) M1)) postT := fun q =>
    after_all (T := T) (v := 2) (by omega) h hV h5 (fun M' a b c d e => kT M' 2 T (Or.inl ⟨rfl, q, rfl⟩) hV a b c d e) (fun M' a => absurd a (by decide))
  unfold R32 at r0
  unfold Wp_Mc_add
  rw [hR.1, show (1 : Int32) = ii 1 from rfl, show (60 : Int32) = ii 60 from rfl, ii_lt r0.1 r0.2 (by decide) (by decide), ii_lt (by decide) (by decide) r0.1 r0.2, ii_lt (by omega) (by omega) r0.1 r0.2]
  refine ⟨fun q => bad (by omega), fun q1 => ⟨fun q => bad (by omega), fun q2 => ⟨fun q => bad (by omega), fun q3 => ?_⟩⟩⟩
  obtain ⟨k, rfl⟩ := Int.eq_ofNat_of_zero_le (show 0 ≤ n by omega)
  have ed := ent_at hT h.1 (show T.length < 41 by omega)
  refine s_Tr_draft hT h ⟨ed.1, ed.2.1, ?_⟩
  obtain ⟨cc, hcc, ecc⟩ := h.1.1 T.length (by omega)
  have dn : ∀ j, j < T.length → M.2.2 (0 + 3 + 1) j ≠ M.2.2 (0 + 3 + 1) T.length := fun j hj q => by
    have := h.1.2 j T.length (by omega) (by omega) q
    omega
  generalize hdd : M.2.2 (0 + 3 + 1) T.length = d at *
  rw [show (0 : Int32) = ii ((0 : Nat) : Int) from rfl]
  refine s_copy (by omega) (by omega) hR (Nat.zero_le _) (by omega) (by omega) (fun M1 o1 R1 => ?_)
  have ecut : cut tp 0 k = tp.take k := by unfold cut; rw [List.drop_zero]
  rw [ecut] at R1
  rintro M10 rfl M11 rfl M12 rfl M13 rfl M14 hM14
  have o14 : Only [d, d + 1, d + 2] M M14 := by
    rw [hM14]
    exact (((((o1.mono (by simp)).zI (by simp)).zI (by simp)).zI (by simp)).zI (by simp)).zI (by simp)
  have gd : M14.1 d 1 = ii kd ∧ M14.1 d 2 = ii m ∧ M14.1 d 3 = ii o ∧ M14.1 d 4 = ii g ∧ M14.1 d 5 = ii tm := by
    rw [hM14]
    simp only [zI_g]
    simp
  have o14b : Only [d] M1 M14 := by
    rw [hM14]
    exact ((((Only.rf.zI (by simp)).zI (by simp)).zI (by simp)).zI (by simp)).zI (by simp)
  have R14 : Rw M14 (d + 1) (tp.take k) := R1.only o14b (by simp) (by simp <;> omega)
  have er : M14.2.2 = M.2.2 := by rw [o14.2]
  have F14 : FrT (0 + 3) M M14 := o14.frT (fun x hx => by have : x = d ∨ x = d + 1 ∨ x = d + 2 := (by simpa using hx); omega)
  have I14 : TrI M14 (0 + 3) T := by
    obtain ⟨bd, b1, b2, b3⟩ := h.2.2.2.2.2
    refine ⟨h.1.same (by rw [er]), by rw [o14.1 (0 + 3) (by simp; omega)]; exact h.2.1, by rw [o14.1 (0 + 3) (by simp; omega)]; exact h.2.2.1, hl, h.2.2.2.2.1, bd, b1.only o14 (by simp; omega) (by simp; omega), b2, fun j hj => ?_⟩
    rw [er]
    obtain ⟨c, hc, ec⟩ := h.1.1 j (by omega)
    have hne := dn j hj
    have hb := b3 j hj
    rw [ec] at hne hb ⊢
    exact hb.same (o14.1 _ (by simp; omega)) (o14.1 _ (by simp; omega)) (o14.1 _ (by simp; omega))
  have A14 : Rw M14 (0 + 1) tp := hR.frT F14 (by omega) (by omega)
  rw [A14.1]
  refine s_Tr_enter (p := tp.take k) (cs := tp) hT I14 hV (by rw [er, hdd]; exact R14) (by rw [er, hdd]; exact gd.1) (by rw [er, hdd]; exact gd.2.1) (by rw [er, hdd]; exact gd.2.2.1) (by rw [er, hdd]; exact gd.2.2.2.1) (by rw [er, hdd]; exact gd.2.2.2.2) r1 r2 r3 r4 r5 A14 (by omega) (by omega) (Nat.le_refl _) (fun M15 v T' hA F15 I15 hV' => ?_)
  rw [cut_end] at hA
  have hAA : McAddR T tp kd (k : Int) m o g tm v T' := Or.inr ⟨by omega, hA⟩
  have q0 : M15.1 0 = M.1 0 := ((F15 0 (by omega)).1).trans (F14 0 (by omega)).1
  refine after_all (T := T) (hA.le) I15 hV' (by rw [q0]; exact h5) (fun M' a b c d e => kT M' v T' hAA hV' a ((F14.frA.trans F15.frA).trans b) c d (by rw [e]; exact q0)) (fun M' a b c d e => ?_)
  subst a
  exact kk M' T' hAA hV' ((F14.frA.trans F15.frA).trans b) c d e
/-- what link tells -/
def McLinkR (T : Tre) (tp : List UInt8) (i : Int) (v : Nat) (T' : Tre) : Prop :=
  (v = 1 ∧ ¬ (0 ≤ i ∧ i < T.length) ∧ T' = T) ∨ (v = 2 ∧ (0 ≤ i ∧ i < T.length) ∧ 60 < tp.length ∧ T' = T) ∨ ((0 ≤ i ∧ i < T.length) ∧ tp.length ≤ 60 ∧ LnkR T tp i v T')
theorem LnkR.le {T T' : Tre} {p : List UInt8} {i : Int} {v : Nat} (h : LnkR T p i v T') : v ≤ 4 := by
  rcases h with h | ⟨_, _, _, _, h, _⟩ | ⟨_, _, _, _, h, _⟩
  · omega
  · omega
  · exact h.le
theorem s_Mc_link {M : zM} {T : Tre} {tp : List UInt8} {i : Int} {post : Option Value → zM → Prop} {postT : Nat → zM → Prop} (h : TrI M (0 + 3) T) (hV : TOk T) (hR : Rw M (0 + 1) tp) (h5 : M.1 0 5 = 0 ∨ M.1 0 5 = 1) (r0 : R32 i)
    (kT : ∀ (M' : zM) (v : Nat) (T' : Tre), McLinkR T tp i v T' → TOk T' → v ≠ 0 → FrA M M' → TrI M' (0 + 3) T' → Rw M' (0 + 1) [] → M'.1 0 = M.1 0 → postT (addThr v) M')
    (kk : ∀ (M' : zM) (T' : Tre), McLinkR T tp i 0 T' → TOk T' → FrA M M' → TrI M' (0 + 3) T' → Rw M' (0 + 1) [] → M'.1 0 5 = 0 → post (some (.int (ii T'.length))) M') : Wp_Mc_link 0 (ii i) M post postT := by
  have l2' : ln (0 + 1 + 1) = 8000 := by decide +kernel
  have htl : tp.length ≤ 8000 := by have := hR.2.1; omega
  have hl := h.2.2.2.1
  have hT : isT (0 + 3) := Or.inl rfl
  unfold R32 at r0
  unfold Wp_Mc_link
  refine s_Tr_has h r0.1 r0.2 ?_
  by_cases hi : 0 ≤ i ∧ i < T.length
  · rw [if_pos hi]
    refine ⟨fun _ => ?_, fun z => absurd z (by decide)⟩
    rw [hR.1, show (60 : Int32) = ii 60 from rfl, ii_lt (by omega) (by omega) (by omega) (by omega)]
    refine ⟨fun q => ?_, fun q => ?_⟩
    · exact after_all (T := T) (v := 2) (by omega) h hV h5 (fun M' a b c d e => kT M' 2 T (Or.inr (Or.inl ⟨rfl, hi, by omega, rfl⟩)) hV a b c d e) (fun M' a => absurd a (by decide))
    · have ed := ent_at hT h.1 (show T.length < 41 by omega)
      refine s_Tr_draft hT h ⟨ed.1, ed.2.1, ?_⟩
      obtain ⟨cc, hcc, ecc⟩ := h.1.1 T.length (by omega)
      have dn : ∀ j, j < T.length → M.2.2 (0 + 3 + 1) j ≠ M.2.2 (0 + 3 + 1) T.length := fun j hj q => by
        have := h.1.2 j T.length (by omega) (by omega) q
        omega
      generalize hdd : M.2.2 (0 + 3 + 1) T.length = d at *
      rw [show (0 : Int32) = ii ((0 : Nat) : Int) from rfl, hR.1]
      refine s_copy (by omega) (by omega) hR (Nat.zero_le _) (by omega) (by omega) (fun M14 o14 R14 => ?_)
      have ecut : cut tp 0 tp.length = tp := by rw [cut_end]; rfl
      rw [ecut] at R14
      have er : M14.2.2 = M.2.2 := by rw [o14.2]
      have F14 : FrT (0 + 3) M M14 := o14.frT (fun x hx => by have : x = d + 1 ∨ x = d + 1 + 1 := (by simpa using hx); omega)
      have I14 : TrI M14 (0 + 3) T := by
        obtain ⟨bd, b1, b2, b3⟩ := h.2.2.2.2.2
        refine ⟨h.1.same (by rw [er]), by rw [o14.1 (0 + 3) (by simp; omega)]; exact h.2.1, by rw [o14.1 (0 + 3) (by simp; omega)]; exact h.2.2.1, hl, h.2.2.2.2.1, bd, b1.only o14 (by simp; omega) (by simp; omega), b2, fun j hj => ?_⟩
        rw [er]
        obtain ⟨c, hc, ec⟩ := h.1.1 j (by omega)
        have hne := dn j hj
        have hb := b3 j hj
        rw [ec] at hne hb ⊢
        exact hb.same (o14.1 _ (by simp; omega)) (o14.1 _ (by simp; omega)) (o14.1 _ (by simp; omega))
      refine s_enterLink (p := tp) hT I14 hV (by rw [er, hdd]; exact R14) r0.1 r0.2 (fun M15 v T' hA F15 I15 hV' => ?_)
      have hAA : McLinkR T tp i v T' := Or.inr (Or.inr ⟨hi, by omega, hA⟩)
      have q0 : M15.1 0 = M.1 0 := ((F15 0 (by omega)).1).trans (F14 0 (by omega)).1
      refine after_all (T := T) (hA.le) I15 hV' (by rw [q0]; exact h5) (fun M' a b c d e => kT M' v T' hAA hV' a ((F14.frA.trans F15.frA).trans b) c d (by rw [e]; exact q0)) (fun M' a b c d e => ?_)
      subst a
      exact kk M' T' hAA hV' ((F14.frA.trans F15.frA).trans b) c d e
  · rw [if_neg hi]
    refine ⟨fun z => absurd rfl z, fun _ => ?_⟩
    exact after_all (T := T) (v := 1) (by omega) h hV h5 (fun M' a b c d e => kT M' 1 T (Or.inl ⟨rfl, hi, rfl⟩) hV a b c d e) (fun M' a => absurd a (by decide))
theorem s_Mc_clear {M : zM} {T : Tre} {post : Int32 → zM → Prop} (h : TrI M (0 + 3) T) (kk : ∀ M', FrA M M' → (∀ k, k = 1 ∨ k = 2 → M'.1 k = M.1 k) → TrI M' (0 + 3) [] → M'.1 0 5 = 0 → post (ii T.length) M') : Wp_Mc_clear 0 M post := by
  unfold Wp_Mc_clear
  rintro x rfl
  rw [h.2.1]
  refine s_Tr_wipe h (fun M1 F1 I1 => ?_)
  rintro M2 rfl
  have o2 : OnlyF 0 [5] [0 + 1] M1 (zI M1 0 5 0) := OnlyF.rf.fld (by simp)
  refine kk _ (F1.frA.trans o2.frA) (fun k hk => by rw [zI_o (by omega)]; exact (F1 k (by omega)).1) (I1.same (fun k h1 h2 => ⟨zI_o (by omega), rfl⟩)) (by rw [zI_g, if_pos ⟨rfl, rfl⟩])
