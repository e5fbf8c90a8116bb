/-! Links that were read, the reference. -/
def LkOk (R : Tre) : Prop := ∀ (i : Nat) (hi : i < R.length), ∃ hf : fstK R i R[i] < R.length, R[i].2.1 = R[fstK R i R[i]].2.1 ∧ R[i].body = R[fstK R i R[i]].body
theorem fstK_lt {R : Tre} {i : Nat} (hi : i < R.length) : fstK R i R[i] ≤ i ∧ ∃ hf : fstK R i R[i] < R.length, R[fstK R i R[i]].kind = R[i].kind := by
  unfold fstK
  by_cases c : R[i].kind = 1
  · have hle := fstF_le R[i].fam R i hi c rfl
    obtain ⟨h1, h2, h3⟩ := fstF_at R[i].fam R (by omega)
    simp only [if_pos c]
    exact ⟨hle, h1, by rw [h2, c]⟩
  · simp only [if_neg c]
    exact ⟨Nat.le_refl _, hi, trivial⟩
theorem fstK_fam {T : Tre} (hF : FamOk T) {i : Nat} (hi : i < T.length) : fstK T i T[i] = fstL T[i].fam T := by
  unfold fstK
  by_cases c : T[i].kind = 1
  · rw [if_pos c]
    have hle := fstF_le T[i].fam T i hi c rfl
    obtain ⟨h1, h2, h3⟩ := fstF_at T[i].fam T (by omega)
    refine (fstL_char h1 h3 (fun j hj hji q => ?_)).symm
    have hk : T[j].kind = 1 := by
      have := List.pairwise_iff_getElem.mp hF.2 j _ hj h1 hji (q.trans h3.symm)
      exact this.1
    have := fstF_le T[i].fam T j hj hk q
    omega
  · rw [if_neg c]
    exact (fst_unique hF hi c).symm
theorem LkOk.of {T : Tre} (hV : TOk T) : LkOk T := by
  intro i hi
  have hle := fstL_le T[i].fam T i hi rfl
  obtain ⟨h1, h2⟩ := fstL_at T[i].fam T (by omega)
  have e := fstK_fam hV.2.2.2.2.2 hi
  simp only [e]
  refine ⟨h1, ?_⟩
  rcases Nat.lt_or_ge (fstL T[i].fam T) i with c | c
  · have := List.pairwise_iff_getElem.mp hV.2.2.2.2.2.2 _ i h1 hi c h2
    exact ⟨this.2.1.symm, this.2.2.symm⟩
  · have : fstL T[i].fam T = i := by omega
    simp only [this]
    exact ⟨trivial, trivial⟩
section RLK
variable {M : zM} {R : Tre}
theorem s_areLinks {post : Int32 → zM → Prop} (hI : RtI M 2 R) (hE : ∀ e ∈ R, EOk e) (k1 : LkOk R → post 1 M) (k0 : ¬ LkOk R → post 0 M) : Wp_Mo_areLinks 413 M post := by
  obtain ⟨l8, l9, l10, l11, l12, l13, l14, l15, l16, l17, l18, l19, l20, l21⟩ := l_ref
  have z2c : ((2 : Int32)).toNatClampNeg = 2 := by decide
  have hK2 : ∀ e ∈ R, e.kind ≤ 2 := fun e he => (hE e he).2.2.2.1
  obtain ⟨a1, a2, a3, us, u1, u2, u3, u4⟩ := hI
  have hI : RtI M 2 R := ⟨a1, a2, a3, us, u1, u2, u3, u4⟩
  unfold Wp_Mo_areLinks
  intro K4 K125 h4 h125
  have goodAt : ∀ i (hi : i < R.length), Prop := fun i hi => ∃ hf : fstK R i R[i] < R.length, R[i].2.1 = R[fstK R i R[i]].2.1 ∧ R[i].body = R[fstK R i R[i]].body
  suffices H : ∀ (m i : Nat) (v : Int32), i + m = R.length → ((v = 1 ∧ ∀ (j : Nat) (hj : j < R.length), j < i → ∃ hf : fstK R j R[j] < R.length, R[j].2.1 = R[fstK R j R[j]].2.1 ∧ R[j].body = R[fstK R j R[j]].body) ∨ (v = 0 ∧ ¬ LkOk R)) → K4 v (ii i) M from H _ 0 1 (Nat.zero_add _) (Or.inl ⟨rfl, fun j _ hj => absurd hj (by omega)⟩)
  intro m
  induction m with
  | zero =>
    intro i v hi hv
    refine h4 _ _ _ ⟨by unfold vp_in; rw [l8]; decide, ?_⟩
    rw [z2c, a1]
    refine ⟨fun _ => ?_, fun z => absurd (by rw [ii_le (by omega) (by omega) (by omega) (by omega)]; omega) z⟩
    rcases hv with ⟨rfl, hv⟩ | ⟨rfl, hv⟩
    · exact ⟨rfl, k1 (fun j hj => hv j hj (by omega))⟩
    · exact ⟨rfl, k0 hv⟩
  | succ m ih =>
    intro i v hi hv
    have hin : i < R.length := by omega
    obtain ⟨hle, hf, hkd⟩ := fstK_lt hin
    have hEi := hE _ (List.getElem_mem hin)
    have hEf := hE _ (List.getElem_mem hf)
    -- on to the next
    have nextBad : ¬ LkOk R → ∀ x : Int32, x = ii (i : Int) + 1 → K4 0 x M := by
      rintro hn x rfl
      rw [show (1 : Int32) = ii 1 from rfl, ii_add]
      exact ih (i + 1) 0 (by omega) (Or.inr ⟨rfl, hn⟩)
    have eei : (ii ((41 * 2 + i : Nat) : Int)).toNatClampNeg = 41 * 2 + i := by rw [ii_nat (by omega) (by omega), Int.toNat_natCast]
    have eef : (ii ((41 * 2 + fstK R i R[i] : Nat) : Int)).toNatClampNeg = 41 * 2 + fstK R i R[i] := by rw [ii_nat (by omega) (by omega), Int.toNat_natCast]
    obtain ⟨c1, c2, c3, c4, c5, c6, c7, c8, c9, fr, d1, d2, d3⟩ := u3 i hin
    obtain ⟨g1, g2, g3, g4, g5, g6, g7, g8, g9, fr', e1, e2, e3⟩ := u3 _ hf
    have bad125 : ¬ LkOk R → ∀ k : Int32, K125 0 (ii i) (ii ((41 * 2 + i : Nat) : Int)) (ii ((41 * 2 + fstK R i R[i] : Nat) : Int)) k M := by
      intro hn k
      refine h125 _ _ _ _ _ _ ⟨ii_in (by omega) (by omega) (by omega), fun _ => nextBad hn, fun _ => ⟨fun _ => nextBad hn, fun z => absurd rfl z⟩⟩
    refine h4 _ _ _ ⟨by unfold vp_in; rw [l8]; decide, ?_⟩
    rw [z2c, a1]
    refine ⟨fun z => ?_, fun _ => ?_⟩
    · rw [ii_le (by omega) (by omega) (by omega) (by omega)] at z
      omega
    · unfold Wp_Mo_at
      have ea : (41 : Int32) * 2 + ii (i : Int) = ii ((41 * 2 + i : Nat) : Int) := ei_at 2 i
      have ef : (41 : Int32) * 2 + ii (fstK R i R[i] : Nat) = ii ((41 * 2 + fstK R i R[i] : Nat) : Int) := ei_at 2 _
      rw [ea]
      show Wp_Mo_firstOf 413 (ii ((2 : Nat) : Int)) (ii (i : Int)) M _
      refine s_firstK (by omega) hI hK2 hin ?_
      rw [ef]
      refine ⟨fun z => bad125 (by rcases hv with hv | hv; exact absurd hv.1 (by rw [z]; decide); exact hv.2) _, fun z => ?_⟩
      have hgood : ∀ (j : Nat) (hj : j < R.length), j < i → ∃ hf : fstK R j R[j] < R.length, R[j].2.1 = R[fstK R j R[j]].2.1 ∧ R[j].body = R[fstK R j R[j]].body := by
        rcases hv with hv | hv
        · exact hv.2
        · exact absurd hv.1 z
      have kIs : ∀ w : Int32, w = ii ((41 * 2 + i : Nat) : Int) → vp_in w 123 := fun w hw => by rw [hw]; exact ii_in (by omega) (by omega) (by omega)
      have kFs : ∀ w : Int32, w = ii ((41 * 2 + fstK R i R[i] : Nat) : Int) → vp_in w 123 := fun w hw => by rw [hw]; exact ii_in (by omega) (by omega) (by omega)
      have noteq : (¬ (R[i].2.1 = R[fstK R i R[i]].2.1 ∧ R[i].body = R[fstK R i R[i]].body)) → ¬ LkOk R := fun hq hl => hq (hl i hin).2
      have x5 := hEi.2.2.2.2.1
      have y5 := hEf.2.2.2.2.1
      have x6 := hEi.2.2.2.2.2.1
      have y6 := hEf.2.2.2.2.2.1
      have x7 := hEi.2.2.2.2.2.2.1
      have y7 := hEf.2.2.2.2.2.2.1
      have x8 := hEi.2.2.2.2.2.2.2.1
      have y8 := hEf.2.2.2.2.2.2.2.1
      rw [l12, l13, l14, l15, l17, eei, eef, c5, c6, c7, c8, c9, g5, g6, g7, g8, g9, ii_eq (by omega) (by omega) (by omega) (by omega), ii_eq (by omega) (by omega) (by omega) (by omega), ii_eq (by omega) (by omega) (by omega) (by omega), ii_eq (by omega) (by omega) (by omega) (by omega), ii_eq (by omega) (by omega) (by omega) (by omega)]
      refine ⟨kIs _ rfl, kFs _ rfl, fun q => bad125 (noteq (fun w => q ?_)) _, fun q1 => ⟨kIs _ rfl, kFs _ rfl, fun q => bad125 (noteq (fun w => q ?_)) _, fun q2 => ⟨kIs _ rfl, kFs _ rfl, fun q => bad125 (noteq (fun w => q ?_)) _, fun q3 => ⟨kIs _ rfl, kFs _ rfl, fun q => bad125 (noteq (fun w => q ?_)) _, fun q4 => ⟨kIs _ rfl, kFs _ rfl, fun q => bad125 (noteq (fun w => q ?_)) _, fun q5 => ?_⟩⟩⟩⟩⟩
      · unfold En.mode; rw [w.1]
      · unfold En.own; rw [w.1]
      · unfold En.grp; rw [w.1]
      · unfold En.tim; rw [w.1]
      · rw [w.2]
      · have h21 : R[i].2.1 = R[fstK R i R[i]].2.1 := by
          have m1 : R[i].2.1.1 = R[fstK R i R[i]].2.1.1 := hkd.symm
          have m2 : R[i].2.1.2.1 = R[fstK R i R[i]].2.1.2.1 := by unfold En.mode at q1; omega
          have m3 : R[i].2.1.2.2.1 = R[fstK R i R[i]].2.1.2.2.1 := by unfold En.own at q2; omega
          have m4 : R[i].2.1.2.2.2.1 = R[fstK R i R[i]].2.1.2.2.2.1 := by unfold En.grp at q3; omega
          have m5 : R[i].2.1.2.2.2.2 = R[fstK R i R[i]].2.1.2.2.2.2 := by unfold En.tim at q4; omega
          exact Prod.ext m1 (Prod.ext m2 (Prod.ext m3 (Prod.ext m4 m5)))
        have hbl : R[i].body.length = R[fstK R i R[i]].body.length := by omega
        suffices H2 : ∀ (mm j : Nat), j + mm = R[i].body.length → (∀ (q : Nat) (hq : q < R[i].body.length), q < j → R[i].body[q] = R[fstK R i R[i]].body[q]'(by omega)) → K125 1 (ii i) (ii ((41 * 2 + i : Nat) : Int)) (ii ((41 * 2 + fstK R i R[i] : Nat) : Int)) (ii j) M from H2 _ 0 (Nat.zero_add _) (fun q _ hq => absurd hq (by omega))
        intro mm
        induction mm with
        | zero =>
          intro j hj hsame
          refine h125 _ _ _ _ _ _ ⟨ii_in (by omega) (by omega) (by omega), ?_⟩
          rw [eei, c9]
          refine ⟨fun _ => ?_, fun y => absurd (by rw [ii_le (by omega) (by omega) (by omega) (by omega)]; omega) y⟩
          rintro x rfl
          rw [show (1 : Int32) = ii 1 from rfl, ii_add]
          refine ih (i + 1) 1 (by omega) (Or.inl ⟨rfl, fun r hr hri => ?_⟩)
          by_cases c : r = i
          · subst c
            refine ⟨hf, h21, List.ext_getElem hbl (fun q hq1 hq2 => hsame q hq1 (by omega))⟩
          · exact hgood r hr (by omega)
        | succ mm ih2 =>
          intro j hj hsame
          have hjb : j < R[i].body.length := by omega
          have ex1 : (40000 : Int32) + ii (fr : Int) + ii (j : Int) = ii ((40000 + fr + j : Nat) : Int) := by
            rw [show (40000 : Int32) = ii 40000 from rfl, ii_add, ii_add]
            congr 1
          have ex2 : (40000 : Int32) + ii (fr' : Int) + ii (j : Int) = ii ((40000 + fr' + j : Nat) : Int) := by
            rw [show (40000 : Int32) = ii 40000 from rfl, ii_add, ii_add]
            congr 1
          have b1 : M.1 (413 + 20) (40000 + fr + j) = sb R[i].body[j] := d3 j hjb
          have b2 : M.1 (413 + 20) (40000 + fr' + j) = sb (R[fstK R i R[i]].body[j]'(by omega)) := e3 j (by omega)
          refine h125 _ _ _ _ _ _ ⟨ii_in (by omega) (by omega) (by omega), ?_⟩
          rw [eei, eef, c9, d1, e1, ex1, ex2]
          refine ⟨fun y => ?_, fun _ => ⟨fun y => absurd y (by decide), fun _ => ⟨ii_in (by omega) (by omega) (by omega), ii_in (by omega) (by omega) (by omega), ii_in (by omega) (by omega) (by omega), ii_in (by omega) (by omega) (by omega), ?_⟩⟩⟩
          · rw [ii_le (by omega) (by omega) (by omega) (by omega)] at y
            omega
          · rw [ii_nat (by omega) (by omega), ii_nat (by omega) (by omega), Int.toNat_natCast, Int.toNat_natCast, b1, b2, sb_iff]
            refine ⟨fun y => ?_, fun y => ?_⟩
            · rintro x rfl
              refine bad125 (noteq (fun w => y ?_)) _
              have e9 : R[i].body[j]? = R[fstK R i R[i]].body[j]? := by rw [w.2]
              rw [List.getElem?_eq_getElem hjb, List.getElem?_eq_getElem (by omega)] at e9
              exact Option.some.inj e9
            · rintro x rfl
              rw [show (1 : Int32) = ii 1 from rfl, ii_add]
              refine ih2 (j + 1) (by omega) (fun q hq hq2 => ?_)
              by_cases c : q = j
              · subst c; exact y
              · exact hsame q hq (by omega)
end RLK
/-- what the readers' checks say of a tree -/
def RV (R : Tre) : Prop := R.length ≤ 40 ∧ Srt R ∧ (∀ e ∈ R, EOk e) ∧ conts R ≤ 6000 ∧ (∀ e ∈ R, parentOk R e.path) ∧ smallT R
def nrmK (R : Tre) : Tre := R.mapIdx (fun i e => (e.path, e.2.1, e.body, fstK R i e))
theorem nrmK_len (R : Tre) : (nrmK R).length = R.length := by simp [nrmK]
theorem nrmK_at (R : Tre) (i : Nat) (h : i < R.length) (h2 : i < (nrmK R).length) : (nrmK R)[i] = (R[i].path, R[i].2.1, R[i].body, fstK R i R[i]) := by
  simp [nrmK]
theorem nrmK_ok {R : Tre} (hV : RV R) (hL : LkOk R) : TOk (nrmK R) ∧ smallT (nrmK R) ∧ ∀ {M : zM}, RtI M 2 R → RtI M 2 (nrmK R) := by
  obtain ⟨v1, v2, v3, v4, v5, v6⟩ := hV
  have hl := nrmK_len R
  have hat : ∀ (j : Nat) (h1 : j < R.length) (h2 : j < (nrmK R).length), R[j].path = (nrmK R)[j].path ∧ R[j].2.1 = (nrmK R)[j].2.1 ∧ R[j].body = (nrmK R)[j].body := fun j h1 h2 => by
    rw [nrmK_at R j h1 h2]
    exact ⟨rfl, rfl, rfl⟩
  have hfam : ∀ (j : Nat) (h1 : j < R.length) (h2 : j < (nrmK R).length), (nrmK R)[j].fam = fstK R j R[j] := fun j h1 h2 => by
    rw [nrmK_at R j h1 h2]
    rfl
  have hc : conts (nrmK R) = conts R := by
    have key : ∀ n, n ≤ R.length → conts (R.take n) = conts ((nrmK R).take n) := by
      intro n
      induction n with
      | zero => intro _; rfl
      | succ n ih =>
        intro hn
        have h1 : n < R.length := by omega
        have h2 : n < (nrmK R).length := by omega
        rw [← List.take_append_getElem h1, ← List.take_append_getElem h2, conts_app, conts_app, ih (by omega)]
        congr 1
        obtain ⟨e1, e2, e3⟩ := hat n h1 h2
        show (if R[n].2.1.1 = 1 then R[n].body.length else 0) + 0 = (if (nrmK R)[n].2.1.1 = 1 then (nrmK R)[n].body.length else 0) + 0
        rw [e2, e3]
    have := key R.length (Nat.le_refl _)
    rw [List.take_length, ← hl, List.take_length] at this
    exact this.symm
  have back : ∀ e ∈ nrmK R, ∃ x ∈ R, x.path = e.path ∧ x.2.1 = e.2.1 ∧ x.body = e.body := by
    intro e he
    obtain ⟨j, hj, ej⟩ := List.getElem_of_mem he
    obtain ⟨e1, e2, e3⟩ := hat j (by omega) hj
    exact ⟨R[j]'(by omega), List.getElem_mem _, by rw [e1, ej], by rw [e2, ej], by rw [e3, ej]⟩
  have forth : ∀ e ∈ R, ∃ x ∈ nrmK R, x.path = e.path ∧ x.2.1 = e.2.1 := by
    intro e he
    obtain ⟨j, hj, ej⟩ := List.getElem_of_mem he
    obtain ⟨e1, e2, e3⟩ := hat j hj (by omega)
    exact ⟨(nrmK R)[j]'(by omega), List.getElem_mem _, by rw [← e1, ej], by rw [← e2, ej]⟩
  have inj : ∀ (i j : Nat) (hi : i < R.length) (hj : j < R.length), R[i].kind = 1 → R[j].kind = 1 → (R[i].fam = R[j].fam ↔ fstK R i R[i] = fstK R j R[j]) := by
    intro i j hi hj ki kj
    unfold fstK
    rw [if_pos ki, if_pos kj]
    constructor
    · intro q; rw [q]
    · intro q
      have l1 := fstF_le R[i].fam R i hi ki rfl
      have l2 := fstF_le R[j].fam R j hj kj rfl
      obtain ⟨a1, a2, a3⟩ := fstF_at R[i].fam R (by omega)
      obtain ⟨b1, b2, b3⟩ := fstF_at R[j].fam R (by omega)
      rw [← a3, ← b3]
      congr 2
  refine ⟨⟨by omega, ?_, fun e he => ?_, by omega, fun e he => ?_, fun e he => ?_, ?_⟩, fun e he => ?_, fun hI => hI.rel ⟨hl.symm, hat⟩ (fun i j h1 h2 h3 h4 ki kj => ?_) hc⟩
  · refine List.pairwise_iff_getElem.mpr (fun i j hi hj hij => ?_)
    have := List.pairwise_iff_getElem.mp v2 i j (by omega) (by omega) hij
    rw [(hat i (by omega) hi).1, (hat j (by omega) hj).1] at this
    exact this
  · obtain ⟨x, x1, x2, x3, x4⟩ := back e he
    have := v3 x x1
    unfold EOk En.kind En.mode En.own En.grp En.tim at this ⊢
    rw [x2, x3, x4] at this
    exact this
  · obtain ⟨x, x1, x2, x3, x4⟩ := back e he
    have := v5 x x1
    rw [x2] at this
    rcases this with q | ⟨y, y1, y2, y3⟩
    · exact Or.inl q
    · obtain ⟨w, w1, w2, w3⟩ := forth y y1
      exact Or.inr ⟨w, w1, by rw [w2]; exact y2, by unfold En.kind at y3 ⊢; rw [w3]; exact y3⟩
  · obtain ⟨j, hj, ej⟩ := List.getElem_of_mem he
    rw [← ej, hfam j (by omega) hj]
    have := (fstK_lt (R := R) (i := j) (by omega)).1
    omega
  · refine List.pairwise_iff_getElem.mpr (fun i j hi hj hij q => ?_)
    have hi' : i < R.length := by omega
    have hj' : j < R.length := by omega
    rw [hfam i hi' hi, hfam j hj' hj] at q
    obtain ⟨e1, e2, e3⟩ := hat i hi' hi
    obtain ⟨f1, f2, f3⟩ := hat j hj' hj
    obtain ⟨li, li2, li3⟩ := fstK_lt hi'
    obtain ⟨lj, lj2, lj3⟩ := fstK_lt hj'
    have both : R[i].kind = 1 ∧ R[j].kind = 1 := by
      by_cases ki : R[i].kind = 1
      · refine ⟨ki, ?_⟩
        rw [← lj3, ← ki, ← li3]
        congr 2
        exact q.symm
      · by_cases kj : R[j].kind = 1
        · exfalso
          apply ki
          rw [← li3, ← kj, ← lj3]
          congr 2
        · exfalso
          unfold fstK at q
          rw [if_neg ki, if_neg kj] at q
          omega
    obtain ⟨hf1, g1, g2⟩ := hL i hi'
    obtain ⟨hf2, g3, g4⟩ := hL j hj'
    refine ⟨?_, ?_, ?_⟩
    · show (nrmK R)[i].2.1.1 = 1
      rw [← e2]
      exact both.1
    · rw [← e2, ← f2, g1, g3]
      congr 3
    · rw [← e3, ← f3, g2, g4]
      congr 2
  · obtain ⟨x, x1, x2, x3, x4⟩ := back e he
    have := v6 x x1
    unfold En.own En.grp at this ⊢
    rw [x3] at this
    exact this
  · rw [hfam i h1 h3, hfam j h2 h4]
    exact inj i j h1 h2 ki kj
