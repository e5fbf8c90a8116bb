/-! An archive read back: the tree, as MailChain builds it. -/
/-- families are the places of the first -/
def NFT (T : Tre) : Prop := ∀ (i : Nat) (hi : i < T.length), T[i].fam = fstL T[i].fam T
theorem cmpB_pre : ∀ (p : List UInt8) (n : Nat), n < p.length → cmpB (p.take n) p < 0
  | [], n, h => absurd h (by simp)
  | x :: t, 0, h => by
    show -(((x :: t).length : Nat) : Int) < 0
    simp only [List.length_cons]
    omega
  | x :: t, n + 1, h => by
    rw [List.take_succ_cons, cmpB_cons, if_pos rfl]
    exact cmpB_pre t n (by simpa using h)
theorem parS_lt {p : List UInt8} (h : p ≠ []) : parS p < p.length := by
  unfold parS
  rcases lsl_rng p 0 (-1) (by omega) (by omega) with q | q
  · omega
  · exact absurd q h
theorem parent_take {T : Tre} (h : TOk T) {i : Nat} (hi : i < T.length) : parentOk (T.take i) T[i].path := by
  have hE := h.2.2.1 _ (List.getElem_mem hi)
  have hne : T[i].path ≠ [] := fun q => by have := hE.1; rw [q] at this; simp at this
  rcases h.2.2.2.2.1 _ (List.getElem_mem hi) with q | ⟨e, e1, e2, e3⟩
  · exact Or.inl q
  · have hl := parS_lt hne
    have hr := parS_rng T[i].path
    by_cases hz : parS T[i].path = -1
    · exact Or.inl hz
    have hc := cmpB_pre T[i].path (parS T[i].path).toNat (by omega)
    obtain ⟨j, hj, ej⟩ := List.getElem_of_mem e1
    have hjp : T[j].path = T[i].path.take (parS T[i].path).toNat := by rw [ej]; exact e2
    have hji : j < i := by
      rcases Nat.lt_or_ge j i with q | q
      · exact q
      · exfalso
        by_cases c : j = i
        · subst c
          have := congrArg List.length hjp
          rw [List.length_take] at this
          omega
        · have := List.pairwise_iff_getElem.mp h.2.1 i j hi hj (by omega)
          rw [hjp, cmpB_anti] at this
          omega
    refine Or.inr ⟨e, ?_, e2, e3⟩
    rw [← ej, List.mem_iff_getElem]
    exact ⟨j, by rw [List.length_take]; omega, by rw [List.getElem_take]⟩
theorem conts_take {T : Tre} {i : Nat} (hi : i < T.length) : conts (T.take i) + (if T[i].kind = 1 then T[i].body.length else 0) ≤ conts T := by
  have e : T = T.take i ++ T[i] :: T.drop (i + 1) := by rw [← List.drop_eq_getElem_cons hi, List.take_append_drop]
  have h2 : conts T = conts (T.take i) + ((if T[i].kind = 1 then T[i].body.length else 0) + conts (T.drop (i + 1))) := by
    have := congrArg conts e
    rw [conts_app] at this
    exact this
  omega
theorem take_mem {T : Tre} {i : Nat} {e : En} (h : e ∈ T.take i) : ∃ (j : Nat) (hj : j < T.length), j < i ∧ T[j] = e := by
  obtain ⟨j, hj, ej⟩ := List.getElem_of_mem h
  rw [List.length_take] at hj
  refine ⟨j, by omega, by omega, ?_⟩
  rw [List.getElem_take] at ej
  exact ej
theorem plc_end {T : Tre} (h : Srt T) {i : Nat} (hi : i < T.length) : plc T[i].path (T.take i) = i ∧ (T.take i).length = i := by
  have hl : (T.take i).length = i := by rw [List.length_take]; omega
  refine ⟨plc_char _ _ i (by omega) (fun j hj hji => ?_) (fun h9 => by omega), hl⟩
  rw [List.getElem_take]
  exact List.pairwise_iff_getElem.mp h j i (by omega) hi hji
theorem ins_end {T : Tre} (h : Srt T) {i : Nat} (hi : i < T.length) {x : En} (hx : x = T[i]) : ins x (T.take i) = T.take (i + 1) := by
  obtain ⟨h1, h2⟩ := plc_end h hi
  rw [ins_eq, hx, h1, List.take_of_length_le (by omega), List.drop_eq_nil_of_le (by omega), List.take_append_getElem hi]
theorem InsR.ok {T : Tre} (h : TOk T) {i v : Nat} (hi : i < T.length) (hI : InsR (T.take i) T[i].path (if T[i].kind = 1 then T[i].body.length else 0) v) : v = 0 := by
  have hE := h.2.2.1 _ (List.getElem_mem hi)
  have hl : (T.take i).length = i := by rw [List.length_take]; omega
  have h40 := h.1
  have hc := conts_take hi
  have h6 := h.2.2.2.1
  have free : ∀ e ∈ T.take i, e.path ≠ T[i].path := by
    intro e he q
    obtain ⟨j, hj, hji, ej⟩ := take_mem he
    have := List.pairwise_iff_getElem.mp h.2.1 j i hj hi hji
    rw [ej, q, (cmpB_zero _ _).mpr rfl] at this
    omega
  rcases hI with z | z | z | z
  · exact absurd ⟨hE.2.2.1, parent_take h hi⟩ z.2
  · obtain ⟨e, e1, e2⟩ := z.2.2
    exact absurd e2 (free e e1)
  · omega
  · exact z.1
section ARD2
variable {M : zM} {a t : Nat} {rs : List UInt8} {T : Tre}
theorem TrI.draft {M M' : zM} {t : Nat} {T : Tre} (hT : isT t) (h : TrI M t T) (ho : Only [M.2.2 (t + 1) T.length, M.2.2 (t + 1) T.length + 1, M.2.2 (t + 1) T.length + 2] M M') : TrI M' t T := by
  have hl := h.2.2.2.1
  have er : M'.2.2 = M.2.2 := by rw [ho.2]
  have ed := ent_at hT h.1 (show T.length < 41 by omega)
  obtain ⟨bd, b1, b2, b3⟩ := h.2.2.2.2.2
  have dn : ∀ j, j < T.length → M.2.2 (t + 1) j ≠ M.2.2 (t + 1) T.length := fun j hj q => by
    have := h.1.2 j T.length (by omega) (by omega) q
    omega
  obtain ⟨c', hc', ec'⟩ := h.1.1 T.length (by omega)
  generalize hdd : M.2.2 (t + 1) T.length = d at *
  refine ⟨h.1.same (by rw [er]), by rw [ho.1 t (by simp; omega)]; exact h.2.1, by rw [ho.1 t (by simp; omega)]; exact h.2.2.1, hl, h.2.2.2.2.1, bd, b1.only ho (by simp; omega) (by simp; omega), b2, fun j hj => ?_⟩
  rw [er]
  obtain ⟨c, hc, ec⟩ := h.1.1 j (by omega)
  have hne := dn j hj
  have hb := b3 j hj
  rw [ec] at hne hb ⊢
  exact hb.same (ho.1 _ (by simp; omega)) (ho.1 _ (by simp; omega)) (ho.1 _ (by simp; omega))
theorem s_readEntry {at_ : Nat} {post : Int32 → zM → Prop} (hT : isT t) (h : TrI M t T) (hV : TOk T) (ha : Rw M a rs) (hrs : rs.length ≤ 16000) (hat : at_ ≤ 16000) (hd : a + 1 < t ∨ t + 127 ≤ a)
    (kk : ∀ (M' : zM) (v : Int) (T' : Tre), FrT t M M' → TrI M' t T' → TOk T' → (v = -1 ∨ (0 ≤ v ∧ v ≤ rs.length)) → (∀ (T0 : Tre) (i : Nat) (hi : i < T0.length) (Z : List UInt8), TOk T0 → smallT T0 → NFT T0 → T = T0.take i → rs.drop at_ = entA T0 T0[i] ++ Z → v = at_ + (entA T0 T0[i]).length ∧ T' = T0.take (i + 1)) → post (ii v) M') : Wp_Ar_readEntry a (ii at_) t M post := by
  have hl := h.2.2.2.1
  have f := hT.facts
  have six : (6 : Int32) = ii ((6 : Nat) : Int) := rfl
  have elv : (11 : Int32) = ii ((11 : Nat) : Int) := rfl
  have p6 : (8 : Nat) ^ 6 = 262144 := rfl
  have p11 : (8 : Nat) ^ 11 = 8589934592 := rfl
  have off : ∀ n : Nat, n ≤ 100 → ii (at_ : Int) + ii (n : Int) = ii ((at_ + n : Nat) : Int) := fun n _ => by rw [ii_add]; rfl
  -- what the row has, if it is right
  have right : ∀ (T0 : Tre) (i : Nat) (hi : i < T0.length) (Z : List UInt8), TOk T0 → smallT T0 → rs.drop at_ = entA T0 T0[i] ++ Z → EOk T0[i] ∧ T0[i].body.length ≤ 6000 ∧ rs.drop at_ = hdr (fstL T0[i].fam T0 + 1) (kd4 T0[i].kind * 2 ^ 12 + T0[i].mode) T0[i].own T0[i].grp (cntL T0[i].fam T0) T0[i].tim T0[i].path.length T0[i].body.length ++ (T0[i].path ++ ([0] ++ (T0[i].body ++ Z))) ∧ at_ + 77 + T0[i].path.length + T0[i].body.length ≤ rs.length ∧ cut rs (at_ + 76) (at_ + 76 + T0[i].path.length) = T0[i].path ∧ cut rs (at_ + 77 + T0[i].path.length) (at_ + 77 + T0[i].path.length + T0[i].body.length) = T0[i].body := by
    intro T0 i hi Z hV0 hs he
    have hE := hV0.2.2.1 _ (List.getElem_mem hi)
    have he2 : rs.drop at_ = hdr (fstL T0[i].fam T0 + 1) (kd4 T0[i].kind * 2 ^ 12 + T0[i].mode) T0[i].own T0[i].grp (cntL T0[i].fam T0) T0[i].tim T0[i].path.length T0[i].body.length ++ (T0[i].path ++ ([0] ++ (T0[i].body ++ Z))) := by
      rw [he]
      unfold entA
      simp only [List.append_assoc]
    have hbl : T0[i].body.length ≤ 6000 := by
      by_cases c1 : T0[i].kind = 1
      · have := conts_mem T0 _ (List.getElem_mem hi) c1
        have := hV0.2.2.2.1
        omega
      · by_cases c0 : T0[i].kind = 0
        · rw [hE.2.2.2.2.2.2.2.2.1 c0]; simp
        · have := hE.2.2.2.1
          have := (hE.2.2.2.2.2.2.2.2.2 (by omega)).2.1
          omega
    have hlen : at_ + 77 + T0[i].path.length + T0[i].body.length ≤ rs.length := by
      have := congrArg List.length he
      rw [List.length_drop, List.length_append, entA_len] at this
      omega
    have cutd : ∀ s n, cut rs (at_ + s) (at_ + s + n) = ((rs.drop at_).drop s).take n := by
      intro s n
      unfold cut
      rw [List.drop_drop, List.take_drop]
    refine ⟨hE, hbl, he2, hlen, ?_, ?_⟩
    · rw [cutd]
      exact seg he2 (hdr_len _ _ _ _ _ _ _ _) rfl
    · have e3 := cutd (77 + T0[i].path.length) T0[i].body.length
      rw [← Nat.add_assoc] at e3
      rw [e3]
      refine seg (A := hdr (fstL T0[i].fam T0 + 1) (kd4 T0[i].kind * 2 ^ 12 + T0[i].mode) T0[i].own T0[i].grp (cntL T0[i].fam T0) T0[i].tim T0[i].path.length T0[i].body.length ++ (T0[i].path ++ [0])) (C := Z) ?_ ?_ rfl
      · rw [he2]
        simp only [List.append_assoc]
      · simp only [List.length_append, hdr_len, List.length_cons, List.length_nil]
        omega
  have knone : ∀ M', FrT t M M' → TrI M' t T → (∀ (T0 : Tre) (i : Nat) (hi : i < T0.length) (Z : List UInt8), TOk T0 → smallT T0 → NFT T0 → T = T0.take i → rs.drop at_ = entA T0 T0[i] ++ Z → False) → post (-1) M' := by
    intro M' F I hno
    have := kk M' (-1) T F I hV (Or.inl rfl) (fun T0 i hi Z a1 a2 a3 a4 a5 => (hno T0 i hi Z a1 a2 a3 a4 a5).elim)
    rw [show ii (-1) = (-1 : Int32) from rfl] at this
    exact this
  unfold Wp_Ar_readEntry
  rintro x rfl
  rw [six, elv, show (76 : Int32) = ii ((76 : Nat) : Int) from rfl, show (59 : Int32) = ii ((59 : Nat) : Int) from rfl, show (65 : Int32) = ii ((65 : Nat) : Int) from rfl, show (12 : Int32) = ii ((12 : Nat) : Int) from rfl, off 76 (by omega), off 59 (by omega), off 65 (by omega), off 12 (by omega)]
  refine s_Ar_octal ha (by omega) (by omega) (fun zp zp1 zp2 gp => ?_)
  rintro x rfl y rfl
  refine s_Ar_octal ha (by omega) (by omega) (fun zb zb1 zb2 gb => ?_)
  -- the sizes, if the row is right
  have sizes : ∀ (T0 : Tre) (i : Nat) (hi : i < T0.length) (Z : List UInt8), TOk T0 → smallT T0 → rs.drop at_ = entA T0 T0[i] ++ Z → zp = T0[i].path.length + 1 ∧ zb = T0[i].body.length := by
    intro T0 i hi Z a1 a2 a3
    obtain ⟨r1, r2, r3, r4, r5, r6⟩ := right T0 i hi Z a1 a2 a3
    obtain ⟨f1, f2, f3, f4, f5, f6, f7⟩ := hdr_at r3
    have h60 := r1.2.1
    have e1 := gp (T0[i].path.length + 1) (by omega) (by omega) f6
    have e2 := gb T0[i].body.length (by omega) (by omega) f7
    omega
  rw [show (1 : Int32) = ii 1 from rfl, ii_sub, show (60 : Int32) = ii 60 from rfl, ii_lt (by omega) (by omega) (by omega) (by omega), ii_lt (by omega) (by omega) (by omega) (by omega), ii_nneg (by omega) (by omega), ha.1]
  refine ⟨fun z => knone M FrT.rf h (fun T0 i hi Z a1 a2 _ _ a3 => ?_), fun z1 => ⟨fun z => knone M FrT.rf h (fun T0 i hi Z a1 a2 _ _ a3 => ?_), fun z2 => ⟨fun z => knone M FrT.rf h (fun T0 i hi Z a1 a2 _ _ a3 => ?_), fun z3 => ?_⟩⟩⟩
  · have := sizes T0 i hi Z a1 a2 a3
    have := (right T0 i hi Z a1 a2 a3).1.1
    omega
  · have := sizes T0 i hi Z a1 a2 a3
    have := (right T0 i hi Z a1 a2 a3).1.2.1
    omega
  · have := sizes T0 i hi Z a1 a2 a3
    omega
  obtain ⟨ps, hps⟩ := Int.eq_ofNat_of_zero_le (show 0 ≤ zp - 1 by omega)
  obtain ⟨bs, hbs⟩ := Int.eq_ofNat_of_zero_le (show 0 ≤ zb by omega)
  rw [hps, hbs, ii_add, ii_add, ii_sub, ii_le (by omega) (by omega) (by omega) (by omega)]
  refine ⟨fun z4 => ?_, fun z4 => knone M FrT.rf h (fun T0 i hi Z a1 a2 _ _ a3 => ?_)⟩
  rotate_left
  · have := sizes T0 i hi Z a1 a2 a3
    have := (right T0 i hi Z a1 a2 a3).2.2.2.1
    omega
  have hbe : at_ + 77 + ps + bs ≤ rs.length := by omega
  rintro x rfl
  rw [ii_add, show (((at_ + 76 : Nat) : Int) + (ps : Int) + 1) = ((at_ + 77 + ps : Nat) : Int) by omega, show (((at_ + 77 + ps : Nat) : Int) + (bs : Int)) = ((at_ + 77 + ps + bs : Nat) : Int) by omega, show (((at_ + 76 : Nat) : Int) + (ps : Int)) = ((at_ + 76 + ps : Nat) : Int) by omega]
  have ed := ent_at hT h.1 (show T.length < 41 by omega)
  refine s_Tr_draft hT h ⟨ed.1, ed.2.1, ?_⟩
  have hdraft : ∀ {M'}, Only [M.2.2 (t + 1) T.length, M.2.2 (t + 1) T.length + 1, M.2.2 (t + 1) T.length + 2] M M' → TrI M' t T := fun o => h.draft hT o
  generalize hdd : M.2.2 (t + 1) T.length = d at *
  refine s_copy (by omega) (by omega) ha (by omega) (by omega) (by omega) (fun M1 o1 R1 => ?_)
  have ha1 : Rw M1 a rs := ha.only o1 (by simp; omega) (by simp; omega)
  refine s_readFields ha1 (by omega) (by omega) (by omega) (fun M2 kd m o g tm o2 e1 e2 e3 e4 e5 r1 r2 r3 r4 r5 gf => ?_)
  have o12 : Only [d, d + 1, d + 2] M M2 := (o1.mono (by simp)).trans (o2.mono (by simp))
  have I2 := hdraft o12
  have er : M2.2.2 = M.2.2 := by rw [o12.2]
  have F2 : FrT t M M2 := o12.frT (fun x hx => by have : x = d ∨ x = d + 1 ∨ x = d + 2 := (by simpa using hx); omega)
  have ha2 : Rw M2 a rs := ha.frT F2 (by omega) (by omega)
  have R2 : Rw M2 (d + 1) (cut rs (at_ + 76) (at_ + 76 + ps)) := R1.only o2 (by simp) (by simp <;> omega)
  refine s_Ar_octal ha2 (by omega) (by omega) (fun zn zn1 zn2 gn => ?_)
  rw [I2.2.1, ii_add, ii_eq (by omega) (by omega) (by omega) (by omega), ii_sub]
  -- what is right of the fields
  have fields : ∀ (T0 : Tre) (i : Nat) (hi : i < T0.length) (Z : List UInt8), TOk T0 → smallT T0 → rs.drop at_ = entA T0 T0[i] ++ Z → ps = T0[i].path.length ∧ bs = T0[i].body.length ∧ cut rs (at_ + 76) (at_ + 76 + ps) = T0[i].path ∧ cut rs (at_ + 77 + ps) (at_ + 77 + ps + bs) = T0[i].body ∧ kd = T0[i].kind ∧ m = T0[i].mode ∧ o = T0[i].own ∧ g = T0[i].grp ∧ tm = T0[i].tim ∧ zn = fstL T0[i].fam T0 + 1 ∧ EOk T0[i] := by
    intro T0 i hi Z a1 a2 a3
    obtain ⟨s1, s2⟩ := sizes T0 i hi Z a1 a2 a3
    obtain ⟨q1, q2, q3, q4, q5, q6⟩ := right T0 i hi Z a1 a2 a3
    have hps' : ps = T0[i].path.length := by omega
    have hbs' : bs = T0[i].body.length := by omega
    have hsm := a2 _ (List.getElem_mem hi)
    obtain ⟨g1, g2, g3, g4, g5⟩ := gf _ _ _ _ _ _ _ _ _ _ q1.2.2.2.1 q1.2.2.2.2.1 hsm.1 hsm.2 q1.2.2.2.2.2.2.2.1 q3
    obtain ⟨f1, -⟩ := hdr_at q3
    have hfi := fstL_le T0[i].fam T0 i hi rfl
    have h40 := a1.1
    have e9 := gn (fstL T0[i].fam T0 + 1) (by omega) (by omega) f1
    refine ⟨hps', hbs', by rw [hps']; exact q5, by rw [hps', hbs']; exact q6, g1, g2, g3, g4, g5, by omega, q1⟩
  have succ : ∀ (v : Nat) (T' : Tre) (M' : zM), FrT t M2 M' → TrI M' t T' → TOk T' → v ≤ 4 → (v ≠ 0 → T' = T) → (∀ (T0 : Tre) (i : Nat) (hi : i < T0.length) (Z : List UInt8), TOk T0 → smallT T0 → NFT T0 → T = T0.take i → rs.drop at_ = entA T0 T0[i] ++ Z → v = 0 ∧ T' = T0.take (i + 1)) → ((¬ ii (v : Int) = 0 → post (ii (-1)) M') ∧ (ii (v : Int) = 0 → post (ii ((at_ + 77 + ps + bs : Nat) : Int)) M')) := by
    intro v T' M' F I V hv4 hvT hg
    rw [show (0 : Int32) = ii 0 from rfl, ii_eq (by omega) (by omega) (by omega) (by omega)]
    refine ⟨fun z => kk M' (-1) T' (F2.trans F) I V (Or.inl rfl) (fun T0 i hi Z a1 a2 a3 a4 a5 => ?_), fun z => kk M' _ T' (F2.trans F) I V (Or.inr ⟨by omega, by omega⟩) (fun T0 i hi Z a1 a2 a3 a4 a5 => ⟨?_, (hg T0 i hi Z a1 a2 a3 a4 a5).2⟩)⟩
    · have := (hg T0 i hi Z a1 a2 a3 a4 a5).1
      omega
    · obtain ⟨q1, q2, -⟩ := fields T0 i hi Z a1 a2 a5
      rw [entA_len]
      omega
  rw [show (-ii 1 : Int32) = ii (-1) from rfl]
  refine ⟨fun zne => ?_, fun zeq => ?_⟩
  · refine s_enterLink (p := cut rs (at_ + 76) (at_ + 76 + ps)) (i := zn - 1) hT I2 hV (by rw [er, hdd]; exact R2) (by omega) (by omega) (fun M3 v T' hA F3 I3 hV' => ?_)
    refine succ v T' M3 F3 I3 hV' hA.le (fun hv => ?_) (fun T0 i hi Z a1 a2 a3 a4 a5 => ?_)
    · rcases hA with hA | ⟨_, _, _, _, _, hA⟩ | ⟨_, _, _, _, _, hA, _⟩
      · exact hA.2.2
      · exact hA
      · exact hA hv
    · obtain ⟨q1, q2, q3, q4, q5, q6, q7, q8, q9, q10, q11⟩ := fields T0 i hi Z a1 a2 a5
      have hfi := fstL_le T0[i].fam T0 i hi rfl
      obtain ⟨hf1, hf2⟩ := fstL_at T0[i].fam T0 (by omega)
      have hTl : T.length = i := by rw [a4, List.length_take]; omega
      have hlt : fstL T0[i].fam T0 < i := by
        rcases Nat.lt_or_ge (fstL T0[i].fam T0) i with c | c
        · exact c
        · exfalso
          apply zne
          omega
      have hlk := List.pairwise_iff_getElem.mp a1.2.2.2.2.2.2 _ i hf1 hi hlt hf2
      rcases hA with hA | ⟨n', hn', x1, x2, x3, x4⟩ | ⟨n', hn', x1, x2, x3, x4, x5⟩
      · exact absurd ⟨by omega, by omega⟩ hA.2.1
      · exfalso
        have hn2 : n' = fstL T0[i].fam T0 := by omega
        subst hn2
        apply x2
        have e9 : T[fstL T0[i].fam T0] = T0[fstL T0[i].fam T0] := by
          simp only [a4]
          exact List.getElem_take
        rw [e9]
        exact hlk.1
      · have hn2 : n' = fstL T0[i].fam T0 := by omega
        subst hn2
        have e9 : T[fstL T0[i].fam T0] = T0[fstL T0[i].fam T0] := by
          simp only [a4]
          exact List.getElem_take
        rw [e9] at x2 x3 x5
        rw [q3] at x3 x5
        have hki : T0[i].kind = 1 := (hlk.symm).1
        rw [a4, hlk.2.2] at x3
        have hv0 : v = 0 := InsR.ok a1 hi (by rw [if_pos hki]; exact x3)
        refine ⟨hv0, ?_⟩
        rw [x5 hv0, a4]
        refine ins_end a1.2.1 hi ?_
        unfold lnkEn
        rw [hlk.2.1, hlk.2.2, hf2]
        rfl
  · refine s_Tr_enter (p := cut rs (at_ + 76) (at_ + 76 + ps)) (cs := rs) hT I2 hV (by rw [er, hdd]; exact R2) (by rw [er, hdd]; exact e1) (by rw [er, hdd]; exact e2) (by rw [er, hdd]; exact e3) (by rw [er, hdd]; exact e4) (by rw [er, hdd]; exact e5) r1 r2 r3 r4 r5 ha2 (by omega) (by omega) (by omega) (fun M3 v T' hA F3 I3 hV' => ?_)
    refine succ v T' M3 F3 I3 hV' hA.le hA.nz (fun T0 i hi Z a1 a2 a3 a4 a5 => ?_)
    obtain ⟨q1, q2, q3, q4, q5, q6, q7, q8, q9, q10, q11⟩ := fields T0 i hi Z a1 a2 a5
    have hTl : T.length = i := by rw [a4, List.length_take]; omega
    have hfi : fstL T0[i].fam T0 = i := by omega
    have hfld : fldOk kd m o g tm := by
      have := q11.2.2.2.1
      have := q11.2.2.2.2.1
      unfold fldOk
      omega
    have hkt : kd.toNat = T0[i].kind := by omega
    have hbo : bodyOk kd.toNat (cut rs (at_ + 77 + ps) (at_ + 77 + ps + bs)) := by
      rw [hkt, q4]
      exact ⟨q11.2.2.2.2.2.2.2.2.1, q11.2.2.2.2.2.2.2.2.2⟩
    rcases hA with hA | ⟨hA1, hA2, hA3, hA4⟩
    · exact absurd ⟨hfld, hbo⟩ hA.2.1
    · rw [q3, q4, hkt, a4] at hA2
      have hv0 := InsR.ok a1 hi hA2
      refine ⟨hv0, ?_⟩
      rw [hA4 hv0, a4]
      refine ins_end a1.2.1 hi ?_
      unfold newEn
      rw [q3, q4]
      have hnf := a3 i hi
      rw [hfi] at hnf
      have e5 : kd.toNat = T0[i].2.1.1 := hkt
      have e6 : m.toNat = T0[i].2.1.2.1 := by rw [q6]; rfl
      have e7 : o.toNat = T0[i].2.1.2.2.1 := by rw [q7]; rfl
      have e8 : g.toNat = T0[i].2.1.2.2.2.1 := by rw [q8]; rfl
      have e9 : tm.toNat = T0[i].2.1.2.2.2.2 := by rw [q9]; rfl
      have e10 : (T0.take i).length = T0[i].2.2.2 := by rw [List.length_take]; show min i T0.length = T0[i].fam; omega
      rw [e5, e6, e7, e8, e9, e10]
      rfl
theorem s_Ar_read {post : Int32 → zM → Prop} (hT : isT t) (h : TrI M t T) (ha : Rw M a rs) (hrs : rs.length ≤ 16000) (hd : a + 1 < t ∨ t + 127 ≤ a)
    (kk : ∀ (M' : zM) (v : Int32) (T' : Tre), FrT t M M' → TrI M' t T' → TOk T' → (v = 0 ∨ (v = 1 ∧ rs ≠ [])) → (∀ T0, TOk T0 → smallT T0 → NFT T0 → rs = arc T0 → v = 1 ∧ T' = T0) → post v M') : Wp_Ar_read a t M post := by
  obtain ⟨t6, t7, t8⟩ := txl2
  unfold Wp_Ar_read
  intro K hK
  refine s_Tr_wipe h (fun M1 F1 I1 => ?_)
  suffices H : ∀ (m i : Nat) (at_ : Int) (M2 : zM) (T2 : Tre), i + m = 41 → FrT t M M2 → TrI M2 t T2 → TOk T2 → (at_ = -1 ∨ (0 ≤ at_ ∧ at_ ≤ rs.length)) → (∀ T0, TOk T0 → smallT T0 → NFT T0 → rs = arc T0 → i ≤ T0.length ∧ 0 ≤ at_ ∧ T2 = T0.take i ∧ rs.drop at_.toNat = arcL T0 (T0.drop i) ++ (txt 6 ++ [0])) → K (ii at_) (ii i) M2 from
    H 41 0 0 M1 [] rfl F1 I1 TOk.nil (Or.inr ⟨by omega, by omega⟩) (fun T0 _ _ _ he => ⟨by omega, by omega, rfl, by
      rw [he]
      unfold arc
      simp only [List.append_assoc]
      rfl⟩)
  intro m
  induction m with
  | zero =>
    intro i at_ M2 T2 hi F2 I2 V2 hat hg
    refine hK _ _ _ ⟨fun _ => kk M2 0 T2 F2 I2 V2 (Or.inl rfl) (fun T0 a1 a2 a3 a4 => ?_), fun z => absurd (by rw [show (40 : Int32) = ii 40 from rfl, ii_lt (by omega) (by omega) (by omega) (by omega)]; omega) z⟩
    have := (hg T0 a1 a2 a3 a4).1
    have := a1.1
    omega
  | succ m ih =>
    intro i at_ M2 T2 hi F2 I2 V2 hat hg
    have ha2 : Rw M2 a rs := ha.frT F2 (by omega) (by omega)
    refine hK _ _ _ ⟨fun z => ?_, fun _ => ?_⟩
    · rw [show (40 : Int32) = ii 40 from rfl, ii_lt (by omega) (by omega) (by omega) (by omega)] at z
      omega
    · rw [show (-1 : Int32) = ii (-1) from rfl, ii_eq (by omega) (by omega) (by omega) (by omega)]
      refine ⟨fun z => kk M2 0 T2 F2 I2 V2 (Or.inl rfl) (fun T0 a1 a2 a3 a4 => ?_), fun z => ?_⟩
      · have := (hg T0 a1 a2 a3 a4).2.1
        omega
      · obtain ⟨p, rfl⟩ := Int.eq_ofNat_of_zero_le (show 0 ≤ at_ by omega)
        rw [Int.toNat_natCast] at hg
        refine s_hasText (by decide) ha2 (by omega) (by omega) ?_
        rw [Int.toNat_natCast]
        -- the end, if the row is right
        have last : ∀ T0, TOk T0 → smallT T0 → NFT T0 → rs = arc T0 → ((rs.drop p).take (txt 6).length = txt 6 ↔ i = T0.length) := by
          intro T0 a1 a2 a3 a4
          obtain ⟨g1, g2, g3, g4⟩ := hg T0 a1 a2 a3 a4
          constructor
          · intro q
            rcases Nat.lt_or_ge i T0.length with c | c
            · exfalso
              rw [g4, List.drop_eq_getElem_cons c] at q
              have e1 : arcL T0 (T0[i] :: T0.drop (i + 1)) = entA T0 T0[i] ++ arcL T0 (T0.drop (i + 1)) := rfl
              rw [e1] at q
              have e2 : (rs.drop p) = hdr (fstL T0[i].fam T0 + 1) (kd4 T0[i].kind * 2 ^ 12 + T0[i].mode) T0[i].own T0[i].grp (cntL T0[i].fam T0) T0[i].tim T0[i].path.length T0[i].body.length ++ (T0[i].path ++ ([0] ++ (T0[i].body ++ (arcL T0 (T0.drop (i + 1)) ++ (txt 6 ++ [0]))))) := by
                rw [g4, List.drop_eq_getElem_cons c, e1]
                unfold entA
                simp only [List.append_assoc]
              obtain ⟨f1, -⟩ := hdr_at e2
              have e3 : (rs.drop (p + 12)).take 6 = ((txt 6).drop 12).take 6 := by
                rw [← q]
                rw [show rs.drop (p + 12) = (rs.drop p).drop 12 by rw [List.drop_drop], ← e1, ← List.drop_eq_getElem_cons c, ← g4, t6, List.drop_take, List.take_take]
                rfl
              rw [f1] at e3
              have hfi := fstL_le T0[i].fam T0 i c rfl
              have h40 := a1.1
              have key : ∀ n : Fin 42, oct (n.val + 1) 6 ≠ ((txt 6).drop 12).take 6 := by decide +kernel
              exact key ⟨fstL T0[i].fam T0, by omega⟩ e3
            · omega
          · intro q
            rw [g4, q, List.drop_eq_nil_of_le (Nat.le_refl _)]
            show ([] ++ (txt 6 ++ [0])).take (txt 6).length = txt 6
            rw [List.nil_append, List.take_left]
        by_cases c : (rs.drop p).take (txt 6).length = txt 6
        · rw [if_pos c]
          refine ⟨fun y => absurd y (by decide), fun _ => kk M2 1 T2 F2 I2 V2 (Or.inr ⟨rfl, fun q => ?_⟩) (fun T0 a1 a2 a3 a4 => ⟨rfl, ?_⟩)⟩
          · rw [q] at c
            have := congrArg List.length c
            simp only [List.drop_nil, List.take_nil, List.length_nil, t6] at this
            omega
          · obtain ⟨g1, g2, g3, g4⟩ := hg T0 a1 a2 a3 a4
            rw [g3, (last T0 a1 a2 a3 a4).mp c, List.take_length]
        · rw [if_neg c]
          refine ⟨fun _ => ?_, fun y => absurd rfl y⟩
          refine s_readEntry hT I2 V2 ha2 hrs (by omega) hd (fun M3 v T3 F3 I3 V3 hv hgd => ?_)
          rintro x rfl
          rw [show (1 : Int32) = ii 1 from rfl, ii_add]
          refine ih (i + 1) v M3 T3 (by omega) (F2.trans F3) I3 V3 hv (fun T0 a1 a2 a3 a4 => ?_)
          obtain ⟨g1, g2, g3, g4⟩ := hg T0 a1 a2 a3 a4
          have hlt : i < T0.length := by
            have := mt (last T0 a1 a2 a3 a4).mpr c
            omega
          rw [List.drop_eq_getElem_cons hlt] at g4
          have e1 : rs.drop p = entA T0 T0[i] ++ (arcL T0 (T0.drop (i + 1)) ++ (txt 6 ++ [0])) := by
            rw [g4]
            show (entA T0 T0[i] ++ arcL T0 (T0.drop (i + 1))) ++ _ = _
            rw [List.append_assoc]
          obtain ⟨w1, w2⟩ := hgd T0 i hlt _ a1 a2 a3 g3 e1
          refine ⟨by omega, by omega, w2, ?_⟩
          rw [w1, show ((p : Int) + ((entA T0 T0[i]).length : Int)).toNat = p + (entA T0 T0[i]).length by omega, ← List.drop_drop, e1, List.drop_left]
end ARD2
