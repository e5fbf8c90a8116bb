/-! The reference's trees: comparing, finding, counting. -/
section RT2
variable {M : zM} {u : Nat} {T : Tre} {p : List UInt8}
theorem s_compare {e n : Nat} {q : List UInt8} {post : Int32 → zM → Prop} (he : e < 123) (h : Cw M 24 (413 + 21) p) (h1 : M.1 (413 + 10) e = ii q.length) (h2 : q.length ≤ 60) (h3 : ∀ (k : Nat) (h : k < q.length), M.1 (413 + 9) (60 * e + k) = sb q[k]) (hn : n ≤ p.length) (k : post (ii (cmpB q (p.take n))) M) : Wp_Mo_compare 413 (ii e) (ii n) M post := by
  have l := l_ref
  have hl : p.length ≤ 60 := by have := h.2.1; omega
  unfold Wp_Mo_compare
  intro K hK
  refine ⟨ii_in (by omega) (by omega) (by omega), ?_⟩
  rintro x rfl
  rw [ii_nat (by omega) (by omega), Int.toNat_natCast, h1]
  suffices H : ∀ d i, d + i = q.length → cmpB q (p.take n) = cmpB (q.drop i) ((p.take n).drop i) → i ≤ n → K (ii q.length) (ii i) M from H q.length 0 (by simp) (by simp) (by omega)
  intro d
  induction d with
  | zero =>
    intro i hi hc hin
    refine hK _ _ _ ⟨fun _ => ?_, fun z => absurd (by rw [ii_le (by omega) (by omega) (by omega) (by omega)]; omega) z⟩
    rw [ii_sub]
    rw [hc, List.drop_eq_nil_of_le (by omega)] at k
    have e : cmpB [] ((p.take n).drop i) = (q.length : Int) - n := by
      simp only [cmpB, List.length_drop, List.length_take]
      omega
    rw [e] at k
    exact k
  | succ d ih =>
    intro i hi hc hin
    have hq : i < q.length := by omega
    have hb : q.drop i = q[i] :: q.drop (i + 1) := (List.drop_eq_getElem_cons hq)
    refine hK _ _ _ ⟨fun z => ?_, fun _ => ⟨fun z => ?_, fun z => ?_⟩⟩
    · rw [ii_le (by omega) (by omega) (by omega) (by omega)] at z
      omega
    · rw [ii_le (by omega) (by omega) (by omega) (by omega)] at z
      have e : (p.take n).drop i = [] := List.drop_eq_nil_of_le (by rw [List.length_take]; omega)
      rw [hc, e, hb] at k
      have e2 : cmpB (q[i] :: q.drop (i + 1)) [] = (q.length : Int) - n := by
        simp only [cmpB, List.length_cons, List.length_drop]
        omega
      rw [e2] at k
      rw [ii_sub]
      exact k
    · rw [ii_le (by omega) (by omega) (by omega) (by omega)] at z
      have hp : i < p.length := by omega
      rw [sixty]
      refine ⟨ii_in (by omega) (by omega) (by omega), ii_in (by omega) (by omega) (by omega), ?_⟩
      rintro x rfl
      have hcd : (p.take n).drop i = p[i] :: (p.take n).drop (i + 1) := by
        rw [List.drop_eq_getElem_cons (by rw [List.length_take]; omega)]
        simp
      rw [ii_nat (by omega) (by omega), ii_nat (by omega) (by omega), Int.toNat_natCast, Int.toNat_natCast, h3 i hq, h.2.2 i hp, show (255 : Int32) = ii 255 from rfl, sb_and, sb_and, ii_sub, show (0 : Int32) = ii 0 from rfl]
      have hx := UInt8.toNat_lt q[i]
      have hy := UInt8.toNat_lt p[i]
      rw [ii_eq (by omega) (by omega) (by omega) (by omega)]
      rw [hb, hcd, cmpB_cons] at hc
      refine ⟨fun z2 => ?_, fun z2 => ?_⟩
      · rintro x rfl
        rw [show (1 : Int32) = ii 1 from rfl, ii_add]
        rw [if_pos (UInt8.toNat_inj.mp (by omega))] at hc
        exact ih (i + 1) (by omega) hc (by omega)
      · rw [if_neg (fun c => z2 (by rw [c]; omega))] at hc
        rw [hc] at k
        exact k
theorem s_cmpE {i n : Nat} {post : Int32 → zM → Prop} (hu : u ≤ 2) (h : Cw M 24 (413 + 21) p) (hI : RtI M u T) (hi : i < T.length) (hn : n ≤ p.length) (k : post (ii (cmpB T[i].path (p.take n))) M) : Wp_Mo_compare 413 (ii ((41 * u + i : Nat) : Int)) (ii n) M post := by
  obtain ⟨a1, a2, a3, us, b1, b2, b3, b4⟩ := hI
  obtain ⟨c1, c2, c3, -⟩ := b3 i hi
  exact s_compare (by omega) h c1 c2 c3 hn k
theorem s_find {n : Nat} {post : Int32 → zM → Prop} (hu : u ≤ 2) (h : Cw M 24 (413 + 21) p) (hI : RtI M u T) (hn : n ≤ p.length) (k0 : (∀ e ∈ T, e.path ≠ p.take n) → post (-1) M) (k1 : ∀ (i : Nat) (hi : i < T.length), T[i].path = p.take n → post (ii i) M) : Wp_Mo_find 413 (ii u) (ii n) M post := by
  have l := l_ref
  have hl : p.length ≤ 60 := by have := h.2.1; omega
  have hT := hI.2.1
  unfold Wp_Mo_find
  intro K hK
  suffices H : ∀ (m i : Nat) (acc : Int32), i + m = T.length → ((acc = -1 ∧ ∀ (j : Nat) (hj : j < T.length), j < i → T[j].path ≠ p.take n) ∨ (∃ (j : Nat) (hj : j < T.length), acc = ii j ∧ T[j].path = p.take n)) → K acc (ii i) M from H _ 0 (-1) (Nat.zero_add _) (Or.inl ⟨rfl, fun j _ hj => absurd hj (by omega)⟩)
  intro m
  induction m with
  | zero =>
    intro i acc hi hacc
    refine hK _ _ _ ⟨ii_in (by omega) (by omega) (by omega), ?_⟩
    rw [ii_nat (by omega) (by omega), Int.toNat_natCast, hI.1]
    refine ⟨fun _ => ?_, fun z => absurd (by rw [ii_le (by omega) (by omega) (by omega) (by omega)]; omega) z⟩
    rcases hacc with ⟨rfl, z⟩ | ⟨j, hj, rfl, z⟩
    · refine k0 (fun e he => ?_)
      obtain ⟨j, hj, ej⟩ := List.getElem_of_mem he
      rw [← ej]
      exact z j hj (by omega)
    · exact k1 j hj z
  | succ m ih =>
    intro i acc hi hacc
    refine hK _ _ _ ⟨ii_in (by omega) (by omega) (by omega), ?_⟩
    rw [ii_nat (by omega) (by omega), Int.toNat_natCast, hI.1]
    refine ⟨fun z => ?_, fun _ => ?_⟩
    · rw [ii_le (by omega) (by omega) (by omega) (by omega)] at z
      omega
    · unfold Wp_Mo_at
      rw [ei_at]
      refine s_cmpE hu h hI (show i < T.length by omega) hn ?_
      have hc := cmpB_rng (T[i]'(by omega)).path (p.take n)
      have hpl : (T[i]'(by omega)).path.length ≤ 60 := by
        obtain ⟨a1, a2, a3, us, b1, b2, b3, b4⟩ := hI
        exact (b3 i (by omega)).2.1
      rw [List.length_take] at hc
      rw [show (0 : Int32) = ii 0 from rfl, ii_eq (by omega) (by omega) (by omega) (by omega), cmpB_zero]
      refine ⟨fun z => ?_, fun z => ?_⟩
      · rintro x rfl
        rw [show (1 : Int32) = ii 1 from rfl, ii_add]
        refine ih (i + 1) acc (by omega) ?_
        rcases hacc with ⟨w, y⟩ | y
        · refine Or.inl ⟨w, fun j hj hj2 => ?_⟩
          by_cases c : j = i
          · subst c; exact z
          · exact y j hj (by omega)
        · exact Or.inr y
      · rintro x rfl
        rw [show (1 : Int32) = ii 1 from rfl, ii_add]
        exact ih (i + 1) _ (by omega) (Or.inr ⟨i, by omega, rfl, z⟩)
theorem s_Mo_hasParent {post : Int32 → zM → Prop} (hu : u ≤ 2) (h : Cw M 24 (413 + 21) p) (hI : RtI M u T) (hV : Srt T) (hK2 : ∀ e ∈ T, e.kind ≤ 2) (k1 : parentOk T p → post 1 M) (k0 : ¬ parentOk T p → post 0 M) : Wp_Mo_hasParent 413 (ii u) M post := by
  have l := l_ref
  have hl : p.length ≤ 60 := by have := h.2.1; omega
  have hT := hI.2.1
  have hr := parS_rng p
  have sb47 : ∀ b : UInt8, (sb b = 47 ↔ b = 47) := fun b => u8_all (P := fun b => (sb b = 47 ↔ b = 47)) (by decide +kernel) b
  unfold Wp_Mo_hasParent
  intro K hK
  suffices H : ∀ (m i : Nat) (acc : Int), i + m = p.length → lsl i acc (p.drop i) = parS p → K (ii acc) (ii i) M from H _ 0 (-1) (Nat.zero_add _) rfl
  intro m
  induction m with
  | zero =>
    intro i acc hi hp
    rw [List.drop_eq_nil_of_le (by omega)] at hp
    have hp' : acc = parS p := hp
    subst hp'
    refine hK _ _ _ ⟨fun _ => ?_, fun z => absurd (by rw [h.1, ii_le (by omega) (by omega) (by omega) (by omega)]; omega) z⟩
    rw [show (0 : Int32) = ii 0 from rfl, ii_le (by omega) (by omega) (by omega) (by omega)]
    refine ⟨fun z => ?_, fun z => k1 (Or.inl (by omega))⟩
    obtain ⟨n, hn⟩ := Int.eq_ofNat_of_zero_le z
    rw [hn]
    have ne : parS p ≠ -1 := by omega
    have et : (parS p).toNat = n := by rw [hn]; rfl
    refine s_find hu h hI (show n ≤ p.length by omega) (fun z2 => ⟨fun _ => k0 ?_, fun y => absurd (by decide) y⟩) (fun j hj z2 => ⟨fun y => ?_, fun _ => ?_⟩)
    · rintro (w | ⟨e, e1, e2, -⟩)
      · exact ne w
      · rw [et] at e2
        exact z2 e e1 e2
    · rw [ii_lt (by omega) (by omega) (by omega) (by omega)] at y
      omega
    · unfold Wp_Mo_at
      rw [ei_at]
      refine ⟨ii_in (by omega) (by omega) (by omega), ?_⟩
      obtain ⟨a1, a2, a3, us, b1, b2, b3, b4⟩ := hI
      have hk := hK2 _ (List.getElem_mem hj)
      rw [ii_nat (by omega) (by omega), Int.toNat_natCast, (b3 j hj).2.2.2.1, ii_eq (by omega) (by omega) (by omega) (by omega)]
      refine ⟨fun y => k0 ?_, fun y => k1 (Or.inr ⟨_, List.getElem_mem hj, by rw [et]; exact z2, by omega⟩)⟩
      rintro (w | ⟨e, e1, e2, e3⟩)
      · exact ne w
      · rw [et] at e2
        have f1 := (srt_find (p.take n) T hV e e1 e2).2
        have f2 := (srt_find (p.take n) T hV _ (List.getElem_mem hj) z2).2
        rw [f1] at f2
        rw [← f2] at y
        omega
  | succ m ih =>
    intro i acc hi hp
    have hin : i < p.length := by omega
    rw [List.drop_eq_getElem_cons hin] at hp
    have hp' : lsl (i + 1) (if p[i] = 47 then (i : Int) else acc) (p.drop (i + 1)) = parS p := hp
    refine hK _ _ _ ⟨fun z => ?_, fun _ => ⟨ii_in (by omega) (by omega) (by omega), ?_⟩⟩
    · rw [h.1, ii_le (by omega) (by omega) (by omega) (by omega)] at z
      omega
    · rw [ii_nat (by omega) (by omega), Int.toNat_natCast, h.2.2 i hin, sb47]
      refine ⟨fun z => ?_, fun z => ?_⟩
      · rintro x rfl
        rw [show (1 : Int32) = ii 1 from rfl, ii_add]
        rw [if_neg z] at hp'
        exact ih (i + 1) acc (by omega) hp'
      · rintro x rfl
        rw [show (1 : Int32) = ii 1 from rfl, ii_add]
        rw [if_pos z] at hp'
        exact ih (i + 1) i (by omega) hp'
theorem s_bytesOf {post : Int32 → zM → Prop} (hu : u ≤ 2) (hI : RtI M u T) (hK2 : ∀ e ∈ T, e.kind ≤ 2) (k : post (ii (conts T)) M) : Wp_Mo_bytesOf 413 (ii u) M post := by
  have l := l_ref
  obtain ⟨a1, a2, a3, us, b1, b2, b3, b4⟩ := hI
  unfold Wp_Mo_bytesOf
  intro K hK
  suffices H : ∀ (m i c : Nat), i + m = T.length → c + conts (T.drop i) = conts T → K (ii c) (ii i) M from H _ 0 0 (Nat.zero_add _) (by simp)
  intro m
  induction m with
  | zero =>
    intro i c hi hc
    refine hK _ _ _ ⟨ii_in (by omega) (by omega) (by omega), ?_⟩
    rw [ii_nat (by omega) (by omega), Int.toNat_natCast, a1]
    refine ⟨fun _ => ?_, fun z => absurd (by rw [ii_le (by omega) (by omega) (by omega) (by omega)]; omega) z⟩
    rw [List.drop_eq_nil_of_le (by omega)] at hc
    have hc' : c = conts T := hc
    rw [hc']
    exact k
  | succ m ih =>
    intro i c hi hc
    have hin : i < T.length := by omega
    rw [List.drop_eq_getElem_cons hin] at hc
    have hc' : c + ((if T[i].kind = 1 then T[i].body.length else 0) + conts (T.drop (i + 1))) = conts T := hc
    have hk := hK2 _ (List.getElem_mem hin)
    refine hK _ _ _ ⟨ii_in (by omega) (by omega) (by omega), ?_⟩
    rw [ii_nat (by omega) (by omega), Int.toNat_natCast, a1]
    refine ⟨fun z => ?_, fun _ => ?_⟩
    · rw [ii_le (by omega) (by omega) (by omega) (by omega)] at z
      omega
    · unfold Wp_Mo_at
      rw [ei_at]
      refine ⟨ii_in (by omega) (by omega) (by omega), ?_⟩
      obtain ⟨-, -, -, c4, -, -, -, -, c9, -⟩ := b3 i hin
      rw [ii_nat (by omega) (by omega), Int.toNat_natCast, c4, show (1 : Int32) = ii 1 from rfl, ii_eq (by omega) (by omega) (by omega) (by omega)]
      refine ⟨fun z => ?_, fun z => ⟨ii_in (by omega) (by omega) (by omega), ?_⟩⟩
      · rintro x rfl
        rw [ii_add]
        rw [if_neg (by omega)] at hc'
        exact ih (i + 1) c (by omega) (by omega)
      · rintro x rfl y rfl
        rw [ii_nat (by omega) (by omega), Int.toNat_natCast, c9, ii_add, ii_add]
        rw [if_pos (by omega)] at hc'
        exact ih (i + 1) (c + T[i].body.length) (by omega) (by omega)
theorem s_Mo_isTarget {a b : Nat} {cs : List UInt8} {post : Int32 → zM → Prop} (hb : b + cs.length ≤ ln a) (hc : ∀ (i : Nat) (h : i < cs.length), M.1 a (b + i) = sb cs[i]) (k1 : (1 ≤ cs.length ∧ cs.length ≤ 60 ∧ (0 : UInt8) ∉ cs) → post 1 M) (k0 : ¬ (1 ≤ cs.length ∧ cs.length ≤ 60 ∧ (0 : UInt8) ∉ cs) → post 0 M) : Wp_Mo_isTarget a (ii b) (ii cs.length) M post := by
  have hl := ln_small a
  have sb0 : ∀ b : UInt8, (sb b = 0 ↔ b = 0) := fun b => u8_all (P := fun b => (sb b = 0 ↔ b = 0)) (by decide +kernel) b
  unfold Wp_Mo_isTarget
  intro K hK
  have bad : ∀ i : Int32, ¬ (1 ≤ cs.length ∧ cs.length ≤ 60 ∧ (0 : UInt8) ∉ cs) → K 0 i M := fun i q => hK _ _ _ ⟨fun _ => ⟨rfl, k0 q⟩, fun _ => ⟨fun _ => ⟨rfl, k0 q⟩, fun z => absurd rfl z⟩⟩
  rw [show (1 : Int32) = ii 1 from rfl, show (60 : Int32) = ii 60 from rfl, ii_lt (by omega) (by omega) (by omega) (by omega), ii_lt (by omega) (by omega) (by omega) (by omega)]
  refine ⟨fun q => bad _ (by omega), fun q => ⟨fun q2 => bad _ (by omega), fun q2 => ?_⟩⟩
  suffices H : ∀ (m i : Nat), i + m = cs.length → (0 : UInt8) ∉ cs.take i → K (ii 1) (ii (i : Int)) M from H cs.length 0 (by omega) (by simp)
  intro m
  induction m with
  | zero =>
    intro i hi hz
    rw [List.take_of_length_le (by omega)] at hz
    exact hK _ _ _ ⟨fun _ => ⟨rfl, k1 ⟨by omega, by omega, hz⟩⟩, fun z => absurd (by rw [ii_le (by omega) (by omega) (by omega) (by omega)]; omega) z⟩
  | succ m ih =>
    intro i hi hz
    have hin : i < cs.length := by omega
    refine hK _ _ _ ⟨fun z => ?_, fun _ => ⟨fun z => absurd z (by decide), fun _ => ?_⟩⟩
    · rw [ii_le (by omega) (by omega) (by omega) (by omega)] at z
      omega
    · rw [ii_add]
      refine ⟨ii_in (by omega) (by omega) (by omega), ?_⟩
      rw [ii_nat (by omega) (by omega), show ((b : Int) + (i : Int)).toNat = b + i by omega, hc i hin, sb0]
      refine ⟨fun z => ?_, fun z => ?_⟩
      · rintro x rfl
        exact bad _ (fun y => y.2.2 (by rw [← z]; exact List.getElem_mem hin))
      · rintro x rfl
        rw [show (1 : Int32) = ii 1 from rfl, ii_add]
        refine ih (i + 1) (by omega) ?_
        rw [← List.take_append_getElem hin, List.mem_append]
        rintro (w | w)
        · exact hz w
        · exact z (List.mem_singleton.mp w).symm
theorem s_mayBe {kd n : Nat} {tp : List UInt8} {post : Int32 → zM → Prop} (h : Cw M 7 (413 + 7) tp) (hk : kd ≤ 2) (hn : n ≤ tp.length) (k1 : bodyOk kd (tp.drop n) → post 1 M) (k0 : ¬ bodyOk kd (tp.drop n) → post 0 M) : Wp_Mo_mayBe 413 (ii kd) (ii n) M post := by
  have l7 : ln (413 + 7) = 8000 := by decide +kernel
  have hl : tp.length ≤ 8000 := by have := h.2.1; omega
  have hdl : (tp.drop n).length = tp.length - n := List.length_drop
  unfold Wp_Mo_mayBe
  rintro x rfl
  rw [h.1, ii_sub, show ((tp.length : Int) - n) = (((tp.drop n).length : Nat) : Int) by omega, show (0 : Int32) = ii 0 from rfl, show (1 : Int32) = ii 1 from rfl, ii_eq (by omega) (by omega) (by omega) (by omega), ii_eq (by omega) (by omega) (by omega) (by omega), ii_eq (by omega) (by omega) (by omega) (by omega)]
  refine ⟨fun q1 => k1 ⟨fun z => by omega, fun z => by omega⟩, fun q1 => ⟨fun q0 => ?_, fun q0 => ⟨fun z => k0 (fun y => z ?_), fun z => k1 ⟨fun _ => ?_, fun y => by omega⟩⟩⟩⟩
  · refine s_Mo_isTarget (by rw [hdl]; omega) (fun i hi => by rw [h.2.2 (n + i) (by omega), List.getElem_drop]) (fun z => ⟨fun y => absurd y (by decide), fun _ => k1 ⟨fun y => by omega, fun _ => z⟩⟩) (fun z => ⟨fun _ => k0 (fun y => z (y.2 (by omega))), fun y => absurd rfl y⟩)
  · rw [y.1 (by omega)]
    rfl
  · exact List.eq_nil_of_length_eq_zero (by omega)
/-- the first with that family is the first link -/
theorem fst_unique {i : Nat} (hF : FamOk T) (hi : i < T.length) (hk : T[i].kind ≠ 1) : fstL T[i].fam T = i := by
  have hle := fstL_le T[i].fam T i hi rfl
  obtain ⟨h1, h2⟩ := fstL_at T[i].fam T (by omega)
  rcases Nat.lt_or_ge (fstL T[i].fam T) i with c | c
  · have := List.pairwise_iff_getElem.mp hF.2 _ _ h1 hi c h2
    exact absurd (this.symm.1) hk
  · omega
theorem s_firstOf {i : Nat} {post : Int32 → zM → Prop} (hu : u ≤ 2) (hI : RtI M u T) (hK2 : ∀ e ∈ T, e.kind ≤ 2) (hF : FamOk T) (hi : i < T.length) (k : post (ii (fstL T[i].fam T : Nat)) M) : Wp_Mo_firstOf 413 (ii u) (ii i) M post := by
  have l := l_ref
  obtain ⟨a1, a2, a3, us, b1, b2, b3, b4⟩ := hI
  have hle := fstL_le T[i].fam T i hi rfl
  unfold Wp_Mo_firstOf
  intro K hK
  unfold Wp_Mo_at
  rw [ei_at]
  suffices H : ∀ (m j : Nat) (acc : Nat), j + 1 = m → j ≤ i → (acc ≤ i ∧ ∃ h : acc < T.length, T[acc].fam = T[i].fam ∧ (T[i].kind ≠ 1 → acc = i)) → (∀ (r : Nat) (hr : r < T.length), j < r → r < acc → T[r].fam ≠ T[i].fam) → K (ii ((41 * u + i : Nat) : Int)) (ii acc) (ii j) M from
    H (i + 1) i i rfl (Nat.le_refl _) ⟨Nat.le_refl _, hi, rfl, fun _ => rfl⟩ (fun r hr h1 h2 => by omega)
  intro m
  have neg : ∀ (acc : Nat), acc ≤ i → (∃ h : acc < T.length, T[acc].fam = T[i].fam ∧ (T[i].kind ≠ 1 → acc = i)) → (∀ (r : Nat) (hr : r < T.length), r < acc → T[r].fam ≠ T[i].fam) → K (ii ((41 * u + i : Nat) : Int)) (ii acc) (ii (-1)) M := by
    intro acc h1 h2 h3
    refine hK _ _ _ _ ⟨fun _ => ?_, fun z => absurd (by rw [ii_nneg (by decide) (by decide)]; decide) z⟩
    have : fstL T[i].fam T = acc := by
      obtain ⟨h4, h5, -⟩ := h2
      have := fstL_le T[i].fam T acc h4 h5
      rcases Nat.lt_or_ge (fstL T[i].fam T) acc with c | c
      · obtain ⟨h6, h7⟩ := fstL_at T[i].fam T (by omega)
        exact absurd h7 (h3 _ h6 c)
      · omega
    rw [← this]
    exact k
  induction m with
  | zero =>
    intro j acc hj
    omega
  | succ m ih =>
    intro j acc hj hji hacc hno
    have hjl : j < T.length := by omega
    have next : ∀ acc', (acc' ≤ i ∧ ∃ h : acc' < T.length, T[acc'].fam = T[i].fam ∧ (T[i].kind ≠ 1 → acc' = i)) → (∀ (r : Nat) (hr : r < T.length), j ≤ r → r < acc' → T[r].fam ≠ T[i].fam) → ∀ x : Int32, x = ii (j : Int) + -1 → K (ii ((41 * u + i : Nat) : Int)) (ii (acc' : Int)) x M := by
      rintro acc' h1 h2 x rfl
      rw [show (-1 : Int32) = ii (-1) from rfl, ii_add]
      cases j with
      | zero =>
        exact neg acc' h1.1 h1.2 (fun r hr h3 => h2 r hr (by omega) h3)
      | succ j' =>
        rw [show (((j' + 1 : Nat) : Int) + -1) = (j' : Int) by omega]
        exact ih j' acc' (by omega) (by omega) h1 (fun r hr h3 h4 => h2 r hr (by omega) h4)
    refine hK _ _ _ _ ⟨fun z => ?_, fun _ => ?_⟩
    · rw [ii_nneg (by omega) (by omega)] at z
      omega
    · unfold Wp_Mo_at
      rw [ei_at]
      refine ⟨ii_in (by omega) (by omega) (by omega), ?_⟩
      have ki := hK2 _ (List.getElem_mem hi)
      have kj := hK2 _ (List.getElem_mem hjl)
      rw [ii_nat (by omega) (by omega), Int.toNat_natCast, ii_nat (by omega) (by omega), Int.toNat_natCast, (b3 i hi).2.2.2.1, (b3 j hjl).2.2.2.1, show (1 : Int32) = ii 1 from rfl, ii_eq (by omega) (by omega) (by omega) (by omega), ii_eq (by omega) (by omega) (by omega) (by omega)]
      have only_i : T[i].kind ≠ 1 → ∀ (r : Nat) (hr : r < T.length), r < i → T[r].fam ≠ T[i].fam := by
        intro hne r hr hri he
        have := fst_unique hF hi hne
        have := fstL_le T[i].fam T r hr he
        omega
      refine ⟨fun z => next acc hacc (fun r hr h1 h2 => only_i (by omega) r hr (by omega)), fun z => ⟨ii_in (by omega) (by omega) (by omega), fun z2 => next acc hacc (fun r hr h1 h2 => ?_), fun z2 => ⟨ii_in (by omega) (by omega) (by omega), ii_in (by omega) (by omega) (by omega), ?_⟩⟩⟩
      · by_cases c : r = j
        · subst c
          intro he
          have := fst_unique hF hjl (by omega)
          have h9 := fstL_le T[r].fam T r hjl rfl
          by_cases c2 : r = i
          · subst c2; omega
          · have := List.pairwise_iff_getElem.mp hF.2 _ _ hjl hi (by omega) he
            exact absurd this.1 (by omega)
        · exact hno r hr (by omega) h2
      · rw [b4 j i hjl hi (by omega) (by omega)]
        refine ⟨fun z3 => next acc hacc (fun r hr h1 h2 => ?_), fun z3 => next j ⟨hji, hjl, z3, fun y => absurd (by omega) y⟩ (fun r hr h1 h2 => by omega)⟩
        by_cases c : r = j
        · subst c
          exact z3
        · exact hno r hr (by omega) h2
theorem s_Mo_linksOf {i : Nat} {post : Int32 → zM → Prop} (hu : u ≤ 2) (hI : RtI M u T) (hK2 : ∀ e ∈ T, e.kind ≤ 2) (hF : FamOk T) (hi : i < T.length) (k : post (ii (cntL T[i].fam T : Nat)) M) : Wp_Mo_linksOf 413 (ii u) (ii i) M post := by
  have l := l_ref
  have a1 := hI.1
  have a2 := hI.2.1
  unfold Wp_Mo_linksOf
  intro K hK
  refine s_firstOf hu hI hK2 hF hi ?_
  have hfi := fstL_le T[i].fam T i hi rfl
  suffices H : ∀ (m j c : Nat), j + m = T.length → c + cntL T[i].fam (T.drop j) = cntL T[i].fam T → K (ii (fstL T[i].fam T : Nat)) (ii c) (ii j) M from H _ 0 0 (Nat.zero_add _) (by simp)
  have hcl := cntL_le T[i].fam T
  intro m
  induction m with
  | zero =>
    intro j c hj hc
    refine hK _ _ _ _ ⟨ii_in (by omega) (by omega) (by omega), ?_⟩
    rw [ii_nat (by omega) (by omega), Int.toNat_natCast, a1]
    refine ⟨fun _ => ?_, fun z => absurd (by rw [ii_le (by omega) (by omega) (by omega) (by omega)]; omega) z⟩
    rw [List.drop_eq_nil_of_le (by omega)] at hc
    have hc' : c = cntL T[i].fam T := hc
    rw [← hc'] at k
    exact k
  | succ m ih =>
    intro j c hj hc
    have hjl : j < T.length := by omega
    rw [List.drop_eq_getElem_cons hjl] at hc
    have hc' : c + ((if T[j].fam = T[i].fam then 1 else 0) + cntL T[i].fam (T.drop (j + 1))) = cntL T[i].fam T := hc
    refine hK _ _ _ _ ⟨ii_in (by omega) (by omega) (by omega), ?_⟩
    rw [ii_nat (by omega) (by omega), Int.toNat_natCast, a1]
    refine ⟨fun z => ?_, fun _ => ?_⟩
    · rw [ii_le (by omega) (by omega) (by omega) (by omega)] at z
      omega
    · refine s_firstOf hu hI hK2 hF hjl ?_
      have hfj := fstL_le T[j].fam T j hjl rfl
      have iff : fstL T[j].fam T = fstL T[i].fam T ↔ T[j].fam = T[i].fam := by
        constructor
        · intro e
          obtain ⟨h1, h2⟩ := fstL_at T[j].fam T (by omega)
          obtain ⟨h3, h4⟩ := fstL_at T[i].fam T (by omega)
          rw [← h2, ← h4]
          congr 2
        · intro e
          rw [e]
      rw [ii_eq (by omega) (by omega) (by omega) (by omega)]
      refine ⟨fun z => ?_, fun z => ?_⟩
      · rintro x rfl
        rw [show (1 : Int32) = ii 1 from rfl, ii_add]
        rw [if_neg (fun y => z (by rw [iff.mpr y]))] at hc'
        exact ih (j + 1) c (by omega) (by omega)
      · rintro x rfl y rfl
        rw [show (1 : Int32) = ii 1 from rfl, ii_add, ii_add]
        rw [if_pos (iff.mp (by omega))] at hc'
        exact ih (j + 1) (c + 1) (by omega) (by omega)
end RT2
