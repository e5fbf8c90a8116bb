/-! First links, numbers of links; about and byteOf, as MailChain tells them. -/
def fstL (f : Nat) : Tre → Nat
  | [] => 0
  | e :: t => if e.fam = f then 0 else fstL f t + 1
def cntL (f : Nat) : Tre → Nat
  | [] => 0
  | e :: t => (if e.fam = f then 1 else 0) + cntL f t
theorem fstL_le (f : Nat) : ∀ (T : Tre) (i : Nat) (h : i < T.length), T[i].fam = f → fstL f T ≤ i
  | [], i, h, _ => absurd h (by simp)
  | e :: t, 0, h, hf => by
    have hf' : e.fam = f := hf
    show (if e.fam = f then 0 else fstL f t + 1) ≤ 0
    rw [if_pos hf']
    exact Nat.le_refl _
  | e :: t, i + 1, h, hf => by
    show (if e.fam = f then 0 else fstL f t + 1) ≤ i + 1
    split
    · omega
    · have := fstL_le f t i (by simpa using h) hf
      omega
theorem fstL_at (f : Nat) : ∀ (T : Tre), fstL f T < T.length → ∃ h : fstL f T < T.length, T[fstL f T].fam = f
  | [], h => absurd h (by simp)
  | e :: t, h => by
    by_cases c : e.fam = f
    · have e0 : fstL f (e :: t) = 0 := by
        show (if e.fam = f then 0 else fstL f t + 1) = 0
        rw [if_pos c]
      refine ⟨h, ?_⟩
      simp only [e0]
      exact c
    · have e0 : fstL f (e :: t) = fstL f t + 1 := by
        show (if e.fam = f then 0 else fstL f t + 1) = _
        rw [if_neg c]
      rw [e0] at h
      obtain ⟨h1, h2⟩ := fstL_at f t (by simpa using h)
      refine ⟨by rw [e0]; exact h, ?_⟩
      simp only [e0, List.getElem_cons_succ]
      exact h2
theorem fstL_drop (f : Nat) : ∀ (T : Tre) (i : Nat), i ≤ fstL f T → i ≤ T.length → fstL f T = i + fstL f (T.drop i)
  | _, 0, _, _ => by simp
  | [], i + 1, _, h => absurd h (by simp)
  | e :: t, i + 1, h, hl => by
    have h' : i + 1 ≤ (if e.fam = f then 0 else fstL f t + 1) := h
    show (if e.fam = f then 0 else fstL f t + 1) = i + 1 + fstL f (t.drop i)
    by_cases c : e.fam = f
    · rw [if_pos c] at h'
      omega
    · rw [if_neg c] at h' ⊢
      have := fstL_drop f t i (by omega) (by simpa using hl)
      omega
theorem cntL_le (f : Nat) : ∀ T : Tre, cntL f T ≤ T.length
  | [] => by simp [cntL]
  | e :: t => by
    have := cntL_le f t
    show (if e.fam = f then 1 else 0) + cntL f t ≤ _
    rw [List.length_cons]
    split <;> omega
section TELL
variable {M : zM} {t : Nat} {T : Tre}
theorem s_firstLinkOf {i : Nat} {post : Int32 → zM → Prop} (hT : isT t) (h : TrI M t T) (hV : TOk T) (hi : i < T.length) (k : post (ii (fstL T[i].fam T : Nat)) M) : Wp_Tr_firstLinkOf t (ii i) M post := by
  have hl := h.2.2.2.1
  have f := hT.facts
  have hle := fstL_le T[i].fam T i hi rfl
  obtain ⟨bd, b1, b2, b3⟩ := h.2.2.2.2.2
  unfold Wp_Tr_firstLinkOf
  intro K hK
  suffices H : ∀ (m j : Nat), j + m = fstL T[i].fam T → K (ii j) M from H _ 0 (Nat.zero_add _)
  intro m
  induction m with
  | zero =>
    intro j hj
    have ej : j = fstL T[i].fam T := by omega
    rw [← ej] at k
    refine hK _ _ ⟨fun _ => k, fun q => ⟨ii_in (by omega) (by omega) (by omega), ?_⟩⟩
    rintro r rfl
    rw [ii_nat (by omega) (by omega), Int.toNat_natCast]
    have e1 := ent_at hT h.1 (show j < 41 by omega)
    refine ⟨e1.1, e1.2.1, ii_in (by omega) (by omega) (by omega), ?_⟩
    rintro r rfl
    rw [ii_nat (by omega) (by omega), Int.toNat_natCast]
    have e2 := ent_at hT h.1 (show i < 41 by omega)
    refine ⟨e2.1, e2.2.1, fun _ => k, fun q2 => absurd ?_ q2⟩
    obtain ⟨h1, h2⟩ := fstL_at T[i].fam T (by omega)
    rw [(b3 j (by omega)).2.2.2.2.2.2.2.1, (b3 i hi).2.2.2.2.2.2.2.1]
    have : T[j].fam = T[i].fam := by
      rw [← h2]
      congr 2
    rw [this]
  | succ m ih =>
    intro j hj
    refine hK _ _ ⟨fun q => ?_, fun q => ⟨ii_in (by omega) (by omega) (by omega), ?_⟩⟩
    · rw [ii_le (by omega) (by omega) (by omega) (by omega)] at q
      omega
    · rintro r rfl
      rw [ii_nat (by omega) (by omega), Int.toNat_natCast]
      have e1 := ent_at hT h.1 (show j < 41 by omega)
      refine ⟨e1.1, e1.2.1, ii_in (by omega) (by omega) (by omega), ?_⟩
      rintro r rfl
      rw [ii_nat (by omega) (by omega), Int.toNat_natCast]
      have e2 := ent_at hT h.1 (show i < 41 by omega)
      refine ⟨e2.1, e2.2.1, fun q2 => ?_, fun _ => ?_⟩
      · rw [(b3 j (by omega)).2.2.2.2.2.2.2.1, (b3 i hi).2.2.2.2.2.2.2.1] at q2
        have f1 := hV.2.2.2.2.2.1 _ (List.getElem_mem (show j < T.length by omega))
        have f2 := hV.2.2.2.2.2.1 _ (List.getElem_mem hi)
        rw [ii_eq (by omega) (by omega) (by omega) (by omega)] at q2
        have := fstL_le T[i].fam T j (by omega) (by omega)
        omega
      · rintro x rfl
        rw [show (1 : Int32) = ii 1 from rfl, ii_add]
        exact ih (j + 1) (by omega)
theorem s_linksOf {i : Nat} {post : Int32 → zM → Prop} (hT : isT t) (h : TrI M t T) (hV : TOk T) (hi : i < T.length) (k : post (ii (cntL T[i].fam T : Nat)) M) : Wp_Tr_linksOf t (ii i) M post := by
  have hl := h.2.2.2.1
  have f := hT.facts
  obtain ⟨bd, b1, b2, b3⟩ := h.2.2.2.2.2
  unfold Wp_Tr_linksOf
  intro K hK
  suffices H : ∀ (m j c : Nat), j + m = T.length → c + cntL T[i].fam (T.drop j) = cntL T[i].fam T → K (ii c) (ii j) M from H _ 0 0 (Nat.zero_add _) (by simp)
  intro m
  induction m with
  | zero =>
    intro j c hj hc
    refine hK _ _ _ ⟨fun _ => ?_, fun q => absurd (by rw [h.2.1, ii_le (by omega) (by omega) (by omega) (by omega)]; omega) q⟩
    rw [List.drop_eq_nil_of_le (by omega)] at hc
    have hc' : c = cntL T[i].fam T := hc
    rw [← hc'] at k
    exact k
  | succ m ih =>
    intro j c hj hc
    have hjl : j < T.length := by omega
    rw [List.drop_eq_getElem_cons hjl] at hc
    have hc' : c + ((if T[j].fam = T[i].fam then 1 else 0) + cntL T[i].fam (T.drop (j + 1))) = cntL T[i].fam T := hc
    refine hK _ _ _ ⟨fun q => ?_, fun q => ⟨ii_in (by omega) (by omega) (by omega), ?_⟩⟩
    · rw [h.2.1, ii_le (by omega) (by omega) (by omega) (by omega)] at q
      omega
    · rintro r rfl
      rw [ii_nat (by omega) (by omega), Int.toNat_natCast]
      have e1 := ent_at hT h.1 (show j < 41 by omega)
      refine ⟨e1.1, e1.2.1, ii_in (by omega) (by omega) (by omega), ?_⟩
      rintro r rfl
      rw [ii_nat (by omega) (by omega), Int.toNat_natCast]
      have e2 := ent_at hT h.1 (show i < 41 by omega)
      have f1 := hV.2.2.2.2.2.1 _ (List.getElem_mem hjl)
      have f2 := hV.2.2.2.2.2.1 _ (List.getElem_mem hi)
      rw [(b3 j hjl).2.2.2.2.2.2.2.1, (b3 i hi).2.2.2.2.2.2.2.1, ii_eq (by omega) (by omega) (by omega) (by omega)]
      refine ⟨e2.1, e2.2.1, fun q2 => ?_, fun q2 => ?_⟩
      · rintro x rfl
        rw [show (1 : Int32) = ii 1 from rfl, ii_add]
        rw [if_neg (by omega)] at hc'
        exact ih (j + 1) c (by omega) (by omega)
      · rintro x rfl y rfl
        rw [show (1 : Int32) = ii 1 from rfl, ii_add, ii_add]
        rw [if_pos (by omega)] at hc'
        exact ih (j + 1) (c + 1) (by omega) (by omega)
/-- what is told of an entry -/
def tellE (T : Tre) (e : En) (what : Nat) : Nat := match what with
  | 1 => e.kind
  | 2 => e.mode
  | 3 => e.own
  | 4 => e.grp
  | 5 => e.tim
  | 6 => e.path.length
  | 7 => e.body.length
  | 8 => fstL e.fam T
  | _ => cntL e.fam T
theorem s_tell {what i : Nat} {post : Int32 → zM → Prop} (hT : isT t) (h : TrI M t T) (hV : TOk T) (hi : i < T.length) (h1 : 1 ≤ what) (h9 : what ≤ 9) (k : post (ii (tellE T T[i] what : Nat)) M) : Wp_Tr_tell t (ii what) (ii i) M post := by
  have hl := h.2.2.2.1
  have f := hT.facts
  obtain ⟨bd, b1, b2, b3⟩ := h.2.2.2.2.2
  obtain ⟨a1, a2, a3, a4, a5, a6, a7, a8, st, c1, c2, c3⟩ := b3 i hi
  have e2 := ent_at hT h.1 (show i < 41 by omega)
  unfold Wp_Tr_tell
  refine ⟨ii_in (by omega) (by omega) (by omega), ?_⟩
  rintro r rfl
  rw [ii_nat (by omega) (by omega), Int.toNat_natCast, a2, a3, a4, a5, a6, a7, a1.1]
  refine ⟨e2.1, e2.2.1, ?_⟩
  have ew : ∀ n : Nat, n ≤ 9 → (ii (what : Int) = ii (n : Int) ↔ what = n) := fun n hn => by
    rw [ii_eq (by omega) (by omega) (by omega) (by omega)]
    omega
  refine ⟨fun q => ?_, fun q => ?_, fun q => ?_, fun q => ?_, fun q => ?_, fun q => ?_, fun q => ?_, fun q => ?_, fun q1 q2 q3 q4 q5 q6 q7 q8 => ?_⟩
  · have := (ew 1 (by omega)).mp q
    subst this
    exact k
  · have := (ew 2 (by omega)).mp q
    subst this
    exact k
  · have := (ew 3 (by omega)).mp q
    subst this
    exact k
  · have := (ew 4 (by omega)).mp q
    subst this
    exact k
  · have := (ew 5 (by omega)).mp q
    subst this
    exact k
  · have := (ew 6 (by omega)).mp q
    subst this
    exact k
  · have := (ew 7 (by omega)).mp q
    subst this
    exact k
  · have := (ew 8 (by omega)).mp q
    subst this
    exact s_firstLinkOf hT h hV hi k
  · have nine : what = 1 ∨ what = 2 ∨ what = 3 ∨ what = 4 ∨ what = 5 ∨ what = 6 ∨ what = 7 ∨ what = 8 ∨ what = 9 := by omega
    rcases nine with z | z | z | z | z | z | z | z | z
    · exact absurd ((ew 1 (by omega)).mpr z) q1
    · exact absurd ((ew 2 (by omega)).mpr z) q2
    · exact absurd ((ew 3 (by omega)).mpr z) q3
    · exact absurd ((ew 4 (by omega)).mpr z) q4
    · exact absurd ((ew 5 (by omega)).mpr z) q5
    · exact absurd ((ew 6 (by omega)).mpr z) q6
    · exact absurd ((ew 7 (by omega)).mpr z) q7
    · exact absurd ((ew 8 (by omega)).mpr z) q8
    · subst z
      exact s_linksOf hT h hV hi k
end TELL
/-- the tree that is asked of -/
theorem s_Mc_about {M : zM} {y : Nat} {T0 T1 : Tre} {tree what i : Int} {post : Option Value → zM → Prop} {postT : Nat → zM → Prop} (h0 : TrI M (0 + 3) T0) (hV0 : TOk T0) (hy : M.2.2 0 2 = y) (hyT : isT y) (h1 : TrI M y T1) (hV1 : TOk T1) (r0 : R32 tree) (r1 : R32 what) (r2 : R32 i)
    (k1 : ¬ (tree = 0 ∨ tree = 1) → postT 1 M)
    (k4 : (tree = 0 ∨ tree = 1) → ¬ (what = 0 ∨ (1 ≤ what ∧ what ≤ 9 ∧ 0 ≤ i ∧ i < (if tree = 0 then T0 else T1).length)) → postT 4 M)
    (k0 : (tree = 0 ∨ tree = 1) → what = 0 → post (some (.int (ii (if tree = 0 then T0 else T1).length))) M)
    (kk : (tree = 0 ∨ tree = 1) → 1 ≤ what → what ≤ 9 → ∀ (n : Nat) (hn : n < (if tree = 0 then T0 else T1).length), i = n → post (some (.int (ii (tellE (if tree = 0 then T0 else T1) (if tree = 0 then T0 else T1)[n] what.toNat : Nat)))) M) : Wp_Mc_about 0 (ii tree) (ii what) (ii i) M post postT := by
  unfold R32 at *
  unfold Wp_Mc_about
  intro K17 K32 h17 h32
  have main : ∀ (w : Nat) (T : Tre), isT w → TrI M w T → TOk T → (tree = 0 ∨ tree = 1) → (if tree = 0 then T0 else T1) = T → K32 w M := by
    intro w T hw hI hV ht eT
    rw [eT] at k4 k0 kk
    have hl := hI.2.2.2.1
    refine h32 _ _ ⟨hw.facts.2.2.1, hw.facts.2.2.2.1, ?_⟩
    rw [show (0 : Int32) = ii 0 from rfl, show (9 : Int32) = ii 9 from rfl, ii_eq r1.1 r1.2 (by decide) (by decide), ii_lt r1.1 r1.2 (by decide) (by decide), ii_lt (by decide) (by decide) r1.1 r1.2, hI.2.1]
    refine ⟨fun q => ⟨fun q2 => k4 ht (by omega), fun q2 => ⟨fun q3 => k4 ht (by omega), fun q3 => s_Tr_has hI r2.1 r2.2 ?_⟩⟩, fun q => k0 ht q⟩
    by_cases hi : 0 ≤ i ∧ i < T.length
    · rw [if_pos hi]
      refine ⟨fun _ => ?_, fun z => absurd z (by decide)⟩
      obtain ⟨n, rfl⟩ := Int.eq_ofNat_of_zero_le hi.1
      obtain ⟨m, rfl⟩ := Int.eq_ofNat_of_zero_le (show 0 ≤ what by omega)
      exact s_tell hw hI hV (show n < T.length by omega) (by omega) (by omega) (kk ht (by omega) (by omega) n (by omega) rfl)
    · rw [if_neg hi]
      exact ⟨fun z => absurd rfl z, fun _ => k4 ht (by omega)⟩
  have go : (tree = 0 ∨ tree = 1) → K17 M := by
    intro ht
    refine h17 _ ?_
    rw [show (0 : Int32) = ii 0 from rfl, ii_eq r0.1 r0.2 (by decide) (by decide)]
    refine ⟨fun q => ?_, fun q => main _ T0 (Or.inl rfl) h0 hV0 ht (if_pos q)⟩
    rintro r rfl
    rw [hy]
    exact ⟨hyT.facts.2.2.1, hyT.facts.2.2.2.1, main _ T1 hyT h1 hV1 ht (if_neg q)⟩
  rw [show (0 : Int32) = ii 0 from rfl, show (1 : Int32) = ii 1 from rfl, ii_eq r0.1 r0.2 (by decide) (by decide), ii_eq r0.1 r0.2 (by decide) (by decide)]
  exact ⟨fun q => go (Or.inl q), fun q => ⟨fun q2 => go (Or.inr q2), fun q2 => k1 (by omega)⟩⟩
theorem s_Mc_byteOf {M : zM} {y : Nat} {T0 T1 : Tre} {tree i b : Int} {post : Option Value → zM → Prop} {postT : Nat → zM → Prop} (h0 : TrI M (0 + 3) T0) (hV0 : TOk T0) (hy : M.2.2 0 2 = y) (hyT : isT y) (h1 : TrI M y T1) (hV1 : TOk T1) (r0 : R32 tree) (r1 : R32 i) (r2 : R32 b)
    (k1 : ¬ (tree = 0 ∨ tree = 1) → postT 1 M)
    (k4 : (tree = 0 ∨ tree = 1) → ¬ (∃ (n m : Nat) (hn : n < (if tree = 0 then T0 else T1).length), i = n ∧ b = m ∧ m < ((if tree = 0 then T0 else T1)[n].path ++ (if tree = 0 then T0 else T1)[n].body).length) → postT 4 M)
    (kk : (tree = 0 ∨ tree = 1) → ∀ (n m : Nat) (hn : n < (if tree = 0 then T0 else T1).length), i = n → b = m → ∀ (hm : m < ((if tree = 0 then T0 else T1)[n].path ++ (if tree = 0 then T0 else T1)[n].body).length), post (some (.int (ii ((((if tree = 0 then T0 else T1)[n].path ++ (if tree = 0 then T0 else T1)[n].body)[m]).toNat : Nat)))) M) : Wp_Mc_byteOf 0 (ii tree) (ii i) (ii b) M post postT := by
  unfold R32 at *
  unfold Wp_Mc_byteOf
  intro K17 K32 h17 h32
  have main : ∀ (w : Nat) (T : Tre), isT w → TrI M w T → TOk T → (tree = 0 ∨ tree = 1) → (if tree = 0 then T0 else T1) = T → K32 w M := by
    intro w T hw hI hV ht eT
    rw [eT] at k4 kk
    have hl := hI.2.2.2.1
    have f := hw.facts
    refine h32 _ _ ⟨f.2.2.1, f.2.2.2.1, s_Tr_has hI r1.1 r1.2 ?_⟩
    by_cases hi : 0 ≤ i ∧ i < T.length
    · rw [if_pos hi]
      refine ⟨fun z => absurd z (by decide), fun _ => ?_⟩
      obtain ⟨n, rfl⟩ := Int.eq_ofNat_of_zero_le hi.1
      have hn : n < T.length := by omega
      have e2 := ent_at hw hI.1 (show n < 41 by omega)
      obtain ⟨bd, b1, b2, b3⟩ := hI.2.2.2.2.2
      have hbd := b1.len
      obtain ⟨a1, a2, a3, a4, a5, a6, a7, a8, st, c1, c2, c3⟩ := b3 n hn
      have hpl := a1.len
      unfold Wp_Tr_hasByte
      rw [ii_nneg r2.1 r2.2, ii_nat (by omega) (by omega), Int.toNat_natCast]
      refine ⟨fun q => ⟨fun z => absurd rfl z, fun _ => k4 ht (by rintro ⟨n', m', h1, h2, h3, h4⟩; omega)⟩, fun q => ⟨ii_in (by omega) (by omega) (by omega), ?_⟩⟩
      rintro r rfl
      refine ⟨e2.1, e2.2.1, ii_in (by omega) (by omega) (by omega), ?_⟩
      rintro r rfl
      refine ⟨e2.1, e2.2.1, ?_⟩
      rw [a1.1, a7, ii_add, ii_le (by omega) (by omega) r2.1 r2.2]
      refine ⟨fun q2 => ⟨fun z => absurd rfl z, fun _ => k4 ht ?_⟩, fun q2 => ⟨fun _ => ?_, fun z => absurd z (by decide)⟩⟩
      · rintro ⟨n', m', h1, h2, h3, h4⟩
        have : n' = n := by omega
        subst this
        rw [List.length_append] at h4
        omega
      · obtain ⟨m, rfl⟩ := Int.eq_ofNat_of_zero_le (show 0 ≤ b by omega)
        have hm : m < (T[n].path ++ T[n].body).length := by rw [List.length_append]; omega
        have fin := kk ht n m hn rfl rfl hm
        unfold Wp_Tr_byteAt
        rw [ii_nat (by omega) (by omega), Int.toNat_natCast]
        refine ⟨ii_in (by omega) (by omega) (by omega), ?_⟩
        rintro r rfl
        refine ⟨e2.1, e2.2.1, ?_⟩
        rintro x rfl
        rw [a1.1, ii_sub, show (0 : Int32) = ii 0 from rfl, ii_le (by decide) (by decide) (by omega) (by omega), c1, ii_add]
        refine ⟨fun q3 => s_at b1 (by omega) (by omega) ?_, fun q3 => s_at a1 (by omega) (by omega) ?_⟩
        · rw [show ((st : Int) + ((m : Int) - (T[n].path.length : Int))) = ((st + (m - T[n].path.length) : Nat) : Int) by omega, gt_in (show st + (m - T[n].path.length) < bd.length by omega)]
          have e : (T[n].path ++ T[n].body)[m] = bd[st + (m - T[n].path.length)]'(by omega) := by
            rw [List.getElem_append_right (by omega)]
            have : T[n].body[m - T[n].path.length]? = bd[st + (m - T[n].path.length)]? := by
              rw [← c3]
              unfold cut
              rw [List.getElem?_drop, List.getElem?_take_of_lt (by omega)]
            rw [List.getElem?_eq_getElem (by rw [List.length_append] at hm; omega), List.getElem?_eq_getElem (by omega)] at this
            exact Option.some.inj this
          rw [e] at fin
          exact fin
        · rw [gt_in (show m < T[n].path.length by omega)]
          rw [List.getElem_append_left (show m < T[n].path.length by omega)] at fin
          exact fin
    · rw [if_neg hi]
      refine ⟨fun _ => k4 ht ?_, fun z => absurd rfl z⟩
      rintro ⟨n', m', h1, h2, h3, h4⟩
      omega
  have go : (tree = 0 ∨ tree = 1) → K17 M := by
    intro ht
    refine h17 _ ?_
    rw [show (0 : Int32) = ii 0 from rfl, ii_eq r0.1 r0.2 (by decide) (by decide)]
    refine ⟨fun q => ?_, fun q => main _ T0 (Or.inl rfl) h0 hV0 ht (if_pos q)⟩
    rintro r rfl
    rw [hy]
    exact ⟨hyT.facts.2.2.1, hyT.facts.2.2.2.1, main _ T1 hyT h1 hV1 ht (if_neg q)⟩
  rw [show (0 : Int32) = ii 0 from rfl, show (1 : Int32) = ii 1 from rfl, ii_eq r0.1 r0.2 (by decide) (by decide), ii_eq r0.1 r0.2 (by decide) (by decide)]
  exact ⟨fun q => go (Or.inl q), fun q => ⟨fun q2 => go (Or.inr q2), fun q2 => k1 (by omega)⟩⟩
