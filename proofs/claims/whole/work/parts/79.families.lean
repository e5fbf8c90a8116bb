/-! Families laid anew; first files of a family. -/
theorem fstL_char {T : Tre} {f n : Nat} (hn : n < T.length) (h1 : T[n].fam = f) (h2 : ∀ (j : Nat) (hj : j < T.length), j < n → T[j].fam ≠ f) : fstL f T = n := by
  have hle := fstL_le f T n hn h1
  rcases Nat.lt_or_ge (fstL f T) n with c | c
  · obtain ⟨h3, h4⟩ := fstL_at f T (by omega)
    exact absurd h4 (h2 _ h3 c)
  · omega
theorem cntL_iff : ∀ (T T' : Tre) (f f' : Nat), T.length = T'.length → (∀ (j : Nat) (h1 : j < T.length) (h2 : j < T'.length), T[j].fam = f ↔ T'[j].fam = f') → cntL f T = cntL f' T'
  | [], [], f, f', _, _ => rfl
  | [], e :: t, f, f', h, _ => by simp at h
  | e :: t, [], f, f', h, _ => by simp at h
  | e :: t, e' :: t', f, f', h, hp => by
    have h0 := hp 0 (by simp) (by simp)
    have ih := cntL_iff t t' f f' (by simpa using h) (fun j h1 h2 => hp (j + 1) (by simpa using h1) (by simpa using h2))
    show (if e.fam = f then 1 else 0) + cntL f t = (if e'.fam = f' then 1 else 0) + cntL f' t'
    have h0' : e.fam = f ↔ e'.fam = f' := h0
    rw [ih]
    by_cases c : e.fam = f
    · rw [if_pos c, if_pos (h0'.mp c)]
    · rw [if_neg c, if_neg (fun q => c (h0'.mpr q))]
/-- the same trees but for the names of families -/
def Rel (T T' : Tre) : Prop := T.length = T'.length ∧ (∀ (j : Nat) (h1 : j < T.length) (h2 : j < T'.length), T[j].path = T'[j].path ∧ T[j].2.1 = T'[j].2.1 ∧ T[j].body = T'[j].body) ∧ (∀ (i j : Nat) (h1 : i < T.length) (h2 : j < T.length) (h3 : i < T'.length) (h4 : j < T'.length), T[i].fam = T[j].fam ↔ T'[i].fam = T'[j].fam)
theorem Rel.fst {T T' : Tre} (h : Rel T T') {i : Nat} (h1 : i < T.length) (h2 : i < T'.length) : fstL T[i].fam T = fstL T'[i].fam T' := by
  have hle := fstL_le T[i].fam T i h1 rfl
  obtain ⟨a1, a2⟩ := fstL_at T[i].fam T (by omega)
  have hl := h.1
  refine (fstL_char (n := fstL T[i].fam T) (by omega) ?_ (fun j hj hji q => ?_)).symm
  · exact (h.2.2 _ _ a1 h1 (by omega) h2).mp a2
  · have := (h.2.2 j i (by omega) h1 hj h2).mpr q
    have := fstL_le T[i].fam T j (by omega) this
    omega
theorem Rel.cnt {T T' : Tre} (h : Rel T T') {i : Nat} (h1 : i < T.length) (h2 : i < T'.length) : cntL T[i].fam T = cntL T'[i].fam T' := cntL_iff T T' _ _ h.1 (fun j x1 x2 => h.2.2 j i x1 h1 x2 h2)
theorem Rel.arc {T T' : Tre} (h : Rel T T') : arc T = arc T' := by
  have hl := h.1
  have key : ∀ n, n ≤ T.length → arcL T (T.take n) = arcL T' (T'.take n) := by
    intro n
    induction n with
    | zero => intro _; rfl
    | succ n ih =>
      intro hn
      have h1 : n < T.length := by omega
      have h2 : n < T'.length := by omega
      rw [← List.take_append_getElem h1, ← List.take_append_getElem h2, arcL_app, arcL_app, ih (by omega)]
      congr 1
      show entA T T[n] ++ [] = entA T' T'[n] ++ []
      congr 1
      obtain ⟨e1, e2, e3⟩ := h.2.1 n h1 h2
      unfold entA
      rw [h.fst h1 h2, h.cnt h1 h2, e1, e3]
      unfold En.kind En.mode En.own En.grp En.tim
      rw [e2]
  unfold Jvm.Pilot.CMailChainLaw_law_r4861_288717.arc
  have := key T.length (Nat.le_refl _)
  rw [List.take_length, hl, List.take_length] at this
  rw [this]
def nrm (T : Tre) : Tre := T.map (fun e => (e.path, e.2.1, e.body, fstL e.fam T))
theorem nrm_len (T : Tre) : (nrm T).length = T.length := by simp [nrm]
theorem nrm_at (T : Tre) (i : Nat) (h : i < T.length) (h2 : i < (nrm T).length) : (nrm T)[i] = (T[i].path, T[i].2.1, T[i].body, fstL T[i].fam T) := by
  unfold nrm
  exact List.getElem_map _
theorem nrm_rel (T : Tre) : Rel T (nrm T) := by
  refine ⟨(nrm_len T).symm, fun j h1 h2 => ?_, fun i j h1 h2 h3 h4 => ?_⟩
  · rw [nrm_at T j h1 h2]
    exact ⟨rfl, rfl, rfl⟩
  · rw [nrm_at T i h1 h3, nrm_at T j h2 h4]
    show _ ↔ fstL T[i].fam T = fstL T[j].fam T
    constructor
    · intro q; rw [q]
    · intro q
      have l1 := fstL_le T[i].fam T i h1 rfl
      have l2 := fstL_le T[j].fam T j h2 rfl
      obtain ⟨a1, a2⟩ := fstL_at T[i].fam T (by omega)
      obtain ⟨b1, b2⟩ := fstL_at T[j].fam T (by omega)
      rw [← a2, ← b2]
      congr 2
theorem Rel.ok {T T' : Tre} (h : Rel T T') (hV : TOk T) (hf : ∀ e ∈ T', e.fam < T'.length) : TOk T' := by
  obtain ⟨v1, v2, v3, v4, v5, v6, v7⟩ := hV
  have hl := h.1
  have back : ∀ e ∈ T', ∃ x ∈ T, x.path = e.path ∧ x.2.1 = e.2.1 ∧ x.body = e.body := by
    intro e he
    obtain ⟨j, hj, ej⟩ := List.getElem_of_mem he
    obtain ⟨e1, e2, e3⟩ := h.2.1 j (by omega) hj
    exact ⟨T[j]'(by omega), List.getElem_mem _, by rw [e1, ej], by rw [e2, ej], by rw [e3, ej]⟩
  have forth : ∀ e ∈ T, ∃ x ∈ T', x.path = e.path ∧ x.2.1 = e.2.1 := by
    intro e he
    obtain ⟨j, hj, ej⟩ := List.getElem_of_mem he
    obtain ⟨e1, e2, e3⟩ := h.2.1 j hj (by omega)
    exact ⟨T'[j]'(by omega), List.getElem_mem _, by rw [← e1, ej], by rw [← e2, ej]⟩
  have hc : conts T' = conts T := by
    have key : ∀ n, n ≤ T.length → conts (T.take n) = conts (T'.take n) := by
      intro n
      induction n with
      | zero => intro _; rfl
      | succ n ih =>
        intro hn
        have h1 : n < T.length := by omega
        have h2 : n < T'.length := by omega
        rw [← List.take_append_getElem h1, ← List.take_append_getElem h2, conts_app, conts_app, ih (by omega)]
        congr 1
        obtain ⟨e1, e2, e3⟩ := h.2.1 n h1 h2
        show (if T[n].2.1.1 = 1 then T[n].body.length else 0) + 0 = (if T'[n].2.1.1 = 1 then T'[n].body.length else 0) + 0
        rw [e2, e3]
    have := key T.length (Nat.le_refl _)
    rw [List.take_length, hl, List.take_length] at this
    exact this.symm
  refine ⟨by omega, ?_, fun e he => ?_, by omega, fun e he => ?_, hf, ?_⟩
  · refine List.pairwise_iff_getElem.mpr (fun i j hi hj hij => ?_)
    have := List.pairwise_iff_getElem.mp v2 i j (by omega) (by omega) hij
    rw [(h.2.1 i (by omega) hi).1, (h.2.1 j (by omega) hj).1] at this
    exact this
  · obtain ⟨x, x1, x2, x3, x4⟩ := back e he
    have := v3 x x1
    unfold EOk En.kind En.mode En.own En.grp En.tim at this ⊢
    rw [x2, x3, x4] at this
    exact this
  · obtain ⟨x, x1, x2, x3, x4⟩ := back e he
    have := v5 x x1
    rw [x2] at this
    rcases this with q | ⟨y, y1, y2, y3⟩
    · exact Or.inl q
    · obtain ⟨w, w1, w2, w3⟩ := forth y y1
      exact Or.inr ⟨w, w1, by rw [w2]; exact y2, by unfold En.kind at y3 ⊢; rw [w3]; exact y3⟩
  · refine List.pairwise_iff_getElem.mpr (fun i j hi hj hij q => ?_)
    have hq := (h.2.2 i j (by omega) (by omega) hi hj).mpr q
    have := List.pairwise_iff_getElem.mp v7 i j (by omega) (by omega) hij hq
    obtain ⟨a1, a2, a3⟩ := h.2.1 i (by omega) hi
    obtain ⟨b1, b2, b3⟩ := h.2.1 j (by omega) hj
    unfold lnk En.kind at this ⊢
    rw [a2, b2, a3, b3] at this
    exact this
/-- a tree in its own words -/
theorem nrm_good {T : Tre} (hV : TOk T) (hs : smallT T) : TOk (nrm T) ∧ smallT (nrm T) ∧ NFT (nrm T) ∧ arc (nrm T) = arc T := by
  have hr := nrm_rel T
  refine ⟨hr.ok hV (fun e he => ?_), fun e he => ?_, fun i hi => ?_, hr.arc.symm⟩
  · obtain ⟨j, hj, ej⟩ := List.getElem_of_mem he
    have hj' : j < T.length := by rw [nrm_len] at hj; exact hj
    rw [← ej, nrm_at T j hj' hj, nrm_len]
    show fstL T[j].fam T < T.length
    have := fstL_le T[j].fam T j hj' rfl
    omega
  · obtain ⟨x, x1, x2⟩ := List.mem_map.mp he
    have := hs x x1
    rw [← x2]
    exact this
  · have hi' : i < T.length := by rw [nrm_len] at hi; exact hi
    rw [← hr.fst hi' hi]
    rw [nrm_at T i hi' hi]
    rfl
theorem RtI.rel {M : zM} {u : Nat} {T T' : Tre} (h : RtI M u T) (hr : T.length = T'.length ∧ (∀ (j : Nat) (h1 : j < T.length) (h2 : j < T'.length), T[j].path = T'[j].path ∧ T[j].2.1 = T'[j].2.1 ∧ T[j].body = T'[j].body)) (hp : ∀ (i j : Nat) (h1 : i < T.length) (h2 : j < T.length) (h3 : i < T'.length) (h4 : j < T'.length), T[i].kind = 1 → T[j].kind = 1 → (T[i].fam = T[j].fam ↔ T'[i].fam = T'[j].fam)) (hc : conts T' = conts T) : RtI M u T' := by
  obtain ⟨a1, a2, a3, us, b1, b2, b3, b4⟩ := h
  have hl := hr.1
  refine ⟨by rw [← hl]; exact a1, by omega, by omega, us, b1, by rw [hc, ← hl]; exact b2, fun i hi => ?_, fun i j hi hj ki kj => ?_⟩
  · have := b3 i (by omega)
    obtain ⟨e1, e2, e3⟩ := hr.2 i (by omega) hi
    unfold RnI En.kind En.mode En.own En.grp En.tim at this ⊢
    rw [e2] at this
    simp only [e1, e3] at this
    exact this
  · obtain ⟨e1, e2, e3⟩ := hr.2 i (by omega) hi
    obtain ⟨f1, f2, f3⟩ := hr.2 j (by omega) hj
    have ki' : (T[i]'(by omega)).kind = 1 := by unfold En.kind at ki ⊢; rw [e2]; exact ki
    have kj' : (T[j]'(by omega)).kind = 1 := by unfold En.kind at kj ⊢; rw [f2]; exact kj
    exact (b4 i j (by omega) (by omega) ki' kj').trans (hp i j (by omega) (by omega) hi hj ki' kj')
/-- the first file of a family -/
def fstF (f : Nat) : Tre → Nat
  | [] => 0
  | e :: t => if e.kind = 1 ∧ e.fam = f then 0 else fstF f t + 1
theorem fstF_le (f : Nat) : ∀ (T : Tre) (i : Nat) (h : i < T.length), T[i].kind = 1 → T[i].fam = f → fstF f T ≤ i
  | [], i, h, _, _ => absurd h (by simp)
  | e :: t, 0, h, hk, hf => by
    have hk' : e.kind = 1 := hk
    have hf' : e.fam = f := hf
    show (if e.kind = 1 ∧ e.fam = f then 0 else fstF f t + 1) ≤ 0
    rw [if_pos ⟨hk', hf'⟩]
    exact Nat.le_refl _
  | e :: t, i + 1, h, hk, hf => by
    show (if e.kind = 1 ∧ e.fam = f then 0 else fstF f t + 1) ≤ i + 1
    split
    · omega
    · have := fstF_le f t i (by simpa using h) hk hf
      omega
theorem fstF_at (f : Nat) : ∀ (T : Tre), fstF f T < T.length → ∃ h : fstF f T < T.length, T[fstF f T].kind = 1 ∧ T[fstF f T].fam = f
  | [], h => absurd h (by simp)
  | e :: t, h => by
    by_cases c : e.kind = 1 ∧ e.fam = f
    · have e0 : fstF f (e :: t) = 0 := by
        show (if e.kind = 1 ∧ e.fam = f then 0 else fstF f t + 1) = 0
        rw [if_pos c]
      refine ⟨h, ?_⟩
      simp only [e0]
      exact c
    · have e0 : fstF f (e :: t) = fstF f t + 1 := by
        show (if e.kind = 1 ∧ e.fam = f then 0 else fstF f t + 1) = _
        rw [if_neg c]
      rw [e0] at h
      obtain ⟨h1, h2⟩ := fstF_at f t (by simpa using h)
      refine ⟨by rw [e0]; exact h, ?_⟩
      simp only [e0, List.getElem_cons_succ]
      exact h2
def fstK (T : Tre) (i : Nat) (e : En) : Nat := if e.kind = 1 then fstF e.fam T else i
theorem s_firstK {M : zM} {u : Nat} {T : Tre} {i : Nat} {post : Int32 → zM → Prop} (hu : u ≤ 2) (hI : RtI M u T) (hK2 : ∀ e ∈ T, e.kind ≤ 2) (hi : i < T.length) (k : post (ii (fstK T i T[i] : Nat)) M) : Wp_Mo_firstOf 413 (ii u) (ii i) M post := by
  have l := l_ref
  obtain ⟨a1, a2, a3, us, b1, b2, b3, b4⟩ := hI
  unfold Wp_Mo_firstOf
  intro K hK
  unfold Wp_Mo_at
  rw [ei_at]
  suffices H : ∀ (m j : Nat) (acc : Nat), j + 1 = m → j ≤ i → (acc ≤ i ∧ ∃ h : acc < T.length, (T[i].kind = 1 → T[acc].kind = 1 ∧ T[acc].fam = T[i].fam) ∧ (T[i].kind ≠ 1 → acc = i)) → (T[i].kind = 1 → ∀ (r : Nat) (hr : r < T.length), j < r → r < acc → ¬ (T[r].kind = 1 ∧ T[r].fam = T[i].fam)) → K (ii ((41 * u + i : Nat) : Int)) (ii acc) (ii j) M from
    H (i + 1) i i rfl (Nat.le_refl _) ⟨Nat.le_refl _, hi, fun q => ⟨q, rfl⟩, fun _ => rfl⟩ (fun _ r hr h1 h2 => by omega)
  intro m
  have neg : ∀ (acc : Nat), acc ≤ i → (∃ h : acc < T.length, (T[i].kind = 1 → T[acc].kind = 1 ∧ T[acc].fam = T[i].fam) ∧ (T[i].kind ≠ 1 → acc = i)) → (T[i].kind = 1 → ∀ (r : Nat) (hr : r < T.length), r < acc → ¬ (T[r].kind = 1 ∧ T[r].fam = T[i].fam)) → K (ii ((41 * u + i : Nat) : Int)) (ii acc) (ii (-1)) M := by
    intro acc h1 h2 h3
    refine hK _ _ _ _ ⟨fun _ => ?_, fun z => absurd (by rw [ii_nneg (by decide) (by decide)]; decide) z⟩
    have : fstK T i T[i] = acc := by
      obtain ⟨h4, h5, h6⟩ := h2
      unfold fstK
      by_cases c : T[i].kind = 1
      · rw [if_pos c]
        have h7 := h5 c
        have hle := fstF_le T[i].fam T acc h4 h7.1 h7.2
        rcases Nat.lt_or_ge (fstF T[i].fam T) acc with q | q
        · obtain ⟨y1, y2⟩ := fstF_at T[i].fam T (by omega)
          exact absurd y2 (h3 c _ y1 q)
        · omega
      · rw [if_neg c]
        exact (h6 c).symm
    rw [← this]
    exact k
  induction m with
  | zero =>
    intro j acc hj
    omega
  | succ m ih =>
    intro j acc hj hji hacc hno
    have hjl : j < T.length := by omega
    have next : ∀ acc', (acc' ≤ i ∧ ∃ h : acc' < T.length, (T[i].kind = 1 → T[acc'].kind = 1 ∧ T[acc'].fam = T[i].fam) ∧ (T[i].kind ≠ 1 → acc' = i)) → (T[i].kind = 1 → ∀ (r : Nat) (hr : r < T.length), j ≤ r → r < acc' → ¬ (T[r].kind = 1 ∧ T[r].fam = T[i].fam)) → ∀ x : Int32, x = ii (j : Int) + -1 → K (ii ((41 * u + i : Nat) : Int)) (ii (acc' : Int)) x M := by
      rintro acc' h1 h2 x rfl
      rw [show (-1 : Int32) = ii (-1) from rfl, ii_add]
      cases j with
      | zero =>
        exact neg acc' h1.1 h1.2 (fun q r hr h3 => h2 q r hr (by omega) h3)
      | succ j' =>
        rw [show (((j' + 1 : Nat) : Int) + -1) = (j' : Int) by omega]
        exact ih j' acc' (by omega) (by omega) h1 (fun q r hr h3 h4 => h2 q r hr (by omega) h4)
    refine hK _ _ _ _ ⟨fun z => ?_, fun _ => ?_⟩
    · rw [ii_nneg (by omega) (by omega)] at z
      omega
    · unfold Wp_Mo_at
      rw [ei_at]
      refine ⟨ii_in (by omega) (by omega) (by omega), ?_⟩
      have ki := hK2 _ (List.getElem_mem hi)
      have kj := hK2 _ (List.getElem_mem hjl)
      rw [ii_nat (by omega) (by omega), Int.toNat_natCast, ii_nat (by omega) (by omega), Int.toNat_natCast, (b3 i hi).2.2.2.1, (b3 j hjl).2.2.2.1, show (1 : Int32) = ii 1 from rfl, ii_eq (by omega) (by omega) (by omega) (by omega), ii_eq (by omega) (by omega) (by omega) (by omega)]
      refine ⟨fun z => next acc hacc (fun q => absurd q (by omega)), fun z => ⟨ii_in (by omega) (by omega) (by omega), fun z2 => next acc hacc (fun q r hr h1 h2 => ?_), fun z2 => ⟨ii_in (by omega) (by omega) (by omega), ii_in (by omega) (by omega) (by omega), ?_⟩⟩⟩
      · by_cases c : r = j
        · subst c
          exact fun y => z2 (by omega)
        · exact hno q r hr (by omega) h2
      · rw [b4 j i hjl hi (by omega) (by omega)]
        refine ⟨fun z3 => next acc hacc (fun q r hr h1 h2 => ?_), fun z3 => next j ⟨hji, hjl, fun _ => ⟨by omega, z3⟩, fun y => absurd (by omega) y⟩ (fun _ r hr h1 h2 => by omega)⟩
        by_cases c : r = j
        · subst c
          exact fun y => z3 y.2
        · exact hno q r hr (by omega) h2
