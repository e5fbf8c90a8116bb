/-! Both read a part's first line alike. -/
theorem run_eq : ∀ (f : Nat) (l : List UInt8) (b : UInt8), l[(run f l).length]? = some b → isDg b = false → run (f + 1) l = run f l
  | 0, [], b, h, hb => rfl
  | 0, x :: t, b, h, hb => by
    have e : x = b := by simpa [run] using h
    show (if isDg x = true then x :: run 0 t else []) = []
    rw [e, if_neg (by simp [hb])]
  | f + 1, [], b, h, hb => rfl
  | f + 1, x :: t, b, h, hb => by
    show (if isDg x = true then x :: run (f + 1) t else []) = (if isDg x = true then x :: run f t else [])
    by_cases hx : isDg x = true
    · rw [if_pos hx, if_pos hx]
      have h' : (x :: t)[(x :: run f t).length]? = some b := by
        have e : run (f + 1) (x :: t) = x :: run f t := by
          show (if isDg x = true then x :: run f t else []) = _
          rw [if_pos hx]
        rw [e] at h
        exact h
      rw [run_eq f t b (by simpa using h') hb]
    · rw [if_neg hx, if_neg hx]
theorem run_eq2 : ∀ (f : Nat) (l : List UInt8), (run (f + 1) l).length ≤ f → run f l = run (f + 1) l
  | 0, [], _ => rfl
  | 0, x :: t, h => by
    have h' : (run 1 (x :: t)).length ≤ 0 := h
    have e : run 1 (x :: t) = [] := List.eq_nil_of_length_eq_zero (by omega)
    show run 0 (x :: t) = run 1 (x :: t)
    rw [e]
    rfl
  | f + 1, [], _ => rfl
  | f + 1, x :: t, h => by
    show (if isDg x = true then x :: run f t else []) = (if isDg x = true then x :: run (f + 1) t else [])
    by_cases hx : isDg x = true
    · rw [if_pos hx, if_pos hx]
      have e : run (f + 1 + 1) (x :: t) = x :: run (f + 1) t := by
        show (if isDg x = true then x :: run (f + 1) t else []) = _
        rw [if_pos hx]
      rw [e] at h
      rw [run_eq2 f t (by simpa using h)]
    · rw [if_neg hx, if_neg hx]
theorem mo_step {bs w : List UInt8} {most e : Nat} {b : UInt8} (hw : (bs.drop e).take w.length = w) (h0 : 0 ≤ (mdec bs b (e + w.length)).1) (hm : (mdec bs b (e + w.length)).1 ≤ most) : pnum bs w most e = ((mdec bs b (e + w.length)).1, (mdec bs b (e + w.length)).2 - 1) ∧ bs[(mdec bs b (e + w.length)).2 - 1]? = some b := by
  unfold mdec at h0 hm ⊢
  by_cases hc : 1 ≤ (run 11 (bs.drop (e + w.length))).length ∧ (run 11 (bs.drop (e + w.length))).length ≤ 10 ∧ ((run 11 (bs.drop (e + w.length))).length = 1 ∨ bs.getD (e + w.length) 0 ≠ 48) ∧ bs[e + w.length + (run 11 (bs.drop (e + w.length))).length]? = some b
  · rw [if_pos hc] at h0 hm ⊢
    have er : run 10 (bs.drop (e + w.length)) = run 11 (bs.drop (e + w.length)) := run_eq2 10 (bs.drop (e + w.length)) hc.2.1
    have hc1 := hc.1
    refine ⟨?_, hc.2.2.2⟩
    unfold pnum
    rw [if_pos hw]
    show (if _ then _ else _, _) = _
    rw [er, if_neg]
    · rfl
    · rintro (q | q | q)
      · omega
      · rcases hc.2.2.1 with q1 | q1
        · omega
        · exact q1 q.2
      · have hm' : (dval 0 (run 11 (bs.drop (e + w.length))) : Int) ≤ most := hm
        omega
  · rw [if_neg hc] at h0
    exact absurd h0 (by show ¬ (0 : Int) ≤ -1; decide)
theorem pl_step {bs w : List UInt8} {most e : Nat} {b : UInt8} (h : (pnum bs w most e).1 ≠ -1) (hb : bs[(pnum bs w most e).2]? = some b) (hd : isDg b = false) : (bs.drop e).take w.length = w ∧ mdec bs b (e + w.length) = ((pnum bs w most e).1, (pnum bs w most e).2 + 1) := by
  unfold pnum at h hb ⊢
  by_cases hw : (bs.drop e).take w.length = w
  · rw [if_pos hw] at h hb ⊢
    refine ⟨hw, ?_⟩
    have hb' : bs[e + w.length + (run 10 (bs.drop (e + w.length))).length]? = some b := hb
    have er := run_eq 10 (bs.drop (e + w.length)) b (by rw [List.getElem?_drop]; exact hb') hd
    have hl := run_len 10 (bs.drop (e + w.length))
    by_cases hc : (run 10 (bs.drop (e + w.length))).length = 0 ∨ (2 ≤ (run 10 (bs.drop (e + w.length))).length ∧ bs.getD (e + w.length) 0 = 48) ∨ most < dval 0 (run 10 (bs.drop (e + w.length)))
    · have h' : (if (run 10 (bs.drop (e + w.length))).length = 0 ∨ (2 ≤ (run 10 (bs.drop (e + w.length))).length ∧ bs.getD (e + w.length) 0 = 48) ∨ most < dval 0 (run 10 (bs.drop (e + w.length))) then (-1 : Int) else (dval 0 (run 10 (bs.drop (e + w.length))) : Int)) ≠ -1 := h
      rw [if_pos hc] at h'
      exact absurd rfl h'
    · unfold mdec
      show _ = ((if (run 10 (bs.drop (e + w.length))).length = 0 ∨ (2 ≤ (run 10 (bs.drop (e + w.length))).length ∧ bs.getD (e + w.length) 0 = 48) ∨ most < dval 0 (run 10 (bs.drop (e + w.length))) then (-1 : Int) else (dval 0 (run 10 (bs.drop (e + w.length))) : Int)), e + w.length + (run 10 (bs.drop (e + w.length))).length + 1)
      rw [if_neg hc, show run 11 (bs.drop (e + w.length)) = run 10 (bs.drop (e + w.length)) from er, if_pos]
      refine ⟨by omega, hl, ?_, hb'⟩
      by_cases h1 : (run 10 (bs.drop (e + w.length))).length = 1
      · exact Or.inl h1
      · exact Or.inr (fun q => hc (Or.inr (Or.inl ⟨by omega, q⟩)))
  · rw [if_neg hw] at h
    exact absurd rfl h
theorem word_split {bs w : List UInt8} {e : Nat} {b : UInt8} : (bs.drop e).take (b :: w).length = b :: w ↔ bs[e]? = some b ∧ (bs.drop (e + 1)).take w.length = w := by
  by_cases h : e < bs.length
  · rw [List.drop_eq_getElem_cons h, List.getElem?_eq_getElem h, List.length_cons, List.take_succ_cons]
    constructor
    · intro q
      have := List.cons.inj q
      exact ⟨by rw [this.1], this.2⟩
    · rintro ⟨q1, q2⟩
      rw [Option.some.inj q1, q2]
  · rw [List.drop_eq_nil_of_le (by omega), List.getElem?_eq_none (by omega)]
    simp
def moA (bs : List UInt8) : Int × Nat := mdec bs 32 5
def moB (bs : List UInt8) : Int × Nat := mdec bs 32 ((moA bs).2 + 3)
def moC (bs : List UInt8) : Int × Nat := mdec bs 32 ((moB bs).2 + 5)
def moD (bs : List UInt8) : Int × Nat := mdec bs 10 ((moC bs).2 + 6)
def moOk (bs : List UInt8) : Prop := (bs.drop 0).take (txt 0).length = txt 0 ∧ 0 ≤ (moA bs).1 ∧ (bs.drop (moA bs).2).take ((txt 1).drop 1).length = (txt 1).drop 1 ∧ 0 ≤ (moB bs).1 ∧ (bs.drop (moB bs).2).take ((txt 2).drop 1).length = (txt 2).drop 1 ∧ 0 ≤ (moC bs).1 ∧ (bs.drop (moC bs).2).take ((txt 3).drop 1).length = (txt 3).drop 1 ∧ 0 ≤ (moD bs).1 ∧ (moD bs).1 ≤ 4294967295 ∧ (moC bs).1 ≤ 48000 ∧ 1 ≤ (moB bs).1 ∧ (moB bs).1 ≤ 999 ∧ 1 ≤ (moA bs).1 ∧ (moA bs).1 ≤ (moB bs).1
theorem mdec_pos (bs : List UInt8) (b : UInt8) (h : Nat) : 1 ≤ (mdec bs b h).2 := by
  unfold mdec
  show 1 ≤ h + _ + 1
  omega
theorem mo_pl {bs : List UInt8} (h : moOk bs) : plOk bs ∧ plK bs = ((moA bs).1, (moA bs).2 - 1) ∧ plN bs = ((moB bs).1, (moB bs).2 - 1) ∧ plS bs = ((moC bs).1, (moC bs).2 - 1) ∧ plC bs = ((moD bs).1, (moD bs).2 - 1) := by
  obtain ⟨x1, x2, x3, y1, y2, y3⟩ := txd
  obtain ⟨t0, t1, t2, t3⟩ := txl
  obtain ⟨w0, a0, w1, b0, w2, c0, w3, d0, d1, c1, b1, b2, a1, ab⟩ := h
  have pA := mdec_pos bs 32 5
  have pB := mdec_pos bs 32 ((moA bs).2 + 3)
  have pC := mdec_pos bs 32 ((moB bs).2 + 5)
  have pD := mdec_pos bs 10 ((moC bs).2 + 6)
  have eA : moA bs = mdec bs 32 (0 + (txt 0).length) := by rw [t0]; rfl
  obtain ⟨hK, kb⟩ := mo_step (bs := bs) (w := txt 0) (most := 999) (e := 0) (b := 32) w0 (by rw [← eA]; exact a0) (by rw [← eA]; omega)
  rw [← eA] at hK kb
  have hK' : plK bs = ((moA bs).1, (moA bs).2 - 1) := hK
  have pA' : 1 ≤ (moA bs).2 := pA
  have w1' : (bs.drop ((moA bs).2 - 1)).take (txt 1).length = txt 1 := by
    rw [x1]
    refine word_split.mpr ⟨kb, ?_⟩
    rw [show (moA bs).2 - 1 + 1 = (moA bs).2 by omega]
    exact w1
  have eB : moB bs = mdec bs 32 ((moA bs).2 - 1 + (txt 1).length) := by rw [t1, show (moA bs).2 - 1 + 4 = (moA bs).2 + 3 by omega]; rfl
  obtain ⟨hN, nb⟩ := mo_step (bs := bs) (w := txt 1) (most := 999) (e := (moA bs).2 - 1) (b := 32) w1' (by rw [← eB]; exact b0) (by rw [← eB]; exact b2)
  rw [← eB] at hN nb
  have hN' : plN bs = ((moB bs).1, (moB bs).2 - 1) := by unfold plN; rw [hK']; exact hN
  have pB' : 1 ≤ (moB bs).2 := pB
  have w2' : (bs.drop ((moB bs).2 - 1)).take (txt 2).length = txt 2 := by
    rw [x2]
    refine word_split.mpr ⟨nb, ?_⟩
    rw [show (moB bs).2 - 1 + 1 = (moB bs).2 by omega]
    exact w2
  have eC : moC bs = mdec bs 32 ((moB bs).2 - 1 + (txt 2).length) := by rw [t2, show (moB bs).2 - 1 + 6 = (moB bs).2 + 5 by omega]; rfl
  obtain ⟨hS, sb'⟩ := mo_step (bs := bs) (w := txt 2) (most := 48000) (e := (moB bs).2 - 1) (b := 32) w2' (by rw [← eC]; exact c0) (by rw [← eC]; exact c1)
  rw [← eC] at hS sb'
  have hS' : plS bs = ((moC bs).1, (moC bs).2 - 1) := by unfold plS; rw [hN']; exact hS
  have pC' : 1 ≤ (moC bs).2 := pC
  have w3' : (bs.drop ((moC bs).2 - 1)).take (txt 3).length = txt 3 := by
    rw [x3]
    refine word_split.mpr ⟨sb', ?_⟩
    rw [show (moC bs).2 - 1 + 1 = (moC bs).2 by omega]
    exact w3
  have eD : moD bs = mdec bs 10 ((moC bs).2 - 1 + (txt 3).length) := by rw [t3, show (moC bs).2 - 1 + 7 = (moC bs).2 + 6 by omega]; rfl
  obtain ⟨hC, cb⟩ := mo_step (bs := bs) (w := txt 3) (most := 4294967295) (e := (moC bs).2 - 1) (b := 10) w3' (by rw [← eD]; exact d0) (by rw [← eD]; exact d1)
  rw [← eD] at hC cb
  have hC' : plC bs = ((moD bs).1, (moD bs).2 - 1) := by unfold plC; rw [hS']; exact hC
  refine ⟨⟨?_, ?_, ?_, ?_, ?_⟩, hK', hN', hS', hC'⟩
  · rw [hC']
    obtain ⟨hlt, he⟩ := List.getElem?_eq_some_iff.mp cb
    show gt bs (((moD bs).2 - 1 : Nat) : Int) = 10
    rw [gt_in hlt, he]
    rfl
  · rw [hK']; exact a1
  · rw [hK', hN']; exact ab
  · rw [hS']; show (moC bs).1 ≠ -1; omega
  · rw [hC']; show (moD bs).1 ≠ -1; omega
theorem pl_mo {bs : List UInt8} (h : plOk bs) : moOk bs := by
  obtain ⟨x1, x2, x3, y1, y2, y3⟩ := txd
  obtain ⟨t0, t1, t2, t3⟩ := txl
  obtain ⟨g10, k1, kn, s1, c1⟩ := h
  have rK := pnum_rng bs (txt 0) 999 0
  have rN := pnum_rng bs (txt 1) 999 (plK bs).2
  have rS := pnum_rng bs (txt 2) 48000 (plN bs).2
  have rC := pnum_rng bs (txt 3) 4294967295 (plS bs).2
  rw [show pnum bs (txt 0) 999 0 = plK bs from rfl] at rK
  rw [show pnum bs (txt 1) 999 (plK bs).2 = plN bs from rfl] at rN
  rw [show pnum bs (txt 2) 48000 (plN bs).2 = plS bs from rfl] at rS
  rw [show pnum bs (txt 3) 4294967295 (plS bs).2 = plC bs from rfl] at rC
  have hw : ∀ {w : List UInt8} {most e : Nat}, (pnum bs w most e).1 ≠ -1 → (bs.drop e).take w.length = w := by
    intro w most e hn
    unfold pnum at hn
    by_cases q : (bs.drop e).take w.length = w
    · exact q
    · rw [if_neg q] at hn
      exact absurd rfl hn
  have w1 : (bs.drop (plK bs).2).take (txt 1).length = txt 1 := hw (most := 999) (by show (plN bs).1 ≠ -1; omega)
  have w2 : (bs.drop (plN bs).2).take (txt 2).length = txt 2 := hw (most := 48000) (by show (plS bs).1 ≠ -1; exact s1)
  have w3 : (bs.drop (plS bs).2).take (txt 3).length = txt 3 := hw (most := 4294967295) (by show (plC bs).1 ≠ -1; exact c1)
  rw [x1] at w1
  rw [x2] at w2
  rw [x3] at w3
  obtain ⟨v1, u1⟩ := word_split.mp w1
  obtain ⟨v2, u2⟩ := word_split.mp w2
  obtain ⟨v3, u3⟩ := word_split.mp w3
  have v4 : bs[(plC bs).2]? = some 10 := by
    by_cases hin : (plC bs).2 < bs.length
    · rw [gt_in hin] at g10
      rw [List.getElem?_eq_getElem hin]
      congr 1
      exact UInt8.toNat_inj.mp (by show _ = 10; omega)
    · rw [gt_out (Or.inr (by omega))] at g10
      exact absurd g10 (by decide)
  have d32 : isDg 32 = false := by decide
  have d10 : isDg 10 = false := by decide
  obtain ⟨z0, mA⟩ := pl_step (bs := bs) (w := txt 0) (most := 999) (e := 0) (b := 32) (by show (plK bs).1 ≠ -1; omega) v1 d32
  obtain ⟨z1, mB⟩ := pl_step (bs := bs) (w := txt 1) (most := 999) (e := (plK bs).2) (b := 32) (by show (plN bs).1 ≠ -1; omega) v2 d32
  obtain ⟨z2, mC⟩ := pl_step (bs := bs) (w := txt 2) (most := 48000) (e := (plN bs).2) (b := 32) (by show (plS bs).1 ≠ -1; exact s1) v3 d32
  obtain ⟨z3, mD⟩ := pl_step (bs := bs) (w := txt 3) (most := 4294967295) (e := (plS bs).2) (b := 10) (by show (plC bs).1 ≠ -1; exact c1) v4 d10
  have eA : moA bs = ((plK bs).1, (plK bs).2 + 1) := by rw [t0] at mA; exact mA
  have eB : moB bs = ((plN bs).1, (plN bs).2 + 1) := by
    unfold moB
    rw [eA]
    rw [t1] at mB
    exact mB
  have eC : moC bs = ((plS bs).1, (plS bs).2 + 1) := by
    unfold moC
    rw [eB]
    rw [t2] at mC
    exact mC
  have eD : moD bs = ((plC bs).1, (plC bs).2 + 1) := by
    unfold moD
    rw [eC]
    rw [t3] at mD
    exact mD
  unfold moOk
  rw [eA, eB, eC, eD]
  exact ⟨z0, by show 0 ≤ (plK bs).1; omega, u1, by show 0 ≤ (plN bs).1; omega, u2, by show 0 ≤ (plS bs).1; omega, u3, by show 0 ≤ (plC bs).1; omega, by show (plC bs).1 ≤ 4294967295; omega, by show (plS bs).1 ≤ 48000; omega, by show 1 ≤ (plN bs).1; omega, by show (plN bs).1 ≤ 999; omega, by show 1 ≤ (plK bs).1; omega, by show (plK bs).1 ≤ (plN bs).1; omega⟩
