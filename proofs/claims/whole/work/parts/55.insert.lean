/-! An entry comes into a tree of MailChain's. -/
/-- what a tree says of an entry that wants to come in: 0, or what forbids it -/
def InsR (T : Tre) (p : List UInt8) (more : Nat) (v : Nat) : Prop :=
  (v = 2 ∧ ¬ (pathOk [] p = true ∧ parentOk T p)) ∨
  (v = 3 ∧ (pathOk [] p = true ∧ parentOk T p) ∧ (∃ e ∈ T, e.path = p)) ∨
  (v = 4 ∧ (pathOk [] p = true ∧ parentOk T p) ∧ (∀ e ∈ T, e.path ≠ p) ∧ (40 ≤ T.length ∨ 6000 < conts T + more)) ∨
  (v = 0 ∧ (pathOk [] p = true ∧ parentOk T p) ∧ (∀ e ∈ T, e.path ≠ p) ∧ T.length < 40 ∧ conts T + more ≤ 6000)
section TREE2
variable {M : zM} {t : Nat} {T : Tre}
/-- the entries' row, one put in at pl -/
def shf (f : Nat → Nat) (pl n : Nat) (j : Nat) : Nat := if j < pl then f j else if j = pl then f n else if j ≤ n then f (j - 1) else f j
theorem zR_g (M : zM) (k j v : Nat) (a b : Nat) : (zR M k j v).2.2 a b = if a = k ∧ b = j then v else M.2.2 a b := by
  show (if a = k then va_up (M.2.2 a) j v else M.2.2 a) b = _
  by_cases h : a = k
  · subst h
    rw [if_pos rfl]
    show (if b = j then v else M.2.2 a b) = _
    simp
  · rw [if_neg h, if_neg (fun q => h q.1)]
theorem s_insertDraft {p : List UInt8} {kd sz : Nat} {post : Int32 → zM → Prop} (hT : isT t) (h : TrI M t T) (hV : TOk T) (hR : Rw M (M.2.2 (t + 1) T.length + 1) p) (hk : M.1 (M.2.2 (t + 1) T.length) 1 = ii kd) (hkd : kd ≤ 2) (hs : M.1 (M.2.2 (t + 1) T.length) 7 = ii sz) (hsz : sz ≤ 100000)
    (kb : ∀ v, InsR T p (if kd = 1 then sz else 0) v → v ≠ 0 → post (ii v) M)
    (kk : ∀ M', InsR T p (if kd = 1 then sz else 0) 0 → FrT t M M' → (∀ k, k ≠ t → M'.1 k = M.1 k) → M'.1 t 2 = ii ((T.length + 1 : Nat) : Int) → M'.1 t 3 = ii ((conts T + (if kd = 1 then sz else 0) : Nat) : Int) → (∀ k, k ≠ t + 1 → M'.2.2 k = M.2.2 k) → (∀ j, M'.2.2 (t + 1) j = shf (M.2.2 (t + 1)) (plc p T) T.length j) → post 0 M') : Wp_Tr_insertDraft t M post := by
  have hl := h.2.2.2.1
  have hcn := h.2.2.2.2.1
  have f := hT.facts
  have hpl := hR.len
  have hS := hV.2.1
  have hple := plc_le p T
  obtain ⟨bd, b1, b2, b3⟩ := h.2.2.2.2.2
  have ed := ent_at hT h.1 (show T.length < 41 by omega)
  have b2' : ∀ v : Nat, v ≤ 4 → InsR T p (if kd = 1 then sz else 0) v → v ≠ 0 → post (ii (v : Int)) M := fun v _ a b => kb v a b
  unfold Wp_Tr_insertDraft
  intro K67 K83 K113 h67 h83 h113
  refine s_Tr_draft hT h ⟨ed.1, ed.2.1, s_hasSoundPath hR ?_⟩
  by_cases c1 : pathOk [] p = true
  · rw [if_pos c1]
    refine ⟨fun z => absurd z (by decide), fun _ => s_hasParentOf hT h hV hR (fun c2 => ⟨fun _ => ?_, fun z => absurd z (by decide)⟩) (fun c2 => ⟨fun z => absurd rfl z, fun _ => b2' 2 (by omega) (Or.inl ⟨rfl, fun z => c2 z.2⟩) (by decide)⟩)⟩
    have free : (∀ e ∈ T, e.path ≠ p) → K67 (M.2.2 (t + 1) T.length) (ii (plc p T : Nat)) M := by
      intro hfree
      refine h67 _ _ _ ⟨ed.1, ed.2.1, ?_⟩
      have main : ∀ w : Nat, w = (if kd = 1 then sz else 0) → K83 (M.2.2 (t + 1) T.length) (ii (plc p T : Nat)) (ii (w : Int)) M := by
        intro w hw
        have hw2 : w ≤ 100000 := by rw [hw]; split <;> omega
        refine h83 _ _ _ _ ⟨ed.1, ed.2.1, ?_⟩
        rw [h.2.1, show (40 : Int32) = ii 40 from rfl, ii_le (by omega) (by omega) (by omega) (by omega)]
        refine ⟨fun q => b2' 4 (by omega) (Or.inr (Or.inr (Or.inl ⟨rfl, ⟨c1, c2⟩, hfree, Or.inl (by omega)⟩))) (by decide), fun q => ?_⟩
        rw [h.2.2.1, ii_add, show (6000 : Int32) = ii 6000 from rfl, ii_le (by omega) (by omega) (by omega) (by omega)]
        refine ⟨fun q2 => ?_, fun q2 => b2' 4 (by omega) (Or.inr (Or.inr (Or.inl ⟨rfl, ⟨c1, c2⟩, hfree, Or.inr (by omega)⟩))) (by decide)⟩
        rintro x rfl
        have hok : InsR T p (if kd = 1 then sz else 0) 0 := Or.inr (Or.inr (Or.inr ⟨rfl, ⟨c1, c2⟩, hfree, by omega, by omega⟩))
        suffices H : ∀ (m i : Nat) (M1 : zM), plc p T + m = i → i ≤ T.length → M1.1 = M.1 → M1.2.1 = M.2.1 → (∀ k, k ≠ t + 1 → M1.2.2 k = M.2.2 k) → (∀ j, M1.2.2 (t + 1) j = if i < j ∧ j ≤ T.length then M.2.2 (t + 1) (j - 1) else M.2.2 (t + 1) j) → K113 (M.2.2 (t + 1) T.length) (ii (plc p T : Nat)) (ii (w : Int)) (ii (i : Int)) M1 from
          H (T.length - plc p T) T.length M (by omega) (Nat.le_refl _) rfl rfl (fun _ _ => rfl) (fun j => by rw [if_neg (by omega)])
        intro m
        induction m with
        | zero =>
          intro i M1 hi hil e1 e2 e3 e4
          refine h113 _ _ _ _ _ ⟨ed.1, ed.2.1, fun _ => ⟨ii_in (by omega) (by omega) (by omega), ?_⟩, fun z => absurd (by rw [ii_le (by omega) (by omega) (by omega) (by omega)]; omega) z⟩
          rw [ii_nat (by omega) (by omega), Int.toNat_natCast]
          rintro M15 hM15 M16 hM16 M17 hM17
          have g1 : M15.1 = M.1 := by rw [hM15]; exact e1
          have g2 : M16.1 t 3 = M.1 t 3 := by rw [hM16, zI_g, if_neg (fun z => absurd z.2 (by decide)), g1]
          rw [g1, h.2.1] at hM16
          rw [g2, h.2.2.1, ii_add] at hM17
          refine kk M17 hok (fun k hk => ⟨?_, ?_, ?_⟩) (fun k hk => ?_) ?_ ?_ (fun k hk => ?_) (fun j => ?_)
          · rw [hM17, zI_o (by omega), hM16, zI_o (by omega), g1]
          · rw [hM17, hM16, hM15]; show M1.2.1 k = _; rw [e2]
          · rw [hM17, hM16, hM15]
            show (zR M1 (t + 1) (plc p T) (M.2.2 (t + 1) T.length)).2.2 k = _
            rw [zR_o (by omega)]
            exact e3 k (by omega)
          · rw [hM17, zI_o hk, hM16, zI_o hk, g1]
          · rw [hM17, zI_g, if_neg (fun z => absurd z.2 (by decide)), hM16, zI_g, if_pos ⟨rfl, rfl⟩, show (1 : Int32) = ii 1 from rfl, ii_add]
            rfl
          · rw [hM17, zI_g, if_pos ⟨rfl, rfl⟩, ← hw]
            rfl
          · rw [hM17, hM16, hM15]
            show (zR M1 (t + 1) (plc p T) (M.2.2 (t + 1) T.length)).2.2 k = _
            rw [zR_o hk]
            exact e3 k hk
          · rw [hM17, hM16, hM15]
            show (zR M1 (t + 1) (plc p T) (M.2.2 (t + 1) T.length)).2.2 (t + 1) j = _
            rw [zR_g, e4]
            unfold shf
            by_cases q : j = plc p T
            · rw [if_pos ⟨rfl, q⟩, if_neg (by omega), if_pos q]
            · rw [if_neg (fun z => q z.2)]
              by_cases q3 : j < plc p T
              · rw [if_neg (by omega), if_pos q3]
              · rw [if_neg q3, if_neg q]
                by_cases q4 : j ≤ T.length
                · rw [if_pos (by omega), if_pos q4]
                · rw [if_neg (by omega), if_neg q4]
        | succ m ih =>
          intro i M1 hi hil e1 e2 e3 e4
          refine h113 _ _ _ _ _ ⟨ed.1, ed.2.1, fun z => ?_, fun _ => ?_⟩
          · rw [ii_le (by omega) (by omega) (by omega) (by omega)] at z
            omega
          · rw [show (1 : Int32) = ii 1 from rfl, ii_sub, show ((i : Int) - 1) = ((i - 1 : Nat) : Int) by omega]
            refine ⟨ii_in (by omega) (by omega) (by omega), ?_⟩
            rintro r rfl
            rw [ii_nat (by omega) (by omega), Int.toNat_natCast, ii_nat (by omega) (by omega), Int.toNat_natCast, e4, if_neg (by omega)]
            have ei := ent_at hT h.1 (show i - 1 < 41 by omega)
            refine ⟨ei.1, ei.2.1, ii_in (by omega) (by omega) (by omega), ?_⟩
            rintro M19 hM19 x rfl
            rw [show (-ii 1 : Int32) = ii (-1) from rfl, ii_add, show ((i : Int) + -1) = ((i - 1 : Nat) : Int) by omega]
            refine ih (i - 1) M19 (by omega) (by omega) (by rw [hM19]; exact e1) (by rw [hM19]; exact e2) (fun k hk => by rw [hM19, zR_o hk]; exact e3 k hk) (fun j => ?_)
            rw [hM19, zR_g, e4]
            by_cases q : j = i
            · rw [if_pos ⟨rfl, q⟩, if_pos (by omega), q]
            · rw [if_neg (fun z => q z.2)]
              by_cases q2 : i < j ∧ j ≤ T.length
              · rw [if_pos q2, if_pos (by omega)]
              · rw [if_neg q2, if_neg (by omega)]
      rw [hk, show (1 : Int32) = ii 1 from rfl, ii_eq (by omega) (by omega) (by omega) (by omega), hs]
      refine ⟨fun q => main 0 (by rw [if_neg (by omega)]), fun q => main sz (by rw [if_pos (by omega)])⟩
    rw [hR.1]
    have ep : p.take p.length = p := List.take_length
    refine s_placeOf hT h hR (Nat.le_refl _) ?_
    rw [ep]
    refine s_Tr_has h (by omega) (by omega) ?_
    by_cases c : plc p T < T.length
    · rw [if_pos (by omega)]
      refine ⟨fun z => absurd z (by decide), fun _ => ⟨ii_in (by omega) (by omega) (by omega), ?_⟩⟩
      rintro r rfl
      rw [ii_nat (by omega) (by omega), Int.toNat_natCast]
      have e1 := ent_at hT h.1 (show plc p T < 41 by omega)
      refine ⟨e1.1, e1.2.1, s_same (b3 _ c).1 hR ?_⟩
      by_cases c3 : T[plc p T].path = p
      · rw [if_pos c3]
        exact ⟨fun z => absurd z (by decide), fun _ => b2' 3 (by omega) (Or.inr (Or.inl ⟨rfl, ⟨c1, c2⟩, _, List.getElem_mem c, c3⟩)) (by decide)⟩
      · rw [if_neg c3]
        refine ⟨fun _ => free (fun y y1 y2 => c3 ?_), fun z => absurd rfl z⟩
        rw [(srt_find p T hS y y1 y2).2]
        exact y2
    · rw [if_neg (by omega)]
      exact ⟨fun _ => free (fun y y1 y2 => c (srt_find p T hS y y1 y2).1), fun z => absurd rfl z⟩
  · rw [if_neg c1]
    exact ⟨fun _ => b2' 2 (by omega) (Or.inl ⟨rfl, fun z => c1 z.1⟩) (by decide), fun z => absurd rfl z⟩
end TREE2
