/-! The reference's box. -/
/-- only these fields of the reference, its longs, and these arrays have changed -/
def OnlyQ (F S : List Nat) (M M' : zM) : Prop := (∀ k, k ∉ S → k ≠ 413 → M'.1 k = M.1 k) ∧ (∀ j, j ∉ F → M'.1 413 j = M.1 413 j) ∧ (∀ k, k ≠ 413 → M'.2.1 k = M.2.1 k) ∧ M'.2.2 = M.2.2
theorem OnlyQ.rf {F S : List Nat} {M : zM} : OnlyQ F S M M := ⟨fun _ _ _ => rfl, fun _ _ => rfl, fun _ _ => rfl, rfl⟩
theorem OnlyQ.trans {F S : List Nat} {M M' M'' : zM} (h : OnlyQ F S M M') (h' : OnlyQ F S M' M'') : OnlyQ F S M M'' := ⟨fun k hk hk2 => (h'.1 k hk hk2).trans (h.1 k hk hk2), fun j hj => (h'.2.1 j hj).trans (h.2.1 j hj), fun k hk => (h'.2.2.1 k hk).trans (h.2.2.1 k hk), h'.2.2.2.trans h.2.2.2⟩
theorem OnlyQ.mono {F S F' S' : List Nat} {M M' : zM} (h : OnlyQ F S M M') (hf : ∀ k, k ∈ F → k ∈ F') (hs : ∀ k, k ∈ S → k ∈ S') : OnlyQ F' S' M M' := ⟨fun k hk => h.1 k (fun q => hk (hs k q)), fun j hj => h.2.1 j (fun q => hj (hf j q)), h.2.2.1, h.2.2.2⟩
theorem OnlyQ.fld {F S : List Nat} {M M' : zM} {j : Nat} {v : Int32} (h : OnlyQ F S M M') (hj : j ∈ F) : OnlyQ F S M (zI M' 413 j v) := by
  refine ⟨fun a ha ha2 => (zI_o ha2).trans (h.1 a ha ha2), fun i hi => ?_, h.2.2⟩
  rw [zI_g, if_neg (fun q => hi (by rw [q.2]; exact hj))]
  exact h.2.1 i hi
theorem OnlyQ.arr {F S : List Nat} {M M' : zM} {k j : Nat} {v : Int32} (h : OnlyQ F S M M') (hk : k ∈ S) (hk2 : k ≠ 413) : OnlyQ F S M (zI M' k j v) := by
  refine ⟨fun a ha ha2 => (zI_o (fun e => ha (by rw [e]; exact hk))).trans (h.1 a ha ha2), fun i hi => ?_, h.2.2⟩
  rw [zI_o (fun e => hk2 e.symm)]
  exact h.2.1 i hi
theorem OnlyQ.lng {F S : List Nat} {M M' : zM} {j : Nat} {v : Int64} (h : OnlyQ F S M M') : OnlyQ F S M (zL M' 413 j v) := ⟨h.1, h.2.1, fun k hk => (zL_o hk).trans (h.2.2.1 k hk), h.2.2.2⟩
theorem OnlyR.q {F S : List Nat} {M M' : zM} (h : OnlyR F S M M') : OnlyQ F S M M' := ⟨h.1, h.2.1, fun k _ => by rw [h.2.2], by rw [h.2.2]⟩
theorem OnlyQ.frm {F S : List Nat} {M M' : zM} (h : OnlyQ F S M M') : Frm (413 :: S) M M' := fun k hk => ⟨h.1 k (fun q => hk (List.mem_cons_of_mem _ q)) (fun q => hk (by rw [q]; exact List.mem_cons_self)), h.2.2.1 k (fun q => hk (by rw [q]; exact List.mem_cons_self)), by rw [h.2.2.2]⟩
theorem Cw.onlyQ {F S : List Nat} {M M' : zM} {f k : Nat} {bs : List UInt8} (h : Cw M f k bs) (ho : OnlyQ F S M M') (h1 : f ∉ F) (h2 : k ∉ S) (h3 : k ≠ 413) : Cw M' f k bs := ⟨by rw [ho.2.1 f h1]; exact h.1, h.2.1, fun i hi => by rw [ho.1 k h2 h3]; exact h.2.2 i hi⟩
theorem Ab.onlyQ {F S : List Nat} {M M' : zM} {k : Nat} {bs : List UInt8} (h : Ab M k bs) (ho : OnlyQ F S M M') (h2 : k ∉ S) (h3 : k ≠ 413) : Ab M' k bs := ⟨h.1, fun i hi => by rw [ho.1 k h2 h3]; exact h.2 i hi⟩
theorem Ab.onlyR {F S : List Nat} {M M' : zM} {k : Nat} {bs : List UInt8} (h : Ab M k bs) (ho : OnlyR F S M M') (h2 : k ∉ S) (h3 : k ≠ 413) : Ab M' k bs := h.onlyQ ho.q h2 h3
theorem WoI.onlyQ {F S : List Nat} {M M' : zM} (h : WoI M) (ho : OnlyQ F S M M') (h3 : 413 + 3 ∉ S) (h4 : 413 + 4 ∉ S) (h5 : 413 + 5 ∉ S) (h6 : 413 + 6 ∉ S) : WoI M' := ⟨h.1.onlyQ ho h3 (by decide), h.2.1.onlyQ ho h4 (by decide), h.2.2.1.onlyQ ho h5 (by decide), h.2.2.2.onlyQ ho h6 (by decide)⟩
theorem MmI.onlyQ {F S' : List Nat} {M M' : zM} {S T : List UInt8} {L n : Nat} (h : MmI M S T L n) (ho : OnlyQ F S' M M') (hF : ∀ j, j ∈ F → j ≠ 31 ∧ j ≠ 32 ∧ j ≠ 33 ∧ j ≠ 35) (hS : 413 + 25 ∉ S' ∧ 413 + 26 ∉ S') : MmI M' S T L n := by
  obtain ⟨a1, a2, a3, a4, a5, a6⟩ := h
  exact ⟨a1.onlyQ ho (fun c => (hF _ c).2.2.1 rfl) hS.1 (by decide), a2.onlyQ ho (fun c => (hF _ c).2.2.2 rfl) hS.2 (by decide), by rw [ho.2.1 31 (fun c => (hF _ c).1 rfl)]; exact a3, fun hn => by rw [ho.2.1 32 (fun c => (hF _ c).2.1 rfl)]; exact a4 hn, a5, a6⟩
def BmI (M : zM) (of : Nat) (B : Bx) : Prop :=
  M.1 413 38 = ii B.length ∧ (B ≠ [] → M.1 413 37 = ii of) ∧ M.2.1 413 39 = ll (bxAll B).length ∧
  (∀ k, k < 1000 → M.1 (413 + 27) k = match bxLook k B with | some _ => 1 | none => 0) ∧
  ((bxAll B).length ≤ 48000 → Cw M 43 (413 + 30) (bxAll B) ∧ ∀ k p, bxLook k B = some p → M.1 (413 + 28) k = ii p.length ∧ M.1 (413 + 29) k = ii (bxOff k B))
theorem BmI.onlyR {F S : List Nat} {M M' : zM} {of : Nat} {B : Bx} (h : BmI M of B) (ho : OnlyR F S M M') (h1 : 37 ∉ F) (h2 : 38 ∉ F) (h3 : 43 ∉ F) (h4 : ∀ j, j ∈ S → j ≠ 413 + 27 ∧ j ≠ 413 + 28 ∧ j ≠ 413 + 29 ∧ j ≠ 413 + 30) : BmI M' of B := by
  obtain ⟨a1, a2, a3, a4, a5⟩ := h
  have e27 := ho.1 (413 + 27) (fun q => (h4 _ q).1 rfl) (by decide)
  have e28 := ho.1 (413 + 28) (fun q => (h4 _ q).2.1 rfl) (by decide)
  have e29 := ho.1 (413 + 29) (fun q => (h4 _ q).2.2.1 rfl) (by decide)
  refine ⟨by rw [ho.2.1 38 h2]; exact a1, fun q => by rw [ho.2.1 37 h1]; exact a2 q, by rw [ho.2.2]; exact a3, fun k hk => by rw [e27]; exact a4 k hk, fun ht => ⟨(a5 ht).1.only ho h3 (fun q => (h4 _ q).2.2.2 rfl) (by decide), fun k p hp => ?_⟩⟩
  rw [e28, e29]
  exact (a5 ht).2 k p hp
theorem s_Mo_emptyBox {M : zM} {post : zM → Prop} (k : ∀ M', OnlyQ [38, 43] [413 + 27] M M' → BmI M' 0 [] → post M') : Wp_Mo_emptyBox 413 M post := by
  have hln : ln (413 + 27) = 1000 := by decide +kernel
  unfold Wp_Mo_emptyBox
  intro K hK
  rintro M1 rfl M2 rfl M3 hM3
  have o3 : OnlyQ [38, 43] [413 + 27] M M3 := by
    rw [hM3]
    exact ((OnlyQ.rf.fld (by simp)).lng).fld (by simp)
  have g38 : M3.1 413 38 = 0 := by
    rw [hM3, zI_g, if_neg (by decide)]
    show (zI M 413 38 0).1 413 38 = 0
    rw [zI_g, if_pos ⟨rfl, rfl⟩]
  have g43 : M3.1 413 43 = 0 := by rw [hM3, zI_g, if_pos ⟨rfl, rfl⟩]
  have g39 : M3.2.1 413 39 = 0 := by
    rw [hM3]
    show (zL (zI M 413 38 0) 413 39 0).2.1 413 39 = 0
    rw [zL_g, if_pos ⟨rfl, rfl⟩]
  suffices H : ∀ (m i : Nat) (M1 : zM), i + m = 1000 → OnlyQ [38, 43] [413 + 27] M M1 → M1.1 413 38 = 0 → M1.1 413 43 = 0 → M1.2.1 413 39 = 0 → (∀ j, j < i → M1.1 (413 + 27) j = 0) → K (ii i) M1 from H 1000 0 M3 rfl o3 g38 g43 g39 (fun j hj => absurd hj (by omega))
  intro m
  induction m with
  | zero =>
    intro i M1 hi ho e1 e2 e3 hv
    refine hK _ _ ⟨fun _ => ?_, fun c => absurd (by rw [show (1000 : Int32) = ii 1000 from rfl, ii_le (by omega) (by omega) (by omega) (by omega)]; omega) c⟩
    refine k M1 ho ⟨e1, fun q => absurd rfl q, e3, fun j hj => hv j (by omega), fun _ => ⟨⟨e2, by simp [bxAll], fun i hi => absurd hi (by simp [bxAll])⟩, fun j p hp => (by cases hp)⟩⟩
  | succ m ih =>
    intro i M1 hi ho e1 e2 e3 hv
    refine hK _ _ ⟨fun c => ?_, fun _ => ⟨ii_in (by omega) (by omega) (by omega), ?_⟩⟩
    · rw [show (1000 : Int32) = ii 1000 from rfl, ii_le (by omega) (by omega) (by omega) (by omega)] at c
      omega
    · rintro M4 rfl x rfl
      rw [show (1 : Int32) = ii 1 from rfl, ii_add, ii_nat (by omega) (by omega), Int.toNat_natCast]
      refine ih (i + 1) _ (by omega) (ho.arr (by simp) (by decide)) ?_ ?_ e3 (fun j hj => ?_)
      · rw [zI_o (by decide)]; exact e1
      · rw [zI_o (by decide)]; exact e2
      · rw [zI_g]
        by_cases c : j = i
        · rw [if_pos ⟨rfl, c⟩]
          decide
        · rw [if_neg (fun q => c q.2)]
          exact hv j (by omega)
theorem s_Mo_keep {M : zM} {r k of of' st : Nat} {B : Bx} {cs : List UInt8} {post : zM → Prop} (h : BmI M of B) (hok : BxOk of' (B ++ [(k, cs.drop st)])) (hk : bxLook k B = none) (hR : Ab M r cs) (hst : st ≤ cs.length) (hr : r ∉ [413, 413 + 27, 413 + 28, 413 + 29, 413 + 30])
    (kk : ∀ M', OnlyQ [37, 38, 43] [413 + 27, 413 + 28, 413 + 29, 413 + 30] M M' → BmI M' of' (B ++ [(k, cs.drop st)]) → post M') : Wp_Mo_keep 413 (ii k) (ii of') r (ii st) (ii ((cs.length - st : Nat) : Int)) M post := by
  have hcl := hR.1
  have hlr := ln_small r
  have l27 : ln (413 + 27) = 1000 := by decide +kernel
  have l28 : ln (413 + 28) = 1000 := by decide +kernel
  have l29 : ln (413 + 29) = 1000 := by decide +kernel
  have l30 : ln (413 + 30) = 70000 := by decide +kernel
  obtain ⟨h1, h2, h3, h4, h5⟩ := h
  have hkm := hok.2.1 (k, cs.drop st) (List.mem_append_right _ List.mem_cons_self)
  have hof := hok.2.2
  have hk999 : k ≤ 999 := by have := hkm.2.1; omega
  have htot := hok.len
  rw [bxAll_snoc, List.length_append, List.length_append, List.length_drop, List.length_cons, List.length_nil] at htot
  have hr' : r ≠ 413 ∧ r ≠ 413 + 27 ∧ r ≠ 413 + 28 ∧ r ≠ 413 + 29 ∧ r ≠ 413 + 30 := by simpa using hr
  unfold Wp_Mo_keep
  intro K hK
  rintro M1 rfl M2 hM2
  refine ⟨ii_in (by omega) (by omega) (by omega), ?_⟩
  rintro M3 hM3
  refine ⟨ii_in (by omega) (by omega) (by omega), ?_⟩
  rintro M4 hM4
  refine ⟨ii_in (by omega) (by omega) (by omega), ?_⟩
  rintro M5 hM5 M6 hM6
  rw [ii_nat (by omega) (by omega), Int.toNat_natCast] at hM3 hM4 hM5
  have o2 : OnlyQ [37, 38, 43] [413 + 27, 413 + 28, 413 + 29, 413 + 30] M M2 := by
    rw [hM2]
    exact (OnlyQ.rf.fld (by simp)).fld (by simp)
  have o3 : OnlyQ [37, 38, 43] [413 + 27, 413 + 28, 413 + 29, 413 + 30] M M3 := by
    rw [hM3]
    exact o2.arr (by simp) (by decide)
  have o4 : OnlyQ [37, 38, 43] [413 + 27, 413 + 28, 413 + 29, 413 + 30] M M4 := by
    rw [hM4]
    exact o3.arr (by simp) (by decide)
  have o5 : OnlyQ [37, 38, 43] [413 + 27, 413 + 28, 413 + 29, 413 + 30] M M5 := by
    rw [hM5]
    exact o4.arr (by simp) (by decide)
  have o6 : OnlyQ [37, 38, 43] [413 + 27, 413 + 28, 413 + 29, 413 + 30] M M6 := by
    rw [hM6]
    exact o5.lng
  have g : ∀ j, M6.1 413 j = if j = 38 then ii ((B.length : Int) + 1) else if j = 37 then ii of' else M.1 413 j := by
    intro j
    rw [hM6]
    show M5.1 413 j = _
    rw [hM5, zI_o (by decide), hM4, zI_o (by decide), hM3, zI_o (by decide), hM2, zI_g]
    by_cases c : j = 38
    · rw [if_pos ⟨rfl, c⟩, if_pos c, zI_g, if_neg (by decide), h1, show (1 : Int32) = ii 1 from rfl, ii_add]
    · rw [if_neg (fun q => c q.2), if_neg c, zI_g]
      by_cases c2 : j = 37
      · rw [if_pos ⟨rfl, c2⟩, if_pos c2]
      · rw [if_neg (fun q => c2 q.2), if_neg c2]
  have g4 : ∀ j, M4.1 413 j = M6.1 413 j := by
    intro j
    rw [hM6]
    show _ = M5.1 413 j
    rw [hM5, zI_o (by decide)]
  have e2 : M2.2 = M.2 := by rw [hM2]; rfl
  have g39 : M6.2.1 413 39 = ll (((bxAll B).length : Int) + ((cs.length - st : Nat) : Int)) := by
    rw [hM6, zL_g, if_pos ⟨rfl, rfl⟩, ll_of_ii (by omega) (by omega)]
    have : M5.2.1 413 39 = M.2.1 413 39 := by
      rw [hM5]
      show M4.2.1 413 39 = _
      rw [hM4]
      show M3.2.1 413 39 = _
      rw [hM3]
      show M2.2.1 413 39 = _
      rw [e2]
    rw [this, h3, ll_add]
  have g27 : ∀ j, M6.1 (413 + 27) j = if j = k then 1 else M.1 (413 + 27) j := by
    intro j
    rw [hM6]
    show M5.1 (413 + 27) j = _
    rw [hM5, zI_o (by decide), hM4, zI_o (by decide), hM3, zI_g]
    by_cases c : j = k
    · rw [if_pos ⟨rfl, c⟩, if_pos c]
      decide
    · rw [if_neg (fun q => c q.2), if_neg c, hM2, zI_o (by decide), zI_o (by decide)]
  have g28 : ∀ j, M6.1 (413 + 28) j = if j = k then ii ((cs.length - st : Nat) : Int) else M.1 (413 + 28) j := by
    intro j
    rw [hM6]
    show M5.1 (413 + 28) j = _
    rw [hM5, zI_o (by decide), hM4, zI_g]
    by_cases c : j = k
    · rw [if_pos ⟨rfl, c⟩, if_pos c]
    · rw [if_neg (fun q => c q.2), if_neg c, hM3, zI_o (by decide), hM2, zI_o (by decide), zI_o (by decide)]
  have g29 : ∀ j, M6.1 (413 + 29) j = if j = k then M.1 413 43 else M.1 (413 + 29) j := by
    intro j
    rw [hM6]
    show M5.1 (413 + 29) j = _
    rw [hM5, zI_g]
    by_cases c : j = k
    · rw [if_pos ⟨rfl, c⟩, if_pos c, g4, g, if_neg (by decide), if_neg (by decide)]
    · rw [if_neg (fun q => c q.2), if_neg c, hM4, zI_o (by decide), hM3, zI_o (by decide), hM2, zI_o (by decide), zI_o (by decide)]
  have g30 : M6.1 (413 + 30) = M.1 (413 + 30) := by
    rw [hM6]
    show M5.1 (413 + 30) = _
    rw [hM5, zI_o (by decide), hM4, zI_o (by decide), hM3, zI_o (by decide), hM2, zI_o (by decide), zI_o (by decide)]
  clear hM2 hM3 hM4 hM5 hM6
  have R6 : Ab M6 r cs := hR.onlyQ o6 (by simp; omega) (by omega)
  have fin : ∀ M7, OnlyQ [43] [413 + 30] M6 M7 → M7.2.1 413 39 = M6.2.1 413 39 → ((bxAll B).length + (cs.length - st) ≤ 48000 → Cw M7 43 (413 + 30) (bxAll B ++ cs.drop st)) → post M7 := by
    intro M7 o7 e39 hC
    have q27 := o7.1 (413 + 27) (by decide) (by decide)
    have q28 := o7.1 (413 + 28) (by decide) (by decide)
    have q29 := o7.1 (413 + 29) (by decide) (by decide)
    refine kk M7 (o6.trans (o7.mono (by simp) (by simp))) ⟨?_, fun _ => ?_, ?_, fun j hj => ?_, fun ht => ⟨?_, fun j p hp => ?_⟩⟩
    · rw [o7.2.1 38 (by decide), g, if_pos rfl, List.length_append, List.length_cons, List.length_nil]
      rfl
    · rw [o7.2.1 37 (by decide), g, if_neg (by decide), if_pos rfl]
    · rw [e39, g39, bxAll_snoc, List.length_append, List.length_drop]
      rfl
    · rw [q27, g27, bxLook_snoc]
      by_cases c : j = k
      · rw [if_pos c, c, hk]
        show _ = match (if k = k then some (cs.drop st) else none) with | some p => (1 : Int32) | none => 0
        rw [if_pos rfl]
      · rw [if_neg c, h4 j hj]
        cases hl : bxLook j B with
        | some p => rfl
        | none =>
          show _ = match (if k = j then some (cs.drop st) else none) with | some p => (1 : Int32) | none => 0
          rw [if_neg (fun q => c q.symm)]
    · rw [bxAll_snoc, List.length_append, List.length_drop] at ht
      rw [bxAll_snoc]
      exact hC ht
    · rw [bxAll_snoc, List.length_append, List.length_drop] at ht
      have h5' := h5 (by omega)
      rw [q28, q29, g28, g29]
      rw [bxLook_snoc] at hp
      by_cases c : j = k
      · rw [if_pos c, if_pos c, c, bxOff_new k _ B hk, h5'.1.1]
        rw [c, hk] at hp
        have hp' : (if k = k then some (cs.drop st) else none) = some p := hp
        rw [if_pos rfl] at hp'
        rw [← Option.some.inj hp', List.length_drop]
        exact ⟨rfl, rfl⟩
      · rw [if_neg c, if_neg c]
        cases hl : bxLook j B with
        | some p' =>
          rw [hl] at hp
          have hp' : some p' = some p := hp
          rw [bxOff_old j k _ p' B hl, ← Option.some.inj hp']
          exact h5'.2 j p' hl
        | none =>
          rw [hl] at hp
          have hp' : (if k = j then some (cs.drop st) else none) = some p := hp
          rw [if_neg (fun q => c q.symm)] at hp'
          cases hp'
  by_cases hbig : (bxAll B).length + (cs.length - st) ≤ 48000
  · have hC0 := (h5 (by omega)).1
    have hC6 : Cw M6 43 (413 + 30) (bxAll B) := ⟨by rw [g, if_neg (by decide), if_neg (by decide)]; exact hC0.1, hC0.2.1, fun i hi => by rw [g30]; exact hC0.2.2 i hi⟩
    suffices H : ∀ (m i : Nat) (M7 : zM), i + m = cs.length - st → OnlyQ [43] [413 + 30] M6 M7 → M7.2.1 413 39 = M6.2.1 413 39 → Cw M7 43 (413 + 30) (bxAll B ++ cut cs st (st + i)) → K (ii i) M7 from
      H _ 0 M6 (Nat.zero_add _) OnlyQ.rf rfl (by rw [cut_nil _ (by omega), List.append_nil]; exact hC6)
    intro m
    induction m with
    | zero =>
      intro i M7 hi o7 e39 hC
      have fin' := fin M7 o7 e39 (fun _ => by
        rw [show st + i = cs.length by omega, cut_end] at hC
        exact hC)
      exact hK _ _ ⟨fun _ => fin', fun c => absurd (by rw [ii_le (by omega) (by omega) (by omega) (by omega)]; omega) c⟩
    | succ m ih =>
      intro i M7 hi o7 e39 hC
      have hcut : (cut cs st (st + i)).length = i := by rw [cut_len]; omega
      have hlen : (bxAll B ++ cut cs st (st + i)).length = (bxAll B).length + i := by rw [List.length_append, hcut]
      refine hK _ _ ⟨fun c => ?_, fun _ => ⟨fun c => ?_, fun _ => ?_⟩⟩
      · rw [ii_le (by omega) (by omega) (by omega) (by omega)] at c
        omega
      · rw [e39, g39, lg_cmp_gt, show (48000 : Int64) = ll 48000 from rfl, ll_lt (by omega) (by omega) (by omega) (by omega)] at c
        omega
      · rw [ii_add, hC.1, hlen]
        refine ⟨ii_in (by omega) (by omega) (by omega), ii_in (by omega) (by omega) (by omega), ?_⟩
        have R7 : Ab M7 r cs := R6.onlyQ o7 (by simp; omega) (by omega)
        rw [ii_nat (by omega) (by omega), ii_nat (by omega) (by omega), Int.toNat_natCast, show ((st : Int) + i).toNat = st + i by omega, R7.2 (st + i) (by omega), nar_b8, b8_sb]
        rintro M8 rfl M9 hM9 x rfl
        rw [zI_o (by decide), hC.1, hlen, show (1 : Int32) = ii 1 from rfl, ii_add] at hM9
        have hp := hC.put (b := cs[st + i]'(by omega)) (M' := M9) (by decide) (by omega) (by rw [hM9, hlen]; rfl)
        rw [show (1 : Int32) = ii 1 from rfl, ii_add]
        refine ih (i + 1) M9 (by omega) (o7.trans hp.2.q) (by rw [hp.2.2.2]; exact e39) ?_
        have e1 : cut cs st (st + (i + 1)) = cut cs st (st + i) ++ [cs[st + i]'(by omega)] := by
          unfold cut
          rw [← Nat.add_assoc, ← List.take_append_getElem (show st + i < cs.length by omega), List.drop_append_of_le_length (by rw [List.length_take]; omega)]
        rw [e1, ← List.append_assoc]
        exact hp.1
  · have p := fin M6 OnlyQ.rf rfl (fun q => absurd q hbig)
    refine hK _ _ ⟨fun _ => p, fun _ => ⟨fun _ => p, fun c => absurd ?_ c⟩⟩
    rw [g39, lg_cmp_gt, show (48000 : Int64) = ll 48000 from rfl, ll_lt (by omega) (by omega) (by omega) (by omega)]
    omega
