/-! MailChain's trees. -/
def EnI (M : zM) (e : Nat) (x : En) (bd : List UInt8) : Prop :=
  Rw M (e + 1) x.path ∧ M.1 e 1 = ii x.kind ∧ M.1 e 2 = ii x.mode ∧ M.1 e 3 = ii x.own ∧ M.1 e 4 = ii x.grp ∧ M.1 e 5 = ii x.tim ∧ M.1 e 7 = ii x.body.length ∧ M.1 e 8 = ii x.fam ∧
  ∃ st : Nat, M.1 e 6 = ii st ∧ st + x.body.length ≤ bd.length ∧ cut bd st (st + x.body.length) = x.body
theorem EnI.same {M M' : zM} {e : Nat} {x : En} {bd : List UInt8} (h : EnI M e x bd) (h0 : M'.1 e = M.1 e) (h1 : M'.1 (e + 1) = M.1 (e + 1)) (h2 : M'.1 (e + 2) = M.1 (e + 2)) : EnI M' e x bd := by
  unfold EnI Rw at *
  rw [show e + 1 + 1 = e + 2 from rfl, h0, h1, h2]
  exact h
theorem cut_app {bd ys : List UInt8} {s n : Nat} (h : n ≤ bd.length) : cut (bd ++ ys) s n = cut bd s n := by
  unfold cut
  rw [List.take_append_of_le_length h]
theorem EnI.more {M : zM} {e : Nat} {x : En} {bd ys : List UInt8} (h : EnI M e x bd) : EnI M e x (bd ++ ys) := by
  obtain ⟨a1, a2, a3, a4, a5, a6, a7, a8, st, b1, b2, b3⟩ := h
  exact ⟨a1, a2, a3, a4, a5, a6, a7, a8, st, b1, by rw [List.length_append]; omega, by rw [cut_app b2]; exact b3⟩
def isT (t : Nat) : Prop := t = 0 + 3 ∨ t = 130 ∨ t = 257
theorem isT.facts {t : Nat} (h : isT t) : ln (t + 1) = 41 ∧ ln (t + 125 + 1) = 8400 ∧ t < N0 ∧ tg t = 3 ∧ ∀ c, c < 41 → t + 2 + 3 * c < N0 ∧ tg (t + 2 + 3 * c) = 2 ∧ ln (t + 2 + 3 * c + 1 + 1) = 60 := by
  rcases h with rfl | rfl | rfl <;> refine ⟨by decide +kernel, by decide +kernel, by decide +kernel, by decide +kernel, by decide +kernel⟩
/-- what holds of the places of a tree's entries -/
def TrP (M : zM) (t : Nat) : Prop := (∀ j, j < 41 → ∃ c, c < 41 ∧ M.2.2 (t + 1) j = t + 2 + 3 * c) ∧ (∀ i j, i < 41 → j < 41 → M.2.2 (t + 1) i = M.2.2 (t + 1) j → i = j)
def TrI (M : zM) (t : Nat) (T : Tre) : Prop :=
  TrP M t ∧ M.1 t 2 = ii T.length ∧ M.1 t 3 = ii (conts T) ∧ T.length ≤ 40 ∧ conts T ≤ 6000 ∧
  ∃ bd, Rw M (t + 125) bd ∧ bd.length ≤ conts T + 60 * T.length ∧ ∀ (j : Nat) (h : j < T.length), EnI M (M.2.2 (t + 1) j) T[j] bd
/-- only this tree has changed -/
def FrT (t : Nat) (M M' : zM) : Prop := ∀ k, (k < t ∨ t + 127 ≤ k) → M'.1 k = M.1 k ∧ M'.2.1 k = M.2.1 k ∧ M'.2.2 k = M.2.2 k
theorem FrT.rf {t : Nat} {M : zM} : FrT t M M := fun _ _ => ⟨rfl, rfl, rfl⟩
theorem FrT.trans {t : Nat} {M M' M'' : zM} (h : FrT t M M') (h' : FrT t M' M'') : FrT t M M'' := fun k hk => ⟨(h' k hk).1.trans (h k hk).1, (h' k hk).2.1.trans (h k hk).2.1, (h' k hk).2.2.trans (h k hk).2.2⟩
theorem Only.frT {t : Nat} {S : List Nat} {M M' : zM} (h : Only S M M') (hs : ∀ k, k ∈ S → t ≤ k ∧ k < t + 127) : FrT t M M' := fun k hk => ⟨h.1 k (fun q => by have := hs k q; omega), by rw [h.2], by rw [h.2]⟩
theorem TrP.same {M M' : zM} {t : Nat} (h : TrP M t) (h2 : M'.2.2 (t + 1) = M.2.2 (t + 1)) : TrP M' t := by
  unfold TrP at *
  rw [h2]
  exact h
theorem TrI.same {M M' : zM} {t : Nat} {T : Tre} (h : TrI M t T) (hs : ∀ k, t ≤ k → k < t + 127 → M'.1 k = M.1 k ∧ M'.2.2 k = M.2.2 k) : TrI M' t T := by
  obtain ⟨a1, a2, a3, a4, a5, bd, b1, b2, b3⟩ := h
  have e0 := hs t (by omega) (by omega)
  have e1 := hs (t + 1) (by omega) (by omega)
  refine ⟨a1.same e1.2, by rw [e0.1]; exact a2, by rw [e0.1]; exact a3, a4, a5, bd, ⟨by rw [(hs (t + 125) (by omega) (by omega)).1]; exact b1.1, b1.2.1, fun i hi => by rw [(hs (t + 125 + 1) (by omega) (by omega)).1]; exact b1.2.2 i hi⟩, b2, fun j hj => ?_⟩
  obtain ⟨c, hc, ec⟩ := a1.1 j (by omega)
  have hE := b3 j hj
  rw [ec] at hE
  rw [e1.2, ec]
  exact hE.same (hs _ (by omega) (by omega)).1 (hs _ (by omega) (by omega)).1 (hs _ (by omega) (by omega)).1
theorem TrI.frm {S : List Nat} {M M' : zM} {t : Nat} {T : Tre} (h : TrI M t T) (ho : Frm S M M') (hs : ∀ k, k ∈ S → k < t ∨ t + 127 ≤ k) : TrI M' t T :=
  h.same (fun k h1 h2 => ⟨(ho k (fun q => by have := hs k q; omega)).1, (ho k (fun q => by have := hs k q; omega)).2.2⟩)
theorem TrI.frT {u : Nat} {M M' : zM} {t : Nat} {T : Tre} (h : TrI M t T) (ho : FrT u M M') (hu : t + 127 ≤ u ∨ u + 127 ≤ t) : TrI M' t T :=
  h.same (fun k h1 h2 => ⟨(ho k (by omega)).1, (ho k (by omega)).2.2⟩)
theorem Rw.frT {t : Nat} {M M' : zM} {r : Nat} {bs : List UInt8} (h : Rw M r bs) (ho : FrT t M M') (h1 : r < t ∨ t + 127 ≤ r) (h2 : r + 1 < t ∨ t + 127 ≤ r + 1) : Rw M' r bs := ⟨by rw [(ho r h1).1]; exact h.1, h.2.1, fun i hi => by rw [(ho _ h2).1]; exact h.2.2 i hi⟩
section TREE
variable {M : zM} {t : Nat} {T : Tre}
theorem s_Tr_has {i : Int} {post : Int32 → zM → Prop} (h : TrI M t T) (h1 : -2147483648 ≤ i) (h2 : i ≤ 2147483647) (k : post (if 0 ≤ i ∧ i < T.length then 1 else 0) M) : Wp_Tr_has t (ii i) M post := by
  have hl := h.2.2.2.1
  unfold Wp_Tr_has
  rw [h.2.1, ii_nneg h1 h2, ii_le (by omega) (by omega) h1 h2]
  refine ⟨fun q => ?_, fun q => ⟨fun q2 => ?_, fun q2 => ?_⟩⟩
  · rw [if_neg (by omega)] at k; exact k
  · rw [if_neg (by omega)] at k; exact k
  · rw [if_pos (by omega)] at k; exact k
/-- an entry's place -/
theorem ent_at (hT : isT t) (hP : TrP M t) {j : Nat} (hj : j < 41) : M.2.2 (t + 1) j < N0 ∧ tg (M.2.2 (t + 1) j) = 2 ∧ ln (M.2.2 (t + 1) j + 1 + 1) = 60 ∧ t + 2 ≤ M.2.2 (t + 1) j ∧ M.2.2 (t + 1) j + 2 < t + 125 := by
  obtain ⟨c, hc, ec⟩ := hP.1 j hj
  obtain ⟨f1, f2, f3⟩ := hT.facts.2.2.2.2 c hc
  rw [ec]
  exact ⟨f1, f2, f3, by omega, by omega⟩
theorem s_Tr_draft {post : Nat → zM → Prop} (hT : isT t) (h : TrI M t T) (k : post (M.2.2 (t + 1) T.length) M) : Wp_Tr_draft t M post := by
  have hl := h.2.2.2.1
  have f := hT.facts
  unfold Wp_Tr_draft
  rw [h.2.1]
  refine ⟨ii_in (by omega) (by omega) (by omega), ?_⟩
  rintro r rfl
  rw [ii_nat (by omega) (by omega), Int.toNat_natCast]
  have e := ent_at hT h.1 (show T.length < 41 by omega)
  exact ⟨e.1, e.2.1, k⟩
theorem s_placeOf {a n : Nat} {cs : List UInt8} {post : Int32 → zM → Prop} (hT : isT t) (h : TrI M t T) (ha : Rw M a cs) (hn : n ≤ cs.length) (k : post (ii (plc (cs.take n) T : Nat)) M) : Wp_Tr_placeOf t a (ii n) M post := by
  have hl := h.2.2.2.1
  have f := hT.facts
  unfold Wp_Tr_placeOf
  intro K hK
  suffices H : ∀ (m i : Nat), i + m = T.length → plc (cs.take n) T = i + plc (cs.take n) (T.drop i) → K (ii i) M from H _ 0 (Nat.zero_add _) (by rw [Nat.zero_add]; rfl)
  intro m
  induction m with
  | zero =>
    intro i hi hp
    refine hK _ _ ⟨fun _ => ?_, fun q => absurd (by rw [h.2.1, ii_le (by omega) (by omega) (by omega) (by omega)]; omega) q⟩
    rw [List.drop_eq_nil_of_le (by omega)] at hp
    have hp' : plc (cs.take n) T = i := hp
    rw [hp'] at k
    exact k
  | succ m ih =>
    intro i hi hp
    have hin : i < T.length := by omega
    refine hK _ _ ⟨fun q => ?_, fun _ => ⟨ii_in (by omega) (by omega) (by omega), ?_⟩⟩
    · rw [h.2.1, ii_le (by omega) (by omega) (by omega) (by omega)] at q
      omega
    · rintro r rfl
      rw [ii_nat (by omega) (by omega), Int.toNat_natCast]
      have e := ent_at hT h.1 (show i < 41 by omega)
      refine ⟨e.1, e.2.1, ?_⟩
      obtain ⟨bd, b1, b2, b3⟩ := h.2.2.2.2.2
      have hR := (b3 i hin).1
      refine s_order hR ha hn ?_
      have hc := cmpB_rng T[i].path (cs.take n)
      have hcl := ha.len
      have hpl := hR.len
      rw [List.length_take] at hc
      rw [List.drop_eq_getElem_cons hin] at hp
      have hp' : plc (cs.take n) T = i + (if cmpB T[i].path (cs.take n) < 0 then plc (cs.take n) (T.drop (i + 1)) + 1 else 0) := hp
      rw [show (0 : Int32) = ii 0 from rfl, ii_le (by omega) (by omega) (by omega) (by omega)]
      refine ⟨fun q => ?_, fun q => ?_⟩
      · rw [if_neg (by omega)] at hp'
        rw [hp'] at k
        exact k
      · rintro x rfl
        rw [show (1 : Int32) = ii 1 from rfl, ii_add]
        rw [if_pos (by omega)] at hp'
        exact ih (i + 1) (by omega) (by omega)
theorem s_hasParentOf {e : Nat} {p : List UInt8} {post : Int32 → zM → Prop} (hT : isT t) (h : TrI M t T) (hV : TOk T) (hR : Rw M (e + 1) p) (k1 : parentOk T p → post 1 M) (k0 : ¬ parentOk T p → post 0 M) : Wp_Tr_hasParentOf t e M post := by
  have hl := h.2.2.2.1
  have f := hT.facts
  have hpl := hR.len
  have hr := parS_rng p
  have hS := hV.2.1
  obtain ⟨bd, b1, b2, b3⟩ := h.2.2.2.2.2
  unfold Wp_Tr_hasParentOf
  refine s_parentSize hR ?_
  rw [show (-1 : Int32) = ii (-1) from rfl, ii_eq (by omega) (by omega) (by omega) (by omega)]
  refine ⟨fun q => ?_, fun q => k1 (Or.inl q)⟩
  obtain ⟨n, hn⟩ := Int.eq_ofNat_of_zero_le (show 0 ≤ parS p by omega)
  rw [hn]
  have hnl : n ≤ p.length := by omega
  have hple := plc_le (p.take n) T
  refine s_placeOf hT h hR hnl (s_Tr_has h (by omega) (by omega) ?_)
  have none' : (∀ e ∈ T, e.path = p.take n → e.kind = 0 → False) → post 0 M := fun hz => k0 (fun z => by
    rcases z with z | ⟨y, y1, y2, y3⟩
    · omega
    · rw [hn, Int.toNat_natCast] at y2
      exact hz y y1 y2 y3)
  by_cases c : plc (p.take n) T < T.length
  · rw [if_pos (by omega)]
    refine ⟨fun z => absurd z (by decide), fun _ => ⟨ii_in (by omega) (by omega) (by omega), ?_⟩⟩
    rintro r rfl
    rw [ii_nat (by omega) (by omega), Int.toNat_natCast]
    have e1 := ent_at hT h.1 (show plc (p.take n) T < 41 by omega)
    refine ⟨e1.1, e1.2.1, ?_⟩
    have hE := b3 _ c
    rw [hE.2.1, show (0 : Int32) = ii ((0 : Nat) : Int) from rfl]
    have only1 : ∀ y ∈ T, y.path = p.take n → T[plc (p.take n) T] = y := fun y y1 y2 => (srt_find (p.take n) T hS y y1 y2).2
    refine ⟨fun z => none' (fun y y1 y2 y3 => z ?_), fun z => ⟨ii_in (by omega) (by omega) (by omega), ?_⟩⟩
    · rw [only1 y y1 y2, y3]
    · rintro r rfl
      refine ⟨e1.1, e1.2.1, ?_⟩
      refine s_order hE.1 hR hnl ?_
      have hc := cmpB_rng T[plc (p.take n) T].path (p.take n)
      have hpl2 := hE.1.len
      rw [List.length_take] at hc
      rw [show ii ((0 : Nat) : Int) = ii (0 : Int) from rfl, ii_eq (by omega) (by omega) (by omega) (by omega), cmpB_zero]
      refine ⟨fun z2 => none' (fun y y1 y2 y3 => z2 ?_), fun z2 => k1 (Or.inr ⟨_, List.getElem_mem c, ?_, ?_⟩)⟩
      · rw [only1 y y1 y2, y2]
      · rw [hn, Int.toNat_natCast]
        exact z2
      · have hk2 := (hV.2.2.1 _ (List.getElem_mem c)).2.2.2.1
        rw [ii_eq (by omega) (by omega) (by omega) (by omega)] at z
        omega
  · rw [if_neg (by omega)]
    exact ⟨fun _ => none' (fun y y1 y2 y3 => c (srt_find (p.take n) T hS y y1 y2).1), fun z => absurd rfl z⟩
end TREE
