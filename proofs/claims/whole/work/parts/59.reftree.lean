/-! The reference's trees: what is only read. -/
/-- the cells of tree u -/
def tIn (u k j : Nat) : Prop := (k = 413 + 8 ∧ j = u) ∨ (k = 413 + 9 ∧ 2460 * u ≤ j ∧ j < 2460 * u + 2460) ∨ (413 + 10 ≤ k ∧ k ≤ 413 + 18 ∧ 41 * u ≤ j ∧ j < 41 * u + 41) ∨ (k = 413 + 19 ∧ j = u) ∨ (k = 413 + 20 ∧ 20000 * u ≤ j ∧ j < 20000 * u + 20000)
/-- only these cells have changed -/
def FrC (P : Nat → Nat → Prop) (M M' : zM) : Prop := (∀ k j, ¬ P k j → M'.1 k j = M.1 k j) ∧ M'.2 = M.2
theorem FrC.rf {P : Nat → Nat → Prop} {M : zM} : FrC P M M := ⟨fun _ _ _ => rfl, rfl⟩
theorem FrC.trans {P : Nat → Nat → Prop} {M M' M'' : zM} (h : FrC P M M') (h' : FrC P M' M'') : FrC P M M'' := ⟨fun k j q => (h'.1 k j q).trans (h.1 k j q), h'.2.trans h.2⟩
theorem FrC.mono {P Q : Nat → Nat → Prop} {M M' : zM} (h : FrC P M M') (hq : ∀ k j, P k j → Q k j) : FrC Q M M' := ⟨fun k j q => h.1 k j (fun z => q (hq k j z)), h.2⟩
theorem FrC.zI {P : Nat → Nat → Prop} {M M' : zM} {k j : Nat} {v : Int32} (h : FrC P M M') (hp : P k j) : FrC P M (zI M' k j v) := ⟨fun a b q => by rw [zI_g, if_neg (fun z => q (by rw [z.1, z.2]; exact hp))]; exact h.1 a b q, h.2⟩
theorem OnlyR.frC {F S : List Nat} {M M' : zM} (h : OnlyR F S M M') : FrC (fun k j => (k = 413 ∧ j ∈ F) ∨ (k ∈ S ∧ k ≠ 413)) M M' := ⟨fun k j q => by
  by_cases c : k = 413
  · subst c
    exact h.2.1 j (fun z => q (Or.inl ⟨rfl, z⟩))
  · rw [h.1 k (fun z => q (Or.inr ⟨z, c⟩)) c], h.2.2⟩
theorem Cw.frC {P : Nat → Nat → Prop} {M M' : zM} {f k : Nat} {bs : List UInt8} (h : Cw M f k bs) (ho : FrC P M M') (h1 : ¬ P 413 f) (h2 : ∀ i, i < bs.length → ¬ P k i) : Cw M' f k bs := ⟨by rw [ho.1 413 f h1]; exact h.1, h.2.1, fun i hi => by rw [ho.1 k i (h2 i hi)]; exact h.2.2 i hi⟩
def RnI (M : zM) (u e : Nat) (x : En) (us : Nat) : Prop :=
  M.1 (413 + 10) e = ii x.path.length ∧ x.path.length ≤ 60 ∧ (∀ (k : Nat) (h : k < x.path.length), M.1 (413 + 9) (60 * e + k) = sb x.path[k]) ∧ M.1 (413 + 11) e = ii x.kind ∧ M.1 (413 + 12) e = ii x.mode ∧ M.1 (413 + 13) e = ii x.own ∧ M.1 (413 + 14) e = ii x.grp ∧ M.1 (413 + 15) e = ii x.tim ∧ M.1 (413 + 17) e = ii x.body.length ∧
  ∃ fr : Nat, M.1 (413 + 16) e = ii fr ∧ fr + x.body.length ≤ us ∧ ∀ (k : Nat) (h : k < x.body.length), M.1 (413 + 20) (20000 * u + fr + k) = sb x.body[k]
def RtI (M : zM) (u : Nat) (T : Tre) : Prop :=
  M.1 (413 + 8) u = ii T.length ∧ T.length ≤ 40 ∧ conts T ≤ 6000 ∧ ∃ us : Nat, M.1 (413 + 19) u = ii us ∧ us ≤ conts T + 60 * T.length ∧ (∀ (i : Nat) (h : i < T.length), RnI M u (41 * u + i) T[i] us) ∧
  (∀ (i j : Nat) (hi : i < T.length) (hj : j < T.length), T[i].kind = 1 → T[j].kind = 1 → (M.1 (413 + 18) (41 * u + i) = M.1 (413 + 18) (41 * u + j) ↔ T[i].fam = T[j].fam))
theorem RnI.same {M M' : zM} {u e : Nat} {x : En} {us : Nat} (h : RnI M u e x us) (h1 : ∀ a, 10 ≤ a → a ≤ 18 → M'.1 (413 + a) e = M.1 (413 + a) e) (h2 : ∀ k, k < 60 → M'.1 (413 + 9) (60 * e + k) = M.1 (413 + 9) (60 * e + k)) (h3 : ∀ k, k < us → M'.1 (413 + 20) (20000 * u + k) = M.1 (413 + 20) (20000 * u + k)) : RnI M' u e x us := by
  obtain ⟨a1, a2, a3, a4, a5, a6, a7, a8, a9, fr, b1, b2, b3⟩ := h
  refine ⟨by rw [h1 10 (by omega) (by omega)]; exact a1, a2, fun k hk => by rw [h2 k (by omega)]; exact a3 k hk, by rw [h1 11 (by omega) (by omega)]; exact a4, by rw [h1 12 (by omega) (by omega)]; exact a5, by rw [h1 13 (by omega) (by omega)]; exact a6, by rw [h1 14 (by omega) (by omega)]; exact a7, by rw [h1 15 (by omega) (by omega)]; exact a8, by rw [h1 17 (by omega) (by omega)]; exact a9, fr, by rw [h1 16 (by omega) (by omega)]; exact b1, b2, fun k hk => ?_⟩
  rw [Nat.add_assoc, h3 (fr + k) (by omega), ← Nat.add_assoc]
  exact b3 k hk
theorem RtI.same {M M' : zM} {u : Nat} {T : Tre} (h : RtI M u T) (hs : ∀ k j, tIn u k j → M'.1 k j = M.1 k j) : RtI M' u T := by
  obtain ⟨a1, a2, a3, us, b1, b2, b3, b4⟩ := h
  refine ⟨by rw [hs _ _ (Or.inl ⟨rfl, rfl⟩)]; exact a1, a2, a3, us, by rw [hs _ _ (Or.inr (Or.inr (Or.inr (Or.inl ⟨rfl, rfl⟩))))]; exact b1, b2, fun i hi => (b3 i hi).same (fun a h1 h2 => hs _ _ (Or.inr (Or.inr (Or.inl (by omega))))) (fun k hk => hs _ _ (Or.inr (Or.inl (by omega)))) (fun k hk => hs _ _ (Or.inr (Or.inr (Or.inr (Or.inr (by omega)))))), fun i j hi hj k1 k2 => ?_⟩
  rw [hs _ _ (Or.inr (Or.inr (Or.inl (by omega)))), hs _ _ (Or.inr (Or.inr (Or.inl (by omega))))]
  exact b4 i j hi hj k1 k2
theorem RtI.frC {P : Nat → Nat → Prop} {M M' : zM} {u : Nat} {T : Tre} (h : RtI M u T) (ho : FrC P M M') (hp : ∀ k j, P k j → ¬ tIn u k j) : RtI M' u T := h.same (fun k j hk => ho.1 k j (fun z => hp k j z hk))
theorem RtI.onlyQ {F S : List Nat} {M M' : zM} {u : Nat} {T : Tre} (h : RtI M u T) (ho : OnlyQ F S M M') (hS : ∀ k, k ∈ S → k < 413 + 8 ∨ 413 + 20 < k) : RtI M' u T :=
  h.same (fun k j hk => by
    have hk2 : 413 + 8 ≤ k ∧ k ≤ 413 + 20 := by unfold tIn at hk; omega
    rw [ho.1 k (fun z => by have := hS k z; omega) (by omega)])
section RTREE
variable {M : zM} {u : Nat} {T : Tre} {p : List UInt8}
theorem l_ref : ln (413 + 8) = 3 ∧ ln (413 + 9) = 7380 ∧ ln (413 + 10) = 123 ∧ ln (413 + 11) = 123 ∧ ln (413 + 12) = 123 ∧ ln (413 + 13) = 123 ∧ ln (413 + 14) = 123 ∧ ln (413 + 15) = 123 ∧ ln (413 + 16) = 123 ∧ ln (413 + 17) = 123 ∧ ln (413 + 18) = 123 ∧ ln (413 + 19) = 3 ∧ ln (413 + 20) = 60000 ∧ ln (413 + 21) = 60 := by decide +kernel
theorem ei_at (u i : Nat) : (41 : Int32) * ii (u : Int) + ii (i : Int) = ii ((41 * u + i : Nat) : Int) := by
  rw [show (41 : Int32) = ii 41 from rfl, ii_mul, ii_add]
  congr 1
theorem sixty (e k : Nat) : (60 : Int32) * ii (e : Int) + ii (k : Int) = ii ((60 * e + k : Nat) : Int) := by
  rw [show (60 : Int32) = ii 60 from rfl, ii_mul, ii_add]
  congr 1
theorem s_look {a b : Nat} {cs : List UInt8} {post : zM → Prop} (hb : b + cs.length ≤ ln a) (hc : ∀ (i : Nat) (h : i < cs.length), M.1 a (b + i) = sb cs[i]) (ha : a ≠ 413) (ha2 : a ≠ 413 + 21) (k : ∀ M', OnlyR [24] [413 + 21] M M' → Cw M' 24 (413 + 21) (cs.take 60) → post M') : Wp_Mo_look 413 a (ii b) (ii cs.length) M post := by
  have l := l_ref
  have hl := ln_small a
  unfold Wp_Mo_look
  intro K hK
  have main : ∀ n, n = min cs.length 60 → ∀ M1, M1 = zI M 413 24 (ii (n : Int)) → K 0 M1 := by
    intro n hn M1 hM1
    have o1 : OnlyR [24] [413 + 21] M M1 := by rw [hM1]; exact OnlyR.rf.fld (by simp)
    have e1 : M1.1 413 24 = ii n := by rw [hM1, zI_g, if_pos ⟨rfl, rfl⟩]
    suffices H : ∀ (m i : Nat) (M2 : zM), i + m = n → OnlyR [24] [413 + 21] M M2 → M2.1 413 24 = ii n → (∀ (j : Nat) (hj : j < cs.length), j < i → M2.1 (413 + 21) j = sb cs[j]) → K (ii i) M2 from H n 0 M1 (Nat.zero_add _) o1 e1 (fun j _ hj => absurd hj (by omega))
    intro m
    induction m with
    | zero =>
      intro i M2 hi o2 e2 hv
      refine hK _ _ ⟨fun _ => k M2 o2 ⟨?_, ?_, fun j hj => ?_⟩, fun q => absurd (by rw [e2, ii_le (by omega) (by omega) (by omega) (by omega)]; omega) q⟩
      · rw [e2, List.length_take]
        congr 1
        omega
      · rw [List.length_take]
        omega
      · rw [List.length_take] at hj
        rw [List.getElem_take]
        exact hv j (by omega) (by omega)
    | succ m ih =>
      intro i M2 hi o2 e2 hv
      refine hK _ _ ⟨fun q => ?_, fun _ => ?_⟩
      · rw [e2, ii_le (by omega) (by omega) (by omega) (by omega)] at q
        omega
      · rw [ii_add]
        refine ⟨ii_in (by omega) (by omega) (by omega), ii_in (by omega) (by omega) (by omega), ?_⟩
        have hv2 : M2.1 a (b + i) = sb (cs[i]'(by omega)) := by
          rw [o2.1 a (by simpa using ha2) ha]
          exact hc i (by omega)
        rw [ii_nat (by omega) (by omega), ii_nat (by omega) (by omega), Int.toNat_natCast, show ((b : Int) + (i : Int)).toNat = b + i by omega, hv2, nar_b8, b8_sb]
        rintro M3 rfl x rfl
        rw [show (1 : Int32) = ii 1 from rfl, ii_add]
        refine ih (i + 1) _ (by omega) (o2.arr (by simp) (by decide)) (by rw [zI_o (by decide)]; exact e2) (fun j hj hj2 => ?_)
        rw [zI_g]
        by_cases c : j = i
        · subst c
          rw [if_pos ⟨rfl, rfl⟩]
        · rw [if_neg (fun z => c z.2)]
          exact hv j hj (by omega)
  rw [show (60 : Int32) = ii 60 from rfl, ii_le (by omega) (by omega) (by omega) (by omega)]
  exact ⟨fun q M1 e => main 60 (by omega) M1 e, fun q M1 e => main cs.length (by omega) M1 e⟩
theorem s_Mo_isPath {post : Int32 → zM → Prop} (h : Cw M 24 (413 + 21) p) (k : post (if pathOk [] p = true then 1 else 0) M) : Wp_Mo_isPath 413 M post := by
  have l := l_ref
  have hl : p.length ≤ 60 := by have := h.2.1; omega
  have sb0 : ∀ b : UInt8, (sb b = 0 ↔ b = 0) ∧ (sb b = 47 ↔ b = 47) ∧ (sb b = 46 ↔ b = 46) := fun b => u8_all (P := fun b => (sb b = 0 ↔ b = 0) ∧ (sb b = 47 ↔ b = 47) ∧ (sb b = 46 ↔ b = 46)) (by decide +kernel) b
  have nb : narrow .boolean (.int (1 : Int32)) = .int 1 ∧ narrow .boolean (.int (0 : Int32)) = .int 0 := ⟨rfl, rfl⟩
  unfold Wp_Mo_isPath
  intro K18 K50 K78 K106 K141 K161 h18 h50 h78 h106 h141 h161
  have fin : ∀ (g : Bool) (s : Nat), g = pathOk [] p → s ≤ 100 → K18 (if g = true then 1 else 0) (ii s) (ii ((p.length + 1 : Nat) : Int)) M := by
    intro g s hg hs
    refine h18 _ _ _ _ ⟨fun _ => ⟨?_, by rw [hg]; exact k⟩, fun q => absurd (by rw [h.1, ii_lt (by omega) (by omega) (by omega) (by omega)]; omega) q⟩
    by_cases c : g = true
    · rw [if_pos c]; rfl
    · rw [if_neg c]; rfl
  have stop : ∀ (s i : Nat) (g : Bool), s ≤ i → i ≤ p.length → (∀ b : Bool, b = (g && nameOk (cut p s i)) → K18 (if b = true then 1 else 0) (ii ((i + 1 : Nat) : Int)) (ii ((i + 1 : Nat) : Int)) M) → K78 (ii s) (ii i) 1 (if g = true then 1 else 0) M := by
    intro s i g hsi hil kk
    have bad : (g && nameOk (cut p s i)) = false → K161 (ii (i : Int)) M := by
      intro hb
      refine h161 _ _ ?_
      rintro x rfl y rfl
      rw [show (1 : Int32) = ii 1 from rfl, ii_add]
      have := kk false hb.symm
      rw [if_neg (by decide)] at this
      exact this
    have good : ∀ (d : Int32), (g && nameOk (cut p s i)) = true → d = 0 → 0 < i - s → K141 (if g = true then 1 else 0) (ii (i : Int)) (ii (i : Int) - ii (s : Int)) d M := by
      intro d hb hd hpos
      have hg : g = true := by cases g; exact absurd hb (by simp); rfl
      refine h141 _ _ _ _ _ ⟨fun z => absurd z (by rw [if_pos hg]; decide), fun _ => ⟨fun z => ?_, fun _ => ⟨fun z => absurd hd z, fun _ => ?_⟩⟩⟩
      · rw [ii_sub, show (0 : Int32) = ii 0 from rfl, ii_le (by omega) (by omega) (by omega) (by omega)] at z
        omega
      · rintro x rfl y rfl
        rw [show (1 : Int32) = ii 1 from rfl, ii_add]
        have := kk true hb.symm
        rw [if_pos rfl] at this
        exact this
    have badd : ∀ (d : Int32), d ≠ 0 → nameOk (cut p s i) = false → K141 (if g = true then 1 else 0) (ii (i : Int)) (ii (i : Int) - ii (s : Int)) d M := by
      intro d hd hb
      have hb' : (g && nameOk (cut p s i)) = false := by rw [hb]; simp
      exact h141 _ _ _ _ _ ⟨fun _ => bad hb', fun _ => ⟨fun _ => bad hb', fun _ => ⟨fun _ => bad hb', fun z => absurd z hd⟩⟩⟩
    have zero : i = s → K141 (if g = true then 1 else 0) (ii (i : Int)) (ii (i : Int) - ii (s : Int)) 0 M := by
      intro hz
      have hb' : (g && nameOk (cut p s i)) = false := by rw [cut_nil p (by omega)]; simp [nameOk]
      refine h141 _ _ _ _ _ ⟨fun _ => bad hb', fun _ => ⟨fun _ => bad hb', fun z => absurd (by rw [ii_sub, show (0 : Int32) = ii 0 from rfl, ii_le (by omega) (by omega) (by omega) (by omega)]; omega) z⟩⟩
    have fine : (i = s ∨ nameOk (cut p s i) = true) → K141 (if g = true then 1 else 0) (ii (i : Int)) (ii (i : Int) - ii (s : Int)) 0 M := by
      intro hf
      by_cases hz : i = s
      · exact zero hz
      · have hn : nameOk (cut p s i) = true := by rcases hf with q | q; exact absurd q hz; exact q
        by_cases hg : g = true
        · exact good 0 (by rw [hg, hn]; rfl) rfl (by omega)
        · have hb' : (g && nameOk (cut p s i)) = false := by rw [Bool.eq_false_iff.mpr hg]; rfl
          exact h141 _ _ _ _ _ ⟨fun _ => bad hb', fun z => absurd (if_neg hg) z⟩
    refine h78 _ _ _ _ _ ⟨fun z => absurd z (by decide), fun _ => ?_⟩
    rintro x rfl
    have e1 : (ii (i : Int) - ii (s : Int) = 1) ↔ i = s + 1 := by
      rw [ii_sub, show (1 : Int32) = ii 1 from rfl, ii_eq (by omega) (by omega) (by omega) (by omega)]
      omega
    have e2 : (ii (i : Int) - ii (s : Int) = 2) ↔ i = s + 2 := by
      rw [ii_sub, show (2 : Int32) = ii 2 from rfl, ii_eq (by omega) (by omega) (by omega) (by omega)]
      omega
    have long : (i = s ∨ nameOk (cut p s i) = true) → i ≠ s + 2 → K106 (if g = true then 1 else 0) (ii (s : Int)) (ii (i : Int)) (ii (i : Int) - ii (s : Int)) M := fun hf hne => h106 _ _ _ _ _ ⟨fun _ => fine hf, fun z => absurd (e2.mp z) hne⟩
    have at_ : ∀ (j : Nat) (hj : j < p.length), M.1 (413 + 21) (ii (j : Int)).toNatClampNeg = sb p[j] := fun j hj => by
      rw [ii_nat (by omega) (by omega), Int.toNat_natCast]
      exact h.2.2 j hj
    refine ⟨fun q => ?_, fun q => ?_⟩
    · have q' : i ≠ s + 1 := fun z => q (e1.mpr z)
      by_cases c2 : i = s + 2
      · have ec : cut p s i = [p[s]'(by omega), p[s + 1]'(by omega)] := by
          rw [cut_cons (by omega) hil, cut_cons (by omega) hil, cut_nil p (by omega), getD_in (by omega), getD_in (by omega)]
        refine h106 _ _ _ _ _ ⟨fun z => absurd (e2.mpr c2) z, fun _ => ⟨ii_in (by omega) (by omega) (by omega), ?_⟩⟩
        rw [at_ s (by omega), (sb0 _).2.2]
        refine ⟨fun z => fine (Or.inr ?_), fun z => ?_⟩
        · rw [ec]
          unfold nameOk
          rw [decide_eq_true_iff]
          exact ⟨by simp, by simp, fun y => z (List.cons.inj y).1⟩
        · rw [show (1 : Int32) = ii 1 from rfl, ii_add, show ((s : Int) + 1) = ((s + 1 : Nat) : Int) by omega]
          refine ⟨ii_in (by omega) (by omega) (by omega), ?_⟩
          rw [at_ (s + 1) (by omega), (sb0 _).2.2]
          refine ⟨fun z2 => fine (Or.inr ?_), fun z2 => ?_⟩
          · rw [ec]
            unfold nameOk
            rw [decide_eq_true_iff]
            exact ⟨by simp, by simp, fun y => z2 (List.cons.inj (List.cons.inj y).2).1⟩
          · exact badd _ (by decide) (by rw [ec, z, z2]; decide)
      · refine long ?_ c2
        by_cases hz : i = s
        · exact Or.inl hz
        · refine Or.inr ?_
          have hcl : (cut p s i).length = i - s := by rw [cut_len]; omega
          unfold nameOk
          rw [decide_eq_true_iff]
          refine ⟨fun z => ?_, fun z => ?_, fun z => ?_⟩
          · rw [z] at hcl; simp only [List.length_nil] at hcl; omega
          · rw [z] at hcl; simp only [List.length_cons, List.length_nil] at hcl; omega
          · rw [z] at hcl; simp only [List.length_cons, List.length_nil] at hcl; omega
    · have q' : i = s + 1 := e1.mp q
      have ec : cut p s i = [p[s]'(by omega)] := by
        rw [cut_cons (by omega) hil, cut_nil p (by omega), getD_in (by omega)]
      refine ⟨ii_in (by omega) (by omega) (by omega), ?_⟩
      rw [at_ s (by omega), (sb0 _).2.2]
      refine ⟨fun z => ?_, fun z => ?_⟩
      · exact badd _ (by decide) (by rw [ec, z]; decide)
      · refine long (Or.inr ?_) (by omega)
        rw [ec]
        unfold nameOk
        rw [decide_eq_true_iff]
        exact ⟨by simp, fun y => z (List.cons.inj y).1, by simp⟩
  suffices H : ∀ (m s i : Nat) (g : Bool), i + m = p.length → s ≤ i → (g && pathOk (cut p s i) (p.drop i)) = pathOk [] p → K18 (if g = true then 1 else 0) (ii s) (ii i) M by
    rw [h.1, show (1 : Int32) = ii 1 from rfl, ii_lt (by omega) (by omega) (by omega) (by omega)]
    refine ⟨fun q => ?_, fun q => ?_⟩
    · have e : p = [] := List.eq_nil_of_length_eq_zero (by omega)
      have := H p.length 0 0 false (by omega) (by omega) (by rw [e]; rfl)
      exact this
    · have := H p.length 0 0 true (by omega) (by omega) (by rw [cut_nil p (by omega)]; rfl)
      exact this
  intro m
  induction m with
  | zero =>
    intro s i g hi hs hp
    have hil : i = p.length := by omega
    rw [List.drop_eq_nil_of_le (by omega)] at hp
    have hp' : (g && nameOk (cut p s i)) = pathOk [] p := hp
    refine h18 _ _ _ _ ⟨fun z => ?_, fun _ => ⟨fun _ => ?_, fun z => absurd (by rw [h.1, hil]) z⟩⟩
    · rw [h.1, ii_lt (by omega) (by omega) (by omega) (by omega)] at z
      omega
    · have go : K78 (ii (s : Int)) (ii (i : Int)) 1 (if g = true then 1 else 0) M := stop s i g hs (by omega) (fun b hb => by
        have := fin b (i + 1) (hb.trans hp') (by omega)
        rw [← hil] at this
        exact this)
      refine h50 _ _ _ _ _ ⟨fun z => ?_, fun z => ⟨fun _ => ?_, fun z2 => absurd (by rw [h.1, hil]) z2⟩⟩
      · rw [z] at go
        exact go
      · have hg : g = true := Classical.byContradiction (fun y => z (if_neg y))
        rw [if_pos hg] at go
        exact go
  | succ m ih =>
    intro s i g hi hs hp
    have hin : i < p.length := by omega
    have hat : M.1 (413 + 21) (ii (i : Int)).toNatClampNeg = sb p[i] := by
      rw [ii_nat (by omega) (by omega), Int.toNat_natCast]
      exact h.2.2 i hin
    have ne : ¬ ii (i : Int) = M.1 413 24 := by
      rw [h.1, ii_eq (by omega) (by omega) (by omega) (by omega)]
      omega
    rw [List.drop_eq_getElem_cons hin] at hp
    have hp' : (g && (if p[i] = 0 then false else if p[i] = 47 then nameOk (cut p s i) && pathOk [] (p.drop (i + 1)) else pathOk (cut p s i ++ [p[i]]) (p.drop (i + 1)))) = pathOk [] p := hp
    have step : ∀ (b : Bool), b = (g && decide (p[i] ≠ 0)) → (∀ w, K78 (ii (s : Int)) (ii (i : Int)) w (if b = true then 1 else 0) M → K50 (if g = true then 1 else 0) (ii (s : Int)) (ii (i : Int)) w M) := by
      intro b hb w kk
      refine h50 _ _ _ _ _ ⟨fun z => ?_, fun z => ⟨fun z2 => absurd z2 ne, fun _ => ⟨ii_in (by omega) (by omega) (by omega), ?_⟩⟩⟩
      · have hg : g = false := by
          cases g
          · rfl
          · exact absurd z (by decide)
        rw [hb, hg, Bool.false_and, if_neg (by decide)] at kk
        exact kk
      · have hg : g = true := Classical.byContradiction (fun y => z (if_neg y))
        rw [hat, (sb0 _).1]
        rw [hb, hg, Bool.true_and] at kk
        refine ⟨fun z2 => ?_, fun z2 => ?_⟩
        · rw [if_neg (by simp [z2])] at kk
          exact kk
        · rw [if_pos (by simp [z2])] at kk
          exact kk
    refine h18 _ _ _ _ ⟨fun z => ?_, fun _ => ⟨fun z => absurd z ne, fun _ => ⟨ii_in (by omega) (by omega) (by omega), ?_⟩⟩⟩
    · rw [h.1, ii_lt (by omega) (by omega) (by omega) (by omega)] at z
      omega
    · rw [hat, (sb0 _).2.1]
      refine ⟨fun z => step _ rfl _ (h78 _ _ _ _ _ ⟨fun _ => ?_, fun y => absurd rfl y⟩), fun z => step _ rfl _ (stop s i _ hs (by omega) (fun b hb => ?_))⟩
      · rintro x rfl
        rw [show (1 : Int32) = ii 1 from rfl, ii_add]
        refine ih s (i + 1) _ (by omega) (by omega) ?_
        rw [cut_snoc hs hin, ← hp']
        by_cases c : p[i] = 0
        · simp [c]
        · rw [if_neg c, if_neg z]
          simp [c]
      · refine ih (i + 1) (i + 1) b (by omega) (by omega) ?_
        rw [cut_nil p (by omega), ← hp', hb]
        have c : p[i] ≠ 0 := by rw [z]; decide
        rw [if_neg c, if_pos z]
        simp [c, Bool.and_assoc]
end RTREE
