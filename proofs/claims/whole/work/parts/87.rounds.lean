/-! The law's rounds: the tape, the mail, the box. -/
section RND
variable {M : zM} {G : Nat} {Z1 : Int32 → zM → Prop} {Z : Int32 → Int32 → zM → Prop}
theorem r_out {M1 : zM} {x : Int32} {P : zM → Prop} (k : ∀ M3 : zM, (∀ k, k ≠ 451 → Eqk M1 M3 k) → M3.2.1 451 0 = x.toInt64 → P M3) : vp_in (0 : Int32) (ln 451) ∧ (∀ M3 : zM, M3 = zL M1 451 ((0 : Int32)).toNatClampNeg (x.toInt64) → P M3) := by
  refine ⟨in451, fun M3 e => ?_⟩
  rw [z0c] at e
  subst e
  exact k _ (fun k hk => Eqk.zL hk) (by unfold zL vp_updL; simp)
/-- a change of these places only leaves the rest -/
theorem Only.eq {S : List Nat} {M M' : zM} (h : Only S M M') {k : Nat} (hk : k ∉ S) : Eqk M M' k := h.frm k hk
theorem OnlyR.qq {F S : List Nat} {P : Nat → Nat → Prop} {M M' : zM} (h : OnlyR F S M M') (hF : ∀ j, j ∈ F → P 413 j) (hS : ∀ k, k ∈ S → ∀ j, P k j) : FrQ P M M' := (h.frC.q).mono (fun k j q => by
  rcases q with q | q
  · rw [q.1]; exact hF j q.2
  · exact hS k q.1 j)
theorem OnlyQ.qq {F S : List Nat} {P : Nat → Nat → Prop} {M M' : zM} (h : OnlyQ F S M M') (hF : ∀ j, j ∈ F → P 413 j) (hS : ∀ k, k ∈ S → ∀ j, P k j) : FrQ P M M' := (h.frQ).mono (fun k j q => by
  rcases q with q | q
  · rw [q.1]; exact hF j q.2
  · exact hS k q j)
def qT (k j : Nat) : Prop := pS k j ∨ pT k j
def qL (k j : Nat) : Prop := pS k j ∨ pL k j
def qB (k j : Nat) : Prop := pS k j ∨ pB k j
def qTB (k j : Nat) : Prop := pS k j ∨ pT k j ∨ pB k j
def qM (k j : Nat) : Prop := pS k j ∨ pM k j ∨ pT k j
def qY (k j : Nat) : Prop := pS k j ∨ tIn 1 k j ∨ pB k j
theorem p_sep (k j : Nat) : (pS k j → ¬ pT k j ∧ ¬ pM k j ∧ ¬ tIn 1 k j ∧ ¬ pL k j ∧ ¬ pB k j ∧ ¬ pW k j ∧ 413 ≤ k ∧ k < 451) ∧ (pT k j → ¬ pM k j ∧ ¬ tIn 1 k j ∧ ¬ pL k j ∧ ¬ pB k j ∧ ¬ pW k j ∧ 413 ≤ k ∧ k < 451) ∧ (pM k j → ¬ tIn 1 k j ∧ ¬ pL k j ∧ ¬ pB k j ∧ ¬ pW k j ∧ 413 ≤ k ∧ k < 451) ∧ (tIn 1 k j → ¬ pT k j ∧ ¬ pM k j ∧ ¬ pL k j ∧ ¬ pB k j ∧ ¬ pW k j ∧ 413 ≤ k ∧ k < 451) ∧ (pL k j → ¬ pT k j ∧ ¬ pM k j ∧ ¬ tIn 1 k j ∧ ¬ pB k j ∧ ¬ pW k j ∧ 413 ≤ k ∧ k < 451) ∧ (pB k j → ¬ pT k j ∧ ¬ pM k j ∧ ¬ tIn 1 k j ∧ ¬ pL k j ∧ ¬ pW k j ∧ 413 ≤ k ∧ k < 451) := by
  unfold pS pT pM pL pB pW tIn
  refine ⟨?_, ?_, ?_, ?_, ?_, ?_⟩ <;> intro h <;> omega
section IMs
variable {tp tp' : List UInt8} {T T' Y Y' : Tre} {S X S' X' : List UInt8} {L n of L' n' of' g g' : Nat} {B B' : Bx} {M' : zM}
theorem IM.s (h : IM M tp T Y S X L n of B g) (f : FrQ pS M M') (l : M'.2.1 413 = M.2.1 413) : IM M' tp T Y S X L n of B g ∧ ∀ k, k < 413 ∨ 451 ≤ k → Eqk M M' k := by
  have s := fun k j (q : pS k j) => (p_sep k j).1 q
  exact ⟨⟨ImT.fr h.1 f (fun k j q => (s k j q).1), h.2.1.fr f (fun k j q => (s k j q).2.1), ImY.fr h.2.2.1 f (fun k j q => (s k j q).2.2.1), ImL.fr h.2.2.2.1 f (fun k j q => (s k j q).2.2.2.1), ImB.fr h.2.2.2.2.1 f l (fun k j q => (s k j q).2.2.2.2.1), h.2.2.2.2.2.fr f (fun k j q => (s k j q).2.2.2.2.2.1)⟩, f.lo (fun k j q => (s k j q).2.2.2.2.2.2)⟩
theorem IM.t (h : IM M tp T Y S X L n of B g) (f : FrQ qT M M') (l : M'.2.1 413 = M.2.1 413) (h' : Cw M' 7 (413 + 7) tp') : IM M' tp' T Y S X L n of B g ∧ ∀ k, k < 413 ∨ 451 ≤ k → Eqk M M' k := by
  have s := p_sep
  exact ⟨⟨h', h.2.1.fr f (fun k j q => q.elim (fun q => ((s k j).1 q).2.1) (fun q => ((s k j).2.1 q).1)), ImY.fr h.2.2.1 f (fun k j q => q.elim (fun q => ((s k j).1 q).2.2.1) (fun q => ((s k j).2.1 q).2.1)), ImL.fr h.2.2.2.1 f (fun k j q => q.elim (fun q => ((s k j).1 q).2.2.2.1) (fun q => ((s k j).2.1 q).2.2.1)), ImB.fr h.2.2.2.2.1 f l (fun k j q => q.elim (fun q => ((s k j).1 q).2.2.2.2.1) (fun q => ((s k j).2.1 q).2.2.2.1)), h.2.2.2.2.2.fr f (fun k j q => q.elim (fun q => ((s k j).1 q).2.2.2.2.2.1) (fun q => ((s k j).2.1 q).2.2.2.2.1))⟩, f.lo (fun k j q => q.elim (fun q => ((s k j).1 q).2.2.2.2.2.2) (fun q => ((s k j).2.1 q).2.2.2.2.2))⟩
theorem IM.l (h : IM M tp T Y S X L n of B g) (f : FrQ qL M M') (l : M'.2.1 413 = M.2.1 413) (h' : MmI M' S' X' L' n') : IM M' tp T Y S' X' L' n' of B g ∧ ∀ k, k < 413 ∨ 451 ≤ k → Eqk M M' k := by
  have s := p_sep
  exact ⟨⟨ImT.fr h.1 f (fun k j q => q.elim (fun q => ((s k j).1 q).1) (fun q => ((s k j).2.2.2.2.1 q).1)), h.2.1.fr f (fun k j q => q.elim (fun q => ((s k j).1 q).2.1) (fun q => ((s k j).2.2.2.2.1 q).2.1)), ImY.fr h.2.2.1 f (fun k j q => q.elim (fun q => ((s k j).1 q).2.2.1) (fun q => ((s k j).2.2.2.2.1 q).2.2.1)), h', ImB.fr h.2.2.2.2.1 f l (fun k j q => q.elim (fun q => ((s k j).1 q).2.2.2.2.1) (fun q => ((s k j).2.2.2.2.1 q).2.2.2.1)), h.2.2.2.2.2.fr f (fun k j q => q.elim (fun q => ((s k j).1 q).2.2.2.2.2.1) (fun q => ((s k j).2.2.2.2.1 q).2.2.2.2.1))⟩, f.lo (fun k j q => q.elim (fun q => ((s k j).1 q).2.2.2.2.2.2) (fun q => ((s k j).2.2.2.2.1 q).2.2.2.2.2))⟩
theorem IM.b (h : IM M tp T Y S X L n of B g) (f : FrQ qB M M') (h' : BmI M' of' B') : IM M' tp T Y S X L n of' B' g ∧ ∀ k, k < 413 ∨ 451 ≤ k → Eqk M M' k := by
  have s := p_sep
  exact ⟨⟨ImT.fr h.1 f (fun k j q => q.elim (fun q => ((s k j).1 q).1) (fun q => ((s k j).2.2.2.2.2 q).1)), h.2.1.fr f (fun k j q => q.elim (fun q => ((s k j).1 q).2.1) (fun q => ((s k j).2.2.2.2.2 q).2.1)), ImY.fr h.2.2.1 f (fun k j q => q.elim (fun q => ((s k j).1 q).2.2.1) (fun q => ((s k j).2.2.2.2.2 q).2.2.1)), ImL.fr h.2.2.2.1 f (fun k j q => q.elim (fun q => ((s k j).1 q).2.2.2.1) (fun q => ((s k j).2.2.2.2.2 q).2.2.2.1)), h', h.2.2.2.2.2.fr f (fun k j q => q.elim (fun q => ((s k j).1 q).2.2.2.2.2.1) (fun q => ((s k j).2.2.2.2.2 q).2.2.2.2.1))⟩, f.lo (fun k j q => q.elim (fun q => ((s k j).1 q).2.2.2.2.2.2) (fun q => ((s k j).2.2.2.2.2 q).2.2.2.2.2))⟩
theorem IM.tb (h : IM M tp T Y S X L n of B g) (f : FrQ qTB M M') (ht : Cw M' 7 (413 + 7) tp') (h' : BmI M' of' B') : IM M' tp' T Y S X L n of' B' g ∧ ∀ k, k < 413 ∨ 451 ≤ k → Eqk M M' k := by
  have s := p_sep
  exact ⟨⟨ht, h.2.1.fr f (fun k j q => q.elim (fun q => ((s k j).1 q).2.1) (fun q => q.elim (fun q => ((s k j).2.1 q).1) (fun q => ((s k j).2.2.2.2.2 q).2.1))), ImY.fr h.2.2.1 f (fun k j q => q.elim (fun q => ((s k j).1 q).2.2.1) (fun q => q.elim (fun q => ((s k j).2.1 q).2.1) (fun q => ((s k j).2.2.2.2.2 q).2.2.1))), ImL.fr h.2.2.2.1 f (fun k j q => q.elim (fun q => ((s k j).1 q).2.2.2.1) (fun q => q.elim (fun q => ((s k j).2.1 q).2.2.1) (fun q => ((s k j).2.2.2.2.2 q).2.2.2.1))), h', h.2.2.2.2.2.fr f (fun k j q => q.elim (fun q => ((s k j).1 q).2.2.2.2.2.1) (fun q => q.elim (fun q => ((s k j).2.1 q).2.2.2.2.1) (fun q => ((s k j).2.2.2.2.2 q).2.2.2.2.1)))⟩, f.lo (fun k j q => q.elim (fun q => ((s k j).1 q).2.2.2.2.2.2) (fun q => q.elim (fun q => ((s k j).2.1 q).2.2.2.2.2) (fun q => ((s k j).2.2.2.2.2 q).2.2.2.2.2)))⟩
theorem IM.m (h : IM M tp T Y S X L n of B g) (f : FrQ qM M M') (l : M'.2.1 413 = M.2.1 413) (ht : Cw M' 7 (413 + 7) tp') (h' : ImM M' T' g') : IM M' tp' T' Y S X L n of B g' ∧ ∀ k, k < 413 ∨ 451 ≤ k → Eqk M M' k := by
  have s := p_sep
  exact ⟨⟨ht, h', ImY.fr h.2.2.1 f (fun k j q => q.elim (fun q => ((s k j).1 q).2.2.1) (fun q => q.elim (fun q => ((s k j).2.2.1 q).1) (fun q => ((s k j).2.1 q).2.1))), ImL.fr h.2.2.2.1 f (fun k j q => q.elim (fun q => ((s k j).1 q).2.2.2.1) (fun q => q.elim (fun q => ((s k j).2.2.1 q).2.1) (fun q => ((s k j).2.1 q).2.2.1))), ImB.fr h.2.2.2.2.1 f l (fun k j q => q.elim (fun q => ((s k j).1 q).2.2.2.2.1) (fun q => q.elim (fun q => ((s k j).2.2.1 q).2.2.1) (fun q => ((s k j).2.1 q).2.2.2.1))), h.2.2.2.2.2.fr f (fun k j q => q.elim (fun q => ((s k j).1 q).2.2.2.2.2.1) (fun q => q.elim (fun q => ((s k j).2.2.1 q).2.2.2.1) (fun q => ((s k j).2.1 q).2.2.2.2.1)))⟩, f.lo (fun k j q => q.elim (fun q => ((s k j).1 q).2.2.2.2.2.2) (fun q => q.elim (fun q => ((s k j).2.2.1 q).2.2.2.2) (fun q => ((s k j).2.1 q).2.2.2.2.2)))⟩
theorem IM.y (h : IM M tp T Y S X L n of B g) (f : FrQ qY M M') (hy : RtI M' 1 Y') (h' : BmI M' of' B') : IM M' tp T Y' S X L n of' B' g ∧ ∀ k, k < 413 ∨ 451 ≤ k → Eqk M M' k := by
  have s := p_sep
  exact ⟨⟨ImT.fr h.1 f (fun k j q => q.elim (fun q => ((s k j).1 q).1) (fun q => q.elim (fun q => ((s k j).2.2.2.1 q).1) (fun q => ((s k j).2.2.2.2.2 q).1))), h.2.1.fr f (fun k j q => q.elim (fun q => ((s k j).1 q).2.1) (fun q => q.elim (fun q => ((s k j).2.2.2.1 q).2.1) (fun q => ((s k j).2.2.2.2.2 q).2.1))), hy, ImL.fr h.2.2.2.1 f (fun k j q => q.elim (fun q => ((s k j).1 q).2.2.2.1) (fun q => q.elim (fun q => ((s k j).2.2.2.1 q).2.2.1) (fun q => ((s k j).2.2.2.2.2 q).2.2.2.1))), h', h.2.2.2.2.2.fr f (fun k j q => q.elim (fun q => ((s k j).1 q).2.2.2.2.2.1) (fun q => q.elim (fun q => ((s k j).2.2.2.1 q).2.2.2.2.1) (fun q => ((s k j).2.2.2.2.2 q).2.2.2.2.1)))⟩, f.lo (fun k j q => q.elim (fun q => ((s k j).1 q).2.2.2.2.2.2) (fun q => q.elim (fun q => ((s k j).2.2.2.1 q).2.2.2.2.2) (fun q => ((s k j).2.2.2.2.2 q).2.2.2.2.2)))⟩
end IMs
theorem r_type {w : Int64} {a : Int32} (h : IV M G) (k1 : ∀ x M1, Wp_Mo_type 413 w a M1 (fun y M2 => Z x y M2) → Z1 x M1) (k2 : ∀ x y M2, M2.1 413 6 = x → (x = 0 → M2.2.1 451 0 = y.toInt64) → IV M2 (G + 1) → Z x y M2) : Wp_La_type 0 w a 451 M Z1 := by
  obtain ⟨N, ⟨r1, r2⟩, rfl⟩ := ii_ex a
  obtain ⟨tp, T, Y, S, X, L, n, of, B, hT, hY, hB, hC, g, hg, hM⟩ := h
  have qq : ∀ {M1 M2 : zM}, OnlyR [6, 7] [413 + 7] M1 M2 → FrQ qT M1 M2 := fun o => o.qq (by unfold qT pS pT; simp) (by unfold qT pS pT; simp)
  unfold Wp_La_type
  refine s_Mc_type hC.1 r1 r2 (fun q => Or.inl ⟨rfl, k1 _ _ ?_⟩) (fun q1 q2 q3 => Or.inr ⟨rfl, k1 _ _ ?_⟩) (fun M1 q1 q2 q3 o1 R1 => ⟨_, rfl, r_out (fun M3 e3 v3 => k1 _ _ ?_)⟩)
  · refine s_Mo_type hM.1 r1 r2 (fun M2 z o e R => ?_) (fun M2 z1 z2 z3 o e R => absurd q (by omega)) (fun M2 z1 z2 z3 o e R => absurd q (by omega))
    have m := hM.t (qq o) (by rw [o.2.2]) R
    exact k2 _ _ _ e (fun z => absurd z (by decide)) (IV.mk hT hY hB hC m.2 (by omega) m.1)
  · refine s_Mo_type hM.1 r1 r2 (fun M2 z o e R => absurd z (by omega)) (fun M2 z1 z2 z3 o e R => ?_) (fun M2 z1 z2 z3 o e R => absurd q3 (by omega))
    have m := hM.t (qq o) (by rw [o.2.2]) R
    exact k2 _ _ _ e (fun z => absurd z (by decide)) (IV.mk hT hY hB hC m.2 (by omega) m.1)
  · have hC1 : IC M1 (tp ++ wbs w N.toNat) T Y S X L n of B := ⟨R1, hC.2.1.sm3 (fun k _ _ => o1.eq (by simp; omega)), hC.2.2.1.sm (by rw [o1.1 0 (by decide)]) (fun k _ _ => o1.eq (by simp; omega)), hC.2.2.2.1.sm (fun k _ _ => o1.eq (by simp; omega)), hC.2.2.2.2.1.sm (fun k _ _ => o1.eq (by simp; omega)), hC.2.2.2.2.2.sm (by rw [o1.2]) (fun k _ _ => o1.eq (by simp; omega))⟩
    have hC3 := hC1.sm (fun k hk => e3 k (by omega))
    have hM3 := hM.sm (fun k h1 h2 => (o1.eq (k := k) (by simp; omega)).trans (e3 k (by omega)))
    refine s_Mo_type hM3.1 r1 r2 (fun M2 z o e R => absurd z (by omega)) (fun M2 z1 z2 z3 o e R => absurd q3 (by omega)) (fun M2 z1 z2 z3 o e R => ?_)
    have m := hM3.t (qq o) (by rw [o.2.2]) R
    exact k2 _ _ _ e (fun _ => by rw [(m.2 451 (by omega)).2.1]; exact v3) (IV.mk hT hY hB hC3 m.2 (by omega) m.1)
theorem r_again {a : Int32} (h : IV M G) (k1 : ∀ x M1, Wp_Mo_again 413 a M1 (fun y M2 => Z x y M2) → Z1 x M1) (k2 : ∀ x y M2, M2.1 413 6 = x → (x = 0 → M2.2.1 451 0 = y.toInt64) → IV M2 (G + 1) → Z x y M2) : Wp_La_again 0 a 451 M Z1 := by
  obtain ⟨N, ⟨r1, r2⟩, rfl⟩ := ii_ex a
  obtain ⟨tp, T, Y, S, X, L, n, of, B, hT, hY, hB, hC, g, hg, hM⟩ := h
  have qq : ∀ {M1 M2 : zM}, OnlyR [6, 7] [413 + 7] M1 M2 → FrQ qT M1 M2 := fun o => o.qq (by unfold qT pS pT; simp) (by unfold qT pS pT; simp)
  unfold Wp_La_again
  refine s_Mc_again hC.1 r1 r2 (fun q => Or.inl ⟨rfl, k1 _ _ ?_⟩) (fun q1 q2 q3 => Or.inr ⟨rfl, k1 _ _ ?_⟩) (fun M1 q1 q2 q3 o1 R1 => ⟨_, rfl, r_out (fun M3 e3 v3 => k1 _ _ ?_)⟩)
  · refine s_Mo_again hM.1 r1 r2 (fun M2 z o e R => ?_) (fun M2 z1 z2 z3 o e R => absurd q (by omega)) (fun M2 z1 z2 z3 o e R => absurd q (by omega))
    have m := hM.t (qq o) (by rw [o.2.2]) R
    exact k2 _ _ _ e (fun z => absurd z (by decide)) (IV.mk hT hY hB hC m.2 (by omega) m.1)
  · refine s_Mo_again hM.1 r1 r2 (fun M2 z o e R => absurd z (by omega)) (fun M2 z1 z2 z3 o e R => ?_) (fun M2 z1 z2 z3 o e R => absurd q3 (by omega))
    have m := hM.t (qq o) (by rw [o.2.2]) R
    exact k2 _ _ _ e (fun z => absurd z (by decide)) (IV.mk hT hY hB hC m.2 (by omega) m.1)
  · have hC1 : IC M1 _ T Y S X L n of B := ⟨R1, hC.2.1.sm3 (fun k _ _ => o1.eq (by simp; omega)), hC.2.2.1.sm (by rw [o1.1 0 (by decide)]) (fun k _ _ => o1.eq (by simp; omega)), hC.2.2.2.1.sm (fun k _ _ => o1.eq (by simp; omega)), hC.2.2.2.2.1.sm (fun k _ _ => o1.eq (by simp; omega)), hC.2.2.2.2.2.sm (by rw [o1.2]) (fun k _ _ => o1.eq (by simp; omega))⟩
    have hC3 := hC1.sm (fun k hk => e3 k (by omega))
    have hM3 := hM.sm (fun k h1 h2 => (o1.eq (k := k) (by simp; omega)).trans (e3 k (by omega)))
    refine s_Mo_again hM3.1 r1 r2 (fun M2 z o e R => absurd z (by omega)) (fun M2 z1 z2 z3 o e R => absurd q3 (by omega)) (fun M2 z1 z2 z3 o e R => ?_)
    have m := hM3.t (qq o) (by rw [o.2.2]) R
    exact k2 _ _ _ e (fun _ => by rw [(m.2 451 (by omega)).2.1]; exact v3) (IV.mk hT hY hB hC3 m.2 (by omega) m.1)
theorem r_checksum (h : IV M G) (k1 : ∀ x M1, Wp_Mo_checksum 413 M1 (fun y M2 => Z x y M2) → Z1 x M1) (k2 : ∀ x M2, IV M2 (G + 1) → Z x x M2) : Wp_Mc_checksum 0 M Z1 := by
  obtain ⟨tp, T, Y, S, X, L, n, of, B, hT, hY, hB, hC, g, hg, hM⟩ := h
  refine s_Mc_checksum hC.1 (fun M1 o1 R1 => k1 _ _ ?_)
  have hC1 : IC M1 [] T Y S X L n of B := ⟨R1, hC.2.1.sm3 (fun k _ _ => o1.eq (by simp; omega)), hC.2.2.1.sm (by rw [o1.1 0 (by decide)]) (fun k _ _ => o1.eq (by simp; omega)), hC.2.2.2.1.sm (fun k _ _ => o1.eq (by simp; omega)), hC.2.2.2.2.1.sm (fun k _ _ => o1.eq (by simp; omega)), hC.2.2.2.2.2.sm (by rw [o1.2]) (fun k _ _ => o1.eq (by simp; omega))⟩
  have hM1 := hM.sm (fun k h1 h2 => (o1.eq (k := k) (by simp; omega)))
  refine s_Mo_checksum hM1.1 (fun M2 o e R => ?_)
  have m := hM1.t (o.qq (by unfold qT pS pT; simp) (by simp)) (by rw [o.2.2]) R
  exact k2 _ _ (IV.mk hT hY hB hC1 m.2 (by omega) m.1)
theorem r_part {a b : Int32} (h : IV M G) (k1 : ∀ x M1, Wp_Mo_part 413 a b M1 (fun y M2 => Z x y M2) → Z1 x M1) (k2 : ∀ x y M2, M2.1 413 6 = x → (x = 0 → M2.2.1 451 0 = y.toInt64) → IV M2 (G + 1) → Z x y M2) : Wp_La_part 0 a b 451 M Z1 := by
  obtain ⟨N, ⟨r1, r2⟩, rfl⟩ := ii_ex a
  obtain ⟨I, ⟨s1, s2⟩, rfl⟩ := ii_ex b
  obtain ⟨tp, T, Y, S, X, L, n, of, B, hT, hY, hB, hC, g, hg, hM⟩ := h
  have qq : ∀ {M1 M2 : zM}, OnlyR [6, 59] [413 + 37] M1 M2 → FrQ pS M1 M2 := fun o => o.qq (by unfold pS; simp) (by unfold pS; simp)
  have sC : ∀ {M1 : zM}, Only [0 + 411, 0 + 411 + 1] M M1 → IC M1 tp T Y S X L n of B := fun o1 => ⟨hC.1.sm (o1.eq (by decide)) (o1.eq (by decide)), hC.2.1.sm3 (fun k _ _ => o1.eq (by simp; omega)), hC.2.2.1.sm (by rw [o1.1 0 (by decide)]) (fun k _ _ => o1.eq (by simp; omega)), hC.2.2.2.1.sm (fun k _ _ => o1.eq (by simp; omega)), hC.2.2.2.2.1.sm (fun k _ _ => o1.eq (by simp; omega)), hC.2.2.2.2.2.sm (by rw [o1.2]) (fun k _ _ => o1.eq (by simp; omega))⟩
  unfold Wp_La_part
  refine s_Mc_part hC.2.2.2.1 r1 r2 s1 s2 (fun M1 o1 q => ⟨rfl, k1 _ _ ?_⟩) (fun M1 o1 q => ⟨_, rfl, r_out (fun M3 e3 v3 => k1 _ _ ?_)⟩)
  · have hM1 := hM.sm (fun k h1 h2 => (o1.eq (k := k) (by simp; omega)))
    refine s_Mo_part hM1.2.2.2.2.2.1 hM1.2.2.2.1 r1 r2 s1 s2 (fun M2 o e z => ?_) (fun M2 o e z => absurd z q)
    have m := hM1.s (qq o) (by rw [o.2.2])
    exact k2 _ _ _ e (fun z => absurd z (by decide)) (IV.mk hT hY hB (sC o1) m.2 (by omega) m.1)
  · have hC3 := (sC o1).sm (fun k hk => e3 k (by omega))
    have hM3 := hM.sm (fun k h1 h2 => (o1.eq (k := k) (by simp; omega)).trans (e3 k (by omega)))
    refine s_Mo_part hM3.2.2.2.2.2.1 hM3.2.2.2.1 r1 r2 s1 s2 (fun M2 o e z => absurd q z) (fun M2 o e z => ?_)
    have m := hM3.s (qq o) (by rw [o.2.2])
    exact k2 _ _ _ e (fun _ => by rw [(m.2 451 (by omega)).2.1]; exact v3) (IV.mk hT hY hB hC3 m.2 (by omega) m.1)
theorem r_receive (h : IV M G) (k1 : ∀ x M1, Wp_Mo_receive 413 M1 (fun y M2 => Z x y M2) → Z1 x M1) (k2 : ∀ x M2, IV M2 (G + 1) → Z x x M2) : Wp_Mc_receive 0 M Z1 := by
  obtain ⟨tp, T, Y, S, X, L, n, of, B, hT, hY, hB, hC, g, hg, hM⟩ := h
  refine s_Mc_receive hC.1 hC.2.2.2.2.1 hB (fun M1 c of' B' o1 hTk B1 R1 => k1 _ _ ?_)
  have ok' := (hTk.ok hB).1
  have hC1 : IC M1 [] T Y S X L n of' B' := ⟨R1, hC.2.1.sm3 (fun k _ _ => o1 k (by simp; omega)), hC.2.2.1.sm (by rw [(o1 0 (by decide)).1]) (fun k _ _ => o1 k (by simp; omega)), hC.2.2.2.1.sm (fun k _ _ => o1 k (by simp; omega)), B1, hC.2.2.2.2.2.sm (o1 0 (by decide)).2.2 (fun k _ _ => o1 k (by simp; omega))⟩
  have hM1 := hM.sm (fun k h1 h2 => o1 k (by simp; omega))
  refine s_Mo_receive hM1.2.2.2.2.2.1 hM1.1 hM1.2.2.2.2.1 hB hTk (fun M2 o e R B2 => ?_)
  have m := hM1.tb (o.qq (by unfold qTB pS pT pB; simp) (by unfold qTB pS pT pB; simp)) R B2
  exact k2 _ _ (IV.mk hT hY ok' hC1 m.2 (by omega) m.1)
theorem r_empty (h : IV M G) (k1 : ∀ x M1, Wp_Mo_empty 413 M1 (fun y M2 => Z x y M2) → Z1 x M1) (k2 : ∀ x M2, IV M2 (G + 1) → Z x x M2) : Wp_Mc_empty 0 M Z1 := by
  obtain ⟨tp, T, Y, S, X, L, n, of, B, hT, hY, hB, hC, g, hg, hM⟩ := h
  refine s_Mc_empty hC.2.2.2.2.1 (fun M1 o1 B1 => k1 _ _ ?_)
  have hC1 : IC M1 tp T Y S X L n 0 [] := ⟨hC.1.sm (o1.eq (by decide)) (o1.eq (by decide)), hC.2.1.sm3 (fun k _ _ => o1.eq (by simp; omega)), hC.2.2.1.sm (by rw [o1.1 0 (by decide)]) (fun k _ _ => o1.eq (by simp; omega)), hC.2.2.2.1.sm (fun k _ _ => o1.eq (by simp; omega)), B1, hC.2.2.2.2.2.sm (by rw [o1.2]) (fun k _ _ => o1.eq (by simp; omega))⟩
  have hM1 := hM.sm (fun k h1 h2 => o1.eq (k := k) (by simp; omega))
  refine s_Mo_empty hM1.2.2.2.2.1 (fun M2 o e B2 => ?_)
  have m := hM1.b (o.qq (by unfold qB pS pB; simp) (by unfold qB pS pB; simp)) B2
  exact k2 _ _ (IV.mk hT hY (BxOk.nil 0 (by omega)) hC1 m.2 (by omega) m.1)
theorem r_pass {a b c : Int32} (h : IV M G) (k1 : ∀ x M1, Wp_Mo_pass 413 a b c M1 (fun y M2 => Z x y M2) → Z1 x M1) (k2 : ∀ x y M2, M2.1 413 6 = x → (x = 0 → M2.2.1 451 0 = y.toInt64) → IV M2 (G + 1) → Z x y M2) : Wp_La_pass 0 a b c 451 M Z1 := by
  obtain ⟨N, ⟨r1, r2⟩, rfl⟩ := ii_ex a
  obtain ⟨I, ⟨s1, s2⟩, rfl⟩ := ii_ex b
  obtain ⟨C, ⟨t1, t2⟩, rfl⟩ := ii_ex c
  obtain ⟨tp, T, Y, S, X, L, n, of, B, hT, hY, hB, hC, g, hg, hM⟩ := h
  have qq : ∀ {M1 M2 : zM}, OnlyR [6, 59] [413 + 37] M1 M2 → FrQ pS M1 M2 := fun o => o.qq (by unfold pS; simp) (by unfold pS; simp)
  have sC : ∀ {M1 : zM}, Only [0 + 411, 0 + 411 + 1] M M1 → IC M1 tp T Y S X L n of B := fun o1 => ⟨hC.1.sm (o1.eq (by decide)) (o1.eq (by decide)), hC.2.1.sm3 (fun k _ _ => o1.eq (by simp; omega)), hC.2.2.1.sm (by rw [o1.1 0 (by decide)]) (fun k _ _ => o1.eq (by simp; omega)), hC.2.2.2.1.sm (fun k _ _ => o1.eq (by simp; omega)), hC.2.2.2.2.1.sm (fun k _ _ => o1.eq (by simp; omega)), hC.2.2.2.2.2.sm (by rw [o1.2]) (fun k _ _ => o1.eq (by simp; omega))⟩
  unfold Wp_La_pass
  refine s_Mc_pass hC.2.2.2.1 hC.2.2.2.2.1 hB r1 r2 s1 s2 t1 t2 (fun M1 o1 q => Or.inl ⟨rfl, k1 _ _ ?_⟩) (fun M1 o1 q q2 => Or.inr ⟨rfl, k1 _ _ ?_⟩) (fun M1 cc of' B' o1 q q2 hTk B1 => ⟨_, rfl, r_out (fun M3 e3 v3 => k1 _ _ ?_)⟩)
  · have hM1 := hM.sm (fun k h1 h2 => (o1.eq (k := k) (by simp; omega)))
    refine s_Mo_pass hM1.2.2.2.2.2.1 hM1.2.2.2.1 hM1.2.2.2.2.1 hB r1 r2 s1 s2 t1 t2 (fun M2 o e z => ?_) (fun M2 o e z z2 => absurd z q) (fun z z2 => absurd z q)
    have m := hM1.s (qq o) (by rw [o.2.2])
    exact k2 _ _ _ e (fun z => absurd z (by decide)) (IV.mk hT hY hB (sC o1) m.2 (by omega) m.1)
  · have hM1 := hM.sm (fun k h1 h2 => (o1.eq (k := k) (by simp; omega)))
    refine s_Mo_pass hM1.2.2.2.2.2.1 hM1.2.2.2.1 hM1.2.2.2.2.1 hB r1 r2 s1 s2 t1 t2 (fun M2 o e z => absurd q z) (fun M2 o e z z2 => ?_) (fun z z2 => absurd z2 q2)
    have m := hM1.s (qq o) (by rw [o.2.2])
    exact k2 _ _ _ e (fun z => absurd z (by decide)) (IV.mk hT hY hB (sC o1) m.2 (by omega) m.1)
  · have ok' := (hTk.ok hB).1
    have hC1 : IC M1 tp T Y S X L n of' B' := ⟨hC.1.sm (o1 _ (by decide)) (o1 _ (by decide)), hC.2.1.sm3 (fun k _ _ => o1 k (by simp; omega)), hC.2.2.1.sm (by rw [(o1 0 (by decide)).1]) (fun k _ _ => o1 k (by simp; omega)), hC.2.2.2.1.sm (fun k _ _ => o1 k (by simp; omega)), B1, hC.2.2.2.2.2.sm (o1 0 (by decide)).2.2 (fun k _ _ => o1 k (by simp; omega))⟩
    have hC3 := hC1.sm (fun k hk => e3 k (by omega))
    have hM3 := hM.sm (fun k h1 h2 => Eqk.trans (o1 k (by simp; omega)) (e3 k (by omega)))
    refine s_Mo_pass hM3.2.2.2.2.2.1 hM3.2.2.2.1 hM3.2.2.2.2.1 hB r1 r2 s1 s2 t1 t2 (fun M2 o e z => absurd q z) (fun M2 o e z z2 => absurd q2 z2) (fun z z2 => ⟨cc, of', B', hTk, fun M2 o e B2 => ?_⟩)
    have m := hM3.b (o.qq (by unfold qB pS pB; simp) (by unfold qB pS pB; simp)) B2
    exact k2 _ _ _ e (fun _ => by rw [(m.2 451 (by omega)).2.1]; exact v3) (IV.mk hT hY ok' hC3 m.2 (by omega) m.1)
theorem r_forge {a b : Int32} {Z : Int32 → zM → Prop} (h : IV M G) (k1 : ∀ x M1, Wp_Mo_forge 413 a b M1 (fun M2 => Z x M2) → Z1 x M1) (k2 : ∀ x M2, M2.1 413 6 = x → IV M2 (G + 1) → Z x M2) : Wp_La_forge 0 a b M Z1 := by
  obtain ⟨N, ⟨r1, r2⟩, rfl⟩ := ii_ex a
  obtain ⟨I, ⟨s1, s2⟩, rfl⟩ := ii_ex b
  obtain ⟨tp, T, Y, S, X, L, n, of, B, hT, hY, hB, hC, g, hg, hM⟩ := h
  have htl : tp.length ≤ 8000 := by
    have := hC.1.2.1
    rw [show ln (0 + 1 + 1) = 8000 by decide +kernel] at this
    exact this
  unfold Wp_La_forge
  refine s_Mc_forge hC.1 r1 r2 s1 s2 (fun M1 o1 q R1 => ⟨rfl, k1 _ _ ?_⟩) (fun M1 o1 q R1 B1 => ⟨rfl, k1 _ _ ?_⟩)
  · have hC1 : IC M1 [] T Y S X L n of B := ⟨R1, hC.2.1.sm3 (fun k _ _ => o1.eq (by simp; omega)), hC.2.2.1.sm (by rw [o1.1 0 (by decide)]) (fun k _ _ => o1.eq (by simp; omega)), hC.2.2.2.1.sm (fun k _ _ => o1.eq (by simp; omega)), hC.2.2.2.2.1.sm (fun k _ _ => o1.eq (by simp; omega)), hC.2.2.2.2.2.sm (by rw [o1.2]) (fun k _ _ => o1.eq (by simp; omega))⟩
    have hM1 := hM.sm (fun k h1 h2 => (o1.eq (k := k) (by simp; omega)))
    refine s_Mo_forge hM1.2.2.2.2.2.2.1 hM1.1 r1 r2 s1 s2 (fun M2 o e z R => ?_) (fun M2 o e z R B2 => absurd z q)
    have m := hM1.t (o.qq (by unfold qT pS pT; simp) (by simp)) (by rw [o.2.2]) R
    exact k2 _ _ e (IV.mk hT hY hB hC1 m.2 (by omega) m.1)
  · have hl := forgeT_len q htl
    have hC1 : IC M1 [] T Y S X L n 1 [(1, forgeT N I tp)] := ⟨R1, hC.2.1.sm3 (fun k _ _ => o1.eq (by simp; omega)), hC.2.2.1.sm (by rw [o1.1 0 (by decide)]) (fun k _ _ => o1.eq (by simp; omega)), hC.2.2.2.1.sm (fun k _ _ => o1.eq (by simp; omega)), B1, hC.2.2.2.2.2.sm (by rw [o1.2]) (fun k _ _ => o1.eq (by simp; omega))⟩
    have hM1 := hM.sm (fun k h1 h2 => (o1.eq (k := k) (by simp; omega)))
    refine s_Mo_forge hM1.2.2.2.2.2.2.1 hM1.1 r1 r2 s1 s2 (fun M2 o e z R => absurd q z) (fun M2 o e z R B2 => ?_)
    have m := hM1.tb (o.qq (by unfold qTB pS pT pB; simp) (by unfold qTB pS pT pB; simp)) R B2
    exact k2 _ _ e (IV.mk hT hY (BxOk.one (by omega)) hC1 m.2 (by omega) m.1)
end RND
