/-! The law's rounds: what holds between them. -/
def Eqk (M M' : zM) (k : Nat) : Prop := M'.1 k = M.1 k ∧ M'.2.1 k = M.2.1 k ∧ M'.2.2 k = M.2.2 k
theorem Eqk.rf {M : zM} {k : Nat} : Eqk M M k := ⟨rfl, rfl, rfl⟩
theorem Eqk.trans {M M' M'' : zM} {k : Nat} (h : Eqk M M' k) (h' : Eqk M' M'' k) : Eqk M M'' k := ⟨h'.1.trans h.1, h'.2.1.trans h.2.1, h'.2.2.trans h.2.2⟩
theorem Eqk.zL {M : zM} {k a j : Nat} {v : Int64} (h : k ≠ a) : Eqk M (zL M a j v) k := ⟨rfl, zL_o h, rfl⟩
theorem Rw.sm {M M' : zM} {r : Nat} {bs : List UInt8} (h : Rw M r bs) (h0 : Eqk M M' r) (h1 : Eqk M M' (r + 1)) : Rw M' r bs := ⟨by rw [h0.1]; exact h.1, h.2.1, fun i hi => by rw [h1.1]; exact h.2.2 i hi⟩
theorem MaI.sm {M M' : zM} {a : Nat} {S T : List UInt8} {L n : Nat} (h : MaI M a S T L n) (hs : ∀ k, a ≤ k → k ≤ a + 5 → Eqk M M' k) : MaI M' a S T L n := by
  obtain ⟨h1, h2, h3, h4, h5, h6, h7, h8, h9⟩ := h
  exact ⟨h1.sm (hs _ (by omega) (by omega)) (hs _ (by omega) (by omega)), h2.sm (hs _ (by omega) (by omega)) (hs _ (by omega) (by omega)), by rw [(hs a (by omega) (by omega)).1]; exact h3, by rw [(hs a (by omega) (by omega)).1]; exact h4, h5, h6, h7, h8, fun i hi => by rw [(hs (a + 5) (by omega) (by omega)).1]; exact h9 i hi⟩
theorem BoI.sm {M M' : zM} {a of : Nat} {B : Bx} (h : BoI M a of B) (hs : ∀ k, a ≤ k → k ≤ a + 4 → Eqk M M' k) : BoI M' a of B := by
  have e0 := (hs a (by omega) (by omega)).1
  have e3 := (hs (a + 3) (by omega) (by omega)).1
  have e4 := (hs (a + 4) (by omega) (by omega)).1
  obtain ⟨h1, h2, h3, h4, h5, rs, h6, h7⟩ := h
  unfold BoI
  rw [e0, e3, e4]
  exact ⟨h1, h2, h3, h4, h5, rs, h6.sm (hs _ (by omega) (by omega)) (hs _ (by omega) (by omega)), h7⟩
theorem FrI.sm {M M' : zM} {T : Tre} (h : FrI M T) (h5 : M'.1 0 5 = M.1 0 5) (hs : ∀ k, 384 ≤ k → k < 386 → Eqk M M' k) : FrI M' T := by
  rcases h with h | ⟨h, A, hA, hR⟩
  · exact Or.inl (h5.trans h)
  · exact Or.inr ⟨h5.trans h, A, hA, hR.sm (hs _ (by omega) (by omega)) (hs _ (by omega) (by omega))⟩
def YD (M : zM) (Y : Tre) : Prop := ∃ (y d : Nat) (Td : Tre), M.2.2 0 2 = y ∧ M.2.2 0 3 = d ∧ ((y = 130 ∧ d = 257) ∨ (y = 257 ∧ d = 130)) ∧ TrI M y Y ∧ TrI M d Td
theorem YD.sm {M M' : zM} {Y : Tre} (h : YD M Y) (h0 : M'.2.2 0 = M.2.2 0) (hs : ∀ k, 130 ≤ k → k < 384 → Eqk M M' k) : YD M' Y := by
  obtain ⟨y, d, Td, a1, a2, a3, a4, a5⟩ := h
  exact ⟨y, d, Td, by rw [h0]; exact a1, by rw [h0]; exact a2, a3, a4.same (fun k q1 q2 => have e := hs k (by omega) (by omega); ⟨e.1, e.2.2⟩), a5.same (fun k q1 q2 => have e := hs k (by omega) (by omega); ⟨e.1, e.2.2⟩)⟩
theorem TrI.sm3 {M M' : zM} {T : Tre} (h : TrI M (0 + 3) T) (hs : ∀ k, 3 ≤ k → k < 130 → Eqk M M' k) : TrI M' (0 + 3) T := h.same (fun k q1 q2 => have e := hs k (by omega) (by omega); ⟨e.1, e.2.2⟩)
/-- MailChain's own side -/
def IC (M : zM) (tp : List UInt8) (T Y : Tre) (S X : List UInt8) (L n of : Nat) (B : Bx) : Prop := Rw M (0 + 1) tp ∧ TrI M (0 + 3) T ∧ FrI M T ∧ MaI M (0 + 386) S X L n ∧ BoI M (0 + 392) of B ∧ YD M Y
theorem IC.sm {M M' : zM} {tp : List UInt8} {T Y : Tre} {S X : List UInt8} {L n of : Nat} {B : Bx} (h : IC M tp T Y S X L n of B) (hs : ∀ k, k < 413 → Eqk M M' k) : IC M' tp T Y S X L n of B :=
  ⟨h.1.sm (hs _ (by omega)) (hs _ (by omega)), h.2.1.sm3 (fun k _ _ => hs k (by omega)), h.2.2.1.sm (by rw [(hs 0 (by omega)).1]) (fun k _ _ => hs k (by omega)), h.2.2.2.1.sm (fun k _ _ => hs k (by omega)), h.2.2.2.2.1.sm (fun k _ _ => hs k (by omega)), h.2.2.2.2.2.sm (hs 0 (by omega)).2.2 (fun k _ _ => hs k (by omega))⟩
/-- the cells of the reference, by what they are for -/
def pT (k j : Nat) : Prop := (k = 413 ∧ j = 7) ∨ k = 420
def pM (k j : Nat) : Prop := tIn 0 k j ∨ (k = 413 ∧ j = 22)
def pL (k j : Nat) : Prop := (k = 413 ∧ (j = 31 ∨ j = 32 ∨ j = 33 ∨ j = 35)) ∨ k = 438 ∨ k = 439
def pB (k j : Nat) : Prop := (k = 413 ∧ (j = 37 ∨ j = 38 ∨ j = 43)) ∨ (440 ≤ k ∧ k ≤ 443)
def pW (k j : Nat) : Prop := 414 ≤ k ∧ k ≤ 419
def pS (k j : Nat) : Prop := (k = 413 ∧ (j = 6 ∨ j = 24 ∨ j = 25 ∨ j = 27 ∨ j = 29 ∨ j = 45 ∨ j = 47 ∨ 53 ≤ j)) ∨ (434 ≤ k ∧ k ≤ 437) ∨ (444 ≤ k ∧ k ≤ 450) ∨ tIn 2 k j
def ImM (M : zM) (T : Tre) (G : Nat) : Prop := RtI M 0 T ∧ LkI M T G
def ImW (M : zM) : Prop := WoI M ∧ (∀ (i : Nat) (h : i < 15), M.1 (413 + 2) i = sb ((txt 4).getD i 0)) ∧ Ab M (413 + 1) trName
theorem ImT.fr {P : Nat → Nat → Prop} {M M' : zM} {bs : List UInt8} (h : Cw M 7 (413 + 7) bs) (f : FrQ P M M') (hp : ∀ k j, P k j → ¬ pT k j) : Cw M' 7 (413 + 7) bs := ⟨by rw [f.1 _ _ (fun q => hp _ _ q (Or.inl ⟨rfl, rfl⟩))]; exact h.1, h.2.1, fun i hi => by rw [f.1 _ _ (fun q => hp _ _ q (Or.inr rfl))]; exact h.2.2 i hi⟩
theorem ImM.fr {P : Nat → Nat → Prop} {M M' : zM} {T : Tre} {G : Nat} (h : ImM M T G) (f : FrQ P M M') (hp : ∀ k j, P k j → ¬ pM k j) : ImM M' T G := ⟨h.1.same (fun k j q => f.1 _ _ (fun z => hp _ _ z (Or.inl q))), h.2.same h.1.2.1 (f.1 _ _ (fun z => hp _ _ z (Or.inr ⟨rfl, rfl⟩))) (fun i hi => f.1 _ _ (fun z => hp _ _ z (Or.inl (by unfold tIn; omega))))⟩
theorem ImY.fr {P : Nat → Nat → Prop} {M M' : zM} {T : Tre} (h : RtI M 1 T) (f : FrQ P M M') (hp : ∀ k j, P k j → ¬ tIn 1 k j) : RtI M' 1 T := h.same (fun k j q => f.1 _ _ (fun z => hp _ _ z q))
theorem ImL.fr {P : Nat → Nat → Prop} {M M' : zM} {S X : List UInt8} {L n : Nat} (h : MmI M S X L n) (f : FrQ P M M') (hp : ∀ k j, P k j → ¬ pL k j) : MmI M' S X L n := by
  have e : ∀ k j, pL k j → M'.1 k j = M.1 k j := fun k j q => f.1 _ _ (fun z => hp _ _ z q)
  obtain ⟨a1, a2, a3, a4, a5, a6⟩ := h
  refine ⟨⟨by rw [e _ _ (by unfold pL; omega)]; exact a1.1, a1.2.1, fun i hi => by rw [e _ _ (by unfold pL; omega)]; exact a1.2.2 i hi⟩, ⟨by rw [e _ _ (by unfold pL; omega)]; exact a2.1, a2.2.1, fun i hi => by rw [e _ _ (by unfold pL; omega)]; exact a2.2.2 i hi⟩, by rw [e _ _ (by unfold pL; omega)]; exact a3, fun q => by rw [e _ _ (by unfold pL; omega)]; exact a4 q, a5, a6⟩
theorem ImB.fr {P : Nat → Nat → Prop} {M M' : zM} {of : Nat} {B : Bx} (h : BmI M of B) (f : FrQ P M M') (hl : M'.2.1 413 = M.2.1 413) (hp : ∀ k j, P k j → ¬ pB k j) : BmI M' of B := by
  have e : ∀ k j, pB k j → M'.1 k j = M.1 k j := fun k j q => f.1 _ _ (fun z => hp _ _ z q)
  obtain ⟨a1, a2, a3, a4, a5⟩ := h
  refine ⟨by rw [e _ _ (by unfold pB; omega)]; exact a1, fun q => by rw [e _ _ (by unfold pB; omega)]; exact a2 q, by rw [hl]; exact a3, fun k hk => by rw [e _ _ (by unfold pB; omega)]; exact a4 k hk, fun q => ⟨⟨by rw [e _ _ (by unfold pB; omega)]; exact (a5 q).1.1, (a5 q).1.2.1, fun i hi => by rw [e _ _ (by unfold pB; omega)]; exact (a5 q).1.2.2 i hi⟩, fun k p hk => ?_⟩⟩
  rw [e _ _ (by unfold pB; omega), e _ _ (by unfold pB; omega)]
  exact (a5 q).2 k p hk
theorem ImW.fr {P : Nat → Nat → Prop} {M M' : zM} (h : ImW M) (f : FrQ P M M') (hp : ∀ k j, P k j → ¬ pW k j) : ImW M' := by
  have e : ∀ k, 414 ≤ k → k ≤ 419 → M'.1 k = M.1 k := fun k q1 q2 => funext fun j => f.1 _ _ (fun z => hp _ _ z ⟨q1, q2⟩)
  obtain ⟨⟨a1, a2, a3, a4⟩, a5, a6⟩ := h
  refine ⟨⟨⟨a1.1, ?_⟩, ⟨a2.1, ?_⟩, ⟨a3.1, ?_⟩, ⟨a4.1, ?_⟩⟩, ?_, ⟨a6.1, ?_⟩⟩
  · rw [e _ (by omega) (by omega)]; exact a1.2
  · rw [e _ (by omega) (by omega)]; exact a2.2
  · rw [e _ (by omega) (by omega)]; exact a3.2
  · rw [e _ (by omega) (by omega)]; exact a4.2
  · rw [e _ (by omega) (by omega)]; exact a5
  · rw [e _ (by omega) (by omega)]; exact a6.2
/-- the reference's side -/
def IM (M : zM) (tp : List UInt8) (T Y : Tre) (S X : List UInt8) (L n of : Nat) (B : Bx) (G : Nat) : Prop := Cw M 7 (413 + 7) tp ∧ ImM M T G ∧ RtI M 1 Y ∧ MmI M S X L n ∧ BmI M of B ∧ ImW M
theorem IM.sm {M M' : zM} {tp : List UInt8} {T Y : Tre} {S X : List UInt8} {L n of : Nat} {B : Bx} {G : Nat} (h : IM M tp T Y S X L n of B G) (hs : ∀ k, 413 ≤ k → k < 451 → Eqk M M' k) : IM M' tp T Y S X L n of B G := by
  -- a memory that differs elsewhere only
  have h2 : M'.2.1 413 = M.2.1 413 := (hs 413 (by omega) (by omega)).2.1
  have e : ∀ k j, 413 ≤ k → k < 451 → M'.1 k j = M.1 k j := fun k j q1 q2 => by rw [(hs k q1 q2).1]
  let M0 : zM := (M'.1, (fun k => if k = 413 then M'.2.1 413 else M.2.1 k), M.2.2)
  have f0 : FrQ (fun k j => k < 413 ∨ 451 ≤ k) M M0 := ⟨fun k j q => e k j (by omega) (by omega), fun k q => if_neg q, rfl⟩
  have l0 : M0.2.1 413 = M.2.1 413 := h2
  have t0 : Cw M0 7 (413 + 7) tp := ImT.fr h.1 f0 (fun k j q z => by unfold pT at z; omega)
  have m0 : ImM M0 T G := h.2.1.fr f0 (fun k j q z => by unfold pM tIn at z; omega)
  have y0 : RtI M0 1 Y := ImY.fr h.2.2.1 f0 (fun k j q z => by unfold tIn at z; omega)
  have L0 : MmI M0 S X L n := ImL.fr h.2.2.2.1 f0 (fun k j q z => by unfold pL at z; omega)
  have b0 : BmI M0 of B := ImB.fr h.2.2.2.2.1 f0 l0 (fun k j q z => by unfold pB at z; omega)
  have w0 : ImW M0 := h.2.2.2.2.2.fr f0 (fun k j q z => by unfold pW at z; omega)
  exact ⟨t0, m0, y0, L0, b0, w0⟩
def IV (M : zM) (G : Nat) : Prop := ∃ (tp : List UInt8) (T Y : Tre) (S X : List UInt8) (L n of : Nat) (B : Bx), TOk T ∧ TOk Y ∧ BxOk of B ∧ IC M tp T Y S X L n of B ∧ ∃ g, g ≤ G ∧ IM M tp T Y S X L n of B g
/-- what the reference may change at all -/
theorem FrQ.lo {P : Nat → Nat → Prop} {M M' : zM} (f : FrQ P M M') (hp : ∀ k j, P k j → 413 ≤ k ∧ k < 451) : ∀ k, k < 413 ∨ 451 ≤ k → Eqk M M' k := fun k hk => ⟨funext fun j => f.1 k j (fun q => by have := hp k j q; omega), f.2.1 k (by omega), by rw [f.2.2]⟩
theorem IV.mk {M1 M2 : zM} {tp : List UInt8} {T Y : Tre} {S X : List UInt8} {L n of g G : Nat} {B : Bx} (hT : TOk T) (hY : TOk Y) (hB : BxOk of B) (hC : IC M1 tp T Y S X L n of B) (hl : ∀ k, k < 413 ∨ 451 ≤ k → Eqk M1 M2 k) (hg : g ≤ G) (hM : IM M2 tp T Y S X L n of B g) : IV M2 G := ⟨tp, T, Y, S, X, L, n, of, B, hT, hY, hB, hC.sm (fun k hk => hl k (Or.inl hk)), g, hg, hM⟩
theorem ii_ex (a : Int32) : ∃ n : Int, R32 n ∧ a = ii n := ⟨a.toInt, ii_rng a, (ii_of a).symm⟩
theorem in451 : vp_in (0 : Int32) (ln 451) := by
  have l : ln 451 = 1 := by decide +kernel
  unfold vp_in
  rw [l]
  decide
/-- the end of a round -/
theorem rnd_end {x y : Int32} {M : zM} {good : Prop} (h6 : M.1 413 6 = x) (h0 : x = 0 → M.2.1 451 0 = y.toInt64) (k : good) : ((M.1 413 6 = x → ((¬ x = 0 → good) ∧ (x = 0 → (vp_in (0 : Int32) (ln 451) ∧ (((lg_cmp (M.2.1 451 ((0 : Int32)).toNatClampNeg) (y.toInt64)) = 0 → good) ∧ (¬ (lg_cmp (M.2.1 451 ((0 : Int32)).toNatClampNeg) (y.toInt64)) = 0 → False)))))) ∧ (¬ M.1 413 6 = x → False)) := by
  have z : ((0 : Int32)).toNatClampNeg = 0 := by decide
  refine ⟨fun _ => ⟨fun _ => k, fun hx => ⟨in451, fun _ => k, fun q => q ?_⟩⟩, fun q => q h6⟩
  rw [z, h0 hx, lg_cmp_eq]
