/-! How long what is compressed can be. -/
def tw (w : Nat) : Nat := match w with
  | 9 => 0
  | 10 => 9
  | 11 => 19
  | 12 => 30
  | 13 => 42
  | _ => 55
theorem six {w : Nat} (h1 : 9 ≤ w) (h2 : w ≤ 14) : w = 9 ∨ w = 10 ∨ w = 11 ∨ w = 12 ∨ w = 13 ∨ w = 14 := by omega
def BInv (g : Nat) (e : Enc) (m : Nat) : Prop := EncOk g e ∧ e.w ≤ 14 ∧ e.D.length ≤ m ∧ m ≤ 16000 ∧ lenE e.E ≤ 14 * (m - e.D.length) + e.w * e.D.length + 7 * tw e.w
/-- what a code adds -/
theorem emit_bound {g : Nat} {e : Enc} {m : Nat} (h : BInv g e m) (c : Nat) : (emit g e c).w ≤ 14 ∧ lenE (emit g e c).E ≤ 14 * (m - e.D.length) + (emit g e c).w * (e.D.length + 1) + 7 * tw (emit g e c).w := by
  obtain ⟨⟨a1, a2, a3, a4, a5, a6, a7⟩, b1, b2, b3, b4⟩ := h
  by_cases hy : 2 ^ e.w < 257 + e.D.length ∧ e.w < g
  · have ew : emit g e c = put1 (chg e (e.w + 1)) c := by unfold emit wid; rw [if_pos hy]
    have hw13 : e.w ≤ 13 := by
      rcases Nat.lt_or_ge 13 e.w with q | q
      · have e14 : e.w = 14 := by omega
        rw [e14] at hy
        have := hy.1
        omega
      · exact q
    have el : lenE (emit g e c).E = lenE e.E + (8 - e.c % 8) % 8 * e.w + (e.w + 1) := by
      rw [ew]
      show lenE ((e.E ++ pads e) ++ [(c, e.w + 1)]) = _
      rw [lenE_snoc, lenE_app, lenE_pads]
    have ewd : (emit g e c).w = e.w + 1 := by rw [ew]; rfl
    have hp : (8 - e.c % 8) % 8 * e.w ≤ 7 * e.w := Nat.mul_le_mul_right _ (by omega)
    rw [ewd, el]
    refine ⟨by omega, ?_⟩
    generalize e.w = w at *
    generalize e.D.length = d at *
    rcases six a1 b1 with q | q | q | q | q | q <;> subst q <;> simp only [tw] at b4 ⊢ <;> omega
  · have ew : emit g e c = put1 e c := by unfold emit wid; rw [if_neg hy]
    have el : lenE (emit g e c).E = lenE e.E + e.w := by
      rw [ew]
      exact lenE_snoc _ _ _
    have ewd : (emit g e c).w = e.w := by rw [ew]; rfl
    rw [ewd, el]
    refine ⟨b1, ?_⟩
    rw [Nat.mul_add]
    omega
theorem learn_bound {g : Nat} {e : Enc} {m s : Nat} {b : UInt8} (h : BInv g e m) (hm : m + 1 ≤ 16000) (hs : s < 257 + e.D.length) : BInv g (learn g (emit g e s) s b) (m + 1) := by
  have hD := emit_D g e s
  have hfit := emit_fit h.1 s
  have hok := h.1.emit s
  have hokl := hok.learn (s := s) (b := b) (by rw [hD]; exact hfit) (by rw [hD]; exact hs)
  obtain ⟨c1, c2⟩ := emit_bound h s
  obtain ⟨⟨a1, a2, a3, a4, a5, a6, a7⟩, b1, b2, b3, b4⟩ := h
  obtain ⟨d1, d2, d3, d4, d5, d6, d7⟩ := hok
  by_cases hc : 2 ^ g ≤ 257 + (emit g e s).D.length
  · have el : learn g (emit g e s) s b = ⟨[], 9, 0, (chg (emit g (emit g e s) 256) 9).E⟩ := by unfold learn; rw [if_pos hc]
    have hg13 : g ≤ 13 := by
      rcases Nat.lt_or_ge 13 g with q | q
      · have := pow_le' (a := 14) (b := g) q
        rw [hD] at hc
        omega
      · exact q
    have e2 : emit g (emit g e s) 256 = put1 (emit g e s) 256 := by
      show put1 (wid g (emit g e s)) 256 = _
      unfold wid
      rw [if_neg (fun c => by rw [hD] at c; omega)]
    have elen : lenE (learn g (emit g e s) s b).E = lenE (emit g e s).E + (emit g e s).w + (8 - ((emit g e s).c + 1) % 8) % 8 * (emit g e s).w := by
      rw [el, e2]
      show lenE (((emit g e s).E ++ [(256, (emit g e s).w)]) ++ pads (put1 (emit g e s) 256)) = _
      rw [lenE_app, lenE_snoc, lenE_pads]
      rfl
    have hp : (8 - ((emit g e s).c + 1) % 8) % 8 * (emit g e s).w ≤ 7 * (emit g e s).w := Nat.mul_le_mul_right _ (by omega)
    refine ⟨hokl, by rw [el]; show 9 ≤ 14; decide, by rw [el]; exact Nat.zero_le _, hm, ?_⟩
    rw [elen, show (learn g (emit g e s) s b).D = [] by rw [el], show (learn g (emit g e s) s b).w = 9 by rw [el]]
    rw [hD] at hc d5
    have hDl : e.D.length = 2 ^ g - 257 := by omega
    show _ ≤ 14 * (m + 1 - 0) + 9 * 0 + 7 * 0
    generalize (emit g e s).w = w at *
    generalize lenE (emit g e s).E = le at *
    generalize e.D.length = d at *
    have hg9 : 9 ≤ g := by omega
    rcases six hg9 (by omega) with q | q | q | q | q | q <;> subst q <;> rcases six d1 c1 with p | p | p | p | p | p <;> subst p <;> simp only [tw] at c2 <;> omega
  · have el : learn g (emit g e s) s b = ⟨(emit g e s).D ++ [(s, b)], (emit g e s).w, (emit g e s).c, (emit g e s).E⟩ := by unfold learn; rw [if_neg hc]
    have eD : (learn g (emit g e s) s b).D.length = e.D.length + 1 := by
      rw [el]
      show ((emit g e s).D ++ [(s, b)]).length = _
      rw [hD]
      simp
    refine ⟨hokl, by rw [el]; exact c1, by rw [eD]; omega, hm, ?_⟩
    rw [eD, show (learn g (emit g e s) s b).w = (emit g e s).w by rw [el], show (learn g (emit g e s) s b).E = (emit g e s).E by rw [el]]
    rw [show m + 1 - (e.D.length + 1) = m - e.D.length by omega]
    exact c2
theorem encL_bound {g : Nat} : ∀ (t : List UInt8) (e : Enc) (s m : Nat), BInv g e m → s < 257 + e.D.length → m + t.length + 1 ≤ 16000 → lenE (encL g e s t).E ≤ 14 * (m + t.length + 1) + 385
  | [], e, s, m, h, hs, hm => by
    have := emit_bound h s
    show lenE (emit g e s).E ≤ _
    have hok := h.1.emit s
    obtain ⟨c1, c2⟩ := this
    have b2 := h.2.2.1
    have d1 := hok.1
    generalize (emit g e s).w = w at *
    generalize e.D.length = d at *
    simp only [List.length_nil]
    rcases six d1 c1 with p | p | p | p | p | p <;> subst p <;> simp only [tw] at c2 <;> omega
  | b :: t, e, s, m, h, hs, hm => by
    simp only [List.length_cons] at hm ⊢
    unfold encL
    cases hlk : look e.D s b with
    | some c =>
      have := encL_bound t e c m h (look_rng hlk).2 (by omega)
      show lenE (encL g e c t).E ≤ _
      omega
    | none =>
      have := encL_bound t (learn g (emit g e s) s b) b.toNat (m + 1) (learn_bound h (by omega) hs) learn_b (by omega)
      show lenE (encL g (learn g (emit g e s) s b) b.toNat t).E ≤ _
      omega
theorem enc_bound {g : Nat} {bs : List UInt8} (h1 : 9 ≤ g) (h2 : g ≤ 16) (hn : bs.length ≤ 16000) : lenE (enc g bs) ≤ 14 * bs.length + 385 := by
  cases bs with
  | nil => simp [enc, lenE]
  | cons b t =>
    have := encL_bound (g := g) t enc0 b.toNat 0 ⟨enc0_ok h1 h2, by show 9 ≤ 14; decide, Nat.le_refl _, by omega, by show 0 ≤ _; omega⟩ (by have := UInt8.toNat_lt b; omega) (by simp only [List.length_cons] at hn; omega)
    simp only [List.length_cons]
    show lenE (encL g enc0 b.toNat t).E ≤ _
    omega
theorem press_len {g : Nat} {bs : List UInt8} : (press g bs).length = 3 + (lenE (enc g bs) + 7) / 8 := by
  unfold press
  rw [List.length_append, bytesOf_len]
  rfl
