/-! Encoder and decoder step by step. -/
theorem FitE.learn {g s : Nat} {e : Enc} {b : UInt8} (h : FitE e.E) (ho : EncOk g e) : FitE (learn g e s b).E := by
  unfold Jvm.Pilot.CMailChainLaw_law_r4861_288717.learn
  by_cases q : 2 ^ g ≤ 257 + e.D.length
  · rw [if_pos q]
    exact (h.emit ho (by omega)).app (FitE.pads _)
  · rw [if_neg q]
    exact h
theorem encL_fit (g : Nat) : ∀ (t : List UInt8) (e : Enc) (s : Nat), EncOk g e → FitE e.E → s < 257 + e.D.length → FitE (encL g e s t).E
  | [], e, s, ho, h, hs => h.emit ho hs
  | b :: t, e, s, ho, h, hs => by
    show FitE (match look e.D s b with | some c => encL g e c t | none => encL g (learn g (emit g e s) s b) b.toNat t).E
    cases hl : look e.D s b with
    | some c => exact encL_fit g t e c ho h (look_rng hl).2
    | none =>
      refine encL_fit g t _ _ ((ho.emit s).learn (by rw [emit_D]; exact emit_fit ho s) (by rw [emit_D]; exact hs)) ((h.emit ho hs).learn (ho.emit s)) learn_b
theorem enc_fit {g : Nat} (h1 : 9 ≤ g) (h2 : g ≤ 16) (p : List UInt8) : FitE (enc g p) := by
  cases p with
  | nil => exact fun x hx => by simp [enc] at hx
  | cons b t =>
    have := UInt8.toNat_lt b
    exact encL_fit g t enc0 b.toNat (enc0_ok h1 h2) (fun x hx => by have h : x ∈ ([] : List (Nat × Nat)) := hx; simp at h) (by omega)
theorem str_pos {D : List (Nat × UInt8)} (h : DOk D) {c : Nat} (hc : c < 257 + D.length) : 1 ≤ (str D c).length := by
  by_cases q : c < 257
  · rw [str_byte D q]
    exact Nat.le_refl _
  · obtain ⟨i, hi⟩ : ∃ i, c = 257 + i := ⟨c - 257, by omega⟩
    rw [hi, str_at h (by omega), List.length_append]
    simp
/-- there is more to encode -/
def GLive (g : Nat) (p : List UInt8) (e : Enc) (out : List UInt8) : Prop := EncOk g e ∧ DOk e.D ∧ FitE e.E ∧ e.D.length ≤ out.length ∧ ∃ x t, p = out ++ x :: t ∧ (encL g e x.toNat t).E = enc g p
/-- behind a string's code -/
def GMid (g : Nat) (p : List UInt8) (e : Enc) (s : Nat) (out : List UInt8) (b : UInt8) (t : List UInt8) : Prop := EncOk g e ∧ DOk e.D ∧ FitE e.E ∧ 257 + e.D.length ≤ 2 ^ e.w ∧ s < 257 + e.D.length ∧ s ≠ 256 ∧ e.D.length + 1 ≤ out.length ∧ p = out ++ b :: t ∧ (encL g (learn g e s b) b.toNat t).E = enc g p
theorem GLive.step {g : Nat} {p : List UInt8} {e : Enc} {out : List UInt8} (h : GLive g p e out) : ∃ s, s < 257 + e.D.length ∧ s ≠ 256 ∧ s < 2 ^ (wid g e).w ∧ (∃ B, enc g p = (wid g e).E ++ (s, (wid g e).w) :: B) ∧ (∃ rest, p = out ++ str e.D s ++ rest) ∧ ((out ++ str e.D s = p ∧ (emit g e s).E = enc g p) ∨ ∃ b t, GMid g p (emit g e s) s (out ++ str e.D s) b t) := by
  obtain ⟨h1, h2, h3, h4, x, t, h5, h6⟩ := h
  have hx := UInt8.toNat_lt x
  obtain ⟨s, t1, t2, a1, a2, a3, a4, a5⟩ := enc_macro g e h2 t x.toNat (by omega) (by omega)
  rw [str_byte e.D (show x.toNat < 257 by omega), UInt8.ofNat_toNat] at a4
  have hsp := str_pos h2 a1
  have hfit := emit_fit h1 s
  have hp : p = out ++ str e.D s ++ t2 := by
    rw [h5, a3, a4]
    simp
  refine ⟨s, a1, a2, Nat.lt_of_lt_of_le a1 hfit, ?_, ⟨t2, hp⟩, ?_⟩
  · have hpre : (emit g e s).E <+: enc g p := by
      rw [← h6]
      rcases a5 with ⟨-, a5⟩ | ⟨b, t3, -, a5⟩
      · rw [a5]; exact List.prefix_refl _
      · rw [a5]
        refine (learn_pre g (emit g e s) s b).trans ?_
        rcases encL_pre g t3 (learn g (emit g e s) s b) b.toNat with q | q
        · exact (emit_pre g _ _).trans q
        · exact q
    obtain ⟨B, hB⟩ := hpre
    refine ⟨B, ?_⟩
    rw [← hB]
    show ((wid g e).E ++ [(s, (wid g e).w)]) ++ B = _
    simp
  · rcases a5 with ⟨q, a5⟩ | ⟨b, t3, q, a5⟩
    · refine Or.inl ⟨?_, by rw [← h6, a5]⟩
      rw [hp, q, List.append_nil]
    · refine Or.inr ⟨b, t3, h1.emit s, by rw [emit_D]; exact h2, h3.emit h1 a1, by rw [emit_D]; exact hfit, by rw [emit_D]; exact a1, a2, by rw [emit_D, List.length_append]; omega, by rw [hp, q], by rw [← h6, a5]⟩
theorem GMid.learn {g : Nat} {p : List UInt8} {e : Enc} {s : Nat} {out : List UInt8} {b : UInt8} {t : List UInt8} (h : GMid g p e s out b t) (hf : ¬ 2 ^ g ≤ 257 + e.D.length) : GLive g p ⟨e.D ++ [(s, b)], e.w, e.c, e.E⟩ out := by
  obtain ⟨h1, h2, h3, h4, h5, h6, h7, h8, h9⟩ := h
  have hl : Jvm.Pilot.CMailChainLaw_law_r4861_288717.learn g e s b = ⟨e.D ++ [(s, b)], e.w, e.c, e.E⟩ := by
    unfold Jvm.Pilot.CMailChainLaw_law_r4861_288717.learn
    rw [if_neg hf]
  have := h1.learn (b := b) h4 h5
  rw [hl] at this h9
  refine ⟨this, h2.snoc h5 h6, h3, ?_, b, t, h8, h9⟩
  show (e.D ++ [(s, b)]).length ≤ out.length
  rw [List.length_append]
  exact h7
theorem GMid.clear {g : Nat} {p : List UInt8} {e : Enc} {s : Nat} {out : List UInt8} {b : UInt8} {t : List UInt8} (h : GMid g p e s out b t) (hf : 2 ^ g ≤ 257 + e.D.length) : 256 < 2 ^ (wid g e).w ∧ (∃ B, enc g p = (wid g e).E ++ (256, (wid g e).w) :: B) ∧ GLive g p ⟨[], 9, 0, (chg (emit g e 256) 9).E⟩ out := by
  obtain ⟨h1, h2, h3, h4, h5, h6, h7, h8, h9⟩ := h
  have hl : Jvm.Pilot.CMailChainLaw_law_r4861_288717.learn g e s b = ⟨[], 9, 0, (chg (emit g e 256) 9).E⟩ := by
    unfold Jvm.Pilot.CMailChainLaw_law_r4861_288717.learn
    rw [if_pos hf]
  have hw := (h1.wid).1
  have h29 : 2 ^ 9 ≤ 2 ^ (wid g e).w := pow_le' hw
  have ho := h1.learn (b := b) h4 h5
  rw [hl] at ho h9
  refine ⟨by omega, ?_, ho, DOk.nil, (h3.emit h1 (by omega)).app (FitE.pads _), Nat.zero_le _, b, t, h8, h9⟩
  have hpre : (chg (emit g e 256) 9).E <+: enc g p := by
    rw [← h9]
    rcases encL_pre g t ⟨[], 9, 0, (chg (emit g e 256) 9).E⟩ b.toNat with q | q
    · exact (emit_pre g ⟨[], 9, 0, (chg (emit g e 256) 9).E⟩ _).trans q
    · exact q
  obtain ⟨B, hB⟩ := hpre
  refine ⟨pads (emit g e 256) ++ B, ?_⟩
  rw [← hB]
  show (((wid g e).E ++ [(256, (wid g e).w)]) ++ pads (emit g e 256)) ++ B = _
  simp
theorem code_read {g : Nat} {p : List UInt8} {A B : List (Nat × Nat)} {v w pos : Nat} (h1 : 9 ≤ g) (h2 : g ≤ 16) (he : enc g p = A ++ (v, w) :: B) (hv : v < 2 ^ w) (hp : pos = 24 + lenE A) : rdC (press g p) pos w = v ∧ pos + w ≤ 8 * (press g p).length := by
  have hF := enc_fit h1 h2 p
  have hA : FitE A := fun x hx => hF x (by rw [he]; exact List.mem_append_left _ hx)
  refine ⟨?_, ?_⟩
  · rw [hp, press_num hF, he]
    exact read_code hA hv
  · rw [press_len, he, lenE_app]
    show pos + w ≤ 8 * (3 + (lenE A + (w + lenE B) + 7) / 8)
    omega
theorem press_end {g : Nat} {p : List UInt8} : 8 * (press g p).length ≤ 24 + lenE (enc g p) + 7 := by
  rw [press_len]
  omega
