section SQ3
variable {M : zM} {q r g : Nat} {e : Enc} {bs : List UInt8}
theorem learn_len (g : Nat) (e : Enc) (s : Nat) (b : UInt8) : (learn g e s b).D.length ≤ e.D.length + 1 := by
  unfold learn
  by_cases c : 2 ^ g ≤ 257 + e.D.length
  · rw [if_pos c]
    show ([] : List (Nat × UInt8)).length ≤ _
    simp
  · rw [if_neg c]
    show (e.D ++ [(s, b)]).length ≤ _
    simp
theorem learn_nd {g : Nat} {e : Enc} {s : Nat} {b : UInt8} (h : Nd e.D) (hl : look e.D s b = none) : Nd (learn g e s b).D := by
  unfold learn
  by_cases c : 2 ^ g ≤ 257 + e.D.length
  · rw [if_pos c]
    exact Nd.nil
  · rw [if_neg c]
    exact h.add hl
theorem learn_b {g : Nat} {e : Enc} {s : Nat} {b : UInt8} : b.toNat < 257 + (learn g e s b).D.length := by
  have := UInt8.toNat_lt b
  omega
theorem s_squeeze {a : Nat} {post : zM → Prop} (ha : Rw M a bs) (hg1 : 9 ≤ g) (hg2 : g ≤ 16) (hn : bs.length ≤ 16000) (hl1 : ln (q + 1) = 16384) (hl2 : ln (q + 2) = 16384) (hl3 : ln (q + 3) = 16384) (hroom : 3 + (lenE (enc g bs) + 7) / 8 ≤ ln (r + 1)) (hq : ∀ j, j ≤ 3 → q + j ≠ r ∧ q + j ≠ r + 1) (hqa : ∀ j, j ≤ 3 → q + j ≠ a ∧ q + j ≠ a + 1) (d1 : a ≠ r) (d2 : a ≠ r + 1) (d3 : a + 1 ≠ r)
    (k : ∀ M', Only [q, q + 1, q + 2, q + 3, r, r + 1] M M' → Rw M' r (press g bs) → post M') : Wp_Sq_squeeze q a (ii g) r M post := by
  have keep : ∀ {M'}, Only [q, q + 1, q + 2, q + 3, r, r + 1] M M' → Rw M' a bs := fun ho => ha.only ho
    (by have := hqa 0 (by omega); have := hqa 1 (by omega); have := hqa 2 (by omega); have := hqa 3 (by omega); simp; omega)
    (by have := hqa 0 (by omega); have := hqa 1 (by omega); have := hqa 2 (by omega); have := hqa 3 (by omega); simp; omega)
  have dq : q ≠ r ∧ q ≠ r + 1 ∧ q + 1 ≠ r ∧ q + 1 ≠ r + 1 := by have := hq 0 (by omega); have := hq 1 (by omega); omega
  unfold Wp_Sq_squeeze
  intro K K2 hK hK2
  refine s_wipe (fun M1 o1 _ R1 => s_put R1 (by simp; omega) (fun M2 o2 R2 => s_put R2 (by simp; omega) (fun M3 o3 R3 => ?_)))
  rw [show (128 : Int32) = ii 128 from rfl, ii_add]
  refine s_put R3 (by simp; omega) (fun M4 o4 R4 => ?_)
  have epre : ([] ++ [b8 31] ++ [b8 157] ++ [b8 (ii (128 + (g : Int)))]) = [31, 157, UInt8.ofNat (128 + g)] := by
    rw [show ((128 : Int) + g) = ((128 + g : Nat) : Int) by omega, b8_nat]
    rfl
  rw [epre] at R4
  have ho4 : Only [r, r + 1] M M4 := (((o1.mono (by simp)).trans o2).trans o3).trans o4
  -- the end
  have fin : ∀ (e : Enc) (M1 : zM), Only [q, q + 1, q + 2, q + 3, r, r + 1] M M1 → Bw M1 q r [31, 157, UInt8.ofNat (128 + g)] (numE e.E) (lenE e.E) → e.E = enc g bs → K2 M1 := by
    intro e M1 ho hB he
    rw [he] at hB
    refine hK2 _ ⟨fun c => ?_, fun c => ?_⟩
    · rw [hB.2.2.1, show (0 : Int32) = ii 0 from rfl, ii_le (by omega) (by omega) (by omega) (by omega)] at c
      refine k M1 ho ?_
      unfold press
      rw [show (lenE (enc g bs) + 7) / 8 = lenE (enc g bs) / 8 by omega]
      exact hB.1
    · rw [hB.2.2.1, show (0 : Int32) = ii 0 from rfl, ii_le (by omega) (by omega) (by omega) (by omega)] at c
      rw [hB.2.1]
      refine s_put hB.1 (by rw [List.length_append, bytesOf_len]; simp; omega) (fun M2 o2 R2 => k M2 (ho.trans (o2.mono (by simp))) ?_)
      rw [b8_nat, List.append_assoc, ← bytesOf_succ] at R2
      unfold press
      rw [show (lenE (enc g bs) + 7) / 8 = lenE (enc g bs) / 8 + 1 by omega]
      exact R2
  -- begin
  unfold Wp_Sq_begin
  rintro N1 rfl N2 rfl N3 rfl N4 rfl N5 rfl
  refine s_Sq_forget hl1 (fun N6 p6 f4 f1 => ?_)
  generalize hN5 : zI (zI (zI (zI (zI M4 q 3 (ii (g : Int))) q 5 9) q 6 0) q 7 0) q 8 0 = N5 at p6
  have p5 : Only [q] M4 N5 := by rw [← hN5]; exact ((((Only.rf.zI (by simp)).zI (by simp)).zI (by simp)).zI (by simp)).zI (by simp)
  have v3 : N5.1 q 3 = ii (g : Int) := by rw [← hN5, zI_g, if_neg (by simp), zI_g, if_neg (by simp), zI_g, if_neg (by simp), zI_g, if_neg (by simp), zI_g, if_pos ⟨rfl, rfl⟩]
  have v5 : N5.1 q 5 = 9 := by rw [← hN5, zI_g, if_neg (by simp), zI_g, if_neg (by simp), zI_g, if_neg (by simp), zI_g, if_pos ⟨rfl, rfl⟩]
  have v6 : N5.1 q 6 = 0 := by rw [← hN5, zI_g, if_neg (by simp), zI_g, if_neg (by simp), zI_g, if_pos ⟨rfl, rfl⟩]
  have v7 : N5.1 q 7 = 0 := by rw [← hN5, zI_g, if_neg (by simp), zI_g, if_pos ⟨rfl, rfl⟩]
  have v8 : N5.1 q 8 = 0 := by rw [← hN5, zI_g, if_pos ⟨rfl, rfl⟩]
  have ho6 : Only [q, q + 1, q + 2, q + 3, r, r + 1] M N6 := ((ho4.mono (by simp)).trans (p5.mono (by simp))).trans (p6.toO (by simp) (by simp))
  have R6 : Rw N6 r [31, 157, UInt8.ofNat (128 + g)] := (R4.only p5 (by simp; omega) (by simp; omega)).only (p6.toO (S' := [q, q + 1]) (by simp) (by simp)) (by simp; omega) (by simp; omega)
  have hS : SqI N6 q r [31, 157, UInt8.ofNat (128 + g)] g enc0 := ⟨by rw [p6.2.1 3 (by decide)]; exact v3, f4, by rw [p6.2.1 5 (by decide)]; exact v5, by rw [p6.2.1 6 (by decide)]; exact v6, ⟨by simpa [enc0, lenE, numE, bytesOf] using R6, by rw [p6.2.1 7 (by decide)]; exact v7, by rw [p6.2.1 8 (by decide)]; exact v8, by show (0 : Nat) < 2 ^ 0; decide⟩, Dict.none f1, enc0_ok hg1 hg2⟩
  -- the loop
  have loop : ∀ (t : List UInt8) (i s : Nat) (e : Enc) (M1 : zM), bs.drop i = t → 1 ≤ i → i ≤ bs.length → Only [q, q + 1, q + 2, q + 3, r, r + 1] M M1 → SqI M1 q r [31, 157, UInt8.ofNat (128 + g)] g e → Nd e.D → s < 257 + e.D.length → e.D.length < i → (encL g e s t).E = enc g bs → K (ii (s : Int)) (ii (i : Int)) M1 := by
    intro t
    induction t with
    | nil =>
      intro i s e M1 hd h1 h2 ho hS hnd hs hDi hE
      have ei : bs.length ≤ i := by
        have := congrArg List.length hd
        rw [List.length_drop] at this
        simp at this
        omega
      have ha1 := keep ho
      refine hK _ _ _ ⟨fun _ => ⟨fun c => ?_, fun _ => ?_⟩, fun c => ?_⟩
      · rw [show (-1 : Int32) = ii (-1) from rfl, ii_eq (by omega) (by omega) (by omega) (by omega)] at c
        omega
      · have hE' : (emit g e s).E = enc g bs := hE
        refine s_Sq_putCode hS hs (by rw [hE']; simp; omega) hq (fun M2 o2 S2 => fin _ M2 (ho.trans (o2.toO (by simp) (by simp))) S2.2.2.2.2.1 hE')
      · rw [ha1.1, ii_le (by omega) (by omega) (by omega) (by omega)] at c
        omega
    | cons b t ih =>
      intro i s e M1 hd h1 h2 ho hS hnd hs hDi hE
      have hib : i < bs.length := by
        have := congrArg List.length hd
        rw [List.length_drop] at this
        simp at this
        omega
      have hbi : bs[i] = b := by
        rw [List.drop_eq_getElem_cons hib] at hd
        exact (List.cons.inj hd).1
      have hdt : bs.drop (i + 1) = t := by
        rw [List.drop_eq_getElem_cons hib] at hd
        exact (List.cons.inj hd).2
      have ha1 := keep ho
      refine hK _ _ _ ⟨fun c => ?_, fun _ => ?_⟩
      · rw [ha1.1, ii_le (by omega) (by omega) (by omega) (by omega)] at c
        omega
      · refine s_at ha1 (by omega) (by omega) ?_
        rw [gt_in hib, hbi]
        refine s_Sq_childOf hS hnd hs hl1 hl2 hl3 (by omega) ?_
        have hix : ii (i : Int) + 1 = ii ((i + 1 : Nat) : Int) := by rw [show (1 : Int32) = ii 1 from rfl, ii_add]; rfl
        unfold encL at hE
        cases hlk : look e.D s b with
        | some c =>
          rw [hlk] at hE
          have hcr := look_rng hlk
          refine ⟨fun _ => ?_, fun c' => ?_⟩
          · rintro x rfl
            rw [hix]
            exact ih (i + 1) c e M1 hdt (by omega) (by omega) ho hS hnd hcr.2 (by omega) hE
          · have c'' : ii (c : Int) = -1 := c'
            rw [show (-1 : Int32) = ii (-1) from rfl, ii_eq (by omega) (by omega) (by omega) (by omega)] at c''
            omega
        | none =>
          rw [hlk] at hE
          refine ⟨fun c' => absurd rfl c', fun _ => ?_⟩
          have hp1 : lenE (learn g (emit g e s) s b).E ≤ lenE (enc g bs) := by
            rw [← hE]
            rcases encL_pre g t (learn g (emit g e s) s b) b.toNat with h | h
            · exact lenE_pre ((emit_pre g _ _).trans h)
            · exact lenE_pre h
          have hp2 := lenE_pre (learn_pre g (emit g e s) s b)
          have hDe : (emit g e s).D = e.D := emit_D g e s
          refine s_Sq_putCode hS hs (by simp; omega) hq (fun M2 o2 S2 => ?_)
          refine s_Sq_learn S2 (by rw [hDe]; exact emit_fit hS.2.2.2.2.2.2 s) (by rw [hDe]; exact hs) hl1 hl2 hl3 (by rw [hDe]; omega) (by simp; omega) hq (fun M3 o3 S3 => ?_)
          rintro x rfl
          rw [hix]
          have hll := learn_len g (emit g e s) s b
          rw [hDe] at hll
          exact ih (i + 1) b.toNat _ M3 hdt (by omega) (by omega) ((ho.trans (o2.toO (by simp) (by simp))).trans o3) S3 (learn_nd (by rw [hDe]; exact hnd) (by rw [hDe]; exact hlk)) learn_b (by omega) hE
  have ha6 := keep ho6
  rw [show (0 : Int32) = ii ((0 : Nat) : Int) from rfl]
  refine s_at ha6 (by omega) (by omega) ?_
  cases hbs : bs with
  | nil =>
    rw [gt_out (Or.inr (by simp))]
    have hlen : bs.length = 0 := by rw [hbs]; rfl
    refine hK _ _ _ ⟨fun _ => ⟨fun _ => ?_, fun c => absurd rfl c⟩, fun c => ?_⟩
    · exact fin enc0 N6 ho6 hS.2.2.2.2.1 (by rw [hbs]; rfl)
    · rw [ha6.1, hlen, show (1 : Int32) = ii 1 from rfl, ii_le (by omega) (by omega) (by omega) (by omega)] at c
      omega
  | cons b t =>
    have hlen : 0 < bs.length := by rw [hbs]; simp
    have hb0 : gt (b :: t) ((0 : Nat) : Int) = ((b.toNat : Nat) : Int) := by rw [gt_in (by simp)]; rfl
    rw [hb0]
    refine loop t 1 b.toNat enc0 N6 (by rw [hbs]; rfl) (by omega) (by omega) ho6 hS Nd.nil (by have := UInt8.toNat_lt b; omega) (by show 0 < 1; decide) (by rw [hbs]; rfl)
end SQ3
