section MC2
variable {M : zM} {g : Nat} {pre : List UInt8} {e : Enc} {bs : List UInt8}
theorem s_Mo_goOn {s : Nat} {b : UInt8} {post : Int32 → zM → Prop} (h : MoI M pre g e) (hs : s < 257 + e.D.length) (k : post (match look e.D s b with | some c => ii (c : Int) | none => 0) M) : Wp_Mo_goOn 413 (ii s) (ii ((b.toNat : Nat) : Int)) M post := by
  have hb := UInt8.toNat_lt b
  have hl1 : ln (413 + 33) = 65537 := by decide +kernel
  have hl2 : ln (413 + 34) = 65537 := by decide +kernel
  have hl3 : ln (413 + 35) = 65537 := by decide +kernel
  have hdict := h.2.2.2.2.1
  obtain ⟨a1, a2, a3, a4, a5, a6, a7⟩ := h.2.2.2.2.2.1
  have hg16 : (2 : Nat) ^ g ≤ 65536 := pow_le' (b := 16) (by omega)
  unfold Wp_Mo_goOn
  intro K hK
  rw [ii_nat (by omega) (by omega), Int.toNat_natCast]
  refine ⟨ii_in (by omega) (by omega) (by omega), ?_⟩
  rintro x rfl
  suffices H : ∀ (l : List Nat) (v : Int32), Ch (M.1 (413 + 34)) 0 v l → (∀ c ∈ l, 257 ≤ c ∧ c < 257 + e.D.length) → l.find? (fun c => lastOf e.D c == b) = look e.D s b → K v M by
    exact H _ _ (hdict.1 s hs) (kids_rng e.D s) rfl
  intro l
  induction l with
  | nil =>
    intro v hch _ hf
    have hv : v = 0 := hch
    subst hv
    rw [← hf] at k
    exact hK _ _ ⟨fun _ => k, fun c => absurd (by decide) c⟩
  | cons c t ih =>
    intro v hch hr hf
    have hc := hr c (by simp)
    have hv := hch.1
    subst hv
    refine hK _ _ ⟨fun c' => ?_, fun _ => ?_⟩
    · rw [show (0 : Int32) = ii 0 from rfl, ii_le (by omega) (by omega) (by omega) (by omega)] at c'
      omega
    · rw [ii_nat (by omega) (by omega), Int.toNat_natCast]
      have hlb : M.1 (413 + 35) c = ii (((lastOf e.D c).toNat : Nat) : Int) := by
        have := hdict.2 (c - 257) (by omega)
        rw [show 257 + (c - 257) = c by omega] at this
        exact this
      have hlb2 := UInt8.toNat_lt (lastOf e.D c)
      refine ⟨ii_in (by omega) (by omega) (by omega), ?_⟩
      rw [hlb, ii_eq (by omega) (by omega) (by omega) (by omega)]
      refine ⟨fun c' => ?_, fun c' => ⟨ii_in (by omega) (by omega) (by omega), ?_⟩⟩
      · have hbe : lastOf e.D c = b := UInt8.toNat_inj.mp (by omega)
        rw [← hf, List.find?_cons_of_pos (by rw [hbe]; simp)] at k
        exact k
      · rintro x rfl
        refine ih _ hch.2 (fun z hz => hr z (by simp [hz])) ?_
        rw [← hf, List.find?_cons_of_neg]
        simp only [beq_iff_eq]
        exact fun ce => c' (by rw [ce])
theorem s_Mo_clearTable {post : zM → Prop} (k : ∀ M', OnlyR [53] [413 + 33] M M' → M'.1 413 53 = ii ((257 : Nat) : Int) → (∀ s, s ≤ 65536 → M'.1 (413 + 33) s = 0) → post M') : Wp_Mo_clearTable 413 M post := by
  have hl1 : ln (413 + 33) = 65537 := by decide +kernel
  unfold Wp_Mo_clearTable
  intro K hK
  rintro M1 rfl
  suffices H : ∀ (m i : Nat) (M1 : zM), i + m = 65537 → OnlyR [53] [413 + 33] M M1 → M1.1 413 53 = ii ((257 : Nat) : Int) → (∀ s, s < i → M1.1 (413 + 33) s = 0) → K (ii (i : Int)) M1 by
    exact H 65537 0 _ rfl (OnlyR.rf.fld (by simp)) (by rw [zI_g, if_pos ⟨rfl, rfl⟩]; rfl) (fun s hs => absurd hs (by omega))
  intro m
  induction m with
  | zero =>
    intro i M1 hi ho h53 hz
    refine hK _ _ ⟨fun _ => k M1 ho h53 (fun s hs => hz s (by omega)), fun c => absurd (by rw [show (65536 : Int32) = ii 65536 from rfl, ii_lt (by omega) (by omega) (by omega) (by omega)]; omega) c⟩
  | succ m ih =>
    intro i M1 hi ho h53 hz
    refine hK _ _ ⟨fun c => ?_, fun _ => ⟨ii_in (by omega) (by omega) (by omega), ?_⟩⟩
    · rw [show (65536 : Int32) = ii 65536 from rfl, ii_lt (by omega) (by omega) (by omega) (by omega)] at c
      omega
    · rintro M2 rfl x rfl
      rw [show (ii (i : Int) + 1) = ii ((i + 1 : Nat) : Int) by rw [show (1 : Int32) = ii 1 from rfl, ii_add]; rfl]
      refine ih (i + 1) _ (by omega) (ho.arr (by simp) (by decide)) (by rw [zI_o (by decide)]; exact h53) (fun s hs => ?_)
      rw [ii_nat (by omega) (by omega), Int.toNat_natCast, zI_g]
      by_cases c : s = i
      · rw [if_pos ⟨rfl, c⟩]
      · rw [if_neg (fun q => c q.2)]
        exact hz s (by omega)
theorem s_compressRow {a : Nat} {post : zM → Prop} (ha : Ab M a bs) (hg1 : 9 ≤ g) (hg2 : g ≤ 16) (hroom : 3 + (lenE (enc g bs) + 7) / 8 ≤ 40000) (da : a ∉ [413, 413 + 23, 413 + 33, 413 + 34, 413 + 35])
    (k : ∀ M', OnlyR [27, 53, 54, 55, 56, 57] [413 + 23, 413 + 33, 413 + 34, 413 + 35] M M' → Cw M' 27 (413 + 23) (press g bs) → post M') : Wp_Mo_compressRow 413 a (ii bs.length) (ii g) M post := by
  have hla := ln_small a
  have hle := ha.1
  have hl23 : ln (413 + 23) = 40000 := by decide +kernel
  have hl33 : ln (413 + 33) = 65537 := by decide +kernel
  have hl34 : ln (413 + 34) = 65537 := by decide +kernel
  have hl35 : ln (413 + 35) = 65537 := by decide +kernel
  have hg16 : (2 : Nat) ^ g ≤ 65536 := pow_le' (b := 16) (by omega)
  have da' : a ≠ 413 ∧ a ∉ [413 + 23, 413 + 33, 413 + 34, 413 + 35] := ⟨fun c => da (by rw [c]; simp), fun c => da (List.mem_cons_of_mem _ c)⟩
  have keep : ∀ {M'}, OnlyR [27, 53, 54, 55, 56, 57] [413 + 23, 413 + 33, 413 + 34, 413 + 35] M M' → Ab M' a bs := fun ho => ⟨ha.1, fun i hi => by rw [ho.1 a da'.2 da'.1]; exact ha.2 i hi⟩
  have byt : ∀ {M'} (i : Nat) (hi : i < bs.length), Ab M' a bs → M'.1 a i &&& 255 = ii ((bs[i].toNat : Nat) : Int) := fun i hi h => by rw [h.2 i hi, show (255 : Int32) = ii 255 from rfl, sb_and]
  have big : ∀ {M1 M2 : zM}, OnlyR [27, 54, 55, 56, 57] [413 + 23] M1 M2 → OnlyR [27, 53, 54, 55, 56, 57] [413 + 23, 413 + 33, 413 + 34, 413 + 35] M1 M2 := fun h => h.mono (by simp) (by simp)
  unfold Wp_Mo_compressRow
  intro K66 K111 K232 h66 h111 h232
  have sh : (1 : Int32) <<< (ii (g : Int) &&& 31) = ii ((2 ^ g : Nat) : Int) := by
    rw [show (31 : Int32) = ii 31 from rfl, ii_and31 (by omega) (by omega), show (1 : Int32) = ii 1 from rfl, ii_shl _ (by omega)]
    simp
  have inc : ∀ i : Nat, ii (i : Int) + 1 = ii ((i + 1 : Nat) : Int) := fun i => by rw [show (1 : Int32) = ii 1 from rfl, ii_add]; rfl
  -- at the end of the row
  have fin : ∀ (e : Enc) (M1 : zM) (i : Nat), bs.length ≤ i → i ≤ 70000 → OnlyR [27, 53, 54, 55, 56, 57] [413 + 23, 413 + 33, 413 + 34, 413 + 35] M M1 → Bm M1 [31, 157, UInt8.ofNat (128 + g)] (numE e.E) (lenE e.E) → e.E = enc g bs → K66 (ii (i : Int)) M1 := by
    intro e M1 i hi hi2 ho hB he
    rw [he] at hB
    refine h66 _ _ ⟨fun _ => ⟨fun c => ?_, fun c => ?_⟩, fun c => ?_⟩
    · rw [hB.2.2.1, show (0 : Int32) = ii 0 from rfl, ii_le (by omega) (by omega) (by omega) (by omega)] at c
      refine k M1 ho ?_
      unfold press
      rw [show (lenE (enc g bs) + 7) / 8 = lenE (enc g bs) / 8 by omega]
      exact hB.1
    · rw [hB.2.2.1, show (0 : Int32) = ii 0 from rfl, ii_le (by omega) (by omega) (by omega) (by omega)] at c
      have hlx : ([31, 157, UInt8.ofNat (128 + g)] ++ bytesOf (numE (enc g bs)) (lenE (enc g bs) / 8)).length = 3 + lenE (enc g bs) / 8 := by rw [List.length_append, bytesOf_len]; rfl
      rw [hB.1.1, hlx, hB.2.1]
      refine ⟨ii_in (by omega) (by omega) (by omega), ?_⟩
      rintro M2 rfl M3 e3
      rw [ii_nat (by omega) (by omega), Int.toNat_natCast, nar_b8', b8_nat, zI_o (by decide), hB.1.1, hlx] at e3
      have hp := hB.1.put (b := UInt8.ofNat (numE (enc g bs) / 2 ^ (8 * (lenE (enc g bs) / 8)))) (M' := M3) (by decide) (by omega) (by
        rw [e3, hlx, show (1 : Int32) = ii 1 from rfl, ii_add]
        rfl)
      refine k M3 (ho.trans (hp.2.mono (by simp) (by simp))) ?_
      have := hp.1
      rw [List.append_assoc, ← bytesOf_succ] at this
      unfold press
      rw [show (lenE (enc g bs) + 7) / 8 = lenE (enc g bs) / 8 + 1 by omega]
      exact this
    · rw [ii_le (by omega) (by omega) (by omega) (by omega)] at c
      omega
  let lg : Enc → Nat → List UInt8 → Int32 := fun e s t => match t with
    | [] => 0
    | b :: _ => match look e.D s b with
      | some c => ii (c : Int)
      | none => 0
  have nextl : ∀ (M1 : zM) (e : Enc) (s j : Nat) (t : List UInt8), bs.drop j = t → j ≤ bs.length → OnlyR [27, 53, 54, 55, 56, 57] [413 + 23, 413 + 33, 413 + 34, 413 + 35] M M1 → MoI M1 [31, 157, UInt8.ofNat (128 + g)] g e → s < 257 + e.D.length → K111 (ii (j : Int)) (ii (s : Int)) (lg e s t) M1 →
      ((ii (bs.length : Int) ≤ ii (j : Int) → K111 (ii (j : Int)) (ii (s : Int)) 0 M1) ∧ (¬ ii (bs.length : Int) ≤ ii (j : Int) → (vp_in (ii (j : Int)) (ln a) ∧ (Wp_Mo_goOn 413 (ii (s : Int)) ((M1.1 a (ii (j : Int)).toNatClampNeg) &&& 255) M1 (fun x M2 => K111 (ii (j : Int)) (ii (s : Int)) x M2))))) := by
    intro M1 e s j t hd hj ho hS hs hk
    rw [ii_le (by omega) (by omega) (by omega) (by omega)]
    refine ⟨fun c => ?_, fun c => ⟨ii_in (by omega) (by omega) (by omega), ?_⟩⟩
    · have ht : t = [] := by rw [← hd]; exact List.drop_eq_nil_of_le (by omega)
      rw [ht] at hk
      exact hk
    · have hjb : j < bs.length := by omega
      rw [ii_nat (by omega) (by omega), Int.toNat_natCast, byt j hjb (keep ho)]
      refine s_Mo_goOn hS hs ?_
      rw [List.drop_eq_getElem_cons hjb] at hd
      rw [← hd] at hk
      exact hk
  have top : ∀ (m i : Nat) (e : Enc) (M1 : zM), bs.length - i ≤ m → (hib : i < bs.length) → OnlyR [27, 53, 54, 55, 56, 57] [413 + 23, 413 + 33, 413 + 34, 413 + 35] M M1 → MoI M1 [31, 157, UInt8.ofNat (128 + g)] g e → (encL g e bs[i].toNat (bs.drop (i + 1))).E = enc g bs → K66 (ii (i : Int)) M1 := by
    intro m
    induction m with
    | zero => intro i e M1 hm hib; omega
    | succ m ih =>
      intro i e M1 hm hib ho hS hE
      have inner : ∀ (t : List UInt8) (j s : Nat) (e : Enc) (M1 : zM), bs.drop j = t → i + 1 ≤ j → j ≤ bs.length → OnlyR [27, 53, 54, 55, 56, 57] [413 + 23, 413 + 33, 413 + 34, 413 + 35] M M1 → MoI M1 [31, 157, UInt8.ofNat (128 + g)] g e → s < 257 + e.D.length → (encL g e s t).E = enc g bs → K111 (ii (j : Int)) (ii (s : Int)) (lg e s t) M1 := by
        intro t
        induction t with
        | nil =>
          intro j s e M1 hd h1 h2 ho hS hs hE
          have ej : bs.length ≤ j := by
            have := congrArg List.length hd
            rw [List.length_drop] at this
            simp at this
            omega
          have hE' : (emit g e s).E = enc g bs := hE
          refine h111 _ _ _ _ ⟨fun _ => ?_, fun c => absurd (show (0 : Int32) ≤ 0 by decide) c⟩
          refine s_Mo_putCode hS hs (by rw [hE']; simp; omega) (fun M2 o2 S2 => ⟨fun _ => ?_, fun c => ?_⟩)
          · refine h232 _ _ ⟨fun _ => fin _ M2 j ej (by omega) (ho.trans (big o2)) S2.2.2.2.1 hE', fun c => ?_⟩
            rw [ii_le (by omega) (by omega) (by omega) (by omega)] at c
            omega
          · rw [ii_le (by omega) (by omega) (by omega) (by omega)] at c
            omega
        | cons b t iht =>
          intro j s e M1 hd h1 h2 ho hS hs hE
          have hjb : j < bs.length := by
            have := congrArg List.length hd
            rw [List.length_drop] at this
            simp at this
            omega
          have hbj : bs[j] = b := by
            rw [List.drop_eq_getElem_cons hjb] at hd
            exact (List.cons.inj hd).1
          have hdt : bs.drop (j + 1) = t := by
            rw [List.drop_eq_getElem_cons hjb] at hd
            exact (List.cons.inj hd).2
          unfold encL at hE
          cases hlk : look e.D s b with
          | some c =>
            rw [hlk] at hE
            have hcr := look_rng hlk
            have hok := hS.2.2.2.2.2.1
            have h5 := hok.2.2.2.2.1
            have elg : lg e s (b :: t) = ii (c : Int) := by
              show (match look e.D s b with | some c => ii (c : Int) | none => 0) = _
              rw [hlk]
            rw [elg]
            refine h111 _ _ _ _ ⟨fun c' => ?_, fun _ => ?_⟩
            · rw [show (0 : Int32) = ii 0 from rfl, ii_le (by omega) (by omega) (by omega) (by omega)] at c'
              omega
            · rintro x rfl
              rw [inc]
              exact nextl M1 e c (j + 1) t hdt (by omega) ho hS hcr.2 (iht (j + 1) c e M1 hdt (by omega) (by omega) ho hS hcr.2 hE)
          | none =>
            rw [hlk] at hE
            have elg : lg e s (b :: t) = 0 := by
              show (match look e.D s b with | some c => ii (c : Int) | none => 0) = _
              rw [hlk]
            rw [elg]
            have hp1 : lenE (learn g (emit g e s) s b).E ≤ lenE (enc g bs) := by
              rw [← hE]
              rcases encL_pre g t (learn g (emit g e s) s b) b.toNat with h | h
              · exact lenE_pre ((emit_pre g _ _).trans h)
              · exact lenE_pre h
            have hp2 := lenE_pre (learn_pre g (emit g e s) s b)
            have hDe : (emit g e s).D = e.D := emit_D g e s
            have hfit := emit_fit hS.2.2.2.2.2.1 s
            refine h111 _ _ _ _ ⟨fun _ => ?_, fun c => absurd (by decide) c⟩
            refine s_Mo_putCode hS hs (by simp; omega) (fun M2 o2 S2 => ⟨fun c => ?_, fun _ => ?_⟩)
            · rw [ii_le (by omega) (by omega) (by omega) (by omega)] at c
              omega
            · have ho2 := ho.trans (big o2)
              have hok2 := S2.2.2.2.2.2.1
              have h25 := hok2.2.2.2.2.1
              have hokl := hok2.learn (s := s) (b := b) (by rw [hDe]; exact hfit) (by rw [hDe]; exact hs)
              rw [sh, S2.1, ii_le (by omega) (by omega) (by omega) (by omega)]
              refine ⟨fun hge => ?_, fun hlt => ?_⟩
              · have el : learn g (emit g e s) s b = ⟨[], 9, 0, (chg (emit g (emit g e s) 256) 9).E⟩ := by unfold learn; rw [if_pos (by omega)]
                rw [el] at hE hp1 hokl
                have hp1' : lenE (chg (emit g (emit g e s) 256) 9).E ≤ lenE (enc g bs) := hp1
                have hle2 : lenE (emit g (emit g e s) 256).E ≤ lenE (chg (emit g (emit g e s) 256) 9).E := lenE_pre (List.prefix_append _ _)
                refine h232 _ _ ⟨fun c => ?_, fun _ => ?_⟩
                · rw [ii_le (by omega) (by omega) (by omega) (by omega)] at c
                  omega
                · rw [show (256 : Int32) = ii ((256 : Nat) : Int) from rfl]
                  refine s_Mo_putCode S2 (by omega) (by simp; omega) (fun M3 o3 S3 => s_Mo_fill (w' := 9) S3 (by simp; omega) (fun M4 o4 f54 f55 hB4 => ?_))
                  rintro M5 rfl
                  refine s_Mo_clearTable (fun M6 o6 f53 fz => ?_)
                  have o5 : OnlyR [54] [] M4 (zI M4 413 54 9) := OnlyR.rf.fld (by simp)
                  have o46 : OnlyR [53, 54] [413 + 33] M4 M6 := (o5.mono (by simp) (by simp)).trans (o6.mono (by simp) (by simp))
                  refine ih j (([], 9, 0, (chg (emit g (emit g e s) 256) 9).E) : Enc) M6 (by omega) hjb (((ho2.trans (big o3)).trans (big o4)).trans (o46.mono (by simp) (by simp))) ⟨f53, ?_, ?_, ⟨hB4.1.only o46 (by decide) (by decide) (by decide), by rw [o46.2.1 56 (by decide)]; exact hB4.2.1, by rw [o46.2.1 57 (by decide)]; exact hB4.2.2.1, hB4.2.2.2⟩, Dict.none (fun q hq => fz q (by omega)), hokl, fun q hq hq2 => fz q hq2⟩ ?_
                  · rw [o6.2.1 54 (by decide), zI_g, if_pos ⟨rfl, rfl⟩]
                    rfl
                  · rw [o46.2.1 55 (by decide)]
                    exact f55
                  · rw [hdt, hbj]
                    exact hE
              · have el : learn g (emit g e s) s b = ⟨(emit g e s).D ++ [(s, b)], (emit g e s).w, (emit g e s).c, (emit g e s).E⟩ := by unfold learn; rw [if_neg (by omega)]
                rw [el] at hE hokl
                have hsD : s < 257 + (emit g e s).D.length := by rw [hDe]; exact hs
                refine ⟨ii_in (by omega) (by omega) (by omega), ii_in (by omega) (by omega) (by omega), ?_⟩
                rintro M3 e3
                rw [ii_nat (by omega) (by omega), ii_nat (by omega) (by omega), Int.toNat_natCast, Int.toNat_natCast, byt j hjb (keep ho2), hbj] at e3
                have n3 : M3.1 413 53 = ii ((257 + (emit g e s).D.length : Nat) : Int) := by rw [e3, zI_o (by decide)]; exact S2.1
                rw [n3]
                refine ⟨ii_in (by omega) (by omega) (by omega), ii_in (by omega) (by omega) (by omega), ?_⟩
                rintro M4 e4
                refine ⟨ii_in (by omega) (by omega) (by omega), ?_⟩
                rintro M5 e5 M6 e6
                rw [ii_nat (by omega) (by omega), ii_nat (by omega) (by omega), Int.toNat_natCast, Int.toNat_natCast] at e4
                have n4 : M4.1 413 53 = ii ((257 + (emit g e s).D.length : Nat) : Int) := by rw [e4, zI_o (by decide)]; exact n3
                rw [ii_nat (by omega) (by omega), Int.toNat_natCast, n4] at e5
                have n5 : M5.1 413 53 = ii ((257 + (emit g e s).D.length : Nat) : Int) := by rw [e5, zI_o (by decide)]; exact n4
                rw [n5] at e6
                have o6 : OnlyR [53] [413 + 33, 413 + 34, 413 + 35] M2 M6 := by
                  rw [e6, e5, e4, e3]
                  exact (((OnlyR.rf.arr (by simp) (by decide)).arr (by simp) (by decide)).arr (by simp) (by decide)).fld (by simp)
                have g1 : ∀ z, M6.1 (413 + 33) z = if z = s then ii ((257 + (emit g e s).D.length : Nat) : Int) else M2.1 (413 + 33) z := fun z => by
                  rw [e6, zI_o (by decide), e5, zI_g]
                  by_cases c1 : z = s
                  · rw [if_pos ⟨rfl, c1⟩, if_pos c1]
                  · rw [if_neg (fun c => c1 c.2), if_neg c1, e4, zI_o (by decide), e3, zI_o (by decide)]
                have g2 : ∀ z, M6.1 (413 + 34) z = if z = 257 + (emit g e s).D.length then M2.1 (413 + 33) s else M2.1 (413 + 34) z := fun z => by
                  rw [e6, zI_o (by decide), e5, zI_o (by decide), e4, zI_g]
                  by_cases c2 : z = 257 + (emit g e s).D.length
                  · rw [if_pos ⟨rfl, c2⟩, if_pos c2, e3, zI_o (by decide)]
                  · rw [if_neg (fun c => c2 c.2), if_neg c2, e3, zI_o (by decide)]
                have g3 : ∀ z, M6.1 (413 + 35) z = if z = 257 + (emit g e s).D.length then ii ((b.toNat : Nat) : Int) else M2.1 (413 + 35) z := fun z => by
                  rw [e6, zI_o (by decide), e5, zI_o (by decide), e4, zI_o (by decide), e3, zI_g]
                  by_cases c2 : z = 257 + (emit g e s).D.length
                  · rw [if_pos ⟨rfl, c2⟩, if_pos c2]
                  · rw [if_neg (fun c => c2 c.2), if_neg c2]
                have hB := S2.2.2.2.1
                refine ih j ((((emit g e s).D ++ [(s, b)], (emit g e s).w, (emit g e s).c, (emit g e s).E)) : Enc) M6 (by omega) hjb (ho2.trans (o6.mono (by simp) (by simp))) ⟨?_, by rw [o6.2.1 54 (by decide)]; exact S2.2.1, by rw [o6.2.1 55 (by decide)]; exact S2.2.2.1, ⟨hB.1.only o6 (by decide) (by decide) (by decide), by rw [o6.2.1 56 (by decide)]; exact hB.2.1, by rw [o6.2.1 57 (by decide)]; exact hB.2.2.1, hB.2.2.2⟩, ?_, hokl, fun z hz hz2 => ?_⟩ ?_
                · rw [e6, zI_g, if_pos ⟨rfl, rfl⟩, show (1 : Int32) = ii 1 from rfl, ii_add]
                  show _ = ii ((257 + ((emit g e s).D ++ [(s, b)]).length : Nat) : Int)
                  simp only [List.length_append, List.length_cons, List.length_nil]
                  congr 1
                · refine S2.2.2.2.2.1.add hok2.2.2.2.2.2.2 hsD ?_ ?_ (fun z c1 c2 => ?_) ?_ (fun z c => ?_) ?_ (fun z c => ?_)
                  · rw [g1, if_pos rfl]
                  · rw [g1, if_neg (by omega)]
                    exact S2.2.2.2.2.2.2 _ (Nat.le_refl _) (by omega)
                  · rw [g1, if_neg c1]
                  · rw [g2, if_pos rfl]
                  · rw [g2, if_neg (by omega)]
                  · rw [g3, if_pos rfl]
                  · rw [g3, if_neg (by omega)]
                · have hz' : 257 + ((emit g e s).D ++ [(s, b)]).length ≤ z := hz
                  simp only [List.length_append, List.length_cons, List.length_nil] at hz'
                  rw [g1, if_neg (by omega)]
                  exact S2.2.2.2.2.2.2 z (by omega) hz2
                · rw [hdt, hbj]
                  exact hE
      refine h66 _ _ ⟨fun c => ?_, fun _ => ⟨ii_in (by omega) (by omega) (by omega), ?_⟩⟩
      · rw [ii_le (by omega) (by omega) (by omega) (by omega)] at c
        omega
      · rintro x rfl y rfl
        rw [ii_nat (by omega) (by omega), Int.toNat_natCast, byt i hib (keep ho), inc]
        have hbl : bs[i].toNat < 257 + e.D.length := by have := UInt8.toNat_lt bs[i]; omega
        exact nextl M1 e _ (i + 1) _ rfl (by omega) ho hS hbl (inner _ (i + 1) _ e M1 rfl (by omega) (by omega) ho hS hbl hE)
  rintro M1 rfl
  refine ⟨ii_in (a := 0) (by omega) (by omega) (by omega), ?_⟩
  rintro M2 rfl
  refine ⟨ii_in (a := 1) (by omega) (by omega) (by omega), ?_⟩
  rintro M3 rfl
  refine ⟨ii_in (a := 2) (by omega) (by omega) (by omega), ?_⟩
  rintro M4 e4 M5 e5 M6 e6 M7 e7 M8 e8 M9 e9
  refine s_Mo_clearTable (fun M10 o10 f53 fz => ?_)
  have x0 : ((0 : Int32)).toNatClampNeg = 0 := by decide
  have x1 : ((1 : Int32)).toNatClampNeg = 1 := by decide
  have x2 : ((2 : Int32)).toNatClampNeg = 2 := by decide
  rw [nar_b8', show (128 : Int32) = ii 128 from rfl, ii_add, show ((128 : Int) + g) = ((128 + g : Nat) : Int) by omega, b8_nat, nar_b8, nar_b8, x0, x1, x2] at e4
  have o4 : OnlyR [27] [413 + 23] M M4 := by
    rw [e4]
    exact (((OnlyR.rf.fld (by simp)).arr (by simp) (by decide)).arr (by simp) (by decide)).arr (by simp) (by decide)
  have v0 : M4.1 (413 + 23) 0 = sb 31 := by
    rw [e4, zI_g, if_neg (by simp), zI_g, if_neg (by simp), zI_g, if_pos ⟨rfl, rfl⟩]
    rfl
  have v1 : M4.1 (413 + 23) 1 = sb 157 := by
    rw [e4, zI_g, if_neg (by simp), zI_g, if_pos ⟨rfl, rfl⟩]
    rfl
  have v2 : M4.1 (413 + 23) 2 = sb (UInt8.ofNat (128 + g)) := by rw [e4, zI_g, if_pos ⟨rfl, rfl⟩]
  have o9 : OnlyR [27, 54, 55, 56, 57] [] M4 M9 := by
    rw [e9, e8, e7, e6, e5]
    exact ((((OnlyR.rf.fld (by simp)).fld (by simp)).fld (by simp)).fld (by simp)).fld (by simp)
  have w54 : M9.1 413 54 = 9 := by rw [e9, zI_g, if_pos ⟨rfl, rfl⟩]
  have w55 : M9.1 413 55 = 0 := by rw [e9, zI_g, if_neg (by simp), e8, zI_g, if_pos ⟨rfl, rfl⟩]
  have w57 : M9.1 413 57 = 0 := by rw [e9, zI_g, if_neg (by simp), e8, zI_g, if_neg (by simp), e7, zI_g, if_pos ⟨rfl, rfl⟩]
  have w56 : M9.1 413 56 = 0 := by rw [e9, zI_g, if_neg (by simp), e8, zI_g, if_neg (by simp), e7, zI_g, if_neg (by simp), e6, zI_g, if_pos ⟨rfl, rfl⟩]
  have w27 : M9.1 413 27 = 3 := by rw [e9, zI_g, if_neg (by simp), e8, zI_g, if_neg (by simp), e7, zI_g, if_neg (by simp), e6, zI_g, if_neg (by simp), e5, zI_g, if_pos ⟨rfl, rfl⟩]
  have ho : OnlyR [27, 53, 54, 55, 56, 57] [413 + 23, 413 + 33, 413 + 34, 413 + 35] M M10 := ((o4.mono (by simp) (by simp)).trans (o9.mono (by simp) (by simp))).trans (o10.mono (by simp) (by simp))
  have hC : Cw M10 27 (413 + 23) [31, 157, UInt8.ofNat (128 + g)] := by
    refine ⟨by rw [o10.2.1 27 (by decide), w27]; rfl, by rw [hl23]; show 3 ≤ 40000; decide, fun i hi => ?_⟩
    rw [o10.1 (413 + 23) (by decide) (by decide), o9.1 (413 + 23) (by simp) (by decide)]
    match i, hi with
    | 0, _ => exact v0
    | 1, _ => exact v1
    | 2, _ => exact v2
  have hS : MoI M10 [31, 157, UInt8.ofNat (128 + g)] g enc0 := ⟨f53, by rw [o10.2.1 54 (by decide)]; exact w54, by rw [o10.2.1 55 (by decide)]; exact w55, ⟨by simpa [enc0, lenE, numE, bytesOf] using hC, by rw [o10.2.1 56 (by decide)]; exact w56, by rw [o10.2.1 57 (by decide)]; exact w57, by show (0 : Nat) < 2 ^ 0; decide⟩, Dict.none (fun s hs => fz s (by omega)), enc0_ok hg1 hg2, fun s _ hs => fz s hs⟩
  cases hbs : bs with
  | nil =>
    exact fin enc0 M10 0 (by rw [hbs]; simp) (by omega) ho hS.2.2.2.1 (by rw [hbs]; rfl)
  | cons b t =>
    have h0 : 0 < bs.length := by rw [hbs]; simp
    refine top bs.length 0 enc0 M10 (by omega) h0 ho hS ?_
    subst hbs
    rfl
end MC2
