/-! Archives as the reference writes them. -/
theorem ll_sh : ∀ k : Fin 31, (((ii ((k.val : Nat) : Int)).toInt64 &&& 63).toBitVec.smod 64).toNat = k.val := by decide +kernel
theorem ll_shr {a : Int} {b : Nat} (h : b ≤ 30) (h1 : 0 ≤ a) (h2 : a ≤ 2147483647) : ll a >>> ((ii (b : Int)).toInt64 &&& 63) = ll (a / 2 ^ b) := by
  have hp : (0 : Int) < 2 ^ b := Int.pow_pos (by decide)
  have hq := Int.ediv_le_self (2 ^ b) h1
  have hq0 := Int.ediv_nonneg h1 (Int.le_of_lt hp)
  apply Int64.toInt_inj.mp
  rw [ll_toInt (by omega) (by omega)]
  show (ll a >>> ((ii (b : Int)).toInt64 &&& 63)).toBitVec.toInt = _
  rw [Int64.toBitVec_shiftRight, BitVec.sshiftRight', ll_sh ⟨b, by omega⟩, BitVec.toInt_sshiftRight, Int.shiftRight_eq_div_pow]
  show (ll a).toInt / _ = _
  rw [ll_toInt (by omega) (by omega)]
  simp
theorem ll_and7 (n : Nat) : ll (n : Int) &&& 7 = ll ((n % 8 : Nat) : Int) := by
  apply Int64.toBitVec_inj.mp
  show BitVec.ofNat 64 n &&& BitVec.ofNat 64 7 = BitVec.ofNat 64 (n % 8)
  rw [← BitVec.ofNat_and, show (7 : Nat) = 2 ^ 3 - 1 from rfl, Nat.and_two_pow_sub_one_eq_mod]
section RARC
variable {M : zM} {bs : List UInt8}
theorem s_Mo_octal {v d : Nat} {post : zM → Prop} (hv : v ≤ 2147483647) (hd1 : 1 ≤ d) (hd : d ≤ 11) (h : Cw M 25 (413 + 22) bs) (hroom : bs.length + d ≤ 24000) (k : ∀ M', OnlyR [25] [413 + 22] M M' → Cw M' 25 (413 + 22) (bs ++ oct v d) → post M') : Wp_Mo_octal 413 (ll v) (ii d) M post := by
  have l22 : ln (413 + 22) = 24000 := by decide +kernel
  unfold Wp_Mo_octal
  intro K hK
  rintro x rfl
  suffices H : ∀ d' cs M1, d' ≤ d → cs.length + d' = bs.length + d → OnlyR [25] [413 + 22] M M1 → Cw M1 25 (413 + 22) cs → cs ++ oct v d' = bs ++ oct v d → K (ii (3 * ((d' : Int) - 1))) M1 by
    rw [show (3 : Int32) = ii 3 from rfl, ii_mul, ii_sub, show (3 * (d : Int) - 3) = 3 * ((d : Int) - 1) by omega]
    exact H d bs M (Nat.le_refl _) rfl OnlyR.rf h rfl
  intro d'
  induction d' with
  | zero =>
    intro cs M1 _ hlen ho hR he
    refine hK _ _ ⟨fun _ => ?_, fun q => ?_⟩
    · rw [← he] at k
      exact k M1 ho (by simpa [oct] using hR)
    · rw [ii_nneg (by omega) (by omega)] at q
      omega
  | succ d' ih =>
    intro cs M1 hdd hlen ho hR he
    refine hK _ _ ⟨fun q => ?_, fun _ => ?_⟩
    · rw [ii_nneg (by omega) (by omega)] at q
      omega
    · have e1 : (3 * (((d' + 1 : Nat) : Int) - 1)) = ((3 * d' : Nat) : Int) := by omega
      have e2 : (v : Int) / 2 ^ (3 * d') = ((v / 8 ^ d' : Nat) : Int) := by
        have e9 : (2 : Int) ^ (3 * d') = ((8 ^ d' : Nat) : Int) := by
          rw [show (8 : Nat) = 2 ^ 3 from rfl, ← Nat.pow_mul]
          simp
        rw [e9, Int.natCast_ediv]
      rw [e1, hR.1]
      refine ⟨ii_in (by omega) (by omega) (by omega), ?_⟩
      rw [ll_shr (by omega) (by omega) (by omega), e2, ll_and7, ll_to32, show (48 : Int32) = ii 48 from rfl, ii_add, ii_nat (by omega) (by omega), Int.toNat_natCast, nar_b8', show ((48 : Int) + ((v / 8 ^ d' % 8 : Nat) : Int)) = ((48 + v / 8 ^ d' % 8 : Nat) : Int) by omega, b8_nat]
      rintro M2 rfl M3 h3 x rfl
      rw [zI_o (by decide), hR.1, show (1 : Int32) = ii 1 from rfl, ii_add] at h3
      have hp := hR.put (M' := M3) (by decide) (by omega) h3
      rw [show (-3 : Int32) = ii (-3) from rfl, ii_add, show (((3 * d' : Nat) : Int) + -3) = 3 * ((d' : Int) - 1) by omega]
      refine ih _ M3 (by omega) ?_ (ho.trans hp.2) hp.1 ?_
      · rw [List.length_append]
        simp
        omega
      · rw [← he]
        simp [oct]
theorem s_Mo_zero {post : zM → Prop} (h : Cw M 25 (413 + 22) bs) (hroom : bs.length < 24000) (k : ∀ M', OnlyR [25] [413 + 22] M M' → Cw M' 25 (413 + 22) (bs ++ [0]) → post M') : Wp_Mo_zero 413 M post := by
  have l22 : ln (413 + 22) = 24000 := by decide +kernel
  unfold Wp_Mo_zero
  rw [h.1]
  refine ⟨ii_in (by omega) (by omega) (by omega), ?_⟩
  rw [ii_nat (by omega) (by omega), Int.toNat_natCast, nar_b8, show b8 (0 : Int32) = 0 from rfl]
  rintro M1 rfl M2 h2
  rw [zI_o (by decide), h.1, show (1 : Int32) = ii 1 from rfl, ii_add] at h2
  have hp := h.put (M' := M2) (by decide) (by omega) h2
  exact k M2 hp.2 hp.1
theorem txo : txt 7 = oct 29127 6 ++ oct 0 6 ∧ txt 8 = oct 0 6 := by decide +kernel
theorem s_Mo_header {num km o g lk t n rest : Nat} {post : zM → Prop} (h1 : num ≤ 2147483647) (h2 : km ≤ 2147483647) (h3 : o ≤ 2147483647) (h4 : g ≤ 2147483647) (h5 : lk ≤ 2147483647) (h6 : t ≤ 2147483647) (h7 : n ≤ 1000) (h8 : rest ≤ 2147483647) (h : Cw M 25 (413 + 22) bs) (hroom : bs.length + 76 ≤ 24000) (k : ∀ M', OnlyR [25] [413 + 22] M M' → Cw M' 25 (413 + 22) (bs ++ hdr num km o g lk t n rest) → post M') : Wp_Mo_header 413 (ii num) (ii km) (ii o) (ii g) (ii lk) (ii t) (ii n) (ii rest) M post := by
  have six : (6 : Int32) = ii ((6 : Nat) : Int) := rfl
  have elv : (11 : Int32) = ii ((11 : Nat) : Int) := rfl
  have z0 : (0 : Int64) = ll ((0 : Nat) : Int) := rfl
  have zm : (29127 : Int64) = ll ((29127 : Nat) : Int) := rfl
  unfold Wp_Mo_header
  rw [six, elv, zm, z0, show (1 : Int32) = ii 1 from rfl, ii_add, show ((n : Int) + 1) = ((n + 1 : Nat) : Int) by omega, ll_of_ii (by omega) (by omega), ll_of_ii (by omega) (by omega), ll_of_ii (by omega) (by omega), ll_of_ii (by omega) (by omega), ll_of_ii (by omega) (by omega), ll_of_ii (by omega) (by omega), ll_of_ii (by omega) (by omega), ll_of_ii (by omega) (by omega)]
  refine s_Mo_octal (by omega) (by omega) (by omega) h (by omega) (fun M1 o1 R1 => ?_)
  refine s_Mo_octal (by omega) (by omega) (by omega) R1 (by simp only [List.length_append, oct_len]; omega) (fun M2 o2 R2 => ?_)
  refine s_Mo_octal (by omega) (by omega) (by omega) R2 (by simp only [List.length_append, oct_len]; omega) (fun M3 o3 R3 => ?_)
  refine s_Mo_octal (by omega) (by omega) (by omega) R3 (by simp only [List.length_append, oct_len]; omega) (fun M4 o4 R4 => ?_)
  refine s_Mo_octal (by omega) (by omega) (by omega) R4 (by simp only [List.length_append, oct_len]; omega) (fun M5 o5 R5 => ?_)
  refine s_Mo_octal (by omega) (by omega) (by omega) R5 (by simp only [List.length_append, oct_len]; omega) (fun M6 o6 R6 => ?_)
  refine s_Mo_octal (by omega) (by omega) (by omega) R6 (by simp only [List.length_append, oct_len]; omega) (fun M7 o7 R7 => ?_)
  refine s_Mo_octal (by omega) (by omega) (by omega) R7 (by simp only [List.length_append, oct_len]; omega) (fun M8 o8 R8 => ?_)
  refine s_Mo_octal (by omega) (by omega) (by omega) R8 (by simp only [List.length_append, oct_len]; omega) (fun M9 o9 R9 => ?_)
  refine s_Mo_octal (by omega) (by omega) (by omega) R9 (by simp only [List.length_append, oct_len]; omega) (fun M10 o10 R10 => ?_)
  refine s_Mo_octal (by omega) (by omega) (by omega) R10 (by simp only [List.length_append, oct_len]; omega) (fun M11 o11 R11 => ?_)
  refine k M11 ((((((((((o1.trans o2).trans o3).trans o4).trans o5).trans o6).trans o7).trans o8).trans o9).trans o10).trans o11) ?_
  unfold hdr
  rw [txo.1, txo.2]
  simpa only [List.append_assoc] using R11
/-- bytes of another array go behind -/
theorem s_isLarge {u : Nat} {T : Tre} {post : Int32 → zM → Prop} (hu : u ≤ 2) (hI : RtI M u T) (hV : ∀ e ∈ T, EOk e) (k0 : smallT T → post 0 M) (k1 : ¬ smallT T → post 1 M) : Wp_Mo_isLarge 413 (ii u) M post := by
  obtain ⟨l8, l9, l10, l11, l12, l13, l14, l15, l16, l17, l18, l19, l20, l21⟩ := l_ref
  obtain ⟨a1, a2, a3, us, b1, b2, b3, b4⟩ := hI
  have eu : (ii (u : Int)).toNatClampNeg = u := by rw [ii_nat (by omega) (by omega), Int.toNat_natCast]
  unfold Wp_Mo_isLarge
  intro K hK
  suffices H : ∀ (m i : Nat) (b : Int32), i + m = T.length → ((b = 0 ∧ ∀ (j : Nat) (hj : j < T.length), j < i → T[j].own ≤ 262143 ∧ T[j].grp ≤ 262143) ∨ (b = 1 ∧ ¬ smallT T)) → K b (ii i) M from H _ 0 0 (Nat.zero_add _) (Or.inl ⟨rfl, fun j _ hj => absurd hj (by omega)⟩)
  intro m
  induction m with
  | zero =>
    intro i b hi hb
    refine hK _ _ _ ⟨ii_in (by omega) (by omega) (by omega), ?_⟩
    rw [eu, a1]
    refine ⟨fun _ => ?_, fun z => absurd (by rw [ii_le (by omega) (by omega) (by omega) (by omega)]; omega) z⟩
    rcases hb with ⟨rfl, hb⟩ | ⟨rfl, hb⟩
    · refine ⟨rfl, k0 (fun e he => ?_)⟩
      obtain ⟨j, hj, ej⟩ := List.getElem_of_mem he
      rw [← ej]
      exact hb j hj (by omega)
    · exact ⟨rfl, k1 hb⟩
  | succ m ih =>
    intro i b hi hb
    have hin : i < T.length := by omega
    have hE := hV _ (List.getElem_mem hin)
    have x1 := hE.2.2.2.2.2.1
    have x2 := hE.2.2.2.2.2.2.1
    have next : ∀ b' : Int32, ((b' = 0 ∧ ∀ (j : Nat) (hj : j < T.length), j < i + 1 → T[j].own ≤ 262143 ∧ T[j].grp ≤ 262143) ∨ (b' = 1 ∧ ¬ smallT T)) → ∀ x : Int32, x = ii (i : Int) + 1 → K b' x M := by
      rintro b' hb' x rfl
      rw [show (1 : Int32) = ii 1 from rfl, ii_add]
      exact ih (i + 1) b' (by omega) hb'
    refine hK _ _ _ ⟨ii_in (by omega) (by omega) (by omega), ?_⟩
    rw [eu, a1]
    refine ⟨fun z => ?_, fun _ => ?_⟩
    · rw [ii_le (by omega) (by omega) (by omega) (by omega)] at z
      omega
    · refine ⟨fun z => next 1 (Or.inr ⟨rfl, ?_⟩), fun z => ?_⟩
      · rcases hb with hb | hb
        · exact absurd hb.1 z
        · exact hb.2
      · have hb0 : ∀ (j : Nat) (hj : j < T.length), j < i → T[j].own ≤ 262143 ∧ T[j].grp ≤ 262143 := by
          rcases hb with hb | hb
          · exact hb.2
          · rw [hb.1] at z
            exact absurd z (by decide)
        have een : (ii ((41 * u + i : Nat) : Int)).toNatClampNeg = 41 * u + i := by rw [ii_nat (by omega) (by omega), Int.toNat_natCast]
        unfold Wp_Mo_at
        rw [ei_at]
        obtain ⟨-, -, -, -, -, c6, c7, -⟩ := b3 i hin
        refine ⟨ii_in (by omega) (by omega) (by omega), ?_⟩
        rw [een, c6, show (262143 : Int32) = ii 262143 from rfl, ii_lt (by omega) (by omega) (by omega) (by omega)]
        refine ⟨fun z2 => next 1 (Or.inr ⟨rfl, fun y => ?_⟩), fun z2 => ⟨ii_in (by omega) (by omega) (by omega), ?_⟩⟩
        · have := y _ (List.getElem_mem hin)
          omega
        · rw [een, c7, ii_le (by omega) (by omega) (by omega) (by omega)]
          refine ⟨fun z3 => next 0 (Or.inl ⟨rfl, fun j hj hji => ?_⟩), fun z3 => next 1 (Or.inr ⟨rfl, fun y => ?_⟩)⟩
          · by_cases c : j = i
            · subst c; omega
            · exact hb0 j hj (by omega)
          · have := y _ (List.getElem_mem hin)
            omega
def trName : List UInt8 := (txt 6).drop 76
theorem tr_eq : txt 6 = hdr 0 0 0 0 1 0 10 0 ++ trName ∧ trName.length = 10 := by decide +kernel
theorem s_archiveOf {u : Nat} {T : Tre} {post : zM → Prop} (hu : u ≤ 2) (hI : RtI M u T) (hV : TOk T) (htr : Ab M (413 + 1) trName) (k : ∀ M', OnlyR [25] [413 + 22] M M' → Cw M' 25 (413 + 22) (arc T) → post M') : Wp_Mo_archiveOf 413 (ii u) M post := by
  obtain ⟨l8, l9, l10, l11, l12, l13, l14, l15, l16, l17, l18, l19, l20, l21⟩ := l_ref
  have l22 : ln (413 + 22) = 24000 := by decide +kernel
  have l1 : ln (413 + 1) = 10 := by decide +kernel
  have hl := hI.2.1
  have hK2 : ∀ e ∈ T, e.kind ≤ 2 := fun e he => (hV.2.2.1 e he).2.2.2.1
  have eu : (ii (u : Int)).toNatClampNeg = u := by rw [ii_nat (by omega) (by omega), Int.toNat_natCast]
  have keep : ∀ {M'}, OnlyR [25] [413 + 22] M M' → RtI M' u T := fun o => hI.onlyQ o.q (by simp)
  unfold Wp_Mo_archiveOf
  intro K7 K55 K117 K172 K249 h7 h55 h117 h172 h249
  rintro M1 h1
  have o1 : OnlyR [25] [413 + 22] M M1 := by rw [h1]; exact OnlyR.rf.fld (by simp)
  have R1 : Cw M1 25 (413 + 22) [] := ⟨by rw [h1, zI_g, if_pos ⟨rfl, rfl⟩]; rfl, by simp, fun i hi => absurd hi (by simp)⟩
  suffices H : ∀ (m i : Nat) (M2 : zM), i + m = T.length → OnlyR [25] [413 + 22] M M2 → Cw M2 25 (413 + 22) (arcL T (T.take i)) → K7 (ii i) M2 from H _ 0 M1 (Nat.zero_add _) o1 R1
  intro m
  induction m with
  | zero =>
    intro i M2 hi o2 R2
    have I2 := keep o2
    have hp := arc_part hV i
    refine h7 _ _ ⟨ii_in (by omega) (by omega) (by omega), ?_⟩
    rw [eu, I2.1]
    refine ⟨fun _ => ?_, fun z => absurd (by rw [ii_le (by omega) (by omega) (by omega) (by omega)]; omega) z⟩
    show Wp_Mo_header 413 (ii ((0 : Nat) : Int)) (ii ((0 : Nat) : Int)) (ii ((0 : Nat) : Int)) (ii ((0 : Nat) : Int)) (ii ((1 : Nat) : Int)) (ii ((0 : Nat) : Int)) (ii ((10 : Nat) : Int)) (ii ((0 : Nat) : Int)) M2 _
    refine s_Mo_header (by omega) (by omega) (by omega) (by omega) (by omega) (by omega) (by omega) (by omega) R2 (by omega) (fun M3 o3 R3 => ?_)
    have o23 := o2.trans o3
    rw [List.take_of_length_le (by omega)] at R3 hp
    suffices H2 : ∀ (m j : Nat) (M4 : zM), j + m = 10 → OnlyR [25] [413 + 22] M M4 → Cw M4 25 (413 + 22) (arcL T T ++ hdr 0 0 0 0 1 0 10 0 ++ trName.take j) → K249 (ii j) M4 from H2 10 0 M3 rfl o23 (by simpa using R3)
    intro m
    induction m with
    | zero =>
      intro j M4 hj o4 R4
      rw [List.take_of_length_le (by have := tr_eq.2; omega)] at R4
      refine h249 _ _ ⟨fun _ => ?_, fun z => absurd (by rw [show (10 : Int32) = ii 10 from rfl, ii_le (by omega) (by omega) (by omega) (by omega)]; omega) z⟩
      refine s_Mo_zero R4 (by simp only [List.length_append, hdr_len, tr_eq.2]; omega) (fun M5 o5 R5 => ?_)
      refine k M5 (o4.trans o5) ?_
      unfold arc
      rw [tr_eq.1]
      simpa only [List.append_assoc] using R5
    | succ m ih2 =>
      intro j M4 hj o4 R4
      have hjt : j < trName.length := by have := tr_eq.2; omega
      have hlen : (arcL T T ++ hdr 0 0 0 0 1 0 10 0 ++ trName.take j).length = (arcL T T).length + 76 + j := by simp only [List.length_append, hdr_len, List.length_take]; omega
      refine h249 _ _ ⟨fun z => ?_, fun _ => ⟨ii_in (by omega) (by omega) (by omega), ?_⟩⟩
      · rw [show (10 : Int32) = ii 10 from rfl, ii_le (by omega) (by omega) (by omega) (by omega)] at z
        omega
      · rw [R4.1, hlen]
        refine ⟨ii_in (by omega) (by omega) (by omega), ?_⟩
        have ht : M4.1 (413 + 1) j = sb trName[j] := by rw [o4.1 (413 + 1) (by decide) (by decide)]; exact htr.2 j hjt
        rw [ii_nat (by omega) (by omega), ii_nat (by omega) (by omega), Int.toNat_natCast, Int.toNat_natCast, ht, nar_b8, b8_sb]
        rintro M5 rfl M6 h6 x rfl
        rw [zI_o (by decide), R4.1, hlen, show (1 : Int32) = ii 1 from rfl, ii_add] at h6
        have hpp := R4.put (b := trName[j]) (M' := M6) (by decide) (by omega) (by rw [h6, hlen]; rfl)
        rw [show (1 : Int32) = ii 1 from rfl, ii_add]
        refine ih2 (j + 1) M6 (by omega) (o4.trans hpp.2) ?_
        rw [← List.take_append_getElem hjt, ← List.append_assoc]
        exact hpp.1
  | succ m ih =>
    intro i M2 hi o2 R2
    have hin : i < T.length := by omega
    have I2 := keep o2
    have hp := arc_part hV i
    rw [List.drop_eq_getElem_cons hin] at hp
    have hp' : (arcL T (T.take i)).length + (entA T T[i] ++ arcL T (T.drop (i + 1))).length + 87 ≤ 13967 := hp
    rw [List.length_append, entA_len] at hp'
    have hE := hV.2.2.1 _ (List.getElem_mem hin)
    obtain ⟨x1, x2, x3, x4, x5, x6, x7, x8, x9, x10⟩ := hE
    have een : (ii ((41 * u + i : Nat) : Int)).toNatClampNeg = 41 * u + i := by rw [ii_nat (by omega) (by omega), Int.toNat_natCast]
    obtain ⟨A1, A2, A3, us, B1, B2, B3, B4⟩ := I2
    have I2 : RtI M2 u T := ⟨A1, A2, A3, us, B1, B2, B3, B4⟩
    obtain ⟨c1, c2, c3, c4, c5, c6, c7, c8, c9, fr, d1, d2, d3⟩ := B3 i hin
    have hkd : kd4 T[i].kind ≤ 10 := by unfold kd4; split; omega; split <;> omega
    have go : ∀ w : Int32, w = ii ((kd4 T[i].kind * 2 ^ 12 : Nat) : Int) → K55 (ii i) (ii ((41 * u + i : Nat) : Int)) w M2 := by
      rintro w rfl
      refine h55 _ _ _ _ ?_
      refine s_firstOf hu I2 hK2 hV.2.2.2.2.2 hin ⟨ii_in (by omega) (by omega) (by omega), ii_in (by omega) (by omega) (by omega), ii_in (by omega) (by omega) (by omega), ?_⟩
      refine s_Mo_linksOf hu I2 hK2 hV.2.2.2.2.2 hin ⟨ii_in (by omega) (by omega) (by omega), ii_in (by omega) (by omega) (by omega), ii_in (by omega) (by omega) (by omega), ?_⟩
      have hfi := fstL_le T[i].fam T i hin rfl
      have hci := cntL_le T[i].fam T
      rw [een, c1, c5, c6, c7, c8, c9, show (1 : Int32) = ii 1 from rfl, ii_add, ii_add, show ((fstL T[i].fam T : Int) + 1) = ((fstL T[i].fam T + 1 : Nat) : Int) by omega, show (((kd4 T[i].kind * 2 ^ 12 : Nat) : Int) + (T[i].mode : Int)) = ((kd4 T[i].kind * 2 ^ 12 + T[i].mode : Nat) : Int) by omega]
      refine s_Mo_header (by omega) (by omega) (by omega) (by omega) (by omega) (by omega) (by omega) (by omega) R2 (by omega) (fun M3 o3 R3 => ?_)
      have o23 := o2.trans o3
      have f10 : ∀ {M4}, OnlyR [25] [413 + 22] M M4 → M4.1 (413 + 10) (41 * u + i) = ii T[i].path.length := fun o => by rw [o.1 (413 + 10) (by decide) (by decide), ← o2.1 (413 + 10) (by decide) (by decide)]; exact c1
      have f17 : ∀ {M4}, OnlyR [25] [413 + 22] M M4 → M4.1 (413 + 17) (41 * u + i) = ii T[i].body.length := fun o => by rw [o.1 (413 + 17) (by decide) (by decide), ← o2.1 (413 + 17) (by decide) (by decide)]; exact c9
      have f16 : ∀ {M4}, OnlyR [25] [413 + 22] M M4 → M4.1 (413 + 16) (41 * u + i) = ii fr := fun o => by rw [o.1 (413 + 16) (by decide) (by decide), ← o2.1 (413 + 16) (by decide) (by decide)]; exact d1
      generalize hH : arcL T (T.take i) ++ hdr (fstL T[i].fam T + 1) (kd4 T[i].kind * 2 ^ 12 + T[i].mode) T[i].own T[i].grp (cntL T[i].fam T) T[i].tim T[i].path.length T[i].body.length = HH at R3
      have hHl : HH.length = (arcL T (T.take i)).length + 76 := by rw [← hH, List.length_append, hdr_len]
      suffices H2 : ∀ (m j : Nat) (M4 : zM), j + m = T[i].path.length → OnlyR [25] [413 + 22] M M4 → Cw M4 25 (413 + 22) (HH ++ T[i].path.take j) → K117 (ii i) (ii ((41 * u + i : Nat) : Int)) (ii j) M4 from H2 _ 0 M3 (Nat.zero_add _) o23 (by simpa using R3)
      intro m
      induction m with
      | zero =>
        intro j M4 hj o4 R4
        rw [List.take_of_length_le (by omega)] at R4
        refine h117 _ _ _ _ ⟨ii_in (by omega) (by omega) (by omega), ?_⟩
        rw [een, f10 o4]
        refine ⟨fun _ => ?_, fun z => absurd (by rw [ii_le (by omega) (by omega) (by omega) (by omega)]; omega) z⟩
        refine s_Mo_zero R4 (by rw [List.length_append]; omega) (fun M5 o5 R5 => ?_)
        have o45 := o4.trans o5
        suffices H3 : ∀ (m j : Nat) (M6 : zM), j + m = T[i].body.length → OnlyR [25] [413 + 22] M M6 → Cw M6 25 (413 + 22) (HH ++ T[i].path ++ [0] ++ T[i].body.take j) → K172 (ii i) (ii ((41 * u + i : Nat) : Int)) (ii j) M6 from H3 _ 0 M5 (Nat.zero_add _) o45 (by simpa using R5)
        intro m
        induction m with
        | zero =>
          intro j M6 hj o6 R6
          rw [List.take_of_length_le (by omega)] at R6
          refine h172 _ _ _ _ ⟨ii_in (by omega) (by omega) (by omega), ?_⟩
          rw [een, f17 o6]
          refine ⟨fun _ => ?_, fun z => absurd (by rw [ii_le (by omega) (by omega) (by omega) (by omega)]; omega) z⟩
          rintro x rfl
          rw [show (1 : Int32) = ii 1 from rfl, ii_add]
          refine ih (i + 1) M6 (by omega) o6 ?_
          rw [← List.take_append_getElem hin, arcL_app]
          show Cw M6 25 (413 + 22) (arcL T (T.take i) ++ (entA T T[i] ++ []))
          unfold entA
          rw [← hH] at R6
          simpa only [List.append_assoc, List.append_nil] using R6
        | succ m ih3 =>
          intro j M6 hj o6 R6
          have hjb : j < T[i].body.length := by omega
          have hlen : (HH ++ T[i].path ++ [0] ++ T[i].body.take j).length = HH.length + T[i].path.length + 1 + j := by simp only [List.length_append, List.length_take, List.length_cons, List.length_nil]; omega
          refine h172 _ _ _ _ ⟨ii_in (by omega) (by omega) (by omega), ?_⟩
          rw [een, f17 o6, f16 o6]
          refine ⟨fun z => ?_, fun _ => ⟨ii_in (by omega) (by omega) (by omega), ?_⟩⟩
          · rw [ii_le (by omega) (by omega) (by omega) (by omega)] at z
            omega
          · have e2 : ((20000 : Int32) * ii (u : Int) + ii (fr : Int)) + ii (j : Int) = ii ((20000 * u + fr + j : Nat) : Int) := by
              rw [show (20000 : Int32) = ii 20000 from rfl, ii_mul, ii_add, ii_add]
              congr 1
            rw [e2, R6.1, hlen]
            refine ⟨ii_in (by omega) (by omega) (by omega), ii_in (by omega) (by omega) (by omega), ?_⟩
            have hb : M6.1 (413 + 20) (20000 * u + fr + j) = sb T[i].body[j] := by rw [o6.1 (413 + 20) (by decide) (by decide), ← o2.1 (413 + 20) (by decide) (by decide)]; exact d3 j hjb
            rw [ii_nat (by omega) (by omega), ii_nat (by omega) (by omega), Int.toNat_natCast, Int.toNat_natCast, hb, nar_b8, b8_sb]
            rintro M7 rfl M8 h8 x rfl
            rw [zI_o (by decide), R6.1, hlen, show (1 : Int32) = ii 1 from rfl, ii_add] at h8
            have hpp := R6.put (b := T[i].body[j]) (M' := M8) (by decide) (by omega) (by rw [h8, hlen]; rfl)
            rw [show (1 : Int32) = ii 1 from rfl, ii_add]
            refine ih3 (j + 1) M8 (by omega) (o6.trans hpp.2) ?_
            rw [← List.take_append_getElem hjb, ← List.append_assoc]
            exact hpp.1
      | succ m ih2 =>
        intro j M4 hj o4 R4
        have hjb : j < T[i].path.length := by omega
        have hlen : (HH ++ T[i].path.take j).length = HH.length + j := by simp only [List.length_append, List.length_take]; omega
        refine h117 _ _ _ _ ⟨ii_in (by omega) (by omega) (by omega), ?_⟩
        rw [een, f10 o4]
        refine ⟨fun z => ?_, fun _ => ?_⟩
        · rw [ii_le (by omega) (by omega) (by omega) (by omega)] at z
          omega
        · rw [sixty, R4.1, hlen]
          refine ⟨ii_in (by omega) (by omega) (by omega), ii_in (by omega) (by omega) (by omega), ?_⟩
          have hb : M4.1 (413 + 9) (60 * (41 * u + i) + j) = sb T[i].path[j] := by rw [o4.1 (413 + 9) (by decide) (by decide), ← o2.1 (413 + 9) (by decide) (by decide)]; exact c3 j hjb
          rw [ii_nat (by omega) (by omega), ii_nat (by omega) (by omega), Int.toNat_natCast, Int.toNat_natCast, hb, nar_b8, b8_sb]
          rintro M7 rfl M8 h8 x rfl
          rw [zI_o (by decide), R4.1, hlen, show (1 : Int32) = ii 1 from rfl, ii_add] at h8
          have hpp := R4.put (b := T[i].path[j]) (M' := M8) (by decide) (by omega) (by rw [h8, hlen]; rfl)
          rw [show (1 : Int32) = ii 1 from rfl, ii_add]
          refine ih2 (j + 1) M8 (by omega) (o4.trans hpp.2) ?_
          rw [← List.take_append_getElem hjb, ← List.append_assoc]
          exact hpp.1
    refine h7 _ _ ⟨ii_in (by omega) (by omega) (by omega), ?_⟩
    rw [eu, I2.1]
    refine ⟨fun z => ?_, fun _ => ?_⟩
    · rw [ii_le (by omega) (by omega) (by omega) (by omega)] at z
      omega
    · unfold Wp_Mo_at
      rw [ei_at]
      refine ⟨ii_in (by omega) (by omega) (by omega), ?_⟩
      rw [een, c4, show (0 : Int32) = ii 0 from rfl, show (1 : Int32) = ii 1 from rfl, ii_eq (by omega) (by omega) (by omega) (by omega), ii_eq (by omega) (by omega) (by omega) (by omega)]
      refine ⟨fun z => ⟨ii_in (by omega) (by omega) (by omega), fun z1 => go _ ?_, fun z1 => go _ ?_⟩, fun z => go _ ?_⟩
      · unfold kd4
        rw [if_neg (by omega), if_neg (by omega)]
        rfl
      · unfold kd4
        rw [if_neg (by omega), if_pos (by omega)]
        rfl
      · unfold kd4
        rw [if_pos (by omega)]
        rfl
end RARC
