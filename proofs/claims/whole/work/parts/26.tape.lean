/-! type, again, checksum: both sides. -/
/-- only these fields of the reference and these arrays have changed -/
def OnlyR (F S : List Nat) (M M' : zM) : Prop := (∀ k, k ∉ S → k ≠ 413 → M'.1 k = M.1 k) ∧ (∀ j, j ∉ F → M'.1 413 j = M.1 413 j) ∧ M'.2 = M.2
theorem OnlyR.rf {F S : List Nat} {M : zM} : OnlyR F S M M := ⟨fun _ _ _ => rfl, fun _ _ => rfl, rfl⟩
theorem OnlyR.trans {F S : List Nat} {M M' M'' : zM} (h : OnlyR F S M M') (h' : OnlyR F S M' M'') : OnlyR F S M M'' := ⟨fun k hk hk2 => (h'.1 k hk hk2).trans (h.1 k hk hk2), fun j hj => (h'.2.1 j hj).trans (h.2.1 j hj), h'.2.2.trans h.2.2⟩
theorem OnlyR.mono {F S F' S' : List Nat} {M M' : zM} (h : OnlyR F S M M') (hf : ∀ k, k ∈ F → k ∈ F') (hs : ∀ k, k ∈ S → k ∈ S') : OnlyR F' S' M M' := ⟨fun k hk => h.1 k (fun q => hk (hs k q)), fun j hj => h.2.1 j (fun q => hj (hf j q)), h.2.2⟩
theorem OnlyR.fld {F S : List Nat} {M M' : zM} {j : Nat} {v : Int32} (h : OnlyR F S M M') (hj : j ∈ F) : OnlyR F S M (zI M' 413 j v) := by
  refine ⟨fun a ha ha2 => (zI_o ha2).trans (h.1 a ha ha2), fun i hi => ?_, h.2.2⟩
  rw [zI_g, if_neg (fun q => hi (by rw [q.2]; exact hj))]
  exact h.2.1 i hi
theorem OnlyR.arr {F S : List Nat} {M M' : zM} {k j : Nat} {v : Int32} (h : OnlyR F S M M') (hk : k ∈ S) (hk2 : k ≠ 413) : OnlyR F S M (zI M' k j v) := by
  refine ⟨fun a ha ha2 => (zI_o (fun e => ha (by rw [e]; exact hk))).trans (h.1 a ha ha2), fun i hi => ?_, h.2.2⟩
  rw [zI_o (fun e => hk2 e.symm)]
  exact h.2.1 i hi
/-- a row of the reference: the count in field f, the bytes in the array k -/
def Cw (M : zM) (f k : Nat) (bs : List UInt8) : Prop := M.1 413 f = ii bs.length ∧ Ab M k bs
theorem Cw.only {F S : List Nat} {M M' : zM} {f k : Nat} {bs : List UInt8} (h : Cw M f k bs) (ho : OnlyR F S M M') (h1 : f ∉ F) (h2 : k ∉ S) (h3 : k ≠ 413) : Cw M' f k bs := ⟨by rw [ho.2.1 f h1]; exact h.1, h.2.1, fun i hi => by rw [ho.1 k h2 h3]; exact h.2.2 i hi⟩
/-- a byte more -/
theorem Cw.put {M M' : zM} {f k : Nat} {bs : List UInt8} {b : UInt8} (h : Cw M f k bs) (hk : k ≠ 413) (hr : bs.length < ln k) (e : M' = zI (zI M k bs.length (sb b)) 413 f (ii ((bs.length + 1 : Nat) : Int))) : Cw M' f k (bs ++ [b]) ∧ OnlyR [f] [k] M M' := by
  subst e
  refine ⟨⟨?_, by simp; omega, fun i hi => ?_⟩, (OnlyR.rf.arr (by simp) hk).fld (by simp)⟩
  · rw [zI_g, if_pos ⟨rfl, rfl⟩]
    simp
  · rw [zI_g, if_neg (fun q => hk q.1), zI_g]
    by_cases hi2 : i = bs.length
    · subst hi2
      rw [if_pos ⟨rfl, rfl⟩]
      simp
    · rw [if_neg (fun q => hi2 q.2)]
      have hi3 : i < bs.length := by simp at hi; omega
      rw [List.getElem_append_left hi3]
      exact h.2.2 i hi3
/-- byte i of a long -/
def wb (w : Int64) (i : Nat) : UInt8 := UInt8.ofBitVec (w.toBitVec.extractLsb' (8 * i) 8)
theorem b8_bv (x : Int32) : (b8 x).toBitVec = x.toBitVec.setWidth 8 := by
  show x.toInt8.toBitVec = _
  rw [Int32.toBitVec_toInt8, BitVec.signExtend_eq_setWidth_of_le _ (by decide)]
theorem l8 : ∀ i : Fin 8, ((8 * ii ((i.val : Nat) : Int)).toInt64.toUInt64 &&& Int64.toUInt64 63).toBitVec.toNat % 64 = 8 * i.val ∧ (((8 * ii ((i.val : Nat) : Int)).toInt64 &&& 63).toBitVec.smod 64).toNat = 8 * i.val := by decide +kernel
theorem wb_u (w : Int64) {i : Nat} (h : i < 8) : b8 ((((w).toUInt64 >>> (((8 * ii (i : Int))).toInt64.toUInt64 &&& Int64.toUInt64 63)).toInt64)).toInt32 = wb w i := by
  apply UInt8.toBitVec_inj.mp
  rw [b8_bv]
  unfold wb
  have e := (l8 ⟨i, h⟩).1
  show BitVec.setWidth 8 (BitVec.signExtend 32 ((w).toUInt64 >>> (((8 * ii (i : Int))).toInt64.toUInt64 &&& Int64.toUInt64 63)).toBitVec) = w.toBitVec.extractLsb' (8 * i) 8
  rw [BitVec.signExtend_eq_setWidth_of_le _ (by decide), UInt64.toBitVec_shiftRight]
  apply BitVec.eq_of_getLsbD_eq
  intro j hj
  rw [BitVec.getLsbD_setWidth, BitVec.getLsbD_setWidth, BitVec.ushiftRight_eq', BitVec.getLsbD_ushiftRight, BitVec.toNat_umod]
  simp only [BitVec.getLsbD_extractLsb']
  rw [show (((8 * ii (i : Int))).toInt64.toUInt64 &&& Int64.toUInt64 63).toBitVec.toNat % (64 : BitVec 64).toNat = 8 * i from e]
  have : j < 32 := by omega
  simp [hj, this]
theorem wb_s (w : Int64) {i : Nat} (h : i < 8) : b8 ((w >>> (((8 * ii (i : Int))).toInt64 &&& 63))).toInt32 = wb w i := by
  apply UInt8.toBitVec_inj.mp
  rw [b8_bv]
  unfold wb
  have e := (l8 ⟨i, h⟩).2
  show BitVec.setWidth 8 (BitVec.signExtend 32 (w >>> (((8 * ii (i : Int))).toInt64 &&& 63)).toBitVec) = w.toBitVec.extractLsb' (8 * i) 8
  rw [BitVec.signExtend_eq_setWidth_of_le _ (by decide), Int64.toBitVec_shiftRight, BitVec.sshiftRight', e]
  apply BitVec.eq_of_getLsbD_eq
  intro j hj
  rw [BitVec.getLsbD_setWidth, BitVec.getLsbD_setWidth, BitVec.getLsbD_sshiftRight]
  simp only [BitVec.getLsbD_extractLsb']
  have h1 : j < 32 := by omega
  have h2 : 8 * i + j < 64 := by omega
  have h3 : ¬ 64 ≤ j := by omega
  simp [hj, h1, h2, h3]
def wbs (w : Int64) (n : Nat) : List UInt8 := (List.range n).map (wb w)
theorem wbs_succ (w : Int64) (n : Nat) : wbs w (n + 1) = wbs w n ++ [wb w n] := by simp [wbs, List.range_succ]
theorem wbs_len (w : Int64) (n : Nat) : (wbs w n).length = n := by simp [wbs]
theorem s_Mc_type {M : zM} {tp : List UInt8} {w : Int64} {n : Int} {post : Option Value → zM → Prop} {postT : Nat → zM → Prop} (h : Rw M (0 + 1) tp) (hr1 : -2147483648 ≤ n) (hr2 : n ≤ 2147483647)
    (k1 : (n < 1 ∨ 8 < n) → postT 1 M) (k2 : 1 ≤ n → n ≤ 8 → 8000 < tp.length + n → postT 2 M)
    (k3 : ∀ M', 1 ≤ n → n ≤ 8 → tp.length + n ≤ 8000 → Only [0 + 1, 0 + 1 + 1] M M' → Rw M' (0 + 1) (tp ++ wbs w n.toNat) → post (some (.int (ii (tp.length + n)))) M') : Wp_Mc_type 0 w (ii n) M post postT := by
  have hl : tp.length ≤ 8000 := h.2.1
  have hln : ln (0 + 1 + 1) = 8000 := by decide +kernel
  unfold Wp_Mc_type
  intro K hK
  rw [show (1 : Int32) = ii 1 from rfl, show (8 : Int32) = ii 8 from rfl, ii_lt hr1 hr2 (by decide) (by decide), ii_le hr1 hr2 (by decide) (by decide)]
  refine ⟨fun q => k1 (Or.inl q), fun q => ⟨fun q2 => s_room h ?_, fun q2 => k1 (Or.inr (by omega))⟩⟩
  rw [hln, ii_le (by omega) (by omega) (by omega) (by omega)]
  refine ⟨fun q3 => ?_, fun q3 => k2 (by omega) q2 (by omega)⟩
  obtain ⟨m, rfl⟩ := Int.eq_ofNat_of_zero_le (show 0 ≤ n by omega)
  suffices H : ∀ d i M1, i + d = m → Only [0 + 1, 0 + 1 + 1] M M1 → Rw M1 (0 + 1) (tp ++ wbs w i) → K (ii i) M1 from H m 0 M (by omega) Only.rf (by simpa [wbs] using h)
  intro d
  induction d with
  | zero =>
    intro i M1 hi ho hR
    have ei : i = m := by omega
    subst ei
    refine hK _ _ ⟨fun _ => ?_, fun q => absurd (by rw [ii_le (by omega) (by omega) (by omega) (by omega)]; omega) q⟩
    rw [hR.1, List.length_append, wbs_len]
    have := k3 M1 (by omega) (by omega) (by omega) ho (by simpa using hR)
    simpa using this
  | succ d ih =>
    intro i M1 hi ho hR
    refine hK _ _ ⟨fun q => ?_, fun _ => ?_⟩
    · rw [ii_le (by omega) (by omega) (by omega) (by omega)] at q
      omega
    · refine s_put hR (by rw [hln, List.length_append, wbs_len]; omega) (fun M2 ho2 hR2 => ?_)
      rintro x rfl
      rw [show (ii (i : Int) + 1) = ii ((i + 1 : Nat) : Int) by rw [show (1 : Int32) = ii 1 from rfl, ii_add]; rfl]
      rw [show (8 : Int32) = ii 8 from rfl] at *
      refine ih (i + 1) M2 (by omega) (ho.trans ho2) ?_
      rw [wbs_succ, ← List.append_assoc, ← wb_u w (show i < 8 by omega)]
      exact hR2
theorem s_Mo_type {M : zM} {tp : List UInt8} {w : Int64} {n : Int} {post : Int32 → zM → Prop} (h : Cw M 7 (413 + 7) tp) (hr1 : -2147483648 ≤ n) (hr2 : n ≤ 2147483647)
    (k1 : ∀ M', (n < 1 ∨ 8 < n) → OnlyR [6, 7] [413 + 7] M M' → M'.1 413 6 = 1 → Cw M' 7 (413 + 7) tp → post 0 M') (k2 : ∀ M', 1 ≤ n → n ≤ 8 → 8000 < tp.length + n → OnlyR [6, 7] [413 + 7] M M' → M'.1 413 6 = 2 → Cw M' 7 (413 + 7) tp → post 0 M')
    (k3 : ∀ M', 1 ≤ n → n ≤ 8 → tp.length + n ≤ 8000 → OnlyR [6, 7] [413 + 7] M M' → M'.1 413 6 = 0 → Cw M' 7 (413 + 7) (tp ++ wbs w n.toNat) → post (ii (tp.length + n)) M') : Wp_Mo_type 413 w (ii n) M post := by
  have hl : tp.length ≤ 8000 := h.2.1
  have hln : ln (413 + 7) = 8000 := by decide +kernel
  unfold Wp_Mo_type
  intro K K2 hK hK2
  have bad : ∀ (t : Int32) (M1 : zM), M1 = zI M 413 6 t → 0 < t → (∀ M', OnlyR [6, 7] [413 + 7] M M' → M'.1 413 6 = t → Cw M' 7 (413 + 7) tp → post 0 M') → K 0 M1 := by
    rintro t M1 rfl ht hk
    have e6 : (zI M 413 6 t).1 413 6 = t := by rw [zI_g, if_pos ⟨rfl, rfl⟩]
    have fin : K2 (zI M 413 6 t) := by
      refine hK2 _ ⟨fun q => ?_, fun _ => ?_⟩
      · rw [e6] at q
        exact absurd ht (Int32.not_lt.mpr q)
      · exact hk _ (OnlyR.rf.fld (by simp)) e6 (h.only (OnlyR.rf.fld (F := [6]) (S := []) (by simp)) (by decide) (by decide) (by decide))
    refine hK _ _ ⟨fun _ => fin, fun _ => ⟨fun _ => fin, fun q => ?_⟩⟩
    rw [e6] at q
    rw [q] at ht
    exact absurd ht (by decide)
  rw [show (1 : Int32) = ii 1 from rfl, show (8 : Int32) = ii 8 from rfl, ii_lt hr1 hr2 (by decide) (by decide), ii_le hr1 hr2 (by decide) (by decide)]
  refine ⟨fun q M1 e => bad _ M1 e (by decide) (fun M' a b c => k1 M' (Or.inl q) a b c), fun q => ⟨fun q2 => ?_, fun q2 M1 e => bad _ M1 e (by decide) (fun M' a b c => k1 M' (Or.inr (by omega)) a b c)⟩⟩
  rw [show (8000 : Int32) = ii 8000 from rfl, h.1, ii_add, ii_le (by omega) (by omega) (by omega) (by omega)]
  refine ⟨fun q3 => ?_, fun q3 M1 e => bad _ M1 e (by decide) (fun M' a b c => k2 M' (by omega) q2 (by omega) a b c)⟩
  rintro M0 rfl
  obtain ⟨m, rfl⟩ := Int.eq_ofNat_of_zero_le (show 0 ≤ n by omega)
  have e6 : (zI M 413 6 0).1 413 6 = 0 := by rw [zI_g, if_pos ⟨rfl, rfl⟩]
  suffices H : ∀ d i M1, i + d = m → OnlyR [6, 7] [413 + 7] M M1 → M1.1 413 6 = 0 → Cw M1 7 (413 + 7) (tp ++ wbs w i) → K (ii i) M1 from
    H m 0 _ (by omega) (OnlyR.rf.fld (by simp)) e6 (by simpa [wbs] using h.only (OnlyR.rf.fld (F := [6]) (S := []) (by simp)) (by decide) (by decide) (by decide))
  intro d
  induction d with
  | zero =>
    intro i M1 hi ho h6 hR
    have ei : i = m := by omega
    subst ei
    refine hK _ _ ⟨fun _ => hK2 _ ⟨fun _ => ?_, fun q => absurd (by rw [h6]; decide) q⟩, fun q => absurd (by rw [ii_le (by omega) (by omega) (by omega) (by omega)]; omega) q⟩
    rw [hR.1, List.length_append, wbs_len]
    have := k3 M1 (by omega) (by omega) (by omega) ho h6 (by simpa using hR)
    simpa using this
  | succ d ih =>
    intro i M1 hi ho h6 hR
    refine hK _ _ ⟨fun q => ?_, fun _ => ⟨fun q => absurd h6 q, fun _ => ?_⟩⟩
    · rw [ii_le (by omega) (by omega) (by omega) (by omega)] at q
      omega
    · have hlen : (tp ++ wbs w i).length = tp.length + i := by rw [List.length_append, wbs_len]
      rw [hR.1, hlen]
      refine ⟨ii_in (by omega) (by omega) (by omega), ?_⟩
      rintro M5 rfl M6 e x rfl
      rw [ii_nat (by omega) (by omega), Int.toNat_natCast, nar_b8', zI_o (by decide), hR.1, hlen] at e
      have hp := hR.put (b := wb w i) (M' := M6) (by decide) (by omega) (by
        rw [e, hlen, wb_s w (show i < 8 by omega), show (1 : Int32) = ii 1 from rfl, ii_add]
        rfl)
      have h6' : M6.1 413 6 = 0 := by rw [hp.2.2.1 6 (by decide)]; exact h6
      rw [show (ii (i : Int) + 1) = ii ((i + 1 : Nat) : Int) by rw [show (1 : Int32) = ii 1 from rfl, ii_add]; rfl]
      refine ih (i + 1) M6 (by omega) (ho.trans (hp.2.mono (by simp) (by simp))) h6' ?_
      rw [wbs_succ, ← List.append_assoc]
      exact hp.1
theorem s_Mc_again {M : zM} {tp : List UInt8} {n : Int} {post : Option Value → zM → Prop} {postT : Nat → zM → Prop} (h : Rw M (0 + 1) tp) (hr1 : -2147483648 ≤ n) (hr2 : n ≤ 2147483647)
    (k1 : (n < 0 ∨ tp.length < n) → postT 1 M) (k2 : 0 ≤ n → n ≤ tp.length → 8000 < tp.length + n → postT 2 M)
    (k3 : ∀ M', 0 ≤ n → n ≤ tp.length → tp.length + n ≤ 8000 → Only [0 + 1, 0 + 1 + 1] M M' → Rw M' (0 + 1) (tp ++ cut tp (tp.length - n.toNat) tp.length) → post (some (.int (ii (tp.length + n)))) M') : Wp_Mc_again 0 (ii n) M post postT := by
  have hl : tp.length ≤ 8000 := h.2.1
  have hln : ln (0 + 1 + 1) = 8000 := by decide +kernel
  unfold Wp_Mc_again
  rw [h.1, ii_nneg hr1 hr2, ii_le hr1 hr2 (by omega) (by omega)]
  refine ⟨fun q => k1 (Or.inl q), fun q => ⟨fun q2 => s_room h ?_, fun q2 => k1 (Or.inr (by omega))⟩⟩
  rw [hln, ii_le (by omega) (by omega) (by omega) (by omega)]
  refine ⟨fun q3 => ?_, fun q3 => k2 (by omega) q2 (by omega)⟩
  obtain ⟨m, rfl⟩ := Int.eq_ofNat_of_zero_le (show 0 ≤ n by omega)
  rw [h.1, ii_sub, show ((tp.length : Int) - m) = ((tp.length - m : Nat) : Int) by omega]
  refine s_putRange h h (by omega) (Nat.le_refl _) (by omega) (fun M' ho hR => ?_)
  have hlen : (cut tp (tp.length - m) tp.length).length = m := by rw [cut_len]; omega
  have := k3 M' (by omega) (by omega) (by omega) ho hR
  rw [hR.1, List.length_append, hlen]
  simpa using this
theorem s_Mo_again {M : zM} {tp : List UInt8} {n : Int} {post : Int32 → zM → Prop} (h : Cw M 7 (413 + 7) tp) (hr1 : -2147483648 ≤ n) (hr2 : n ≤ 2147483647)
    (k1 : ∀ M', (n < 0 ∨ tp.length < n) → OnlyR [6, 7] [413 + 7] M M' → M'.1 413 6 = 1 → Cw M' 7 (413 + 7) tp → post 0 M') (k2 : ∀ M', 0 ≤ n → n ≤ tp.length → 8000 < tp.length + n → OnlyR [6, 7] [413 + 7] M M' → M'.1 413 6 = 2 → Cw M' 7 (413 + 7) tp → post 0 M')
    (k3 : ∀ M', 0 ≤ n → n ≤ tp.length → tp.length + n ≤ 8000 → OnlyR [6, 7] [413 + 7] M M' → M'.1 413 6 = 0 → Cw M' 7 (413 + 7) (tp ++ cut tp (tp.length - n.toNat) tp.length) → post (ii (tp.length + n)) M') : Wp_Mo_again 413 (ii n) M post := by
  have hl : tp.length ≤ 8000 := h.2.1
  have hln : ln (413 + 7) = 8000 := by decide +kernel
  unfold Wp_Mo_again
  intro KA K K2 hKA hK hK2
  have bad : ∀ (t : Int32), 0 < t → (∀ M', OnlyR [6, 7] [413 + 7] M M' → M'.1 413 6 = t → Cw M' 7 (413 + 7) tp → post 0 M') → KA t 413 M := by
    intro t ht hk
    refine hKA _ _ _ ⟨by decide, by decide +kernel, ?_⟩
    rintro M1 rfl x rfl
    have e6 : (zI M 413 6 t).1 413 6 = t := by rw [zI_g, if_pos ⟨rfl, rfl⟩]
    have fin : K2 (zI M 413 6 t) := by
      refine hK2 _ ⟨fun q => ?_, fun _ => ?_⟩
      · rw [e6] at q
        exact absurd ht (Int32.not_lt.mpr q)
      · exact hk _ (OnlyR.rf.fld (by simp)) e6 (h.only (OnlyR.rf.fld (F := [6]) (S := []) (by simp)) (by decide) (by decide) (by decide))
    refine hK _ _ _ ⟨fun _ => fin, fun _ => ⟨fun _ => fin, fun q => ?_⟩⟩
    rw [e6] at q
    rw [q] at ht
    exact absurd ht (by decide)
  rw [h.1, ii_nneg hr1 hr2, ii_le hr1 hr2 (by omega) (by omega)]
  refine ⟨fun q => bad _ (by decide) (fun M' a b c => k1 M' (Or.inl q) a b c), fun q => ⟨fun q2 => ?_, fun q2 => bad _ (by decide) (fun M' a b c => k1 M' (Or.inr (by omega)) a b c)⟩⟩
  rw [show (8000 : Int32) = ii 8000 from rfl, ii_add, ii_le (by omega) (by omega) (by omega) (by omega)]
  refine ⟨fun q3 => ?_, fun q3 => bad _ (by decide) (fun M' a b c => k2 M' (by omega) q2 (by omega) a b c)⟩
  obtain ⟨m, rfl⟩ := Int.eq_ofNat_of_zero_le (show 0 ≤ n by omega)
  refine hKA _ _ _ ⟨by decide, by decide +kernel, ?_⟩
  rintro M0 rfl x rfl
  have e6 : (zI M 413 6 0).1 413 6 = 0 := by rw [zI_g, if_pos ⟨rfl, rfl⟩]
  have hc0 : Cw (zI M 413 6 0) 7 (413 + 7) tp := h.only (OnlyR.rf.fld (F := [6]) (S := []) (by simp)) (by decide) (by decide) (by decide)
  rw [hc0.1, ii_sub, show ((tp.length : Int) - m) = ((tp.length - m : Nat) : Int) by omega]
  have hcl : ∀ i, i ≤ m → (cut tp (tp.length - m) (tp.length - m + i)).length = i := fun i hi => by rw [cut_len]; omega
  suffices H : ∀ d i M1, i + d = m → OnlyR [6, 7] [413 + 7] M M1 → M1.1 413 6 = 0 → Cw M1 7 (413 + 7) (tp ++ cut tp (tp.length - m) (tp.length - m + i)) → K (ii ((tp.length - m : Nat) : Int)) (ii i) M1 from
    H m 0 _ (by omega) (OnlyR.rf.fld (by simp)) e6 (by rw [List.eq_nil_of_length_eq_zero (hcl 0 (by omega)), List.append_nil]; exact hc0)
  intro d
  induction d with
  | zero =>
    intro i M1 hi ho h6 hR
    have ei : i = m := by omega
    subst ei
    refine hK _ _ _ ⟨fun _ => hK2 _ ⟨fun _ => ?_, fun q => absurd (by rw [h6]; decide) q⟩, fun q => absurd (by rw [ii_le (by omega) (by omega) (by omega) (by omega)]; omega) q⟩
    rw [hR.1, List.length_append, hcl i (Nat.le_refl _)]
    rw [show tp.length - i + i = tp.length by omega] at hR
    have := k3 M1 (by omega) (by omega) (by omega) ho h6 hR
    simpa using this
  | succ d ih =>
    intro i M1 hi ho h6 hR
    refine hK _ _ _ ⟨fun q => ?_, fun _ => ⟨fun q => absurd h6 q, fun _ => ?_⟩⟩
    · rw [ii_le (by omega) (by omega) (by omega) (by omega)] at q
      omega
    · have hlen : (tp ++ cut tp (tp.length - m) (tp.length - m + i)).length = tp.length + i := by rw [List.length_append, hcl i (by omega)]
      have hix : tp.length - m + i < tp.length := by omega
      rw [hR.1, hlen, ii_add]
      refine ⟨ii_in (by omega) (by omega) (by omega), ii_in (by omega) (by omega) (by omega), ?_⟩
      rintro M5 rfl M6 e x rfl
      have hv : M1.1 (413 + 7) (tp.length - m + i) = sb tp[tp.length - m + i] := by
        rw [hR.2.2 _ (by rw [hlen]; omega), List.getElem_append_left hix]
      rw [ii_nat (by omega) (by omega), ii_nat (by omega) (by omega), Int.toNat_natCast, show (((tp.length - m : Nat) : Int) + i).toNat = tp.length - m + i by omega, hv, nar_b8, b8_sb, zI_o (by decide), hR.1, hlen] at e
      have hp := hR.put (b := tp[tp.length - m + i]) (M' := M6) (by decide) (by omega) (by
        rw [e, hlen, show (1 : Int32) = ii 1 from rfl, ii_add]
        rfl)
      have h6' : M6.1 413 6 = 0 := by rw [hp.2.2.1 6 (by decide)]; exact h6
      rw [show (ii (i : Int) + 1) = ii ((i + 1 : Nat) : Int) by rw [show (1 : Int32) = ii 1 from rfl, ii_add]; rfl]
      refine ih (i + 1) M6 (by omega) (ho.trans (hp.2.mono (by simp) (by simp))) h6' ?_
      have e1 : cut tp (tp.length - m) (tp.length - m + (i + 1)) = cut tp (tp.length - m) (tp.length - m + i) ++ [tp[tp.length - m + i]] := by
        unfold cut
        rw [← Nat.add_assoc, ← List.take_append_getElem hix, List.drop_append_of_le_length (by rw [List.length_take]; omega)]
      rw [e1, ← List.append_assoc]
      exact hp.1
theorem s_Mc_checksum {M : zM} {tp : List UInt8} {post : Int32 → zM → Prop} (h : Rw M (0 + 1) tp) (k : ∀ M', Only [0 + 1] M M' → Rw M' (0 + 1) [] → post (crc tp) M') : Wp_Mc_checksum 0 M post := by
  unfold Wp_Mc_checksum
  rw [h.1, show (0 : Int32) = ii ((0 : Nat) : Int) from rfl]
  refine s_sum h (Nat.zero_le _) (Nat.le_refl _) (s_wipe (fun M' ho _ hR => ?_))
  have e : cut tp 0 tp.length = tp := by simp [cut]
  rw [e]
  exact k M' ho hR
theorem s_Mo_checksum {M : zM} {tp : List UInt8} {post : Int32 → zM → Prop} (h : Cw M 7 (413 + 7) tp) (k : ∀ M', OnlyR [6, 7] [] M M' → M'.1 413 6 = 0 → Cw M' 7 (413 + 7) [] → post (crc tp) M') : Wp_Mo_checksum 413 M post := by
  unfold Wp_Mo_checksum
  rintro M1 rfl
  have hc0 : Cw (zI M 413 6 0) 7 (413 + 7) tp := h.only (OnlyR.rf.fld (F := [6]) (S := []) (by simp)) (by decide) (by decide) (by decide)
  rw [hc0.1, show (0 : Int32) = ii ((0 : Nat) : Int) from rfl]
  refine s_sumOf (by rw [Nat.zero_add]; exact hc0.2.1) (fun i hi => by rw [Nat.zero_add]; exact hc0.2.2 i hi) ?_
  rintro M4 rfl
  refine k _ ((OnlyR.rf.fld (by simp)).fld (by simp)) ?_ ⟨?_, by simp, fun i hi => absurd hi (by simp)⟩
  · rw [zI_g, if_neg (by decide), zI_g, if_pos ⟨rfl, rfl⟩]
    rfl
  · rw [zI_g, if_pos ⟨rfl, rfl⟩]
    rfl
