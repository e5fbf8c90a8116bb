/-- the byte at a place, or -1 -/
def gt (bs : List UInt8) (i : Int) : Int := if 0 ≤ i then (match bs[i.toNat]? with | some b => (b.toNat : Int) | none => -1) else -1
theorem gt_in {bs : List UInt8} {i : Nat} (h : i < bs.length) : gt bs i = (bs[i].toNat : Int) := by
  unfold gt
  rw [if_pos (by omega), Int.toNat_natCast, List.getElem?_eq_getElem h]
theorem gt_out {bs : List UInt8} {i : Int} (h : i < 0 ∨ (bs.length : Int) ≤ i) : gt bs i = -1 := by
  unfold gt
  by_cases h0 : 0 ≤ i
  · rw [if_pos h0, List.getElem?_eq_none (by omega)]
  · rw [if_neg h0]
theorem gt_rng (bs : List UInt8) (i : Int) : -1 ≤ gt bs i ∧ gt bs i ≤ 255 := by
  by_cases h : i < 0 ∨ (bs.length : Int) ≤ i
  · rw [gt_out h]
    decide
  · obtain ⟨n, rfl⟩ := Int.eq_ofNat_of_zero_le (show 0 ≤ i by omega)
    rw [gt_in (by omega)]
    have := UInt8.toNat_lt (bs[n]'(by omega))
    omega
section ROWS2
variable {M : zM} {r : Nat} {bs : List UInt8}
theorem s_wipe {post : zM → Prop} (k : ∀ M', Only [r] M M' → M'.1 r 1 = 0 → Rw M' r [] → post M') : Wp_Ro_wipe r M post := by
  unfold Wp_Ro_wipe
  rintro M1 rfl
  have e : (zI M r 1 0).1 r 1 = 0 := by rw [zI_g, if_pos ⟨rfl, rfl⟩]
  exact k _ (Only.rf.zI (by simp)) e ⟨e, by simp, fun i h => absurd h (by simp)⟩
theorem s_room {post : Int32 → zM → Prop} (h : Rw M r bs) (k : post (ii (ln (r + 1) - bs.length)) M) : Wp_Ro_room r M post := by
  unfold Wp_Ro_room
  rw [ii_ofNat, h.1, ii_sub]
  exact k
theorem s_has {post : Int32 → zM → Prop} {i : Int} (h : Rw M r bs) (h1 : -2147483648 ≤ i) (h2 : i ≤ 2147483647) (k : post (if 0 ≤ i ∧ i < bs.length then 1 else 0) M) : Wp_Ro_has r (ii i) M post := by
  have hl := h.len
  unfold Wp_Ro_has
  rw [h.1, ii_nneg h1 h2, ii_le (by omega) (by omega) h1 h2]
  refine ⟨fun q => ?_, fun q => ⟨fun q2 => ?_, fun q2 => ?_⟩⟩
  · rw [if_neg (by omega)] at k; exact k
  · rw [if_neg (by omega)] at k; exact k
  · rw [if_pos (by omega)] at k; exact k
theorem s_at {post : Int32 → zM → Prop} {i : Int} (h : Rw M r bs) (h1 : -2147483648 ≤ i) (h2 : i ≤ 2147483647) (k : post (ii (gt bs i)) M) : Wp_Ro_at r (ii i) M post := by
  have hl := h.len
  have hle := h.2.1
  unfold Wp_Ro_at
  rw [h.1, ii_nneg h1 h2, ii_le (by omega) (by omega) h1 h2]
  refine ⟨fun q => ?_, fun q => ⟨fun q2 => ?_, fun q2 => ?_⟩⟩
  · rw [gt_out (Or.inl q)] at k; exact k
  · rw [gt_out (Or.inr q2)] at k; exact k
  · obtain ⟨n, rfl⟩ := Int.eq_ofNat_of_zero_le (show 0 ≤ i by omega)
    have hn : n < bs.length := by omega
    refine ⟨ii_in (by omega) (by omega) h2, ?_⟩
    rw [ii_nat h1 h2, Int.toNat_natCast, h.2.2 n hn, show (255 : Int32) = ii 255 from rfl, sb_and, ← gt_in hn]
    exact k
theorem s_put {post : zM → Prop} {v : Int32} (h : Rw M r bs) (hr : bs.length < ln (r + 1)) (k : ∀ M', Only [r, r + 1] M M' → Rw M' r (bs ++ [b8 v]) → post M') : Wp_Ro_put r v M post := by
  have hl := h.len
  have hs := ln_small (r + 1)
  unfold Wp_Ro_put
  rw [h.1, ii_ofNat, ii_le (by omega) (by omega) (by omega) (by omega)]
  refine ⟨fun q => by omega, fun q => ⟨ii_in (by omega) (by omega) (by omega), ?_⟩⟩
  rintro M1 rfl M2 rfl
  rw [ii_nat (by omega) (by omega), Int.toNat_natCast, nar_b8']
  have e1 : (zI M (r + 1) bs.length (sb (b8 v))).1 r 1 = ii bs.length := by rw [zI_g, if_neg (by omega), h.1]
  refine k _ ((Only.rf.zI (by simp)).zI (by simp)) ⟨?_, by simp; omega, fun i hi => ?_⟩
  · rw [zI_g, if_pos ⟨rfl, rfl⟩, e1, show (1 : Int32) = ii 1 from rfl, ii_add]
    simp
  · rw [zI_g, if_neg (by omega), zI_g]
    by_cases hi2 : i = bs.length
    · subst hi2
      rw [if_pos ⟨rfl, rfl⟩]
      simp
    · rw [if_neg (fun q => hi2 q.2)]
      have hi3 : i < bs.length := by simp at hi; omega
      rw [List.getElem_append_left hi3]
      exact h.2.2 i hi3
theorem s_put_full {post : zM → Prop} {v : Int32} (h : Rw M r bs) (hr : ¬ bs.length < ln (r + 1)) (k : post M) : Wp_Ro_put r v M post := by
  have hl := h.len
  have hs := ln_small (r + 1)
  unfold Wp_Ro_put
  rw [h.1, ii_ofNat, ii_le (by omega) (by omega) (by omega) (by omega)]
  exact ⟨fun q => k, fun q => by omega⟩
theorem s_turn {post : zM → Prop} {i : Nat} {v : Int32} (h : Rw M r bs) (hi : i < bs.length) (k : ∀ M', Only [r + 1] M M' → Rw M' r (bs.set i (bs[i] ^^^ b8 v)) → post M') : Wp_Ro_turn r (ii i) v M post := by
  have hl := h.len
  have hle := h.2.1
  unfold Wp_Ro_turn
  refine s_has h (by omega) (by omega) ?_
  rw [if_pos (by omega)]
  refine ⟨fun q => absurd q (by decide), fun _ => ⟨ii_in (by omega) (by omega) (by omega), ii_in (by omega) (by omega) (by omega), ?_⟩⟩
  rintro M3 rfl
  rw [ii_nat (by omega) (by omega), Int.toNat_natCast, h.2.2 i hi, nar_b8']
  have e : b8 (sb bs[i] ^^^ v.toInt8.toInt32) = bs[i] ^^^ b8 v := by
    rw [b8_xor, b8_sb]
    congr 1
    unfold b8
    simp
  rw [e]
  refine k _ (Only.rf.zI (by simp)) ⟨by rw [zI_g, if_neg (by omega), h.1, List.length_set], by rw [List.length_set]; exact hle, fun j hj => ?_⟩
  rw [zI_g, List.getElem_set]
  by_cases hij : i = j
  · rw [if_pos ⟨rfl, hij.symm⟩, if_pos hij]
  · rw [if_neg (fun q => hij q.2.symm), if_neg hij]
    exact h.2.2 j (by rw [List.length_set] at hj; exact hj)
/-- a piece of a row -/
def cut (bs : List UInt8) (s e : Nat) : List UInt8 := (bs.take e).drop s
theorem cut_len (bs : List UInt8) (s e : Nat) : (cut bs s e).length = min e bs.length - s := by simp [cut]
theorem s_putRange {post : zM → Prop} {a : Nat} {cs : List UInt8} {s e : Nat} (h : Rw M r bs) (ha : Rw M a cs) (hse : s ≤ e) (he : e ≤ cs.length) (hroom : bs.length + (e - s) ≤ ln (r + 1)) (k : ∀ M', Only [r, r + 1] M M' → Rw M' r (bs ++ cut cs s e) → post M') : Wp_Ro_putRange r a (ii s) (ii e) M post := by
  have hl := h.len
  have hla := ha.len
  have hlea := ha.2.1
  have hs := ln_small (r + 1)
  unfold Wp_Ro_putRange
  rintro x1 rfl
  rw [ii_sub, show (0 : Int32) = ii 0 from rfl, ha.1, ii_lt (by omega) (by omega) (by omega) (by omega), ii_le (by omega) (by omega) (by omega) (by omega), ii_lt (by omega) (by omega) (by omega) (by omega)]
  refine ⟨fun q => by omega, fun _ => ⟨fun q => ?_, fun q => ⟨fun q2 => by omega, fun _ => ?_⟩⟩⟩
  · have e0 : s = e := by omega
    refine k M Only.rf ?_
    have : cut cs s e = [] := by
      apply List.eq_nil_of_length_eq_zero
      rw [cut_len]
      omega
    rw [this, List.append_nil]
    exact h
  · refine s_room h ?_
    rw [ii_lt (by omega) (by omega) (by omega) (by omega), ii_lt (by omega) (by omega) (by omega) (by omega), h.1, ii_lt (by omega) (by omega) (by omega) (by omega), ii_nat (by omega) (by omega), ii_nat (by omega) (by omega), ii_nat (by omega) (by omega)]
    refine ⟨fun q => by omega, fun _ => ⟨by omega, by omega, by omega, by omega, by omega, fun i hi => ?_, ?_⟩⟩
    · rw [show ((s : Int).toNat + i) = s + i by omega, ha.2.2 (s + i) (by omega)]
      exact sb_fits _
    · rintro M4 rfl M5 rfl
      have hlen : (cut cs s e).length = e - s := by rw [cut_len]; omega
      refine k _ ((Only.rf.zA (by simp)).zI (by simp)) ⟨?_, by rw [List.length_append, hlen]; exact hroom, fun i hi => ?_⟩
      · rw [zI_g, if_pos ⟨rfl, rfl⟩, zA_g, if_neg (by omega), h.1, ii_add, List.length_append, hlen]
        congr 1
        omega
      · rw [zI_g, if_neg (by omega), zA_g, if_pos rfl]
        unfold va_cpy
        rw [List.length_append, hlen] at hi
        by_cases hi2 : i < bs.length
        · rw [if_neg (by omega), List.getElem_append_left hi2]
          exact h.2.2 i hi2
        · rw [if_pos (by omega), List.getElem_append_right (by omega), ha.2.2 _ (by omega)]
          congr 1
          simp only [cut, List.getElem_drop, List.getElem_take]
          congr 1
end ROWS2
