section ROWS3
variable {M : zM} {r : Nat} {bs : List UInt8}
theorem s_copy {post : zM → Prop} {a : Nat} {cs : List UInt8} {s e : Nat} (hra : r ≠ a) (hra1 : r ≠ a + 1) (ha : Rw M a cs) (hse : s ≤ e) (he : e ≤ cs.length) (hroom : e - s ≤ ln (r + 1)) (k : ∀ M', Only [r, r + 1] M M' → Rw M' r (cut cs s e) → post M') : Wp_Ro_copy r a (ii s) (ii e) M post := by
  unfold Wp_Ro_copy
  refine s_wipe (fun M1 h1 _ h2 => ?_)
  refine s_putRange h2 (ha.only h1 (by simp; omega) (by simp; omega)) hse he (by simpa using hroom) (fun M2 h3 h4 => ?_)
  exact k M2 ((h1.mono (by simp)).trans h3) (by simpa using h4)
/-- the texts -/
def txt (s : Nat) : List UInt8 := (strByt.getD s []).map b8
theorem txt_len : ∀ s, s < 9 → strLen.getD s 0 = (txt s).length ∧ (txt s).length ≤ 86 := by decide +kernel
theorem txt_at : ∀ s, s < 9 → ∀ i, i < 86 → i < (txt s).length → ((((((strByt.getD s []).getD i 0) &&& 255)).toUInt32 % 65536).toInt32) = ii ((((txt s).getD i 0).toNat : Nat) : Int) ∧ narrow .char (.int (ii ((((txt s).getD i 0).toNat : Nat) : Int))) = .int (ii ((((txt s).getD i 0).toNat : Nat) : Int)) := by decide +kernel
theorem s_strlen {s : Nat} {post : Int32 → zM → Prop} (hs : s < 9) (k : post (ii (txt s).length) M) : Wp_JString_length s M post := by
  have h := txt_len s hs
  unfold Wp_JString_length Wp_JString_coder
  refine ⟨fun q => absurd q (by decide), fun _ => ?_⟩
  show post (Int32.ofNat (strLen.getD s 0) >>> ((0 : Int32) &&& 31)) M
  rw [h.1, ii_ofNat, show ((0 : Int32) &&& 31) = ii ((0 : Nat) : Int) from rfl, ii_shr (by decide) (by omega) (by omega)]
  simpa using k
theorem s_charAt {s i : Nat} {post : Int32 → zM → Prop} (hs : s < 9) (hi : i < (txt s).length) (k : post (ii (((txt s)[i].toNat : Nat) : Int)) M) : Wp_JString_charAt s (ii i) M post := by
  have h := txt_len s hs
  have hc := txt_at s hs i (by omega) hi
  have e : (txt s).getD i 0 = (txt s)[i] := by simp [hi]
  rw [e] at hc
  unfold Wp_JString_charAt Wp_JString_isLatin1
  refine ⟨fun q => absurd q (by decide), fun _ => ⟨fun q => absurd rfl q, fun _ => ⟨fun q => absurd q (by decide), fun _ => ?_⟩⟩⟩
  unfold Wp_JStringLatin1_charAt Wp_JString_checkIndex
  rw [ii_nneg (by omega) (by omega), ii_ofNat, ii_lt (by omega) (by omega) (by omega) (by omega), h.1]
  refine ⟨by omega, by omega, ii_in (by omega) (by omega) (by omega), ?_⟩
  rw [ii_nat (by omega) (by omega), Int.toNat_natCast, hc.1]
  exact ⟨hc.2, hc.2, k⟩
theorem s_putText {s : Nat} {post : zM → Prop} (hs : s < 9) (h : Rw M r bs) (hroom : bs.length + (txt s).length ≤ ln (r + 1)) (k : ∀ M', Only [r, r + 1] M M' → Rw M' r (bs ++ txt s) → post M') : Wp_Ro_putText r s M post := by
  have hsl := txt_len s hs
  unfold Wp_Ro_putText
  intro K hK
  suffices H : ∀ n i M1, n + i = (txt s).length → Only [r, r + 1] M M1 → Rw M1 r (bs ++ (txt s).take i) → K (ii i) M1 by
    exact H (txt s).length 0 M (by simp) Only.rf (by simpa using h)
  intro n
  induction n with
  | zero =>
    intro i M1 hn ho hR
    refine hK _ _ (s_strlen hs ⟨fun _ => ?_, fun q => ?_⟩)
    · refine k M1 ho ?_
      rw [List.take_of_length_le (by omega)] at hR
      exact hR
    · rw [ii_le (by omega) (by omega) (by omega) (by omega)] at q
      omega
  | succ n ih =>
    intro i M1 hn ho hR
    refine hK _ _ (s_strlen hs ⟨fun q => ?_, fun q => ?_⟩)
    · rw [ii_le (by omega) (by omega) (by omega) (by omega)] at q
      omega
    · have hi : i < (txt s).length := by omega
      refine s_charAt hs hi (s_put hR ?_ (fun M2 ho2 hR2 => ?_))
      · rw [List.length_append, List.length_take]
        omega
      · rintro x rfl
        rw [show (1 : Int32) = ii 1 from rfl, ii_add]
        refine ih (i + 1) M2 (by omega) (ho.trans ho2) ?_
        rw [b8_nat, UInt8.ofNat_toNat, List.append_assoc, List.take_append_getElem hi] at hR2
        exact hR2
theorem s_hasText {s : Nat} {st : Int} {post : Int32 → zM → Prop} (hs : s < 9) (h : Rw M r bs) (h1 : 0 ≤ st) (h2 : st ≤ 100000) (k : post (if (bs.drop st.toNat).take (txt s).length = txt s then 1 else 0) M) : Wp_Ro_hasText r s (ii st) M post := by
  have hsl := txt_len s hs
  unfold Wp_Ro_hasText
  intro K hK
  obtain ⟨t, rfl⟩ := Int.eq_ofNat_of_zero_le h1
  rw [Int.toNat_natCast] at k
  suffices H : ∀ n i, n + i = (txt s).length → (bs.drop t).take i = (txt s).take i → K (ii i) M by
    exact H (txt s).length 0 (by simp) (by simp)
  intro n
  induction n with
  | zero =>
    intro i hn hp
    refine hK _ _ (s_strlen hs ⟨fun _ => ?_, fun q => ?_⟩)
    · have e : i = (txt s).length := by omega
      subst e
      rw [List.take_length] at hp
      rw [if_pos hp] at k
      exact k
    · rw [ii_le (by omega) (by omega) (by omega) (by omega)] at q
      omega
  | succ n ih =>
    intro i hn hp
    refine hK _ _ (s_strlen hs ⟨fun q => ?_, fun q => ?_⟩)
    · rw [ii_le (by omega) (by omega) (by omega) (by omega)] at q
      omega
    · have hi : i < (txt s).length := by omega
      rw [ii_add]
      refine s_at h (by omega) (by omega) (s_charAt hs hi ?_)
      have hg := gt_rng bs ((t : Int) + i)
      have hb := UInt8.toNat_lt (txt s)[i]
      rw [ii_eq (by omega) (by omega) (by omega) (by omega)]
      refine ⟨fun q => ?_, fun q => ?_⟩
      · rintro x rfl
        rw [show (1 : Int32) = ii 1 from rfl, ii_add]
        refine ih (i + 1) (by omega) ?_
        by_cases hin : t + i < bs.length
        · rw [show ((t : Int) + i) = ((t + i : Nat) : Int) by omega, gt_in hin] at q
          have q2 : bs[t + i] = (txt s)[i] := UInt8.toNat_inj.mp (by omega)
          rw [List.take_add_one, List.take_add_one, hp]
          congr 1
          rw [List.getElem?_drop, List.getElem?_eq_getElem hin, List.getElem?_eq_getElem hi, q2]
        · rw [gt_out (Or.inr (by omega))] at q
          omega
      · rw [if_neg (fun c => ?_)] at k
        · exact k
        · apply q
          have hlen : ((bs.drop t).take (txt s).length).length = (txt s).length := by rw [c]
          rw [List.length_take, List.length_drop] at hlen
          have hin : t + i < bs.length := by omega
          rw [show ((t : Int) + i) = ((t + i : Nat) : Int) by omega, gt_in hin]
          have : ((bs.drop t).take (txt s).length)[i]? = (txt s)[i]? := by rw [c]
          rw [List.getElem?_take_of_lt hi, List.getElem?_drop, List.getElem?_eq_getElem hin, List.getElem?_eq_getElem hi] at this
          rw [Option.some.inj this]
end ROWS3
