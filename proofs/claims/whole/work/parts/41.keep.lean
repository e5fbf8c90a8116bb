/-- how many parts a text has -/
def nParts (t L : Nat) : Nat := (t + L - 1) / L
theorem nParts_eq {t L c : Nat} (hL : 1 ≤ L) (h1 : c = 0 ∨ (c - 1) * L < t) (h2 : t ≤ c * L) : nParts t L = c := by
  unfold nParts
  rcases h1 with h | h
  · subst h
    rw [Nat.zero_mul] at h2
    exact Nat.div_eq_of_lt (by omega)
  · obtain ⟨j, rfl⟩ : ∃ j, c = j + 1 := ⟨c - 1, by
      rcases Nat.eq_zero_or_pos c with q | q
      · subst q; simp at h h2; omega
      · omega⟩
    rw [Nat.add_sub_cancel] at h
    rw [Nat.succ_mul] at h2
    refine Nat.div_eq_of_lt_le ?_ ?_
    · rw [Nat.succ_mul]; omega
    · rw [Nat.succ_mul, Nat.succ_mul]; omega
theorem s_Ma_keep {M : zM} {a a1 a2 L : Nat} {S T : List UInt8} {post : zM → Prop} (hS : Rw M a1 S) (hT : Rw M a2 T) (hL1 : 40 ≤ L) (hL : L ≤ 4000) (hTL : T.length ≤ 999 * L) (hs : S.length ≤ ln (a + 1 + 1)) (ht : T.length ≤ ln (a + 3 + 1)) (hln : ln (a + 5) = 999) (d1 : ∀ j, j ≤ 5 → a + j ≠ a1 ∧ a + j ≠ a1 + 1) (d2 : ∀ j, j ≤ 5 → a + j ≠ a2 ∧ a + j ≠ a2 + 1)
    (k : ∀ M', Only [a, a + 1, a + 2, a + 3, a + 4, a + 5] M M' → MaI M' a S T L (nParts T.length L) → post M') : Wp_Ma_keep a a1 a2 (ii L) M post := by
  have hlT := hT.len
  unfold Wp_Ma_keep
  intro K hK
  rw [hS.1, show (0 : Int32) = ii ((0 : Nat) : Int) from rfl]
  have cS : cut S 0 S.length = S := by simp [cut]
  have cT : cut T 0 T.length = T := by simp [cut]
  refine s_copy (by have := d1 1 (by omega); omega) (by have := d1 1 (by omega); omega) hS (Nat.zero_le _) (Nat.le_refl _) (by omega) (fun M1 o1 R1 => ?_)
  rw [cS] at R1
  have hT1 : Rw M1 a2 T := hT.only o1 (by have := d2 1 (by omega); have := d2 2 (by omega); simp; omega) (by have := d2 1 (by omega); have := d2 2 (by omega); simp; omega)
  rw [hT1.1]
  refine s_copy (by have := d2 3 (by omega); omega) (by have := d2 3 (by omega); omega) hT1 (Nat.zero_le _) (Nat.le_refl _) (by omega) (fun M2 o2 R2 => ?_)
  rw [cT] at R2
  rintro M3 rfl M4 rfl
  suffices H : ∀ (m c : Nat) (M5 : zM), c + m = 999 → Only [a, a + 1, a + 2, a + 3, a + 4, a + 5] M M5 → Rw M5 (a + 1) S → Rw M5 (a + 3) T → M5.1 a 2 = ii c → M5.1 a 3 = ii L → (c = 0 ∨ (c - 1) * L < T.length) → (∀ i, i < c → M5.1 (a + 5) i = crc (piece T L (i + 1))) → K (ii ((c * L : Nat) : Int)) M5 by
    have oA : Only [a] M2 (zI (zI M2 a 3 (ii (L : Int))) a 2 (ii ((0 : Nat) : Int))) := (Only.rf.zI (by simp <;> omega)).zI (by simp <;> omega)
    have := H 999 0 _ (by omega) (((o1.mono (by simp <;> omega)).trans (o2.mono (by simp <;> omega))).trans (oA.mono (by simp <;> omega))) ((R1.only o2 (by simp <;> omega) (by simp <;> omega)).only oA (by simp <;> omega) (by simp <;> omega)) (R2.only oA (by simp <;> omega) (by simp <;> omega)) (by rw [zI_g, if_pos ⟨rfl, rfl⟩]) (by rw [zI_g, if_neg (by simp <;> omega), zI_g, if_pos ⟨rfl, rfl⟩]) (Or.inl rfl) (fun i hi => absurd hi (by omega))
    rw [Nat.zero_mul] at this
    exact this
  intro m
  induction m with
  | zero =>
    intro c M5 hc ho hS5 hT5 h2 h3 hlo hsum
    have ec : c = 999 := by omega
    subst ec
    have fin : post M5 := k M5 ho (by
      rw [nParts_eq (by omega) hlo hTL]
      exact ⟨hS5, hT5, h2, h3, hL1, hL, by omega, Or.inr ⟨by omega, hTL⟩, hsum⟩)
    refine hK _ _ ⟨fun _ => fin, fun _ => ⟨fun _ => fin, fun q => ?_⟩⟩
    rw [h2, show (999 : Int32) = ii 999 from rfl, ii_le (by omega) (by omega) (by omega) (by omega)] at q
    omega
  | succ m ih =>
    intro c M5 hc ho hS5 hT5 h2 h3 hlo hsum
    have hcL : c * L ≤ 999 * 4000 := Nat.mul_le_mul (by omega) hL
    have hcL1 : (c + 1) * L = c * L + L := Nat.succ_mul c L
    refine hK _ _ ⟨fun q => ?_, fun q => ?_⟩
    · rw [hT5.1, ii_le (by omega) (by omega) (by omega) (by omega)] at q
      refine k M5 ho ?_
      rw [nParts_eq (by omega) hlo (by omega)]
      refine ⟨hS5, hT5, h2, h3, hL1, hL, by omega, ?_, hsum⟩
      rcases hlo with h | h
      · left
        subst h
        exact ⟨rfl, List.eq_nil_of_length_eq_zero (by omega)⟩
      · exact Or.inr ⟨h, by omega⟩
    · rw [hT5.1, ii_le (by omega) (by omega) (by omega) (by omega)] at q
      rw [h2, show (999 : Int32) = ii 999 from rfl, ii_le (by omega) (by omega) (by omega) (by omega)]
      refine ⟨fun q2 => by omega, fun _ => ?_⟩
      rintro M6 rfl
      have n6 : (zI M5 a 2 (ii (c : Int) + 1)).1 a 2 = ii ((c + 1 : Nat) : Int) := by
        rw [zI_g, if_pos ⟨rfl, rfl⟩, show (1 : Int32) = ii 1 from rfl, ii_add]
        rfl
      have o6 : Only [a] M5 (zI M5 a 2 (ii (c : Int) + 1)) := Only.rf.zI (by simp <;> omega)
      generalize hM6 : zI M5 a 2 (ii (c : Int) + 1) = M6 at n6 o6
      have f3 : M6.1 a 3 = ii L := by rw [← hM6, zI_g, if_neg (by simp <;> omega)]; exact h3
      have hT6 := hT5.only o6 (by simp <;> omega) (by simp <;> omega)
      have hS6 := hS5.only o6 (by simp <;> omega) (by simp <;> omega)
      unfold Wp_Ma_pieceEnd
      have e6 : (if M6.1 (a + 3) 1 < M6.1 a 2 * M6.1 a 3 then M6.1 (a + 3) 1 else M6.1 a 2 * M6.1 a 3) = ii ((min ((c + 1) * L) T.length : Nat) : Int) := by
        rw [n6, f3, hT6.1, ii_mul, show (((c + 1 : Nat) : Int) * L) = (((c + 1) * L : Nat) : Int) by rw [Int.natCast_mul]]
        have hlt := ii_lt (a := (T.length : Int)) (b := (((c + 1) * L : Nat) : Int)) (by omega) (by omega) (by omega) (by omega)
        by_cases c' : (T.length : Int) < (((c + 1) * L : Nat) : Int)
        · rw [if_pos (hlt.mpr c')]
          congr 1
          omega
        · rw [if_neg (fun q => c' (hlt.mp q))]
          congr 1
          omega
      rw [e6]
      refine s_sum hT6 (by omega) (by omega) ?_
      rw [n6, show (1 : Int32) = ii 1 from rfl, ii_sub, show (((c + 1 : Nat) : Int) - 1) = ((c : Nat) : Int) by omega]
      refine ⟨ii_in (by omega) (by omega) (by omega), ?_⟩
      rintro M7 rfl x rfl
      rw [ii_add, show (((c * L : Nat) : Int) + L) = (((c + 1) * L : Nat) : Int) by omega, ii_nat (by omega) (by omega), Int.toNat_natCast]
      have o7 : Only [a + 5] M6 (zI M6 (a + 5) c (crc (cut T (c * L) (min ((c + 1) * L) T.length)))) := Only.rf.zI (by simp <;> omega)
      refine ih (c + 1) _ (by omega) ((ho.trans (o6.mono (by simp <;> omega))).trans (o7.mono (by simp <;> omega))) (hS6.only o7 (by simp <;> omega) (by simp <;> omega)) (hT6.only o7 (by simp <;> omega) (by simp <;> omega)) (by rw [o7.1 a (by simp <;> omega)]; exact n6) (by rw [o7.1 a (by simp <;> omega)]; exact f3) (Or.inr (by rw [Nat.add_sub_cancel]; omega)) (fun i hi => ?_)
      rw [zI_g]
      by_cases e : i = c
      · subst e
        rw [if_pos ⟨rfl, rfl⟩]
        unfold piece
        rw [Nat.add_sub_cancel]
      · rw [if_neg (fun q => e q.2), o6.1 (a + 5) (by simp <;> omega)]
        exact hsum i (by omega)
