/-! The box is emptied: both sides. -/
theorem s_fill {M : zM} {a : Nat} {v : Int32} {post : zM → Prop} (k : ∀ M', Only [a] M M' → (∀ i, i < ln a → M'.1 a i = v) → post M') : Wp_JArrays_fill a v M post := by
  have hl := ln_small a
  unfold Wp_JArrays_fill
  intro K hK
  rintro x rfl
  rw [ii_ofNat]
  suffices H : ∀ (m i : Nat) (M1 : zM), i + m = ln a → Only [a] M M1 → (∀ j, j < i → M1.1 a j = v) → K (ii (i : Int)) (ii ((ln a : Nat) : Int)) M1 from H (ln a) 0 M (by omega) Only.rf (fun j hj => absurd hj (by omega))
  intro m
  induction m with
  | zero =>
    intro i M1 hi ho hv
    exact hK _ _ _ ⟨fun _ => k M1 ho (fun j hj => hv j (by omega)), fun c => absurd (by rw [ii_le (by omega) (by omega) (by omega) (by omega)]; omega) c⟩
  | succ m ih =>
    intro i M1 hi ho hv
    refine hK _ _ _ ⟨fun c => ?_, fun _ => ⟨ii_in (by omega) (by omega) (by omega), ?_⟩⟩
    · rw [ii_le (by omega) (by omega) (by omega) (by omega)] at c
      omega
    · rintro M2 rfl x rfl
      rw [show (1 : Int32) = ii 1 from rfl, ii_add]
      refine ih (i + 1) _ (by omega) (ho.zI (by simp)) (fun j hj => ?_)
      rw [ii_nat (by omega) (by omega), Int.toNat_natCast, zI_g]
      by_cases e : j = i
      · rw [if_pos ⟨rfl, e⟩]
      · rw [if_neg (fun q => e q.2)]
        exact hv j (by omega)
theorem s_Bo_wipe {M : zM} {a : Nat} {post : zM → Prop} (k : ∀ M', Only [a, a + 1, a + 4] M M' → Rw M' (a + 1) [] → (∀ i, i < ln (a + 4) → M'.1 (a + 4) i = -1) → M'.1 a 4 = 0 → M'.1 a 5 = 0 → M'.1 a 6 = 0 → post M') : Wp_Bo_wipe a M post := by
  unfold Wp_Bo_wipe
  refine s_wipe (fun M1 o1 _ R1 => s_fill (fun M2 o2 hv => ?_))
  rintro M3 rfl M4 rfl M5 rfl
  have oA : Only [a] M2 (zI (zI (zI M2 a 4 0) a 5 0) a 6 0) := ((Only.rf.zI (by simp)).zI (by simp)).zI (by simp)
  refine k _ (((o1.mono (by simp)).trans (o2.mono (by simp))).trans (oA.mono (by simp))) ((R1.only o2 (by simp) (by simp)).only oA (by simp) (by simp <;> omega)) (fun i hi => by rw [oA.1 (a + 4) (by simp)]; exact hv i hi) ?_ ?_ ?_
  · rw [zI_g, if_neg (by simp), zI_g, if_neg (by simp), zI_g, if_pos ⟨rfl, rfl⟩]
  · rw [zI_g, if_neg (by simp), zI_g, if_pos ⟨rfl, rfl⟩]
  · rw [zI_g, if_pos ⟨rfl, rfl⟩]
