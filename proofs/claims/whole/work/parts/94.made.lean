/-! What holds when both are made. -/
def z0 : zM := (fun _ _ => 0, fun _ _ => 0, fun _ _ => 0)
theorem wrM_o {p k j : Nat} {l : List Int32} {M : zM} (h : k ≠ p) : (wrM p l M).1 k j = M.1 k j := if_neg (fun z => h z.1)
theorem wrM_s {p j : Nat} {l : List Int32} {M : zM} (h : j < l.length) : (wrM p l M).1 p j = l.getD j 0 := if_pos ⟨rfl, h⟩
theorem mo1 {M : zM} {k j : Nat} (h : k < 414 ∨ 419 < k) : (moM M).1 k j = M.1 k j := by
  unfold moM wrM
  show (if _ then _ else (if _ then _ else (if _ then _ else (if _ then _ else (if _ then _ else (if _ then _ else M.1 k j)))))) = M.1 k j
  rw [if_neg (by omega), if_neg (by omega), if_neg (by omega), if_neg (by omega), if_neg (by omega), if_neg (by omega)]
theorem mo2 {M : zM} {p : Nat} {l : List Int32} {j : Nat} (h : (p = 414 ∧ l = [84, 82, 65, 73, 76, 69, 82, 33, 33, 33]) ∨ (p = 415 ∧ l = [98, 101, 103, 105, 110, 32, 54, 52, 52, 32, 109, 97, 105, 108, 10]) ∨ (p = 416 ∧ l = [80, 65, 82, 84, 32]) ∨ (p = 417 ∧ l = [79, 70, 32]) ∨ (p = 418 ∧ l = [83, 73, 90, 69, 32]) ∨ (p = 419 ∧ l = [67, 75, 83, 85, 77, 32])) (hj : j < l.length) : (moM M).1 p j = l.getD j 0 := by
  rcases h with ⟨rfl, rfl⟩ | ⟨rfl, rfl⟩ | ⟨rfl, rfl⟩ | ⟨rfl, rfl⟩ | ⟨rfl, rfl⟩ | ⟨rfl, rfl⟩
  · unfold moM
    rw [wrM_o (by decide), wrM_o (by decide), wrM_o (by decide), wrM_o (by decide), wrM_o (by decide), wrM_s hj]
  · unfold moM
    rw [wrM_o (by decide), wrM_o (by decide), wrM_o (by decide), wrM_o (by decide), wrM_s hj]
  · unfold moM
    rw [wrM_o (by decide), wrM_o (by decide), wrM_o (by decide), wrM_s hj]
  · unfold moM
    rw [wrM_o (by decide), wrM_o (by decide), wrM_s hj]
  · unfold moM
    rw [wrM_o (by decide), wrM_s hj]
  · unfold moM
    rw [wrM_s hj]
theorem mc1 {k j : Nat} : (mcM z0).1 k j = if k = 396 ∧ j < 1000 then -1 else if k = 386 ∧ j = 3 then 40 else 0 := by
  show (if k = 396 ∧ j < 1000 then (-1 : Int32) else (zI (zR (trM 257 41 (zR (trM 130 41 (trM 3 41 z0)) 0 2 130)) 0 3 257) 386 3 40).1 k j) = _
  rw [zI_g]
  rfl
theorem mc3 {k j : Nat} : (mcM z0).2.2 k j = if k = 0 ∧ j = 3 then 257 else if k = 258 ∧ j < 41 then 257 + 2 + 3 * j else if k = 0 ∧ j = 2 then 130 else if k = 131 ∧ j < 41 then 130 + 2 + 3 * j else if k = 4 ∧ j < 41 then 3 + 2 + 3 * j else 0 := by
  show (zR (trM 257 41 (zR (trM 130 41 (trM 3 41 z0)) 0 2 130)) 0 3 257).2.2 k j = _
  rw [zR_g]
  show (if k = 0 ∧ j = 3 then 257 else (if k = 257 + 1 ∧ j < 41 then 257 + 2 + 3 * j else (zR (trM 130 41 (trM 3 41 z0)) 0 2 130).2.2 k j)) = _
  rw [zR_g]
  rfl
/-- the memory when both are made -/
def zS : zM := moM (mcM z0)
theorem zS0 {k j : Nat} (h : k < 414 ∨ 419 < k) (h1 : k ≠ 396) (h2 : ¬ (k = 386 ∧ j = 3)) : zS.1 k j = 0 := by
  unfold zS
  rw [mo1 h, mc1, if_neg (fun z => h1 z.1), if_neg h2]
theorem zSR {k : Nat} (h : k < 413) (h1 : k ≠ 396) (h2 : k ≠ 386) : Rw zS k [] := ⟨zS0 (by omega) h1 (by omega), by simp, fun i hi => absurd hi (by simp)⟩
theorem zSC {f k : Nat} (h : k ≠ 413) : Cw zS f k [] := ⟨zS0 (by omega) (by omega) (by omega), by simp, fun i hi => absurd hi (by simp)⟩
theorem zSt {t : Nat} (h : isT t) : TrI zS t [] := by
  have g : ∀ j, j < 41 → zS.2.2 (t + 1) j = t + 2 + 3 * j := fun j hj => by
    show (mcM z0).2.2 (t + 1) j = _
    rw [mc3]
    rcases h with rfl | rfl | rfl
    · rw [if_neg (by omega), if_neg (by omega), if_neg (by omega), if_neg (by omega), if_pos (by omega)]
    · rw [if_neg (by omega), if_neg (by omega), if_neg (by omega), if_pos (by omega)]
    · rw [if_neg (by omega), if_pos (by omega)]
  have ht : t = 3 ∨ t = 130 ∨ t = 257 := h
  refine ⟨⟨fun j hj => ⟨j, hj, g j hj⟩, fun i j hi hj q => by rw [g i hi, g j hj] at q; omega⟩, zS0 (by omega) (by omega) (by omega), zS0 (by omega) (by omega) (by omega), by simp, by decide, [], zSR (by omega) (by omega) (by omega), by simp, fun j hj => absurd hj (by simp)⟩
theorem zSRt {u : Nat} : RtI zS u [] := ⟨zS0 (by omega) (by omega) (by omega), by simp, by decide, 0, zS0 (by omega) (by omega) (by omega), by simp, fun i hi => absurd hi (by simp), fun i j hi => absurd hi (by simp)⟩
theorem zS_IC : IC zS [] [] [] [] [] 40 0 0 [] := by
  refine ⟨zSR (by omega) (by omega) (by omega), zSt (Or.inl rfl), Or.inl (zS0 (by omega) (by omega) (by omega)), ?_, ?_, ?_⟩
  · refine ⟨zSR (by omega) (by omega) (by omega), zSR (by omega) (by omega) (by omega), zS0 (by omega) (by omega) (by omega), ?_, by omega, by omega, by omega, Or.inl ⟨rfl, rfl⟩, fun i hi => absurd hi (by omega)⟩
    show (moM (mcM z0)).1 386 3 = _
    rw [mo1 (by omega), mc1, if_neg (by omega), if_pos ⟨rfl, rfl⟩]
    rfl
  · refine BoI.nil (M := zS) (zSR (by omega) (by omega) (by omega)) (fun i hi => ?_) (zS0 (by omega) (by omega) (by omega)) (zS0 (by omega) (by omega) (by omega))
    show (moM (mcM z0)).1 396 i = _
    rw [mo1 (by omega), mc1, if_pos ⟨rfl, hi⟩]
  · refine ⟨130, 257, [], ?_, ?_, Or.inl ⟨rfl, rfl⟩, zSt (Or.inr (Or.inl rfl)), zSt (Or.inr (Or.inr rfl))⟩
    · show (mcM z0).2.2 0 2 = 130
      rw [mc3]
      rfl
    · show (mcM z0).2.2 0 3 = 257
      rw [mc3]
      rfl
theorem zS_IM : IM zS [] [] [] [] [] 40 0 0 [] 0 := by
  refine ⟨zSC (by omega), ⟨zSRt, zS0 (by omega) (by omega) (by omega), fun i hi => absurd hi (by simp)⟩, zSRt, ?_, ?_, ?_⟩
  · exact ⟨zSC (by omega), zSC (by omega), zS0 (by omega) (by omega) (by omega), fun q => absurd q (by omega), by omega, Or.inl ⟨rfl, rfl⟩⟩
  · refine ⟨zS0 (by omega) (by omega) (by omega), fun q => absurd rfl q, rfl, fun k hk => zS0 (by omega) (by omega) (by omega), fun _ => ⟨zSC (by omega), fun k p hp => ?_⟩⟩
    cases hp
  · refine ⟨⟨⟨by decide +kernel, fun i hi => ?_⟩, ⟨by decide +kernel, fun i hi => ?_⟩, ⟨by decide +kernel, fun i hi => ?_⟩, ⟨by decide +kernel, fun i hi => ?_⟩⟩, fun i hi => ?_, ⟨by decide +kernel, fun i hi => ?_⟩⟩
    · refine (mo2 (p := 416) (Or.inr (Or.inr (Or.inl ⟨rfl, rfl⟩))) hi).trans ?_
      exact (show ∀ (i : Nat) (h : i < (txt 0).length), ([80, 65, 82, 84, 32] : List Int32).getD i 0 = sb (txt 0)[i] by decide +kernel) i hi
    · refine (mo2 (p := 417) (Or.inr (Or.inr (Or.inr (Or.inl ⟨rfl, rfl⟩)))) hi).trans ?_
      exact (show ∀ (i : Nat) (h : i < ((txt 1).drop 1).length), ([79, 70, 32] : List Int32).getD i 0 = sb ((txt 1).drop 1)[i] by decide +kernel) i hi
    · refine (mo2 (p := 418) (Or.inr (Or.inr (Or.inr (Or.inr (Or.inl ⟨rfl, rfl⟩))))) hi).trans ?_
      exact (show ∀ (i : Nat) (h : i < ((txt 2).drop 1).length), ([83, 73, 90, 69, 32] : List Int32).getD i 0 = sb ((txt 2).drop 1)[i] by decide +kernel) i hi
    · refine (mo2 (p := 419) (Or.inr (Or.inr (Or.inr (Or.inr (Or.inr ⟨rfl, rfl⟩))))) hi).trans ?_
      exact (show ∀ (i : Nat) (h : i < ((txt 3).drop 1).length), ([67, 75, 83, 85, 77, 32] : List Int32).getD i 0 = sb ((txt 3).drop 1)[i] by decide +kernel) i hi
    · refine (mo2 (p := 415) (Or.inr (Or.inl ⟨rfl, rfl⟩)) hi).trans ?_
      exact (show ∀ (i : Nat) (h : i < 15), ([98, 101, 103, 105, 110, 32, 54, 52, 52, 32, 109, 97, 105, 108, 10] : List Int32).getD i 0 = sb ((txt 4).getD i 0) by decide +kernel) i hi
    · refine (mo2 (p := 414) (Or.inl ⟨rfl, rfl⟩) hi).trans ?_
      exact (show ∀ (i : Nat) (h : i < trName.length), ([84, 82, 65, 73, 76, 69, 82, 33, 33, 33] : List Int32).getD i 0 = sb trName[i] by decide +kernel) i hi
theorem zS_IV : IV zS 0 := ⟨[], [], [], [], [], 40, 0, 0, [], TOk.nil, TOk.nil, BxOk.nil 0 (by omega), zS_IC, 0, Nat.le_refl _, zS_IM⟩
theorem s_start {L : Nat} {xs : Nat → Int32} (hL : L ≤ 3584) : Wf_La_law L xs z0 yR := by
  have f0 : ∀ k, Fs z0 yR k := fun k => ⟨fun _ => rfl, fun _ => rfl, fun _ => rfl⟩
  have f1 : ∀ k, 413 ≤ k → Fs (mcM z0) (clr 0 413 yR) k := fun k hk => ⟨fun j => by rw [mc1, if_neg (by omega), if_neg (by omega)], fun _ => rfl, fun j => if_neg (by omega)⟩
  refine ⟨(f0 0).fr, f_Mc f0 ⟨rfl, (f1 413 (by omega)).fr, f_Mo f1 ⟨rfl, ⟨fun j => zS0 (by omega) (by omega) (by omega), fun _ => rfl, fun j q => ?_⟩, fun k hk j => ?_, s_La_law hL zS_IV⟩⟩⟩
  · exact absurd q (by rw [yR_arr (k := 451) (t := 23) (by decide +kernel) (by omega) (by omega)]; decide)
  · unfold N0 at hk
    show (if 413 ≤ k ∧ k < 451 then false else if 0 ≤ k ∧ k < 413 then false else yR k j) = false
    by_cases c1 : 413 ≤ k ∧ k < 451
    · rw [if_pos c1]
    · rw [if_neg c1]
      by_cases c2 : 0 ≤ k ∧ k < 413
      · rw [if_pos c2]
      · rw [if_neg c2]
        have e : k = 451 := by omega
        rw [e, yR_arr (t := 23) (by decide +kernel) (by omega) (by omega)]
