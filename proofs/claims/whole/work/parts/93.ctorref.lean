/-! The constructor of the reference. -/
def wrM (p : Nat) (l : List Int32) (M : zM) : zM := (fun k j => if k = p ∧ j < l.length then l.getD j 0 else M.1 k j, M.2.1, M.2.2)
theorem wr_step {p : Nat} {l : List Int32} {M : zM} {c v x : Int32} (hc : c.toNatClampNeg = l.length) (hv : vp_nar .byte v = x) : zI (wrM p l M) p c.toNatClampNeg (vp_nar .byte v) = wrM p (l ++ [x]) M := by
  rw [hc, hv]
  refine Prod.ext ?_ rfl
  funext k j
  rw [zI_g]
  show (if k = p ∧ j = l.length then x else (if k = p ∧ j < l.length then l.getD j 0 else M.1 k j)) = (if k = p ∧ j < (l ++ [x]).length then (l ++ [x]).getD j 0 else M.1 k j)
  rw [List.length_append, List.length_singleton]
  by_cases c1 : k = p ∧ j = l.length
  · rw [if_pos c1, if_pos (by omega), c1.2]
    simp
  · rw [if_neg c1]
    by_cases c2 : k = p ∧ j < l.length
    · rw [if_pos c2, if_pos (by omega)]
      simp [List.getElem?_append_left c2.2]
    · rw [if_neg c2, if_neg (by omega)]
theorem wr_first {p : Nat} {M : zM} {v x : Int32} (hv : vp_nar .byte v = x) : zI M p ((0 : Int32)).toNatClampNeg (vp_nar .byte v) = wrM p [x] M := by
  have e : M = wrM p [] M := by
    refine Prod.ext ?_ rfl
    funext k j
    show M.1 k j = if k = p ∧ j < 0 then _ else _
    rw [if_neg (by omega)]
  have q := wr_step (p := p) (l := []) (M := M) (c := 0) (v := v) (x := x) (by decide) hv
  rw [← e] at q
  exact q
theorem Bt.wr {a N p : Nat} {l : List Int32} {F0 F : zFl} {M : zM} {ds : List Nat} (h : Bt a N F0 M F ds) (hx : p < N) : Bt a N F0 (wrM p l M) F ds := h.mem (fun k j hk => ⟨if_neg (by omega), rfl⟩)
def moM (M : zM) : zM := wrM 419 [67, 75, 83, 85, 77, 32] (wrM 418 [83, 73, 90, 69, 32] (wrM 417 [79, 70, 32] (wrM 416 [80, 65, 82, 84, 32] (wrM 415 [98, 101, 103, 105, 110, 32, 54, 52, 52, 32, 109, 97, 105, 108, 10] (wrM 414 [84, 82, 65, 73, 76, 69, 82, 33, 33, 33] M)))))
set_option maxRecDepth 4000 in
theorem f_Mo {M : zM} {F : zFl} {post : Nat → zM → zFl → Prop} (hf : ∀ k, 413 ≤ k → Fs M F k) (k : post 451 (moM M) (clr 413 451 F)) : Wf_Mo_init 413 414 M F post := by
  have t0 : tg 413 = 9 := by decide +kernel
  have b0 : Bt 413 414 F M F [] := Bt.start hf
  unfold Wf_Mo_init
  have l414 : ln 414 = 10 := by decide +kernel
  have t414 : tg 414 = 20 := by decide +kernel
  refine ⟨by omega, rfl, t414, l414, b0.fr, by omega, by omega, ?_⟩
  refine ⟨by omega, t414, by unfold vp_in; rw [show ln (414) = 10 from l414]; decide, ?_⟩
  rintro M1 e1
  rw [wr_first (x := 84) (by decide)] at e1
  subst e1
  refine ⟨by omega, t414, by unfold vp_in; rw [show ln (414) = 10 from l414]; decide, ?_⟩
  rintro M1 e1
  rw [wr_step (x := 82) (by decide) (by decide)] at e1
  subst e1
  refine ⟨by omega, t414, by unfold vp_in; rw [show ln (414) = 10 from l414]; decide, ?_⟩
  rintro M1 e1
  rw [wr_step (x := 65) (by decide) (by decide)] at e1
  subst e1
  refine ⟨by omega, t414, by unfold vp_in; rw [show ln (414) = 10 from l414]; decide, ?_⟩
  rintro M1 e1
  rw [wr_step (x := 73) (by decide) (by decide)] at e1
  subst e1
  refine ⟨by omega, t414, by unfold vp_in; rw [show ln (414) = 10 from l414]; decide, ?_⟩
  rintro M1 e1
  rw [wr_step (x := 76) (by decide) (by decide)] at e1
  subst e1
  refine ⟨by omega, t414, by unfold vp_in; rw [show ln (414) = 10 from l414]; decide, ?_⟩
  rintro M1 e1
  rw [wr_step (x := 69) (by decide) (by decide)] at e1
  subst e1
  refine ⟨by omega, t414, by unfold vp_in; rw [show ln (414) = 10 from l414]; decide, ?_⟩
  rintro M1 e1
  rw [wr_step (x := 82) (by decide) (by decide)] at e1
  subst e1
  refine ⟨by omega, t414, by unfold vp_in; rw [show ln (414) = 10 from l414]; decide, ?_⟩
  rintro M1 e1
  rw [wr_step (x := 33) (by decide) (by decide)] at e1
  subst e1
  refine ⟨by omega, t414, by unfold vp_in; rw [show ln (414) = 10 from l414]; decide, ?_⟩
  rintro M1 e1
  rw [wr_step (x := 33) (by decide) (by decide)] at e1
  subst e1
  refine ⟨by omega, t414, by unfold vp_in; rw [show ln (414) = 10 from l414]; decide, ?_⟩
  rintro M1 e1
  rw [wr_step (x := 33) (by decide) (by decide)] at e1
  subst e1
  have b1 := ((b0.arr (t := 20) t414 (by omega) (by omega)).wr (p := 414) (l := [84, 82, 65, 73, 76, 69, 82, 33, 33, 33]) (by omega)).set 0
  refine ⟨by omega, t0, rfl, ?_⟩
  rintro F1 e1
  subst e1
  have l415 : ln 415 = 15 := by decide +kernel
  have t415 : tg 415 = 20 := by decide +kernel
  refine ⟨by omega, rfl, t415, l415, b1.fr, by omega, by omega, ?_⟩
  refine ⟨by omega, t415, by unfold vp_in; rw [show ln (414 + 1) = 15 from l415]; decide, ?_⟩
  rintro M1 e1
  rw [wr_first (x := 98) (by decide)] at e1
  subst e1
  refine ⟨by omega, t415, by unfold vp_in; rw [show ln (414 + 1) = 15 from l415]; decide, ?_⟩
  rintro M1 e1
  rw [wr_step (x := 101) (by decide) (by decide)] at e1
  subst e1
  refine ⟨by omega, t415, by unfold vp_in; rw [show ln (414 + 1) = 15 from l415]; decide, ?_⟩
  rintro M1 e1
  rw [wr_step (x := 103) (by decide) (by decide)] at e1
  subst e1
  refine ⟨by omega, t415, by unfold vp_in; rw [show ln (414 + 1) = 15 from l415]; decide, ?_⟩
  rintro M1 e1
  rw [wr_step (x := 105) (by decide) (by decide)] at e1
  subst e1
  refine ⟨by omega, t415, by unfold vp_in; rw [show ln (414 + 1) = 15 from l415]; decide, ?_⟩
  rintro M1 e1
  rw [wr_step (x := 110) (by decide) (by decide)] at e1
  subst e1
  refine ⟨by omega, t415, by unfold vp_in; rw [show ln (414 + 1) = 15 from l415]; decide, ?_⟩
  rintro M1 e1
  rw [wr_step (x := 32) (by decide) (by decide)] at e1
  subst e1
  refine ⟨by omega, t415, by unfold vp_in; rw [show ln (414 + 1) = 15 from l415]; decide, ?_⟩
  rintro M1 e1
  rw [wr_step (x := 54) (by decide) (by decide)] at e1
  subst e1
  refine ⟨by omega, t415, by unfold vp_in; rw [show ln (414 + 1) = 15 from l415]; decide, ?_⟩
  rintro M1 e1
  rw [wr_step (x := 52) (by decide) (by decide)] at e1
  subst e1
  refine ⟨by omega, t415, by unfold vp_in; rw [show ln (414 + 1) = 15 from l415]; decide, ?_⟩
  rintro M1 e1
  rw [wr_step (x := 52) (by decide) (by decide)] at e1
  subst e1
  refine ⟨by omega, t415, by unfold vp_in; rw [show ln (414 + 1) = 15 from l415]; decide, ?_⟩
  rintro M1 e1
  rw [wr_step (x := 32) (by decide) (by decide)] at e1
  subst e1
  refine ⟨by omega, t415, by unfold vp_in; rw [show ln (414 + 1) = 15 from l415]; decide, ?_⟩
  rintro M1 e1
  rw [wr_step (x := 109) (by decide) (by decide)] at e1
  subst e1
  refine ⟨by omega, t415, by unfold vp_in; rw [show ln (414 + 1) = 15 from l415]; decide, ?_⟩
  rintro M1 e1
  rw [wr_step (x := 97) (by decide) (by decide)] at e1
  subst e1
  refine ⟨by omega, t415, by unfold vp_in; rw [show ln (414 + 1) = 15 from l415]; decide, ?_⟩
  rintro M1 e1
  rw [wr_step (x := 105) (by decide) (by decide)] at e1
  subst e1
  refine ⟨by omega, t415, by unfold vp_in; rw [show ln (414 + 1) = 15 from l415]; decide, ?_⟩
  rintro M1 e1
  rw [wr_step (x := 108) (by decide) (by decide)] at e1
  subst e1
  refine ⟨by omega, t415, by unfold vp_in; rw [show ln (414 + 1) = 15 from l415]; decide, ?_⟩
  rintro M1 e1
  rw [wr_step (x := 10) (by decide) (by decide)] at e1
  subst e1
  have b2 := ((b1.arr (t := 20) t415 (by omega) (by omega)).wr (p := 415) (l := [98, 101, 103, 105, 110, 32, 54, 52, 52, 32, 109, 97, 105, 108, 10]) (by omega)).set 1
  refine ⟨by omega, t0, rfl, ?_⟩
  rintro F1 e1
  subst e1
  have l416 : ln 416 = 5 := by decide +kernel
  have t416 : tg 416 = 20 := by decide +kernel
  refine ⟨by omega, rfl, t416, l416, b2.fr, by omega, by omega, ?_⟩
  refine ⟨by omega, t416, by unfold vp_in; rw [show ln (414 + 2) = 5 from l416]; decide, ?_⟩
  rintro M1 e1
  rw [wr_first (x := 80) (by decide)] at e1
  subst e1
  refine ⟨by omega, t416, by unfold vp_in; rw [show ln (414 + 2) = 5 from l416]; decide, ?_⟩
  rintro M1 e1
  rw [wr_step (x := 65) (by decide) (by decide)] at e1
  subst e1
  refine ⟨by omega, t416, by unfold vp_in; rw [show ln (414 + 2) = 5 from l416]; decide, ?_⟩
  rintro M1 e1
  rw [wr_step (x := 82) (by decide) (by decide)] at e1
  subst e1
  refine ⟨by omega, t416, by unfold vp_in; rw [show ln (414 + 2) = 5 from l416]; decide, ?_⟩
  rintro M1 e1
  rw [wr_step (x := 84) (by decide) (by decide)] at e1
  subst e1
  refine ⟨by omega, t416, by unfold vp_in; rw [show ln (414 + 2) = 5 from l416]; decide, ?_⟩
  rintro M1 e1
  rw [wr_step (x := 32) (by decide) (by decide)] at e1
  subst e1
  have b3 := ((b2.arr (t := 20) t416 (by omega) (by omega)).wr (p := 416) (l := [80, 65, 82, 84, 32]) (by omega)).set 2
  refine ⟨by omega, t0, rfl, ?_⟩
  rintro F1 e1
  subst e1
  have l417 : ln 417 = 3 := by decide +kernel
  have t417 : tg 417 = 20 := by decide +kernel
  refine ⟨by omega, rfl, t417, l417, b3.fr, by omega, by omega, ?_⟩
  refine ⟨by omega, t417, by unfold vp_in; rw [show ln (414 + 3) = 3 from l417]; decide, ?_⟩
  rintro M1 e1
  rw [wr_first (x := 79) (by decide)] at e1
  subst e1
  refine ⟨by omega, t417, by unfold vp_in; rw [show ln (414 + 3) = 3 from l417]; decide, ?_⟩
  rintro M1 e1
  rw [wr_step (x := 70) (by decide) (by decide)] at e1
  subst e1
  refine ⟨by omega, t417, by unfold vp_in; rw [show ln (414 + 3) = 3 from l417]; decide, ?_⟩
  rintro M1 e1
  rw [wr_step (x := 32) (by decide) (by decide)] at e1
  subst e1
  have b4 := ((b3.arr (t := 20) t417 (by omega) (by omega)).wr (p := 417) (l := [79, 70, 32]) (by omega)).set 3
  refine ⟨by omega, t0, rfl, ?_⟩
  rintro F1 e1
  subst e1
  have l418 : ln 418 = 5 := by decide +kernel
  have t418 : tg 418 = 20 := by decide +kernel
  refine ⟨by omega, rfl, t418, l418, b4.fr, by omega, by omega, ?_⟩
  refine ⟨by omega, t418, by unfold vp_in; rw [show ln (414 + 4) = 5 from l418]; decide, ?_⟩
  rintro M1 e1
  rw [wr_first (x := 83) (by decide)] at e1
  subst e1
  refine ⟨by omega, t418, by unfold vp_in; rw [show ln (414 + 4) = 5 from l418]; decide, ?_⟩
  rintro M1 e1
  rw [wr_step (x := 73) (by decide) (by decide)] at e1
  subst e1
  refine ⟨by omega, t418, by unfold vp_in; rw [show ln (414 + 4) = 5 from l418]; decide, ?_⟩
  rintro M1 e1
  rw [wr_step (x := 90) (by decide) (by decide)] at e1
  subst e1
  refine ⟨by omega, t418, by unfold vp_in; rw [show ln (414 + 4) = 5 from l418]; decide, ?_⟩
  rintro M1 e1
  rw [wr_step (x := 69) (by decide) (by decide)] at e1
  subst e1
  refine ⟨by omega, t418, by unfold vp_in; rw [show ln (414 + 4) = 5 from l418]; decide, ?_⟩
  rintro M1 e1
  rw [wr_step (x := 32) (by decide) (by decide)] at e1
  subst e1
  have b5 := ((b4.arr (t := 20) t418 (by omega) (by omega)).wr (p := 418) (l := [83, 73, 90, 69, 32]) (by omega)).set 4
  refine ⟨by omega, t0, rfl, ?_⟩
  rintro F1 e1
  subst e1
  have l419 : ln 419 = 6 := by decide +kernel
  have t419 : tg 419 = 20 := by decide +kernel
  refine ⟨by omega, rfl, t419, l419, b5.fr, by omega, by omega, ?_⟩
  refine ⟨by omega, t419, by unfold vp_in; rw [show ln (414 + 5) = 6 from l419]; decide, ?_⟩
  rintro M1 e1
  rw [wr_first (x := 67) (by decide)] at e1
  subst e1
  refine ⟨by omega, t419, by unfold vp_in; rw [show ln (414 + 5) = 6 from l419]; decide, ?_⟩
  rintro M1 e1
  rw [wr_step (x := 75) (by decide) (by decide)] at e1
  subst e1
  refine ⟨by omega, t419, by unfold vp_in; rw [show ln (414 + 5) = 6 from l419]; decide, ?_⟩
  rintro M1 e1
  rw [wr_step (x := 83) (by decide) (by decide)] at e1
  subst e1
  refine ⟨by omega, t419, by unfold vp_in; rw [show ln (414 + 5) = 6 from l419]; decide, ?_⟩
  rintro M1 e1
  rw [wr_step (x := 85) (by decide) (by decide)] at e1
  subst e1
  refine ⟨by omega, t419, by unfold vp_in; rw [show ln (414 + 5) = 6 from l419]; decide, ?_⟩
  rintro M1 e1
  rw [wr_step (x := 77) (by decide) (by decide)] at e1
  subst e1
  refine ⟨by omega, t419, by unfold vp_in; rw [show ln (414 + 5) = 6 from l419]; decide, ?_⟩
  rintro M1 e1
  rw [wr_step (x := 32) (by decide) (by decide)] at e1
  subst e1
  have b6 := ((b5.arr (t := 20) t419 (by omega) (by omega)).wr (p := 419) (l := [67, 75, 83, 85, 77, 32]) (by omega)).set 5
  refine ⟨by omega, t0, rfl, ?_⟩
  rintro F1 e1
  subst e1
  refine ⟨by omega, rfl, by decide +kernel, by decide +kernel, b6.fr, by omega, by omega, by omega, t0, rfl, ?_⟩
  rintro F1 e1
  subst e1
  have b7 := (b6.arr (t := 20) (by decide +kernel) (by omega) (by omega)).set 8
  refine ⟨by omega, rfl, by decide +kernel, by decide +kernel, b7.fr, by omega, by omega, by omega, t0, rfl, ?_⟩
  rintro F1 e1
  subst e1
  have b8 := (b7.arr (t := 21) (by decide +kernel) (by omega) (by omega)).set 9
  refine ⟨by omega, rfl, by decide +kernel, by decide +kernel, b8.fr, by omega, by omega, by omega, t0, rfl, ?_⟩
  rintro F1 e1
  subst e1
  have b9 := (b8.arr (t := 20) (by decide +kernel) (by omega) (by omega)).set 10
  refine ⟨by omega, rfl, by decide +kernel, by decide +kernel, b9.fr, by omega, by omega, by omega, t0, rfl, ?_⟩
  rintro F1 e1
  subst e1
  have b10 := (b9.arr (t := 21) (by decide +kernel) (by omega) (by omega)).set 11
  refine ⟨by omega, rfl, by decide +kernel, by decide +kernel, b10.fr, by omega, by omega, by omega, t0, rfl, ?_⟩
  rintro F1 e1
  subst e1
  have b11 := (b10.arr (t := 21) (by decide +kernel) (by omega) (by omega)).set 12
  refine ⟨by omega, rfl, by decide +kernel, by decide +kernel, b11.fr, by omega, by omega, by omega, t0, rfl, ?_⟩
  rintro F1 e1
  subst e1
  have b12 := (b11.arr (t := 21) (by decide +kernel) (by omega) (by omega)).set 13
  refine ⟨by omega, rfl, by decide +kernel, by decide +kernel, b12.fr, by omega, by omega, by omega, t0, rfl, ?_⟩
  rintro F1 e1
  subst e1
  have b13 := (b12.arr (t := 21) (by decide +kernel) (by omega) (by omega)).set 14
  refine ⟨by omega, rfl, by decide +kernel, by decide +kernel, b13.fr, by omega, by omega, by omega, t0, rfl, ?_⟩
  rintro F1 e1
  subst e1
  have b14 := (b13.arr (t := 21) (by decide +kernel) (by omega) (by omega)).set 15
  refine ⟨by omega, rfl, by decide +kernel, by decide +kernel, b14.fr, by omega, by omega, by omega, t0, rfl, ?_⟩
  rintro F1 e1
  subst e1
  have b15 := (b14.arr (t := 21) (by decide +kernel) (by omega) (by omega)).set 16
  refine ⟨by omega, rfl, by decide +kernel, by decide +kernel, b15.fr, by omega, by omega, by omega, t0, rfl, ?_⟩
  rintro F1 e1
  subst e1
  have b16 := (b15.arr (t := 21) (by decide +kernel) (by omega) (by omega)).set 17
  refine ⟨by omega, rfl, by decide +kernel, by decide +kernel, b16.fr, by omega, by omega, by omega, t0, rfl, ?_⟩
  rintro F1 e1
  subst e1
  have b17 := (b16.arr (t := 21) (by decide +kernel) (by omega) (by omega)).set 18
  refine ⟨by omega, rfl, by decide +kernel, by decide +kernel, b17.fr, by omega, by omega, by omega, t0, rfl, ?_⟩
  rintro F1 e1
  subst e1
  have b18 := (b17.arr (t := 21) (by decide +kernel) (by omega) (by omega)).set 19
  refine ⟨by omega, rfl, by decide +kernel, by decide +kernel, b18.fr, by omega, by omega, by omega, t0, rfl, ?_⟩
  rintro F1 e1
  subst e1
  have b19 := (b18.arr (t := 21) (by decide +kernel) (by omega) (by omega)).set 20
  refine ⟨by omega, rfl, by decide +kernel, by decide +kernel, b19.fr, by omega, by omega, by omega, t0, rfl, ?_⟩
  rintro F1 e1
  subst e1
  have b20 := (b19.arr (t := 20) (by decide +kernel) (by omega) (by omega)).set 21
  refine ⟨by omega, rfl, by decide +kernel, by decide +kernel, b20.fr, by omega, by omega, by omega, t0, rfl, ?_⟩
  rintro F1 e1
  subst e1
  have b21 := (b20.arr (t := 20) (by decide +kernel) (by omega) (by omega)).set 23
  refine ⟨by omega, rfl, by decide +kernel, by decide +kernel, b21.fr, by omega, by omega, by omega, t0, rfl, ?_⟩
  rintro F1 e1
  subst e1
  have b22 := (b21.arr (t := 20) (by decide +kernel) (by omega) (by omega)).set 26
  refine ⟨by omega, rfl, by decide +kernel, by decide +kernel, b22.fr, by omega, by omega, by omega, t0, rfl, ?_⟩
  rintro F1 e1
  subst e1
  have b23 := (b22.arr (t := 20) (by decide +kernel) (by omega) (by omega)).set 28
  refine ⟨by omega, rfl, by decide +kernel, by decide +kernel, b23.fr, by omega, by omega, by omega, t0, rfl, ?_⟩
  rintro F1 e1
  subst e1
  have b24 := (b23.arr (t := 20) (by decide +kernel) (by omega) (by omega)).set 30
  refine ⟨by omega, rfl, by decide +kernel, by decide +kernel, b24.fr, by omega, by omega, by omega, t0, rfl, ?_⟩
  rintro F1 e1
  subst e1
  have b25 := (b24.arr (t := 20) (by decide +kernel) (by omega) (by omega)).set 34
  refine ⟨by omega, rfl, by decide +kernel, by decide +kernel, b25.fr, by omega, by omega, by omega, t0, rfl, ?_⟩
  rintro F1 e1
  subst e1
  have b26 := (b25.arr (t := 20) (by decide +kernel) (by omega) (by omega)).set 36
  refine ⟨by omega, rfl, by decide +kernel, by decide +kernel, b26.fr, by omega, by omega, by omega, t0, rfl, ?_⟩
  rintro F1 e1
  subst e1
  have b27 := (b26.arr (t := 22) (by decide +kernel) (by omega) (by omega)).set 40
  refine ⟨by omega, rfl, by decide +kernel, by decide +kernel, b27.fr, by omega, by omega, by omega, t0, rfl, ?_⟩
  rintro F1 e1
  subst e1
  have b28 := (b27.arr (t := 21) (by decide +kernel) (by omega) (by omega)).set 41
  refine ⟨by omega, rfl, by decide +kernel, by decide +kernel, b28.fr, by omega, by omega, by omega, t0, rfl, ?_⟩
  rintro F1 e1
  subst e1
  have b29 := (b28.arr (t := 21) (by decide +kernel) (by omega) (by omega)).set 42
  refine ⟨by omega, rfl, by decide +kernel, by decide +kernel, b29.fr, by omega, by omega, by omega, t0, rfl, ?_⟩
  rintro F1 e1
  subst e1
  have b30 := (b29.arr (t := 20) (by decide +kernel) (by omega) (by omega)).set 44
  refine ⟨by omega, rfl, by decide +kernel, by decide +kernel, b30.fr, by omega, by omega, by omega, t0, rfl, ?_⟩
  rintro F1 e1
  subst e1
  have b31 := (b30.arr (t := 20) (by decide +kernel) (by omega) (by omega)).set 46
  refine ⟨by omega, rfl, by decide +kernel, by decide +kernel, b31.fr, by omega, by omega, by omega, t0, rfl, ?_⟩
  rintro F1 e1
  subst e1
  have b32 := (b31.arr (t := 20) (by decide +kernel) (by omega) (by omega)).set 48
  refine ⟨by omega, rfl, by decide +kernel, by decide +kernel, b32.fr, by omega, by omega, by omega, t0, rfl, ?_⟩
  rintro F1 e1
  subst e1
  have b33 := (b32.arr (t := 21) (by decide +kernel) (by omega) (by omega)).set 49
  refine ⟨by omega, rfl, by decide +kernel, by decide +kernel, b33.fr, by omega, by omega, by omega, t0, rfl, ?_⟩
  rintro F1 e1
  subst e1
  have b34 := (b33.arr (t := 21) (by decide +kernel) (by omega) (by omega)).set 50
  refine ⟨by omega, rfl, by decide +kernel, by decide +kernel, b34.fr, by omega, by omega, by omega, t0, rfl, ?_⟩
  rintro F1 e1
  subst e1
  have b35 := (b34.arr (t := 21) (by decide +kernel) (by omega) (by omega)).set 51
  refine ⟨by omega, rfl, by decide +kernel, by decide +kernel, b35.fr, by omega, by omega, by omega, t0, rfl, ?_⟩
  rintro F1 e1
  subst e1
  have b36 := (b35.arr (t := 21) (by decide +kernel) (by omega) (by omega)).set 52
  refine ⟨by omega, rfl, by decide +kernel, by decide +kernel, b36.fr, by omega, by omega, by omega, t0, rfl, ?_⟩
  rintro F1 e1
  subst e1
  have b37 := (b36.arr (t := 20) (by decide +kernel) (by omega) (by omega)).set 60
  have e := b37.fin t0 (by omega) (ft_in (by decide +kernel))
  refine ⟨by omega, rfl, rfl, by omega, ?_⟩
  show post 451 (moM M) _
  rw [← e] at k
  exact k
