/-! The constructor of MailChain. -/
def mcM (M : zM) : zM := flM 396 (-1) 1000 (zI (zR (trM 257 41 (zR (trM 130 41 (trM 3 41 M)) 0 2 130)) 0 3 257) 386 3 40)
theorem f_Mc {M : zM} {F : zFl} {post : Nat → zM → zFl → Prop} (hf : ∀ k, Fs M F k) (k : post 413 (mcM M) (clr 0 413 F)) : Wf_Mc_init 0 1 M F post := by
  have t0 : tg 0 = 0 := by decide +kernel
  have b0 : Bt 0 1 F M F [] := Bt.start (fun k _ => hf k)
  unfold Wf_Mc_init
  refine ⟨by omega, rfl, by decide +kernel, b0.fr, by omega, by omega, by omega, rfl, by decide, by omega, by omega, ?_⟩
  refine f_Ro (a := 1) (by decide +kernel) (by decide +kernel) (by decide +kernel) (by decide) (by decide) (b0.fs (by omega)) (b0.fs (by omega)) ?_
  have b1 := (b0.sub (N' := 3) (M' := M) (by omega) (fun _ _ _ => ⟨rfl, rfl⟩)).set 0
  refine ⟨by omega, t0, rfl, ?_⟩
  rintro F1 e1
  subst e1
  refine ⟨by omega, rfl, by decide +kernel, b1.fr, by omega, by omega, by omega, rfl, by decide, by omega, by omega, ?_⟩
  refine f_Tr (a := 3) (by unfold isT; omega) (fun k h1 h2 => b1.fs (by omega)) ?_
  have b2 := (b1.sub (N' := 130) (M' := trM 3 41 M) (by omega) (fun _ _ _ => ⟨rfl, rfl⟩)).set 1
  refine ⟨by omega, t0, rfl, ?_⟩
  rintro F1 e1
  subst e1
  refine ⟨by omega, rfl, by decide +kernel, b2.fr, by omega, by omega, by omega, rfl, by decide, by omega, by omega, ?_⟩
  refine f_Tr (a := 130) (by unfold isT; omega) (fun k h1 h2 => b2.fs (by omega)) ?_
  have b3 := ((b2.sub (N' := 257) (M' := trM 130 41 (trM 3 41 M)) (by omega) (fun _ _ _ => ⟨rfl, rfl⟩)).mem (M' := zR (trM 130 41 (trM 3 41 M)) 0 2 130) (fun _ _ _ => ⟨rfl, rfl⟩)).set 2
  refine ⟨by omega, t0, ?_⟩
  rintro M1 e0 F1 e1
  subst e0 e1
  refine ⟨by omega, rfl, by decide +kernel, b3.fr, by omega, by omega, by omega, rfl, by decide, by omega, by omega, ?_⟩
  refine f_Tr (a := 257) (by unfold isT; omega) (fun k h1 h2 => b3.fs (by omega)) ?_
  have b4 := ((b3.sub (N' := 384) (M' := trM 257 41 (zR (trM 130 41 (trM 3 41 M)) 0 2 130)) (by omega) (fun _ _ _ => ⟨rfl, rfl⟩)).mem (M' := zR (trM 257 41 (zR (trM 130 41 (trM 3 41 M)) 0 2 130)) 0 3 257) (fun _ _ _ => ⟨rfl, rfl⟩)).set 3
  refine ⟨by omega, t0, ?_⟩
  rintro M1 e0 F1 e1
  subst e0 e1
  refine ⟨by omega, rfl, by decide +kernel, b4.fr, by omega, by omega, by omega, rfl, by decide, by omega, by omega, ?_⟩
  refine f_Ro (a := 384) (by decide +kernel) (by decide +kernel) (by decide +kernel) (by decide) (by decide) (b4.fs (by omega)) (b4.fs (by omega)) ?_
  have b5 := (b4.sub (N' := 386) (M' := zR (trM 257 41 (zR (trM 130 41 (trM 3 41 M)) 0 2 130)) 0 3 257) (by omega) (fun _ _ _ => ⟨rfl, rfl⟩)).set 4
  refine ⟨by omega, t0, rfl, ?_⟩
  rintro F1 e1
  subst e1
  refine ⟨by omega, t0, ?_⟩
  rintro M1 e1
  rw [zI_same (show (zR (trM 257 41 (zR (trM 130 41 (trM 3 41 M)) 0 2 130)) 0 3 257).1 0 5 = 0 from (hf 0).1 5)] at e1
  subst e1
  refine ⟨by omega, rfl, by decide +kernel, b5.fr, by omega, by omega, by omega, rfl, by decide, by omega, by omega, ?_⟩
  refine f_Ma (fun k h1 => b5.fs (by omega)) ?_
  have b6 := (b5.sub (N' := 392) (M' := zI (zR (trM 257 41 (zR (trM 130 41 (trM 3 41 M)) 0 2 130)) 0 3 257) 386 3 40) (by omega) (fun k j hk => ⟨by rw [zI_o (by omega)], rfl⟩)).set 6
  refine ⟨by omega, t0, rfl, ?_⟩
  rintro F1 e1
  subst e1
  refine ⟨by omega, rfl, by decide +kernel, b6.fr, by omega, by omega, by omega, rfl, by decide, by omega, by omega, ?_⟩
  refine f_Bo (fun k h1 => b6.fs (by omega)) ?_
  have b7 := (b6.sub (N' := 398) (M' := flM 396 (-1) 1000 (zI (zR (trM 257 41 (zR (trM 130 41 (trM 3 41 M)) 0 2 130)) 0 3 257) 386 3 40)) (by omega) (fun k j hk => ⟨if_neg (by omega), rfl⟩)).set 7
  refine ⟨by omega, t0, rfl, ?_⟩
  rintro F1 e1
  subst e1
  refine ⟨by omega, rfl, by decide +kernel, b7.fr, by omega, by omega, by omega, rfl, by decide, by omega, by omega, ?_⟩
  refine f_Sq (fun k h1 => b7.fs (by omega)) ?_
  have b8 := (b7.sub (N' := 402) (M' := flM 396 (-1) 1000 (zI (zR (trM 257 41 (zR (trM 130 41 (trM 3 41 M)) 0 2 130)) 0 3 257) 386 3 40)) (by omega) (fun _ _ _ => ⟨rfl, rfl⟩)).set 8
  refine ⟨by omega, t0, rfl, ?_⟩
  rintro F1 e1
  subst e1
  refine ⟨by omega, rfl, by decide +kernel, b8.fr, by omega, by omega, by omega, rfl, by decide, by omega, by omega, ?_⟩
  refine f_Ex (fun k h1 => b8.fs (by omega)) ?_
  have b9 := (b8.sub (N' := 405) (M' := flM 396 (-1) 1000 (zI (zR (trM 257 41 (zR (trM 130 41 (trM 3 41 M)) 0 2 130)) 0 3 257) 386 3 40)) (by omega) (fun _ _ _ => ⟨rfl, rfl⟩)).set 9
  refine ⟨by omega, t0, rfl, ?_⟩
  rintro F1 e1
  subst e1
  refine ⟨by omega, rfl, by decide +kernel, b9.fr, by omega, by omega, by omega, rfl, by decide, by omega, by omega, ?_⟩
  refine f_Ro (a := 405) (by decide +kernel) (by decide +kernel) (by decide +kernel) (by decide) (by decide) (b9.fs (by omega)) (b9.fs (by omega)) ?_
  have b10 := (b9.sub (N' := 407) (M' := flM 396 (-1) 1000 (zI (zR (trM 257 41 (zR (trM 130 41 (trM 3 41 M)) 0 2 130)) 0 3 257) 386 3 40)) (by omega) (fun _ _ _ => ⟨rfl, rfl⟩)).set 10
  refine ⟨by omega, t0, rfl, ?_⟩
  rintro F1 e1
  subst e1
  refine ⟨by omega, rfl, by decide +kernel, b10.fr, by omega, by omega, by omega, rfl, by decide, by omega, by omega, ?_⟩
  refine f_Ro (a := 407) (by decide +kernel) (by decide +kernel) (by decide +kernel) (by decide) (by decide) (b10.fs (by omega)) (b10.fs (by omega)) ?_
  have b11 := (b10.sub (N' := 409) (M' := flM 396 (-1) 1000 (zI (zR (trM 257 41 (zR (trM 130 41 (trM 3 41 M)) 0 2 130)) 0 3 257) 386 3 40)) (by omega) (fun _ _ _ => ⟨rfl, rfl⟩)).set 11
  refine ⟨by omega, t0, rfl, ?_⟩
  rintro F1 e1
  subst e1
  refine ⟨by omega, rfl, by decide +kernel, b11.fr, by omega, by omega, by omega, rfl, by decide, by omega, by omega, ?_⟩
  refine f_Ro (a := 409) (by decide +kernel) (by decide +kernel) (by decide +kernel) (by decide) (by decide) (b11.fs (by omega)) (b11.fs (by omega)) ?_
  have b12 := (b11.sub (N' := 411) (M' := flM 396 (-1) 1000 (zI (zR (trM 257 41 (zR (trM 130 41 (trM 3 41 M)) 0 2 130)) 0 3 257) 386 3 40)) (by omega) (fun _ _ _ => ⟨rfl, rfl⟩)).set 12
  refine ⟨by omega, t0, rfl, ?_⟩
  rintro F1 e1
  subst e1
  refine ⟨by omega, rfl, by decide +kernel, b12.fr, by omega, by omega, by omega, rfl, by decide, by omega, by omega, ?_⟩
  refine f_Ro (a := 411) (by decide +kernel) (by decide +kernel) (by decide +kernel) (by decide) (by decide) (b12.fs (by omega)) (b12.fs (by omega)) ?_
  have b13 := (b12.sub (N' := 413) (M' := flM 396 (-1) 1000 (zI (zR (trM 257 41 (zR (trM 130 41 (trM 3 41 M)) 0 2 130)) 0 3 257) 386 3 40)) (by omega) (fun _ _ _ => ⟨rfl, rfl⟩)).set 13
  refine ⟨by omega, t0, rfl, ?_⟩
  rintro F1 e1
  subst e1
  have e := b13.fin t0 (by omega) (ft_in (by decide +kernel))
  refine ⟨by omega, rfl, rfl, by omega, ?_⟩
  show post 413 (mcM M) _
  rw [← e] at k
  exact k
