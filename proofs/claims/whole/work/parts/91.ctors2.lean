/-! The constructors of the mail, the box, the squeezer, the expander. -/
theorem ft_big (t j : Nat) (h : 62 ≤ j) : ft t j = 0 := by
  have g : ∀ l : List Nat, l.length ≤ 62 → l.getD j 0 = 0 := fun l hl => by
    rw [List.getD_eq_getElem?_getD, List.getElem?_eq_none (by omega)]
    rfl
  unfold ft
  split <;> first | exact g _ (by decide) | rfl
theorem ft_in {t : Nat} {ds : List Nat} (h : ∀ j, j < 62 → 2 ≤ ft t j → j ∈ ds) (j : Nat) (hj : 2 ≤ ft t j) : j ∈ ds := by
  by_cases c : j < 62
  · exact h j c hj
  · rw [ft_big t j (by omega)] at hj
    omega
/-- an object under way: its place a, all places up to N made -/
def Bt (a N : Nat) (F0 : zFl) (M : zM) (F : zFl) (ds : List Nat) : Prop := a < N ∧ (∀ k j, k < a ∨ N ≤ k → F k j = F0 k j) ∧ (∀ k j, a < k → k < N → F k j = false) ∧ (∀ k, N ≤ k → Fs M F k) ∧ (∀ j, F a j = if j ∈ ds then false else yR a j)
theorem Bt.start {a : Nat} {F : zFl} {M : zM} (h : ∀ k, a ≤ k → Fs M F k) : Bt a (a + 1) F M F [] := ⟨by omega, fun _ _ _ => rfl, fun k j h1 h2 => by omega, fun k hk => h k (by omega), fun j => by
  rw [if_neg (by simp)]
  exact (h a (Nat.le_refl _)).2.2 j⟩
theorem Bt.sub {a N N' : Nat} {F0 F : zFl} {M M' : zM} {ds : List Nat} (h : Bt a N F0 M F ds) (hN : N ≤ N') (hm : ∀ k j, N' ≤ k → M'.1 k j = M.1 k j ∧ M'.2.1 k j = M.2.1 k j) : Bt a N' F0 M' (clr N N' F) ds := by
  obtain ⟨h0, h1, h2, h3, h4⟩ := h
  have c : ∀ k j, ¬ (N ≤ k ∧ k < N') → clr N N' F k j = F k j := fun k j q => if_neg q
  refine ⟨by omega, fun k j q => by rw [c k j (by omega)]; exact h1 k j (by omega), fun k j q1 q2 => ?_, fun k hk => ⟨fun j => by rw [(hm k j hk).1]; exact (h3 k (by omega)).1 j, fun j => by rw [(hm k j hk).2]; exact (h3 k (by omega)).2.1 j, fun j => by rw [c k j (by omega)]; exact (h3 k (by omega)).2.2 j⟩, fun j => by rw [c a j (by omega)]; exact h4 j⟩
  by_cases q : N ≤ k ∧ k < N'
  · exact if_pos q
  · rw [c k j q]
    exact h2 k j q1 (by omega)
theorem Bt.set {a N : Nat} {F0 F : zFl} {M : zM} {ds : List Nat} (h : Bt a N F0 M F ds) (i : Nat) : Bt a N F0 M (yset F a i) (i :: ds) := by
  obtain ⟨h0, h1, h2, h3, h4⟩ := h
  have c : ∀ k j, k ≠ a → yset F a i k j = F k j := fun k j q => if_neg (fun z => q z.1)
  refine ⟨h0, fun k j q => by rw [c k j (by omega)]; exact h1 k j q, fun k j q1 q2 => by rw [c k j (by omega)]; exact h2 k j q1 q2, fun k hk => (h3 k hk).ys (by omega), fun j => ?_⟩
  unfold yset
  by_cases q : j = i
  · rw [if_pos ⟨rfl, q⟩, if_pos (by rw [q]; exact List.mem_cons_self)]
  · rw [if_neg (fun z => q z.2), h4 j]
    by_cases q2 : j ∈ ds
    · rw [if_pos q2, if_pos (List.mem_cons_of_mem _ q2)]
    · rw [if_neg q2, if_neg (by simp [q, q2])]
theorem Bt.arr {a N t : Nat} {F0 F : zFl} {M : zM} {ds : List Nat} (h : Bt a N F0 M F ds) (ht : tg N = t) (h20 : 20 ≤ t) (h24 : t ≠ 24) : Bt a (N + 1) F0 M F ds := by
  obtain ⟨h0, h1, h2, h3, h4⟩ := h
  refine ⟨by omega, fun k j q => h1 k j (by omega), fun k j q1 q2 => ?_, fun k hk => h3 k (by omega), h4⟩
  by_cases q : k = N
  · rw [q, (h3 N (Nat.le_refl _)).2.2, yR_arr ht h20 h24]
  · exact h2 k j q1 (by omega)
theorem Bt.mem {a N : Nat} {F0 F : zFl} {M M' : zM} {ds : List Nat} (h : Bt a N F0 M F ds) (hm : ∀ k j, N ≤ k → M'.1 k j = M.1 k j ∧ M'.2.1 k j = M.2.1 k j) : Bt a N F0 M' F ds := ⟨h.1, h.2.1, h.2.2.1, fun k hk => ⟨fun j => by rw [(hm k j hk).1]; exact (h.2.2.2.1 k hk).1 j, fun j => by rw [(hm k j hk).2]; exact (h.2.2.2.1 k hk).2.1 j, (h.2.2.2.1 k hk).2.2⟩, h.2.2.2.2⟩
theorem Bt.zI {a N x j : Nat} {v : Int32} {F0 F : zFl} {M : zM} {ds : List Nat} (h : Bt a N F0 M F ds) (hx : x < N) : Bt a N F0 (zI M x j v) F ds := h.mem (fun k i hk => ⟨by rw [zI_o (by omega)], rfl⟩)
theorem Bt.fs {a N : Nat} {F0 F : zFl} {M : zM} {ds : List Nat} (h : Bt a N F0 M F ds) {k : Nat} (hk : N ≤ k) : Fs M F k := h.2.2.2.1 k hk
theorem Bt.fr {a N : Nat} {F0 F : zFl} {M : zM} {ds : List Nat} (h : Bt a N F0 M F ds) : yFr M F N := (h.2.2.2.1 N (Nat.le_refl _)).fr
theorem Bt.fin {a N t : Nat} {F0 F : zFl} {M : zM} {ds : List Nat} (h : Bt a N F0 M F ds) (ta : tg a = t) (ht : t < 20) (hd : ∀ j, 2 ≤ ft t j → j ∈ ds) : F = clr a N F0 := by
  obtain ⟨h0, h1, h2, h3, h4⟩ := h
  refine clr_fin (fun k j => ?_)
  by_cases c : a ≤ k ∧ k < N
  · rw [if_pos c]
    by_cases c1 : k = a
    · rw [c1, h4 j]
      by_cases c2 : j ∈ ds
      · rw [if_pos c2]
      · rw [if_neg c2, yR_obj ta ht]
        exact decide_eq_false (fun q => c2 (hd j q))
    · exact h2 k j (by omega) c.2
  · rw [if_neg c]
    exact h1 k j (by omega)
theorem f_Ma {M : zM} {F : zFl} {post : Nat → zM → zFl → Prop} (hf : ∀ k, 386 ≤ k → Fs M F k) (k : post 392 (zI M 386 3 40) (clr 386 392 F)) : Wf_Ma_init 386 387 M F post := by
  have t0 : tg 386 = 4 := by decide +kernel
  have b0 := Bt.start hf
  unfold Wf_Ma_init
  refine ⟨by omega, rfl, by decide +kernel, b0.fr, by omega, by omega, by omega, rfl, by decide, by omega, by omega, ?_⟩
  refine f_Ro (a := 387) (by decide +kernel) (by decide +kernel) (by decide +kernel) (by decide) (by decide) (b0.fs (by omega)) (b0.fs (by omega)) ?_
  have b1 := (b0.sub (N' := 389) (M' := M) (by omega) (fun _ _ _ => ⟨rfl, rfl⟩)).set 0
  refine ⟨by omega, t0, rfl, ?_⟩
  rintro F4 e4
  subst e4
  refine ⟨by omega, rfl, by decide +kernel, b1.fr, by omega, by omega, by omega, rfl, by decide, by omega, by omega, ?_⟩
  refine f_Ro (a := 389) (by decide +kernel) (by decide +kernel) (by decide +kernel) (by decide) (by decide) (b1.fs (by omega)) (b1.fs (by omega)) ?_
  have b2 := (b1.sub (N' := 391) (M' := M) (by omega) (fun _ _ _ => ⟨rfl, rfl⟩)).set 1
  refine ⟨by omega, t0, rfl, ?_⟩
  rintro F8 e8
  subst e8
  refine ⟨by omega, t0, ?_⟩
  rintro M9 e9
  rw [zI_same ((hf 386 (by omega)).1 2)] at e9
  subst e9
  refine ⟨by omega, t0, ?_⟩
  rintro M10 e10
  subst e10
  have b3 := b2.zI (x := 386) (j := 3) (v := 40) (by omega)
  refine ⟨by omega, rfl, by decide +kernel, by decide +kernel, b3.fr, by omega, by omega, by omega, t0, rfl, ?_⟩
  rintro F11 e11
  subst e11
  have b4 := (b3.arr (t := 21) (by decide +kernel) (by omega) (by omega)).set 4
  have e := b4.fin t0 (by omega) (ft_in (by decide +kernel))
  refine ⟨by omega, rfl, rfl, by omega, ?_⟩
  show post 392 _ _
  rw [← e] at k
  exact k
def flM (a : Nat) (v : Int32) (i : Nat) (M : zM) : zM := (fun k j => if k = a ∧ j < i then v else M.1 k j, M.2.1, M.2.2)
theorem f_fill {a N n : Nat} {v : Int32} {M : zM} {F : zFl} {post : Nat → zM → zFl → Prop} (ht : tg a = 21) (hl : ln a = n) (hn : n ≤ 70000) (ha : a < N) (k : post N (flM a v n M) F) : Wf_JArrays_fill a v N M F post := by
  unfold Wf_JArrays_fill
  intro K hK
  refine ⟨ha, ht, ?_⟩
  rintro x rfl
  rw [hl, show Int32.ofNat n = ii (n : Int) from (Int32.ofInt_eq_ofNat (n := n)).symm]
  have m0 : M = flM a v 0 M := by
    refine Prod.ext ?_ rfl
    funext k j
    show M.1 k j = if k = a ∧ j < 0 then v else _
    rw [if_neg (by omega)]
  suffices H : ∀ (m i : Nat), i + m = n → K (ii i) (ii n) N 0 0 (flM a v i M) F by
    have := H n 0 (Nat.zero_add _)
    rw [← m0] at this
    exact this
  intro m
  induction m with
  | zero =>
    intro i hi
    have e : i = n := by omega
    subst e
    exact hK _ _ _ _ _ _ _ ⟨fun _ => ⟨by omega, rfl, rfl, by omega, k⟩, fun q => absurd (by rw [ii_le (by omega) (by omega) (by omega) (by omega)]; omega) q⟩
  | succ m ih =>
    intro i hi
    refine hK _ _ _ _ _ _ _ ⟨fun q => ?_, fun _ => ⟨ha, ht, ii_in (by omega) (by rw [hl]; omega) (by omega), ?_⟩⟩
    · rw [ii_le (by omega) (by omega) (by omega) (by omega)] at q
      omega
    · rw [ii_nat (by omega) (by omega), Int.toNat_natCast]
      rintro M2 rfl x rfl
      rw [show (1 : Int32) = ii 1 from rfl, ii_add]
      have eM : zI (flM a v i M) a i v = flM a v (i + 1) M := by
        refine Prod.ext ?_ rfl
        funext k j
        rw [zI_g]
        show (if k = a ∧ j = i then v else (if k = a ∧ j < i then v else M.1 k j)) = (if k = a ∧ j < i + 1 then v else M.1 k j)
        by_cases c : k = a ∧ j = i
        · rw [if_pos c, if_pos (by omega)]
        · rw [if_neg c]
          by_cases c2 : k = a ∧ j < i
          · rw [if_pos c2, if_pos (by omega)]
          · rw [if_neg c2, if_neg (by omega)]
      rw [eM]
      exact ih (i + 1) (by omega)
theorem f_Bo {M : zM} {F : zFl} {post : Nat → zM → zFl → Prop} (hf : ∀ k, 392 ≤ k → Fs M F k) (k : post 398 (flM 396 (-1) 1000 M) (clr 392 398 F)) : Wf_Bo_init 392 393 M F post := by
  have t0 : tg 392 = 6 := by decide +kernel
  have b0 := Bt.start hf
  unfold Wf_Bo_init
  refine ⟨by omega, rfl, by decide +kernel, b0.fr, by omega, by omega, by omega, rfl, by decide, by omega, by omega, ?_⟩
  refine f_Ro (a := 393) (by decide +kernel) (by decide +kernel) (by decide +kernel) (by decide) (by decide) (b0.fs (by omega)) (b0.fs (by omega)) ?_
  have b1 := (b0.sub (N' := 395) (M' := M) (by omega) (fun _ _ _ => ⟨rfl, rfl⟩)).set 0
  refine ⟨by omega, t0, rfl, ?_⟩
  rintro F4 e4
  subst e4
  refine ⟨by omega, rfl, by decide +kernel, by decide +kernel, b1.fr, by omega, by omega, by omega, t0, rfl, ?_⟩
  rintro F5 e5
  subst e5
  have b2 := (b1.arr (t := 21) (by decide +kernel) (by omega) (by omega)).set 1
  refine ⟨by omega, rfl, by decide +kernel, by decide +kernel, b2.fr, by omega, by omega, by omega, t0, rfl, ?_⟩
  rintro F6 e6
  subst e6
  have b3 := (b2.arr (t := 21) (by decide +kernel) (by omega) (by omega)).set 2
  refine ⟨by omega, t0, by rw [b3.2.2.2.2 2]; rfl, by omega, rfl, by decide, by omega, by omega, ?_⟩
  refine f_fill (a := 396) (n := 1000) (by decide +kernel) (by decide +kernel) (by omega) (by omega) ?_
  have b4 := b3.mem (M' := flM 396 (-1) 1000 M) (fun k j hk => ⟨if_neg (by omega), rfl⟩)
  refine ⟨by omega, rfl, by decide +kernel, b4.fr, by omega, by omega, by omega, rfl, by decide, by omega, by omega, ?_⟩
  unfold Wf_Pl_init
  refine ⟨by omega, rfl, rfl, by omega, by omega, t0, rfl, ?_⟩
  have hz : ∀ j, (flM 396 (-1) 1000 M).1 392 j = 0 := fun j => by
    show (if 392 = 396 ∧ j < 1000 then (-1 : Int32) else M.1 392 j) = 0
    rw [if_neg (by omega)]
    exact (hf 392 (by omega)).1 j
  rintro F13 e13
  subst e13
  refine ⟨by omega, t0, ?_⟩
  rintro M14 e14
  rw [zI_same (hz 4)] at e14
  subst e14
  refine ⟨by omega, t0, ?_⟩
  rintro M15 e15
  rw [zI_same (hz 5)] at e15
  subst e15
  refine ⟨by omega, t0, ?_⟩
  rintro M16 e16
  rw [zI_same (hz 6)] at e16
  subst e16
  refine ⟨by omega, rfl, rfl, by omega, ?_⟩
  have t397 : tg 397 = 5 := by decide +kernel
  have b6 : Bt 392 398 F (flM 396 (-1) 1000 M) (yset (yset (yset (clr 393 395 F) 392 0) 392 1) 392 2) [2, 1, 0] := by
    obtain ⟨h0, h1, h2, h3, h4⟩ := b4
    refine ⟨by omega, fun k j q => h1 k j (by omega), fun k j q1 q2 => ?_, fun k hk => h3 k (by omega), h4⟩
    by_cases q : k = 397
    · rw [q, (h3 397 (by omega)).2.2, yR_obj t397 (by omega)]
      exact decide_eq_false (fun z => by have := ft_in (t := 5) (ds := []) (by decide +kernel) j z; simp at this)
    · exact h2 k j q1 (by omega)
  have b7 := b6.set 3
  have e := b7.fin t0 (by omega) (ft_in (by decide +kernel))
  show post 398 _ _
  rw [← e] at k
  exact k
theorem f_Sq {M : zM} {F : zFl} {post : Nat → zM → zFl → Prop} (hf : ∀ k, 398 ≤ k → Fs M F k) (k : post 402 M (clr 398 402 F)) : Wf_Sq_init 398 399 M F post := by
  have t0 : tg 398 = 7 := by decide +kernel
  have b0 := Bt.start hf
  unfold Wf_Sq_init
  refine ⟨by omega, rfl, by decide +kernel, by decide +kernel, b0.fr, by omega, by omega, by omega, t0, rfl, ?_⟩
  rintro F1 e1
  subst e1
  have b1 := (b0.arr (t := 21) (by decide +kernel) (by omega) (by omega)).set 0
  refine ⟨by omega, rfl, by decide +kernel, by decide +kernel, b1.fr, by omega, by omega, by omega, t0, rfl, ?_⟩
  rintro F1 e1
  subst e1
  have b2 := (b1.arr (t := 21) (by decide +kernel) (by omega) (by omega)).set 1
  refine ⟨by omega, rfl, by decide +kernel, by decide +kernel, b2.fr, by omega, by omega, by omega, t0, rfl, ?_⟩
  rintro F1 e1
  subst e1
  have b3 := (b2.arr (t := 21) (by decide +kernel) (by omega) (by omega)).set 2
  refine ⟨by omega, rfl, rfl, by omega, ?_⟩
  have e := b3.fin t0 (by omega) (ft_in (by decide +kernel))
  show post 402 _ _
  rw [← e] at k
  exact k
theorem f_Ex {M : zM} {F : zFl} {post : Nat → zM → zFl → Prop} (hf : ∀ k, 402 ≤ k → Fs M F k) (k : post 405 M (clr 402 405 F)) : Wf_Ex_init 402 403 M F post := by
  have t0 : tg 402 = 8 := by decide +kernel
  have b0 := Bt.start hf
  unfold Wf_Ex_init
  refine ⟨by omega, rfl, by decide +kernel, by decide +kernel, b0.fr, by omega, by omega, by omega, t0, rfl, ?_⟩
  rintro F1 e1
  subst e1
  have b1 := (b0.arr (t := 21) (by decide +kernel) (by omega) (by omega)).set 0
  refine ⟨by omega, rfl, by decide +kernel, by decide +kernel, b1.fr, by omega, by omega, by omega, t0, rfl, ?_⟩
  rintro F1 e1
  subst e1
  have b2 := (b1.arr (t := 21) (by decide +kernel) (by omega) (by omega)).set 1
  refine ⟨by omega, rfl, rfl, by omega, ?_⟩
  have e := b2.fin t0 (by omega) (ft_in (by decide +kernel))
  show post 405 _ _
  rw [← e] at k
  exact k
