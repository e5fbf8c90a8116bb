/-! The law, to its end. -/
theorem s_La_law {L : Nat} {xs : Nat → Int32} {M : zM} (hL : L ≤ 3584) (h : IV M 0) : Wp_La_law L xs 0 413 451 452 1149866 M := by
  unfold Wp_La_law
  intro K hK
  have hof : Int32.ofNat L - 7 = ii ((L : Int) - 7) := by
    rw [show Int32.ofNat L = ii (L : Int) from (Int32.ofInt_eq_ofNat (n := L)).symm, show (7 : Int32) = ii 7 from rfl, ii_sub]
  have ei : ∀ i d : Nat, (ii ((7 * i : Nat) : Int)) + ii (d : Int) = ii ((7 * i + d : Nat) : Int) := fun i d => by rw [ii_add]; congr 1
  suffices H : ∀ (m i cn sn : Nat) (M : zM), i + m = 513 → 7 * i ≤ L + 6 → cn ≤ 452 + i → sn ≤ 1149866 + 6 * i → IV M i → K (ii ((7 * i : Nat) : Int)) M cn sn from H 513 0 452 1149866 M rfl (by omega) (by omega) (by omega) h
  intro m
  induction m with
  | zero => intro i cn sn M hi h7; omega
  | succ m ih =>
    intro i cn sn M hi h7 hc hs hV
    have hle : i ≤ 512 := by omega
    refine hK _ _ _ _ ⟨by omega, by omega, fun _ => trivial, fun hq => ?_⟩
    rw [hof, ii_lt (by omega) (by omega) (by omega) (by omega)] at hq
    have hr : 7 * i + 7 ≤ L := by omega
    have nx : ∀ (x : Int32) (M' : zM) (cn' sn' : Nat), cn' ≤ cn + 1 → sn' ≤ sn + 6 → IV M' (i + 1) → x = ii ((7 * i : Nat) : Int) + 7 → K x M' cn' sn' := fun x M' cn' sn' q1 q2 q3 q4 => by
      have e : x = ii ((7 * (i + 1) : Nat) : Int) := by
        rw [q4, show (7 : Int32) = ii ((7 : Nat) : Int) from rfl, ei]
        congr 2
      rw [e]
      exact ih (i + 1) cn' sn' M' (by omega) (by omega) (by omega) (by omega) q3
    have in0 : vp_in (ii ((7 * i : Nat) : Int)) L := ii_in (by omega) (by omega) (by omega)
    have inn : ∀ d : Nat, d ≤ 6 → vp_in (ii ((7 * i : Nat) : Int) + ii (d : Int)) L := fun d hd => by
      rw [ei]
      exact ii_in (by omega) (by omega) (by omega)
    have in1 : vp_in (ii ((7 * i : Nat) : Int) + 1) L := inn 1 (by omega)
    have in2 : vp_in (ii ((7 * i : Nat) : Int) + 2) L := inn 2 (by omega)
    have in3 : vp_in (ii ((7 * i : Nat) : Int) + 3) L := inn 3 (by omega)
    have in4 : vp_in (ii ((7 * i : Nat) : Int) + 4) L := inn 4 (by omega)
    have in5 : vp_in (ii ((7 * i : Nat) : Int) + 5) L := inn 5 (by omega)
    have in6 : vp_in (ii ((7 * i : Nat) : Int) + 6) L := inn 6 (by omega)
    generalize ii ((7 * i : Nat) : Int) = v at *
    have th : ∀ {x y : Int32} {M' : zM}, M'.1 413 6 = x → (x = 0 → M'.2.1 451 0 = y.toInt64) → IV M' (i + 1) → _ := fun {x y M'} e6 e0 q => rnd_end (x := x) (y := y) (M := M') (good := ∀ z : Int32, z = v + 7 → K z M' (cn + 1) (sn + 6)) e6 e0 (fun z hz => nx z M' _ _ (by omega) (by omega) q hz)
    have tz : ∀ {x : Int32} {M' : zM}, IV M' (i + 1) → ((x = x → ∀ z : Int32, z = v + 7 → K z M' cn sn) ∧ (¬ x = x → False)) := fun {x M'} q => ⟨fun _ z hz => nx z M' _ _ (by omega) (by omega) q hz, fun q => q rfl⟩
    refine ⟨in0, ?_⟩
    refine ⟨fun _ => ?_, fun _ => ?_, fun _ => ?_, fun _ => ?_, fun _ => ?_, fun _ => ?_, fun _ => ?_, fun _ => ?_, fun _ => ?_, fun _ => ?_, fun _ => ?_, fun _ => ?_, fun _ => ?_, fun _ => ?_, fun _ => ?_, fun _ => ?_, fun _ _ _ _ _ _ _ _ _ _ _ _ _ _ _ _ => fun z hz => nx z M cn sn (by omega) (by omega) ?_ hz⟩
    · exact ⟨in1, in2, in3, r_type hV (fun x M1 q => ⟨in1, in2, in3, q⟩) (fun x y M2 e6 e0 q => th e6 e0 q)⟩
    · exact ⟨in1, r_again hV (fun x M1 q => ⟨in1, q⟩) (fun x y M2 e6 e0 q => th e6 e0 q)⟩
    · exact ⟨in1, in2, in3, in4, in5, in6, r_add (by omega) hV (fun x M1 q => ⟨in1, in2, in3, in4, in5, in6, q⟩) (fun x y M2 e6 e0 q => th e6 e0 q)⟩
    · exact ⟨in1, r_link hV (fun x M1 q => ⟨in1, q⟩) (fun x y M2 e6 e0 q => th e6 e0 q)⟩
    · exact r_clear hV (fun x M1 q => q) (fun x M2 q => tz q)
    · exact ⟨in1, in2, r_pack hV (fun x M1 q => ⟨in1, in2, q⟩) (fun x y M2 e6 e0 q => th e6 e0 q)⟩
    · exact ⟨in1, in2, r_part hV (fun x M1 q => ⟨in1, in2, q⟩) (fun x y M2 e6 e0 q => th e6 e0 q)⟩
    · exact ⟨in1, in2, r_stage hV (fun x M1 q => ⟨in1, in2, q⟩) (fun x y M2 e6 e0 q => th e6 e0 q)⟩
    · exact r_checksum hV (fun x M1 q => q) (fun x M2 q => tz q)
    · exact r_receive hV (fun x M1 q => q) (fun x M2 q => tz q)
    · exact ⟨in1, in2, in3, r_pass hV (fun x M1 q => ⟨in1, in2, in3, q⟩) (fun x y M2 e6 e0 q => th e6 e0 q)⟩
    · exact ⟨in1, in2, r_forge hV (fun x M1 q => ⟨in1, in2, q⟩) (fun x M2 e6 q => ⟨fun _ z hz => nx z M2 _ _ (by omega) (by omega) q hz, fun q => q e6⟩)⟩
    · exact r_empty hV (fun x M1 q => q) (fun x M2 q => tz q)
    · exact r_unpack hV (fun x M1 q => q) (fun x M2 q => tz q)
    · exact ⟨in1, in2, in3, r_about hV (fun x M1 q => ⟨in1, in2, in3, q⟩) (fun x y M2 e6 e0 q => th e6 e0 q)⟩
    · exact ⟨in1, in2, in3, r_byteOf hV (fun x M1 q => ⟨in1, in2, in3, q⟩) (fun x y M2 e6 e0 q => th e6 e0 q)⟩
    · obtain ⟨tp, T, Y, S, X, LL, n, of, B, hT, hY, hB, hC, g, hg, hM⟩ := hV
      exact ⟨tp, T, Y, S, X, LL, n, of, B, hT, hY, hB, hC, g, by omega, hM⟩
