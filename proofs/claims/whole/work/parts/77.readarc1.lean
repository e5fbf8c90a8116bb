/-! An archive read back: MailChain's side. -/
theorem oct_hd (v d : Nat) : oct v (d + 1) = UInt8.ofNat (48 + v / 8 ^ d % 8) :: oct v d := rfl
theorem oct_dig (v d : Nat) : (UInt8.ofNat (48 + v / 8 ^ d % 8)).toNat = 48 + v / 8 ^ d % 8 := by
  rw [UInt8.toNat_ofNat']
  have := Nat.mod_lt (v / 8 ^ d) (show 8 > 0 by decide)
  omega
theorem div8 (v d : Nat) : v / 8 ^ d = 8 * (v / 8 ^ (d + 1)) + v / 8 ^ d % 8 := by
  have e : v / 8 ^ (d + 1) = v / 8 ^ d / 8 := by rw [Nat.pow_succ, Nat.div_div_eq_div_mul]
  rw [e]
  omega
section ARD
variable {M : zM} {a : Nat} {rs : List UInt8}
theorem s_Ar_octal {p d : Nat} {post : Int32 → zM → Prop} (ha : Rw M a rs) (hp : p ≤ 100000) (hd : d ≤ 11) (k : ∀ z : Int, -1 ≤ z → z ≤ 2147483647 → (∀ v : Nat, v < 8 ^ d → v ≤ 2147483647 → (rs.drop p).take d = oct v d → z = v) → post (ii z) M) : Wp_Ar_octal a (ii p) (ii d) M post := by
  have hl := ha.len
  have kneg : (∀ v : Nat, v < 8 ^ d → v ≤ 2147483647 → (rs.drop p).take d = oct v d → (-1 : Int) = v) → post (-1) M := fun h => by
    have := k (-1) (by omega) (by omega) h
    rw [show ii (-1) = (-1 : Int32) from rfl] at this
    exact this
  unfold Wp_Ar_octal
  intro K hK
  suffices H : ∀ (m i acc : Nat), i + m = d → acc < 8 ^ i → (∀ v : Nat, v < 8 ^ d → (rs.drop p).take d = oct v d → acc = v / 8 ^ m ∧ (rs.drop (p + i)).take m = oct v m) → K (ll acc) (ii i) M from H d 0 0 (Nat.zero_add _) (by simp) (fun v hv he => ⟨(Nat.div_eq_of_lt hv).symm, he⟩)
  intro m
  induction m with
  | zero =>
    intro i acc hi hacc hg
    have h11 : (8 : Nat) ^ i ≤ 8 ^ 11 := Nat.pow_le_pow_right (by decide) (by omega)
    rw [show (8 : Nat) ^ 11 = 8589934592 from rfl] at h11
    refine hK _ _ _ ⟨fun _ => ?_, fun z => absurd (by rw [ii_le (by omega) (by omega) (by omega) (by omega)]; omega) z⟩
    rw [lg_cmp_gt, show (2147483647 : Int64) = ll 2147483647 from rfl, ll_lt (by omega) (by omega) (by omega) (by omega), ll_to32]
    refine ⟨fun z => kneg (fun v h1 h2 h3 => ?_), fun z => k acc (by omega) (by omega) (fun v h1 h2 h3 => ?_)⟩
    · have := (hg v h1 h3).1
      rw [Nat.pow_zero, Nat.div_one] at this
      omega
    · have := (hg v h1 h3).1
      rw [Nat.pow_zero, Nat.div_one] at this
      omega
  | succ m ih =>
    intro i acc hi hacc hg
    have h11 : (8 : Nat) ^ i ≤ 8 ^ 10 := Nat.pow_le_pow_right (by decide) (by omega)
    rw [show (8 : Nat) ^ 10 = 1073741824 from rfl] at h11
    refine hK _ _ _ ⟨fun z => ?_, fun _ => ?_⟩
    · rw [ii_le (by omega) (by omega) (by omega) (by omega)] at z
      omega
    · rw [ii_add]
      refine s_at ha (by omega) (by omega) ?_
      have hgr := gt_rng rs ((p : Int) + i)
      rintro x rfl
      rw [show (48 : Int32) = ii 48 from rfl, ii_sub, ii_nneg (by omega) (by omega), show (7 : Int32) = ii 7 from rfl, ii_le (by omega) (by omega) (by omega) (by omega)]
      have dig : ∀ v : Nat, v < 8 ^ d → (rs.drop p).take d = oct v d → gt rs ((p : Int) + i) = ((48 + v / 8 ^ m % 8 : Nat) : Int) ∧ acc = v / 8 ^ (m + 1) ∧ (rs.drop (p + (i + 1))).take m = oct v m := by
        intro v h1 h2
        obtain ⟨g1, g2⟩ := hg v h1 h2
        rw [oct_hd] at g2
        have hin : p + i < rs.length := by
          have := congrArg List.length g2
          rw [List.length_take, List.length_drop, List.length_cons] at this
          omega
        rw [List.drop_eq_getElem_cons hin, List.take_succ_cons] at g2
        obtain ⟨g3, g4⟩ := List.cons.inj g2
        refine ⟨?_, g1, g4⟩
        rw [show ((p : Int) + i) = ((p + i : Nat) : Int) by omega, gt_in hin, g3, oct_dig]
      refine ⟨fun z => kneg (fun v h1 h2 h3 => ?_), fun z => ⟨fun z2 => ?_, fun z2 => kneg (fun v h1 h2 h3 => ?_)⟩⟩
      · have := (dig v h1 h3).1
        omega
      · obtain ⟨dg, hdg⟩ := Int.eq_ofNat_of_zero_le (show 0 ≤ gt rs ((p : Int) + i) - 48 by omega)
        rintro y rfl x rfl
        rw [hdg, show (8 : Int64) = ll 8 from rfl, ll_mul, ll_of_ii (by omega) (by omega), ll_add, show (1 : Int32) = ii 1 from rfl, ii_add, show ((8 : Int) * (acc : Int) + (dg : Int)) = ((8 * acc + dg : Nat) : Int) by omega]
        refine ih (i + 1) (8 * acc + dg) (by omega) (by rw [Nat.pow_succ]; omega) (fun v h1 h2 => ?_)
        obtain ⟨q1, q2, q3⟩ := dig v h1 h2
        refine ⟨?_, q3⟩
        have := div8 v m
        omega
      · have := (dig v h1 h3).1
        have := Nat.mod_lt (v / 8 ^ m) (show 8 > 0 by decide)
        omega
theorem s_kindOf {x : Int} {post : Int32 → zM → Prop} (hx : R32 x) (k : ∀ z : Int, -1 ≤ z → z ≤ 2 → (∀ kd : Nat, kd ≤ 2 → x = kd4 kd → z = kd) → post (ii z) M) : Wp_Ar_kindOf (ii x) M post := by
  unfold R32 at hx
  have kneg : (∀ kd : Nat, kd ≤ 2 → x = kd4 kd → (-1 : Int) = kd) → post (-1) M := fun h => by
    have := k (-1) (by omega) (by omega) h
    rw [show ii (-1) = (-1 : Int32) from rfl] at this
    exact this
  unfold Wp_Ar_kindOf
  intro K hK
  suffices H : ∀ (m i : Nat), i + m = 3 → (∀ kd : Nat, kd ≤ 2 → x = kd4 kd → i ≤ kd) → K (ii i) M from H 3 0 rfl (fun kd _ _ => by omega)
  intro m
  induction m with
  | zero =>
    intro i hi hg
    refine hK _ _ ⟨fun _ => kneg (fun kd h1 h2 => ?_), fun z => absurd (by rw [show (2 : Int32) = ii 2 from rfl, ii_lt (by omega) (by omega) (by omega) (by omega)]; omega) z⟩
    have := hg kd h1 h2
    omega
  | succ m ih =>
    intro i hi hg
    refine hK _ _ ⟨fun z => ?_, fun _ => s_kindDigits (by omega) ?_⟩
    · rw [show (2 : Int32) = ii 2 from rfl, ii_lt (by omega) (by omega) (by omega) (by omega)] at z
      omega
    · have hk4 : kd4 i ≤ 10 := by unfold kd4; split; omega; split <;> omega
      have inj : ∀ kd : Nat, kd ≤ 2 → kd4 kd = kd4 i → kd = i := by
        intro kd h1 h2
        unfold kd4 at h2
        have : i = 0 ∨ i = 1 ∨ i = 2 := by omega
        have : kd = 0 ∨ kd = 1 ∨ kd = 2 := by omega
        rcases this with q | q | q <;> subst q <;> rcases ‹i = 0 ∨ i = 1 ∨ i = 2› with r | r | r <;> subst r <;> simp_all
      rw [ii_eq (by omega) (by omega) hx.1 hx.2]
      refine ⟨fun z => ?_, fun z => k i (by omega) (by omega) (fun kd h1 h2 => ?_)⟩
      · rintro y rfl
        rw [show (1 : Int32) = ii 1 from rfl, ii_add]
        refine ih (i + 1) (by omega) (fun kd h1 h2 => ?_)
        have := hg kd h1 h2
        by_cases c : kd = i
        · subst c
          omega
        · omega
      · have := inj kd h1 (by omega)
        omega
/-- a header's numbers, where they stand -/
theorem seg {X A B C : List UInt8} {n d : Nat} (h : X = A ++ (B ++ C)) (h1 : A.length = n) (h2 : B.length = d) : (X.drop n).take d = B := by
  rw [h, ← h1, List.drop_left, ← h2, List.take_left]
theorem hdr_at {rs Z : List UInt8} {at_ num km o g lk t psz rest : Nat} (h : rs.drop at_ = hdr num km o g lk t psz rest ++ Z) : (rs.drop (at_ + 12)).take 6 = oct num 6 ∧ (rs.drop (at_ + 18)).take 6 = oct km 6 ∧ (rs.drop (at_ + 24)).take 6 = oct o 6 ∧ (rs.drop (at_ + 30)).take 6 = oct g 6 ∧ (rs.drop (at_ + 48)).take 11 = oct t 11 ∧ (rs.drop (at_ + 59)).take 6 = oct (psz + 1) 6 ∧ (rs.drop (at_ + 65)).take 11 = oct rest 11 := by
  obtain ⟨t6, t7, t8⟩ := txl2
  have e : ∀ n, rs.drop (at_ + n) = (rs.drop at_).drop n := fun n => by rw [List.drop_drop]
  unfold hdr at h
  simp only [List.append_assoc] at h
  refine ⟨?_, ?_, ?_, ?_, ?_, ?_, ?_⟩
  · rw [e]
    exact seg (A := txt 7) h t7 (oct_len _ _)
  · rw [e]
    refine seg (A := txt 7 ++ oct num 6) (B := oct km 6) (by rw [h]; simp only [List.append_assoc]; rfl) (by simp only [List.length_append, oct_len, t7]) (oct_len _ _)
  · rw [e]
    refine seg (A := txt 7 ++ (oct num 6 ++ oct km 6)) (B := oct o 6) (by rw [h]; simp only [List.append_assoc]; rfl) (by simp only [List.length_append, oct_len, t7]) (oct_len _ _)
  · rw [e]
    refine seg (A := txt 7 ++ (oct num 6 ++ (oct km 6 ++ oct o 6))) (B := oct g 6) (by rw [h]; simp only [List.append_assoc]; rfl) (by simp only [List.length_append, oct_len, t7]) (oct_len _ _)
  · rw [e]
    refine seg (A := txt 7 ++ (oct num 6 ++ (oct km 6 ++ (oct o 6 ++ (oct g 6 ++ (oct lk 6 ++ txt 8)))))) (B := oct t 11) (by rw [h]; simp only [List.append_assoc]; rfl) (by simp only [List.length_append, oct_len, t7, t8]) (oct_len _ _)
  · rw [e]
    refine seg (A := txt 7 ++ (oct num 6 ++ (oct km 6 ++ (oct o 6 ++ (oct g 6 ++ (oct lk 6 ++ (txt 8 ++ oct t 11))))))) (B := oct (psz + 1) 6) (by rw [h]; simp only [List.append_assoc]; rfl) (by simp only [List.length_append, oct_len, t7, t8]) (oct_len _ _)
  · rw [e]
    refine seg (A := txt 7 ++ (oct num 6 ++ (oct km 6 ++ (oct o 6 ++ (oct g 6 ++ (oct lk 6 ++ (txt 8 ++ (oct t 11 ++ oct (psz + 1) 6)))))))) (B := oct rest 11) (by rw [h]; simp only [List.append_assoc]; rfl) (by simp only [List.length_append, oct_len, t7, t8]) (oct_len _ _)
theorem s_readFields {p d : Nat} {post : zM → Prop} (ha : Rw M a rs) (hp : p ≤ 50000) (hda : d ≠ a) (hda1 : d ≠ a + 1) (k : ∀ (M' : zM) (kd m o g tm : Int), Only [d] M M' → M'.1 d 1 = ii kd → M'.1 d 2 = ii m → M'.1 d 3 = ii o → M'.1 d 4 = ii g → M'.1 d 5 = ii tm → R32 kd → R32 m → R32 o → R32 g → R32 tm → (∀ (kd' m' o' g' tm' num lk psz rest : Nat) (Z : List UInt8), kd' ≤ 2 → m' ≤ 4095 → o' ≤ 262143 → g' ≤ 262143 → tm' ≤ 2147483647 → rs.drop p = hdr num (kd4 kd' * 2 ^ 12 + m') o' g' lk tm' psz rest ++ Z → kd = kd' ∧ m = m' ∧ o = o' ∧ g = g' ∧ tm = tm') → post M') : Wp_Ar_readFields a (ii p) d M post := by
  have six : (6 : Int32) = ii ((6 : Nat) : Int) := rfl
  have elv : (11 : Int32) = ii ((11 : Nat) : Int) := rfl
  have off : ∀ n : Nat, n ≤ 100 → ii (p : Int) + ii (n : Int) = ii ((p + n : Nat) : Int) := fun n _ => by rw [ii_add]; rfl
  unfold Wp_Ar_readFields
  rw [six, elv, show (18 : Int32) = ii ((18 : Nat) : Int) from rfl, show (24 : Int32) = ii ((24 : Nat) : Int) from rfl, show (30 : Int32) = ii ((30 : Nat) : Int) from rfl, show (48 : Int32) = ii ((48 : Nat) : Int) from rfl, off 18 (by omega), off 24 (by omega), off 30 (by omega), off 48 (by omega)]
  refine s_Ar_octal ha (by omega) (by omega) (fun zk zk1 zk2 gk => ?_)
  have ek : ii zk >>> (12 &&& 31) = ii (zk / 4096) := by
    rw [show ((12 : Int32) &&& 31) = ii ((12 : Nat) : Int) from rfl, ii_shr (by omega) (by omega) (by omega)]
    rfl
  have em : ii zk &&& 4095 = ii (zk % 4096) := by
    have := ii_mask zk 12 (by decide)
    rw [show (2 ^ 12 - 1 : Int) = 4095 from rfl] at this
    exact this
  rw [ek, em]
  refine s_kindOf (by unfold R32; omega) (fun kd kd1 kd2 gkd => ?_)
  rintro M5 h5 M6 h6
  have o6 : Only [d] M M6 := by
    rw [h6, h5]
    exact (Only.rf.zI (by simp)).zI (by simp)
  have keep : ∀ {M'}, Only [d] M M' → Rw M' a rs := fun o => ha.only o (by simp; omega) (by simp; omega)
  refine s_Ar_octal (keep o6) (by omega) (by omega) (fun zo zo1 zo2 go => ?_)
  rintro M9 h9
  have o9 : Only [d] M M9 := by rw [h9]; exact o6.zI (by simp)
  refine s_Ar_octal (keep o9) (by omega) (by omega) (fun zg zg1 zg2 gg => ?_)
  rintro M12 h12
  have o12 : Only [d] M M12 := by rw [h12]; exact o9.zI (by simp)
  refine s_Ar_octal (keep o12) (by omega) (by omega) (fun zt zt1 zt2 gt' => ?_)
  rintro M15 h15
  have o15 : Only [d] M M15 := by rw [h15]; exact o12.zI (by simp)
  have vals : M15.1 d 1 = ii kd ∧ M15.1 d 2 = ii (zk % 4096) ∧ M15.1 d 3 = ii zo ∧ M15.1 d 4 = ii zg ∧ M15.1 d 5 = ii zt := by
    rw [h15, h12, h9, h6, h5]
    simp only [zI_g]
    simp
  refine k M15 kd (zk % 4096) zo zg zt o15 vals.1 vals.2.1 vals.2.2.1 vals.2.2.2.1 vals.2.2.2.2 (by unfold R32; omega) (by unfold R32; omega) (by unfold R32; omega) (by unfold R32; omega) (by unfold R32; omega) (fun kd' m' o' g' tm' num lk psz rest Z a1 a2 a3 a4 a5 a6 => ?_)
  obtain ⟨f1, f2, f3, f4, f5, f6, f7⟩ := hdr_at a6
  have hk4 : kd4 kd' ≤ 10 := by unfold kd4; split; omega; split <;> omega
  have p6 : (8 : Nat) ^ 6 = 262144 := rfl
  have p11 : (8 : Nat) ^ 11 = 8589934592 := rfl
  have e1 := gk (kd4 kd' * 2 ^ 12 + m') (by omega) (by omega) f2
  have e2 := gkd kd' a1 (by omega)
  have e3 := go o' (by omega) (by omega) f3
  have e4 := gg g' (by omega) (by omega) f4
  have e5 := gt' tm' (by omega) (by omega) f5
  refine ⟨by omega, by omega, by omega, by omega, by omega⟩
end ARD
