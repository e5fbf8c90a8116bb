/-! An archive read back by the reference: numbers, one entry. -/
theorem ll_oct {v d : Nat} (hv : v < 8589934592) (hd : d < 8) : (ll (v : Int) <<< ((3 : Int32).toInt64 &&& 63)) ||| ll (d : Int) = ll ((8 * v + d : Nat) : Int) := by
  apply Int64.toBitVec_inj.mp
  rw [Int64.toBitVec_or, Int64.toBitVec_shiftLeft]
  have e1 : (((3 : Int32).toInt64 &&& 63).toBitVec.smod 64).toNat = 3 := by decide
  apply BitVec.eq_of_toNat_eq
  rw [BitVec.toNat_or, BitVec.shiftLeft_eq', e1, BitVec.toNat_shiftLeft]
  show (BitVec.ofNat 64 v).toNat <<< 3 % 2 ^ 64 ||| (BitVec.ofNat 64 d).toNat = (BitVec.ofNat 64 (8 * v + d)).toNat
  rw [BitVec.toNat_ofNat, BitVec.toNat_ofNat, BitVec.toNat_ofNat, Nat.mod_eq_of_lt (show v < 2 ^ 64 by omega), Nat.mod_eq_of_lt (show d < 2 ^ 64 by omega), Nat.mod_eq_of_lt (show 8 * v + d < 2 ^ 64 by omega), Nat.mod_eq_of_lt (show v <<< 3 < 2 ^ 64 by rw [Nat.shiftLeft_eq]; omega), ← Nat.shiftLeft_add_eq_or_of_lt (show d < 2 ^ 3 from hd), Nat.shiftLeft_eq]
  omega
theorem sb_oct (b : UInt8) : (sb b - 48) &&& 7 = ii ((b.toNat % 8 : Nat) : Int) := u8_all (P := fun b => (sb b - 48) &&& 7 = ii ((b.toNat % 8 : Nat) : Int)) (by decide +kernel) b
def octP (tx : List UInt8) (p : Nat) : Nat → Nat
  | 0 => 0
  | i + 1 => 8 * octP tx p i + (tx.getD (p + i) 0).toNat % 8
section RRD
variable {M : zM} {tx : List UInt8}
theorem s_octalAt {p d : Nat} {post : Int64 → zM → Prop} (hR : Cw M 47 (413 + 32) tx) (hp : p + d ≤ tx.length) (htl : tx.length ≤ 50000) (hd : d ≤ 11) (k : ∀ v : Nat, v < 8 ^ d → (∀ w : Nat, w < 8 ^ d → (tx.drop p).take d = oct w d → v = w) → v = octP tx p d → post (ll v) M) : Wp_Mo_octalAt 413 (ii p) (ii d) M post := by
  have l32 : ln (413 + 32) = 56000 := by decide +kernel
  unfold Wp_Mo_octalAt
  intro K hK
  suffices H : ∀ (m i acc : Nat), i + m = d → acc < 8 ^ i → acc = octP tx p i → (∀ v : Nat, v < 8 ^ d → (tx.drop p).take d = oct v d → acc = v / 8 ^ m ∧ (tx.drop (p + i)).take m = oct v m) → K (ll acc) (ii i) M from H d 0 0 (Nat.zero_add _) (by simp) rfl (fun v hv he => ⟨(Nat.div_eq_of_lt hv).symm, he⟩)
  intro m
  induction m with
  | zero =>
    intro i acc hi hacc hoc hg
    have hid : i = d := by omega
    subst hid
    refine hK _ _ _ ⟨fun _ => k acc hacc (fun v h1 h2 => ?_) hoc, fun z => absurd (by rw [ii_le (by omega) (by omega) (by omega) (by omega)]; omega) z⟩
    have := (hg v h1 h2).1
    rw [Nat.pow_zero, Nat.div_one] at this
    exact this
  | succ m ih =>
    intro i acc hi hacc hoc hg
    have h11 : (8 : Nat) ^ i ≤ 8 ^ 10 := Nat.pow_le_pow_right (by decide) (by omega)
    rw [show (8 : Nat) ^ 10 = 1073741824 from rfl] at h11
    have hin : p + i < tx.length := by omega
    refine hK _ _ _ ⟨fun z => ?_, fun _ => ?_⟩
    · rw [ii_le (by omega) (by omega) (by omega) (by omega)] at z
      omega
    · rw [ii_add]
      refine ⟨ii_in (by omega) (by omega) (by omega), ?_⟩
      rw [ii_nat (by omega) (by omega), show ((p : Int) + (i : Int)).toNat = p + i by omega, hR.2.2 _ hin, sb_oct, ll_of_ii (by omega) (by omega), ll_oct (by omega) (by omega)]
      rintro y rfl x rfl
      rw [show (1 : Int32) = ii 1 from rfl, ii_add]
      refine ih (i + 1) (8 * acc + tx[p + i].toNat % 8) (by omega) (by rw [Nat.pow_succ]; omega) (by rw [hoc, ← getD_in hin]; rfl) (fun v h1 h2 => ?_)
      obtain ⟨g1, g2⟩ := hg v h1 h2
      rw [oct_hd, List.drop_eq_getElem_cons hin, List.take_succ_cons] at g2
      obtain ⟨g3, g4⟩ := List.cons.inj g2
      refine ⟨?_, g4⟩
      have h9 := oct_dig v m
      rw [← g3] at h9
      have := div8 v m
      omega
/-- the numbers that the entries of the third tree were read with -/
def LnI (M : zM) (R : Tre) : Prop := ∀ (i : Nat) (hi : i < R.length), M.1 (413 + 18) (41 * 2 + i) = ii ((R[i].fam + 1 : Nat) : Int) ∧ R[i].fam < 262144
def newR (p : List UInt8) (k m o g t : Nat) (body : List UInt8) (num : Nat) : En := (p, (k, m, o, g, t), body, num - 1)
theorem s_Mo_take {at_ n rest kd km tm : Nat} {R : Tre} {p body : List UInt8} {post : zM → Prop} (hI : RtI M 2 R) (hL : LnI M R) (hS : Srt R) (hP : Cw M 24 (413 + 21) p) (hT : Cw M 47 (413 + 32) tx) (htl : tx.length ≤ 16000) (hfree : ∀ e ∈ R, e.path ≠ p) (hpl : plc p R = R.length) (hl40 : R.length < 40) (hin : at_ + 77 + n + rest ≤ tx.length) (hbody : body = cut tx (at_ + 77 + n) (at_ + 77 + n + rest)) (hkd : kd ≤ 2) (hkm : km < 262144) (htm : tm ≤ 2147483647) (hbo : kd = 1 ∨ rest ≤ 60) (hc : conts R + (if kd = 1 then rest else 0) ≤ 6000)
    (hn1 : ∀ (post' : Int64 → zM → Prop) (M1 : zM), Cw M1 47 (413 + 32) tx → (∀ num : Nat, 1 ≤ num → num < 262144 → (∀ w : Nat, w < 262144 → (tx.drop (at_ + 12)).take 6 = oct w 6 → num = w) → post' (ll num) M1) → Wp_Mo_octalAt 413 (ii ((at_ + 12 : Nat) : Int)) (ii ((6 : Nat) : Int)) M1 post')
    (k : ∀ (M' : zM) (o g num : Nat), o < 262144 → g < 262144 → 1 ≤ num → num < 262144 → (∀ w : Nat, w < 262144 → (tx.drop (at_ + 24)).take 6 = oct w 6 → o = w) → (∀ w : Nat, w < 262144 → (tx.drop (at_ + 30)).take 6 = oct w 6 → g = w) → (∀ w : Nat, w < 262144 → (tx.drop (at_ + 12)).take 6 = oct w 6 → num = w) → FrC (tIn 2) M M' → RtI M' 2 (R ++ [newR p kd (km % 4096) o g tm body num]) → LnI M' (R ++ [newR p kd (km % 4096) o g tm body num]) → post M') : Wp_Mo_take 413 (ii at_) (ii n) (ii rest) (ii kd) (ii km) (ii tm) M post := by
  obtain ⟨l8, l9, l10, l11, l12, l13, l14, l15, l16, l17, l18, l19, l20, l21⟩ := l_ref
  have l32 : ln (413 + 32) = 56000 := by decide +kernel
  have p6 : (8 : Nat) ^ 6 = 262144 := rfl
  have six : (6 : Int32) = ii ((6 : Nat) : Int) := rfl
  have z2c : ((2 : Int32)).toNatClampNeg = 2 := by decide
  have hbl : body.length = rest := by rw [hbody, cut_len]; omega
  unfold Wp_Mo_take
  intro K hK
  show Wp_Mo_enter 413 (ii ((2 : Nat) : Int)) M _
  refine s_Mo_enter (by omega) hP hI hS hfree hl40 (fun M1 f1 n1 lo1 hi1 s1 p1 => ?_)
  rw [hpl] at lo1 hi1 s1 p1 ⊢
  obtain ⟨e, he⟩ : ∃ e, e = 41 * 2 + R.length := ⟨_, rfl⟩
  rw [← he] at s1 p1 ⊢
  obtain ⟨a1, a2, a3, us, u1, u2, u3, u4⟩ := hI
  have ee : (ii (e : Int)).toNatClampNeg = e := by rw [ii_nat (by omega) (by omega), Int.toNat_natCast]
  have off : ∀ n : Nat, n ≤ 100 → ii (at_ : Int) + ii (n : Int) = ii ((at_ + n : Nat) : Int) := fun n _ => by rw [ii_add]; rfl
  rw [ee, z2c, six, show (24 : Int32) = ii ((24 : Nat) : Int) from rfl, show (30 : Int32) = ii ((30 : Nat) : Int) from rfl, show (12 : Int32) = ii ((12 : Nat) : Int) from rfl, off 24 (by omega), off 30 (by omega), off 12 (by omega)]
  have em : ii (km : Int) &&& 4095 = ii ((km % 4096 : Nat) : Int) := by
    have := ii_mask (km : Int) 12 (by decide)
    rw [show (2 ^ 12 - 1 : Int) = 4095 from rfl] at this
    rw [show (4095 : Int32) = ii 4095 from rfl, this]
    rfl
  rw [em]
  have hTc : ∀ {M'}, (∀ k j, ¬ tIn 2 k j → M'.1 k j = M.1 k j) → Cw M' 47 (413 + 32) tx := fun hq => ⟨by rw [hq _ _ (by unfold tIn; omega)]; exact hT.1, hT.2.1, fun i hi => by rw [hq _ _ (by unfold tIn; omega)]; exact hT.2.2 i hi⟩
  have k1 : ∀ k j, ¬ tIn 2 k j → M1.1 k j = M.1 k j := fun k j q => f1.1 k j (by unfold tIn at q; unfold nIn; omega)
  refine ⟨ii_in (by omega) (by omega) (by omega), ?_⟩
  rintro M3 h3
  refine ⟨ii_in (by omega) (by omega) (by omega), ?_⟩
  rintro M4 h4
  have q4 : ∀ k j, ¬ (413 + 11 ≤ k ∧ k ≤ 413 + 18 ∧ j = e) → M4.1 k j = M1.1 k j := fun k j q => by rw [h4, zI_g, if_neg (by omega), h3, zI_g, if_neg (by omega)]
  refine s_octalAt (hTc (fun k j q => by rw [q4 k j (by unfold tIn at q; omega)]; exact k1 k j q)) (by omega) (by omega) (by omega) (fun o ho go _ => ⟨ii_in (by omega) (by omega) (by omega), ?_⟩)
  rintro M7 h7
  rw [ll_to32] at h7
  have q7 : ∀ k j, ¬ (413 + 11 ≤ k ∧ k ≤ 413 + 18 ∧ j = e) → M7.1 k j = M1.1 k j := fun k j q => by rw [h7, zI_g, if_neg (by omega)]; exact q4 k j q
  refine s_octalAt (hTc (fun k j q => by rw [q7 k j (by unfold tIn at q; omega)]; exact k1 k j q)) (by omega) (by omega) (by omega) (fun g hg gg _ => ⟨ii_in (by omega) (by omega) (by omega), ?_⟩)
  rintro M10 h10
  rw [ll_to32] at h10
  have q10 : ∀ k j, ¬ (413 + 11 ≤ k ∧ k ≤ 413 + 18 ∧ j = e) → M10.1 k j = M1.1 k j := fun k j q => by rw [h10, zI_g, if_neg (by omega)]; exact q7 k j q
  refine ⟨ii_in (by omega) (by omega) (by omega), ?_⟩
  rintro M11 h11
  have q11 : ∀ k j, ¬ (413 + 11 ≤ k ∧ k ≤ 413 + 18 ∧ j = e) → M11.1 k j = M1.1 k j := fun k j q => by rw [h11, zI_g, if_neg (by omega)]; exact q10 k j q
  refine hn1 _ M11 (hTc (fun k j q => by rw [q11 k j (by unfold tIn at q; omega)]; exact k1 k j q)) (fun num hn1' hn2 gn => ⟨ii_in (by omega) (by omega) (by omega), ?_⟩)
  rintro M14 h14
  rw [ll_to32] at h14
  have q14 : ∀ k j, ¬ (413 + 11 ≤ k ∧ k ≤ 413 + 18 ∧ j = e) → M14.1 k j = M1.1 k j := fun k j q => by rw [h14, zI_g, if_neg (by omega)]; exact q11 k j q
  have u14 : M14.1 (413 + 19) 2 = ii us := by rw [q14 _ _ (by omega), f1.1 _ _ (by unfold nIn; omega)]; exact u1
  refine ⟨by unfold vp_in; rw [l19]; decide, ii_in (by omega) (by omega) (by omega), ?_⟩
  rw [u14]
  rintro M15 h15
  refine ⟨ii_in (by omega) (by omega) (by omega), ?_⟩
  rintro M16 h16
  have k16 : ∀ k j, ¬ (413 + 11 ≤ k ∧ k ≤ 413 + 18 ∧ j = e) → M16.1 k j = M1.1 k j := fun k j q => by rw [h16, zI_g, if_neg (by omega), h15, zI_g, if_neg (by omega)]; exact q14 k j q
  have v17 : M16.1 (413 + 17) e = ii (rest : Int) := by rw [h16, zI_g, if_pos ⟨rfl, rfl⟩]
  have v16 : M16.1 (413 + 16) e = ii us := by rw [h16, zI_o (by omega), h15, zI_g, if_pos ⟨rfl, rfl⟩]
  have v18 : M16.1 (413 + 18) e = ii (num : Int) := by rw [h16, zI_o (by omega), h15, zI_o (by omega), h14, zI_g, if_pos ⟨rfl, rfl⟩]
  have v15 : M16.1 (413 + 15) e = ii (tm : Int) := by rw [h16, zI_o (by omega), h15, zI_o (by omega), h14, zI_o (by omega), h11, zI_g, if_pos ⟨rfl, rfl⟩]
  have v14 : M16.1 (413 + 14) e = ii (g : Int) := by rw [h16, zI_o (by omega), h15, zI_o (by omega), h14, zI_o (by omega), h11, zI_o (by omega), h10, zI_g, if_pos ⟨rfl, rfl⟩]
  have v13 : M16.1 (413 + 13) e = ii (o : Int) := by rw [h16, zI_o (by omega), h15, zI_o (by omega), h14, zI_o (by omega), h11, zI_o (by omega), h10, zI_o (by omega), h7, zI_g, if_pos ⟨rfl, rfl⟩]
  have v12 : M16.1 (413 + 12) e = ii ((km % 4096 : Nat) : Int) := by rw [h16, zI_o (by omega), h15, zI_o (by omega), h14, zI_o (by omega), h11, zI_o (by omega), h10, zI_o (by omega), h7, zI_o (by omega), h4, zI_g, if_pos ⟨rfl, rfl⟩]
  have v11 : M16.1 (413 + 11) e = ii (kd : Int) := by rw [h16, zI_o (by omega), h15, zI_o (by omega), h14, zI_o (by omega), h11, zI_o (by omega), h10, zI_o (by omega), h7, zI_o (by omega), h4, zI_o (by omega), h3, zI_g, if_pos ⟨rfl, rfl⟩]
  have s16 : M16.2 = M1.2 := by rw [h16, h15, h14, h11, h10, h7, h4, h3]; rfl
  have hus : us ≤ 8400 := by omega
  have hrb : rest ≤ (if kd = 1 then rest else 0) + 60 := by
    by_cases c : kd = 1
    · rw [if_pos c]; omega
    · rw [if_neg c]; omega
  suffices H : ∀ (mm i : Nat) (M2 : zM), i + mm = rest → (∀ k j, ¬ (k = 413 + 19 ∧ j = 2) → ¬ (k = 413 + 20 ∧ 40000 + us ≤ j ∧ j < 40000 + us + rest) → M2.1 k j = M16.1 k j) → M2.2 = M16.2 → M2.1 (413 + 19) 2 = ii ((us + i : Nat) : Int) → (∀ (q : Nat) (hq : q < body.length), q < i → M2.1 (413 + 20) (40000 + us + q) = sb body[q]) → K (ii i) M2 from
    H _ 0 M16 (Nat.zero_add _) (fun _ _ _ _ => rfl) rfl (by rw [k16 _ _ (by omega), f1.1 _ _ (by unfold nIn; omega)]; exact u1) (fun q _ hq => absurd hq (by omega))
  intro mm
  induction mm with
  | zero =>
    intro i M2 hi w1 w2 w3 w4
    have hi' : i = rest := by omega
    refine hK _ _ ⟨fun _ => ?_, fun z => absurd (by rw [ii_le (by omega) (by omega) (by omega) (by omega)]; omega) z⟩
    have kk1 : ∀ k j, ¬ (413 + 11 ≤ k ∧ k ≤ 413 + 18 ∧ j = e) → ¬ (k = 413 + 19 ∧ j = 2) → ¬ (k = 413 + 20 ∧ 40000 + us ≤ j ∧ j < 40000 + us + rest) → M2.1 k j = M1.1 k j := fun k j a c d => by rw [w1 k j c d]; exact k16 k j a
    have rnd : ∀ (a : Nat) (w : Int32), 11 ≤ a → a ≤ 18 → M16.1 (413 + a) e = w → M2.1 (413 + a) e = w := fun a w x1 x2 q => by rw [w1 _ _ (by omega) (by omega)]; exact q
    have xk : (newR p kd (km % 4096) o g tm body num).kind = kd := rfl
    have xb : (newR p kd (km % 4096) o g tm body num).body = body := rfl
    have xp : (newR p kd (km % 4096) o g tm body num).path = p := rfl
    have hmore : (if (newR p kd (km % 4096) o g tm body num).kind = 1 then (newR p kd (km % 4096) o g tm body num).body.length else 0) = (if kd = 1 then rest else 0) := by rw [xk, xb, hbl]
    have hins : ins (newR p kd (km % 4096) o g tm body num) R = R ++ [newR p kd (km % 4096) o g tm body num] := by
      rw [ins_eq, xp, hpl, List.take_length, List.drop_length]
    have elo : ∀ j, j < R.length → eqE M2 (41 * 2 + j) M (41 * 2 + j) := fun j hj => ⟨fun a x1 x2 => by rw [kk1 _ _ (by omega) (by omega) (by omega)]; exact (lo1 j hj).1 a x1 x2, fun q hq => by rw [kk1 _ _ (by omega) (by omega) (by omega)]; exact (lo1 j hj).2 q hq⟩
    have hcont : ∀ q, q < us → M2.1 (413 + 20) (20000 * 2 + q) = M.1 (413 + 20) (20000 * 2 + q) := fun q hq => by rw [kk1 _ _ (by omega) (by omega) (by omega), f1.1 _ _ (by unfold nIn; omega)]
    have hpp : p.length ≤ 60 := by have := hP.2.1; omega
    have RT : RtI M2 2 (R ++ [newR p kd (km % 4096) o g tm body num]) := by
      rw [← hins]
      refine RtI.insd (M := M) (us := us) (us' := us + i) u4 hl40 (by rw [hmore]; exact hc) (by rw [kk1 _ _ (by omega) (by omega) (by omega)]; exact n1) w3 (by rw [hmore]; omega) (fun j hj hj2 => ⟨(u3 j hj).moved (elo j hj) (by omega) hcont, (elo j hj).1 18 (by omega) (by omega)⟩) (fun j hj hj2 => by rw [xp, hpl] at hj2; omega) ?_ (fun hk1 j hj hj1 => ?_)
      · rw [xp, hpl, ← he]
        refine ⟨?_, by rw [xp]; exact hpp, fun q hq => ?_, by rw [rnd 11 _ (by omega) (by omega) v11]; rfl, by rw [rnd 12 _ (by omega) (by omega) v12]; rfl, by rw [rnd 13 _ (by omega) (by omega) v13]; rfl, by rw [rnd 14 _ (by omega) (by omega) v14]; rfl, by rw [rnd 15 _ (by omega) (by omega) v15]; rfl, by rw [rnd 17 _ (by omega) (by omega) v17, xb, hbl], us, rnd 16 _ (by omega) (by omega) v16, by rw [xb, hbl]; omega, fun q hq => ?_⟩
        · rw [kk1 _ _ (by omega) (by omega) (by omega), s1]; rfl
        · rw [kk1 _ _ (by omega) (by omega) (by omega)]
          exact p1 q hq
        · have hq' : q < body.length := hq
          rw [show 20000 * 2 + us + q = 40000 + us + q by omega]
          exact w4 q hq' (by omega)
      · obtain ⟨y1, y2⟩ := hL j hj
        rw [xp, hpl, ← he, rnd 18 _ (by omega) (by omega) v18, y1, ii_eq (by omega) (by omega) (by omega) (by omega)]
        show _ ↔ num - 1 = R[j].fam
        omega
    refine k M2 o g num (by omega) (by omega) hn1' hn2 (fun w x1 x2 => go w (by omega) x2) (fun w x1 x2 => gg w (by omega) x2) gn ⟨fun kk j q => ?_, by rw [w2, s16, f1.2]⟩ RT (fun j hj => ?_)
    · rw [kk1 _ _ (by unfold tIn at q; omega) (by unfold tIn at q; omega) (by unfold tIn at q; omega)]
      exact k1 kk j q
    · rw [List.length_append, List.length_cons, List.length_nil] at hj
      by_cases c : j < R.length
      · rw [List.getElem_append_left c, (elo j c).1 18 (by omega) (by omega)]
        exact hL j c
      · have hje : j = R.length := by omega
        subst hje
        rw [List.getElem_append_right (Nat.le_refl _)]
        simp only [Nat.sub_self, List.getElem_cons_zero]
        rw [← he, rnd 18 _ (by omega) (by omega) v18]
        show ii (num : Int) = ii ((num - 1 + 1 : Nat) : Int) ∧ num - 1 < 262144
        rw [show num - 1 + 1 = num by omega]
        exact ⟨rfl, by omega⟩
  | succ mm ih =>
    intro i M2 hi w1 w2 w3 w4
    refine hK _ _ ⟨fun z => ?_, fun _ => ⟨by unfold vp_in; rw [l19]; decide, ?_⟩⟩
    · rw [ii_le (by omega) (by omega) (by omega) (by omega)] at z
      omega
    · have ex : ii (at_ : Int) + 76 + ii (n : Int) + 1 + ii (i : Int) = ii ((at_ + 77 + n + i : Nat) : Int) := by
        rw [show (76 : Int32) = ii 76 from rfl, show (1 : Int32) = ii 1 from rfl, ii_add, ii_add, ii_add, ii_add]
        congr 1
        omega
      rw [z2c, w3, ex, show (40000 : Int32) = ii 40000 from rfl, ii_add]
      refine ⟨ii_in (by omega) (by omega) (by omega), ii_in (by omega) (by omega) (by omega), ?_⟩
      have hib : i < body.length := by omega
      have t1 : M2.1 (413 + 32) (at_ + 77 + n + i) = sb body[i] := by
        rw [w1 _ _ (by omega) (by omega), k16 _ _ (by omega), k1 _ _ (by unfold tIn; omega), hT.2.2 (at_ + 77 + n + i) (by omega)]
        congr 1
        have e9 : body[i]? = tx[at_ + 77 + n + i]? := by
          rw [hbody]
          unfold cut
          rw [List.getElem?_drop, List.getElem?_take_of_lt (by omega)]
        rw [List.getElem?_eq_getElem hib, List.getElem?_eq_getElem (by omega)] at e9
        exact (Option.some.inj e9).symm
      rw [ii_nat (by omega) (by omega), ii_nat (by omega) (by omega), Int.toNat_natCast, show ((40000 : Int) + ((us + i : Nat) : Int)).toNat = 40000 + us + i by omega, t1, nar_b8, b8_sb]
      rintro M17 h17
      refine ⟨by unfold vp_in; rw [l19]; decide, by unfold vp_in; rw [l19]; decide, ?_⟩
      rintro M18 h18 x rfl
      have u17 : M17.1 (413 + 19) 2 = ii ((us + i : Nat) : Int) := by rw [h17, zI_o (by omega)]; exact w3
      rw [u17, show (1 : Int32) = ii 1 from rfl, ii_add, show (((us + i : Nat) : Int) + 1) = ((us + (i + 1) : Nat) : Int) by omega] at h18
      rw [show (1 : Int32) = ii 1 from rfl, ii_add]
      refine ih (i + 1) M18 (by omega) (fun k j a b => ?_) (by rw [h18, h17]; exact w2) (by rw [h18, zI_g, if_pos ⟨rfl, rfl⟩]) (fun q hq hq2 => ?_)
      · rw [h18, zI_g, if_neg (by omega), h17, zI_g, if_neg (by omega)]
        exact w1 k j a b
      · rw [h18, zI_o (by omega), h17, zI_g]
        by_cases c : q = i
        · subst c
          rw [if_pos ⟨rfl, rfl⟩]
        · rw [if_neg (by omega)]
          exact w4 q hq (by omega)
end RRD
