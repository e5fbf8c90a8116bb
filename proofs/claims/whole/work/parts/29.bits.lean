/-! Codes as bits, bits as bytes: both sides. -/
/-- only these fields of an object and these places have changed -/
def OnlyF (o : Nat) (F S : List Nat) (M M' : zM) : Prop := (∀ k, k ∉ S → k ≠ o → M'.1 k = M.1 k) ∧ (∀ j, j ∉ F → M'.1 o j = M.1 o j) ∧ M'.2 = M.2
theorem OnlyF.rf {o : Nat} {F S : List Nat} {M : zM} : OnlyF o F S M M := ⟨fun _ _ _ => rfl, fun _ _ => rfl, rfl⟩
theorem OnlyF.trans {o : Nat} {F S : List Nat} {M M' M'' : zM} (h : OnlyF o F S M M') (h' : OnlyF o F S M' M'') : OnlyF o F S M M'' := ⟨fun k hk hk2 => (h'.1 k hk hk2).trans (h.1 k hk hk2), fun j hj => (h'.2.1 j hj).trans (h.2.1 j hj), h'.2.2.trans h.2.2⟩
theorem OnlyF.mono {o : Nat} {F S F' S' : List Nat} {M M' : zM} (h : OnlyF o F S M M') (hf : ∀ k, k ∈ F → k ∈ F') (hs : ∀ k, k ∈ S → k ∈ S') : OnlyF o F' S' M M' := ⟨fun k hk => h.1 k (fun q => hk (hs k q)), fun j hj => h.2.1 j (fun q => hj (hf j q)), h.2.2⟩
theorem OnlyF.fld {o : Nat} {F S : List Nat} {M M' : zM} {j : Nat} {v : Int32} (h : OnlyF o F S M M') (hj : j ∈ F) : OnlyF o F S M (zI M' o j v) := by
  refine ⟨fun a ha ha2 => (zI_o ha2).trans (h.1 a ha ha2), fun i hi => ?_, h.2.2⟩
  rw [zI_g, if_neg (fun q => hi (by rw [q.2]; exact hj))]
  exact h.2.1 i hi
theorem OnlyF.arr {o : Nat} {F S : List Nat} {M M' : zM} {k j : Nat} {v : Int32} (h : OnlyF o F S M M') (hk : k ∈ S) (hk2 : k ≠ o) : OnlyF o F S M (zI M' k j v) := by
  refine ⟨fun a ha ha2 => (zI_o (fun e => ha (by rw [e]; exact hk))).trans (h.1 a ha ha2), fun i hi => ?_, h.2.2⟩
  rw [zI_o (fun e => hk2 e.symm)]
  exact h.2.1 i hi
theorem Only.toF {o : Nat} {F S : List Nat} {M M' : zM} (h : Only S M M') (ho : o ∉ S) : OnlyF o F S M M' := ⟨fun k hk _ => h.1 k hk, fun j _ => by rw [h.1 o ho], h.2⟩
def bytesOf (N m : Nat) : List UInt8 := (List.range m).map (fun j => UInt8.ofNat (N / 2 ^ (8 * j)))
theorem bytesOf_len (N m : Nat) : (bytesOf N m).length = m := by simp [bytesOf]
theorem bytesOf_succ (N m : Nat) : bytesOf N (m + 1) = bytesOf N m ++ [UInt8.ofNat (N / 2 ^ (8 * m))] := by simp [bytesOf, List.range_succ]
theorem bytesOf_congr {N N' m : Nat} (h : N % 2 ^ (8 * m) = N' % 2 ^ (8 * m)) : bytesOf N m = bytesOf N' m := by
  unfold bytesOf
  apply List.map_congr_left
  intro j hj
  have hj := List.mem_range.mp hj
  apply UInt8.toNat_inj.mp
  have key : ∀ n : Nat, n / 2 ^ (8 * j) % 256 = (n % 2 ^ (8 * m)) / 2 ^ (8 * j) % 256 := by
    intro n
    have e : 2 ^ (8 * m) = 2 ^ (8 * j) * (256 * 2 ^ (8 * m - 8 * j - 8)) := by
      rw [show (256 : Nat) = 2 ^ 8 from rfl, ← Nat.pow_add, ← Nat.pow_add]
      congr 1
      omega
    rw [e, Nat.mod_mul_right_div_self, Nat.mod_mul_right_mod]
  show UInt8.toNat (UInt8.ofNat _) = UInt8.toNat (UInt8.ofNat _)
  rw [UInt8.toNat_ofNat', UInt8.toNat_ofNat', show (2 ^ 8 : Nat) = 256 from rfl, key N, key N', h]
theorem bytesOf_more {N v len m : Nat} (h : 8 * m ≤ len) : bytesOf (N + v * 2 ^ len) m = bytesOf N m := by
  apply bytesOf_congr
  have e : v * 2 ^ len = v * 2 ^ (len - 8 * m) * 2 ^ (8 * m) := by
    rw [Nat.mul_assoc, ← Nat.pow_add]
    congr 2
    omega
  rw [e, Nat.add_mul_mod_self_right]
theorem div_more {N v len m : Nat} (h : m ≤ len) : (N + v * 2 ^ len) / 2 ^ m = N / 2 ^ m + v * 2 ^ (len - m) := by
  have e : v * 2 ^ len = v * 2 ^ (len - m) * 2 ^ m := by
    rw [Nat.mul_assoc, ← Nat.pow_add]
    congr 2
    omega
  rw [e, Nat.add_mul_div_right _ _ (Nat.two_pow_pos m)]
/-- MailChain's writer of bits -/
def Bw (M : zM) (q r : Nat) (pre : List UInt8) (N len : Nat) : Prop := Rw M r (pre ++ bytesOf N (len / 8)) ∧ M.1 q 7 = ii ((N / 2 ^ (8 * (len / 8)) : Nat) : Int) ∧ M.1 q 8 = ii ((len % 8 : Nat) : Int) ∧ N < 2 ^ len
theorem Bw.small {M : zM} {q r : Nat} {pre : List UInt8} {N len : Nat} (h : Bw M q r pre N len) : N / 2 ^ (8 * (len / 8)) < 2 ^ (len % 8) := by
  apply Nat.div_lt_of_lt_mul
  rw [← Nat.pow_add]
  have e : 8 * (len / 8) + len % 8 = len := by omega
  rw [e]
  exact h.2.2.2
theorem pow_le' {a b : Nat} (h : a ≤ b) : 2 ^ a ≤ 2 ^ b := Nat.pow_le_pow_right (by decide) h
theorem s_Sq_putBits {M : zM} {q r v w c N len : Nat} {pre : List UInt8} {post : zM → Prop} (hw : M.1 q 5 = ii w) (hw2 : w ≤ 16) (hv : v < 2 ^ w) (hB : Bw M q r pre N len) (hroom : pre.length + (len + w) / 8 ≤ ln (r + 1)) (hc : M.1 q 6 = ii c) (hqr : q ≠ r) (hqr1 : q ≠ r + 1)
    (k : ∀ M', OnlyF q [6, 7, 8] [r, r + 1] M M' → M'.1 q 6 = ii ((c + 1 : Nat) : Int) → Bw M' q r pre (N + v * 2 ^ len) (len + w) → post M') : Wp_Sq_putBits q (ii v) r M post := by
  have hp := hB.small
  have h7 : (2 : Nat) ^ (len % 8) ≤ 128 := pow_le' (b := 7) (by omega)
  have hw16 : (2 : Nat) ^ w ≤ 65536 := pow_le' (b := 16) hw2
  have hN' : N + v * 2 ^ len < 2 ^ (len + w) := by
    have h1 : v * 2 ^ len + 2 ^ len ≤ 2 ^ w * 2 ^ len := by
      rw [← Nat.succ_mul]
      exact Nat.mul_le_mul_right _ hv
    have h2 := hB.2.2.2
    rw [Nat.pow_add, Nat.mul_comm (2 ^ len)]
    omega
  unfold Wp_Sq_putBits
  intro K hK
  suffices H : ∀ (m Q : Nat) (M1 : zM), Q + m = (len + w) / 8 → OnlyF q [6, 7, 8] [r, r + 1] M M1 → M1.1 q 6 = ii ((c + 1 : Nat) : Int) → Rw M1 r (pre ++ bytesOf (N + v * 2 ^ len) Q) → M1.1 q 7 = ii (((N + v * 2 ^ len) / 2 ^ (8 * Q) : Nat) : Int) → (N + v * 2 ^ len) / 2 ^ (8 * Q) < 2147483648 → M1.1 q 8 = ii ((len + w - 8 * Q : Nat) : Int) → len + w - 8 * Q ≤ 100 → K M1 by
    rintro M1 rfl M2 rfl M3 rfl
    have hx : v * 2 ^ (len - 8 * (len / 8)) < 65536 * 128 := by
      rw [show len - 8 * (len / 8) = len % 8 by omega]
      exact Nat.mul_lt_mul_of_lt_of_le (by omega) h7 (by decide)
    refine H ((len + w) / 8 - len / 8) (len / 8) _ (by omega) (((OnlyF.rf.fld (by simp)).fld (by simp)).fld (by simp)) ?_ ?_ ?_ ?_ ?_ (by omega)
    · rw [zI_g, if_neg (by simp), zI_g, if_neg (by simp), zI_g, if_pos ⟨rfl, rfl⟩, hc, show (1 : Int32) = ii 1 from rfl, ii_add]
      rfl
    · rw [bytesOf_more (by omega)]
      refine hB.1.only (S := [q]) ⟨fun a ha => ?_, rfl⟩ (by simpa using fun e => hqr e.symm) (by simpa using fun e => hqr1 e.symm)
      have ha' : a ≠ q := by simpa using ha
      rw [zI_o ha', zI_o ha', zI_o ha']
    · rw [zI_g, if_neg (by simp), zI_g, if_pos ⟨rfl, rfl⟩, zI_g, if_neg (by simp), zI_g, if_neg (by simp), hB.2.1, hB.2.2.1, show (31 : Int32) = ii 31 from rfl, ii_and31 (by omega) (by omega), ii_shl _ (by omega), show ((v : Int) * 2 ^ (len % 8)) = ((v * 2 ^ (len % 8) : Nat) : Int) by simp]
      have := ii_or_add (a := v) (b := N / 2 ^ (8 * (len / 8))) (k := len % 8) hp
      rw [ii_or_nat] at this
      rw [ii_or_nat, Nat.or_comm, this, div_more (by omega), show len - 8 * (len / 8) = len % 8 by omega, Nat.add_comm]
    · rw [div_more (by omega)]
      omega
    · rw [zI_g, if_pos ⟨rfl, rfl⟩, zI_g, if_neg (by simp), zI_g, if_neg (by simp), hB.2.2.1, zI_g, if_neg (by simp), zI_g, if_neg (by simp), hw, ii_add]
      congr 1
      omega
  intro m
  induction m with
  | zero =>
    intro Q M1 hQ ho h6 hR h7 hsm h8 hle
    refine hK _ ⟨fun _ => ?_, fun q' => ?_⟩
    · refine k M1 ho h6 ⟨?_, ?_, ?_, hN'⟩
      · rw [← hQ]; exact hR
      · rw [← hQ]; exact h7
      · rw [h8]
        congr 1
        omega
    · rw [h8, show (8 : Int32) = ii 8 from rfl, ii_lt (by omega) (by omega) (by omega) (by omega)] at q'
      omega
  | succ m ih =>
    intro Q M1 hQ ho h6 hR h7 hsm h8 hle
    refine hK _ ⟨fun q' => ?_, fun _ => ?_⟩
    · rw [h8, show (8 : Int32) = ii 8 from rfl, ii_lt (by omega) (by omega) (by omega) (by omega)] at q'
      omega
    · refine s_put hR (by rw [List.length_append, bytesOf_len]; omega) (fun M2 o2 R2 => ?_)
      have hq2 : M2.1 q = M1.1 q := o2.1 q (by simp; exact ⟨hqr, hqr1⟩)
      rintro M3 rfl M4 rfl
      have eqd : (N + v * 2 ^ len) / 2 ^ (8 * (Q + 1)) = (N + v * 2 ^ len) / 2 ^ (8 * Q) / 256 := by
        rw [Nat.div_div_eq_div_mul, show (256 : Nat) = 2 ^ 8 from rfl, ← Nat.pow_add]
        rfl
      have f7 : (zI M2 q 7 (((M2.1 q 7).toUInt32 >>> (((8 : Int32)).toUInt32 &&& Int32.toUInt32 31)).toInt32)).1 q 7 = ii (((N + v * 2 ^ len) / 2 ^ (8 * (Q + 1)) : Nat) : Int) := by
        rw [zI_g, if_pos ⟨rfl, rfl⟩, hq2, h7, show (8 : Int32) = ii ((8 : Nat) : Int) from rfl, ii_ushr (by decide), eqd]
        generalize (N + v * 2 ^ len) / 2 ^ (8 * Q) = P at hsm ⊢
        congr 1
        omega
      refine ih (Q + 1) _ (by omega) (((ho.trans (o2.toF (by simp; exact ⟨hqr, hqr1⟩))).fld (by simp)).fld (by simp)) ?_ ?_ ?_ ?_ ?_ (by omega)
      · rw [zI_g, if_neg (by simp), zI_g, if_neg (by simp), hq2]
        exact h6
      · rw [h7, b8_nat, List.append_assoc, ← bytesOf_succ] at R2
        refine R2.only (S := [q]) ⟨fun a ha => ?_, rfl⟩ (by simpa using fun e => hqr e.symm) (by simpa using fun e => hqr1 e.symm)
        have ha' : a ≠ q := by simpa using ha
        rw [zI_o ha', zI_o ha']
      · rw [zI_g, if_neg (by simp)]
        exact f7
      · rw [eqd]
        omega
      · rw [zI_g, if_pos ⟨rfl, rfl⟩, zI_g, if_neg (by simp), hq2, h8, show (8 : Int32) = ii 8 from rfl, ii_sub]
        congr 1
        omega
/-- the reference's writer of bits -/
def Bm (M : zM) (pre : List UInt8) (N len : Nat) : Prop := Cw M 27 (413 + 23) (pre ++ bytesOf N (len / 8)) ∧ M.1 413 56 = ii ((N / 2 ^ (8 * (len / 8)) : Nat) : Int) ∧ M.1 413 57 = ii ((len % 8 : Nat) : Int) ∧ N < 2 ^ len
theorem s_Mo_putBits {M : zM} {v w N len : Nat} {pre : List UInt8} {post : zM → Prop} (hw2 : w ≤ 16) (hv : v < 2 ^ w) (hB : Bm M pre N len) (hroom : pre.length + (len + w) / 8 ≤ 40000)
    (k : ∀ M', OnlyR [27, 56, 57] [413 + 23] M M' → Bm M' pre (N + v * 2 ^ len) (len + w) → post M') : Wp_Mo_putBits 413 (ii v) (ii w) M post := by
  have hln : ln (413 + 23) = 40000 := by decide +kernel
  have hw16 : (2 : Nat) ^ w ≤ 65536 := pow_le' (b := 16) hw2
  unfold Wp_Mo_putBits
  intro K hK
  suffices H : ∀ (m i : Nat) (M1 : zM), i + m = w → OnlyR [27, 56, 57] [413 + 23] M M1 → Bm M1 pre (N + v % 2 ^ i * 2 ^ len) (len + i) → K (ii (i : Int)) M1 by
    refine H w 0 M (by omega) OnlyR.rf ?_
    simpa [Nat.mod_one] using hB
  intro m
  induction m with
  | zero =>
    intro i M1 hi ho hB1
    have ei : i = w := by omega
    subst ei
    refine hK _ _ ⟨fun _ => k M1 ho ?_, fun q => absurd (by rw [ii_le (by omega) (by omega) (by omega) (by omega)]; omega) q⟩
    rw [Nat.mod_eq_of_lt hv] at hB1
    exact hB1
  | succ m ih =>
    intro i M1 hi ho hB1
    have hp : (N + v % 2 ^ i * 2 ^ len) / 2 ^ (8 * ((len + i) / 8)) < 2 ^ ((len + i) % 8) := by
      apply Nat.div_lt_of_lt_mul
      rw [← Nat.pow_add, show 8 * ((len + i) / 8) + (len + i) % 8 = len + i by omega]
      exact hB1.2.2.2
    have h7 : (2 : Nat) ^ ((len + i) % 8) ≤ 128 := pow_le' (b := 7) (by omega)
    refine hK _ _ ⟨fun q => ?_, fun _ => ?_⟩
    · rw [ii_le (by omega) (by omega) (by omega) (by omega)] at q
      omega
    · rintro M2 rfl M3 rfl
      -- the bit
      have hbit : (ii (v : Int) >>> (ii (i : Int) &&& 31)) &&& 1 = ii ((v / 2 ^ i % 2 : Nat) : Int) := by
        rw [show (31 : Int32) = ii 31 from rfl, ii_and31 (by omega) (by omega), ii_shr (by omega) (by omega) (by omega)]
        have h1 := ii_mask ((v : Int) / 2 ^ i) 1 (by decide)
        rw [show (2 ^ 1 - 1 : Int) = 1 from rfl] at h1
        rw [show (1 : Int32) = ii 1 from rfl, h1, Int.natCast_emod, Int.natCast_ediv]
        simp
      have hmod : v % 2 ^ (i + 1) = v % 2 ^ i + v / 2 ^ i % 2 * 2 ^ i := by
        rw [Nat.pow_succ, Nat.mod_mul, Nat.mul_comm (2 ^ i)]
      generalize hP : (N + v % 2 ^ i * 2 ^ len) = P at hB1 hp
      have hN' : N + v % 2 ^ (i + 1) * 2 ^ len = P + v / 2 ^ i % 2 * 2 ^ (len + i) := by
        rw [hmod, ← hP, Nat.add_mul, Nat.mul_assoc, ← Nat.pow_add, Nat.add_comm i len]
        omega
      have hb2 : v / 2 ^ i % 2 < 2 := Nat.mod_lt _ (by decide)
      generalize hbb : v / 2 ^ i % 2 = bt at hbit hN' hb2
      -- the pending bits
      have f56 : (zI M1 413 56 ((M1.1 413 56) ||| (((ii (v : Int) >>> (ii (i : Int) &&& 31)) &&& 1) <<< ((M1.1 413 57) &&& 31)))).1 413 56 = ii ((P / 2 ^ (8 * ((len + i) / 8)) + bt * 2 ^ ((len + i) % 8) : Nat) : Int) := by
        rw [zI_g, if_pos ⟨rfl, rfl⟩, hbit, hB1.2.1, hB1.2.2.1, show (31 : Int32) = ii 31 from rfl, ii_and31 (by omega) (by omega), ii_shl _ (by omega), show ((bt : Int) * 2 ^ ((len + i) % 8)) = ((bt * 2 ^ ((len + i) % 8) : Nat) : Int) by simp]
        have := ii_or_add (a := bt) (b := P / 2 ^ (8 * ((len + i) / 8))) (k := (len + i) % 8) hp
        rw [ii_or_nat] at this
        rw [ii_or_nat, Nat.or_comm, this, Nat.add_comm]
      have hPlt := hB1.2.2.2
      have hNlt : P + bt * 2 ^ (len + i) < 2 ^ (len + i + 1) := by
        have : bt * 2 ^ (len + i) ≤ 1 * 2 ^ (len + i) := Nat.mul_le_mul_right _ (by omega)
        rw [Nat.pow_succ]
        omega
      have hdv : P / 2 ^ (8 * ((len + i) / 8)) + bt * 2 ^ ((len + i) % 8) = (P + bt * 2 ^ (len + i)) / 2 ^ (8 * ((len + i) / 8)) := by
        rw [div_more (by omega), show len + i - 8 * ((len + i) / 8) = (len + i) % 8 by omega]
      have hbm : bytesOf (P + bt * 2 ^ (len + i)) ((len + i) / 8) = bytesOf P ((len + i) / 8) := bytesOf_more (by omega)
      rw [hdv] at f56
      generalize hM2 : zI M1 413 56 ((M1.1 413 56) ||| (((ii (v : Int) >>> (ii (i : Int) &&& 31)) &&& 1) <<< ((M1.1 413 57) &&& 31))) = M2 at f56
      have o2 : OnlyR [27, 56, 57] [413 + 23] M1 M2 := by rw [← hM2]; exact OnlyR.rf.fld (by simp)
      have o2' : OnlyR [56] [] M1 M2 := by rw [← hM2]; exact OnlyR.rf.fld (by simp)
      have f57 : (zI M2 413 57 ((M2.1 413 57) + 1)).1 413 57 = ii (((len + i) % 8 + 1 : Nat) : Int) := by
        rw [zI_g, if_pos ⟨rfl, rfl⟩, o2'.2.1 57 (by decide), hB1.2.2.1, show (1 : Int32) = ii 1 from rfl, ii_add]
        rfl
      generalize hM3 : zI M2 413 57 ((M2.1 413 57) + 1) = M3 at f57
      have o3 : OnlyR [27, 56, 57] [413 + 23] M1 M3 := by rw [← hM3]; exact o2.fld (by simp)
      have o3' : OnlyR [56, 57] [] M1 M3 := by rw [← hM3]; exact (o2'.mono (by simp) (by simp)).fld (by simp)
      have f56' : M3.1 413 56 = ii (((P + bt * 2 ^ (len + i)) / 2 ^ (8 * ((len + i) / 8)) : Nat) : Int) := by rw [← hM3, zI_g, if_neg (by simp)]; exact f56
      have hC3 : Cw M3 27 (413 + 23) (pre ++ bytesOf (P + bt * 2 ^ (len + i)) ((len + i) / 8)) := by rw [hbm]; exact hB1.1.only o3' (by decide) (by decide) (by decide)
      have hix : ii (i : Int) + 1 = ii ((i + 1 : Nat) : Int) := by rw [show (1 : Int32) = ii 1 from rfl, ii_add]; rfl
      rw [f57, show (8 : Int32) = ii 8 from rfl, ii_eq (by omega) (by omega) (by omega) (by omega)]
      refine ⟨fun q8 => ?_, fun q8 => ?_⟩
      · rintro x rfl
        rw [hix]
        refine ih (i + 1) M3 (by omega) (ho.trans o3) ?_
        rw [hN', ← Nat.add_assoc]
        refine ⟨?_, ?_, ?_, hNlt⟩
        · rw [show (len + i + 1) / 8 = (len + i) / 8 by omega]; exact hC3
        · rw [show (len + i + 1) / 8 = (len + i) / 8 by omega]; exact f56'
        · rw [show (len + i + 1) % 8 = (len + i) % 8 + 1 by omega]; exact f57
      · have hl3 : (pre ++ bytesOf (P + bt * 2 ^ (len + i)) ((len + i) / 8)).length = pre.length + (len + i) / 8 := by rw [List.length_append, bytesOf_len]
        rw [hC3.1, hl3]
        refine ⟨ii_in (by omega) (by omega) (by omega), ?_⟩
        rintro M4 rfl M5 e5 M6 rfl M7 rfl x rfl
        rw [ii_nat (by omega) (by omega), Int.toNat_natCast, nar_b8', f56', b8_nat, zI_o (by decide), hC3.1, hl3] at e5
        have hp5 := hC3.put (b := UInt8.ofNat ((P + bt * 2 ^ (len + i)) / 2 ^ (8 * ((len + i) / 8)))) (M' := M5) (by decide) (by omega) (by
          rw [e5, hl3, show (1 : Int32) = ii 1 from rfl, ii_add]
          rfl)
        rw [hix]
        refine ih (i + 1) _ (by omega) ((((ho.trans o3).trans (hp5.2.mono (by simp) (by simp))).fld (by simp)).fld (by simp)) ?_
        rw [hN', ← Nat.add_assoc]
        have hQ1 : (len + i + 1) / 8 = (len + i) / 8 + 1 := by omega
        refine ⟨?_, ?_, ?_, hNlt⟩
        · rw [hQ1, bytesOf_succ, ← List.append_assoc]
          exact hp5.1.only ((OnlyR.rf.fld (F := [56, 57]) (S := []) (by simp)).fld (by simp)) (by decide) (by decide) (by decide)
        · rw [zI_g, if_neg (by simp), zI_g, if_pos ⟨rfl, rfl⟩, Nat.div_eq_of_lt (by rw [show 8 * ((len + i + 1) / 8) = len + i + 1 by omega]; exact hNlt)]
          rfl
        · rw [zI_g, if_pos ⟨rfl, rfl⟩, show (len + i + 1) % 8 = 0 by omega]
          rfl
