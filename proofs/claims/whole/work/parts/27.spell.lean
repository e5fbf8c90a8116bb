/-! Spelling, as it is written: both sides. -/
def let6 (n : Nat) : UInt8 := UInt8.ofNat (if n = 0 then 96 else 32 + n)
def quad (a b c : UInt8) : List UInt8 := [let6 (a.toNat / 4), let6 (a.toNat % 4 * 16 + b.toNat / 16), let6 (b.toNat % 16 * 4 + c.toNat / 64), let6 (c.toNat % 64)]
def quads : List UInt8 → List UInt8
  | [] => []
  | [a] => quad a 0 0
  | [a, b] => quad a b 0
  | a :: b :: c :: t => quad a b c ++ quads t
def line (bs : List UInt8) : List UInt8 := let6 bs.length :: (quads bs ++ [10])
def lines (bs : List UInt8) : List UInt8 := if h : bs = [] then [] else line (bs.take 45) ++ lines (bs.drop 45)
termination_by bs.length
decreasing_by
  have : 0 < bs.length := List.length_pos_iff.mpr h
  rw [List.length_drop]
  omega
def spell (bs : List UInt8) : List UInt8 := txt 4 ++ lines bs ++ [96, 10] ++ txt 5
theorem lines_nil : lines [] = [] := by rw [lines]; simp
theorem lines_ne {bs : List UInt8} (h : bs ≠ []) : lines bs = line (bs.take 45) ++ lines (bs.drop 45) := by rw [lines, dif_neg h]
theorem quads_len : ∀ bs : List UInt8, (quads bs).length = (bs.length + 2) / 3 * 4
  | [] => by simp [quads]
  | [a] => by simp [quads, quad]
  | [a, b] => by simp [quads, quad]
  | a :: b :: c :: t => by
    simp only [quads, List.length_append, quads_len t, quad, List.length_cons, List.length_nil]
    omega
theorem line_len (bs : List UInt8) : (line bs).length = (bs.length + 2) / 3 * 4 + 2 := by
  simp [line, quads_len]
theorem lines_len (bs : List UInt8) : (lines bs).length ≤ 62 * ((bs.length + 44) / 45) := by
  by_cases h : bs = []
  · subst h
    rw [lines_nil]
    simp
  · have h0 : 0 < bs.length := List.length_pos_iff.mpr h
    rw [lines_ne h, List.length_append, line_len, List.length_take]
    have ih := lines_len (bs.drop 45)
    rw [List.length_drop] at ih
    omega
termination_by bs.length
decreasing_by
  rw [List.length_drop]
  omega
theorem ii_or_add {a b k : Nat} (h : b < 2 ^ k) : ii ((a * 2 ^ k : Nat) : Int) ||| ii (b : Int) = ii ((a * 2 ^ k + b : Nat) : Int) := by
  rw [ii_or_nat, ← Nat.shiftLeft_eq, Nat.shiftLeft_add_eq_or_of_lt h]
theorem gtD (bs : List UInt8) (j : Nat) : (gt bs (j : Int)).toNat = (bs.getD j 0).toNat := by
  by_cases h : j < bs.length
  · rw [gt_in h, List.getD_eq_getElem?_getD, List.getElem?_eq_getElem h]
    simp
  · rw [gt_out (Or.inr (by omega)), List.getD_eq_getElem?_getD, List.getElem?_eq_none (by omega)]
    rfl
theorem cut_cons {bs : List UInt8} {s e : Nat} (h : s < e) (h2 : e ≤ bs.length) : cut bs s e = bs.getD s 0 :: cut bs (s + 1) e := by
  unfold cut
  rw [List.drop_eq_getElem_cons (by rw [List.length_take]; omega), List.getElem_take, List.getD_eq_getElem?_getD, List.getElem?_eq_getElem (by omega)]
  rfl
theorem cut_nil (bs : List UInt8) {s e : Nat} (h : e ≤ s) : cut bs s e = [] := by
  apply List.eq_nil_of_length_eq_zero
  rw [cut_len]
  omega
theorem quads_step {bs : List UInt8} {s e : Nat} (h : s < e) (h2 : e ≤ bs.length) (h3 : 3 ≤ e - s ∨ e = bs.length) : quads (cut bs s e) = quad (bs.getD s 0) (bs.getD (s + 1) 0) (bs.getD (s + 2) 0) ++ quads (cut bs (s + 3) e) := by
  have out0 : ∀ j, bs.length ≤ j → bs.getD j 0 = 0 := fun j hj => by rw [List.getD_eq_getElem?_getD, List.getElem?_eq_none hj]; rfl
  by_cases h1 : e = s + 1
  · subst h1
    rw [cut_cons h h2, cut_nil bs (Nat.le_refl _), cut_nil bs (by omega), out0 (s + 1) (by omega), out0 (s + 2) (by omega)]
    simp [quads]
  · by_cases h4 : e = s + 2
    · subst h4
      rw [cut_cons h h2, cut_cons (by omega) h2, cut_nil bs (Nat.le_refl _), cut_nil bs (by omega), out0 (s + 2) (by omega)]
      simp [quads]
    · rw [cut_cons h h2, cut_cons (by omega) h2, cut_cons (by omega) h2]
      rfl
section SPW
variable {M : zM} {bs out : List UInt8}
theorem s_letter {n : Nat} {post : Int32 → zM → Prop} (h : n ≤ 63) (k : ∀ v, b8 v = let6 n → post v M) : Wp_Sp_letter (ii n) M post := by
  unfold Wp_Sp_letter
  rw [show (0 : Int32) = ii 0 from rfl, ii_eq (by omega) (by omega) (by omega) (by omega)]
  refine ⟨fun q => k _ ?_, fun q => k _ ?_⟩
  · rw [show (32 : Int32) = ii 32 from rfl, ii_add, show ((32 : Int) + n) = ((32 + n : Nat) : Int) by omega, b8_nat]
    unfold let6
    rw [if_neg (by omega)]
  · rw [show (96 : Int32) = ii ((96 : Nat) : Int) from rfl, b8_nat]
    unfold let6
    rw [if_pos (by omega)]
theorem mx0 (x : Int) (h1 : -1 ≤ x) (h2 : x ≤ 255) : (if ii x < 0 then (0 : Int32) else ii x) = ii ((x.toNat : Nat) : Int) := by
  have hn := ii_nneg (a := x) (by omega) (by omega)
  by_cases h : x < 0
  · rw [if_pos (hn.mpr h), show x.toNat = 0 by omega]
    rfl
  · rw [if_neg (fun q => h (hn.mp q)), show ((x.toNat : Nat) : Int) = x by omega]
theorem three_ii {a b c : Nat} (ha : a < 256) (hb : b < 256) (hc : c < 256) : ((ii (a : Int) <<< (16 &&& 31)) ||| (ii (b : Int) <<< (8 &&& 31))) ||| ii (c : Int) = ii ((a * 65536 + b * 256 + c : Nat) : Int) := by
  rw [show ((16 : Int32) &&& 31) = ii ((16 : Nat) : Int) from rfl, show ((8 : Int32) &&& 31) = ii ((8 : Nat) : Int) from rfl, ii_shl _ (by decide), ii_shl _ (by decide)]
  rw [show ((a : Int) * 2 ^ 16) = ((a * 2 ^ 16 : Nat) : Int) by simp, show ((b : Int) * 2 ^ 8) = ((b * 2 ^ 8 : Nat) : Int) by simp, ii_or_add (by omega)]
  rw [show a * 2 ^ 16 + b * 2 ^ 8 = (a * 2 ^ 8 + b) * 2 ^ 8 by omega, ii_or_add (by omega)]
/-- the four letters of three bytes -/
theorem s_quad {K : Int32 → Int32 → Int32 → zM → Prop} {K1 : Int32 → zM → Prop} {r : Nat} {v : Int32} {a b c : UInt8} (hR : Rw M r out) (hroom : out.length + 4 ≤ ln (r + 1))
    (hK : ∀ (v4 : Int32) (v5 : Int32) (v6 : Int32) (M : zM), ((v6 < 0 → (∀ x12 : Int32, x12 = v4 + 3 → (K1 x12 M))) ∧ (¬ v6 < 0 → (Wp_Sp_letter ((v5 >>> (v6 &&& 31)) &&& 63) M (fun x14 M13 => (Wp_Ro_put r x14 M13 (fun M15 => (∀ x16 : Int32, x16 = v6 + (-6) → (K v4 v5 x16 M15)))))))) → K v4 v5 v6 M)
    (k : ∀ M', Only [r, r + 1] M M' → Rw M' r (out ++ quad a b c) → K1 (v + 3) M') : K v (ii ((a.toNat * 65536 + b.toNat * 256 + c.toNat : Nat) : Int)) 18 M := by
  have ha := UInt8.toNat_lt a
  have hb := UInt8.toNat_lt b
  have hc := UInt8.toNat_lt c
  have one : ∀ (s : Nat) (M1 : zM) (o : List UInt8), s ≤ 18 → Rw M1 r o → o.length < ln (r + 1) → (∀ M2, Only [r, r + 1] M1 M2 → Rw M2 r (o ++ [let6 ((a.toNat * 65536 + b.toNat * 256 + c.toNat) / 2 ^ s % 64)]) → K v (ii ((a.toNat * 65536 + b.toNat * 256 + c.toNat : Nat) : Int)) (ii ((s : Int) - 6)) M2) → K v (ii ((a.toNat * 65536 + b.toNat * 256 + c.toNat : Nat) : Int)) (ii (s : Int)) M1 := by
    intro s M1 o hs hR1 hr1 hk
    refine hK _ _ _ _ ⟨fun q => ?_, fun _ => ?_⟩
    · rw [ii_nneg (by omega) (by omega)] at q
      omega
    · rw [show (31 : Int32) = ii 31 from rfl, ii_and31 (by omega) (by omega), ii_shr (by omega) (by omega) (by omega)]
      have h6 := ii_mask (((a.toNat * 65536 + b.toNat * 256 + c.toNat : Nat) : Int) / 2 ^ s) 6 (by decide)
      rw [show (2 ^ 6 - 1 : Int) = 63 from rfl] at h6
      rw [show (63 : Int32) = ii 63 from rfl, h6]
      have e : (((a.toNat * 65536 + b.toNat * 256 + c.toNat : Nat) : Int) / 2 ^ s % 2 ^ 6) = (((a.toNat * 65536 + b.toNat * 256 + c.toNat) / 2 ^ s % 64 : Nat) : Int) := by
        rw [Int.natCast_emod, Int.natCast_ediv]
        simp
      rw [e]
      refine s_letter (by omega) (fun x hx => s_put hR1 hr1 (fun M2 ho2 hR2 => ?_))
      rintro y rfl
      rw [hx] at hR2
      rw [show (-6 : Int32) = ii (-6) from rfl, ii_add]
      exact hk M2 ho2 hR2
  refine one 18 M out (by decide) hR (by omega) (fun M1 o1 R1 => ?_)
  refine one 12 M1 _ (by decide) R1 (by simp; omega) (fun M2 o2 R2 => ?_)
  refine one 6 M2 _ (by decide) R2 (by simp; omega) (fun M3 o3 R3 => ?_)
  refine one 0 M3 _ (by decide) R3 (by simp; omega) (fun M4 o4 R4 => ?_)
  refine hK _ _ _ _ ⟨fun _ => ?_, fun q => absurd (by decide) q⟩
  rintro y rfl
  refine k M4 (((o1.trans o2).trans o3).trans o4) ?_
  have e1 : (a.toNat * 65536 + b.toNat * 256 + c.toNat) / 2 ^ 18 % 64 = a.toNat / 4 := by omega
  have e2 : (a.toNat * 65536 + b.toNat * 256 + c.toNat) / 2 ^ 12 % 64 = a.toNat % 4 * 16 + b.toNat / 16 := by omega
  have e3 : (a.toNat * 65536 + b.toNat * 256 + c.toNat) / 2 ^ 6 % 64 = b.toNat % 16 * 4 + c.toNat / 64 := by omega
  have e4 : (a.toNat * 65536 + b.toNat * 256 + c.toNat) / 2 ^ 0 % 64 = c.toNat % 64 := by omega
  rw [e1, e2, e3, e4] at R4
  simpa [quad] using R4
theorem s_writeLine {a r at_ n : Nat} {post : zM → Prop} (ha : Rw M a bs) (hR : Rw M r out) (d1 : a ≠ r) (d2 : a ≠ r + 1) (d3 : a + 1 ≠ r) (d4 : a + 1 ≠ r + 1) (hn : at_ + n ≤ bs.length) (hn2 : n ≤ 45) (hn3 : n = 45 ∨ at_ + n = bs.length) (hroom : out.length + (line (cut bs at_ (at_ + n))).length ≤ ln (r + 1))
    (k : ∀ M', Only [r, r + 1] M M' → Rw M' r (out ++ line (cut bs at_ (at_ + n))) → post M') : Wp_Sp_writeLine a (ii at_) (ii n) r M post := by
  have hl := ha.len
  have hcl : (cut bs at_ (at_ + n)).length = n := by rw [cut_len]; omega
  rw [line_len, hcl] at hroom
  have keep : ∀ {M'}, Only [r, r + 1] M M' → Rw M' a bs := fun ho => ha.only ho (by simp; omega) (by simp; omega)
  unfold Wp_Sp_writeLine
  intro K1 K hK1 hK
  refine s_letter (by omega) (fun v hv => s_put hR (by omega) (fun M1 o1 R1 => ?_))
  rw [hv] at R1
  suffices H : ∀ (m i : Nat) (o : List UInt8) (M2 : zM), n - i ≤ m → i % 3 = 0 → Only [r, r + 1] M M2 → Rw M2 r o → o ++ quads (cut bs (at_ + i) (at_ + n)) = (out ++ [let6 n]) ++ quads (cut bs at_ (at_ + n)) → i ≤ n + 2 → K1 (ii ((at_ + i : Nat) : Int)) M2 by
    exact H n 0 _ M1 (by omega) rfl o1 R1 (by simp) (by omega)
  intro m
  induction m with
  | zero =>
    intro i o M2 hm hi3 ho hR2 he hi2
    rw [cut_nil bs (by omega)] at he
    simp only [quads, List.append_nil] at he
    have hol : o.length = out.length + 1 + (n + 2) / 3 * 4 := by
      rw [he, List.length_append, quads_len, hcl]
      simp
    refine hK1 _ _ ⟨fun _ => ?_, fun q => ?_⟩
    · refine s_put hR2 (by omega) (fun M3 o3 R3 => k M3 (ho.trans o3) ?_)
      rw [he, show b8 (10 : Int32) = 10 from rfl] at R3
      unfold line
      rw [hcl]
      simpa using R3
    · rw [ii_add, ii_le (by omega) (by omega) (by omega) (by omega)] at q
      omega
  | succ m ih =>
    intro i o M2 hm hi3 ho hR2 he hi2
    by_cases hin : n ≤ i
    · exact ih i o M2 (by omega) hi3 ho hR2 he hi2
    · have hst := quads_step (bs := bs) (s := at_ + i) (e := at_ + n) (by omega) hn (by omega)
      have hol : o.length + (n - i + 2) / 3 * 4 = out.length + 1 + (n + 2) / 3 * 4 := by
        have := congrArg List.length he
        rw [List.length_append, List.length_append, quads_len, quads_len, cut_len, hcl] at this
        simp at this
        omega
      refine hK1 _ _ ⟨fun q => ?_, fun _ => ?_⟩
      · rw [ii_add, ii_le (by omega) (by omega) (by omega) (by omega)] at q
        omega
      · have ha2 := keep ho
        rw [show (1 : Int32) = ii 1 from rfl, show (2 : Int32) = ii 2 from rfl, ii_add, ii_add, show (((at_ + i : Nat) : Int) + 1) = ((at_ + i + 1 : Nat) : Int) by omega, show (((at_ + i : Nat) : Int) + 2) = ((at_ + i + 2 : Nat) : Int) by omega]
        refine s_at ha2 (by omega) (by omega) (s_at ha2 (by omega) (by omega) (s_at ha2 (by omega) (by omega) ?_))
        rintro x rfl
        have g0 := gt_rng bs ((at_ + i : Nat) : Int)
        have g1 := gt_rng bs ((at_ + i + 1 : Nat) : Int)
        have g2 := gt_rng bs ((at_ + i + 2 : Nat) : Int)
        rw [mx0 _ g0.1 g0.2, mx0 _ g1.1 g1.2, mx0 _ g2.1 g2.2, three_ii (by omega) (by omega) (by omega), gtD, gtD, gtD]
        refine s_quad hR2 (by omega) hK (fun M3 o3 R3 => ?_)
        rw [show (3 : Int32) = ii 3 from rfl, ii_add, show (((at_ + i : Nat) : Int) + 3) = ((at_ + (i + 3) : Nat) : Int) by omega]
        refine ih (i + 3) _ M3 (by omega) (by omega) (ho.trans o3) R3 ?_ (by omega)
        rw [hst] at he
        rw [← he, ← Nat.add_assoc]
        simp
theorem s_write {a r : Nat} {post : zM → Prop} (ha : Rw M a bs) (d1 : a ≠ r) (d2 : a ≠ r + 1) (d3 : a + 1 ≠ r) (hroom : (spell bs).length ≤ ln (r + 1)) (k : ∀ M', Only [r, r + 1] M M' → Rw M' r (spell bs) → post M') : Wp_Sp_write a r M post := by
  have hl := ha.len
  have keep : ∀ {M'}, Only [r, r + 1] M M' → Rw M' a bs := fun ho => ha.only ho (by simp; omega) (by simp; omega)
  have hl2 : (spell bs).length = (txt 4).length + (lines bs).length + 2 + (txt 5).length := by simp [spell]; omega
  have t4 : (txt 4).length = 15 := by decide +kernel
  have t5 : (txt 5).length = 4 := by decide +kernel
  unfold Wp_Sp_write
  intro K hK
  refine s_wipe (fun M1 o1 _ R1 => s_putText (by decide) R1 (by simp; omega) (fun M2 o2 R2 => ?_))
  suffices H : ∀ (m i : Nat) (o : List UInt8) (M2 : zM), bs.length - i ≤ m → Only [r, r + 1] M M2 → Rw M2 r o → o ++ lines (bs.drop i) = txt 4 ++ lines bs → i ≤ bs.length + 45 → K (ii (i : Int)) M2 by
    exact H bs.length 0 _ M2 (by omega) ((o1.mono (by simp)).trans o2) R2 (by simp) (by omega)
  intro m
  induction m with
  | zero =>
    intro i o M3 hm ho hR he hi
    have ha3 := keep ho
    rw [List.drop_eq_nil_of_le (by omega), lines_nil, List.append_nil] at he
    refine hK _ _ ⟨fun _ => ?_, fun q => ?_⟩
    · rw [ha3.1, show (0 : Int32) = ii ((0 : Nat) : Int) from rfl]
      have hc : cut bs bs.length (bs.length + 0) = [] := cut_nil bs (by omega)
      have hln : line [] = [96, 10] := by decide +kernel
      have hol : o.length = 15 + (lines bs).length := by rw [he, List.length_append, t4]
      refine s_writeLine ha3 hR d1 d2 d3 (by omega) (by omega) (by omega) (by omega) (by rw [hc, hln]; simp; omega) (fun M4 o4 R4 => ?_)
      rw [hc, hln] at R4
      refine s_putText (by decide) R4 (by simp; omega) (fun M5 o5 R5 => k M5 ((ho.trans o4).trans o5) ?_)
      rw [he] at R5
      exact R5
    · rw [ha3.1, ii_le (by omega) (by omega) (by omega) (by omega)] at q
      omega
  | succ m ih =>
    intro i o M3 hm ho hR he hi
    by_cases hin : bs.length ≤ i
    · exact ih i o M3 (by omega) ho hR he hi
    · have ha3 := keep ho
      have hne : bs.drop i ≠ [] := fun c => by
        have := congrArg List.length c
        rw [List.length_drop] at this
        simp at this
        omega
      rw [lines_ne hne, List.drop_drop] at he
      refine hK _ _ ⟨fun q => ?_, fun _ => ?_⟩
      · rw [ha3.1, ii_le (by omega) (by omega) (by omega) (by omega)] at q
        omega
      · have ecut : (bs.drop i).take 45 = cut bs i (i + min (bs.length - i) 45) := by
          unfold cut
          rw [List.drop_take]
          by_cases h45 : bs.length - i ≤ 45
          · rw [Nat.min_eq_left h45, List.take_of_length_le (by rw [List.length_drop]; omega), List.take_of_length_le (by rw [List.length_drop]; omega)]
          · rw [Nat.min_eq_right (by omega), Nat.add_sub_cancel_left]
        have eif : (if (M3.1 a 1 - ii (i : Int)) < 45 then (M3.1 a 1 - ii (i : Int)) else 45) = ii ((min (bs.length - i) 45 : Nat) : Int) := by
          rw [ha3.1, ii_sub, show (45 : Int32) = ii 45 from rfl]
          have hlt := ii_lt (a := (bs.length : Int) - i) (b := 45) (by omega) (by omega) (by decide) (by decide)
          by_cases h45 : (bs.length : Int) - i < 45
          · rw [if_pos (hlt.mpr h45)]
            congr 1
            omega
          · rw [if_neg (fun q => h45 (hlt.mp q))]
            congr 1
            omega
        rw [eif]
        rw [ecut] at he
        have hol := congrArg List.length he
        simp only [List.length_append] at hol
        refine s_writeLine ha3 hR d1 d2 d3 (by omega) (by omega) (by omega) (by omega) (by omega) (fun M4 o4 R4 => ?_)
        rintro x rfl
        rw [show (45 : Int32) = ii 45 from rfl, ii_add, show ((i : Int) + 45) = ((i + 45 : Nat) : Int) by omega]
        refine ih (i + 45) _ M4 (by omega) (ho.trans o4) R4 ?_ (by omega)
        rw [← he]
        simp
end SPW
