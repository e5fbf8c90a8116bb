/-! The reference's reader of codes and layer of strings. -/
def chS (bf la : Nat → Int32) : Nat → Nat → List UInt8
  | 0, c => [UInt8.ofNat c]
  | f + 1, c => if c ≤ 256 then [UInt8.ofNat c] else chS bf la f (bf c).toNatClampNeg ++ [b8 (la c)]
/-- the string of a code, as the memory has it -/
def strM (bf la : Nat → Int32) (c : Nat) : List UInt8 := chS bf la c c
def ChI (bf : Nat → Int32) (n : Nat) : Prop := ∀ c, 257 ≤ c → c < n → ∃ par : Nat, bf c = ii par ∧ par < c ∧ par ≠ 256
theorem chS_fuel {bf la : Nat → Int32} {n : Nat} (h : ChI bf n) (hn : n ≤ 70000) : ∀ (c f f' : Nat), c < n ∨ c ≤ 256 → c ≤ f → c ≤ f' → chS bf la f c = chS bf la f' c := by
  intro c
  induction c using Nat.strongRecOn with
  | ind c ih =>
    intro f f' hc h1 h2
    by_cases q : c ≤ 256
    · have e : ∀ f, chS bf la f c = [UInt8.ofNat c] := fun f => by
        cases f with
        | zero => rfl
        | succ f => show (if c ≤ 256 then _ else _) = _; rw [if_pos q]
      rw [e f, e f']
    · obtain ⟨par, p1, p2, p3⟩ := h c (by omega) (by omega)
      obtain ⟨f0, rfl⟩ : ∃ f0, f = f0 + 1 := ⟨f - 1, by omega⟩
      obtain ⟨f1, rfl⟩ : ∃ f1, f' = f1 + 1 := ⟨f' - 1, by omega⟩
      show (if c ≤ 256 then _ else chS bf la f0 (bf c).toNatClampNeg ++ [b8 (la c)]) = (if c ≤ 256 then _ else chS bf la f1 (bf c).toNatClampNeg ++ [b8 (la c)])
      rw [if_neg q, if_neg q, p1, ii_nat (by omega) (by omega), Int.toNat_natCast, ih par p2 f0 f1 (by omega) (by omega) (by omega)]
theorem strM_lo (bf la : Nat → Int32) {c : Nat} (h : c ≤ 256) : strM bf la c = [UInt8.ofNat c] := by
  unfold strM
  cases c with
  | zero => rfl
  | succ f => show (if f + 1 ≤ 256 then _ else _) = _; rw [if_pos h]
theorem strM_hi {bf la : Nat → Int32} {n c par : Nat} (h : ChI bf n) (hn : n ≤ 70000) (h1 : 257 ≤ c) (h2 : c < n) (hp : bf c = ii par) (hpl : par < c) : strM bf la c = strM bf la par ++ [b8 (la c)] := by
  unfold strM
  obtain ⟨f0, rfl⟩ : ∃ f0, c = f0 + 1 := ⟨c - 1, by omega⟩
  show (if f0 + 1 ≤ 256 then _ else chS bf la f0 (bf (f0 + 1)).toNatClampNeg ++ [b8 (la (f0 + 1))]) = _
  rw [if_neg (by omega), hp, ii_nat (by omega) (by omega), Int.toNat_natCast, chS_fuel h hn par f0 par (by omega) (by omega) (by omega)]
theorem strM_len {bf la : Nat → Int32} {n : Nat} (h : ChI bf n) (hn : n ≤ 70000) : ∀ c, c < n ∨ c ≤ 256 → 1 ≤ (strM bf la c).length ∧ (strM bf la c).length ≤ c + 1 := by
  intro c
  induction c using Nat.strongRecOn with
  | ind c ih =>
    intro hc
    by_cases q : c ≤ 256
    · rw [strM_lo bf la q]
      simp
    · obtain ⟨par, p1, p2, p3⟩ := h c (by omega) (by omega)
      rw [strM_hi h hn (by omega) (by omega) p1 p2, List.length_append]
      have := ih par p2 (by omega)
      simp
      omega
def DmI (bf la : Nat → Int32) (D : List (Nat × UInt8)) : Prop := ∀ (i : Nat) (h : i < D.length), bf (257 + i) = ii D[i].1 ∧ la (257 + i) = ii ((D[i].2.toNat : Nat) : Int)
theorem strM_str {bf la : Nat → Int32} {n : Nat} {D : List (Nat × UInt8)} (hc : ChI bf n) (hn : n ≤ 70000) (hD : DOk D) (hm : DmI bf la D) (hl : 257 + D.length ≤ n) : ∀ c, c < 257 + D.length → c ≠ 256 → strM bf la c = str D c := by
  intro c
  induction c using Nat.strongRecOn with
  | ind c ih =>
    intro h1 h2
    by_cases q : c < 257
    · rw [strM_lo bf la (by omega), str_byte D q]
    · obtain ⟨i, hi⟩ : ∃ i, c = 257 + i := ⟨c - 257, by omega⟩
      have hiD : i < D.length := by omega
      obtain ⟨m1, m2⟩ := hm i hiD
      obtain ⟨o1, o2⟩ := hD i hiD
      rw [hi, strM_hi hc hn (by omega) (by omega) m1 (by omega), str_at hD hiD, m2, b8_nat, UInt8.ofNat_toNat, ih D[i].1 (by omega) (by omega) o2]
theorem sb_bit : ∀ (b : UInt8), ∀ k : Fin 8, (sb b >>> ii ((k.val : Nat) : Int)) &&& 1 = ii ((b.toNat / 2 ^ k.val % 2 : Nat) : Int) := fun b => u8_all (P := fun b => ∀ k : Fin 8, (sb b >>> ii ((k.val : Nat) : Int)) &&& 1 = ii ((b.toNat / 2 ^ k.val % 2 : Nat) : Int)) (by decide +kernel) b
theorem numB_bit {rs : List UInt8} {n : Nat} (h : n / 8 < rs.length) : numB rs / 2 ^ n % 2 = rs[n / 8].toNat / 2 ^ (n % 8) % 2 := by
  have hd := numB_drop rs (n / 8) (by omega)
  rw [List.drop_eq_getElem_cons h] at hd
  have e2 : 2 ^ n = 2 ^ (8 * (n / 8)) * 2 ^ (n % 8) := by
    rw [← Nat.pow_add]
    congr 1
    omega
  rw [e2, ← Nat.div_div_eq_div_mul, ← hd]
  show (rs[n / 8].toNat + 256 * numB (rs.drop (n / 8 + 1))) / 2 ^ (n % 8) % 2 = _
  have e3 : 256 * numB (rs.drop (n / 8 + 1)) = (2 ^ (7 - n % 8) * numB (rs.drop (n / 8 + 1)) * 2) * 2 ^ (n % 8) := by
    have : (256 : Nat) = 2 ^ (7 - n % 8) * 2 * 2 ^ (n % 8) := by
      rw [← Nat.pow_succ, ← Nat.pow_add, show 7 - n % 8 + 1 + n % 8 = 8 by omega]
    rw [this]
    simp only [Nat.mul_assoc, Nat.mul_comm, Nat.mul_left_comm]
  rw [e3, Nat.add_mul_div_right _ _ (Nat.two_pow_pos _), Nat.add_mul_mod_self_right]
section MEX
variable {M : zM} {rs out : List UInt8}
theorem s_Mo_code {pos w : Nat} {post : Int32 → zM → Prop} (hR : Cw M 45 (413 + 31) rs) (h58 : M.1 413 58 = ii pos) (hw : w ≤ 16) (hp : pos + w ≤ 8 * rs.length) (hrs : rs.length ≤ 36000) (k : ∀ M', OnlyR [58] [] M M' → M'.1 413 58 = ii ((pos + w : Nat) : Int) → post (ii (rdC rs pos w : Nat)) M') : Wp_Mo_code 413 (ii w) M post := by
  have l31 : ln (413 + 31) = 56000 := by decide +kernel
  unfold Wp_Mo_code
  intro K4 K49 h4 h49
  suffices H : ∀ (m i : Nat) (M1 : zM), i + m = w → OnlyR [58] [] M M1 → M1.1 413 58 = ii ((pos + i : Nat) : Int) → K4 (ii (rdC rs pos i : Nat)) (ii i) M1 by
    have := H w 0 M (Nat.zero_add _) OnlyR.rf h58
    rw [show rdC rs pos 0 = 0 from Nat.mod_one _] at this
    exact this
  intro m
  induction m with
  | zero =>
    intro i M1 hi o1 e1
    have ei : i = w := by omega
    subst ei
    exact h4 _ _ _ ⟨fun _ => k M1 o1 e1, fun z => absurd (by rw [ii_le (by omega) (by omega) (by omega) (by omega)]; omega) z⟩
  | succ m ih =>
    intro i M1 hi o1 e1
    have R1 := hR.only o1 (by decide) (by decide) (by decide)
    have hin : (pos + i) / 8 < rs.length := by omega
    have ed : M1.1 413 58 / 8 = ii (((pos + i) / 8 : Nat) : Int) := by
      rw [e1, show (8 : Int32) = ii 8 from rfl, ii_div (by omega) (by omega) (by omega) (by omega), Int.natCast_ediv]
      rfl
    have em : (M1.1 413 58 - ii (((pos + i) / 8 : Nat) : Int) * 8) &&& 31 = ii (((pos + i) % 8 : Nat) : Int) := by
      rw [e1, show (8 : Int32) = ii 8 from rfl, ii_mul, ii_sub, show (((pos + i : Nat) : Int) - (((pos + i) / 8 : Nat) : Int) * 8) = (((pos + i) % 8 : Nat) : Int) by omega, show (31 : Int32) = ii 31 from rfl, ii_and31 (by omega) (by omega)]
    refine h4 _ _ _ ⟨fun z => ?_, fun _ => ⟨fun z => ?_, fun _ => ?_⟩⟩
    · rw [ii_le (by omega) (by omega) (by omega) (by omega)] at z
      omega
    · rw [R1.1, ed, ii_le (by omega) (by omega) (by omega) (by omega)] at z
      omega
    · rw [ed, em]
      refine ⟨ii_in (by omega) (by omega) (by omega), ?_⟩
      rw [ii_nat (by omega) (by omega), Int.toNat_natCast, R1.2.2 _ hin, sb_bit _ ⟨(pos + i) % 8, by omega⟩]
      refine h49 _ _ _ _ ?_
      rintro x rfl M2 h2 y rfl
      have hlt := rdC_lt rs pos i
      have hi16 : 2 ^ i ≤ 65536 := p16 (by omega)
      have eb : (rs[(pos + i) / 8].toNat / 2 ^ ((pos + i) % 8) % 2) = numB rs / 2 ^ pos / 2 ^ i % 2 := by
        rw [← numB_bit hin, Nat.pow_add, Nat.div_div_eq_div_mul]
      have ex : ii (rdC rs pos i : Nat) ||| (ii ((rs[(pos + i) / 8].toNat / 2 ^ ((pos + i) % 8) % 2 : Nat) : Int) <<< (ii (i : Int) &&& 31)) = ii (rdC rs pos (i + 1) : Nat) := by
        rw [show (31 : Int32) = ii 31 from rfl, ii_and31 (by omega) (by omega), ii_shl _ (by omega), eb]
        have c1 : (((numB rs / 2 ^ pos / 2 ^ i % 2 : Nat) : Int) * 2 ^ i) = ((numB rs / 2 ^ pos / 2 ^ i % 2 * 2 ^ i : Nat) : Int) := by simp
        have x1 := ii_or_add (a := numB rs / 2 ^ pos / 2 ^ i % 2) (b := rdC rs pos i) (k := i) hlt
        rw [c1, ii_or_nat, Nat.or_comm, ← ii_or_nat, x1]
        congr 2
        unfold rdC
        rw [Nat.mod_pow_succ, Nat.mul_comm, Nat.add_comm]
      rw [ex, show (1 : Int32) = ii 1 from rfl, ii_add]
      rw [e1, show (1 : Int32) = ii 1 from rfl, ii_add] at h2
      refine ih (i + 1) M2 (by omega) (by rw [h2]; exact o1.fld (by simp)) (by rw [h2, zI_g, if_pos ⟨rfl, rfl⟩]; congr 1)
theorem s_firstByte {n c : Nat} {post : Int32 → zM → Prop} (h : ChI (M.1 (413 + 36)) n) (hn : n ≤ 65537) (hc : c < n ∨ c ≤ 256) (hc2 : c ≠ 256) (k : ∀ x : Nat, x < 256 → (strM (M.1 (413 + 36)) (M.1 (413 + 35)) c).head? = some (UInt8.ofNat x) → post (ii x) M) : Wp_Mo_firstByte 413 (ii c) M post := by
  have l36 : ln (413 + 36) = 65537 := by decide +kernel
  unfold Wp_Mo_firstByte
  intro K hK
  suffices H : ∀ c', (c' < n ∨ c' ≤ 256) → c' ≠ 256 → (strM (M.1 (413 + 36)) (M.1 (413 + 35)) c').head? = (strM (M.1 (413 + 36)) (M.1 (413 + 35)) c).head? → K (ii c') M from H c hc hc2 rfl
  intro c'
  induction c' using Nat.strongRecOn with
  | ind c' ih =>
    intro h1 h2 h3
    refine hK _ _ ?_
    rw [show (256 : Int32) = ii 256 from rfl, ii_le (by omega) (by omega) (by omega) (by omega)]
    refine ⟨fun z => k c' (by omega) ?_, fun z => ⟨ii_in (by omega) (by omega) (by omega), ?_⟩⟩
    · rw [← h3, strM_lo _ _ (by omega)]
      rfl
    · rintro x rfl
      obtain ⟨par, p1, p2, p3⟩ := h c' (by omega) (by omega)
      rw [ii_nat (by omega) (by omega), Int.toNat_natCast, p1]
      refine ih par p2 (by omega) p3 ?_
      rw [← h3, strM_hi h (by omega) (by omega) (by omega) p1 p2]
      have := (strM_len (la := M.1 (413 + 35)) h (by omega) par (by omega)).1
      rw [List.head?_append]
      cases hs : strM (M.1 (413 + 36)) (M.1 (413 + 35)) par with
      | nil => rw [hs] at this; simp at this
      | cons x t => rfl
theorem s_layString {n c : Nat} {post : Int32 → zM → Prop} (hR : Cw M 47 (413 + 32) out) (hol : out.length ≤ 16000) (h : ChI (M.1 (413 + 36)) n) (hn : n ≤ 65537) (hc : c < n ∨ c ≤ 256) (hc2 : c ≠ 256) (k0 : 16000 < out.length + (strM (M.1 (413 + 36)) (M.1 (413 + 35)) c).length → post 0 M) (k1 : ∀ M', OnlyR [47] [413 + 32] M M' → out.length + (strM (M.1 (413 + 36)) (M.1 (413 + 35)) c).length ≤ 16000 → Cw M' 47 (413 + 32) (out ++ strM (M.1 (413 + 36)) (M.1 (413 + 35)) c) → post 1 M') : Wp_Mo_layString 413 (ii c) M post := by
  have l36 : ln (413 + 36) = 65537 := by decide +kernel
  have l35 : ln (413 + 35) = 65537 := by decide +kernel
  have l32 : ln (413 + 32) = 56000 := by decide +kernel
  unfold Wp_Mo_layString
  intro K4 K50 h4 h50
  generalize hS : strM (M.1 (413 + 36)) (M.1 (413 + 35)) c = S at *
  have hSl := strM_len (la := M.1 (413 + 35)) h (by omega) c hc
  rw [hS] at hSl
  suffices H : ∀ c' v, (c' < n ∨ c' ≤ 256) → c' ≠ 256 → v + (strM (M.1 (413 + 36)) (M.1 (413 + 35)) c').length = S.length + 1 → K4 (ii (v : Int)) (ii (c' : Nat)) M from H c 1 hc hc2 (by rw [hS]; omega)
  intro c'
  induction c' using Nat.strongRecOn with
  | ind c' ih =>
    intro v h1 h2 h3
    have hcl := strM_len (la := M.1 (413 + 35)) h (by omega) c' h1
    refine h4 _ _ _ ?_
    rw [show (256 : Int32) = ii 256 from rfl, ii_le (by omega) (by omega) (by omega) (by omega)]
    refine ⟨fun z => ?_, fun z => ?_⟩
    · rw [strM_lo _ _ (by omega)] at h3
      simp only [List.length_cons, List.length_nil] at h3
      have hv : v = S.length := by omega
      subst hv
      rw [hR.1, ii_add, show (16000 : Int32) = ii 16000 from rfl, ii_le (by omega) (by omega) (by omega) (by omega)]
      refine ⟨fun z2 => ?_, fun z2 => k0 (by omega)⟩
      rintro x rfl
      rw [show (1 : Int32) = ii 1 from rfl, ii_sub]
      suffices H2 : ∀ c2 (M1 : zM), (c2 < n ∨ c2 ≤ 256) → c2 ≠ 256 → OnlyR [47] [413 + 32] M M1 → M1.1 413 47 = ii out.length → (∃ suf, S = strM (M.1 (413 + 36)) (M.1 (413 + 35)) c2 ++ suf) → (∀ (j : Nat) (hj : j < S.length), (strM (M.1 (413 + 36)) (M.1 (413 + 35)) c2).length ≤ j → M1.1 (413 + 32) (out.length + j) = sb S[j]) → (∀ (j : Nat) (hj : j < out.length), M1.1 (413 + 32) j = sb out[j]) → K50 (ii S.length) (ii (((out.length + (strM (M.1 (413 + 36)) (M.1 (413 + 35)) c2).length : Nat) : Int) - 1)) (ii (c2 : Nat)) M1 by
        have := H2 c M hc hc2 OnlyR.rf hR.1 ⟨[], by rw [hS, List.append_nil]⟩ (fun j hj h9 => by rw [hS] at h9; omega) hR.2.2
        rw [hS] at this
        exact this
      intro c2
      induction c2 using Nat.strongRecOn with
      | ind c2 ih2 =>
        intro M1 g1 g2 o1 e47 ⟨suf, hsuf⟩ hv1 hv2
        have hcl2 := strM_len (la := M.1 (413 + 35)) h (by omega) c2 g1
        have hlS : S.length = (strM (M.1 (413 + 36)) (M.1 (413 + 35)) c2).length + suf.length := by rw [hsuf, List.length_append]
        have e36 : M1.1 (413 + 36) = M.1 (413 + 36) := o1.1 (413 + 36) (by decide) (by decide)
        have e35 : M1.1 (413 + 35) = M.1 (413 + 35) := o1.1 (413 + 35) (by decide) (by decide)
        generalize hX : strM (M.1 (413 + 36)) (M.1 (413 + 35)) c2 = X at *
        rw [show (((out.length + X.length : Nat) : Int) - 1) = ((out.length + X.length - 1 : Nat) : Int) by omega]
        refine h50 _ _ _ _ ?_
        rw [show (256 : Int32) = ii 256 from rfl, ii_le (by omega) (by omega) (by omega) (by omega)]
        refine ⟨fun y => ⟨ii_in (by omega) (by omega) (by omega), ?_⟩, fun y => ⟨ii_in (by omega) (by omega) (by omega), ii_in (by omega) (by omega) (by omega), ?_⟩⟩
        · rw [strM_lo _ _ (by omega)] at hX
          have hXl : X.length = 1 := by rw [← hX]; rfl
          rw [ii_nat (by omega) (by omega), Int.toNat_natCast, nar_b8', b8_nat]
          rintro M4 h4' M5 h5
          rw [h4', zI_o (by decide), e47, ii_add] at h5
          refine k1 M5 ?_ (by omega) ⟨?_, by rw [List.length_append]; omega, fun j hj => ?_⟩
          · rw [h5]
            exact (o1.arr (by simp) (by decide)).fld (by simp)
          · rw [h5, zI_g, if_pos ⟨rfl, rfl⟩, List.length_append]
            rfl
          · rw [List.length_append] at hj
            rw [h5, zI_o (by decide), zI_g]
            by_cases c3 : j = out.length + X.length - 1
            · rw [if_pos ⟨rfl, c3⟩]
              have e9 : (out ++ S)[j]? = some (UInt8.ofNat c2) := by
                rw [List.getElem?_append_right (by omega), hsuf, ← hX, show j - out.length = 0 by omega]
                rfl
              rw [List.getElem?_eq_getElem (by rw [List.length_append]; omega)] at e9
              rw [Option.some.inj e9]
            · rw [if_neg (fun w => c3 w.2)]
              by_cases c4 : j < out.length
              · rw [List.getElem_append_left c4]
                exact hv2 j c4
              · rw [List.getElem_append_right (by omega)]
                have := hv1 (j - out.length) (by omega) (by omega)
                rw [show out.length + (j - out.length) = j by omega] at this
                exact this
        · obtain ⟨par, p1, p2, p3⟩ := h c2 (by omega) (by omega)
          rw [strM_hi h (by omega) (by omega) (by omega) p1 p2] at hX
          have hXl : X.length = (strM (M.1 (413 + 36)) (M.1 (413 + 35)) par).length + 1 := by rw [← hX, List.length_append]; rfl
          rw [ii_nat (by omega) (by omega), ii_nat (by omega) (by omega), Int.toNat_natCast, Int.toNat_natCast, e35, nar_b8']
          rintro M6 h6 x rfl
          refine ⟨ii_in (by omega) (by omega) (by omega), ?_⟩
          rintro y2 rfl
          rw [h6, zI_o (by decide), e36, p1, show (-1 : Int32) = ii (-1) from rfl, ii_add, show (((out.length + X.length - 1 : Nat) : Int) + -1) = (((out.length + (strM (M.1 (413 + 36)) (M.1 (413 + 35)) par).length : Nat) : Int) - 1) by omega]
          refine ih2 par p2 _ (by omega) p3 (o1.arr (by simp) (by decide)) (by rw [zI_o (by decide)]; exact e47) ⟨[b8 (M.1 (413 + 35) c2)] ++ suf, by rw [hsuf, ← hX, List.append_assoc]⟩ (fun j hj hj2 => ?_) (fun j hj => ?_)
          · rw [zI_g]
            by_cases c3 : j = X.length - 1
            · rw [if_pos ⟨rfl, by omega⟩]
              have e9 : S[j]? = some (b8 (M.1 (413 + 35) c2)) := by
                rw [hsuf, ← hX, List.append_assoc, List.getElem?_append_right (by omega), show j - (strM (M.1 (413 + 36)) (M.1 (413 + 35)) par).length = 0 by omega]
                rfl
              rw [List.getElem?_eq_getElem hj] at e9
              rw [Option.some.inj e9]
            · rw [if_neg (fun w => c3 (by omega))]
              exact hv1 j hj (by omega)
          · rw [zI_g, if_neg (by omega)]
            exact hv2 j hj
    · rintro x rfl
      refine ⟨ii_in (by omega) (by omega) (by omega), ?_⟩
      rintro y rfl
      obtain ⟨par, p1, p2, p3⟩ := h c' (by omega) (by omega)
      rw [ii_nat (by omega) (by omega), Int.toNat_natCast, p1, show (1 : Int32) = ii 1 from rfl, ii_add]
      refine ih par p2 (v + 1) (by omega) p3 ?_
      rw [strM_hi h (by omega) (by omega) (by omega) p1 p2, List.length_append] at h3
      simp only [List.length_cons, List.length_nil] at h3
      omega
end MEX
