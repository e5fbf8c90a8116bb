/-! Spelled text read back: MailChain's side. -/
theorem let6_six {n : Nat} (h : n ≤ 63) : ((let6 n).toNat + 32) % 64 = n := by
  have : ∀ n : Fin 64, ((let6 n.val).toNat + 32) % 64 = n.val := by decide +kernel
  exact this ⟨n, by omega⟩
theorem let6_min {n : Nat} (h1 : 1 ≤ n) (h : n ≤ 63) : (let6 n).toNat = 32 + n := by
  have : ∀ n : Fin 64, 1 ≤ n.val → (let6 n.val).toNat = 32 + n.val := by decide +kernel
  exact this ⟨n, by omega⟩ h1
theorem quads_drop {l : List UInt8} {k : Nat} (h : k < l.length) : quads (l.drop k) = quad (l.getD k 0) (l.getD (k + 1) 0) (l.getD (k + 2) 0) ++ quads (l.drop (k + 3)) := by
  have := quads_step (bs := l) (s := k) (e := l.length) h (Nat.le_refl _) (Or.inr rfl)
  rw [cut_end, cut_end] at this
  exact this
theorem quad_len (a b c : UInt8) : (quad a b c).length = 4 := rfl
theorem quads_pos {l tx Z : List UInt8} {s : Nat} (h : tx.drop s = quads l ++ Z) : ∀ m, 3 * m < l.length + 3 → tx.drop (s + 4 * m) = quads (l.drop (3 * m)) ++ Z
  | 0, _ => h
  | m + 1, hm => by
    have ih := quads_pos h m (by omega)
    rw [quads_drop (show 3 * m < l.length by omega), List.append_assoc] at ih
    have e : tx.drop (s + 4 * (m + 1)) = (tx.drop (s + 4 * m)).drop 4 := by rw [List.drop_drop]; congr 1
    rw [e, ih]
    rfl
def spTl : List UInt8 := [96, 10] ++ txt 5
theorem spell_drop (q : List UInt8) : (spell q).drop 15 = lines q ++ spTl := by
  have h4 : (txt 4).length = 15 := by decide +kernel
  unfold spell
  rw [← h4, List.append_assoc, List.append_assoc, List.drop_left]
  rfl
/-- what is read so far, and what is still to be read -/
def RdI (tx : List UInt8) (most at_ : Nat) (out : List UInt8) : Prop := ∀ q, tx = spell q → q.length ≤ most → ∃ rest, q = out ++ rest ∧ tx.drop at_ = lines rest ++ spTl
def sixN (tx : List UInt8) (j : Nat) : Nat := ((gt tx (j : Int) - 32) % 64).toNat
theorem sixN_le (tx : List UInt8) (j : Nat) : sixN tx j ≤ 63 := by
  unfold sixN
  omega
theorem sixN_at {tx : List UInt8} {j : Nat} {n : Nat} (h : tx[j]? = some (let6 n)) (hn : n ≤ 63) : sixN tx j = n := by
  obtain ⟨h1, h2⟩ := List.getElem?_eq_some_iff.mp h
  have h3 := let6_six hn
  unfold sixN
  rw [gt_in h1, h2]
  omega
def decN (tx : List UInt8) (s i : Nat) : Nat := (sixN tx (s + i / 3 * 4 + i % 3) * 64 + sixN tx (s + i / 3 * 4 + i % 3 + 1)) / 2 ^ (4 - 2 * (i % 3))
def decs8 (tx : List UInt8) (s n : Nat) : List UInt8 := (List.range n).map (fun i => UInt8.ofNat (decN tx s i))
theorem decs8_succ (tx : List UInt8) (s n : Nat) : decs8 tx s (n + 1) = decs8 tx s n ++ [UInt8.ofNat (decN tx s n)] := by simp [decs8, List.range_succ]
theorem decs8_len (tx : List UInt8) (s n : Nat) : (decs8 tx s n).length = n := by simp [decs8]
theorem quad_six {tx : List UInt8} {s : Nat} {a b c : UInt8} {Z : List UInt8} (h : tx.drop s = quad a b c ++ Z) : sixN tx s = a.toNat / 4 ∧ sixN tx (s + 1) = a.toNat % 4 * 16 + b.toNat / 16 ∧ sixN tx (s + 2) = b.toNat % 16 * 4 + c.toNat / 64 ∧ sixN tx (s + 3) = c.toNat % 64 := by
  have ha := UInt8.toNat_lt a
  have hb := UInt8.toNat_lt b
  have hc := UInt8.toNat_lt c
  have g : ∀ j, (tx.drop s)[j]? = tx[s + j]? := fun j => List.getElem?_drop
  rw [h] at g
  refine ⟨sixN_at (g 0).symm (by omega), sixN_at (g 1).symm (by omega), sixN_at (g 2).symm (by omega), sixN_at (g 3).symm (by omega)⟩
theorem dec_at {l tx Z : List UInt8} {s i : Nat} (h : tx.drop s = quads l ++ Z) (hi : i < l.length) : UInt8.ofNat (decN tx s i) = l[i] := by
  have hp := quads_pos h (i / 3) (by omega)
  rw [quads_drop (show 3 * (i / 3) < l.length by omega), List.append_assoc] at hp
  obtain ⟨q0, q1, q2, q3⟩ := quad_six hp
  have ha := UInt8.toNat_lt (l.getD (3 * (i / 3)) 0)
  have hb := UInt8.toNat_lt (l.getD (3 * (i / 3) + 1) 0)
  have hc := UInt8.toNat_lt (l.getD (3 * (i / 3) + 2) 0)
  rw [← getD_in hi]
  apply UInt8.toNat_inj.mp
  rw [UInt8.toNat_ofNat']
  unfold decN
  rw [show s + i / 3 * 4 = s + 4 * (i / 3) by omega]
  have hm : i % 3 = 0 ∨ i % 3 = 1 ∨ i % 3 = 2 := by omega
  rcases hm with m | m | m
  · rw [m, Nat.add_zero, q0, q1, show i = 3 * (i / 3) by omega]
    rw [show 3 * (3 * (i / 3) / 3) = 3 * (i / 3) by omega]
    generalize l.getD (3 * (i / 3)) 0 = a at *
    generalize l.getD (3 * (i / 3) + 1) 0 = b at *
    show (a.toNat / 4 * 64 + (a.toNat % 4 * 16 + b.toNat / 16)) / 16 % 256 = a.toNat
    omega
  · rw [m, q1, q2]
    have e : l.getD i 0 = l.getD (3 * (i / 3) + 1) 0 := by congr 1; omega
    rw [e]
    generalize l.getD (3 * (i / 3)) 0 = a at *
    generalize l.getD (3 * (i / 3) + 1) 0 = b at *
    generalize l.getD (3 * (i / 3) + 2) 0 = c at *
    show ((a.toNat % 4 * 16 + b.toNat / 16) * 64 + (b.toNat % 16 * 4 + c.toNat / 64)) / 4 % 256 = b.toNat
    omega
  · rw [m, q2, q3]
    have e : l.getD i 0 = l.getD (3 * (i / 3) + 2) 0 := by congr 1; omega
    rw [e]
    generalize l.getD (3 * (i / 3) + 1) 0 = b at *
    generalize l.getD (3 * (i / 3) + 2) 0 = c at *
    show ((b.toNat % 16 * 4 + c.toNat / 64) * 64 + c.toNat % 64) / 1 % 256 = c.toNat
    omega
theorem decs8_eq {l tx Z : List UInt8} {s : Nat} (h : tx.drop s = quads l ++ Z) : decs8 tx s l.length = l := by
  apply List.ext_getElem
  · rw [decs8_len]
  · intro i h1 h2
    have e : (decs8 tx s l.length)[i] = UInt8.ofNat (decN tx s i) := by
      simp [decs8]
    rw [e]
    exact dec_at h h2
section RDL
variable {M : zM} {a r : Nat} {tx : List UInt8}
theorem s_sixOf {j : Nat} {post : Int32 → zM → Prop} (k : post (ii (sixN tx j : Nat)) M) : Wp_Sp_sixOf (ii (gt tx (j : Int))) M post := by
  unfold Wp_Sp_sixOf
  have := ii_mask (gt tx (j : Int) - 32) 6 (by decide)
  rw [show (2 ^ 6 - 1 : Int) = 63 from rfl] at this
  rw [show (32 : Int32) = ii 32 from rfl, show (63 : Int32) = ii 63 from rfl, ii_sub, this]
  unfold sixN at k
  have e : ((((gt tx (j : Int) - 32) % 64).toNat : Nat) : Int) = (gt tx (j : Int) - 32) % 2 ^ 6 := by
    show _ = (gt tx (j : Int) - 32) % 64
    omega
  rw [e] at k
  exact k
theorem s_readLine {s n : Nat} {out : List UInt8} {post : zM → Prop} (ha : Rw M a tx) (hR : Rw M r out) (hs : s ≤ 60000) (hn : n ≤ 63) (d1 : a ≠ r) (d2 : a ≠ r + 1) (d3 : a + 1 ≠ r) (d4 : a + 1 ≠ r + 1)
    (k : ∀ M' out', Only [r, r + 1] M M' → Rw M' r out' → (out.length + n ≤ ln (r + 1) → out' = out ++ decs8 tx s n) → post M') : Wp_Sp_readLine a (ii s) (ii n) r M post := by
  unfold Wp_Sp_readLine
  intro K hK
  suffices H : ∀ (m i : Nat) (M1 : zM) (out' : List UInt8), i + m = n → Only [r, r + 1] M M1 → Rw M1 r out' → (out.length + n ≤ ln (r + 1) → out' = out ++ decs8 tx s i) → K (ii i) M1 from H n 0 M out (Nat.zero_add _) Only.rf hR (fun _ => by simp [decs8])
  intro m
  induction m with
  | zero =>
    intro i M1 out' hi o1 R1 h1
    have ei : i = n := by omega
    subst ei
    exact hK _ _ ⟨fun _ => k M1 out' o1 R1 h1, fun z => absurd (by rw [ii_le (by omega) (by omega) (by omega) (by omega)]; omega) z⟩
  | succ m ih =>
    intro i M1 out' hi o1 R1 h1
    have A1 : Rw M1 a tx := ha.only o1 (by simp; omega) (by simp; omega)
    refine hK _ _ ⟨fun z => ?_, fun _ => ?_⟩
    · rw [ii_le (by omega) (by omega) (by omega) (by omega)] at z
      omega
    · have ed : ii (i : Int) / 3 = ii ((i / 3 : Nat) : Int) := by
        rw [show (3 : Int32) = ii 3 from rfl, ii_div (by omega) (by omega) (by omega) (by omega), Int.natCast_ediv]
        rfl
      have em : ii (i : Int) - ii ((i / 3 : Nat) : Int) * 3 = ii ((i % 3 : Nat) : Int) := by
        rw [show (3 : Int32) = ii 3 from rfl, ii_mul, ii_sub]
        congr 1
        omega
      have ex : ii (s : Int) + ii ((i / 3 : Nat) : Int) * 4 + ii ((i % 3 : Nat) : Int) = ii ((s + i / 3 * 4 + i % 3 : Nat) : Int) := by
        rw [show (4 : Int32) = ii 4 from rfl, ii_mul, ii_add, ii_add]
        congr 1
      have es : (4 : Int32) - 2 * ii ((i % 3 : Nat) : Int) = ii ((4 - 2 * (i % 3) : Nat) : Int) := by
        rw [show (4 : Int32) = ii 4 from rfl, show (2 : Int32) = ii 2 from rfl, ii_mul, ii_sub]
        congr 1
        omega
      rw [ed, em, ex, es]
      rintro x rfl
      have g1 := sixN_le tx (s + i / 3 * 4 + i % 3)
      have g2 := sixN_le tx (s + i / 3 * 4 + i % 3 + 1)
      refine s_at A1 (by omega) (by omega) (s_sixOf ?_)
      rw [show (1 : Int32) = ii 1 from rfl, ii_add, show (((s + i / 3 * 4 + i % 3 : Nat) : Int) + 1) = ((s + i / 3 * 4 + i % 3 + 1 : Nat) : Int) by omega]
      refine s_at A1 (by omega) (by omega) (s_sixOf ?_)
      rintro y rfl
      have eo : (ii (sixN tx (s + i / 3 * 4 + i % 3) : Nat) <<< (6 &&& 31)) ||| ii (sixN tx (s + i / 3 * 4 + i % 3 + 1) : Nat) = ii ((sixN tx (s + i / 3 * 4 + i % 3) * 64 + sixN tx (s + i / 3 * 4 + i % 3 + 1) : Nat) : Int) := by
        rw [show ((6 : Int32) &&& 31) = ii ((6 : Nat) : Int) from rfl, ii_shl _ (by omega)]
        exact ii_or_add (a := sixN tx (s + i / 3 * 4 + i % 3)) (k := 6) (by omega)
      have ev : ii ((sixN tx (s + i / 3 * 4 + i % 3) * 64 + sixN tx (s + i / 3 * 4 + i % 3 + 1) : Nat) : Int) >>> (ii ((4 - 2 * (i % 3) : Nat) : Int) &&& 31) = ii (decN tx s i : Nat) := by
        rw [show (31 : Int32) = ii 31 from rfl, ii_and31 (by omega) (by omega), ii_shr (by omega) (by omega) (by omega)]
        unfold decN
        rw [Int.natCast_ediv]
        congr 2
      rw [eo, ev]
      by_cases hf : out'.length < ln (r + 1)
      · refine s_put R1 hf (fun M2 o2 R2 => ?_)
        rintro z rfl
        rw [ii_add]
        refine ih (i + 1) M2 _ (by omega) (o1.trans o2) R2 (fun hq => ?_)
        rw [h1 hq, b8_nat, decs8_succ, List.append_assoc]
      · refine s_put_full R1 hf ?_
        rintro z rfl
        rw [ii_add]
        refine ih (i + 1) M1 _ (by omega) o1 R1 (fun hq => ?_)
        have := h1 hq
        rw [this, List.length_append, decs8_len] at hf
        omega
theorem s_Sp_read {post : zM → Prop} (ha : Rw M a tx) (htx : tx.length ≤ 48000) (d1 : a ≠ r) (d2 : a ≠ r + 1) (d3 : a + 1 ≠ r)
    (k : ∀ M' out, Only [r, r + 1] M M' → Rw M' r out → (∀ q, tx = spell q → q.length ≤ ln (r + 1) → out = q) → post M') : Wp_Sp_read a r M post := by
  have h4 : (txt 4).length = 15 := by decide +kernel
  unfold Wp_Sp_read
  intro K hK
  refine s_wipe (fun M1 o1 _ R1 => ?_)
  have o1 : Only [r, r + 1] M M1 := o1.mono (by simp)
  refine s_strlen (by decide) ?_
  rw [h4]
  suffices H : ∀ (m s : Nat) (M2 : zM) (out : List UInt8), s + m = 48000 + 400 → Only [r, r + 1] M M2 → Rw M2 r out → RdI tx (ln (r + 1)) s out → K (ii s) M2 from H (48400 - 15) 15 M1 [] rfl o1 R1 (fun q hq _ => ⟨q, rfl, by rw [hq]; exact spell_drop q⟩)
  intro m
  induction m using Nat.strongRecOn with
  | ind m ih =>
    intro s M2 out hs o2 R2 h2
    have A2 : Rw M2 a tx := ha.only o2 (by simp; omega) (by simp; omega)
    refine hK _ _ ?_
    rw [A2.1, ii_le (by omega) (by omega) (by omega) (by omega)]
    refine ⟨fun z => k M2 out o2 R2 (fun q hq hq2 => ?_), fun z => ?_⟩
    · obtain ⟨rest, e1, e2⟩ := h2 q hq hq2
      rw [List.drop_eq_nil_of_le (by omega)] at e2
      have := congrArg List.length e2
      unfold spTl at this
      simp only [List.length_append, List.length_cons, List.length_nil] at this
      omega
    · have hin : s < tx.length := by omega
      refine s_at A2 (by omega) (by omega) (s_sixOf ?_)
      have g := sixN_le tx s
      rw [show (0 : Int32) = ii 0 from rfl, ii_eq (by omega) (by omega) (by omega) (by omega)]
      have first : ∀ rest, tx.drop s = lines rest ++ spTl → (rest = [] ∧ sixN tx s = 0) ∨ (rest ≠ [] ∧ sixN tx s = (rest.take 45).length ∧ tx.drop (s + 1) = quads (rest.take 45) ++ ([10] ++ (lines (rest.drop 45) ++ spTl))) := by
        intro rest e
        have g0 : (tx.drop s)[0]? = tx[s]? := by rw [List.getElem?_drop]; rfl
        have g1 : tx.drop (s + 1) = (tx.drop s).drop 1 := by rw [List.drop_drop]
        by_cases hr : rest = []
        · refine Or.inl ⟨hr, ?_⟩
          rw [e, hr, lines_nil] at g0
          exact sixN_at (n := 0) g0.symm (by omega)
        · refine Or.inr ⟨hr, ?_, ?_⟩
          · rw [e, lines_ne hr] at g0
            exact sixN_at g0.symm (by rw [List.length_take]; omega)
          · rw [g1, e, lines_ne hr]
            unfold line
            simp
      refine ⟨fun c => ?_, fun c => k M2 out o2 R2 (fun q hq hq2 => ?_)⟩
      · rw [show (1 : Int32) = ii 1 from rfl, ii_add, show ((s : Int) + 1) = ((s + 1 : Nat) : Int) by omega]
        refine s_readLine A2 R2 (by omega) (by omega) d1 d2 d3 (by omega) (fun M3 out' o3 R3 h3 => ?_)
        have en : ii (s : Int) + (ii (sixN tx s : Nat) + 2) / 3 * 4 = ii ((s + (sixN tx s + 2) / 3 * 4 : Nat) : Int) := by
          rw [show (2 : Int32) = ii 2 from rfl, show (3 : Int32) = ii 3 from rfl, show (4 : Int32) = ii 4 from rfl, ii_add, ii_div (by omega) (by omega) (by omega) (by omega), ii_mul, ii_add]
          congr 1
        rw [en]
        rintro x rfl y rfl
        rw [show (2 : Int32) = ii 2 from rfl, ii_add, show (((s + (sixN tx s + 2) / 3 * 4 : Nat) : Int) + 2) = ((s + (sixN tx s + 2) / 3 * 4 + 2 : Nat) : Int) by omega]
        refine ih (m - ((sixN tx s + 2) / 3 * 4 + 2)) (by omega) _ M3 out' (by omega) (o2.trans o3) R3 (fun q hq hq2 => ?_)
        obtain ⟨rest, e1, e2⟩ := h2 q hq hq2
        rcases first rest e2 with ⟨f1, f2⟩ | ⟨f1, f2, f3⟩
        · omega
        · refine ⟨rest.drop 45, ?_, ?_⟩
          · have hl : (out ++ rest).length = q.length := by rw [e1]
            rw [List.length_append] at hl
            have hrt : (rest.take 45).length ≤ rest.length := by rw [List.length_take]; omega
            rw [h3 (by omega), f2, decs8_eq f3, List.append_assoc, List.take_append_drop]
            exact e1
          · have e3 : tx.drop (s + (sixN tx s + 2) / 3 * 4 + 2) = (tx.drop (s + 1)).drop ((sixN tx s + 2) / 3 * 4 + 1) := by rw [List.drop_drop]; congr 1; omega
            rw [e3, f3, f2]
            have hql := quads_len (rest.take 45)
            rw [show ((rest.take 45).length + 2) / 3 * 4 + 1 = (quads (rest.take 45) ++ [10]).length by rw [List.length_append, hql]; rfl, ← List.append_assoc, List.drop_left]
      · obtain ⟨rest, e1, e2⟩ := h2 q hq hq2
        rcases first rest e2 with ⟨f1, f2⟩ | ⟨f1, f2, f3⟩
        · rw [e1, f1, List.append_nil]
        · have : 0 < (rest.take 45).length := by
            rw [List.length_take]
            have := List.length_pos_iff.mpr f1
            omega
          omega
end RDL
