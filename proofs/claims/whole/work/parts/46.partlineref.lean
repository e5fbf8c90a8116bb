/-! A part's first line, as the reference reads it. -/
def mdec (bs : List UInt8) (behind : UInt8) (h : Nat) : Int × Nat := (if 1 ≤ (run 11 (bs.drop h)).length ∧ (run 11 (bs.drop h)).length ≤ 10 ∧ ((run 11 (bs.drop h)).length = 1 ∨ bs.getD h 0 ≠ 48) ∧ bs[h + (run 11 (bs.drop h)).length]? = some behind then (dval 0 (run 11 (bs.drop h)) : Int) else -1, h + (run 11 (bs.drop h)).length + 1)
section MW
variable {M : zM} {bs : List UInt8}
theorem s_Mo_word {a h : Nat} {ws : List UInt8} {post : Int32 → zM → Prop} (hR : Cw M 59 (413 + 37) bs) (hw : Ab M a ws) (hl : ln a = ws.length) (hws : ws.length ≤ 100) (d : a ≠ 413) (h61 : M.1 413 61 = ii h) (hh : h ≤ 20000)
    (k1 : ∀ M', OnlyR [61] [] M M' → (bs.drop h).take ws.length = ws → M'.1 413 61 = ii ((h + ws.length : Nat) : Int) → post 1 M') (k0 : ∀ M', OnlyR [61] [] M M' → ¬ (bs.drop h).take ws.length = ws → post 0 M') : Wp_Mo_word 413 a M post := by
  have hbl := hR.2.1
  have hbs := ln_small (413 + 37)
  have n1 : narrow .boolean (.int 1) = .int 1 := by decide
  have n0 : narrow .boolean (.int 0) = .int 0 := by decide
  unfold Wp_Mo_word
  intro K4 K45 h4 h45
  have keepR : ∀ {M'}, OnlyR [61] [] M M' → Cw M' 59 (413 + 37) bs := fun ho => hR.only ho (by decide) (by simp) (by decide)
  have bad : ∀ (i : Nat) (M1 : zM), i < ws.length → OnlyR [61] [] M M1 → ¬ (bs.drop h).take ws.length = ws → K45 (ii (i : Int)) 0 M1 := by
    intro i M1 hi ho hn
    refine h45 _ _ _ ?_
    rintro M2 rfl x rfl
    have fin : narrow .boolean (.int 0) = .int 0 ∧ post 0 (zI M1 413 61 (M1.1 413 61 + 1)) := ⟨n0, k0 _ (ho.fld (by simp)) hn⟩
    refine h4 _ _ _ ⟨fun _ => fin, fun _ => ⟨fun _ => fin, fun c => absurd rfl c⟩⟩
  suffices H : ∀ (m i : Nat) (M1 : zM), i + m = ws.length → OnlyR [61] [] M M1 → M1.1 413 61 = ii ((h + i : Nat) : Int) → (bs.drop h).take i = ws.take i → K4 1 (ii (i : Int)) M1 from H ws.length 0 M (by omega) OnlyR.rf h61 (by simp)
  intro m
  induction m with
  | zero =>
    intro i M1 hi ho h61' hp
    have ei : i = ws.length := by omega
    subst ei
    rw [List.take_length] at hp
    exact h4 _ _ _ ⟨fun _ => ⟨n1, k1 M1 ho hp h61'⟩, fun c => absurd (by rw [ii_ofNat, hl, ii_le (by omega) (by omega) (by omega) (by omega)]; omega) c⟩
  | succ m ih =>
    intro i M1 hi ho h61' hp
    have hi2 : i < ws.length := by omega
    have hR1 := keepR ho
    refine h4 _ _ _ ⟨fun c => ?_, fun _ => ⟨fun c => absurd c (by decide), fun _ => ?_⟩⟩
    · rw [ii_ofNat, hl, ii_le (by omega) (by omega) (by omega) (by omega)] at c
      omega
    · rw [hR1.1, h61', ii_le (by omega) (by omega) (by omega) (by omega)]
      refine ⟨fun c => bad i M1 hi2 ho (fun q => ?_), fun c => ⟨ii_in (by omega) (by omega) (by omega), ii_in (by omega) (by omega) (by omega), ?_⟩⟩
      · have := congrArg List.length q
        rw [List.length_take, List.length_drop] at this
        omega
      · have hin : h + i < bs.length := by omega
        rw [ii_nat (by omega) (by omega), ii_nat (by omega) (by omega), Int.toNat_natCast, Int.toNat_natCast, hR1.2.2 _ hin, ho.1 a (by simp) d, hw.2 i hi2, sb_iff]
        refine ⟨fun c2 => bad i M1 hi2 ho (fun q => c2 ?_), fun c2 => ?_⟩
        · have h1 : ((bs.drop h).take ws.length)[i]? = ws[i]? := by rw [q]
          rw [List.getElem?_take_of_lt hi2, List.getElem?_drop, List.getElem?_eq_getElem hin, List.getElem?_eq_getElem hi2] at h1
          exact Option.some.inj h1
        · refine h45 _ _ _ ?_
          rintro M2 rfl x rfl
          rw [show (ii (i : Int) + 1) = ii ((i + 1 : Nat) : Int) by rw [show (1 : Int32) = ii 1 from rfl, ii_add]; rfl]
          refine ih (i + 1) _ (by omega) (ho.fld (by simp)) ?_ ?_
          · rw [zI_g, if_pos ⟨rfl, rfl⟩, h61', show (1 : Int32) = ii 1 from rfl, ii_add]
            rfl
          · rw [List.take_add_one, List.take_add_one, hp]
            congr 1
            rw [List.getElem?_drop, List.getElem?_eq_getElem hin, List.getElem?_eq_getElem hi2, c2]
theorem sb_dgt (b : UInt8) : (sb b < 48 ↔ ¬ (48 ≤ b.toNat ∧ b.toNat < 128)) ∧ ((48 ≤ b.toNat ∧ b.toNat < 128) → (57 < sb b ↔ 57 < b.toNat)) := u8_all (P := fun b => (sb b < 48 ↔ ¬ (48 ≤ b.toNat ∧ b.toNat < 128)) ∧ ((48 ≤ b.toNat ∧ b.toNat < 128) → (57 < sb b ↔ 57 < b.toNat))) (by decide +kernel) b
theorem sb_small {b : UInt8} (h : b.toNat < 128) : sb b = ii (b.toNat : Int) := by rw [sb_ii, if_pos h]
theorem s_Mo_decimal {h : Nat} {behind : UInt8} {post : Int64 → zM → Prop} (hR : Cw M 59 (413 + 37) bs) (h61 : M.1 413 61 = ii h) (hh : h ≤ 20000) (hbe : behind.toNat < 128)
    (k : ∀ M', OnlyR [61] [] M M' → M'.1 413 61 = ii (((mdec bs behind h).2 : Nat) : Int) → post (ll (mdec bs behind h).1) M') : Wp_Mo_decimal 413 (sb behind) M post := by
  have hbl := hR.2.1
  have hln : ln (413 + 37) = 9000 := by decide +kernel
  have hr11 := run_len 11 (bs.drop h)
  have keepR : ∀ {M'}, OnlyR [61] [] M M' → Cw M' 59 (413 + 37) bs := fun ho => hR.only ho (by decide) (by simp) (by decide)
  unfold Wp_Mo_decimal
  intro K7 K91 K129 K158 h7 h91 h129 h158
  have hpre := (run_pre 11 (bs.drop h)).length_le
  rw [List.length_drop] at hpre
  -- the end
  have fin : ∀ M1, OnlyR [61] [] M M1 → M1.1 413 61 = ii ((h + (run 11 (bs.drop h)).length : Nat) : Int) → K91 (ii (h : Int)) (ll (dval 0 (run 11 (bs.drop h)) : Int)) M1 := by
    intro M1 ho h61'
    have hR1 := keepR ho
    unfold mdec at k
    generalize hds : run 11 (bs.drop h) = ds at *
    have last : ∀ z : Int32, ((1 ≤ ds.length ∧ ds.length ≤ 10 ∧ (ds.length = 1 ∨ bs.getD h 0 ≠ 48) ∧ bs[h + ds.length]? = some behind) → z = 1) → (¬ (1 ≤ ds.length ∧ ds.length ≤ 10 ∧ (ds.length = 1 ∨ bs.getD h 0 ≠ 48) ∧ bs[h + ds.length]? = some behind) → z = 0) → K158 (ll (dval 0 ds : Int)) z M1 := by
      intro z z1 z0
      refine h158 _ _ _ ?_
      rintro M5 rfl
      have e61 : (zI M1 413 61 (M1.1 413 61 + 1)).1 413 61 = ii ((h + ds.length + 1 : Nat) : Int) := by
        rw [zI_g, if_pos ⟨rfl, rfl⟩, h61', show (1 : Int32) = ii 1 from rfl, ii_add]
        rfl
      have hk := k _ (ho.fld (j := 61) (v := M1.1 413 61 + 1) (by simp)) e61
      refine ⟨fun c => ?_, fun c => ?_⟩
      · rw [if_neg (fun q => by rw [z1 q] at c; exact absurd c (by decide))] at hk
        exact hk
      · rw [if_pos (Classical.byContradiction (fun q => c (z0 q)))] at hk
        exact hk
    have tail : 1 ≤ ds.length → ds.length ≤ 10 → (ds.length = 1 ∨ bs.getD h 0 ≠ 48) → K129 (ll (dval 0 ds : Int)) M1 := by
      intro c1 c2 c3
      refine h129 _ _ ?_
      rw [hR1.1, h61', ii_le (by omega) (by omega) (by omega) (by omega)]
      refine ⟨fun c => last 0 (fun q => ?_) (fun _ => rfl), fun c => ⟨ii_in (by omega) (by omega) (by omega), ?_⟩⟩
      · rw [List.getElem?_eq_none (by omega)] at q
        exact absurd q.2.2.2 (by simp)
      · have hin : h + ds.length < bs.length := by omega
        rw [ii_nat (by omega) (by omega), Int.toNat_natCast, hR1.2.2 _ hin, sb_iff]
        refine ⟨fun c4 => last 0 (fun q => ?_) (fun _ => rfl), fun c4 => last 1 (fun _ => rfl) (fun q => absurd ⟨c1, c2, c3, by rw [List.getElem?_eq_getElem hin, c4]⟩ q)⟩
        have := q.2.2.2
        rw [List.getElem?_eq_getElem hin] at this
        exact absurd (Option.some.inj this) c4
    refine h91 _ _ _ ?_
    rintro x4 rfl
    rw [h61', ii_sub, show (((h + ds.length : Nat) : Int) - h) = ((ds.length : Nat) : Int) by omega, show (1 : Int32) = ii 1 from rfl, show (10 : Int32) = ii 10 from rfl, ii_lt (by omega) (by omega) (by omega) (by omega), ii_lt (by omega) (by omega) (by omega) (by omega), ii_eq (by omega) (by omega) (by omega) (by omega)]
    refine ⟨fun c => last 0 (fun q => by omega) (fun _ => rfl), fun c => ⟨fun c2 => last 0 (fun q => by omega) (fun _ => rfl), fun c2 => ⟨fun c3 => tail (by omega) (by omega) (Or.inl (by omega)), fun c3 => ⟨ii_in (by omega) (by omega) (by omega), ?_⟩⟩⟩⟩
    have hin : h < bs.length := by omega
    have hg : bs.getD h 0 = bs[h] := by rw [List.getD_eq_getElem?_getD, List.getElem?_eq_getElem hin]; rfl
    rw [ii_nat (by omega) (by omega), Int.toNat_natCast, hR1.2.2 _ hin, show (48 : Int32) = sb 48 by decide +kernel, sb_iff, ← hg]
    refine ⟨fun c4 => last 0 (fun q => ?_) (fun _ => rfl), fun c4 => tail (by omega) (by omega) (Or.inr c4)⟩
    rcases q.2.2.1 with q1 | q1
    · omega
    · exact absurd c4 q1
  -- the digits
  rintro x1 rfl
  rw [h61]
  suffices H : ∀ (f i acc : Nat) (l : List UInt8) (M1 : zM), i + f = 11 → bs.drop (h + i) = l → OnlyR [61] [] M M1 → M1.1 413 61 = ii ((h + i : Nat) : Int) → dval acc (run f l) = dval 0 (run 11 (bs.drop h)) → i + (run f l).length = (run 11 (bs.drop h)).length → acc < 10 ^ i → K7 (ii (h : Int)) (ll (acc : Int)) M1 from H 11 0 0 (bs.drop h) M rfl rfl OnlyR.rf h61 rfl (by omega) (by decide)
  intro f
  induction f with
  | zero =>
    intro i acc l M1 hi hd ho h61' hv hn ha
    have ei : i = 11 := by omega
    subst ei
    have hl0 : (run 11 (bs.drop h)).length = 11 := by rw [← hn]; rfl
    have hv0 : acc = dval 0 (run 11 (bs.drop h)) := hv
    have fin' : K91 (ii (h : Int)) (ll (acc : Int)) M1 := by
      rw [hv0]
      exact fin M1 ho (by rw [h61', hl0])
    refine h7 _ _ _ ⟨fun _ => fin', fun _ => ⟨fun _ => fin', fun c => ?_⟩⟩
    rw [h61', show (11 : Int32) = ii 11 from rfl, ii_sub, ii_le (by omega) (by omega) (by omega) (by omega)] at c
    omega
  | succ f ih =>
    intro i acc l M1 hi hd ho h61' hv hn ha
    have hai : acc < 10 ^ 10 := Nat.lt_of_lt_of_le ha (Nat.pow_le_pow_right (by decide) (by omega))
    have hR1 := keepR ho
    have stop : run (f + 1) l = [] → K91 (ii (h : Int)) (ll (acc : Int)) M1 := by
      intro hr
      rw [hr] at hv hn
      have hv0 : acc = dval 0 (run 11 (bs.drop h)) := hv
      rw [hv0]
      refine fin M1 ho ?_
      rw [h61', ← hn]
      rfl
    refine h7 _ _ _ ?_
    rw [hR1.1, h61', ii_le (by omega) (by omega) (by omega) (by omega)]
    refine ⟨fun c => stop ?_, fun c => ⟨fun c2 => ?_, fun _ => ?_⟩⟩
    · have : l = [] := by rw [← hd]; exact List.drop_eq_nil_of_le (by omega)
      rw [this]
      rfl
    · rw [show (11 : Int32) = ii 11 from rfl, ii_sub, ii_le (by omega) (by omega) (by omega) (by omega)] at c2
      omega
    · have hin : h + i < bs.length := by omega
      rw [List.drop_eq_getElem_cons hin] at hd
      refine ⟨ii_in (by omega) (by omega) (by omega), ?_⟩
      rw [ii_nat (by omega) (by omega), Int.toNat_natCast, hR1.2.2 _ hin]
      have hs := sb_dgt bs[h + i]
      have hb8 := UInt8.toNat_lt bs[h + i]
      have nd : ¬ (48 ≤ bs[h + i].toNat ∧ bs[h + i].toNat ≤ 57) → run (f + 1) l = [] := by
        intro hn
        rw [← hd]
        show (if isDg bs[h + i] = true then _ else _) = _
        rw [if_neg (fun q => hn (by unfold isDg at q; simpa using q))]
      refine ⟨fun c2 => stop (nd (by have := hs.1.mp c2; omega)), fun c2 => ⟨ii_in (by omega) (by omega) (by omega), ?_⟩⟩
      have hrg : 48 ≤ bs[h + i].toNat ∧ bs[h + i].toNat < 128 := Classical.byContradiction (fun q => c2 (hs.1.mpr q))
      refine ⟨fun c3 => stop (nd (by have := (hs.2 hrg).mp c3; omega)), fun c3 => ⟨ii_in (by omega) (by omega) (by omega), ?_⟩⟩
      have h57 : bs[h + i].toNat ≤ 57 := by
        have := mt (hs.2 hrg).mpr c3
        omega
      rintro y2 rfl M3 rfl
      have er : run (f + 1) l = bs[h + i] :: run f (bs.drop (h + i + 1)) := by
        rw [← hd]
        show (if isDg bs[h + i] = true then _ else _) = _
        rw [if_pos (by unfold isDg; simp; omega)]
      rw [er] at hv hn
      rw [sb_small (by omega), show (10 : Int64) = ll 10 from rfl, ll_mul, ll_of_ii (by omega) (by omega), ll_add, show (48 : Int64) = ll 48 from rfl, ll_sub, show ((10 * (acc : Int) + (bs[h + i].toNat : Int)) - 48) = ((10 * acc + (bs[h + i].toNat - 48) : Nat) : Int) by omega]
      refine ih (i + 1) _ (bs.drop (h + i + 1)) _ (by omega) rfl (ho.fld (by simp)) ?_ hv (by simp only [List.length_cons] at hn; omega) (by rw [Nat.pow_succ]; omega)
      rw [zI_g, if_pos ⟨rfl, rfl⟩, show (1 : Int32) = ii 1 from rfl, ii_add]
      rfl
end MW
