/-! unpack: MailChain's side. -/
def bxJ (B : Bx) : Nat → List UInt8
  | 0 => []
  | n + 1 => bxJ B n ++ (bxLook (n + 1) B).getD []
theorem bxJ_cons {e : Nat × List UInt8} {t : Bx} (h : bxLook e.1 t = none) : ∀ n, (bxJ (e :: t) n).length = (bxJ t n).length + (if 1 ≤ e.1 ∧ e.1 ≤ n then e.2.length else 0)
  | 0 => by simp [bxJ]; omega
  | n + 1 => by
    show (bxJ (e :: t) n ++ (bxLook (n + 1) (e :: t)).getD []).length = (bxJ t n ++ (bxLook (n + 1) t).getD []).length + _
    rw [List.length_append, List.length_append, bxJ_cons h n]
    have el : bxLook (n + 1) (e :: t) = if e.1 = n + 1 then some e.2 else bxLook (n + 1) t := rfl
    rw [el]
    by_cases c : e.1 = n + 1
    · rw [if_pos c, if_neg (by omega), if_pos (by omega), ← c, h]
      simp
    · rw [if_neg c]
      by_cases c2 : 1 ≤ e.1 ∧ e.1 ≤ n
      · rw [if_pos c2, if_pos (by omega)]; omega
      · rw [if_neg c2, if_neg (by omega)]; omega
theorem bxJ_len : ∀ (B : Bx) (n : Nat), (B.map (fun e => e.1)).Nodup → (bxJ B n).length ≤ (bxAll B).length
  | [], n, _ => by
    have : ∀ n, bxJ [] n = [] := fun n => by
      induction n with
      | zero => rfl
      | succ n ih => show bxJ [] n ++ [] = []; rw [ih]; rfl
    rw [this]
    simp
  | e :: t, n, h => by
    obtain ⟨h1, h2⟩ := List.nodup_cons.mp h
    have hl : bxLook e.1 t = none := (bxLook_none e.1 t).mpr h1
    rw [bxJ_cons hl]
    have ih := bxJ_len t n h2
    show _ ≤ (e.2 ++ bxAll t).length
    rw [List.length_append]
    split <;> omega
theorem s_Bo_join {M : zM} {a r of : Nat} {B : Bx} {post : Int32 → zM → Prop} (hl3 : ln (a + 3) = 1000) (hl4 : ln (a + 4) = 1000) (h : BoI M a of B) (hok : BxOk of B) (hB : B ≠ []) (hw : ∀ k, 1 ≤ k → k ≤ of → bxLook k B ≠ none) (hlr : ln (r + 1) = 48000) (hr : ∀ j, j ≤ 4 → a + j ≠ r ∧ a + j ≠ r + 1)
    (kk : ∀ (M' : zM) (tx : List UInt8) (v : Int32), Only [r, r + 1] M M' → Rw M' r tx → ((bxAll B).length ≤ 48000 → v = 1 ∧ tx = bxJ B of) → (48000 < (bxAll B).length → v = 0) → post v M') : Wp_Bo_join a r M post := by
  have hof := hok.2.2
  have htot := hok.len
  have keep : ∀ {M'}, Only [r, r + 1] M M' → BoI M' a of B := fun o => h.frm o.frm (fun j hj => by have := hr j hj; simp; omega)
  unfold Wp_Bo_join
  intro K hK
  refine s_wipe (fun M1 o1 _ R1 => ?_)
  have o1 : Only [r, r + 1] M M1 := o1.mono (by simp)
  suffices H : ∀ (m i : Nat) (M2 : zM) (tx : List UInt8), i + m = of → Only [r, r + 1] M M2 → Rw M2 r tx → ((bxAll B).length ≤ 48000 → tx = bxJ B i) → K (ii ((i + 1 : Nat) : Int)) M2 from H of 0 M1 [] (Nat.zero_add _) o1 R1 (fun _ => rfl)
  intro m
  induction m with
  | zero =>
    intro i M2 tx hi o2 R2 hx
    have I2 := keep o2
    have ei : i = of := by omega
    subst ei
    refine hK _ _ ⟨fun _ => ?_, fun z => absurd (by rw [I2.2.1 hB, ii_lt (by omega) (by omega) (by omega) (by omega)]; omega) z⟩
    rw [I2.2.2.1, show (48000 : Int32) = ii 48000 from rfl, ii_lt (by omega) (by omega) (by omega) (by omega)]
    refine ⟨fun z => kk M2 tx 0 o2 R2 (fun q => by omega) (fun _ => rfl), fun z => kk M2 tx 1 o2 R2 (fun q => ⟨rfl, hx q⟩) (fun q => by omega)⟩
  | succ m ih =>
    intro i M2 tx hi o2 R2 hx
    have I2 := keep o2
    refine hK _ _ ⟨fun z => ?_, fun _ => ⟨ii_in (by omega) (by omega) (by omega), ii_in (by omega) (by omega) (by omega), ii_in (by omega) (by omega) (by omega), ?_⟩⟩
    · rw [I2.2.1 hB, ii_lt (by omega) (by omega) (by omega) (by omega)] at z
      omega
    · obtain ⟨p, hp⟩ : ∃ p, bxLook (i + 1) B = some p := by
        cases hc : bxLook (i + 1) B with
        | none => exact absurd hc (hw (i + 1) (by omega) (by omega))
        | some p => exact ⟨p, rfl⟩
      have hpm := (hok.2.1 _ (bxLook_mem (i + 1) p B hp)).2.2
      have hpl : p.length ≤ 60000 := hpm
      obtain ⟨I2a, I2b, I2c, I2d, I2e, rs, I2f, I2g⟩ := I2
      obtain ⟨s, s1, s2, s3⟩ := I2e (i + 1) p hp
      have s4 := I2d (i + 1) (by omega)
      rw [hp] at s4
      have s4' : M2.1 (a + 4) (i + 1) = ii p.length := s4
      rw [ii_nat (by omega) (by omega), Int.toNat_natCast, s2, s4', ii_add, show ((s : Int) + (p.length : Int)) = ((s + p.length : Nat) : Int) by omega]
      refine s_putRange_any R2 I2f (by omega) (by omega) (fun M3 tx' o3 R3 hfit => ?_)
      rintro x rfl
      rw [show (1 : Int32) = ii 1 from rfl, ii_add, show (((i + 1 : Nat) : Int) + 1) = ((i + 1 + 1 : Nat) : Int) by omega]
      refine ih (i + 1) M3 tx' (by omega) (o2.trans o3) R3 (fun hq => ?_)
      obtain ⟨c1, c2⟩ := bxCut (i + 1) p B hp
      have hs := s3 hq
      have hrs := I2g hq
      have hjl := bxJ_len B (i + 1) hok.1
      have ej : bxJ B (i + 1) = bxJ B i ++ p := by
        show bxJ B i ++ (bxLook (i + 1) B).getD [] = _
        rw [hp]
        rfl
      rw [ej, List.length_append] at hjl
      rw [ej, hfit (by rw [hs, hrs]; exact c1) (by rw [hx hq, hlr]; omega), hx hq, hs, hrs, c2]
/-- what unpack tells -/
def UnR (of : Nat) (B : Bx) (c : Nat) (T : Tre) : Prop :=
  (c = 6 ∧ ¬ (B ≠ [] ∧ B.length = of)) ∨
  ((B ≠ [] ∧ B.length = of) ∧ ((c = 7 ∧ (48000 < (bxAll B).length ∨ ¬ ∃ r, bxJ B of = spell r)) ∨
    ((bxAll B).length ≤ 48000 ∧ ∃ r, bxJ B of = spell r ∧ ((c = 8 ∧ ¬ (r.length ≤ 30000 ∧ ∃ g p, 9 ≤ g ∧ g ≤ 16 ∧ p.length ≤ 16000 ∧ r = press g p)) ∨
      (r.length ≤ 30000 ∧ ∃ g p, 9 ≤ g ∧ g ≤ 16 ∧ p.length ≤ 16000 ∧ r = press g p ∧ ((c = 9 ∧ ¬ ∃ T0, TOk T0 ∧ smallT T0 ∧ NFT T0 ∧ p = arc T0) ∨ (c = 0 ∧ TOk T ∧ smallT T ∧ NFT T ∧ p = arc T)))))))
theorem UnR.ex (of : Nat) (B : Bx) : ∃ c T, UnR of B c T := by
  by_cases h1 : B ≠ [] ∧ B.length = of
  · by_cases h2 : 48000 < (bxAll B).length ∨ ¬ ∃ r, bxJ B of = spell r
    · exact ⟨7, [], Or.inr ⟨h1, Or.inl ⟨rfl, h2⟩⟩⟩
    · have h3 : (bxAll B).length ≤ 48000 := by
        rcases Nat.lt_or_ge 48000 (bxAll B).length with q | q
        · exact absurd (Or.inl q) h2
        · exact q
      have h4 : ∃ r, bxJ B of = spell r := Classical.byContradiction (fun q => h2 (Or.inr q))
      obtain ⟨r, hr⟩ := h4
      by_cases h5 : r.length ≤ 30000 ∧ ∃ g p, 9 ≤ g ∧ g ≤ 16 ∧ p.length ≤ 16000 ∧ r = press g p
      · obtain ⟨h6, g, p, g1, g2, g3, g4⟩ := h5
        by_cases h7 : ∃ T0, TOk T0 ∧ smallT T0 ∧ NFT T0 ∧ p = arc T0
        · obtain ⟨T0, t1, t2, t3, t4⟩ := h7
          exact ⟨0, T0, Or.inr ⟨h1, Or.inr ⟨h3, r, hr, Or.inr ⟨h6, g, p, g1, g2, g3, g4, Or.inr ⟨rfl, t1, t2, t3, t4⟩⟩⟩⟩⟩
        · exact ⟨9, [], Or.inr ⟨h1, Or.inr ⟨h3, r, hr, Or.inr ⟨h6, g, p, g1, g2, g3, g4, Or.inl ⟨rfl, h7⟩⟩⟩⟩⟩
      · exact ⟨8, [], Or.inr ⟨h1, Or.inr ⟨h3, r, hr, Or.inl ⟨rfl, h5⟩⟩⟩⟩
  · exact ⟨6, [], Or.inl ⟨rfl, h1⟩⟩
/-- only unpack's places have changed -/
def FrU (M M' : zM) : Prop := ∀ k, (k < 130 ∧ k ≠ 0) ∨ (384 ≤ k ∧ k < 392) ∨ 413 ≤ k → M'.1 k = M.1 k ∧ M'.2.1 k = M.2.1 k ∧ M'.2.2 k = M.2.2 k
theorem FrU.rf {M : zM} : FrU M M := fun _ _ => ⟨rfl, rfl, rfl⟩
theorem FrU.trans {M M' M'' : zM} (h : FrU M M') (h' : FrU M' M'') : FrU M M'' := fun k hk => ⟨(h' k hk).1.trans (h k hk).1, (h' k hk).2.1.trans (h k hk).2.1, (h' k hk).2.2.trans (h k hk).2.2⟩
theorem Only.frU {S : List Nat} {M M' : zM} (h : Only S M M') (hs : ∀ k, k ∈ S → (130 ≤ k ∧ k < 384) ∨ (392 ≤ k ∧ k < 413)) : FrU M M' := fun k hk => h.frm k (fun q => by have := hs k q; omega)
theorem FrT.frU {t : Nat} {M M' : zM} (h : FrT t M M') (ht : t = 130 ∨ t = 257) : FrU M M' := fun k hk => h k (by omega)
theorem s_Mc_unpack {M : zM} {of c y d : Nat} {B : Bx} {T Y Td : Tre} {post : Int32 → zM → Prop} (hB : BoI M (0 + 392) of B) (hok : BxOk of B) (hy : M.2.2 0 2 = y) (hd : M.2.2 0 3 = d) (hyd : (y = 130 ∧ d = 257) ∨ (y = 257 ∧ d = 130)) (hY : TrI M y Y) (hD : TrI M d Td) (hU : UnR of B c T)
    (k1 : ∀ (M' : zM) (Td' : Tre), c ≠ 0 → FrU M M' → M'.1 0 = M.1 0 → M'.2.2 0 = M.2.2 0 → BoI M' (0 + 392) of B → TrI M' y Y → TrI M' d Td' → post (ii c) M')
    (k0 : ∀ M' : zM, c = 0 → TOk T → FrU M M' → M'.1 0 = M.1 0 → M'.2.2 0 2 = d → M'.2.2 0 3 = y → BoI M' (0 + 392) 0 [] → TrI M' d T → TrI M' y Y → post 0 M') : Wp_Mc_unpack 0 M post := by
  have l408 : ln (0 + 407 + 1) = 36000 := by decide +kernel
  have l410 : ln (0 + 409 + 1) = 48000 := by decide +kernel
  have l412 : ln (0 + 411 + 1) = 50000 := by decide +kernel
  have l406 : ln (0 + 405 + 1) = 16000 := by decide +kernel
  have hlen := hok.len
  have hof := hok.2.2
  have hdd : d = 130 ∨ d = 257 := by rcases hyd with q | q; exact Or.inr q.2; exact Or.inl q.2
  have hyy : y = 130 ∨ y = 257 := by rcases hyd with q | q; exact Or.inl q.1; exact Or.inr q.1
  have out7 : ∀ t, (t = 130 ∨ t = 257) → ∀ k, k ∈ [0 + 411, 0 + 411 + 1] → k < t ∨ t + 127 ≤ k := fun t ht k hk => by
    have : k = 0 + 411 ∨ k = 0 + 411 + 1 := by simpa using hk
    clear hU
    omega
  have out10 : ∀ t, (t = 130 ∨ t = 257) → ∀ k, t ≤ k → k < t + 127 → k ∉ [0 + 392, 0 + 392 + 1, 0 + 392 + 4] ∧ k ≠ 0 := fun t ht k h1 h2 => by
    clear hU
    simp
    omega
  have hdT : isT d := by rcases hyd with q | q; exact Or.inr (Or.inr q.2); exact Or.inr (Or.inl q.2)
  -- what stays
  have stay : ∀ {M' : zM} {S : List Nat}, Only S M M' → (∀ k, k ∈ S → 398 ≤ k ∧ k < 413) → FrU M M' ∧ M'.1 0 = M.1 0 ∧ M'.2.2 0 = M.2.2 0 ∧ BoI M' (0 + 392) of B ∧ TrI M' y Y ∧ TrI M' d Td := by
    intro M' S o hs
    refine ⟨o.frU (fun k hk => by have := hs k hk; omega), o.1 0 (fun q => by have := hs 0 q; omega), by rw [o.2], hB.frm o.frm (fun j hj q => by have := hs _ q; omega), hY.frm o.frm (fun k hk => by have := hs k hk; omega), hD.frm o.frm (fun k hk => by have := hs k hk; omega)⟩
  have tell : ∀ {M' : zM} {S : List Nat} (x : Nat), c = x → x ≠ 0 → Only S M M' → (∀ k, k ∈ S → 398 ≤ k ∧ k < 413) → post (ii x) M' := by
    intro M' S x hx hx0 o hs
    obtain ⟨a1, a2, a3, a4, a5, a6⟩ := stay o hs
    have := k1 M' Td (by omega) a1 a2 a3 a4 a5 a6
    rw [hx] at this
    exact this
  unfold Wp_Mc_unpack Wp_Bo_isWhole
  rw [hB.1, show (0 : Int32) = ii 0 from rfl, ii_le (by omega) (by omega) (by omega) (by omega)]
  have six : ¬ (B ≠ [] ∧ B.length = of) → post 6 M := by
    intro hn
    refine tell (S := []) 6 ?_ (by omega) Only.rf (by simp)
    rcases hU with q | q
    · exact q.1
    · exact absurd q.1 hn
  refine ⟨fun z => ⟨fun q => absurd rfl q, fun _ => six (fun q => q.1 (List.eq_nil_of_length_eq_zero (by omega)))⟩, fun z => ?_⟩
  have hBne : B ≠ [] := fun q => z (by rw [q]; simp)
  rw [hB.2.1 hBne, ii_eq (by omega) (by omega) (by omega) (by omega)]
  refine ⟨fun z2 => ⟨fun q => absurd rfl q, fun _ => six (fun q => z2 (by omega))⟩, fun z2 => ⟨fun _ => ?_, fun q => absurd q (by decide)⟩⟩
  have hwh : B ≠ [] ∧ B.length = of := ⟨hBne, by omega⟩
  refine s_Bo_join (by decide +kernel) (by decide +kernel) hB hok hBne (hlen.2.2.mp hwh.2) l410 (by decide) (fun M1 tx v o1 R1 hv1 hv0 => ?_)
  have htxl : tx.length ≤ 48000 := by have := R1.2.1; omega
  rcases Nat.lt_or_ge 48000 (bxAll B).length with hbig | hsm
  · rw [hv0 hbig]
    refine ⟨fun q => absurd rfl q, fun _ => ?_⟩
    refine tell 7 ?_ (by omega) o1 (by decide)
    rcases hU with q | ⟨-, q | q⟩
    · exact absurd hwh q.2
    · exact q.1
    · omega
  obtain ⟨hv, htx⟩ := hv1 hsm
  rw [hv]
  refine ⟨fun _ => ?_, fun q => absurd q (by decide)⟩
  refine s_Sp_read R1 htxl (by decide) (by decide) (by decide) (fun M2 out o2 R2 hrd => ?_)
  have houtl : out.length ≤ 36000 := by have := R2.2.1; omega
  have o12 : Only [0 + 398, 0 + 398 + 1, 0 + 398 + 2, 0 + 398 + 3, 0 + 402, 0 + 402 + 1, 0 + 402 + 2, 0 + 405, 0 + 405 + 1, 0 + 407, 0 + 407 + 1, 0 + 409, 0 + 409 + 1, 0 + 411, 0 + 411 + 1] M M2 := (o1.mono (by simp)).trans (o2.mono (by simp))
  have rd : ∀ r, bxJ B of = spell r → out = r := fun r hr => by
    have h1 : tx = spell r := htx.trans hr
    have := spell_ge (q := r) (by rw [← h1]; exact htxl)
    exact hrd r h1 (by omega)
  have hsl := spell_len out
  refine s_write R2 (by decide) (by decide) (by decide) (by omega) (fun M3 o3 R3 => ?_)
  have o13 := o12.trans (o3.mono (by simp) : Only _ M2 M3)
  have T3 : Rw M3 (0 + 409) tx := (R1.only o2 (by decide) (by decide)).only o3 (by decide) (by decide)
  have Q3 : Rw M3 (0 + 407) out := R2.only o3 (by decide) (by decide)
  refine s_same R3 T3 ?_
  by_cases hsame : spell out = tx
  rotate_left
  · rw [if_neg hsame]
    refine ⟨fun q => absurd rfl q, fun _ => tell 7 ?_ (by omega) o13 (by decide)⟩
    rcases hU with q | ⟨-, q | ⟨-, r, hr, -⟩⟩
    · exact absurd hwh q.2
    · exact q.1
    · exact absurd (by rw [rd r hr, htx, hr]) hsame
  rw [if_pos hsame]
  have hJ : bxJ B of = spell out := by rw [← htx, hsame]
  refine ⟨fun _ => ?_, fun q => absurd q (by decide)⟩
  -- eight, nine and nought
  have eight : ¬ (out.length ≤ 30000 ∧ ∃ g p, 9 ≤ g ∧ g ≤ 16 ∧ p.length ≤ 16000 ∧ out = press g p) → c = 8 := by
    intro hn
    rcases hU with q | ⟨-, q | ⟨-, r, hr, q | ⟨q1, g, p, q2, q3, q4, q5, -⟩⟩⟩
    · exact absurd hwh q.2
    · rcases q.2 with q | q
      · omega
      · exact absurd ⟨out, hJ⟩ q
    · exact q.1
    · rw [← rd r hr] at q1 q5
      exact absurd ⟨q1, g, p, q2, q3, q4, q5⟩ hn
  have low : ∀ g p, 9 ≤ g → g ≤ 16 → p.length ≤ 16000 → out = press g p → out.length ≤ 30000 → (c = 9 ∨ c = 0) ∧ ∃ g' p', 9 ≤ g' ∧ g' ≤ 16 ∧ p'.length ≤ 16000 ∧ out = press g' p' ∧ ((c = 9 ∧ ¬ ∃ T0, TOk T0 ∧ smallT T0 ∧ NFT T0 ∧ p' = arc T0) ∨ (c = 0 ∧ TOk T ∧ smallT T ∧ NFT T ∧ p' = arc T)) := by
    intro g p g1 g2 g3 g4 g5
    rcases hU with q | ⟨-, q | ⟨-, r, hr, q | ⟨q1, g', p', q2, q3, q4, q5, q6⟩⟩⟩
    · exact absurd hwh q.2
    · rcases q.2 with q | q
      · omega
      · exact absurd ⟨out, hJ⟩ q
    · rw [← rd r hr] at q
      exact absurd ⟨g5, g, p, g1, g2, g3, g4⟩ q.2
    · rw [← rd r hr] at q5
      refine ⟨?_, g', p', q2, q3, q4, q5, q6⟩
      rcases q6 with q6 | q6
      · exact Or.inl q6.1
      · exact Or.inr q6.1
  rw [Q3.1, show (30000 : Int32) = ii 30000 from rfl, ii_lt (by omega) (by omega) (by omega) (by omega)]
  refine ⟨fun z3 => tell 8 (eight (fun q => by omega)) (by omega) o13 (by decide), fun z3 => ?_⟩
  have hol : out.length ≤ 30000 := by omega
  refine s_expand Q3 hol (by decide +kernel) (by decide +kernel) l406 (by decide) (by decide) (by decide) (by decide) (fun M4 pl v4 o4 R4 hpl hv4 hex => ?_)
  have o14 := o13.trans (o4.mono (by simp) : Only _ M3 M4)
  have Q4 : Rw M4 (0 + 407) out := Q3.only o4 (by decide) (by decide)
  rcases hv4 with hv4 | ⟨hv4, g, hg1, hg2, hg3⟩
  · rw [hv4]
    refine ⟨fun q => absurd rfl q, fun _ => tell 8 (eight (fun q => ?_)) (by omega) o14 (by decide)⟩
    obtain ⟨-, g, p, q1, q2, q3, q4⟩ := q
    have := (hex g p q1 q2 q4 q3).1
    rw [hv4] at this
    exact absurd this (by decide)
  rw [hv4]
  refine ⟨fun _ => ?_, fun q => absurd q (by decide)⟩
  show Wp_Ro_at (0 + 407) (ii 2) M4 _
  refine s_at Q4 (by omega) (by omega) ?_
  rw [hg3, show (128 : Int32) = ii 128 from rfl, ii_sub, show ((128 : Int) + (g : Int) - 128) = (g : Int) by omega]
  have heb := enc_bound (g := g) (bs := pl) hg1 hg2 hpl
  refine s_squeeze R4 hg1 hg2 hpl (by decide +kernel) (by decide +kernel) (by decide +kernel) (by rw [l412]; omega) (by decide) (by decide) (by decide) (by decide) (by decide) (fun M5 o5 R5 => ?_)
  have o15 := o14.trans (o5.mono (by simp) : Only _ M4 M5)
  have Q5 : Rw M5 (0 + 407) out := Q4.only o5 (by decide) (by decide)
  have P5 : Rw M5 (0 + 405) pl := R4.only o5 (by decide) (by decide)
  refine s_same R5 Q5 ?_
  by_cases hsame2 : press g pl = out
  rotate_left
  · rw [if_neg hsame2]
    refine ⟨fun q => absurd rfl q, fun _ => tell 8 (eight (fun q => ?_)) (by omega) o15 (by decide)⟩
    obtain ⟨-, g', p, q1, q2, q3, q4⟩ := q
    have hp := (hex g' p q1 q2 q4 q3).2
    have hgg : g' = g := by
      have e2 : out[2]? = some (UInt8.ofNat (128 + g')) := by rw [q4]; rfl
      have hl3 : 3 ≤ out.length := by rw [q4, press_len]; omega
      rw [List.getElem?_eq_getElem (by omega)] at e2
      rw [show (2 : Int) = ((2 : Nat) : Int) from rfl, gt_in (show 2 < out.length by omega), Option.some.inj e2, UInt8.toNat_ofNat'] at hg3
      omega
    exact hsame2 (by rw [hp, ← hgg, q4])
  rw [if_pos hsame2]
  refine ⟨fun _ => ?_, fun q => absurd q (by decide)⟩
  obtain ⟨hc90, g', p', w1, w2, w3, w4, w5⟩ := low g pl hg1 hg2 hpl hsame2.symm hol
  clear eight low hU six
  have hpp : pl = p' := (hex g' p' w1 w2 w4 w3).2
  rw [← hpp] at w5
  obtain ⟨s1, s2, s3, s4, s5, s6⟩ := stay o15 (by decide)
  have hd5 : M5.2.2 0 3 = d := by rw [s3]; exact hd
  rintro r16 rfl
  rw [hd5]
  refine ⟨hdT.facts.2.2.1, hdT.facts.2.2.2.1, ?_⟩
  refine s_Ar_read hdT s6 P5 hpl (by rcases hyd with q | q <;> omega) (fun M6 v6 T6 F6 I6 V6 hv6 hg6 => ?_)
  have F06 : FrU M M6 := s1.trans (F6.frU hdd)
  have B6 : BoI M6 (0 + 392) of B := s4.frm (S := (List.range 413).filter (fun k => decide (d ≤ k ∧ k < d + 127))) (fun k hk => F6 k (by
    rcases Nat.lt_or_ge k d with q | q
    · exact Or.inl q
    · rcases Nat.lt_or_ge k (d + 127) with q2 | q2
      · exact absurd (List.mem_filter.mpr ⟨List.mem_range.mpr (by omega), by simp; omega⟩) hk
      · exact Or.inr q2)) (fun j hj q => by
      have := (List.mem_filter.mp q).2
      simp at this
      omega)
  have Y6 : TrI M6 y Y := s5.frT F6 (by rcases hyd with q | q <;> omega)
  have z6 : M6.1 0 = M.1 0 := ((F6 0 (by omega)).1).trans s2
  have r6 : M6.2.2 0 = M.2.2 0 := ((F6 0 (by omega)).2.2).trans s3
  have nine : c = 9 → post 9 M6 := fun h9 => by
    have := k1 M6 T6 (by omega) F06 z6 r6 B6 Y6 I6
    rw [h9] at this
    exact this
  have mk9 : (∀ T0, TOk T0 → smallT T0 → NFT T0 → pl = arc T0 → False) → c = 9 := by
    intro hn
    rcases w5 with w5 | w5
    · exact w5.1
    · exact (hn T w5.2.1 w5.2.2.1 w5.2.2.2.1 w5.2.2.2.2).elim
  rcases hv6 with hv6 | ⟨hv6, hne⟩
  · rw [hv6]
    refine ⟨fun q => absurd rfl q, fun _ => nine (mk9 (fun T0 a1 a2 a3 a4 => ?_))⟩
    have := (hg6 T0 a1 a2 a3 a4).1
    rw [hv6] at this
    exact absurd this (by decide)
  rw [hv6]
  refine ⟨fun _ => ?_, fun q => absurd q (by decide)⟩
  rintro r19 rfl
  have hd6 : M6.2.2 0 3 = d := by rw [r6]; exact hd
  rw [hd6]
  refine ⟨hdT.facts.2.2.1, hdT.facts.2.2.2.1, ?_⟩
  have P6 : Rw M6 (0 + 405) pl := P5.frT F6 (by omega) (by omega)
  refine s_Ar_write hdT I6 V6 (by rw [l412]; omega) (by rcases hyd with q | q <;> omega) (fun M7 A o7 hA R7 => ?_)
  have P7 : Rw M7 (0 + 405) pl := P6.only o7 (by decide) (by decide)
  have F07 : FrU M M7 := F06.trans (o7.frU (by decide))
  have B7 : BoI M7 (0 + 392) of B := B6.frm o7.frm (by decide)
  have Y7 : TrI M7 y Y := Y6.frm o7.frm (out7 y hyy)
  have I7 : TrI M7 d T6 := I6.frm o7.frm (out7 d hdd)
  have z7 : M7.1 0 = M.1 0 := (o7.1 0 (by decide)).trans z6
  have r7 : M7.2.2 0 = M.2.2 0 := by rw [o7.2]; exact r6
  refine s_same R7 P7 ?_
  by_cases hsame3 : A = pl
  rotate_left
  · rw [if_neg hsame3]
    refine ⟨fun q => absurd rfl q, fun _ => ?_⟩
    have h9 : c = 9 := mk9 (fun T0 a1 a2 a3 a4 => by
      have hT6 := (hg6 T0 a1 a2 a3 a4).2
      rcases hA with hA | hA
      · exact hsame3 (by rw [hA.2, hT6, a4])
      · exact hA.1 (by rw [hT6]; exact a2))
    have := k1 M7 T6 (by omega) F07 z7 r7 B7 Y7 I7
    rw [h9] at this
    exact this
  rw [if_pos hsame3]
  refine ⟨fun _ => ?_, fun q => absurd q (by decide)⟩
  have hAs : smallT T6 ∧ A = arc T6 := by
    rcases hA with hA | hA
    · exact hA
    · exact absurd (hsame3.symm.trans hA.2) hne
  have hc0 : c = 0 ∧ TOk T ∧ smallT T ∧ NFT T ∧ pl = arc T := by
    rcases w5 with w5 | w5
    · exfalso
      obtain ⟨n1, n2, n3, n4⟩ := nrm_good V6 hAs.1
      exact w5.2 ⟨nrm T6, n1, n2, n3, by rw [n4, ← hAs.2, hsame3]⟩
    · exact w5
  have hT6 : T6 = T := (hg6 T hc0.2.1 hc0.2.2.1 hc0.2.2.2.1 hc0.2.2.2.2).2
  subst hT6
  unfold Wp_Mc_swapYours
  rintro r1 rfl
  have hyT : isT y := by rcases hyd with q | q; exact Or.inr (Or.inl q.1); exact Or.inr (Or.inr q.1)
  have hy7 : M7.2.2 0 2 = y := by rw [r7]; exact hy
  have hd7 : M7.2.2 0 3 = d := by rw [r7]; exact hd
  rw [hy7]
  refine ⟨hyT.facts.2.2.1, hyT.facts.2.2.2.1, ?_⟩
  rintro r2 rfl
  rw [hd7]
  refine ⟨hdT.facts.2.2.1, hdT.facts.2.2.2.1, ?_⟩
  rintro M8 h8 M9 h9
  have e9 : M9.1 = M7.1 ∧ M9.2.1 = M7.2.1 ∧ (∀ k, k ≠ 0 → M9.2.2 k = M7.2.2 k) ∧ M9.2.2 0 2 = d ∧ M9.2.2 0 3 = y := by
    refine ⟨by rw [h9, h8]; rfl, by rw [h9, h8]; rfl, fun k hk => by rw [h9, zR_o hk, h8, zR_o hk], ?_, ?_⟩
    · rw [h9, zR_g, if_neg (by decide), h8, zR_g, if_pos ⟨rfl, rfl⟩]
    · rw [h9, zR_g, if_pos ⟨rfl, rfl⟩]
  refine s_Bo_wipe' (by decide +kernel) (fun M10 o10 I10 => ?_)
  have F9 : FrU M7 M9 := fun k hk => ⟨by rw [e9.1], by rw [e9.2.1], e9.2.2.1 k (by omega)⟩
  refine k0 M10 hc0.1 hc0.2.1 ((F07.trans F9).trans (o10.frU (by decide))) (by rw [o10.1 0 (by decide), e9.1]; exact z7) (by rw [o10.2]; exact e9.2.2.2.1) (by rw [o10.2]; exact e9.2.2.2.2) I10 ?_ ?_
  · refine I7.same (fun k h1 h2 => ⟨?_, ?_⟩)
    · rw [o10.1 k (out10 d hdd k h1 h2).1, e9.1]
    · rw [o10.2]; exact e9.2.2.1 k (out10 d hdd k h1 h2).2
  · refine Y7.same (fun k h1 h2 => ⟨?_, ?_⟩)
    · rw [o10.1 k (out10 y hyy k h1 h2).1, e9.1]
    · rw [o10.2]; exact e9.2.2.1 k (out10 y hyy k h1 h2).2
