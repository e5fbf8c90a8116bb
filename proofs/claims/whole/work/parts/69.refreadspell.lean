/-! Spelled text read back: the reference's side. -/
theorem lines_ge (q : List UInt8) : 4 * q.length ≤ 3 * (lines q).length := by
  by_cases h : q = []
  · subst h
    simp
  · have h0 : 0 < q.length := List.length_pos_iff.mpr h
    rw [lines_ne h, List.length_append, line_len, List.length_take]
    have ih := lines_ge (q.drop 45)
    rw [List.length_drop] at ih
    omega
termination_by q.length
decreasing_by
  rw [List.length_drop]
  omega
theorem spell_ge {q : List UInt8} (h : (spell q).length ≤ 48000) : q.length ≤ 36000 := by
  have h1 := lines_ge q
  unfold spell at h
  simp only [List.length_append] at h
  omega
def accN (tx : List UInt8) (p : Nat) : Nat → Nat
  | 0 => 0
  | t + 1 => accN tx p t * 64 + sixN tx (p + t)
theorem accN_lt (tx : List UInt8) (p : Nat) : ∀ t, accN tx p t < 64 ^ t
  | 0 => by simp [accN]
  | t + 1 => by
    have h1 := accN_lt tx p t
    have h2 := sixN_le tx (p + t)
    show accN tx p t * 64 + sixN tx (p + t) < 64 ^ (t + 1)
    rw [Nat.pow_succ]
    omega
theorem acc_dec (tx : List UInt8) (s m i : Nat) (hi : i < 3) : UInt8.ofNat (accN tx (s + 4 * m) 4 / 2 ^ (16 - 8 * i)) = UInt8.ofNat (decN tx s (3 * m + i)) := by
  have g0 := sixN_le tx (s + 4 * m)
  have g1 := sixN_le tx (s + 4 * m + 1)
  have g2 := sixN_le tx (s + 4 * m + 2)
  have g3 := sixN_le tx (s + 4 * m + 3)
  apply UInt8.toNat_inj.mp
  rw [UInt8.toNat_ofNat', UInt8.toNat_ofNat']
  unfold decN
  rw [show (3 * m + i) / 3 = m by omega, show (3 * m + i) % 3 = i by omega, show s + m * 4 = s + 4 * m by omega]
  have e : accN tx (s + 4 * m) 4 = (((0 * 64 + sixN tx (s + 4 * m)) * 64 + sixN tx (s + 4 * m + 1)) * 64 + sixN tx (s + 4 * m + 2)) * 64 + sixN tx (s + 4 * m + 3) := rfl
  rw [e]
  have hm : i = 0 ∨ i = 1 ∨ i = 2 := by omega
  rcases hm with q | q | q
  · subst q
    show _ / 65536 % 256 = (sixN tx (s + 4 * m) * 64 + sixN tx (s + 4 * m + 1)) / 16 % 256
    omega
  · subst q
    show _ / 256 % 256 = (sixN tx (s + 4 * m + 1) * 64 + sixN tx (s + 4 * m + 2)) / 4 % 256
    omega
  · subst q
    show _ / 1 % 256 = (sixN tx (s + 4 * m + 2) * 64 + sixN tx (s + 4 * m + 3)) / 1 % 256
    omega
theorem sb_six (b : UInt8) : (sb b - 32) &&& 63 = ii (((b.toNat + 32) % 64 : Nat) : Int) := u8_all (P := fun b => (sb b - 32) &&& 63 = ii (((b.toNat + 32) % 64 : Nat) : Int)) (by decide +kernel) b
theorem s_unspell {M : zM} {tx : List UInt8} {post : zM → Prop} (h : Cw M 47 (413 + 32) tx) (htx : tx.length ≤ 48000)
    (k : ∀ M' out, OnlyR [45] [413 + 31] M M' → Cw M' 45 (413 + 31) out → out.length ≤ 36000 → (∀ q, tx = spell q → out = q) → post M') : Wp_Mo_unspell 413 M post := by
  have l32 : ln (413 + 32) = 56000 := by decide +kernel
  have l31 : ln (413 + 31) = 56000 := by decide +kernel
  have keep : ∀ {M'}, OnlyR [45] [413 + 31] M M' → Cw M' 47 (413 + 32) tx := fun o => h.only o (by decide) (by decide) (by decide)
  unfold Wp_Mo_unspell
  intro K10 K71 K87 K125 h10 h71 h87 h125
  rintro M1 h1
  have o1 : OnlyR [45] [413 + 31] M M1 := by rw [h1]; exact OnlyR.rf.fld (by simp)
  have R1 : Cw M1 45 (413 + 31) [] := ⟨by rw [h1, zI_g, if_pos ⟨rfl, rfl⟩]; rfl, by simp, fun i hi => absurd hi (by simp)⟩
  have stop : ∀ (s : Int32) (M2 : zM) (out : List UInt8), OnlyR [45] [413 + 31] M M2 → Cw M2 45 (413 + 31) out → out.length ≤ 36000 → (∀ q, tx = spell q → out = q) → K10 s 0 M2 := fun s M2 out o2 R2 hl hq => h10 _ _ _ ⟨fun _ => k M2 out o2 R2 hl hq, fun z => absurd rfl z⟩
  suffices H : ∀ (m s : Nat) (M2 : zM) (out : List UInt8), s + m = 48000 + 400 → OnlyR [45] [413 + 31] M M2 → Cw M2 45 (413 + 31) out → 4 * out.length ≤ 3 * s → RdI tx 1000000 s out → (s ≤ tx.length ∨ out.length ≤ 36000) → K10 (ii s) 1 M2 from H (48400 - 15) 15 M1 [] rfl o1 R1 (by simp) (fun q hq _ => ⟨q, rfl, by rw [hq]; exact spell_drop q⟩) (Or.inr (by simp))
  intro m
  induction m using Nat.strongRecOn with
  | ind m ih =>
    intro s M2 out hs o2 R2 hb h2 hle
    have A2 := keep o2
    have hol : out.length ≤ 36000 := by omega
    have big : ∀ q, tx = spell q → q.length ≤ 1000000 := fun q hq => by
      have := spell_ge (q := q) (by rw [← hq]; exact htx)
      omega
    refine h10 _ _ _ ⟨fun z => absurd z (by decide), fun _ => ?_⟩
    rw [A2.1, ii_le (by omega) (by omega) (by omega) (by omega)]
    refine ⟨fun z => k M2 out o2 R2 hol (fun q hq => ?_), fun z => ⟨ii_in (by omega) (by omega) (by omega), ?_⟩⟩
    · obtain ⟨rest, e1, e2⟩ := h2 q hq (big q hq)
      rw [List.drop_eq_nil_of_le (by omega)] at e2
      have := congrArg List.length e2
      unfold spTl at this
      simp only [List.length_append, List.length_cons, List.length_nil] at this
      omega
    · have hin : s < tx.length := by omega
      rw [ii_nat (by omega) (by omega), Int.toNat_natCast, A2.2.2 s hin]
      have hz := sb_ii tx[s]
      have hb8 := UInt8.toNat_lt tx[s]
      obtain ⟨z0, hz0⟩ : ∃ z0 : Int, z0 = (if tx[s].toNat < 128 then (tx[s].toNat : Int) else tx[s].toNat - 256) := ⟨_, rfl⟩
      have hzr : -128 ≤ z0 ∧ z0 ≤ 127 := by rw [hz0]; split <;> omega
      rw [← hz0] at hz
      rw [hz, show (32 : Int32) = ii 32 from rfl, ii_sub, show (1 : Int32) = ii 1 from rfl, ii_add, show ((s : Int) + 1) = ((s + 1 : Nat) : Int) by omega]
      have first : ∀ rest, tx.drop s = lines rest ++ spTl → (rest = [] ∧ z0 = 96) ∨ (rest ≠ [] ∧ z0 - 32 = (rest.take 45).length ∧ tx.drop (s + 1) = quads (rest.take 45) ++ ([10] ++ (lines (rest.drop 45) ++ spTl))) := by
        intro rest e
        have g0 : (tx.drop s)[0]? = tx[s]? := by rw [List.getElem?_drop]; rfl
        rw [List.getElem?_eq_getElem hin] at g0
        have g1 : tx.drop (s + 1) = (tx.drop s).drop 1 := by rw [List.drop_drop]
        by_cases hr : rest = []
        · refine Or.inl ⟨hr, ?_⟩
          rw [e, hr, lines_nil] at g0
          have g2 : tx[s] = 96 := (Option.some.inj g0).symm
          rw [hz0, g2]
          rfl
        · refine Or.inr ⟨hr, ?_, ?_⟩
          · rw [e, lines_ne hr] at g0
            have g2 : tx[s] = let6 (rest.take 45).length := (Option.some.inj g0).symm
            have hp := List.length_pos_iff.mpr hr
            have hlm := let6_min (n := (rest.take 45).length) (by rw [List.length_take]; omega) (by rw [List.length_take]; omega)
            rw [hz0, g2, hlm, if_pos (by rw [List.length_take]; omega)]
            omega
          · rw [g1, e, lines_ne hr]
            unfold line
            simp
      rintro x rfl y rfl
      have no : (∀ rest, tx.drop s = lines rest ++ spTl → rest = []) → K71 (ii ((s + 1 : Nat) : Int)) 0 (ii (z0 - 32)) 0 M2 := by
        intro hr
        have fin : ∀ x : Int32, K10 x 0 M2 := fun x => stop x M2 out o2 R2 hol (fun q hq => by
          obtain ⟨rest, e1, e2⟩ := h2 q hq (big q hq)
          rw [hr rest e2, List.append_nil] at e1
          exact e1.symm)
        exact h71 _ _ _ _ _ ⟨fun _ x _ => fin x, fun _ => ⟨fun _ x _ => fin x, fun z => absurd rfl z⟩⟩
      have out1 : (z0 - 32 < 1 ∨ 45 < z0 - 32) → ∀ rest, tx.drop s = lines rest ++ spTl → rest = [] := by
        intro hc rest e
        rcases first rest e with ⟨f1, -⟩ | ⟨f1, f2, -⟩
        · exact f1
        · have hp := List.length_pos_iff.mpr f1
          rw [List.length_take] at f2
          omega
      rw [show (45 : Int32) = ii 45 from rfl, ii_lt (by omega) (by omega) (by omega) (by omega), ii_lt (by omega) (by omega) (by omega) (by omega)]
      refine ⟨fun c => no (out1 (Or.inl c)), fun c1 => ⟨fun c => no (out1 (Or.inr c)), fun c2 => ?_⟩⟩
      obtain ⟨N, hN⟩ := Int.eq_ofNat_of_zero_le (show 0 ≤ z0 - 32 by omega)
      rw [hN] at no ⊢
      have en : ii ((s + 1 : Nat) : Int) + (ii (N : Int) + 2) / 3 * 4 = ii ((s + 1 + (N + 2) / 3 * 4 : Nat) : Int) := by
        rw [show (2 : Int32) = ii 2 from rfl, show (3 : Int32) = ii 3 from rfl, show (4 : Int32) = ii 4 from rfl, ii_add, ii_div (by omega) (by omega) (by omega) (by omega), ii_mul, ii_add]
        congr 1
      rw [en, ii_le (by omega) (by omega) (by omega) (by omega)]
      refine ⟨fun c => no (fun rest e => ?_), fun c => ?_⟩
      · rcases first rest e with ⟨f1, -⟩ | ⟨f1, f2, f3⟩
        · exact f1
        · have hlen := congrArg List.length f3
          rw [List.length_drop, List.length_append, quads_len] at hlen
          simp only [List.length_append, List.length_cons, List.length_nil] at hlen
          have : (rest.take 45).length = N := by omega
          rw [this] at hlen
          omega
      · have hroom : s + 1 + (N + 2) / 3 * 4 < tx.length := by omega
        have six_at : ∀ j (hj : j < tx.length), (sb tx[j] - 32) &&& 63 = ii (sixN tx j : Nat) := by
          intro j hj
          rw [sb_six]
          congr 2
          unfold sixN
          rw [gt_in hj]
          omega
        suffices H2 : ∀ (mm g : Nat) (M3 : zM), g + mm = (N + 2) / 3 → OnlyR [45] [413 + 31] M M3 → Cw M3 45 (413 + 31) (out ++ decs8 tx (s + 1) (min (3 * g) N)) → K71 (ii ((s + 1 + 4 * g : Nat) : Int)) (ii 1) (ii (N : Int)) (ii ((3 * g : Nat) : Int)) M3 from
          H2 _ 0 M2 (Nat.zero_add _) o2 (by
            have : min (3 * 0) N = 0 := by omega
            rw [this]
            simpa [decs8] using R2)
        intro mm
        induction mm with
        | zero =>
          intro g M3 hg o3 R3
          refine h71 _ _ _ _ _ ⟨fun _ => ?_, fun z => absurd (by rw [ii_le (by omega) (by omega) (by omega) (by omega)]; omega) z⟩
          rintro x rfl
          rw [show (1 : Int32) = ii 1 from rfl, ii_add, show (((s + 1 + 4 * g : Nat) : Int) + 1) = ((s + 1 + 4 * g + 1 : Nat) : Int) by omega]
          have emin : min (3 * g) N = N := by omega
          rw [emin] at R3
          refine ih (m - (4 * g + 2)) (by omega) _ M3 _ (by omega) o3 R3 (by rw [List.length_append, decs8_len]; omega) (fun q hq hq2 => ?_) (Or.inl (by omega))
          obtain ⟨rest, e1, e2⟩ := h2 q hq hq2
          rcases first rest e2 with ⟨f1, f2⟩ | ⟨f1, f2, f3⟩
          · omega
          · have hNl : (rest.take 45).length = N := by omega
            refine ⟨rest.drop 45, ?_, ?_⟩
            · rw [← hNl, decs8_eq f3, List.append_assoc, List.take_append_drop]
              exact e1
            · have e3 : tx.drop (s + 1 + 4 * g + 1) = (tx.drop (s + 1)).drop (4 * g + 1) := by rw [List.drop_drop]; congr 1
              rw [e3, f3]
              have hql := quads_len (rest.take 45)
              rw [hNl] at hql
              rw [show 4 * g + 1 = (quads (rest.take 45) ++ [10]).length by rw [List.length_append, hql, List.length_cons, List.length_nil]; omega, ← List.append_assoc, List.drop_left]
        | succ mm ih2 =>
          intro g M3 hg o3 R3
          have hg3 : 3 * g < N := by omega
          have emin : min (3 * g) N = 3 * g := by omega
          rw [emin] at R3
          have A3 := keep o3
          refine h71 _ _ _ _ _ ⟨fun z => ?_, fun _ => ⟨fun z => absurd z (by decide), fun _ => ?_⟩⟩
          · rw [ii_le (by omega) (by omega) (by omega) (by omega)] at z
            omega
          · suffices H3 : ∀ (t : Nat), t ≤ 4 → K87 (ii ((s + 1 + 4 * g + (4 - t) : Nat) : Int)) (ii 1) (ii (N : Int)) (ii ((3 * g : Nat) : Int)) (ii (accN tx (s + 1 + 4 * g) (4 - t) : Nat)) (ii ((4 - t : Nat) : Int)) M3 from H3 4 (Nat.le_refl _)
            intro t
            induction t with
            | zero =>
              intro _
              refine h87 _ _ _ _ _ _ _ ⟨fun _ => ?_, fun z => absurd (by decide) z⟩
              have hacc := accN_lt tx (s + 1 + 4 * g) 4
              rw [show (64 : Nat) ^ 4 = 16777216 from rfl] at hacc
              suffices H4 : ∀ (mi i : Nat) (M4 : zM), i + mi = min 3 (N - 3 * g) → OnlyR [45] [413 + 31] M M4 → Cw M4 45 (413 + 31) (out ++ decs8 tx (s + 1) (3 * g + i)) → K125 (ii ((s + 1 + 4 * g + (4 - 0) : Nat) : Int)) (ii 1) (ii (N : Int)) (ii ((3 * g : Nat) : Int)) (ii (accN tx (s + 1 + 4 * g) (4 - 0) : Nat)) (ii (i : Int)) M4 from H4 _ 0 M3 (Nat.zero_add _) o3 R3
              intro mi
              induction mi with
              | zero =>
                intro i M4 hi o4 R4
                have nx : ∀ x : Int32, x = ii ((3 * g : Nat) : Int) + 3 → K71 (ii ((s + 1 + 4 * g + (4 - 0) : Nat) : Int)) (ii 1) (ii (N : Int)) x M4 := by
                  rintro x rfl
                  rw [show (3 : Int32) = ii 3 from rfl, ii_add, show (((3 * g : Nat) : Int) + 3) = ((3 * (g + 1) : Nat) : Int) by omega, show s + 1 + 4 * g + (4 - 0) = s + 1 + 4 * (g + 1) by omega]
                  refine ih2 (g + 1) M4 (by omega) o4 ?_
                  have : min (3 * (g + 1)) N = 3 * g + i := by omega
                  rw [this]
                  exact R4
                refine h125 _ _ _ _ _ _ _ ⟨fun _ => nx, fun z => ⟨fun _ => nx, fun z2 => ?_⟩⟩
                rw [show (3 : Int32) = ii 3 from rfl, ii_le (by omega) (by omega) (by omega) (by omega)] at z
                rw [ii_add, ii_le (by omega) (by omega) (by omega) (by omega)] at z2
                omega
              | succ mi ih4 =>
                intro i M4 hi o4 R4
                have hlen : (out ++ decs8 tx (s + 1) (3 * g + i)).length = out.length + (3 * g + i) := by rw [List.length_append, decs8_len]
                refine h125 _ _ _ _ _ _ _ ⟨fun z => ?_, fun _ => ⟨fun z => ?_, fun _ => ?_⟩⟩
                · rw [show (3 : Int32) = ii 3 from rfl, ii_le (by omega) (by omega) (by omega) (by omega)] at z
                  omega
                · rw [ii_add, ii_le (by omega) (by omega) (by omega) (by omega)] at z
                  omega
                · rw [R4.1, hlen]
                  refine ⟨ii_in (by omega) (by omega) (by omega), ?_⟩
                  have es : ((16 : Int32) - 8 * ii (i : Int)) &&& 31 = ii ((16 - 8 * i : Nat) : Int) := by
                    rw [show (16 : Int32) = ii 16 from rfl, show (8 : Int32) = ii 8 from rfl, ii_mul, ii_sub, show (31 : Int32) = ii 31 from rfl, ii_and31 (by omega) (by omega)]
                    congr 1
                    omega
                  have ev : b8 (ii (accN tx (s + 1 + 4 * g) (4 - 0) : Nat) >>> ii ((16 - 8 * i : Nat) : Int)) = UInt8.ofNat (decN tx (s + 1) (3 * g + i)) := by
                    rw [ii_shr (by omega) (by show _ ≤ ((accN tx (s + 1 + 4 * g) 4 : Nat) : Int); omega) (by show ((accN tx (s + 1 + 4 * g) 4 : Nat) : Int) ≤ _; omega), ← acc_dec tx (s + 1) g i (by omega)]
                    rw [show ((accN tx (s + 1 + 4 * g) (4 - 0) : Nat) : Int) / 2 ^ (16 - 8 * i) = ((accN tx (s + 1 + 4 * g) 4 / 2 ^ (16 - 8 * i) : Nat) : Int) by rw [Int.natCast_ediv]; simp, b8_nat]
                  rw [es, ii_nat (by omega) (by omega), Int.toNat_natCast, nar_b8', ev]
                  rintro M5 rfl M6 h6 x rfl
                  rw [zI_o (by decide), R4.1, hlen, show (1 : Int32) = ii 1 from rfl, ii_add] at h6
                  have hp := R4.put (b := UInt8.ofNat (decN tx (s + 1) (3 * g + i))) (M' := M6) (by decide) (by omega) (by rw [h6, hlen]; rfl)
                  rw [show (1 : Int32) = ii 1 from rfl, ii_add]
                  refine ih4 (i + 1) M6 (by omega) (o4.trans hp.2) ?_
                  rw [show 3 * g + (i + 1) = 3 * g + i + 1 by omega, decs8_succ, ← List.append_assoc]
                  exact hp.1
            | succ t ih3 =>
              intro ht
              have hacc := accN_lt tx (s + 1 + 4 * g) (4 - (t + 1))
              have hacc2 : (64 : Nat) ^ (4 - (t + 1)) ≤ 64 ^ 3 := Nat.pow_le_pow_right (by decide) (by omega)
              rw [show (64 : Nat) ^ 3 = 262144 from rfl] at hacc2
              have hj : s + 1 + 4 * g + (4 - (t + 1)) < tx.length := by omega
              refine h87 _ _ _ _ _ _ _ ⟨fun z => ?_, fun _ => ⟨ii_in (by omega) (by omega) (by omega), ?_⟩⟩
              · rw [show (4 : Int32) = ii 4 from rfl, ii_le (by omega) (by omega) (by omega) (by omega)] at z
                omega
              · rw [ii_nat (by omega) (by omega), Int.toNat_natCast, A3.2.2 _ hj, six_at _ hj]
                rintro x rfl y rfl z rfl
                have g5 := sixN_le tx (s + 1 + 4 * g + (4 - (t + 1)))
                have e4 : 4 - t = 4 - (t + 1) + 1 := by omega
                have eo : (ii (accN tx (s + 1 + 4 * g) (4 - (t + 1)) : Nat) <<< (6 &&& 31)) ||| ii (sixN tx (s + 1 + 4 * g + (4 - (t + 1))) : Nat) = ii (accN tx (s + 1 + 4 * g) (4 - t) : Nat) := by
                  rw [show ((6 : Int32) &&& 31) = ii ((6 : Nat) : Int) from rfl, ii_shl _ (by omega), e4]
                  exact ii_or_add (a := accN tx (s + 1 + 4 * g) (4 - (t + 1))) (k := 6) (by omega)
                rw [eo, show (1 : Int32) = ii 1 from rfl, ii_add, ii_add, show (((s + 1 + 4 * g + (4 - (t + 1)) : Nat) : Int) + 1) = ((s + 1 + 4 * g + (4 - t) : Nat) : Int) by omega, show (((4 - (t + 1) : Nat) : Int) + 1) = ((4 - t : Nat) : Int) by omega]
                exact ih3 (by omega)
