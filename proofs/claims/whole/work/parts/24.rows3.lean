/-- rows in order: below 0, 0, above 0 -/
def cmpB : List UInt8 → List UInt8 → Int
  | [], b => -(b.length : Int)
  | x :: a, [] => ((x :: a).length : Int)
  | x :: a, y :: b => if x = y then cmpB a b else (x.toNat : Int) - y.toNat
theorem cmpB_cons (x y : UInt8) (a b : List UInt8) : cmpB (x :: a) (y :: b) = if x = y then cmpB a b else (x.toNat : Int) - y.toNat := rfl
theorem cmpB_rng : ∀ (a b : List UInt8), -(b.length : Int) - 255 ≤ cmpB a b ∧ cmpB a b ≤ a.length + 255
  | [], b => by simp [cmpB]; omega
  | x :: a, [] => by simp [cmpB]; omega
  | x :: a, y :: b => by
    unfold cmpB
    have := cmpB_rng a b
    have hx := UInt8.toNat_lt x
    have hy := UInt8.toNat_lt y
    by_cases h : x = y
    · rw [if_pos h]; simp; omega
    · rw [if_neg h]; simp; omega
theorem cmpB_zero : ∀ (a b : List UInt8), cmpB a b = 0 ↔ a = b
  | [], [] => by simp [cmpB]
  | [], y :: b => by simp [cmpB]; omega
  | x :: a, [] => by simp [cmpB]; omega
  | x :: a, y :: b => by
    unfold cmpB
    by_cases h : x = y
    · rw [if_pos h, cmpB_zero a b, h]; simp
    · rw [if_neg h]
      constructor
      · intro q
        exact absurd (UInt8.toNat_inj.mp (by omega)) h
      · intro q
        cases q
        exact absurd rfl h
theorem cmpB_anti : ∀ (a b : List UInt8), cmpB b a = -cmpB a b
  | [], [] => by simp [cmpB]
  | [], y :: b => by simp [cmpB]
  | x :: a, [] => by simp [cmpB]
  | x :: a, y :: b => by
    unfold cmpB
    by_cases h : x = y
    · rw [if_pos h, if_pos h.symm, cmpB_anti a b]
    · rw [if_neg h, if_neg (fun q => h q.symm)]; omega
theorem cmpB_trans : ∀ (a b c : List UInt8), cmpB a b < 0 → cmpB b c < 0 → cmpB a c < 0
  | [], [], c => by simp [cmpB]
  | [], y :: b, [] => by intro _ h; simp [cmpB] at h; omega
  | [], y :: b, z :: c => by simp [cmpB]
  | x :: a, [], c => by intro h; simp [cmpB] at h; omega
  | x :: a, y :: b, [] => by intro _ h; simp [cmpB] at h; omega
  | x :: a, y :: b, z :: c => by
    unfold cmpB
    have ih := cmpB_trans a b c
    have ne : ∀ {p q : UInt8}, p ≠ q → p.toNat ≠ q.toNat := fun h e => h (UInt8.toNat_inj.mp e)
    by_cases h1 : x = y
    · subst h1
      by_cases h2 : x = z
      · subst h2
        simpa using ih
      · rw [if_pos rfl, if_neg h2, if_neg h2]
        intro _ h; exact h
    · rw [if_neg h1]
      by_cases h2 : y = z
      · subst h2
        rw [if_neg h1]
        intro h _; exact h
      · rw [if_neg h2]
        intro h3 h4
        by_cases h5 : x = z
        · subst h5; omega
        · rw [if_neg h5]; omega
section ROWS4
variable {M : zM} {r : Nat} {bs : List UInt8}
theorem s_order {a : Nat} {cs : List UInt8} {n : Nat} {post : Int32 → zM → Prop} (h : Rw M r bs) (ha : Rw M a cs) (hn : n ≤ cs.length) (k : post (ii (cmpB bs (cs.take n))) M) : Wp_Ro_order r a (ii n) M post := by
  have hl := h.len
  have hla := ha.len
  have hle := h.2.1
  have hlea := ha.2.1
  unfold Wp_Ro_order
  intro K hK
  suffices H : ∀ d i, d + i = bs.length → cmpB bs (cs.take n) = cmpB (bs.drop i) ((cs.take n).drop i) → i ≤ n → K (ii i) M by
    exact H bs.length 0 (by simp) (by simp) (by omega)
  intro d
  induction d with
  | zero =>
    intro i hi hc hin
    refine hK _ _ ⟨fun _ => ?_, fun q => ?_⟩
    · rw [h.1, ii_sub]
      rw [hc, List.drop_eq_nil_of_le (by omega)] at k
      have e : cmpB [] ((cs.take n).drop i) = (bs.length : Int) - n := by
        simp only [cmpB, List.length_drop, List.length_take]
        omega
      rw [e] at k
      exact k
    · rw [h.1, ii_le (by omega) (by omega) (by omega) (by omega)] at q
      omega
  | succ d ih =>
    intro i hi hc hin
    refine hK _ _ ⟨fun q => ?_, fun q => ?_⟩
    · rw [h.1, ii_le (by omega) (by omega) (by omega) (by omega)] at q
      omega
    · rw [h.1, ha.1, ii_sub, ii_le (by omega) (by omega) (by omega) (by omega), ii_le (by omega) (by omega) (by omega) (by omega)]
      have hb : bs.drop i = bs[i] :: bs.drop (i + 1) := (List.drop_eq_getElem_cons (by omega))
      refine ⟨fun q2 => ?_, fun q2 => ⟨fun q3 => by omega, fun q3 => ?_⟩⟩
      · have e : (cs.take n).drop i = [] := List.drop_eq_nil_of_le (by rw [List.length_take]; omega)
        rw [hc, e, hb] at k
        have e2 : cmpB (bs[i] :: bs.drop (i + 1)) [] = (bs.length : Int) - n := by
          simp only [cmpB, List.length_cons, List.length_drop]
          omega
        rw [e2] at k
        exact k
      · have hci : i < cs.length := by omega
        refine ⟨ii_in (by omega) (by omega) (by omega), ii_in (by omega) (by omega) (by omega), ?_⟩
        rintro x rfl
        have hcd : (cs.take n).drop i = cs[i] :: (cs.take n).drop (i + 1) := by
          rw [List.drop_eq_getElem_cons (by rw [List.length_take]; omega)]
          simp
        rw [ii_nat (by omega) (by omega), Int.toNat_natCast, h.2.2 i (by omega), ha.2.2 i hci, show (255 : Int32) = ii 255 from rfl, sb_and, sb_and, ii_sub, show (0 : Int32) = ii 0 from rfl]
        have hx := UInt8.toNat_lt bs[i]
        have hy := UInt8.toNat_lt cs[i]
        rw [ii_eq (by omega) (by omega) (by omega) (by omega)]
        rw [hb, hcd] at hc
        rw [cmpB_cons] at hc
        refine ⟨fun q4 => ?_, fun q4 => ?_⟩
        · rintro x rfl
          rw [show (1 : Int32) = ii 1 from rfl, ii_add]
          rw [if_pos (UInt8.toNat_inj.mp (by omega))] at hc
          exact ih (i + 1) (by omega) hc (by omega)
        · rw [if_neg (fun c => q4 (by rw [c]; omega))] at hc
          rw [hc] at k
          exact k
theorem s_same {a : Nat} {cs : List UInt8} {post : Int32 → zM → Prop} (h : Rw M r bs) (ha : Rw M a cs) (k : post (if bs = cs then 1 else 0) M) : Wp_Ro_same r a M post := by
  have hl := h.len
  have hla := ha.len
  unfold Wp_Ro_same
  rw [h.1, ha.1, ii_eq (by omega) (by omega) (by omega) (by omega)]
  refine ⟨fun q => ?_, fun q => ?_⟩
  · rw [if_neg (fun c => q (by rw [c]))] at k
    exact k
  · refine s_order h ha (Nat.le_refl _) ?_
    have hc := cmpB_rng bs cs
    rw [List.take_length, show (0 : Int32) = ii 0 from rfl, ii_eq (by omega) (by omega) (by omega) (by omega), cmpB_zero]
    refine ⟨fun q2 => ?_, fun q2 => ?_⟩
    · rw [if_neg q2] at k; exact k
    · rw [if_pos q2] at k; exact k
/-- digits of base 8 -/
def oct (v : Nat) : Nat → List UInt8
  | 0 => []
  | d + 1 => UInt8.ofNat (48 + v / 8 ^ d % 8) :: oct v d
theorem oct_len (v : Nat) : ∀ d, (oct v d).length = d
  | 0 => rfl
  | d + 1 => by simp [oct, oct_len v d]
theorem s_putOctal {v d : Nat} {post : zM → Prop} (hv : v ≤ 2147483647) (hd : d ≤ 11) (h : Rw M r bs) (hroom : bs.length + d ≤ ln (r + 1)) (k : ∀ M', Only [r, r + 1] M M' → Rw M' r (bs ++ oct v d) → post M') : Wp_Ro_putOctal r (ii v) (ii d) M post := by
  unfold Wp_Ro_putOctal
  intro K hK
  rintro x rfl
  suffices H : ∀ d' cs M1, d' ≤ d → cs.length + d' = bs.length + d → Only [r, r + 1] M M1 → Rw M1 r cs → cs ++ oct v d' = bs ++ oct v d → K (ii (3 * ((d' : Int) - 1))) M1 by
    rw [show (3 : Int32) = ii 3 from rfl, show (1 : Int32) = ii 1 from rfl, ii_sub, ii_mul]
    exact H d bs M (Nat.le_refl _) rfl Only.rf h rfl
  intro d'
  induction d' with
  | zero =>
    intro cs M1 _ hlen ho hR he
    refine hK _ _ ⟨fun _ => ?_, fun q => ?_⟩
    · rw [← he] at k
      exact k M1 ho (by simpa [oct] using hR)
    · rw [ii_nneg (by omega) (by omega)] at q
      omega
  | succ d' ih =>
    intro cs M1 hdd hlen ho hR he
    refine hK _ _ ⟨fun q => ?_, fun _ => ?_⟩
    · rw [ii_nneg (by omega) (by omega)] at q
      omega
    · have e1 : (3 * (((d' + 1 : Nat) : Int) - 1)) = ((3 * d' : Nat) : Int) := by omega
      rw [e1, ii_ushr (by omega), show ((v : Int) % 4294967296) = (v : Int) by omega]
      have e2 : (v : Int) / 2 ^ (3 * d') = ((v / 8 ^ d' : Nat) : Int) := by
        have e9 : (2 : Int) ^ (3 * d') = ((8 ^ d' : Nat) : Int) := by
          rw [show (8 : Nat) = 2 ^ 3 from rfl, ← Nat.pow_mul]
          simp
        rw [e9, Int.natCast_ediv]
      have e3 : ii ((v / 8 ^ d' : Nat) : Int) &&& 7 = ii ((v / 8 ^ d' % 8 : Nat) : Int) := by
        have := ii_mask ((v / 8 ^ d' : Nat) : Int) 3 (by decide)
        rw [show (2 ^ 3 - 1 : Int) = 7 from rfl] at this
        rw [show (7 : Int32) = ii 7 from rfl, this]
        rfl
      rw [e2, e3, show (48 : Int32) = ii 48 from rfl, ii_add]
      refine s_put hR (by omega) (fun M2 ho2 hR2 => ?_)
      rintro x rfl
      rw [show ((48 : Int) + ((v / 8 ^ d' % 8 : Nat) : Int)) = ((48 + v / 8 ^ d' % 8 : Nat) : Int) by omega, b8_nat] at hR2
      rw [show (-3 : Int32) = ii (-3) from rfl, ii_add, show (((3 * d' : Nat) : Int) + -3) = 3 * ((d' : Int) - 1) by omega]
      refine ih _ M2 (by omega) ?_ (ho.trans ho2) hR2 ?_
      · rw [List.length_append]
        simp
        omega
      · rw [← he]
        simp [oct]
end ROWS4
